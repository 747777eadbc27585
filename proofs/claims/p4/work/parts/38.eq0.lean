/-! The equations of the methods, by wip/whole/gensh2.py -/
abbrev nP_word : Nat := 9
abbrev nP_isWord : Nat := 10
abbrev nR_isFull : Nat := 11
abbrev nR_add : Nat := 12
abbrev nArrays_copyOf : Nat := 13
abbrev nP_node : Nat := 14
abbrev nT_kindOf : Nat := 15
abbrev nT_handleOf : Nat := 16
abbrev nT_get : Nat := 17
abbrev nT_valueOf : Nat := 18
abbrev nT_placeOf : Nat := 19
abbrev nT_childrenOf : Nat := 20
abbrev nT_parentOf : Nat := 21
abbrev nT_numberOf : Nat := 22
abbrev nT_extraOf : Nat := 23
abbrev nP_child : Nat := 24
abbrev nT_childOf : Nat := 25
abbrev nP_faults : Nat := 26
abbrev nR_faultCount : Nat := 27
abbrev nP_fault : Nat := 28
abbrev nR_faultNumber : Nat := 29
abbrev nR_faultPlace : Nat := 30
abbrev nP_division : Nat := 31
abbrev nT_unitAt : Nat := 32
abbrev nT_isUnit : Nat := 33
abbrev nT_childOfKind : Nat := 34
abbrev nP_depth : Nat := 35
abbrev nT_deepest : Nat := 36
abbrev nP_count : Nat := 37
abbrev nR_wordCount : Nat := 38
abbrev nT_nodeCount : Nat := 39
abbrev nT_unitCount : Nat := 40
abbrev nW_parse : Nat := 41
abbrev nP_parse : Nat := 42
abbrev nR_start : Nat := 43
abbrev nT_start : Nat := 44
abbrev nT_make : Nat := 45
abbrev nC_start : Nat := 46
abbrev nU_start : Nat := 47
abbrev nR_goesOn : Nat := 48
abbrev nC_readClause : Nat := 49
abbrev nR_isKind : Nat := 50
abbrev nC_sectionOrParagraph : Nat := 51
abbrev nR_isReserved : Nat := 52
abbrev nC_requireState : Nat := 53
abbrev nU_state : Nat := 54
abbrev nC_requireThat : Nat := 55
abbrev nR_refuse : Nat := 56
abbrev nC_mayHoldSentences : Nat := 57
abbrev nR_place : Nat := 58
abbrev nR_requireKind : Nat := 59
abbrev nR_value : Nat := 60
abbrev nR_advance : Nat := 61
abbrev nR_skip : Nat := 62
abbrev nT_append : Nat := 63
abbrev nC_enterBody : Nat := 64
abbrev nU_setState : Nat := 65
abbrev nI_readItem : Nat := 66
abbrev nI_keptOpen : Nat := 67
abbrev nI_nameOrFiller : Nat := 68
abbrev nT_set : Nat := 69
abbrev nI_itemClause : Nat := 70
abbrev nI_picture : Nat := 71
abbrev nI_beginIn : Nat := 72
abbrev nI_literals : Nat := 73
abbrev nI_literal : Nat := 74
abbrev nL_operand : Nat := 75
abbrev nR_isOperand : Nat := 76
abbrev nR_kind : Nat := 77
abbrev nI_occurs : Nat := 78
abbrev nL_nameIn : Nat := 79
abbrev nL_namesIn : Nat := 80
abbrev nI_redefines : Nat := 81
abbrev nI_usage : Nat := 82
abbrev nR_require : Nat := 83
abbrev nI_place : Nat := 84
abbrev nS_isNext : Nat := 85
abbrev nC_sentence : Nat := 86
abbrev nS_list : Nat := 87
abbrev nS_statement : Nat := 88
abbrev nS_move : Nat := 89
abbrev nS_begin : Nat := 90
abbrev nL_operandIn : Nat := 91
abbrev nS_add : Nat := 92
abbrev nS_operandsIn : Nat := 93
abbrev nS_scopeEnd : Nat := 94
abbrev nS_ifElse : Nat := 95
abbrev nX_condition : Nat := 96
abbrev nX_conjunction : Nat := 97
abbrev nX_factor : Nat := 98
abbrev nR_isComparingWord : Nat := 99
abbrev nX_goDeeper : Nat := 100
abbrev nR_isSign : Nat := 101
abbrev nR_requireSign : Nat := 102
abbrev nX_relation : Nat := 103
abbrev nX_isComparing : Nat := 104
abbrev nX_conditionName : Nat := 105
abbrev nX_comparing : Nat := 106
abbrev nX_join : Nat := 107
abbrev nS_branch : Nat := 108
abbrev nS_perform : Nat := 109
abbrev nS_times : Nat := 110
abbrev nS_phraseIn : Nat := 111
abbrev nS_varying : Nat := 112
abbrev nS_evaluate : Nat := 113
abbrev nS_when : Nat := 114
abbrev nS_read : Nat := 115
abbrev nS_call : Nat := 116
abbrev nS_display : Nat := 117
abbrev nS_goTo : Nat := 118
abbrev nS_stop : Nat := 119
abbrev nS_compute : Nat := 120
abbrev nX_sum : Nat := 121
abbrev nX_product : Nat := 122
abbrev nX_sumUnit : Nat := 123
abbrev nC_reservedClause : Nat := 124
abbrev nC_identification : Nat := 125
abbrev nU_openCount : Nat := 126
abbrev nU_kind : Nat := 127
abbrev nC_mayEndOrContain : Nat := 128
abbrev nU_isFull : Nat := 129
abbrev nU_handle : Nat := 130
abbrev nC_heading : Nat := 131
abbrev nU_open : Nat := 132
abbrev nC_unitName : Nat := 133
abbrev nU_identify : Nat := 134
abbrev nC_select : Nat := 135
abbrev nC_organization : Nat := 136
abbrev nC_key : Nat := 137
abbrev nC_procedure : Nat := 138
abbrev nC_beginDeclaratives : Nat := 139
abbrev nC_endSomething : Nat := 140
abbrev nC_endDeclaratives : Nat := 141
abbrev nC_endUnit : Nat := 142
abbrev nU_name : Nat := 143
abbrev nR_note : Nat := 144
abbrev nU_close : Nat := 145
abbrev nC_dataClause : Nat := 146
abbrev nC_dataSection : Nat := 147
abbrev nI_startIn : Nat := 148
abbrev nC_fileDescription : Nat := 149
abbrev nR_recover : Nat := 150
abbrev nC_checkEnd : Nat := 151
abbrev nP_finish : Nat := 152
abbrev nR_clear : Nat := 153
abbrev nT_number : Nat := 154
abbrev nT_follower : Nat := 155
abbrev nM_word : Nat := 157
abbrev nM_in : Nat := 158
abbrev nM_parse : Nat := 159
abbrev nM_make : Nat := 160
abbrev nM_clause : Nat := 161
abbrev nM_item : Nat := 162
abbrev nM_within : Nat := 163
abbrev nM_fail : Nat := 164
abbrev nM_note : Nat := 165
abbrev nM_isKind : Nat := 166
abbrev nM_isWord : Nat := 167
abbrev nM_described2 : Nat := 168
abbrev nM_meets : Nat := 169
abbrev nM_mustBe : Nat := 170
abbrev nM_passed : Nat := 171
abbrev nM_child4 : Nat := 172
abbrev nM_attach : Nat := 173
abbrev nM_literal : Nat := 174
abbrev nM_operandOf : Nat := 175
abbrev nM_operand : Nat := 176
abbrev nM_isOperand : Nat := 177
abbrev nM_occurs : Nat := 178
abbrev nM_names : Nat := 179
abbrev nM_named : Nat := 180
abbrev nM_here : Nat := 181
abbrev nM_to : Nat := 182
abbrev nM_reserved : Nat := 183
abbrev nM_begins : Nat := 184
abbrev nM_sentence : Nat := 185
abbrev nM_statements : Nat := 186
abbrev nM_pile : Nat := 187
abbrev nM_goOn : Nat := 188
abbrev nM_asked : Nat := 189
abbrev nM_scope : Nat := 190
abbrev nM_must : Nat := 191
abbrev nM_list : Nat := 192
abbrev nM_branch : Nat := 193
abbrev nM_whens : Nat := 194
abbrev nM_statement : Nat := 195
abbrev nM_add : Nat := 196
abbrev nM_conditionOf : Nat := 197
abbrev nM_condition : Nat := 198
abbrev nM_joint : Nat := 199
abbrev nM_factor : Nat := 200
abbrev nM_isComparing : Nat := 201
abbrev nM_deeper : Nat := 202
abbrev nM_isSign : Nat := 203
abbrev nM_isBehind : Nat := 204
abbrev nM_compare : Nat := 205
abbrev nM_behindFactor : Nat := 206
abbrev nM_closeAnds : Nat := 207
abbrev nM_whole : Nat := 208
abbrev nM_perform : Nat := 209
abbrev nM_phrase : Nat := 210
abbrev nM_isTimes : Nat := 211
abbrev nM_call : Nat := 212
abbrev nM_compute : Nat := 213
abbrev nM_sum : Nat := 214
abbrev nM_context : Nat := 215
abbrev nM_behindUnit : Nat := 216
abbrev nM_joined : Nat := 217
abbrev nM_identified : Nat := 218
abbrev nM_unitNamed : Nat := 219
abbrev nM_select : Nat := 220
abbrev nM_described : Nat := 221
abbrev nM_begun : Nat := 222
abbrev nM_ended : Nat := 223
abbrev nM_division2 : Nat := 224
abbrev nM_numberAll : Nat := 225
abbrev nM_node : Nat := 226
abbrev nM_hasValue : Nat := 227
abbrev nM_child2 : Nat := 228
abbrev nM_faults : Nat := 229
abbrev nM_fault : Nat := 230
abbrev nM_division : Nat := 231
abbrev nM_depth : Nat := 232
abbrev nM_count : Nat := 233
abbrev cP : Nat := 0
abbrev cR : Nat := 1
abbrev cT : Nat := 2
abbrev cL : Nat := 3
abbrev cS : Nat := 4
abbrev cX : Nat := 5
abbrev cC : Nat := 6
abbrev cI : Nat := 7
abbrev cU : Nat := 8
abbrev cM : Nat := 9
abbrev fP_row : Nat := 0
abbrev fP_tree : Nat := 1
abbrev fP_clauses : Nat := 2
abbrev fR_kinds : Nat := 100
abbrev fR_values : Nat := 101
abbrev fR_size : Nat := 102
abbrev fR_at : Nat := 103
abbrev fR_refusal : Nat := 104
abbrev fR_faultNumbers : Nat := 105
abbrev fR_faultPlaces : Nat := 106
abbrev fR_faultSize : Nat := 107
abbrev fT_cells : Nat := 200
abbrev fT_made : Nat := 201
abbrev fT_numbered : Nat := 202
abbrev fT_units : Nat := 203
abbrev fT_greatestLevel : Nat := 204
abbrev fL_row : Nat := 300
abbrev fL_tree : Nat := 301
abbrev fS_row : Nat := 400
abbrev fS_tree : Nat := 401
abbrev fS_leaves : Nat := 402
abbrev fS_expressions : Nat := 403
abbrev fX_row : Nat := 500
abbrev fX_tree : Nat := 501
abbrev fX_leaves : Nat := 502
abbrev fX_subject : Nat := 503
abbrev fX_latestHow : Nat := 504
abbrev fC_row : Nat := 600
abbrev fC_tree : Nat := 601
abbrev fC_leaves : Nat := 602
abbrev fC_statements : Nat := 603
abbrev fC_items : Nat := 604
abbrev fC_units : Nat := 605
abbrev fC_openDivision : Nat := 606
abbrev fC_declaratives : Nat := 607
abbrev fC_section : Nat := 608
abbrev fC_paragraph : Nat := 609
abbrev fI_row : Nat := 700
abbrev fI_tree : Nat := 701
abbrev fI_leaves : Nat := 702
abbrev fI_openLevels : Nat := 703
abbrev fI_openHandles : Nat := 704
abbrev fI_openSize : Nat := 705
abbrev fI_holder : Nat := 706
abbrev fU_states : Nat := 800
abbrev fU_kinds : Nat := 801
abbrev fU_names : Nat := 802
abbrev fU_handles : Nat := 803
abbrev fU_size : Nat := 804
abbrev fM_thrown : Nat := 900
abbrev fM_size : Nat := 901
abbrev fM_kinds : Nat := 902
abbrev fM_values : Nat := 903
abbrev fM_n : Nat := 904
abbrev fM_faults : Nat := 905
abbrev fM_faultNumber : Nat := 906
abbrev fM_faultWord : Nat := 907
abbrev fM_nodes : Nat := 908
abbrev fM_kind : Nat := 909
abbrev fM_value : Nat := 910
abbrev fM_place : Nat := 911
abbrev fM_extra : Nat := 912
abbrev fM_first : Nat := 913
abbrev fM_last : Nat := 914
abbrev fM_next : Nat := 915
abbrev fM_above : Nat := 916
abbrev fM_number : Nat := 917
abbrev fM_order : Nat := 918
abbrev fM_told : Nat := 919
abbrev fM_units : Nat := 920
abbrev fM_deepest : Nat := 921
abbrev fM_unitNode : Nat := 922
abbrev fM_environment : Nat := 923
abbrev fM_data : Nat := 924
abbrev fM_procedure : Nat := 925
abbrev fM_open : Nat := 926
abbrev fM_state : Nat := 927
abbrev fM_unit : Nat := 928
abbrev fM_its : Nat := 929
abbrev fM_function : Nat := 930
abbrev fM_had : Nat := 931
abbrev fM_files : Nat := 932
abbrev fM_holder : Nat := 933
abbrev fM_declaratives : Nat := 934
abbrev fM_section : Nat := 935
abbrev fM_paragraph : Nat := 936
abbrev fM_items : Nat := 937
abbrev fM_latest : Nat := 938
abbrev fM_levels : Nat := 939
abbrev fM_itemNode : Nat := 940
abbrev fM_at : Nat := 941
abbrev fM_failed : Nat := 942
abbrev fM_bad : Nat := 943
abbrev fM_level : Nat := 944
abbrev fM_piled : Nat := 945
abbrev fM_pileKind : Nat := 946
abbrev fM_pileNode : Nat := 947
abbrev fM_pilePhase : Nat := 948
abbrev fM_contexts : Nat := 949
abbrev fM_sums : Nat := 950
abbrev fM_sumSign : Nat := 951
abbrev fM_products : Nat := 952
abbrev fM_productSign : Nat := 953
abbrev fM_marks : Nat := 954
abbrev fM_subject : Nat := 955
abbrev fM_compared : Nat := 956
abbrev fM_joints : Nat := 957
abbrev fM_mark : Nat := 958
abbrev fM_andFirst : Nat := 959
abbrev fM_andLast : Nat := 960
abbrev fM_andMany : Nat := 961
abbrev fM_orFirst : Nat := 962
abbrev fM_orLast : Nat := 963
abbrev fM_orMany : Nat := 964
/-- a loop's further turns; a method's rest -/
abbrev lp (L : Nat) (xs : Nat → Int32) (j : Nat) (M : am_M) (m d k : Nat) : Nat → am_L → a2_G → a2_A → Option fn_Z := fn_l (sh_tb L xs j) nm_Y nm_RG 13 nm_ms sh_oc (sh_tw j) (ev L xs m d) M 900 k
abbrev bk (L : Nat) (xs : Nat → Int32) (j : Nat) (M : am_M) (m d k : Nat) : Nat → Nat → am_L → List Value → a2_G → a2_A → Option fn_Z := fn_b (sh_tb L xs j) nm_Y nm_RG 13 nm_ms sh_oc (sh_tw j) (ev L xs m d) M (lp L xs j M m d k)
/-- CobolParser.word(II)I -/
def BP_word_34 (L : Nat) (xs : Nat → Int32) (m d k : Nat) (x1 x2 x3 : Int32) (g : a2_G) (r : a2_A) : Option fn_Z := (some (.inl (some (.int x3)), g, r))
theorem bP_word_34 (L : Nat) (xs : Nat → Int32) (m d k : Nat) (n : Nat) (x1 x2 x3 : Int32) (g : a2_G) (r : a2_A) : bk L xs nP_word nm_m9 m d k (n + 1) 34 [some (.ref cP), some (.int x1), some (.int x2)] [.int x3] g r = BP_word_34 L xs m d k x1 x2 x3 g r := by
  show _ = ((some (.inl (some (.int x3)), g, r)) : Option fn_Z)
  exact (fs_ri (n := n + 0) rfl rfl).trans rfl
theorem eP_word (L : Nat) (xs : Nat → Int32) (m d k : Nat) (n : Nat) (a1 a2 : Int32) (g : a2_G) (r : a2_A) : bk L xs nP_word nm_m9 m d k (n + 14) 0 [some (.ref cP), some (.int a1), some (.int a2)] [] g r = (fn_v (ev L xs m d nP_isWord [.int a1, .int a2] g r) fun v3 g1 r2 => (if am_c2 .ne v3 0 = true then (fn_v (ev L xs m d nR_isFull [.ref cR] g1 r2) fun v6 g4 r5 => (if am_c2 .eq v6 0 = true then (fn_v (ev L xs m d nR_add [.ref cR, .int a1, .int a2] g4 r5) fun v9 g7 r8 => (BP_word_34 L xs m d k a1 a2 v9 g7 r8)) else (BP_word_34 L xs m d k a1 a2 (-1) g4 r5))) else (some (.inl (some (.int (-4))), g1, r2)))) := by
  refine (fs_r (n := n + 12) 2 (pc' := 2) (L' := [some (.ref cP), some (.int a1), some (.int a2)]) (S' := [.int a2, .int a1]) rfl).trans ?_
  refine (fs_sv (n := n + 11) (N := nm_m10) (as := [.int a1, .int a2]) (rest := []) rfl rfl (by decide) rfl rfl rfl rfl rfl).trans (fs_fv fun v3 g1 r2 => ?_)
  refine (fs_i (n := n + 10) rfl (t := 11) rfl (by decide)).trans (fs_ite ?_ ?_)
  · skip
    refine (fs_r (n := n + 8) 2 (pc' := 15) (L' := [some (.ref cP), some (.int a1), some (.int a2)]) (S' := [.ref cR]) rfl).trans ?_
    refine (fs_cv (n := n + 7) (N := nm_m11) (as := [.ref cR]) (rest := []) rfl rfl (Or.inl rfl) rfl rfl rfl rfl rfl).trans (fs_fv fun v6 g4 r5 => ?_)
    refine (fs_i (n := n + 6) rfl (t := 25) rfl (by decide)).trans (fs_ite ?_ ?_)
    · skip
      refine (fs_r (n := n + 2) 4 (pc' := 31) (L' := [some (.ref cP), some (.int a1), some (.int a2)]) (S' := [.int a2, .int a1, .ref cR]) rfl).trans ?_
      refine (fs_cv (n := n + 1) (N := nm_m12) (as := [.ref cR, .int a1, .int a2]) (rest := []) rfl rfl (Or.inl rfl) rfl rfl rfl rfl rfl).trans (fs_fv fun v9 g7 r8 => ?_)
      exact bP_word_34 L xs m d k (n + 0) a1 a2 v9 g7 r8
    · skip
      refine (fs_r (n := n + 5) 1 (pc' := 22) (L' := [some (.ref cP), some (.int a1), some (.int a2)]) (S' := [.int (-1)]) rfl).trans ?_
      refine (fs_go (n := n + 4) rfl (t := 34) rfl (by decide)).trans ?_
      exact bP_word_34 L xs m d k (n + 3) a1 a2 (-1) g4 r5
  · skip
    refine (fs_r (n := n + 9) 1 (pc' := 10) (L' := [some (.ref cP), some (.int a1), some (.int a2)]) (S' := [.int (-4)]) rfl).trans ?_
    exact (fs_ri (n := n + 8) rfl rfl).trans rfl
theorem qP_word (L : Nat) (xs : Nat → Int32) (m d : Nat) (a1 a2 : Int32) (g : a2_G) (r : a2_A) : ev L xs (m + 1) (d + 1) nP_word [.ref cP, .int a1, .int a2] g r = (fn_v (ev L xs (m + 1) d nP_isWord [.int a1, .int a2] g r) fun v3 g1 r2 => (if am_c2 .ne v3 0 = true then (fn_v (ev L xs (m + 1) d nR_isFull [.ref cR] g1 r2) fun v6 g4 r5 => (if am_c2 .eq v6 0 = true then (fn_v (ev L xs (m + 1) d nR_add [.ref cR, .int a1, .int a2] g4 r5) fun v9 g7 r8 => (BP_word_34 L xs (m + 1) d m a1 a2 v9 g7 r8)) else (BP_word_34 L xs (m + 1) d m a1 a2 (-1) g4 r5))) else (some (.inl (some (.int (-4))), g1, r2)))) := (fs_ev (M := nm_m9) rfl rfl).trans (eP_word L xs (m + 1) d m 886 a1 a2 g r)
/-- CobolParser.isWord(II)Z -/
def BP_isWord_55 (L : Nat) (xs : Nat → Int32) (m d k : Nat) (x1 x2 x3 : Int32) (g : a2_G) (r : a2_A) : Option fn_Z := (if x3 = 0 ∨ x3 = 1 then some (.inl (some (.int x3)), g, r) else none)
theorem bP_isWord_55 (L : Nat) (xs : Nat → Int32) (m d k : Nat) (n : Nat) (x1 x2 x3 : Int32) (g : a2_G) (r : a2_A) : bk L xs nP_isWord nm_m10 m d k (n + 1) 55 [some (.int x1), some (.int x2)] [.int x3] g r = BP_isWord_55 L xs m d k x1 x2 x3 g r := by
  show _ = ((if x3 = 0 ∨ x3 = 1 then some (.inl (some (.int x3)), g, r) else none) : Option fn_Z)
  exact (fs_rb (n := n + 0) rfl rfl).trans rfl
def BP_isWord_54 (L : Nat) (xs : Nat → Int32) (m d k : Nat) (x1 x2 : Int32) (g : a2_G) (r : a2_A) : Option fn_Z := (BP_isWord_55 L xs m d k x1 x2 0 g r)
theorem bP_isWord_54 (L : Nat) (xs : Nat → Int32) (m d k : Nat) (n : Nat) (x1 x2 : Int32) (g : a2_G) (r : a2_A) : bk L xs nP_isWord nm_m10 m d k (n + 2) 54 [some (.int x1), some (.int x2)] [] g r = BP_isWord_54 L xs m d k x1 x2 g r := by
  show _ = ((BP_isWord_55 L xs m d k x1 x2 0 g r) : Option fn_Z)
  refine (fs_r (n := n + 1) 1 (pc' := 55) (L' := [some (.int x1), some (.int x2)]) (S' := [.int 0]) rfl).trans ?_
  exact bP_isWord_55 L xs m d k (n + 0) x1 x2 0 g r
def BP_isWord_71 (L : Nat) (xs : Nat → Int32) (m d k : Nat) (x1 x2 x3 : Int32) (g : a2_G) (r : a2_A) : Option fn_Z := (if x3 = 0 ∨ x3 = 1 then some (.inl (some (.int x3)), g, r) else none)
theorem bP_isWord_71 (L : Nat) (xs : Nat → Int32) (m d k : Nat) (n : Nat) (x1 x2 x3 : Int32) (g : a2_G) (r : a2_A) : bk L xs nP_isWord nm_m10 m d k (n + 1) 71 [some (.int x1), some (.int x2)] [.int x3] g r = BP_isWord_71 L xs m d k x1 x2 x3 g r := by
  show _ = ((if x3 = 0 ∨ x3 = 1 then some (.inl (some (.int x3)), g, r) else none) : Option fn_Z)
  exact (fs_rb (n := n + 0) rfl rfl).trans rfl
def BP_isWord_70 (L : Nat) (xs : Nat → Int32) (m d k : Nat) (x1 x2 : Int32) (g : a2_G) (r : a2_A) : Option fn_Z := (BP_isWord_71 L xs m d k x1 x2 0 g r)
theorem bP_isWord_70 (L : Nat) (xs : Nat → Int32) (m d k : Nat) (n : Nat) (x1 x2 : Int32) (g : a2_G) (r : a2_A) : bk L xs nP_isWord nm_m10 m d k (n + 2) 70 [some (.int x1), some (.int x2)] [] g r = BP_isWord_70 L xs m d k x1 x2 g r := by
  show _ = ((BP_isWord_71 L xs m d k x1 x2 0 g r) : Option fn_Z)
  refine (fs_r (n := n + 1) 1 (pc' := 71) (L' := [some (.int x1), some (.int x2)]) (S' := [.int 0]) rfl).trans ?_
  exact bP_isWord_71 L xs m d k (n + 0) x1 x2 0 g r
def BP_isWord_56 (L : Nat) (xs : Nat → Int32) (m d k : Nat) (x1 x2 : Int32) (g : a2_G) (r : a2_A) : Option fn_Z := (if am_c2 .lt x2 0 = true then (BP_isWord_70 L xs m d k x1 x2 g r) else (if am_c2 .gt x2 99 = true then (BP_isWord_70 L xs m d k x1 x2 g r) else (BP_isWord_71 L xs m d k x1 x2 1 g r)))
theorem bP_isWord_56 (L : Nat) (xs : Nat → Int32) (m d k : Nat) (n : Nat) (x1 x2 : Int32) (g : a2_G) (r : a2_A) : bk L xs nP_isWord nm_m10 m d k (n + 8) 56 [some (.int x1), some (.int x2)] [] g r = BP_isWord_56 L xs m d k x1 x2 g r := by
  show _ = ((if am_c2 .lt x2 0 = true then (BP_isWord_70 L xs m d k x1 x2 g r) else (if am_c2 .gt x2 99 = true then (BP_isWord_70 L xs m d k x1 x2 g r) else (BP_isWord_71 L xs m d k x1 x2 1 g r))) : Option fn_Z)
  refine (fs_r (n := n + 7) 1 (pc' := 57) (L' := [some (.int x1), some (.int x2)]) (S' := [.int x2]) rfl).trans ?_
  refine (fs_i (n := n + 6) rfl (t := 70) rfl (by decide)).trans (fs_ite ?_ ?_)
  · skip
    exact bP_isWord_70 L xs m d k (n + 4) x1 x2 g r
  · skip
    refine (fs_r (n := n + 4) 2 (pc' := 63) (L' := [some (.int x1), some (.int x2)]) (S' := [.int 99, .int x2]) rfl).trans ?_
    refine (fs_j (n := n + 3) rfl (t := 70) rfl (by decide)).trans (fs_ite ?_ ?_)
    · skip
      exact bP_isWord_70 L xs m d k (n + 1) x1 x2 g r
    · skip
      refine (fs_r (n := n + 2) 1 (pc' := 67) (L' := [some (.int x1), some (.int x2)]) (S' := [.int 1]) rfl).trans ?_
      refine (fs_go (n := n + 1) rfl (t := 71) rfl (by decide)).trans ?_
      exact bP_isWord_71 L xs m d k (n + 0) x1 x2 1 g r
def BP_isWord_87 (L : Nat) (xs : Nat → Int32) (m d k : Nat) (x1 x2 x3 : Int32) (g : a2_G) (r : a2_A) : Option fn_Z := (if x3 = 0 ∨ x3 = 1 then some (.inl (some (.int x3)), g, r) else none)
theorem bP_isWord_87 (L : Nat) (xs : Nat → Int32) (m d k : Nat) (n : Nat) (x1 x2 x3 : Int32) (g : a2_G) (r : a2_A) : bk L xs nP_isWord nm_m10 m d k (n + 1) 87 [some (.int x1), some (.int x2)] [.int x3] g r = BP_isWord_87 L xs m d k x1 x2 x3 g r := by
  show _ = ((if x3 = 0 ∨ x3 = 1 then some (.inl (some (.int x3)), g, r) else none) : Option fn_Z)
  exact (fs_rb (n := n + 0) rfl rfl).trans rfl
def BP_isWord_86 (L : Nat) (xs : Nat → Int32) (m d k : Nat) (x1 x2 : Int32) (g : a2_G) (r : a2_A) : Option fn_Z := (BP_isWord_87 L xs m d k x1 x2 0 g r)
theorem bP_isWord_86 (L : Nat) (xs : Nat → Int32) (m d k : Nat) (n : Nat) (x1 x2 : Int32) (g : a2_G) (r : a2_A) : bk L xs nP_isWord nm_m10 m d k (n + 2) 86 [some (.int x1), some (.int x2)] [] g r = BP_isWord_86 L xs m d k x1 x2 g r := by
  show _ = ((BP_isWord_87 L xs m d k x1 x2 0 g r) : Option fn_Z)
  refine (fs_r (n := n + 1) 1 (pc' := 87) (L' := [some (.int x1), some (.int x2)]) (S' := [.int 0]) rfl).trans ?_
  exact bP_isWord_87 L xs m d k (n + 0) x1 x2 0 g r
def BP_isWord_105 (L : Nat) (xs : Nat → Int32) (m d k : Nat) (x1 x2 x3 : Int32) (g : a2_G) (r : a2_A) : Option fn_Z := (if x3 = 0 ∨ x3 = 1 then some (.inl (some (.int x3)), g, r) else none)
theorem bP_isWord_105 (L : Nat) (xs : Nat → Int32) (m d k : Nat) (n : Nat) (x1 x2 x3 : Int32) (g : a2_G) (r : a2_A) : bk L xs nP_isWord nm_m10 m d k (n + 1) 105 [some (.int x1), some (.int x2)] [.int x3] g r = BP_isWord_105 L xs m d k x1 x2 x3 g r := by
  show _ = ((if x3 = 0 ∨ x3 = 1 then some (.inl (some (.int x3)), g, r) else none) : Option fn_Z)
  exact (fs_rb (n := n + 0) rfl rfl).trans rfl
def BP_isWord_104 (L : Nat) (xs : Nat → Int32) (m d k : Nat) (x1 x2 : Int32) (g : a2_G) (r : a2_A) : Option fn_Z := (BP_isWord_105 L xs m d k x1 x2 0 g r)
theorem bP_isWord_104 (L : Nat) (xs : Nat → Int32) (m d k : Nat) (n : Nat) (x1 x2 : Int32) (g : a2_G) (r : a2_A) : bk L xs nP_isWord nm_m10 m d k (n + 2) 104 [some (.int x1), some (.int x2)] [] g r = BP_isWord_104 L xs m d k x1 x2 g r := by
  show _ = ((BP_isWord_105 L xs m d k x1 x2 0 g r) : Option fn_Z)
  refine (fs_r (n := n + 1) 1 (pc' := 105) (L' := [some (.int x1), some (.int x2)]) (S' := [.int 0]) rfl).trans ?_
  exact bP_isWord_105 L xs m d k (n + 0) x1 x2 0 g r
theorem eP_isWord (L : Nat) (xs : Nat → Int32) (m d k : Nat) (n : Nat) (a1 a2 : Int32) (g : a2_G) (r : a2_A) : bk L xs nP_isWord nm_m10 m d k (n + 10) 0 [some (.int a1), some (.int a2)] [] g r = (if (a1 : Int32).toInt = 0 then (if am_c2 .lt a2 0 = true then (BP_isWord_54 L xs m d k a1 a2 g r) else (if am_c2 .gt a2 78 = true then (BP_isWord_54 L xs m d k a1 a2 g r) else (BP_isWord_55 L xs m d k a1 a2 1 g r))) else (if (a1 : Int32).toInt = 1 then (BP_isWord_56 L xs m d k a1 a2 g r) else (if (a1 : Int32).toInt = 2 then (if am_c2 .lt a2 0 = true then (BP_isWord_86 L xs m d k a1 a2 g r) else (if am_c2 .gt a2 99999 = true then (BP_isWord_86 L xs m d k a1 a2 g r) else (BP_isWord_87 L xs m d k a1 a2 1 g r))) else (if (a1 : Int32).toInt = 3 then (BP_isWord_56 L xs m d k a1 a2 g r) else (if (a1 : Int32).toInt = 4 then (some (.inl (some (.int 1)), g, r)) else (if (a1 : Int32).toInt = 5 then (if am_c2 .lt a2 0 = true then (BP_isWord_104 L xs m d k a1 a2 g r) else (if am_c2 .gt a2 8 = true then (BP_isWord_104 L xs m d k a1 a2 g r) else (BP_isWord_105 L xs m d k a1 a2 1 g r))) else (some (.inl (some (.int 0)), g, r)))))))) := by
  refine (fs_r (n := n + 9) 1 (pc' := 1) (L' := [some (.int a1), some (.int a2)]) (S' := [.int a1]) rfl).trans ?_
  refine (fs_ts (n := n + 8) (l := [39, 55, 71, 55, 87, 89]) rfl rfl rfl).trans ?_
  refine fs_tc (v' := 1) rfl ?_ (fs_tc (v' := 2) rfl ?_ (fs_tc (v' := 3) rfl ?_ (fs_tc (v' := 4) rfl ?_ (fs_tc (v' := 5) rfl ?_ (fs_tc (v' := 6) rfl ?_ (fs_tn ?_))))))
  · refine (fs_J1 (n := n + 8) (t := 40) rfl (by decide)).trans ?_
    refine (fs_r (n := n + 7) 1 (pc' := 41) (L' := [some (.int a1), some (.int a2)]) (S' := [.int a2]) rfl).trans ?_
    refine (fs_i (n := n + 6) rfl (t := 54) rfl (by decide)).trans (fs_ite ?_ ?_)
    · skip
      exact bP_isWord_54 L xs m d k (n + 4) a1 a2 g r
    · skip
      refine (fs_r (n := n + 4) 2 (pc' := 47) (L' := [some (.int a1), some (.int a2)]) (S' := [.int 78, .int a2]) rfl).trans ?_
      refine (fs_j (n := n + 3) rfl (t := 54) rfl (by decide)).trans (fs_ite ?_ ?_)
      · skip
        exact bP_isWord_54 L xs m d k (n + 1) a1 a2 g r
      · skip
        refine (fs_r (n := n + 2) 1 (pc' := 51) (L' := [some (.int a1), some (.int a2)]) (S' := [.int 1]) rfl).trans ?_
        refine (fs_go (n := n + 1) rfl (t := 55) rfl (by decide)).trans ?_
        exact bP_isWord_55 L xs m d k (n + 0) a1 a2 1 g r
  · refine (fs_J1 (n := n + 8) (t := 56) rfl (by decide)).trans ?_
    exact bP_isWord_56 L xs m d k (n + 0) a1 a2 g r
  · refine (fs_J1 (n := n + 8) (t := 72) rfl (by decide)).trans ?_
    refine (fs_r (n := n + 7) 1 (pc' := 73) (L' := [some (.int a1), some (.int a2)]) (S' := [.int a2]) rfl).trans ?_
    refine (fs_i (n := n + 6) rfl (t := 86) rfl (by decide)).trans (fs_ite ?_ ?_)
    · skip
      exact bP_isWord_86 L xs m d k (n + 4) a1 a2 g r
    · skip
      refine (fs_r (n := n + 4) 2 (pc' := 79) (L' := [some (.int a1), some (.int a2)]) (S' := [.int 99999, .int a2]) rfl).trans ?_
      refine (fs_j (n := n + 3) rfl (t := 86) rfl (by decide)).trans (fs_ite ?_ ?_)
      · skip
        exact bP_isWord_86 L xs m d k (n + 1) a1 a2 g r
      · skip
        refine (fs_r (n := n + 2) 1 (pc' := 83) (L' := [some (.int a1), some (.int a2)]) (S' := [.int 1]) rfl).trans ?_
        refine (fs_go (n := n + 1) rfl (t := 87) rfl (by decide)).trans ?_
        exact bP_isWord_87 L xs m d k (n + 0) a1 a2 1 g r
  · refine (fs_J1 (n := n + 8) (t := 56) rfl (by decide)).trans ?_
    exact bP_isWord_56 L xs m d k (n + 0) a1 a2 g r
  · refine (fs_J1 (n := n + 8) (t := 88) rfl (by decide)).trans ?_
    refine (fs_r (n := n + 7) 1 (pc' := 89) (L' := [some (.int a1), some (.int a2)]) (S' := [.int 1]) rfl).trans ?_
    exact (fs_rb (n := n + 6) rfl rfl).trans ((if_pos (by decide)).trans rfl)
  · refine (fs_J1 (n := n + 8) (t := 90) rfl (by decide)).trans ?_
    refine (fs_r (n := n + 7) 1 (pc' := 91) (L' := [some (.int a1), some (.int a2)]) (S' := [.int a2]) rfl).trans ?_
    refine (fs_i (n := n + 6) rfl (t := 104) rfl (by decide)).trans (fs_ite ?_ ?_)
    · skip
      exact bP_isWord_104 L xs m d k (n + 4) a1 a2 g r
    · skip
      refine (fs_r (n := n + 4) 2 (pc' := 97) (L' := [some (.int a1), some (.int a2)]) (S' := [.int 8, .int a2]) rfl).trans ?_
      refine (fs_j (n := n + 3) rfl (t := 104) rfl (by decide)).trans (fs_ite ?_ ?_)
      · skip
        exact bP_isWord_104 L xs m d k (n + 1) a1 a2 g r
      · skip
        refine (fs_r (n := n + 2) 1 (pc' := 101) (L' := [some (.int a1), some (.int a2)]) (S' := [.int 1]) rfl).trans ?_
        refine (fs_go (n := n + 1) rfl (t := 105) rfl (by decide)).trans ?_
        exact bP_isWord_105 L xs m d k (n + 0) a1 a2 1 g r
  · refine (fs_J1 (n := n + 8) (t := 106) rfl (by decide)).trans ?_
    refine (fs_r (n := n + 7) 1 (pc' := 107) (L' := [some (.int a1), some (.int a2)]) (S' := [.int 0]) rfl).trans ?_
    exact (fs_rb (n := n + 6) rfl rfl).trans ((if_pos (by decide)).trans rfl)
theorem qP_isWord (L : Nat) (xs : Nat → Int32) (m d : Nat) (a1 a2 : Int32) (g : a2_G) (r : a2_A) : ev L xs (m + 1) (d + 1) nP_isWord [.int a1, .int a2] g r = (if (a1 : Int32).toInt = 0 then (if am_c2 .lt a2 0 = true then (BP_isWord_54 L xs (m + 1) d m a1 a2 g r) else (if am_c2 .gt a2 78 = true then (BP_isWord_54 L xs (m + 1) d m a1 a2 g r) else (BP_isWord_55 L xs (m + 1) d m a1 a2 1 g r))) else (if (a1 : Int32).toInt = 1 then (BP_isWord_56 L xs (m + 1) d m a1 a2 g r) else (if (a1 : Int32).toInt = 2 then (if am_c2 .lt a2 0 = true then (BP_isWord_86 L xs (m + 1) d m a1 a2 g r) else (if am_c2 .gt a2 99999 = true then (BP_isWord_86 L xs (m + 1) d m a1 a2 g r) else (BP_isWord_87 L xs (m + 1) d m a1 a2 1 g r))) else (if (a1 : Int32).toInt = 3 then (BP_isWord_56 L xs (m + 1) d m a1 a2 g r) else (if (a1 : Int32).toInt = 4 then (some (.inl (some (.int 1)), g, r)) else (if (a1 : Int32).toInt = 5 then (if am_c2 .lt a2 0 = true then (BP_isWord_104 L xs (m + 1) d m a1 a2 g r) else (if am_c2 .gt a2 8 = true then (BP_isWord_104 L xs (m + 1) d m a1 a2 g r) else (BP_isWord_105 L xs (m + 1) d m a1 a2 1 g r))) else (some (.inl (some (.int 0)), g, r)))))))) := (fs_ev (M := nm_m10) rfl rfl).trans (eP_isWord L xs (m + 1) d m 890 a1 a2 g r)
/-- CobolParser$Row.isFull()Z -/
def BR_isFull_15 (L : Nat) (xs : Nat → Int32) (m d k : Nat) (x1 : Int32) (g : a2_G) (r : a2_A) : Option fn_Z := (if x1 = 0 ∨ x1 = 1 then some (.inl (some (.int x1)), g, r) else none)
theorem bR_isFull_15 (L : Nat) (xs : Nat → Int32) (m d k : Nat) (n : Nat) (x1 : Int32) (g : a2_G) (r : a2_A) : bk L xs nR_isFull nm_m11 m d k (n + 1) 15 [some (.ref cR)] [.int x1] g r = BR_isFull_15 L xs m d k x1 g r := by
  show _ = ((if x1 = 0 ∨ x1 = 1 then some (.inl (some (.int x1)), g, r) else none) : Option fn_Z)
  exact (fs_rb (n := n + 0) rfl rfl).trans rfl
theorem eR_isFull (L : Nat) (xs : Nat → Int32) (m d k : Nat) (n : Nat) (g : a2_G) (r : a2_A) : bk L xs nR_isFull nm_m11 m d k (n + 7) 0 [some (.ref cR)] [] g r = (if am_c2 .lt (g fR_size) 1500 = true then (BR_isFull_15 L xs m d k 0 g r) else (BR_isFull_15 L xs m d k 1 g r)) := by
  refine (fs_r (n := n + 4) 3 (pc' := 7) (L' := [some (.ref cR)]) (S' := [.int 1500, .int (g fR_size)]) rfl).trans ?_
  refine (fs_j (n := n + 3) rfl (t := 14) rfl (by decide)).trans (fs_ite ?_ ?_)
  · skip
    refine (fs_r (n := n + 2) 1 (pc' := 15) (L' := [some (.ref cR)]) (S' := [.int 0]) rfl).trans ?_
    exact bR_isFull_15 L xs m d k (n + 1) 0 g r
  · skip
    refine (fs_r (n := n + 2) 1 (pc' := 11) (L' := [some (.ref cR)]) (S' := [.int 1]) rfl).trans ?_
    refine (fs_go (n := n + 1) rfl (t := 15) rfl (by decide)).trans ?_
    exact bR_isFull_15 L xs m d k (n + 0) 1 g r
theorem qR_isFull (L : Nat) (xs : Nat → Int32) (m d : Nat) (g : a2_G) (r : a2_A) : ev L xs (m + 1) (d + 1) nR_isFull [.ref cR] g r = (if am_c2 .lt (g fR_size) 1500 = true then (BR_isFull_15 L xs (m + 1) d m 0 g r) else (BR_isFull_15 L xs (m + 1) d m 1 g r)) := (fs_ev (M := nm_m11) rfl rfl).trans (eR_isFull L xs (m + 1) d m 893 g r)
/-- CobolParser$Row.add(II)I -/
def BR_add_46 (L : Nat) (xs : Nat → Int32) (m d k : Nat) (x1 x2 : Int32) (g : a2_G) (r : a2_A) : Option fn_Z := (if am_inr (g fR_size) (r fR_kinds).1 = true then (if am_inr (g fR_size) (r fR_values).1 = true then (some (.inl (some (.int ((g fR_size) + 1))), (upd g fR_size ((g fR_size) + 1)), (a2_ua (a2_ua r fR_kinds ((r fR_kinds).1, (upd (r fR_kinds).2 ((g fR_size) : Int32).toNatClampNeg x1))) fR_values ((r fR_values).1, (upd (r fR_values).2 ((g fR_size) : Int32).toNatClampNeg x2))))) else none) else none)
theorem bR_add_46 (L : Nat) (xs : Nat → Int32) (m d k : Nat) (n : Nat) (x1 x2 : Int32) (g : a2_G) (r : a2_A) : bk L xs nR_add nm_m12 m d k (n + 21) 46 [some (.ref cR), some (.int x1), some (.int x2)] [] g r = BR_add_46 L xs m d k x1 x2 g r := by
  show _ = ((if am_inr (g fR_size) (r fR_kinds).1 = true then (if am_inr (g fR_size) (r fR_values).1 = true then (some (.inl (some (.int ((g fR_size) + 1))), (upd g fR_size ((g fR_size) + 1)), (a2_ua (a2_ua r fR_kinds ((r fR_kinds).1, (upd (r fR_kinds).2 ((g fR_size) : Int32).toNatClampNeg x1))) fR_values ((r fR_values).1, (upd (r fR_values).2 ((g fR_size) : Int32).toNatClampNeg x2))))) else none) else none) : Option fn_Z)
  refine (fs_r (n := n + 16) 5 (pc' := 55) (L' := [some (.ref cR), some (.int x1), some (.int x2)]) (S' := [.int x1, .int (g fR_size), .ref 10100]) rfl).trans ?_
  refine (fs_is (n := n + 15) (k := 100) rfl rfl).trans (fs_ite ?_ rfl)
  refine (fs_r (n := n + 10) 5 (pc' := 65) (L' := [some (.ref cR), some (.int x1), some (.int x2)]) (S' := [.int x2, .int (g fR_size), .ref 10101]) rfl).trans ?_
  refine (fs_is (n := n + 9) (k := 101) rfl rfl).trans (fs_ite ?_ rfl)
  refine (fs_r (n := n + 4) 5 (pc' := 73) (L' := [some (.ref cR), some (.int x1), some (.int x2)]) (S' := [.int ((g fR_size) + 1), .ref cR]) rfl).trans ?_
  refine (fs_pf (n := n + 3) (ci := 1) (j := 2) rfl rfl rfl rfl).trans ?_
  refine (fs_r (n := n + 1) 2 (pc' := 80) (L' := [some (.ref cR), some (.int x1), some (.int x2)]) (S' := [.int ((g fR_size) + 1)]) rfl).trans ?_
  exact (fs_ri (n := n + 0) rfl rfl).trans rfl
theorem eR_add (L : Nat) (xs : Nat → Int32) (m d k : Nat) (n : Nat) (a1 a2 : Int32) (g : a2_G) (r : a2_A) : bk L xs nR_add nm_m12 m d k (n + 43) 0 [some (.ref cR), some (.int a1), some (.int a2)] [] g r = (if am_c2 .lt (g fR_size) (Int32.ofNat (r fR_kinds).1) = true then (BR_add_46 L xs m d k a1 a2 g r) else (if ¬ ((2 * (g fR_size)) : Int32) < 0 ∧ ((2 * (g fR_size)) : Int32).toNatClampNeg ≤ 60000000 ∧ ((2 * (g fR_size)) : Int32).toNatClampNeg ≠ (r fR_kinds).1 ∧ (r fR_kinds).1 ≤ 60000000 ∧ 0 < (r fR_kinds).1 ∧ 2 * (r fR_kinds).1 ≤ ((2 * (g fR_size)) : Int32).toNatClampNeg then (if ¬ ((2 * (g fR_size)) : Int32) < 0 ∧ ((2 * (g fR_size)) : Int32).toNatClampNeg ≤ 60000000 ∧ ((2 * (g fR_size)) : Int32).toNatClampNeg ≠ (r fR_values).1 ∧ (r fR_values).1 ≤ 60000000 ∧ 0 < (r fR_values).1 ∧ 2 * (r fR_values).1 ≤ ((2 * (g fR_size)) : Int32).toNatClampNeg then (BR_add_46 L xs m d k a1 a2 g (a2_ua (a2_ua r fR_kinds (a2_cp ((2 * (g fR_size)) : Int32).toNatClampNeg (r fR_kinds))) fR_values (a2_cp ((2 * (g fR_size)) : Int32).toNatClampNeg (r fR_values)))) else none) else none)) := by
  refine (fs_r (n := n + 38) 5 (pc' := 9) (L' := [some (.ref cR), some (.int a1), some (.int a2)]) (S' := [.int (Int32.ofNat (r fR_kinds).1), .int (g fR_size)]) rfl).trans ?_
  refine (fs_j (n := n + 37) rfl (t := 46) rfl (by decide)).trans (fs_ite ?_ ?_)
  · skip
    exact bR_add_46 L xs m d k (n + 16) a1 a2 g r
  · skip
    refine (fs_r (n := n + 30) 7 (pc' := 23) (L' := [some (.ref cR), some (.int a1), some (.int a2)]) (S' := [.int (2 * (g fR_size)), .ref 10100, .ref cR]) rfl).trans ?_
    refine (fs_cp (n := n + 29) (q := 100) (ci := 1) (j := 0) rfl rfl rfl rfl rfl rfl).trans (fs_ite ?_ rfl)
    refine (fs_r (n := n + 22) 7 (pc' := 40) (L' := [some (.ref cR), some (.int a1), some (.int a2)]) (S' := [.int (2 * (g fR_size)), .ref 10101, .ref cR]) rfl).trans ?_
    refine (fs_cp (n := n + 21) (q := 101) (ci := 1) (j := 1) rfl rfl rfl rfl rfl rfl).trans (fs_ite ?_ rfl)
    exact bR_add_46 L xs m d k (n + 0) a1 a2 g (a2_ua (a2_ua r fR_kinds (a2_cp ((2 * (g fR_size)) : Int32).toNatClampNeg (r fR_kinds))) fR_values (a2_cp ((2 * (g fR_size)) : Int32).toNatClampNeg (r fR_values)))
theorem qR_add (L : Nat) (xs : Nat → Int32) (m d : Nat) (a1 a2 : Int32) (g : a2_G) (r : a2_A) : ev L xs (m + 1) (d + 1) nR_add [.ref cR, .int a1, .int a2] g r = (if am_c2 .lt (g fR_size) (Int32.ofNat (r fR_kinds).1) = true then (BR_add_46 L xs (m + 1) d m a1 a2 g r) else (if ¬ ((2 * (g fR_size)) : Int32) < 0 ∧ ((2 * (g fR_size)) : Int32).toNatClampNeg ≤ 60000000 ∧ ((2 * (g fR_size)) : Int32).toNatClampNeg ≠ (r fR_kinds).1 ∧ (r fR_kinds).1 ≤ 60000000 ∧ 0 < (r fR_kinds).1 ∧ 2 * (r fR_kinds).1 ≤ ((2 * (g fR_size)) : Int32).toNatClampNeg then (if ¬ ((2 * (g fR_size)) : Int32) < 0 ∧ ((2 * (g fR_size)) : Int32).toNatClampNeg ≤ 60000000 ∧ ((2 * (g fR_size)) : Int32).toNatClampNeg ≠ (r fR_values).1 ∧ (r fR_values).1 ≤ 60000000 ∧ 0 < (r fR_values).1 ∧ 2 * (r fR_values).1 ≤ ((2 * (g fR_size)) : Int32).toNatClampNeg then (BR_add_46 L xs (m + 1) d m a1 a2 g (a2_ua (a2_ua r fR_kinds (a2_cp ((2 * (g fR_size)) : Int32).toNatClampNeg (r fR_kinds))) fR_values (a2_cp ((2 * (g fR_size)) : Int32).toNatClampNeg (r fR_values)))) else none) else none)) := (fs_ev (M := nm_m12) rfl rfl).trans (eR_add L xs (m + 1) d m 857 a1 a2 g r)
/-- CobolParser.node(II)I -/
theorem eP_node (L : Nat) (xs : Nat → Int32) (m d k : Nat) (n : Nat) (a1 a2 : Int32) (g : a2_G) (r : a2_A) : bk L xs nP_node nm_m14 m d k (n + 7) 0 [some (.ref cP), some (.int a1), some (.int a2)] [] g r = (if (a2 : Int32).toInt = 0 then (fn_v (ev L xs m d nT_kindOf [.ref cT, .int a1] g r) fun v3 g1 r2 => (some (.inl (some (.int v3)), g1, r2))) else (if (a2 : Int32).toInt = 1 then (fn_v (ev L xs m d nT_valueOf [.ref cT, .int a1] g r) fun v6 g4 r5 => (some (.inl (some (.int v6)), g4, r5))) else (if (a2 : Int32).toInt = 2 then (fn_v (ev L xs m d nT_placeOf [.ref cT, .int a1] g r) fun v9 g7 r8 => (some (.inl (some (.int v9)), g7, r8))) else (if (a2 : Int32).toInt = 3 then (fn_v (ev L xs m d nT_childrenOf [.ref cT, .int a1] g r) fun v12 g10 r11 => (some (.inl (some (.int v12)), g10, r11))) else (if (a2 : Int32).toInt = 4 then (fn_v (ev L xs m d nT_parentOf [.ref cT, .int a1] g r) fun v15 g13 r14 => (some (.inl (some (.int v15)), g13, r14))) else (if (a2 : Int32).toInt = 5 then (fn_v (ev L xs m d nT_extraOf [.ref cT, .int a1] g r) fun v18 g16 r17 => (some (.inl (some (.int v18)), g16, r17))) else (some (.inl (some (.int (-1))), g, r)))))))) := by
  refine (fs_r (n := n + 6) 1 (pc' := 1) (L' := [some (.ref cP), some (.int a1), some (.int a2)]) (S' := [.int a2]) rfl).trans ?_
  refine (fs_ts (n := n + 5) (l := [39, 48, 57, 66, 75, 84]) rfl rfl rfl).trans ?_
  refine fs_tc (v' := 1) rfl ?_ (fs_tc (v' := 2) rfl ?_ (fs_tc (v' := 3) rfl ?_ (fs_tc (v' := 4) rfl ?_ (fs_tc (v' := 5) rfl ?_ (fs_tc (v' := 6) rfl ?_ (fs_tn ?_))))))
  · refine (fs_J1 (n := n + 5) (t := 40) rfl (by decide)).trans ?_
    refine (fs_r (n := n + 2) 3 (pc' := 45) (L' := [some (.ref cP), some (.int a1), some (.int a2)]) (S' := [.int a1, .ref cT]) rfl).trans ?_
    refine (fs_cv (n := n + 1) (N := nm_m15) (as := [.ref cT, .int a1]) (rest := []) rfl rfl (Or.inl rfl) rfl rfl rfl rfl rfl).trans (fs_fv fun v3 g1 r2 => ?_)
    exact (fs_ri (n := n + 0) rfl rfl).trans rfl
  · refine (fs_J1 (n := n + 5) (t := 49) rfl (by decide)).trans ?_
    refine (fs_r (n := n + 2) 3 (pc' := 54) (L' := [some (.ref cP), some (.int a1), some (.int a2)]) (S' := [.int a1, .ref cT]) rfl).trans ?_
    refine (fs_cv (n := n + 1) (N := nm_m18) (as := [.ref cT, .int a1]) (rest := []) rfl rfl (Or.inl rfl) rfl rfl rfl rfl rfl).trans (fs_fv fun v6 g4 r5 => ?_)
    exact (fs_ri (n := n + 0) rfl rfl).trans rfl
  · refine (fs_J1 (n := n + 5) (t := 58) rfl (by decide)).trans ?_
    refine (fs_r (n := n + 2) 3 (pc' := 63) (L' := [some (.ref cP), some (.int a1), some (.int a2)]) (S' := [.int a1, .ref cT]) rfl).trans ?_
    refine (fs_cv (n := n + 1) (N := nm_m19) (as := [.ref cT, .int a1]) (rest := []) rfl rfl (Or.inl rfl) rfl rfl rfl rfl rfl).trans (fs_fv fun v9 g7 r8 => ?_)
    exact (fs_ri (n := n + 0) rfl rfl).trans rfl
  · refine (fs_J1 (n := n + 5) (t := 67) rfl (by decide)).trans ?_
    refine (fs_r (n := n + 2) 3 (pc' := 72) (L' := [some (.ref cP), some (.int a1), some (.int a2)]) (S' := [.int a1, .ref cT]) rfl).trans ?_
    refine (fs_cv (n := n + 1) (N := nm_m20) (as := [.ref cT, .int a1]) (rest := []) rfl rfl (Or.inl rfl) rfl rfl rfl rfl rfl).trans (fs_fv fun v12 g10 r11 => ?_)
    exact (fs_ri (n := n + 0) rfl rfl).trans rfl
  · refine (fs_J1 (n := n + 5) (t := 76) rfl (by decide)).trans ?_
    refine (fs_r (n := n + 2) 3 (pc' := 81) (L' := [some (.ref cP), some (.int a1), some (.int a2)]) (S' := [.int a1, .ref cT]) rfl).trans ?_
    refine (fs_cv (n := n + 1) (N := nm_m21) (as := [.ref cT, .int a1]) (rest := []) rfl rfl (Or.inl rfl) rfl rfl rfl rfl rfl).trans (fs_fv fun v15 g13 r14 => ?_)
    exact (fs_ri (n := n + 0) rfl rfl).trans rfl
  · refine (fs_J1 (n := n + 5) (t := 85) rfl (by decide)).trans ?_
    refine (fs_r (n := n + 2) 3 (pc' := 90) (L' := [some (.ref cP), some (.int a1), some (.int a2)]) (S' := [.int a1, .ref cT]) rfl).trans ?_
    refine (fs_cv (n := n + 1) (N := nm_m23) (as := [.ref cT, .int a1]) (rest := []) rfl rfl (Or.inl rfl) rfl rfl rfl rfl rfl).trans (fs_fv fun v18 g16 r17 => ?_)
    exact (fs_ri (n := n + 0) rfl rfl).trans rfl
  · refine (fs_J1 (n := n + 5) (t := 94) rfl (by decide)).trans ?_
    refine (fs_r (n := n + 4) 1 (pc' := 95) (L' := [some (.ref cP), some (.int a1), some (.int a2)]) (S' := [.int (-1)]) rfl).trans ?_
    exact (fs_ri (n := n + 3) rfl rfl).trans rfl
theorem qP_node (L : Nat) (xs : Nat → Int32) (m d : Nat) (a1 a2 : Int32) (g : a2_G) (r : a2_A) : ev L xs (m + 1) (d + 1) nP_node [.ref cP, .int a1, .int a2] g r = (if (a2 : Int32).toInt = 0 then (fn_v (ev L xs (m + 1) d nT_kindOf [.ref cT, .int a1] g r) fun v3 g1 r2 => (some (.inl (some (.int v3)), g1, r2))) else (if (a2 : Int32).toInt = 1 then (fn_v (ev L xs (m + 1) d nT_valueOf [.ref cT, .int a1] g r) fun v6 g4 r5 => (some (.inl (some (.int v6)), g4, r5))) else (if (a2 : Int32).toInt = 2 then (fn_v (ev L xs (m + 1) d nT_placeOf [.ref cT, .int a1] g r) fun v9 g7 r8 => (some (.inl (some (.int v9)), g7, r8))) else (if (a2 : Int32).toInt = 3 then (fn_v (ev L xs (m + 1) d nT_childrenOf [.ref cT, .int a1] g r) fun v12 g10 r11 => (some (.inl (some (.int v12)), g10, r11))) else (if (a2 : Int32).toInt = 4 then (fn_v (ev L xs (m + 1) d nT_parentOf [.ref cT, .int a1] g r) fun v15 g13 r14 => (some (.inl (some (.int v15)), g13, r14))) else (if (a2 : Int32).toInt = 5 then (fn_v (ev L xs (m + 1) d nT_extraOf [.ref cT, .int a1] g r) fun v18 g16 r17 => (some (.inl (some (.int v18)), g16, r17))) else (some (.inl (some (.int (-1))), g, r)))))))) := (fs_ev (M := nm_m14) rfl rfl).trans (eP_node L xs (m + 1) d m 893 a1 a2 g r)
/-- CobolParser$Tree.kindOf(I)I -/
theorem eT_kindOf (L : Nat) (xs : Nat → Int32) (m d k : Nat) (n : Nat) (a1 : Int32) (g : a2_G) (r : a2_A) : bk L xs nT_kindOf nm_m15 m d k (n + 7) 0 [some (.ref cT), some (.int a1)] [] g r = (fn_v (ev L xs m d nT_handleOf [.ref cT, .int a1] g r) fun v3 g1 r2 => (fn_v (ev L xs m d nT_get [.ref cT, .int v3, .int 0] g1 r2) fun v6 g4 r5 => (some (.inl (some (.int v6)), g4, r5)))) := by
  refine (fs_r (n := n + 4) 3 (pc' := 3) (L' := [some (.ref cT), some (.int a1)]) (S' := [.int a1, .ref cT, .ref cT]) rfl).trans ?_
  refine (fs_cv (n := n + 3) (N := nm_m16) (as := [.ref cT, .int a1]) (rest := [.ref cT]) rfl rfl (Or.inl rfl) rfl rfl rfl rfl rfl).trans (fs_fv fun v3 g1 r2 => ?_)
  refine (fs_r (n := n + 2) 1 (pc' := 7) (L' := [some (.ref cT), some (.int a1)]) (S' := [.int 0, .int v3, .ref cT]) rfl).trans ?_
  refine (fs_cv (n := n + 1) (N := nm_m17) (as := [.ref cT, .int v3, .int 0]) (rest := []) rfl rfl (Or.inl rfl) rfl rfl rfl rfl rfl).trans (fs_fv fun v6 g4 r5 => ?_)
  exact (fs_ri (n := n + 0) rfl rfl).trans rfl
theorem qT_kindOf (L : Nat) (xs : Nat → Int32) (m d : Nat) (a1 : Int32) (g : a2_G) (r : a2_A) : ev L xs (m + 1) (d + 1) nT_kindOf [.ref cT, .int a1] g r = (fn_v (ev L xs (m + 1) d nT_handleOf [.ref cT, .int a1] g r) fun v3 g1 r2 => (fn_v (ev L xs (m + 1) d nT_get [.ref cT, .int v3, .int 0] g1 r2) fun v6 g4 r5 => (some (.inl (some (.int v6)), g4, r5)))) := (fs_ev (M := nm_m15) rfl rfl).trans (eT_kindOf L xs (m + 1) d m 893 a1 g r)
/-- CobolParser$Tree.handleOf(I)I -/
def BT_handleOf_23 (L : Nat) (xs : Nat → Int32) (m d k : Nat) (x1 x2 : Int32) (g : a2_G) (r : a2_A) : Option fn_Z := (some (.inl (some (.int x2)), g, r))
theorem bT_handleOf_23 (L : Nat) (xs : Nat → Int32) (m d k : Nat) (n : Nat) (x1 x2 : Int32) (g : a2_G) (r : a2_A) : bk L xs nT_handleOf nm_m16 m d k (n + 1) 23 [some (.ref cT), some (.int x1)] [.int x2] g r = BT_handleOf_23 L xs m d k x1 x2 g r := by
  show _ = ((some (.inl (some (.int x2)), g, r)) : Option fn_Z)
  exact (fs_ri (n := n + 0) rfl rfl).trans rfl
def BT_handleOf_22 (L : Nat) (xs : Nat → Int32) (m d k : Nat) (x1 : Int32) (g : a2_G) (r : a2_A) : Option fn_Z := (BT_handleOf_23 L xs m d k x1 (-1) g r)
theorem bT_handleOf_22 (L : Nat) (xs : Nat → Int32) (m d k : Nat) (n : Nat) (x1 : Int32) (g : a2_G) (r : a2_A) : bk L xs nT_handleOf nm_m16 m d k (n + 2) 22 [some (.ref cT), some (.int x1)] [] g r = BT_handleOf_22 L xs m d k x1 g r := by
  show _ = ((BT_handleOf_23 L xs m d k x1 (-1) g r) : Option fn_Z)
  refine (fs_r (n := n + 1) 1 (pc' := 23) (L' := [some (.ref cT), some (.int x1)]) (S' := [.int (-1)]) rfl).trans ?_
  exact bT_handleOf_23 L xs m d k (n + 0) x1 (-1) g r
theorem eT_handleOf (L : Nat) (xs : Nat → Int32) (m d k : Nat) (n : Nat) (a1 : Int32) (g : a2_G) (r : a2_A) : bk L xs nT_handleOf nm_m16 m d k (n + 12) 0 [some (.ref cT), some (.int a1)] [] g r = (if am_c2 .lt a1 0 = true then (BT_handleOf_22 L xs m d k a1 g r) else (if am_c2 .ge a1 (g fT_numbered) = true then (BT_handleOf_22 L xs m d k a1 g r) else (fn_v (ev L xs m d nT_get [.ref cT, .int a1, .int 11] g r) fun v3 g1 r2 => (BT_handleOf_23 L xs m d k a1 v3 g1 r2)))) := by
  refine (fs_r (n := n + 11) 1 (pc' := 1) (L' := [some (.ref cT), some (.int a1)]) (S' := [.int a1]) rfl).trans ?_
  refine (fs_i (n := n + 10) rfl (t := 22) rfl (by decide)).trans (fs_ite ?_ ?_)
  · skip
    exact bT_handleOf_22 L xs m d k (n + 8) a1 g r
  · skip
    refine (fs_r (n := n + 7) 3 (pc' := 9) (L' := [some (.ref cT), some (.int a1)]) (S' := [.int (g fT_numbered), .int a1]) rfl).trans ?_
    refine (fs_j (n := n + 6) rfl (t := 22) rfl (by decide)).trans (fs_ite ?_ ?_)
    · skip
      exact bT_handleOf_22 L xs m d k (n + 4) a1 g r
    · skip
      refine (fs_r (n := n + 3) 3 (pc' := 16) (L' := [some (.ref cT), some (.int a1)]) (S' := [.int 11, .int a1, .ref cT]) rfl).trans ?_
      refine (fs_cv (n := n + 2) (N := nm_m17) (as := [.ref cT, .int a1, .int 11]) (rest := []) rfl rfl (Or.inl rfl) rfl rfl rfl rfl rfl).trans (fs_fv fun v3 g1 r2 => ?_)
      refine (fs_go (n := n + 1) rfl (t := 23) rfl (by decide)).trans ?_
      exact bT_handleOf_23 L xs m d k (n + 0) a1 v3 g1 r2
theorem qT_handleOf (L : Nat) (xs : Nat → Int32) (m d : Nat) (a1 : Int32) (g : a2_G) (r : a2_A) : ev L xs (m + 1) (d + 1) nT_handleOf [.ref cT, .int a1] g r = (if am_c2 .lt a1 0 = true then (BT_handleOf_22 L xs (m + 1) d m a1 g r) else (if am_c2 .ge a1 (g fT_numbered) = true then (BT_handleOf_22 L xs (m + 1) d m a1 g r) else (fn_v (ev L xs (m + 1) d nT_get [.ref cT, .int a1, .int 11] g r) fun v3 g1 r2 => (BT_handleOf_23 L xs (m + 1) d m a1 v3 g1 r2)))) := (fs_ev (M := nm_m16) rfl rfl).trans (eT_handleOf L xs (m + 1) d m 888 a1 g r)
/-- CobolParser$Tree.get(II)I -/
def BT_get_37 (L : Nat) (xs : Nat → Int32) (m d k : Nat) (x1 x2 x3 : Int32) (g : a2_G) (r : a2_A) : Option fn_Z := (some (.inl (some (.int x3)), g, r))
theorem bT_get_37 (L : Nat) (xs : Nat → Int32) (m d k : Nat) (n : Nat) (x1 x2 x3 : Int32) (g : a2_G) (r : a2_A) : bk L xs nT_get nm_m17 m d k (n + 1) 37 [some (.ref cT), some (.int x1), some (.int x2)] [.int x3] g r = BT_get_37 L xs m d k x1 x2 x3 g r := by
  show _ = ((some (.inl (some (.int x3)), g, r)) : Option fn_Z)
  exact (fs_ri (n := n + 0) rfl rfl).trans rfl
def BT_get_36 (L : Nat) (xs : Nat → Int32) (m d k : Nat) (x1 x2 : Int32) (g : a2_G) (r : a2_A) : Option fn_Z := (BT_get_37 L xs m d k x1 x2 (-1) g r)
theorem bT_get_36 (L : Nat) (xs : Nat → Int32) (m d k : Nat) (n : Nat) (x1 x2 : Int32) (g : a2_G) (r : a2_A) : bk L xs nT_get nm_m17 m d k (n + 2) 36 [some (.ref cT), some (.int x1), some (.int x2)] [] g r = BT_get_36 L xs m d k x1 x2 g r := by
  show _ = ((BT_get_37 L xs m d k x1 x2 (-1) g r) : Option fn_Z)
  refine (fs_r (n := n + 1) 1 (pc' := 37) (L' := [some (.ref cT), some (.int x1), some (.int x2)]) (S' := [.int (-1)]) rfl).trans ?_
  exact bT_get_37 L xs m d k (n + 0) x1 x2 (-1) g r
theorem eT_get (L : Nat) (xs : Nat → Int32) (m d k : Nat) (n : Nat) (a1 a2 : Int32) (g : a2_G) (r : a2_A) : bk L xs nT_get nm_m17 m d k (n + 21) 0 [some (.ref cT), some (.int a1), some (.int a2)] [] g r = (if am_c2 .lt a1 0 = true then (BT_get_36 L xs m d k a1 a2 g r) else (if am_c2 .ge a1 (g fT_made) = true then (BT_get_36 L xs m d k a1 a2 g r) else (if am_c2 .lt a2 0 = true then (BT_get_36 L xs m d k a1 a2 g r) else (if am_c2 .ge a2 12 = true then (BT_get_36 L xs m d k a1 a2 g r) else (if am_inr ((a1 * 12) + a2) (r fT_cells).1 = true then (BT_get_37 L xs m d k a1 a2 ((r fT_cells).2 (((a1 * 12) + a2) : Int32).toNatClampNeg) g r) else none))))) := by
  refine (fs_r (n := n + 20) 1 (pc' := 1) (L' := [some (.ref cT), some (.int a1), some (.int a2)]) (S' := [.int a1]) rfl).trans ?_
  refine (fs_i (n := n + 19) rfl (t := 36) rfl (by decide)).trans (fs_ite ?_ ?_)
  · skip
    exact bT_get_36 L xs m d k (n + 17) a1 a2 g r
  · skip
    refine (fs_r (n := n + 16) 3 (pc' := 9) (L' := [some (.ref cT), some (.int a1), some (.int a2)]) (S' := [.int (g fT_made), .int a1]) rfl).trans ?_
    refine (fs_j (n := n + 15) rfl (t := 36) rfl (by decide)).trans (fs_ite ?_ ?_)
    · skip
      exact bT_get_36 L xs m d k (n + 13) a1 a2 g r
    · skip
      refine (fs_r (n := n + 14) 1 (pc' := 13) (L' := [some (.ref cT), some (.int a1), some (.int a2)]) (S' := [.int a2]) rfl).trans ?_
      refine (fs_i (n := n + 13) rfl (t := 36) rfl (by decide)).trans (fs_ite ?_ ?_)
      · skip
        exact bT_get_36 L xs m d k (n + 11) a1 a2 g r
      · skip
        refine (fs_r (n := n + 11) 2 (pc' := 19) (L' := [some (.ref cT), some (.int a1), some (.int a2)]) (S' := [.int 12, .int a2]) rfl).trans ?_
        refine (fs_j (n := n + 10) rfl (t := 36) rfl (by decide)).trans (fs_ite ?_ ?_)
        · skip
          exact bT_get_36 L xs m d k (n + 8) a1 a2 g r
        · skip
          refine (fs_r (n := n + 3) 7 (pc' := 32) (L' := [some (.ref cT), some (.int a1), some (.int a2)]) (S' := [.int ((a1 * 12) + a2), .ref 10200]) rfl).trans ?_
          refine (fs_il (n := n + 2) (k := 200) rfl rfl).trans (fs_ite ?_ rfl)
          refine (fs_go (n := n + 1) rfl (t := 37) rfl (by decide)).trans ?_
          exact bT_get_37 L xs m d k (n + 0) a1 a2 ((r fT_cells).2 (((a1 * 12) + a2) : Int32).toNatClampNeg) g r
theorem qT_get (L : Nat) (xs : Nat → Int32) (m d : Nat) (a1 a2 : Int32) (g : a2_G) (r : a2_A) : ev L xs (m + 1) (d + 1) nT_get [.ref cT, .int a1, .int a2] g r = (if am_c2 .lt a1 0 = true then (BT_get_36 L xs (m + 1) d m a1 a2 g r) else (if am_c2 .ge a1 (g fT_made) = true then (BT_get_36 L xs (m + 1) d m a1 a2 g r) else (if am_c2 .lt a2 0 = true then (BT_get_36 L xs (m + 1) d m a1 a2 g r) else (if am_c2 .ge a2 12 = true then (BT_get_36 L xs (m + 1) d m a1 a2 g r) else (if am_inr ((a1 * 12) + a2) (r fT_cells).1 = true then (BT_get_37 L xs (m + 1) d m a1 a2 ((r fT_cells).2 (((a1 * 12) + a2) : Int32).toNatClampNeg) g r) else none))))) := (fs_ev (M := nm_m17) rfl rfl).trans (eT_get L xs (m + 1) d m 879 a1 a2 g r)
/-- CobolParser$Tree.valueOf(I)I -/
theorem eT_valueOf (L : Nat) (xs : Nat → Int32) (m d k : Nat) (n : Nat) (a1 : Int32) (g : a2_G) (r : a2_A) : bk L xs nT_valueOf nm_m18 m d k (n + 7) 0 [some (.ref cT), some (.int a1)] [] g r = (fn_v (ev L xs m d nT_handleOf [.ref cT, .int a1] g r) fun v3 g1 r2 => (fn_v (ev L xs m d nT_get [.ref cT, .int v3, .int 1] g1 r2) fun v6 g4 r5 => (some (.inl (some (.int v6)), g4, r5)))) := by
  refine (fs_r (n := n + 4) 3 (pc' := 3) (L' := [some (.ref cT), some (.int a1)]) (S' := [.int a1, .ref cT, .ref cT]) rfl).trans ?_
  refine (fs_cv (n := n + 3) (N := nm_m16) (as := [.ref cT, .int a1]) (rest := [.ref cT]) rfl rfl (Or.inl rfl) rfl rfl rfl rfl rfl).trans (fs_fv fun v3 g1 r2 => ?_)
  refine (fs_r (n := n + 2) 1 (pc' := 7) (L' := [some (.ref cT), some (.int a1)]) (S' := [.int 1, .int v3, .ref cT]) rfl).trans ?_
  refine (fs_cv (n := n + 1) (N := nm_m17) (as := [.ref cT, .int v3, .int 1]) (rest := []) rfl rfl (Or.inl rfl) rfl rfl rfl rfl rfl).trans (fs_fv fun v6 g4 r5 => ?_)
  exact (fs_ri (n := n + 0) rfl rfl).trans rfl
theorem qT_valueOf (L : Nat) (xs : Nat → Int32) (m d : Nat) (a1 : Int32) (g : a2_G) (r : a2_A) : ev L xs (m + 1) (d + 1) nT_valueOf [.ref cT, .int a1] g r = (fn_v (ev L xs (m + 1) d nT_handleOf [.ref cT, .int a1] g r) fun v3 g1 r2 => (fn_v (ev L xs (m + 1) d nT_get [.ref cT, .int v3, .int 1] g1 r2) fun v6 g4 r5 => (some (.inl (some (.int v6)), g4, r5)))) := (fs_ev (M := nm_m18) rfl rfl).trans (eT_valueOf L xs (m + 1) d m 893 a1 g r)
/-- CobolParser$Tree.placeOf(I)I -/
theorem eT_placeOf (L : Nat) (xs : Nat → Int32) (m d k : Nat) (n : Nat) (a1 : Int32) (g : a2_G) (r : a2_A) : bk L xs nT_placeOf nm_m19 m d k (n + 7) 0 [some (.ref cT), some (.int a1)] [] g r = (fn_v (ev L xs m d nT_handleOf [.ref cT, .int a1] g r) fun v3 g1 r2 => (fn_v (ev L xs m d nT_get [.ref cT, .int v3, .int 2] g1 r2) fun v6 g4 r5 => (some (.inl (some (.int v6)), g4, r5)))) := by
  refine (fs_r (n := n + 4) 3 (pc' := 3) (L' := [some (.ref cT), some (.int a1)]) (S' := [.int a1, .ref cT, .ref cT]) rfl).trans ?_
  refine (fs_cv (n := n + 3) (N := nm_m16) (as := [.ref cT, .int a1]) (rest := [.ref cT]) rfl rfl (Or.inl rfl) rfl rfl rfl rfl rfl).trans (fs_fv fun v3 g1 r2 => ?_)
  refine (fs_r (n := n + 2) 1 (pc' := 7) (L' := [some (.ref cT), some (.int a1)]) (S' := [.int 2, .int v3, .ref cT]) rfl).trans ?_
  refine (fs_cv (n := n + 1) (N := nm_m17) (as := [.ref cT, .int v3, .int 2]) (rest := []) rfl rfl (Or.inl rfl) rfl rfl rfl rfl rfl).trans (fs_fv fun v6 g4 r5 => ?_)
  exact (fs_ri (n := n + 0) rfl rfl).trans rfl
theorem qT_placeOf (L : Nat) (xs : Nat → Int32) (m d : Nat) (a1 : Int32) (g : a2_G) (r : a2_A) : ev L xs (m + 1) (d + 1) nT_placeOf [.ref cT, .int a1] g r = (fn_v (ev L xs (m + 1) d nT_handleOf [.ref cT, .int a1] g r) fun v3 g1 r2 => (fn_v (ev L xs (m + 1) d nT_get [.ref cT, .int v3, .int 2] g1 r2) fun v6 g4 r5 => (some (.inl (some (.int v6)), g4, r5)))) := (fs_ev (M := nm_m19) rfl rfl).trans (eT_placeOf L xs (m + 1) d m 893 a1 g r)
/-- CobolParser$Tree.childrenOf(I)I -/
theorem eT_childrenOf (L : Nat) (xs : Nat → Int32) (m d k : Nat) (n : Nat) (a1 : Int32) (g : a2_G) (r : a2_A) : bk L xs nT_childrenOf nm_m20 m d k (n + 7) 0 [some (.ref cT), some (.int a1)] [] g r = (fn_v (ev L xs m d nT_handleOf [.ref cT, .int a1] g r) fun v3 g1 r2 => (fn_v (ev L xs m d nT_get [.ref cT, .int v3, .int 8] g1 r2) fun v6 g4 r5 => (some (.inl (some (.int v6)), g4, r5)))) := by
  refine (fs_r (n := n + 4) 3 (pc' := 3) (L' := [some (.ref cT), some (.int a1)]) (S' := [.int a1, .ref cT, .ref cT]) rfl).trans ?_
  refine (fs_cv (n := n + 3) (N := nm_m16) (as := [.ref cT, .int a1]) (rest := [.ref cT]) rfl rfl (Or.inl rfl) rfl rfl rfl rfl rfl).trans (fs_fv fun v3 g1 r2 => ?_)
  refine (fs_r (n := n + 2) 1 (pc' := 8) (L' := [some (.ref cT), some (.int a1)]) (S' := [.int 8, .int v3, .ref cT]) rfl).trans ?_
  refine (fs_cv (n := n + 1) (N := nm_m17) (as := [.ref cT, .int v3, .int 8]) (rest := []) rfl rfl (Or.inl rfl) rfl rfl rfl rfl rfl).trans (fs_fv fun v6 g4 r5 => ?_)
  exact (fs_ri (n := n + 0) rfl rfl).trans rfl
theorem qT_childrenOf (L : Nat) (xs : Nat → Int32) (m d : Nat) (a1 : Int32) (g : a2_G) (r : a2_A) : ev L xs (m + 1) (d + 1) nT_childrenOf [.ref cT, .int a1] g r = (fn_v (ev L xs (m + 1) d nT_handleOf [.ref cT, .int a1] g r) fun v3 g1 r2 => (fn_v (ev L xs (m + 1) d nT_get [.ref cT, .int v3, .int 8] g1 r2) fun v6 g4 r5 => (some (.inl (some (.int v6)), g4, r5)))) := (fs_ev (M := nm_m20) rfl rfl).trans (eT_childrenOf L xs (m + 1) d m 893 a1 g r)
/-- CobolParser$Tree.parentOf(I)I -/
theorem eT_parentOf (L : Nat) (xs : Nat → Int32) (m d k : Nat) (n : Nat) (a1 : Int32) (g : a2_G) (r : a2_A) : bk L xs nT_parentOf nm_m21 m d k (n + 9) 0 [some (.ref cT), some (.int a1)] [] g r = (fn_v (ev L xs m d nT_handleOf [.ref cT, .int a1] g r) fun v3 g1 r2 => (fn_v (ev L xs m d nT_get [.ref cT, .int v3, .int 4] g1 r2) fun v6 g4 r5 => (fn_v (ev L xs m d nT_numberOf [.ref cT, .int v6] g4 r5) fun v9 g7 r8 => (some (.inl (some (.int v9)), g7, r8))))) := by
  refine (fs_r (n := n + 5) 4 (pc' := 4) (L' := [some (.ref cT), some (.int a1)]) (S' := [.int a1, .ref cT, .ref cT, .ref cT]) rfl).trans ?_
  refine (fs_cv (n := n + 4) (N := nm_m16) (as := [.ref cT, .int a1]) (rest := [.ref cT, .ref cT]) rfl rfl (Or.inl rfl) rfl rfl rfl rfl rfl).trans (fs_fv fun v3 g1 r2 => ?_)
  refine (fs_r (n := n + 3) 1 (pc' := 8) (L' := [some (.ref cT), some (.int a1)]) (S' := [.int 4, .int v3, .ref cT, .ref cT]) rfl).trans ?_
  refine (fs_cv (n := n + 2) (N := nm_m17) (as := [.ref cT, .int v3, .int 4]) (rest := [.ref cT]) rfl rfl (Or.inl rfl) rfl rfl rfl rfl rfl).trans (fs_fv fun v6 g4 r5 => ?_)
  refine (fs_cv (n := n + 1) (N := nm_m22) (as := [.ref cT, .int v6]) (rest := []) rfl rfl (Or.inl rfl) rfl rfl rfl rfl rfl).trans (fs_fv fun v9 g7 r8 => ?_)
  exact (fs_ri (n := n + 0) rfl rfl).trans rfl
theorem qT_parentOf (L : Nat) (xs : Nat → Int32) (m d : Nat) (a1 : Int32) (g : a2_G) (r : a2_A) : ev L xs (m + 1) (d + 1) nT_parentOf [.ref cT, .int a1] g r = (fn_v (ev L xs (m + 1) d nT_handleOf [.ref cT, .int a1] g r) fun v3 g1 r2 => (fn_v (ev L xs (m + 1) d nT_get [.ref cT, .int v3, .int 4] g1 r2) fun v6 g4 r5 => (fn_v (ev L xs (m + 1) d nT_numberOf [.ref cT, .int v6] g4 r5) fun v9 g7 r8 => (some (.inl (some (.int v9)), g7, r8))))) := (fs_ev (M := nm_m21) rfl rfl).trans (eT_parentOf L xs (m + 1) d m 891 a1 g r)
/-- CobolParser$Tree.numberOf(I)I -/
theorem eT_numberOf (L : Nat) (xs : Nat → Int32) (m d k : Nat) (n : Nat) (a1 : Int32) (g : a2_G) (r : a2_A) : bk L xs nT_numberOf nm_m22 m d k (n + 5) 0 [some (.ref cT), some (.int a1)] [] g r = (fn_v (ev L xs m d nT_get [.ref cT, .int a1, .int 10] g r) fun v3 g1 r2 => (some (.inl (some (.int v3)), g1, r2))) := by
  refine (fs_r (n := n + 2) 3 (pc' := 4) (L' := [some (.ref cT), some (.int a1)]) (S' := [.int 10, .int a1, .ref cT]) rfl).trans ?_
  refine (fs_cv (n := n + 1) (N := nm_m17) (as := [.ref cT, .int a1, .int 10]) (rest := []) rfl rfl (Or.inl rfl) rfl rfl rfl rfl rfl).trans (fs_fv fun v3 g1 r2 => ?_)
  exact (fs_ri (n := n + 0) rfl rfl).trans rfl
theorem qT_numberOf (L : Nat) (xs : Nat → Int32) (m d : Nat) (a1 : Int32) (g : a2_G) (r : a2_A) : ev L xs (m + 1) (d + 1) nT_numberOf [.ref cT, .int a1] g r = (fn_v (ev L xs (m + 1) d nT_get [.ref cT, .int a1, .int 10] g r) fun v3 g1 r2 => (some (.inl (some (.int v3)), g1, r2))) := (fs_ev (M := nm_m22) rfl rfl).trans (eT_numberOf L xs (m + 1) d m 895 a1 g r)
/-- CobolParser$Tree.extraOf(I)I -/
def BT_extraOf_30 (L : Nat) (xs : Nat → Int32) (m d k : Nat) (x1 x2 x3 : Int32) (g : a2_G) (r : a2_A) : Option fn_Z := (some (.inl (some (.int x3)), g, r))
theorem bT_extraOf_30 (L : Nat) (xs : Nat → Int32) (m d k : Nat) (n : Nat) (x1 x2 x3 : Int32) (g : a2_G) (r : a2_A) : bk L xs nT_extraOf nm_m23 m d k (n + 1) 30 [some (.ref cT), some (.int x1), some (.int x2)] [.int x3] g r = BT_extraOf_30 L xs m d k x1 x2 x3 g r := by
  show _ = ((some (.inl (some (.int x3)), g, r)) : Option fn_Z)
  exact (fs_ri (n := n + 0) rfl rfl).trans rfl
theorem eT_extraOf (L : Nat) (xs : Nat → Int32) (m d k : Nat) (n : Nat) (a1 : Int32) (g : a2_G) (r : a2_A) : bk L xs nT_extraOf nm_m23 m d k (n + 17) 0 [some (.ref cT), some (.int a1), none] [] g r = (fn_v (ev L xs m d nT_handleOf [.ref cT, .int a1] g r) fun v3 g1 r2 => (fn_v (ev L xs m d nT_get [.ref cT, .int v3, .int 3] g1 r2) fun v6 g4 r5 => (fn_v (ev L xs m d nT_kindOf [.ref cT, .int a1] g4 r5) fun v9 g7 r8 => (if am_c2 .ne v9 53 = true then (BT_extraOf_30 L xs m d k a1 v6 v6 g7 r8) else (fn_v (ev L xs m d nT_numberOf [.ref cT, .int v6] g7 r8) fun v12 g10 r11 => (BT_extraOf_30 L xs m d k a1 v6 v12 g10 r11)))))) := by
  refine (fs_r (n := n + 14) 3 (pc' := 3) (L' := [some (.ref cT), some (.int a1), none]) (S' := [.int a1, .ref cT, .ref cT]) rfl).trans ?_
  refine (fs_cv (n := n + 13) (N := nm_m16) (as := [.ref cT, .int a1]) (rest := [.ref cT]) rfl rfl (Or.inl rfl) rfl rfl rfl rfl rfl).trans (fs_fv fun v3 g1 r2 => ?_)
  refine (fs_r (n := n + 12) 1 (pc' := 7) (L' := [some (.ref cT), some (.int a1), none]) (S' := [.int 3, .int v3, .ref cT]) rfl).trans ?_
  refine (fs_cv (n := n + 11) (N := nm_m17) (as := [.ref cT, .int v3, .int 3]) (rest := []) rfl rfl (Or.inl rfl) rfl rfl rfl rfl rfl).trans (fs_fv fun v6 g4 r5 => ?_)
  refine (fs_r (n := n + 8) 3 (pc' := 13) (L' := [some (.ref cT), some (.int a1), some (.int v6)]) (S' := [.int a1, .ref cT]) rfl).trans ?_
  refine (fs_cv (n := n + 7) (N := nm_m15) (as := [.ref cT, .int a1]) (rest := []) rfl rfl (Or.inl rfl) rfl rfl rfl rfl rfl).trans (fs_fv fun v9 g7 r8 => ?_)
  refine (fs_r (n := n + 6) 1 (pc' := 18) (L' := [some (.ref cT), some (.int a1), some (.int v6)]) (S' := [.int 53, .int v9]) rfl).trans ?_
  refine (fs_j (n := n + 5) rfl (t := 29) rfl (by decide)).trans (fs_ite ?_ ?_)
  · skip
    refine (fs_r (n := n + 4) 1 (pc' := 30) (L' := [some (.ref cT), some (.int a1), some (.int v6)]) (S' := [.int v6]) rfl).trans ?_
    exact bT_extraOf_30 L xs m d k (n + 3) a1 v6 v6 g7 r8
  · skip
    refine (fs_r (n := n + 3) 2 (pc' := 23) (L' := [some (.ref cT), some (.int a1), some (.int v6)]) (S' := [.int v6, .ref cT]) rfl).trans ?_
    refine (fs_cv (n := n + 2) (N := nm_m22) (as := [.ref cT, .int v6]) (rest := []) rfl rfl (Or.inl rfl) rfl rfl rfl rfl rfl).trans (fs_fv fun v12 g10 r11 => ?_)
    refine (fs_go (n := n + 1) rfl (t := 30) rfl (by decide)).trans ?_
    exact bT_extraOf_30 L xs m d k (n + 0) a1 v6 v12 g10 r11
theorem qT_extraOf (L : Nat) (xs : Nat → Int32) (m d : Nat) (a1 : Int32) (g : a2_G) (r : a2_A) : ev L xs (m + 1) (d + 1) nT_extraOf [.ref cT, .int a1] g r = (fn_v (ev L xs (m + 1) d nT_handleOf [.ref cT, .int a1] g r) fun v3 g1 r2 => (fn_v (ev L xs (m + 1) d nT_get [.ref cT, .int v3, .int 3] g1 r2) fun v6 g4 r5 => (fn_v (ev L xs (m + 1) d nT_kindOf [.ref cT, .int a1] g4 r5) fun v9 g7 r8 => (if am_c2 .ne v9 53 = true then (BT_extraOf_30 L xs (m + 1) d m a1 v6 v6 g7 r8) else (fn_v (ev L xs (m + 1) d nT_numberOf [.ref cT, .int v6] g7 r8) fun v12 g10 r11 => (BT_extraOf_30 L xs (m + 1) d m a1 v6 v12 g10 r11)))))) := (fs_ev (M := nm_m23) rfl rfl).trans (eT_extraOf L xs (m + 1) d m 883 a1 g r)
/-- CobolParser.child(II)I -/
theorem eP_child (L : Nat) (xs : Nat → Int32) (m d k : Nat) (n : Nat) (a1 a2 : Int32) (g : a2_G) (r : a2_A) : bk L xs nP_child nm_m24 m d k (n + 6) 0 [some (.ref cP), some (.int a1), some (.int a2)] [] g r = (fn_v (ev L xs m d nT_childOf [.ref cT, .int a1, .int a2] g r) fun v3 g1 r2 => (some (.inl (some (.int v3)), g1, r2))) := by
  refine (fs_r (n := n + 2) 4 (pc' := 6) (L' := [some (.ref cP), some (.int a1), some (.int a2)]) (S' := [.int a2, .int a1, .ref cT]) rfl).trans ?_
  refine (fs_cv (n := n + 1) (N := nm_m25) (as := [.ref cT, .int a1, .int a2]) (rest := []) rfl rfl (Or.inl rfl) rfl rfl rfl rfl rfl).trans (fs_fv fun v3 g1 r2 => ?_)
  exact (fs_ri (n := n + 0) rfl rfl).trans rfl
theorem qP_child (L : Nat) (xs : Nat → Int32) (m d : Nat) (a1 a2 : Int32) (g : a2_G) (r : a2_A) : ev L xs (m + 1) (d + 1) nP_child [.ref cP, .int a1, .int a2] g r = (fn_v (ev L xs (m + 1) d nT_childOf [.ref cT, .int a1, .int a2] g r) fun v3 g1 r2 => (some (.inl (some (.int v3)), g1, r2))) := (fs_ev (M := nm_m24) rfl rfl).trans (eP_child L xs (m + 1) d m 894 a1 a2 g r)
/-- CobolParser$Tree.childOf(II)I -/
def BT_childOf_21 (L : Nat) (xs : Nat → Int32) (m d k : Nat) (x1 x2 x3 : Int32) (g : a2_G) (r : a2_A) : Option fn_Z := (some (.inl (some (.int (-1))), g, r))
theorem bT_childOf_21 (L : Nat) (xs : Nat → Int32) (m d k : Nat) (n : Nat) (x1 x2 x3 : Int32) (g : a2_G) (r : a2_A) : bk L xs nT_childOf nm_m25 m d k (n + 2) 21 [some (.ref cT), some (.int x1), some (.int x2), some (.int x3), none, none] [] g r = BT_childOf_21 L xs m d k x1 x2 x3 g r := by
  show _ = ((some (.inl (some (.int (-1))), g, r)) : Option fn_Z)
  refine (fs_r (n := n + 1) 1 (pc' := 22) (L' := [some (.ref cT), some (.int x1), some (.int x2), some (.int x3), none, none]) (S' := [.int (-1)]) rfl).trans ?_
  exact (fs_ri (n := n + 0) rfl rfl).trans rfl
def BT_childOf_34 (L : Nat) (xs : Nat → Int32) (m d k : Nat) (x1 x2 x3 x4 x5 : Int32) (g : a2_G) (r : a2_A) : Option fn_Z := (if am_c2 .ge x5 x2 = true then (fn_v (ev L xs m d nT_numberOf [.ref cT, .int x4] g r) fun v12 g10 r11 => (some (.inl (some (.int v12)), g10, r11))) else (fn_v (ev L xs m d nT_get [.ref cT, .int x4, .int 7] g r) fun v15 g13 r14 => (lp L xs nT_childOf nm_m25 m d k 34 [some (.ref cT), some (.int x1), some (.int x2), some (.int x3), some (.int v15), some (.int (x5 + 1))] g13 r14)))
theorem bT_childOf_34 (L : Nat) (xs : Nat → Int32) (m d k : Nat) (n : Nat) (x1 x2 x3 x4 x5 : Int32) (g : a2_G) (r : a2_A) : bk L xs nT_childOf nm_m25 m d k (n + 10) 34 [some (.ref cT), some (.int x1), some (.int x2), some (.int x3), some (.int x4), some (.int x5)] [] g r = BT_childOf_34 L xs m d k x1 x2 x3 x4 x5 g r := by
  show _ = ((if am_c2 .ge x5 x2 = true then (fn_v (ev L xs m d nT_numberOf [.ref cT, .int x4] g r) fun v12 g10 r11 => (some (.inl (some (.int v12)), g10, r11))) else (fn_v (ev L xs m d nT_get [.ref cT, .int x4, .int 7] g r) fun v15 g13 r14 => (lp L xs nT_childOf nm_m25 m d k 34 [some (.ref cT), some (.int x1), some (.int x2), some (.int x3), some (.int v15), some (.int (x5 + 1))] g13 r14))) : Option fn_Z)
  refine (fs_r (n := n + 8) 2 (pc' := 37) (L' := [some (.ref cT), some (.int x1), some (.int x2), some (.int x3), some (.int x4), some (.int x5)]) (S' := [.int x2, .int x5]) rfl).trans ?_
  refine (fs_j (n := n + 7) rfl (t := 56) rfl (by decide)).trans (fs_ite ?_ ?_)
  · skip
    refine (fs_r (n := n + 5) 2 (pc' := 59) (L' := [some (.ref cT), some (.int x1), some (.int x2), some (.int x3), some (.int x4), some (.int x5)]) (S' := [.int x4, .ref cT]) rfl).trans ?_
    refine (fs_cv (n := n + 4) (N := nm_m22) (as := [.ref cT, .int x4]) (rest := []) rfl rfl (Or.inl rfl) rfl rfl rfl rfl rfl).trans (fs_fv fun v12 g10 r11 => ?_)
    exact (fs_ri (n := n + 3) rfl rfl).trans rfl
  · skip
    refine (fs_r (n := n + 4) 3 (pc' := 45) (L' := [some (.ref cT), some (.int x1), some (.int x2), some (.int x3), some (.int x4), some (.int x5)]) (S' := [.int 7, .int x4, .ref cT]) rfl).trans ?_
    refine (fs_cv (n := n + 3) (N := nm_m17) (as := [.ref cT, .int x4, .int 7]) (rest := []) rfl rfl (Or.inl rfl) rfl rfl rfl rfl rfl).trans (fs_fv fun v15 g13 r14 => ?_)
    refine (fs_r (n := n + 1) 2 (pc' := 53) (L' := [some (.ref cT), some (.int x1), some (.int x2), some (.int x3), some (.int v15), some (.int (x5 + 1))]) (S' := []) rfl).trans ?_
    exact (fs_gb (n := n + 0) rfl (t := 34) rfl (by decide)).trans rfl
theorem lT_childOf_34 (L : Nat) (xs : Nat → Int32) (m d k : Nat) (x1 x2 x3 x4 x5 : Int32) (g : a2_G) (r : a2_A) : lp L xs nT_childOf nm_m25 m d (k + 1) 34 [some (.ref cT), some (.int x1), some (.int x2), some (.int x3), some (.int x4), some (.int x5)] g r = BT_childOf_34 L xs m d k x1 x2 x3 x4 x5 g r := fs_lp.trans (bT_childOf_34 L xs m d k 890 x1 x2 x3 x4 x5 g r)
theorem eT_childOf (L : Nat) (xs : Nat → Int32) (m d k : Nat) (n : Nat) (a1 a2 : Int32) (g : a2_G) (r : a2_A) : bk L xs nT_childOf nm_m25 m d k (n + 29) 0 [some (.ref cT), some (.int a1), some (.int a2), none, none, none] [] g r = (fn_v (ev L xs m d nT_handleOf [.ref cT, .int a1] g r) fun v3 g1 r2 => (if am_c2 .lt a2 0 = true then (BT_childOf_21 L xs m d k a1 a2 v3 g1 r2) else (fn_v (ev L xs m d nT_get [.ref cT, .int v3, .int 8] g1 r2) fun v6 g4 r5 => (if am_c2 .lt a2 v6 = true then (fn_v (ev L xs m d nT_get [.ref cT, .int v3, .int 5] g4 r5) fun v9 g7 r8 => (BT_childOf_34 L xs m d k a1 a2 v3 v9 0 g7 r8)) else (BT_childOf_21 L xs m d k a1 a2 v3 g4 r5))))) := by
  refine (fs_r (n := n + 27) 2 (pc' := 2) (L' := [some (.ref cT), some (.int a1), some (.int a2), none, none, none]) (S' := [.int a1, .ref cT]) rfl).trans ?_
  refine (fs_cv (n := n + 26) (N := nm_m16) (as := [.ref cT, .int a1]) (rest := []) rfl rfl (Or.inl rfl) rfl rfl rfl rfl rfl).trans (fs_fv fun v3 g1 r2 => ?_)
  refine (fs_r (n := n + 24) 2 (pc' := 7) (L' := [some (.ref cT), some (.int a1), some (.int a2), some (.int v3), none, none]) (S' := [.int a2]) rfl).trans ?_
  refine (fs_i (n := n + 23) rfl (t := 21) rfl (by decide)).trans (fs_ite ?_ ?_)
  · skip
    exact bT_childOf_21 L xs m d k (n + 21) a1 a2 v3 g1 r2
  · skip
    refine (fs_r (n := n + 19) 4 (pc' := 15) (L' := [some (.ref cT), some (.int a1), some (.int a2), some (.int v3), none, none]) (S' := [.int 8, .int v3, .ref cT, .int a2]) rfl).trans ?_
    refine (fs_cv (n := n + 18) (N := nm_m17) (as := [.ref cT, .int v3, .int 8]) (rest := [.int a2]) rfl rfl (Or.inl rfl) rfl rfl rfl rfl rfl).trans (fs_fv fun v6 g4 r5 => ?_)
    refine (fs_j (n := n + 17) rfl (t := 23) rfl (by decide)).trans (fs_ite ?_ ?_)
    · skip
      refine (fs_r (n := n + 14) 3 (pc' := 26) (L' := [some (.ref cT), some (.int a1), some (.int a2), some (.int v3), none, none]) (S' := [.int 5, .int v3, .ref cT]) rfl).trans ?_
      refine (fs_cv (n := n + 13) (N := nm_m17) (as := [.ref cT, .int v3, .int 5]) (rest := []) rfl rfl (Or.inl rfl) rfl rfl rfl rfl rfl).trans (fs_fv fun v9 g7 r8 => ?_)
      refine (fs_r (n := n + 10) 3 (pc' := 34) (L' := [some (.ref cT), some (.int a1), some (.int a2), some (.int v3), some (.int v9), some (.int 0)]) (S' := []) rfl).trans ?_
      exact bT_childOf_34 L xs m d k (n + 0) a1 a2 v3 v9 0 g7 r8
    · skip
      exact bT_childOf_21 L xs m d k (n + 15) a1 a2 v3 g4 r5
theorem qT_childOf (L : Nat) (xs : Nat → Int32) (m d : Nat) (a1 a2 : Int32) (g : a2_G) (r : a2_A) : ev L xs (m + 1) (d + 1) nT_childOf [.ref cT, .int a1, .int a2] g r = (fn_v (ev L xs (m + 1) d nT_handleOf [.ref cT, .int a1] g r) fun v3 g1 r2 => (if am_c2 .lt a2 0 = true then (BT_childOf_21 L xs (m + 1) d m a1 a2 v3 g1 r2) else (fn_v (ev L xs (m + 1) d nT_get [.ref cT, .int v3, .int 8] g1 r2) fun v6 g4 r5 => (if am_c2 .lt a2 v6 = true then (fn_v (ev L xs (m + 1) d nT_get [.ref cT, .int v3, .int 5] g4 r5) fun v9 g7 r8 => (BT_childOf_34 L xs (m + 1) d m a1 a2 v3 v9 0 g7 r8)) else (BT_childOf_21 L xs (m + 1) d m a1 a2 v3 g4 r5))))) := (fs_ev (M := nm_m25) rfl rfl).trans (eT_childOf L xs (m + 1) d m 871 a1 a2 g r)
/-- CobolParser.faults()I -/
theorem eP_faults (L : Nat) (xs : Nat → Int32) (m d k : Nat) (n : Nat) (g : a2_G) (r : a2_A) : bk L xs nP_faults nm_m26 m d k (n + 4) 0 [some (.ref cP)] [] g r = (fn_v (ev L xs m d nR_faultCount [.ref cR] g r) fun v3 g1 r2 => (some (.inl (some (.int v3)), g1, r2))) := by
  refine (fs_r (n := n + 2) 2 (pc' := 4) (L' := [some (.ref cP)]) (S' := [.ref cR]) rfl).trans ?_
  refine (fs_cv (n := n + 1) (N := nm_m27) (as := [.ref cR]) (rest := []) rfl rfl (Or.inl rfl) rfl rfl rfl rfl rfl).trans (fs_fv fun v3 g1 r2 => ?_)
  exact (fs_ri (n := n + 0) rfl rfl).trans rfl
theorem qP_faults (L : Nat) (xs : Nat → Int32) (m d : Nat) (g : a2_G) (r : a2_A) : ev L xs (m + 1) (d + 1) nP_faults [.ref cP] g r = (fn_v (ev L xs (m + 1) d nR_faultCount [.ref cR] g r) fun v3 g1 r2 => (some (.inl (some (.int v3)), g1, r2))) := (fs_ev (M := nm_m26) rfl rfl).trans (eP_faults L xs (m + 1) d m 896 g r)
/-- CobolParser$Row.faultCount()I -/
theorem eR_faultCount (L : Nat) (xs : Nat → Int32) (m d k : Nat) (n : Nat) (g : a2_G) (r : a2_A) : bk L xs nR_faultCount nm_m27 m d k (n + 3) 0 [some (.ref cR)] [] g r = (some (.inl (some (.int (g fR_faultSize))), g, r)) := by
  refine (fs_r (n := n + 1) 2 (pc' := 4) (L' := [some (.ref cR)]) (S' := [.int (g fR_faultSize)]) rfl).trans ?_
  exact (fs_ri (n := n + 0) rfl rfl).trans rfl
theorem qR_faultCount (L : Nat) (xs : Nat → Int32) (m d : Nat) (g : a2_G) (r : a2_A) : ev L xs (m + 1) (d + 1) nR_faultCount [.ref cR] g r = (some (.inl (some (.int (g fR_faultSize))), g, r)) := (fs_ev (M := nm_m27) rfl rfl).trans (eR_faultCount L xs (m + 1) d m 897 g r)
/-- CobolParser.fault(II)I -/
theorem eP_fault (L : Nat) (xs : Nat → Int32) (m d k : Nat) (n : Nat) (a1 a2 : Int32) (g : a2_G) (r : a2_A) : bk L xs nP_fault nm_m28 m d k (n + 7) 0 [some (.ref cP), some (.int a1), some (.int a2)] [] g r = (if (a2 : Int32).toInt = 0 then (fn_v (ev L xs m d nR_faultNumber [.ref cR, .int a1] g r) fun v3 g1 r2 => (some (.inl (some (.int v3)), g1, r2))) else (if (a2 : Int32).toInt = 1 then (fn_v (ev L xs m d nR_faultPlace [.ref cR, .int a1] g r) fun v6 g4 r5 => (some (.inl (some (.int v6)), g4, r5))) else (some (.inl (some (.int (-1))), g, r)))) := by
  refine (fs_r (n := n + 6) 1 (pc' := 1) (L' := [some (.ref cP), some (.int a1), some (.int a2)]) (S' := [.int a2]) rfl).trans ?_
  refine (fs_ls (n := n + 5) (l := [(0, 27), (1, 36)]) rfl rfl rfl).trans ?_
  refine fs_lc ?_ (fs_lc ?_ (fs_ln ?_))
  · refine (fs_J1 (n := n + 5) (t := 28) rfl (by decide)).trans ?_
    refine (fs_r (n := n + 2) 3 (pc' := 33) (L' := [some (.ref cP), some (.int a1), some (.int a2)]) (S' := [.int a1, .ref cR]) rfl).trans ?_
    refine (fs_cv (n := n + 1) (N := nm_m29) (as := [.ref cR, .int a1]) (rest := []) rfl rfl (Or.inl rfl) rfl rfl rfl rfl rfl).trans (fs_fv fun v3 g1 r2 => ?_)
    exact (fs_ri (n := n + 0) rfl rfl).trans rfl
  · refine (fs_J1 (n := n + 5) (t := 37) rfl (by decide)).trans ?_
    refine (fs_r (n := n + 2) 3 (pc' := 42) (L' := [some (.ref cP), some (.int a1), some (.int a2)]) (S' := [.int a1, .ref cR]) rfl).trans ?_
    refine (fs_cv (n := n + 1) (N := nm_m30) (as := [.ref cR, .int a1]) (rest := []) rfl rfl (Or.inl rfl) rfl rfl rfl rfl rfl).trans (fs_fv fun v6 g4 r5 => ?_)
    exact (fs_ri (n := n + 0) rfl rfl).trans rfl
  · refine (fs_J1 (n := n + 5) (t := 46) rfl (by decide)).trans ?_
    refine (fs_r (n := n + 4) 1 (pc' := 47) (L' := [some (.ref cP), some (.int a1), some (.int a2)]) (S' := [.int (-1)]) rfl).trans ?_
    exact (fs_ri (n := n + 3) rfl rfl).trans rfl
theorem qP_fault (L : Nat) (xs : Nat → Int32) (m d : Nat) (a1 a2 : Int32) (g : a2_G) (r : a2_A) : ev L xs (m + 1) (d + 1) nP_fault [.ref cP, .int a1, .int a2] g r = (if (a2 : Int32).toInt = 0 then (fn_v (ev L xs (m + 1) d nR_faultNumber [.ref cR, .int a1] g r) fun v3 g1 r2 => (some (.inl (some (.int v3)), g1, r2))) else (if (a2 : Int32).toInt = 1 then (fn_v (ev L xs (m + 1) d nR_faultPlace [.ref cR, .int a1] g r) fun v6 g4 r5 => (some (.inl (some (.int v6)), g4, r5))) else (some (.inl (some (.int (-1))), g, r)))) := (fs_ev (M := nm_m28) rfl rfl).trans (eP_fault L xs (m + 1) d m 893 a1 a2 g r)
/-- CobolParser$Row.faultNumber(I)I -/
def BR_faultNumber_22 (L : Nat) (xs : Nat → Int32) (m d k : Nat) (x1 x2 : Int32) (g : a2_G) (r : a2_A) : Option fn_Z := (some (.inl (some (.int x2)), g, r))
theorem bR_faultNumber_22 (L : Nat) (xs : Nat → Int32) (m d k : Nat) (n : Nat) (x1 x2 : Int32) (g : a2_G) (r : a2_A) : bk L xs nR_faultNumber nm_m29 m d k (n + 1) 22 [some (.ref cR), some (.int x1)] [.int x2] g r = BR_faultNumber_22 L xs m d k x1 x2 g r := by
  show _ = ((some (.inl (some (.int x2)), g, r)) : Option fn_Z)
  exact (fs_ri (n := n + 0) rfl rfl).trans rfl
def BR_faultNumber_21 (L : Nat) (xs : Nat → Int32) (m d k : Nat) (x1 : Int32) (g : a2_G) (r : a2_A) : Option fn_Z := (BR_faultNumber_22 L xs m d k x1 (-1) g r)
theorem bR_faultNumber_21 (L : Nat) (xs : Nat → Int32) (m d k : Nat) (n : Nat) (x1 : Int32) (g : a2_G) (r : a2_A) : bk L xs nR_faultNumber nm_m29 m d k (n + 2) 21 [some (.ref cR), some (.int x1)] [] g r = BR_faultNumber_21 L xs m d k x1 g r := by
  show _ = ((BR_faultNumber_22 L xs m d k x1 (-1) g r) : Option fn_Z)
  refine (fs_r (n := n + 1) 1 (pc' := 22) (L' := [some (.ref cR), some (.int x1)]) (S' := [.int (-1)]) rfl).trans ?_
  exact bR_faultNumber_22 L xs m d k (n + 0) x1 (-1) g r
theorem eR_faultNumber (L : Nat) (xs : Nat → Int32) (m d k : Nat) (n : Nat) (a1 : Int32) (g : a2_G) (r : a2_A) : bk L xs nR_faultNumber nm_m29 m d k (n + 12) 0 [some (.ref cR), some (.int a1)] [] g r = (if am_c2 .lt a1 0 = true then (BR_faultNumber_21 L xs m d k a1 g r) else (if am_c2 .ge a1 (g fR_faultSize) = true then (BR_faultNumber_21 L xs m d k a1 g r) else (if am_inr a1 (r fR_faultNumbers).1 = true then (BR_faultNumber_22 L xs m d k a1 ((r fR_faultNumbers).2 (a1 : Int32).toNatClampNeg) g r) else none))) := by
  refine (fs_r (n := n + 11) 1 (pc' := 1) (L' := [some (.ref cR), some (.int a1)]) (S' := [.int a1]) rfl).trans ?_
  refine (fs_i (n := n + 10) rfl (t := 21) rfl (by decide)).trans (fs_ite ?_ ?_)
  · skip
    exact bR_faultNumber_21 L xs m d k (n + 8) a1 g r
  · skip
    refine (fs_r (n := n + 7) 3 (pc' := 9) (L' := [some (.ref cR), some (.int a1)]) (S' := [.int (g fR_faultSize), .int a1]) rfl).trans ?_
    refine (fs_j (n := n + 6) rfl (t := 21) rfl (by decide)).trans (fs_ite ?_ ?_)
    · skip
      exact bR_faultNumber_21 L xs m d k (n + 4) a1 g r
    · skip
      refine (fs_r (n := n + 3) 3 (pc' := 17) (L' := [some (.ref cR), some (.int a1)]) (S' := [.int a1, .ref 10105]) rfl).trans ?_
      refine (fs_il (n := n + 2) (k := 105) rfl rfl).trans (fs_ite ?_ rfl)
      refine (fs_go (n := n + 1) rfl (t := 22) rfl (by decide)).trans ?_
      exact bR_faultNumber_22 L xs m d k (n + 0) a1 ((r fR_faultNumbers).2 (a1 : Int32).toNatClampNeg) g r
theorem qR_faultNumber (L : Nat) (xs : Nat → Int32) (m d : Nat) (a1 : Int32) (g : a2_G) (r : a2_A) : ev L xs (m + 1) (d + 1) nR_faultNumber [.ref cR, .int a1] g r = (if am_c2 .lt a1 0 = true then (BR_faultNumber_21 L xs (m + 1) d m a1 g r) else (if am_c2 .ge a1 (g fR_faultSize) = true then (BR_faultNumber_21 L xs (m + 1) d m a1 g r) else (if am_inr a1 (r fR_faultNumbers).1 = true then (BR_faultNumber_22 L xs (m + 1) d m a1 ((r fR_faultNumbers).2 (a1 : Int32).toNatClampNeg) g r) else none))) := (fs_ev (M := nm_m29) rfl rfl).trans (eR_faultNumber L xs (m + 1) d m 888 a1 g r)
/-- CobolParser$Row.faultPlace(I)I -/
def BR_faultPlace_22 (L : Nat) (xs : Nat → Int32) (m d k : Nat) (x1 x2 : Int32) (g : a2_G) (r : a2_A) : Option fn_Z := (some (.inl (some (.int x2)), g, r))
theorem bR_faultPlace_22 (L : Nat) (xs : Nat → Int32) (m d k : Nat) (n : Nat) (x1 x2 : Int32) (g : a2_G) (r : a2_A) : bk L xs nR_faultPlace nm_m30 m d k (n + 1) 22 [some (.ref cR), some (.int x1)] [.int x2] g r = BR_faultPlace_22 L xs m d k x1 x2 g r := by
  show _ = ((some (.inl (some (.int x2)), g, r)) : Option fn_Z)
  exact (fs_ri (n := n + 0) rfl rfl).trans rfl
def BR_faultPlace_21 (L : Nat) (xs : Nat → Int32) (m d k : Nat) (x1 : Int32) (g : a2_G) (r : a2_A) : Option fn_Z := (BR_faultPlace_22 L xs m d k x1 (-1) g r)
theorem bR_faultPlace_21 (L : Nat) (xs : Nat → Int32) (m d k : Nat) (n : Nat) (x1 : Int32) (g : a2_G) (r : a2_A) : bk L xs nR_faultPlace nm_m30 m d k (n + 2) 21 [some (.ref cR), some (.int x1)] [] g r = BR_faultPlace_21 L xs m d k x1 g r := by
  show _ = ((BR_faultPlace_22 L xs m d k x1 (-1) g r) : Option fn_Z)
  refine (fs_r (n := n + 1) 1 (pc' := 22) (L' := [some (.ref cR), some (.int x1)]) (S' := [.int (-1)]) rfl).trans ?_
  exact bR_faultPlace_22 L xs m d k (n + 0) x1 (-1) g r
theorem eR_faultPlace (L : Nat) (xs : Nat → Int32) (m d k : Nat) (n : Nat) (a1 : Int32) (g : a2_G) (r : a2_A) : bk L xs nR_faultPlace nm_m30 m d k (n + 12) 0 [some (.ref cR), some (.int a1)] [] g r = (if am_c2 .lt a1 0 = true then (BR_faultPlace_21 L xs m d k a1 g r) else (if am_c2 .ge a1 (g fR_faultSize) = true then (BR_faultPlace_21 L xs m d k a1 g r) else (if am_inr a1 (r fR_faultPlaces).1 = true then (BR_faultPlace_22 L xs m d k a1 ((r fR_faultPlaces).2 (a1 : Int32).toNatClampNeg) g r) else none))) := by
  refine (fs_r (n := n + 11) 1 (pc' := 1) (L' := [some (.ref cR), some (.int a1)]) (S' := [.int a1]) rfl).trans ?_
  refine (fs_i (n := n + 10) rfl (t := 21) rfl (by decide)).trans (fs_ite ?_ ?_)
  · skip
    exact bR_faultPlace_21 L xs m d k (n + 8) a1 g r
  · skip
    refine (fs_r (n := n + 7) 3 (pc' := 9) (L' := [some (.ref cR), some (.int a1)]) (S' := [.int (g fR_faultSize), .int a1]) rfl).trans ?_
    refine (fs_j (n := n + 6) rfl (t := 21) rfl (by decide)).trans (fs_ite ?_ ?_)
    · skip
      exact bR_faultPlace_21 L xs m d k (n + 4) a1 g r
    · skip
      refine (fs_r (n := n + 3) 3 (pc' := 17) (L' := [some (.ref cR), some (.int a1)]) (S' := [.int a1, .ref 10106]) rfl).trans ?_
      refine (fs_il (n := n + 2) (k := 106) rfl rfl).trans (fs_ite ?_ rfl)
      refine (fs_go (n := n + 1) rfl (t := 22) rfl (by decide)).trans ?_
      exact bR_faultPlace_22 L xs m d k (n + 0) a1 ((r fR_faultPlaces).2 (a1 : Int32).toNatClampNeg) g r
theorem qR_faultPlace (L : Nat) (xs : Nat → Int32) (m d : Nat) (a1 : Int32) (g : a2_G) (r : a2_A) : ev L xs (m + 1) (d + 1) nR_faultPlace [.ref cR, .int a1] g r = (if am_c2 .lt a1 0 = true then (BR_faultPlace_21 L xs (m + 1) d m a1 g r) else (if am_c2 .ge a1 (g fR_faultSize) = true then (BR_faultPlace_21 L xs (m + 1) d m a1 g r) else (if am_inr a1 (r fR_faultPlaces).1 = true then (BR_faultPlace_22 L xs (m + 1) d m a1 ((r fR_faultPlaces).2 (a1 : Int32).toNatClampNeg) g r) else none))) := (fs_ev (M := nm_m30) rfl rfl).trans (eR_faultPlace L xs (m + 1) d m 888 a1 g r)
/-- CobolParser.division(II)I -/
theorem eP_division (L : Nat) (xs : Nat → Int32) (m d k : Nat) (n : Nat) (a1 a2 : Int32) (g : a2_G) (r : a2_A) : bk L xs nP_division nm_m31 m d k (n + 13) 0 [some (.ref cP), some (.int a1), some (.int a2), none] [] g r = (fn_v (ev L xs m d nT_unitAt [.ref cT, .int a1] g r) fun v3 g1 r2 => (if (a2 : Int32).toInt = 0 then (some (.inl (some (.int v3)), g1, r2)) else (if (a2 : Int32).toInt = 1 then (fn_v (ev L xs m d nT_childOfKind [.ref cT, .int v3, .int 3] g1 r2) fun v6 g4 r5 => (some (.inl (some (.int v6)), g4, r5))) else (if (a2 : Int32).toInt = 2 then (fn_v (ev L xs m d nT_childOfKind [.ref cT, .int v3, .int 7] g1 r2) fun v9 g7 r8 => (some (.inl (some (.int v9)), g7, r8))) else (if (a2 : Int32).toInt = 3 then (fn_v (ev L xs m d nT_childOfKind [.ref cT, .int v3, .int 20] g1 r2) fun v12 g10 r11 => (some (.inl (some (.int v12)), g10, r11))) else (some (.inl (some (.int (-1))), g1, r2))))))) := by
  refine (fs_r (n := n + 10) 3 (pc' := 5) (L' := [some (.ref cP), some (.int a1), some (.int a2), none]) (S' := [.int a1, .ref cT]) rfl).trans ?_
  refine (fs_cv (n := n + 9) (N := nm_m32) (as := [.ref cT, .int a1]) (rest := []) rfl rfl (Or.inl rfl) rfl rfl rfl rfl rfl).trans (fs_fv fun v3 g1 r2 => ?_)
  refine (fs_r (n := n + 7) 2 (pc' := 10) (L' := [some (.ref cP), some (.int a1), some (.int a2), some (.int v3)]) (S' := [.int a2]) rfl).trans ?_
  refine (fs_ts (n := n + 6) (l := [30, 32, 42, 53]) rfl rfl rfl).trans ?_
  refine fs_tc (v' := 1) rfl ?_ (fs_tc (v' := 2) rfl ?_ (fs_tc (v' := 3) rfl ?_ (fs_tc (v' := 4) rfl ?_ (fs_tn ?_))))
  · refine (fs_J1 (n := n + 6) (t := 40) rfl (by decide)).trans ?_
    refine (fs_r (n := n + 5) 1 (pc' := 41) (L' := [some (.ref cP), some (.int a1), some (.int a2), some (.int v3)]) (S' := [.int v3]) rfl).trans ?_
    exact (fs_ri (n := n + 4) rfl rfl).trans rfl
  · refine (fs_J1 (n := n + 6) (t := 42) rfl (by decide)).trans ?_
    refine (fs_r (n := n + 2) 4 (pc' := 48) (L' := [some (.ref cP), some (.int a1), some (.int a2), some (.int v3)]) (S' := [.int 3, .int v3, .ref cT]) rfl).trans ?_
    refine (fs_cv (n := n + 1) (N := nm_m34) (as := [.ref cT, .int v3, .int 3]) (rest := []) rfl rfl (Or.inl rfl) rfl rfl rfl rfl rfl).trans (fs_fv fun v6 g4 r5 => ?_)
    exact (fs_ri (n := n + 0) rfl rfl).trans rfl
  · refine (fs_J1 (n := n + 6) (t := 52) rfl (by decide)).trans ?_
    refine (fs_r (n := n + 2) 4 (pc' := 59) (L' := [some (.ref cP), some (.int a1), some (.int a2), some (.int v3)]) (S' := [.int 7, .int v3, .ref cT]) rfl).trans ?_
    refine (fs_cv (n := n + 1) (N := nm_m34) (as := [.ref cT, .int v3, .int 7]) (rest := []) rfl rfl (Or.inl rfl) rfl rfl rfl rfl rfl).trans (fs_fv fun v9 g7 r8 => ?_)
    exact (fs_ri (n := n + 0) rfl rfl).trans rfl
  · refine (fs_J1 (n := n + 6) (t := 63) rfl (by decide)).trans ?_
    refine (fs_r (n := n + 2) 4 (pc' := 70) (L' := [some (.ref cP), some (.int a1), some (.int a2), some (.int v3)]) (S' := [.int 20, .int v3, .ref cT]) rfl).trans ?_
    refine (fs_cv (n := n + 1) (N := nm_m34) (as := [.ref cT, .int v3, .int 20]) (rest := []) rfl rfl (Or.inl rfl) rfl rfl rfl rfl rfl).trans (fs_fv fun v12 g10 r11 => ?_)
    exact (fs_ri (n := n + 0) rfl rfl).trans rfl
  · refine (fs_J1 (n := n + 6) (t := 74) rfl (by decide)).trans ?_
    refine (fs_r (n := n + 5) 1 (pc' := 75) (L' := [some (.ref cP), some (.int a1), some (.int a2), some (.int v3)]) (S' := [.int (-1)]) rfl).trans ?_
    exact (fs_ri (n := n + 4) rfl rfl).trans rfl
theorem qP_division (L : Nat) (xs : Nat → Int32) (m d : Nat) (a1 a2 : Int32) (g : a2_G) (r : a2_A) : ev L xs (m + 1) (d + 1) nP_division [.ref cP, .int a1, .int a2] g r = (fn_v (ev L xs (m + 1) d nT_unitAt [.ref cT, .int a1] g r) fun v3 g1 r2 => (if (a2 : Int32).toInt = 0 then (some (.inl (some (.int v3)), g1, r2)) else (if (a2 : Int32).toInt = 1 then (fn_v (ev L xs (m + 1) d nT_childOfKind [.ref cT, .int v3, .int 3] g1 r2) fun v6 g4 r5 => (some (.inl (some (.int v6)), g4, r5))) else (if (a2 : Int32).toInt = 2 then (fn_v (ev L xs (m + 1) d nT_childOfKind [.ref cT, .int v3, .int 7] g1 r2) fun v9 g7 r8 => (some (.inl (some (.int v9)), g7, r8))) else (if (a2 : Int32).toInt = 3 then (fn_v (ev L xs (m + 1) d nT_childOfKind [.ref cT, .int v3, .int 20] g1 r2) fun v12 g10 r11 => (some (.inl (some (.int v12)), g10, r11))) else (some (.inl (some (.int (-1))), g1, r2))))))) := (fs_ev (M := nm_m31) rfl rfl).trans (eP_division L xs (m + 1) d m 887 a1 a2 g r)
/-- CobolParser$Tree.unitAt(I)I -/
def BT_unitAt_34 (L : Nat) (xs : Nat → Int32) (m d k : Nat) (x1 x2 x3 : Int32) (g : a2_G) (r : a2_A) : Option fn_Z := (lp L xs nT_unitAt nm_m32 m d k 4 [some (.ref cT), some (.int x1), some (.int x2), some (.int (x3 + 1))] g r)
theorem bT_unitAt_34 (L : Nat) (xs : Nat → Int32) (m d k : Nat) (n : Nat) (x1 x2 x3 : Int32) (g : a2_G) (r : a2_A) : bk L xs nT_unitAt nm_m32 m d k (n + 2) 34 [some (.ref cT), some (.int x1), some (.int x2), some (.int x3)] [] g r = BT_unitAt_34 L xs m d k x1 x2 x3 g r := by
  show _ = ((lp L xs nT_unitAt nm_m32 m d k 4 [some (.ref cT), some (.int x1), some (.int x2), some (.int (x3 + 1))] g r) : Option fn_Z)
  refine (fs_r (n := n + 1) 1 (pc' := 37) (L' := [some (.ref cT), some (.int x1), some (.int x2), some (.int (x3 + 1))]) (S' := []) rfl).trans ?_
  exact (fs_gb (n := n + 0) rfl (t := 4) rfl (by decide)).trans rfl
def BT_unitAt_4 (L : Nat) (xs : Nat → Int32) (m d k : Nat) (x1 x2 x3 : Int32) (g : a2_G) (r : a2_A) : Option fn_Z := (if am_c2 .ge x3 (g fT_numbered) = true then (some (.inl (some (.int (-1))), g, r)) else (fn_v (ev L xs m d nT_handleOf [.ref cT, .int x3] g r) fun v3 g1 r2 => (fn_v (ev L xs m d nT_isUnit [.ref cT, .int v3] g1 r2) fun v6 g4 r5 => (if am_c2 .eq v6 0 = true then (BT_unitAt_34 L xs m d k x1 x2 x3 g4 r5) else (if am_c2 .ne x2 x1 = true then (BT_unitAt_34 L xs m d k x1 (x2 + 1) x3 g4 r5) else (some (.inl (some (.int x3)), g4, r5)))))))
theorem bT_unitAt_4 (L : Nat) (xs : Nat → Int32) (m d k : Nat) (n : Nat) (x1 x2 x3 : Int32) (g : a2_G) (r : a2_A) : bk L xs nT_unitAt nm_m32 m d k (n + 16) 4 [some (.ref cT), some (.int x1), some (.int x2), some (.int x3)] [] g r = BT_unitAt_4 L xs m d k x1 x2 x3 g r := by
  show _ = ((if am_c2 .ge x3 (g fT_numbered) = true then (some (.inl (some (.int (-1))), g, r)) else (fn_v (ev L xs m d nT_handleOf [.ref cT, .int x3] g r) fun v3 g1 r2 => (fn_v (ev L xs m d nT_isUnit [.ref cT, .int v3] g1 r2) fun v6 g4 r5 => (if am_c2 .eq v6 0 = true then (BT_unitAt_34 L xs m d k x1 x2 x3 g4 r5) else (if am_c2 .ne x2 x1 = true then (BT_unitAt_34 L xs m d k x1 (x2 + 1) x3 g4 r5) else (some (.inl (some (.int x3)), g4, r5))))))) : Option fn_Z)
  refine (fs_r (n := n + 13) 3 (pc' := 9) (L' := [some (.ref cT), some (.int x1), some (.int x2), some (.int x3)]) (S' := [.int (g fT_numbered), .int x3]) rfl).trans ?_
  refine (fs_j (n := n + 12) rfl (t := 40) rfl (by decide)).trans (fs_ite ?_ ?_)
  · skip
    refine (fs_r (n := n + 11) 1 (pc' := 41) (L' := [some (.ref cT), some (.int x1), some (.int x2), some (.int x3)]) (S' := [.int (-1)]) rfl).trans ?_
    exact (fs_ri (n := n + 10) rfl rfl).trans rfl
  · skip
    refine (fs_r (n := n + 9) 3 (pc' := 15) (L' := [some (.ref cT), some (.int x1), some (.int x2), some (.int x3)]) (S' := [.int x3, .ref cT, .ref cT]) rfl).trans ?_
    refine (fs_cv (n := n + 8) (N := nm_m16) (as := [.ref cT, .int x3]) (rest := [.ref cT]) rfl rfl (Or.inl rfl) rfl rfl rfl rfl rfl).trans (fs_fv fun v3 g1 r2 => ?_)
    refine (fs_cv (n := n + 7) (N := nm_m33) (as := [.ref cT, .int v3]) (rest := []) rfl rfl (Or.inl rfl) rfl rfl rfl rfl rfl).trans (fs_fv fun v6 g4 r5 => ?_)
    refine (fs_i (n := n + 6) rfl (t := 34) rfl (by decide)).trans (fs_ite ?_ ?_)
    · skip
      exact bT_unitAt_34 L xs m d k (n + 4) x1 x2 x3 g4 r5
    · skip
      refine (fs_r (n := n + 4) 2 (pc' := 26) (L' := [some (.ref cT), some (.int x1), some (.int x2), some (.int x3)]) (S' := [.int x1, .int x2]) rfl).trans ?_
      refine (fs_j (n := n + 3) rfl (t := 31) rfl (by decide)).trans (fs_ite ?_ ?_)
      · skip
        refine (fs_r (n := n + 2) 1 (pc' := 34) (L' := [some (.ref cT), some (.int x1), some (.int (x2 + 1)), some (.int x3)]) (S' := []) rfl).trans ?_
        exact bT_unitAt_34 L xs m d k (n + 0) x1 (x2 + 1) x3 g4 r5
      · skip
        refine (fs_r (n := n + 2) 1 (pc' := 30) (L' := [some (.ref cT), some (.int x1), some (.int x2), some (.int x3)]) (S' := [.int x3]) rfl).trans ?_
        exact (fs_ri (n := n + 1) rfl rfl).trans rfl
theorem lT_unitAt_4 (L : Nat) (xs : Nat → Int32) (m d k : Nat) (x1 x2 x3 : Int32) (g : a2_G) (r : a2_A) : lp L xs nT_unitAt nm_m32 m d (k + 1) 4 [some (.ref cT), some (.int x1), some (.int x2), some (.int x3)] g r = BT_unitAt_4 L xs m d k x1 x2 x3 g r := fs_lp.trans (bT_unitAt_4 L xs m d k 884 x1 x2 x3 g r)
theorem eT_unitAt (L : Nat) (xs : Nat → Int32) (m d k : Nat) (n : Nat) (a1 : Int32) (g : a2_G) (r : a2_A) : bk L xs nT_unitAt nm_m32 m d k (n + 20) 0 [some (.ref cT), some (.int a1), none, none] [] g r = (BT_unitAt_4 L xs m d k a1 0 0 g r) := by
  refine (fs_r (n := n + 16) 4 (pc' := 4) (L' := [some (.ref cT), some (.int a1), some (.int 0), some (.int 0)]) (S' := []) rfl).trans ?_
  exact bT_unitAt_4 L xs m d k (n + 0) a1 0 0 g r
theorem qT_unitAt (L : Nat) (xs : Nat → Int32) (m d : Nat) (a1 : Int32) (g : a2_G) (r : a2_A) : ev L xs (m + 1) (d + 1) nT_unitAt [.ref cT, .int a1] g r = (BT_unitAt_4 L xs (m + 1) d m a1 0 0 g r) := (fs_ev (M := nm_m32) rfl rfl).trans (eT_unitAt L xs (m + 1) d m 880 a1 g r)
/-- CobolParser$Tree.isUnit(I)Z -/
def BT_isUnit_22 (L : Nat) (xs : Nat → Int32) (m d k : Nat) (x1 x2 x3 : Int32) (g : a2_G) (r : a2_A) : Option fn_Z := (if x3 = 0 ∨ x3 = 1 then some (.inl (some (.int x3)), g, r) else none)
theorem bT_isUnit_22 (L : Nat) (xs : Nat → Int32) (m d k : Nat) (n : Nat) (x1 x2 x3 : Int32) (g : a2_G) (r : a2_A) : bk L xs nT_isUnit nm_m33 m d k (n + 1) 22 [some (.ref cT), some (.int x1), some (.int x2)] [.int x3] g r = BT_isUnit_22 L xs m d k x1 x2 x3 g r := by
  show _ = ((if x3 = 0 ∨ x3 = 1 then some (.inl (some (.int x3)), g, r) else none) : Option fn_Z)
  exact (fs_rb (n := n + 0) rfl rfl).trans rfl
def BT_isUnit_17 (L : Nat) (xs : Nat → Int32) (m d k : Nat) (x1 x2 : Int32) (g : a2_G) (r : a2_A) : Option fn_Z := (BT_isUnit_22 L xs m d k x1 x2 1 g r)
theorem bT_isUnit_17 (L : Nat) (xs : Nat → Int32) (m d k : Nat) (n : Nat) (x1 x2 : Int32) (g : a2_G) (r : a2_A) : bk L xs nT_isUnit nm_m33 m d k (n + 3) 17 [some (.ref cT), some (.int x1), some (.int x2)] [] g r = BT_isUnit_17 L xs m d k x1 x2 g r := by
  show _ = ((BT_isUnit_22 L xs m d k x1 x2 1 g r) : Option fn_Z)
  refine (fs_r (n := n + 2) 1 (pc' := 18) (L' := [some (.ref cT), some (.int x1), some (.int x2)]) (S' := [.int 1]) rfl).trans ?_
  refine (fs_go (n := n + 1) rfl (t := 22) rfl (by decide)).trans ?_
  exact bT_isUnit_22 L xs m d k (n + 0) x1 x2 1 g r
theorem eT_isUnit (L : Nat) (xs : Nat → Int32) (m d k : Nat) (n : Nat) (a1 : Int32) (g : a2_G) (r : a2_A) : bk L xs nT_isUnit nm_m33 m d k (n + 14) 0 [some (.ref cT), some (.int a1), none] [] g r = (fn_v (ev L xs m d nT_get [.ref cT, .int a1, .int 0] g r) fun v3 g1 r2 => (if am_c2 .eq v3 1 = true then (BT_isUnit_17 L xs m d k a1 v3 g1 r2) else (if am_c2 .ne v3 2 = true then (BT_isUnit_22 L xs m d k a1 v3 0 g1 r2) else (BT_isUnit_17 L xs m d k a1 v3 g1 r2)))) := by
  refine (fs_r (n := n + 11) 3 (pc' := 3) (L' := [some (.ref cT), some (.int a1), none]) (S' := [.int 0, .int a1, .ref cT]) rfl).trans ?_
  refine (fs_cv (n := n + 10) (N := nm_m17) (as := [.ref cT, .int a1, .int 0]) (rest := []) rfl rfl (Or.inl rfl) rfl rfl rfl rfl rfl).trans (fs_fv fun v3 g1 r2 => ?_)
  refine (fs_r (n := n + 7) 3 (pc' := 9) (L' := [some (.ref cT), some (.int a1), some (.int v3)]) (S' := [.int 1, .int v3]) rfl).trans ?_
  refine (fs_j (n := n + 6) rfl (t := 17) rfl (by decide)).trans (fs_ite ?_ ?_)
  · skip
    exact bT_isUnit_17 L xs m d k (n + 3) a1 v3 g1 r2
  · skip
    refine (fs_r (n := n + 4) 2 (pc' := 14) (L' := [some (.ref cT), some (.int a1), some (.int v3)]) (S' := [.int 2, .int v3]) rfl).trans ?_
    refine (fs_j (n := n + 3) rfl (t := 21) rfl (by decide)).trans (fs_ite ?_ ?_)
    · skip
      refine (fs_r (n := n + 2) 1 (pc' := 22) (L' := [some (.ref cT), some (.int a1), some (.int v3)]) (S' := [.int 0]) rfl).trans ?_
      exact bT_isUnit_22 L xs m d k (n + 1) a1 v3 0 g1 r2
    · skip
      exact bT_isUnit_17 L xs m d k (n + 0) a1 v3 g1 r2
theorem qT_isUnit (L : Nat) (xs : Nat → Int32) (m d : Nat) (a1 : Int32) (g : a2_G) (r : a2_A) : ev L xs (m + 1) (d + 1) nT_isUnit [.ref cT, .int a1] g r = (fn_v (ev L xs (m + 1) d nT_get [.ref cT, .int a1, .int 0] g r) fun v3 g1 r2 => (if am_c2 .eq v3 1 = true then (BT_isUnit_17 L xs (m + 1) d m a1 v3 g1 r2) else (if am_c2 .ne v3 2 = true then (BT_isUnit_22 L xs (m + 1) d m a1 v3 0 g1 r2) else (BT_isUnit_17 L xs (m + 1) d m a1 v3 g1 r2)))) := (fs_ev (M := nm_m33) rfl rfl).trans (eT_isUnit L xs (m + 1) d m 886 a1 g r)
/-- CobolParser$Tree.childOfKind(II)I -/
def BT_childOfKind_17 (L : Nat) (xs : Nat → Int32) (m d k : Nat) (x1 x2 x3 x4 x5 : Int32) (g : a2_G) (r : a2_A) : Option fn_Z := (fn_v (ev L xs m d nT_get [.ref cT, .int x3, .int 8] g r) fun v9 g7 r8 => (if am_c2 .ge x5 v9 = true then (some (.inl (some (.int (-1))), g7, r8)) else (fn_v (ev L xs m d nT_get [.ref cT, .int x4, .int 0] g7 r8) fun v12 g10 r11 => (if am_c2 .ne v12 x2 = true then (fn_v (ev L xs m d nT_get [.ref cT, .int x4, .int 7] g10 r11) fun v15 g13 r14 => (lp L xs nT_childOfKind nm_m34 m d k 17 [some (.ref cT), some (.int x1), some (.int x2), some (.int x3), some (.int v15), some (.int (x5 + 1))] g13 r14)) else (fn_v (ev L xs m d nT_numberOf [.ref cT, .int x4] g10 r11) fun v18 g16 r17 => (some (.inl (some (.int v18)), g16, r17)))))))
theorem bT_childOfKind_17 (L : Nat) (xs : Nat → Int32) (m d k : Nat) (n : Nat) (x1 x2 x3 x4 x5 : Int32) (g : a2_G) (r : a2_A) : bk L xs nT_childOfKind nm_m34 m d k (n + 19) 17 [some (.ref cT), some (.int x1), some (.int x2), some (.int x3), some (.int x4), some (.int x5)] [] g r = BT_childOfKind_17 L xs m d k x1 x2 x3 x4 x5 g r := by
  show _ = ((fn_v (ev L xs m d nT_get [.ref cT, .int x3, .int 8] g r) fun v9 g7 r8 => (if am_c2 .ge x5 v9 = true then (some (.inl (some (.int (-1))), g7, r8)) else (fn_v (ev L xs m d nT_get [.ref cT, .int x4, .int 0] g7 r8) fun v12 g10 r11 => (if am_c2 .ne v12 x2 = true then (fn_v (ev L xs m d nT_get [.ref cT, .int x4, .int 7] g10 r11) fun v15 g13 r14 => (lp L xs nT_childOfKind nm_m34 m d k 17 [some (.ref cT), some (.int x1), some (.int x2), some (.int x3), some (.int v15), some (.int (x5 + 1))] g13 r14)) else (fn_v (ev L xs m d nT_numberOf [.ref cT, .int x4] g10 r11) fun v18 g16 r17 => (some (.inl (some (.int v18)), g16, r17))))))) : Option fn_Z)
  refine (fs_r (n := n + 15) 4 (pc' := 23) (L' := [some (.ref cT), some (.int x1), some (.int x2), some (.int x3), some (.int x4), some (.int x5)]) (S' := [.int 8, .int x3, .ref cT, .int x5]) rfl).trans ?_
  refine (fs_cv (n := n + 14) (N := nm_m17) (as := [.ref cT, .int x3, .int 8]) (rest := [.int x5]) rfl rfl (Or.inl rfl) rfl rfl rfl rfl rfl).trans (fs_fv fun v9 g7 r8 => ?_)
  refine (fs_j (n := n + 13) rfl (t := 63) rfl (by decide)).trans (fs_ite ?_ ?_)
  · skip
    refine (fs_r (n := n + 12) 1 (pc' := 64) (L' := [some (.ref cT), some (.int x1), some (.int x2), some (.int x3), some (.int x4), some (.int x5)]) (S' := [.int (-1)]) rfl).trans ?_
    exact (fs_ri (n := n + 11) rfl rfl).trans rfl
  · skip
    refine (fs_r (n := n + 10) 3 (pc' := 33) (L' := [some (.ref cT), some (.int x1), some (.int x2), some (.int x3), some (.int x4), some (.int x5)]) (S' := [.int 0, .int x4, .ref cT]) rfl).trans ?_
    refine (fs_cv (n := n + 9) (N := nm_m17) (as := [.ref cT, .int x4, .int 0]) (rest := []) rfl rfl (Or.inl rfl) rfl rfl rfl rfl rfl).trans (fs_fv fun v12 g10 r11 => ?_)
    refine (fs_r (n := n + 8) 1 (pc' := 37) (L' := [some (.ref cT), some (.int x1), some (.int x2), some (.int x3), some (.int x4), some (.int x5)]) (S' := [.int x2, .int v12]) rfl).trans ?_
    refine (fs_j (n := n + 7) rfl (t := 47) rfl (by decide)).trans (fs_ite ?_ ?_)
    · skip
      refine (fs_r (n := n + 4) 3 (pc' := 52) (L' := [some (.ref cT), some (.int x1), some (.int x2), some (.int x3), some (.int x4), some (.int x5)]) (S' := [.int 7, .int x4, .ref cT]) rfl).trans ?_
      refine (fs_cv (n := n + 3) (N := nm_m17) (as := [.ref cT, .int x4, .int 7]) (rest := []) rfl rfl (Or.inl rfl) rfl rfl rfl rfl rfl).trans (fs_fv fun v15 g13 r14 => ?_)
      refine (fs_r (n := n + 1) 2 (pc' := 60) (L' := [some (.ref cT), some (.int x1), some (.int x2), some (.int x3), some (.int v15), some (.int (x5 + 1))]) (S' := []) rfl).trans ?_
      exact (fs_gb (n := n + 0) rfl (t := 17) rfl (by decide)).trans rfl
    · skip
      refine (fs_r (n := n + 5) 2 (pc' := 43) (L' := [some (.ref cT), some (.int x1), some (.int x2), some (.int x3), some (.int x4), some (.int x5)]) (S' := [.int x4, .ref cT]) rfl).trans ?_
      refine (fs_cv (n := n + 4) (N := nm_m22) (as := [.ref cT, .int x4]) (rest := []) rfl rfl (Or.inl rfl) rfl rfl rfl rfl rfl).trans (fs_fv fun v18 g16 r17 => ?_)
      exact (fs_ri (n := n + 3) rfl rfl).trans rfl
theorem lT_childOfKind_17 (L : Nat) (xs : Nat → Int32) (m d k : Nat) (x1 x2 x3 x4 x5 : Int32) (g : a2_G) (r : a2_A) : lp L xs nT_childOfKind nm_m34 m d (k + 1) 17 [some (.ref cT), some (.int x1), some (.int x2), some (.int x3), some (.int x4), some (.int x5)] g r = BT_childOfKind_17 L xs m d k x1 x2 x3 x4 x5 g r := fs_lp.trans (bT_childOfKind_17 L xs m d k 881 x1 x2 x3 x4 x5 g r)
theorem eT_childOfKind (L : Nat) (xs : Nat → Int32) (m d k : Nat) (n : Nat) (a1 a2 : Int32) (g : a2_G) (r : a2_A) : bk L xs nT_childOfKind nm_m34 m d k (n + 30) 0 [some (.ref cT), some (.int a1), some (.int a2), none, none, none] [] g r = (fn_v (ev L xs m d nT_handleOf [.ref cT, .int a1] g r) fun v3 g1 r2 => (fn_v (ev L xs m d nT_get [.ref cT, .int v3, .int 5] g1 r2) fun v6 g4 r5 => (BT_childOfKind_17 L xs m d k a1 a2 v3 v6 0 g4 r5))) := by
  refine (fs_r (n := n + 28) 2 (pc' := 2) (L' := [some (.ref cT), some (.int a1), some (.int a2), none, none, none]) (S' := [.int a1, .ref cT]) rfl).trans ?_
  refine (fs_cv (n := n + 27) (N := nm_m16) (as := [.ref cT, .int a1]) (rest := []) rfl rfl (Or.inl rfl) rfl rfl rfl rfl rfl).trans (fs_fv fun v3 g1 r2 => ?_)
  refine (fs_r (n := n + 23) 4 (pc' := 9) (L' := [some (.ref cT), some (.int a1), some (.int a2), some (.int v3), none, none]) (S' := [.int 5, .int v3, .ref cT]) rfl).trans ?_
  refine (fs_cv (n := n + 22) (N := nm_m17) (as := [.ref cT, .int v3, .int 5]) (rest := []) rfl rfl (Or.inl rfl) rfl rfl rfl rfl rfl).trans (fs_fv fun v6 g4 r5 => ?_)
  refine (fs_r (n := n + 19) 3 (pc' := 17) (L' := [some (.ref cT), some (.int a1), some (.int a2), some (.int v3), some (.int v6), some (.int 0)]) (S' := []) rfl).trans ?_
  exact bT_childOfKind_17 L xs m d k (n + 0) a1 a2 v3 v6 0 g4 r5
theorem qT_childOfKind (L : Nat) (xs : Nat → Int32) (m d : Nat) (a1 a2 : Int32) (g : a2_G) (r : a2_A) : ev L xs (m + 1) (d + 1) nT_childOfKind [.ref cT, .int a1, .int a2] g r = (fn_v (ev L xs (m + 1) d nT_handleOf [.ref cT, .int a1] g r) fun v3 g1 r2 => (fn_v (ev L xs (m + 1) d nT_get [.ref cT, .int v3, .int 5] g1 r2) fun v6 g4 r5 => (BT_childOfKind_17 L xs (m + 1) d m a1 a2 v3 v6 0 g4 r5))) := (fs_ev (M := nm_m34) rfl rfl).trans (eT_childOfKind L xs (m + 1) d m 870 a1 a2 g r)
/-- CobolParser.depth()I -/
theorem eP_depth (L : Nat) (xs : Nat → Int32) (m d k : Nat) (n : Nat) (g : a2_G) (r : a2_A) : bk L xs nP_depth nm_m35 m d k (n + 4) 0 [some (.ref cP)] [] g r = (fn_v (ev L xs m d nT_deepest [.ref cT] g r) fun v3 g1 r2 => (some (.inl (some (.int v3)), g1, r2))) := by
  refine (fs_r (n := n + 2) 2 (pc' := 4) (L' := [some (.ref cP)]) (S' := [.ref cT]) rfl).trans ?_
  refine (fs_cv (n := n + 1) (N := nm_m36) (as := [.ref cT]) (rest := []) rfl rfl (Or.inl rfl) rfl rfl rfl rfl rfl).trans (fs_fv fun v3 g1 r2 => ?_)
  exact (fs_ri (n := n + 0) rfl rfl).trans rfl
theorem qP_depth (L : Nat) (xs : Nat → Int32) (m d : Nat) (g : a2_G) (r : a2_A) : ev L xs (m + 1) (d + 1) nP_depth [.ref cP] g r = (fn_v (ev L xs (m + 1) d nT_deepest [.ref cT] g r) fun v3 g1 r2 => (some (.inl (some (.int v3)), g1, r2))) := (fs_ev (M := nm_m35) rfl rfl).trans (eP_depth L xs (m + 1) d m 896 g r)
/-- CobolParser$Tree.deepest()I -/
theorem eT_deepest (L : Nat) (xs : Nat → Int32) (m d k : Nat) (n : Nat) (g : a2_G) (r : a2_A) : bk L xs nT_deepest nm_m36 m d k (n + 3) 0 [some (.ref cT)] [] g r = (some (.inl (some (.int (g fT_greatestLevel))), g, r)) := by
  refine (fs_r (n := n + 1) 2 (pc' := 4) (L' := [some (.ref cT)]) (S' := [.int (g fT_greatestLevel)]) rfl).trans ?_
  exact (fs_ri (n := n + 0) rfl rfl).trans rfl
theorem qT_deepest (L : Nat) (xs : Nat → Int32) (m d : Nat) (g : a2_G) (r : a2_A) : ev L xs (m + 1) (d + 1) nT_deepest [.ref cT] g r = (some (.inl (some (.int (g fT_greatestLevel))), g, r)) := (fs_ev (M := nm_m36) rfl rfl).trans (eT_deepest L xs (m + 1) d m 897 g r)
/-- CobolParser.count(I)I -/
theorem eP_count (L : Nat) (xs : Nat → Int32) (m d k : Nat) (n : Nat) (a1 : Int32) (g : a2_G) (r : a2_A) : bk L xs nP_count nm_m37 m d k (n + 6) 0 [some (.ref cP), some (.int a1)] [] g r = (if (a1 : Int32).toInt = 0 then (fn_v (ev L xs m d nR_wordCount [.ref cR] g r) fun v3 g1 r2 => (some (.inl (some (.int v3)), g1, r2))) else (if (a1 : Int32).toInt = 1 then (fn_v (ev L xs m d nT_nodeCount [.ref cT] g r) fun v6 g4 r5 => (some (.inl (some (.int v6)), g4, r5))) else (if (a1 : Int32).toInt = 2 then (fn_v (ev L xs m d nT_unitCount [.ref cT] g r) fun v9 g7 r8 => (some (.inl (some (.int v9)), g7, r8))) else (some (.inl (some (.int (-1))), g, r))))) := by
  refine (fs_r (n := n + 5) 1 (pc' := 1) (L' := [some (.ref cP), some (.int a1)]) (S' := [.int a1]) rfl).trans ?_
  refine (fs_ts (n := n + 4) (l := [27, 35, 43]) rfl rfl rfl).trans ?_
  refine fs_tc (v' := 1) rfl ?_ (fs_tc (v' := 2) rfl ?_ (fs_tc (v' := 3) rfl ?_ (fs_tn ?_)))
  · refine (fs_J1 (n := n + 4) (t := 28) rfl (by decide)).trans ?_
    refine (fs_r (n := n + 2) 2 (pc' := 32) (L' := [some (.ref cP), some (.int a1)]) (S' := [.ref cR]) rfl).trans ?_
    refine (fs_cv (n := n + 1) (N := nm_m38) (as := [.ref cR]) (rest := []) rfl rfl (Or.inl rfl) rfl rfl rfl rfl rfl).trans (fs_fv fun v3 g1 r2 => ?_)
    exact (fs_ri (n := n + 0) rfl rfl).trans rfl
  · refine (fs_J1 (n := n + 4) (t := 36) rfl (by decide)).trans ?_
    refine (fs_r (n := n + 2) 2 (pc' := 40) (L' := [some (.ref cP), some (.int a1)]) (S' := [.ref cT]) rfl).trans ?_
    refine (fs_cv (n := n + 1) (N := nm_m39) (as := [.ref cT]) (rest := []) rfl rfl (Or.inl rfl) rfl rfl rfl rfl rfl).trans (fs_fv fun v6 g4 r5 => ?_)
    exact (fs_ri (n := n + 0) rfl rfl).trans rfl
  · refine (fs_J1 (n := n + 4) (t := 44) rfl (by decide)).trans ?_
    refine (fs_r (n := n + 2) 2 (pc' := 48) (L' := [some (.ref cP), some (.int a1)]) (S' := [.ref cT]) rfl).trans ?_
    refine (fs_cv (n := n + 1) (N := nm_m40) (as := [.ref cT]) (rest := []) rfl rfl (Or.inl rfl) rfl rfl rfl rfl rfl).trans (fs_fv fun v9 g7 r8 => ?_)
    exact (fs_ri (n := n + 0) rfl rfl).trans rfl
  · refine (fs_J1 (n := n + 4) (t := 52) rfl (by decide)).trans ?_
    refine (fs_r (n := n + 3) 1 (pc' := 53) (L' := [some (.ref cP), some (.int a1)]) (S' := [.int (-1)]) rfl).trans ?_
    exact (fs_ri (n := n + 2) rfl rfl).trans rfl
theorem qP_count (L : Nat) (xs : Nat → Int32) (m d : Nat) (a1 : Int32) (g : a2_G) (r : a2_A) : ev L xs (m + 1) (d + 1) nP_count [.ref cP, .int a1] g r = (if (a1 : Int32).toInt = 0 then (fn_v (ev L xs (m + 1) d nR_wordCount [.ref cR] g r) fun v3 g1 r2 => (some (.inl (some (.int v3)), g1, r2))) else (if (a1 : Int32).toInt = 1 then (fn_v (ev L xs (m + 1) d nT_nodeCount [.ref cT] g r) fun v6 g4 r5 => (some (.inl (some (.int v6)), g4, r5))) else (if (a1 : Int32).toInt = 2 then (fn_v (ev L xs (m + 1) d nT_unitCount [.ref cT] g r) fun v9 g7 r8 => (some (.inl (some (.int v9)), g7, r8))) else (some (.inl (some (.int (-1))), g, r))))) := (fs_ev (M := nm_m37) rfl rfl).trans (eP_count L xs (m + 1) d m 894 a1 g r)
/-- CobolParser$Row.wordCount()I -/
theorem eR_wordCount (L : Nat) (xs : Nat → Int32) (m d k : Nat) (n : Nat) (g : a2_G) (r : a2_A) : bk L xs nR_wordCount nm_m38 m d k (n + 3) 0 [some (.ref cR)] [] g r = (some (.inl (some (.int (g fR_size))), g, r)) := by
  refine (fs_r (n := n + 1) 2 (pc' := 4) (L' := [some (.ref cR)]) (S' := [.int (g fR_size)]) rfl).trans ?_
  exact (fs_ri (n := n + 0) rfl rfl).trans rfl
theorem qR_wordCount (L : Nat) (xs : Nat → Int32) (m d : Nat) (g : a2_G) (r : a2_A) : ev L xs (m + 1) (d + 1) nR_wordCount [.ref cR] g r = (some (.inl (some (.int (g fR_size))), g, r)) := (fs_ev (M := nm_m38) rfl rfl).trans (eR_wordCount L xs (m + 1) d m 897 g r)
/-- CobolParser$Tree.nodeCount()I -/
theorem eT_nodeCount (L : Nat) (xs : Nat → Int32) (m d k : Nat) (n : Nat) (g : a2_G) (r : a2_A) : bk L xs nT_nodeCount nm_m39 m d k (n + 3) 0 [some (.ref cT)] [] g r = (some (.inl (some (.int (g fT_numbered))), g, r)) := by
  refine (fs_r (n := n + 1) 2 (pc' := 4) (L' := [some (.ref cT)]) (S' := [.int (g fT_numbered)]) rfl).trans ?_
  exact (fs_ri (n := n + 0) rfl rfl).trans rfl
theorem qT_nodeCount (L : Nat) (xs : Nat → Int32) (m d : Nat) (g : a2_G) (r : a2_A) : ev L xs (m + 1) (d + 1) nT_nodeCount [.ref cT] g r = (some (.inl (some (.int (g fT_numbered))), g, r)) := (fs_ev (M := nm_m39) rfl rfl).trans (eT_nodeCount L xs (m + 1) d m 897 g r)
/-- CobolParser$Tree.unitCount()I -/
theorem eT_unitCount (L : Nat) (xs : Nat → Int32) (m d k : Nat) (n : Nat) (g : a2_G) (r : a2_A) : bk L xs nT_unitCount nm_m40 m d k (n + 3) 0 [some (.ref cT)] [] g r = (some (.inl (some (.int (g fT_units))), g, r)) := by
  refine (fs_r (n := n + 1) 2 (pc' := 4) (L' := [some (.ref cT)]) (S' := [.int (g fT_units)]) rfl).trans ?_
  exact (fs_ri (n := n + 0) rfl rfl).trans rfl
theorem qT_unitCount (L : Nat) (xs : Nat → Int32) (m d : Nat) (g : a2_G) (r : a2_A) : ev L xs (m + 1) (d + 1) nT_unitCount [.ref cT] g r = (some (.inl (some (.int (g fT_units))), g, r)) := (fs_ev (M := nm_m40) rfl rfl).trans (eT_unitCount L xs (m + 1) d m 897 g r)
/-- CobolParser$Row.start()V -/
theorem eR_start (L : Nat) (xs : Nat → Int32) (m d k : Nat) (n : Nat) (g : a2_G) (r : a2_A) : bk L xs nR_start nm_m43 m d k (n + 7) 0 [some (.ref cR)] [] g r = (some (.inl none, (upd (upd g fR_at 0) fR_faultSize 0), r)) := by
  refine (fs_r (n := n + 5) 2 (pc' := 2) (L' := [some (.ref cR)]) (S' := [.int 0, .ref cR]) rfl).trans ?_
  refine (fs_pf (n := n + 4) (ci := 1) (j := 3) rfl rfl rfl rfl).trans ?_
  refine (fs_r (n := n + 2) 2 (pc' := 7) (L' := [some (.ref cR)]) (S' := [.int 0, .ref cR]) rfl).trans ?_
  refine (fs_pf (n := n + 1) (ci := 1) (j := 7) rfl rfl rfl rfl).trans ?_
  exact (fs_rv (n := n + 0) rfl rfl).trans rfl
theorem qR_start (L : Nat) (xs : Nat → Int32) (m d : Nat) (g : a2_G) (r : a2_A) : ev L xs (m + 1) (d + 1) nR_start [.ref cR] g r = (some (.inl none, (upd (upd g fR_at 0) fR_faultSize 0), r)) := (fs_ev (M := nm_m43) rfl rfl).trans (eR_start L xs (m + 1) d m 893 g r)
/-- CobolParser$Tree.start()V -/
theorem eT_start (L : Nat) (xs : Nat → Int32) (m d k : Nat) (n : Nat) (g : a2_G) (r : a2_A) : bk L xs nT_start nm_m44 m d k (n + 19) 0 [some (.ref cT)] [] g r = (fn_v (ev L xs m d nT_make [.ref cT, .int (-1), .int 0, .int (-1)] (upd (upd (upd (upd g fT_made 0) fT_numbered 0) fT_units 0) fT_greatestLevel 0) r) fun v3 g1 r2 => (some (.inl none, g1, r2))) := by
  refine (fs_r (n := n + 17) 2 (pc' := 2) (L' := [some (.ref cT)]) (S' := [.int 0, .ref cT]) rfl).trans ?_
  refine (fs_pf (n := n + 16) (ci := 2) (j := 1) rfl rfl rfl rfl).trans ?_
  refine (fs_r (n := n + 14) 2 (pc' := 7) (L' := [some (.ref cT)]) (S' := [.int 0, .ref cT]) rfl).trans ?_
  refine (fs_pf (n := n + 13) (ci := 2) (j := 2) rfl rfl rfl rfl).trans ?_
  refine (fs_r (n := n + 11) 2 (pc' := 12) (L' := [some (.ref cT)]) (S' := [.int 0, .ref cT]) rfl).trans ?_
  refine (fs_pf (n := n + 10) (ci := 2) (j := 3) rfl rfl rfl rfl).trans ?_
  refine (fs_r (n := n + 8) 2 (pc' := 17) (L' := [some (.ref cT)]) (S' := [.int 0, .ref cT]) rfl).trans ?_
  refine (fs_pf (n := n + 7) (ci := 2) (j := 4) rfl rfl rfl rfl).trans ?_
  refine (fs_r (n := n + 3) 4 (pc' := 24) (L' := [some (.ref cT)]) (S' := [.int (-1), .int 0, .int (-1), .ref cT]) rfl).trans ?_
  refine (fs_cv (n := n + 2) (N := nm_m45) (as := [.ref cT, .int (-1), .int 0, .int (-1)]) (rest := []) rfl rfl (Or.inl rfl) rfl rfl rfl rfl rfl).trans (fs_fv fun v3 g1 r2 => ?_)
  refine (fs_r (n := n + 1) 1 (pc' := 28) (L' := [some (.ref cT)]) (S' := []) rfl).trans ?_
  exact (fs_rv (n := n + 0) rfl rfl).trans rfl
theorem qT_start (L : Nat) (xs : Nat → Int32) (m d : Nat) (g : a2_G) (r : a2_A) : ev L xs (m + 1) (d + 1) nT_start [.ref cT] g r = (fn_v (ev L xs (m + 1) d nT_make [.ref cT, .int (-1), .int 0, .int (-1)] (upd (upd (upd (upd g fT_made 0) fT_numbered 0) fT_units 0) fT_greatestLevel 0) r) fun v3 g1 r2 => (some (.inl none, g1, r2))) := (fs_ev (M := nm_m44) rfl rfl).trans (eT_start L xs (m + 1) d m 881 g r)
/-- CobolParser$Tree.make(III)I -/
def BT_make_43 (L : Nat) (xs : Nat → Int32) (m d k : Nat) (x1 x2 x3 x4 x5 : Int32) (g : a2_G) (r : a2_A) : Option fn_Z := (if am_c2 .ge x5 12 = true then (if am_inr (x4 + 0) (r fT_cells).1 = true then (if am_inr (x4 + 1) (r fT_cells).1 = true then (if am_inr (x4 + 2) (r fT_cells).1 = true then (if am_inr (x4 + 8) (r fT_cells).1 = true then (if am_inr (x4 + 9) (r fT_cells).1 = true then (some (.inl (some (.int (((g fT_made) + 1) - 1))), (upd g fT_made ((g fT_made) + 1)), (a2_ua (a2_ua (a2_ua (a2_ua (a2_ua r fT_cells ((r fT_cells).1, (upd (r fT_cells).2 ((x4 + 0) : Int32).toNatClampNeg x1))) fT_cells ((r fT_cells).1, (upd (upd (r fT_cells).2 ((x4 + 0) : Int32).toNatClampNeg x1) ((x4 + 1) : Int32).toNatClampNeg x2))) fT_cells ((r fT_cells).1, (upd (upd (upd (r fT_cells).2 ((x4 + 0) : Int32).toNatClampNeg x1) ((x4 + 1) : Int32).toNatClampNeg x2) ((x4 + 2) : Int32).toNatClampNeg x3))) fT_cells ((r fT_cells).1, (upd (upd (upd (upd (r fT_cells).2 ((x4 + 0) : Int32).toNatClampNeg x1) ((x4 + 1) : Int32).toNatClampNeg x2) ((x4 + 2) : Int32).toNatClampNeg x3) ((x4 + 8) : Int32).toNatClampNeg 0))) fT_cells ((r fT_cells).1, (upd (upd (upd (upd (upd (r fT_cells).2 ((x4 + 0) : Int32).toNatClampNeg x1) ((x4 + 1) : Int32).toNatClampNeg x2) ((x4 + 2) : Int32).toNatClampNeg x3) ((x4 + 8) : Int32).toNatClampNeg 0) ((x4 + 9) : Int32).toNatClampNeg 0))))) else none) else none) else none) else none) else none) else (if am_inr (x4 + x5) (r fT_cells).1 = true then (lp L xs nT_make nm_m45 m d k 43 [some (.ref cT), some (.int x1), some (.int x2), some (.int x3), some (.int x4), some (.int (x5 + 1))] g (a2_ua r fT_cells ((r fT_cells).1, (upd (r fT_cells).2 ((x4 + x5) : Int32).toNatClampNeg (-1))))) else none))
theorem bT_make_43 (L : Nat) (xs : Nat → Int32) (m d k : Nat) (n : Nat) (x1 x2 x3 x4 x5 : Int32) (g : a2_G) (r : a2_A) : bk L xs nT_make nm_m45 m d k (n + 49) 43 [some (.ref cT), some (.int x1), some (.int x2), some (.int x3), some (.int x4), some (.int x5)] [] g r = BT_make_43 L xs m d k x1 x2 x3 x4 x5 g r := by
  show _ = ((if am_c2 .ge x5 12 = true then (if am_inr (x4 + 0) (r fT_cells).1 = true then (if am_inr (x4 + 1) (r fT_cells).1 = true then (if am_inr (x4 + 2) (r fT_cells).1 = true then (if am_inr (x4 + 8) (r fT_cells).1 = true then (if am_inr (x4 + 9) (r fT_cells).1 = true then (some (.inl (some (.int (((g fT_made) + 1) - 1))), (upd g fT_made ((g fT_made) + 1)), (a2_ua (a2_ua (a2_ua (a2_ua (a2_ua r fT_cells ((r fT_cells).1, (upd (r fT_cells).2 ((x4 + 0) : Int32).toNatClampNeg x1))) fT_cells ((r fT_cells).1, (upd (upd (r fT_cells).2 ((x4 + 0) : Int32).toNatClampNeg x1) ((x4 + 1) : Int32).toNatClampNeg x2))) fT_cells ((r fT_cells).1, (upd (upd (upd (r fT_cells).2 ((x4 + 0) : Int32).toNatClampNeg x1) ((x4 + 1) : Int32).toNatClampNeg x2) ((x4 + 2) : Int32).toNatClampNeg x3))) fT_cells ((r fT_cells).1, (upd (upd (upd (upd (r fT_cells).2 ((x4 + 0) : Int32).toNatClampNeg x1) ((x4 + 1) : Int32).toNatClampNeg x2) ((x4 + 2) : Int32).toNatClampNeg x3) ((x4 + 8) : Int32).toNatClampNeg 0))) fT_cells ((r fT_cells).1, (upd (upd (upd (upd (upd (r fT_cells).2 ((x4 + 0) : Int32).toNatClampNeg x1) ((x4 + 1) : Int32).toNatClampNeg x2) ((x4 + 2) : Int32).toNatClampNeg x3) ((x4 + 8) : Int32).toNatClampNeg 0) ((x4 + 9) : Int32).toNatClampNeg 0))))) else none) else none) else none) else none) else none) else (if am_inr (x4 + x5) (r fT_cells).1 = true then (lp L xs nT_make nm_m45 m d k 43 [some (.ref cT), some (.int x1), some (.int x2), some (.int x3), some (.int x4), some (.int (x5 + 1))] g (a2_ua r fT_cells ((r fT_cells).1, (upd (r fT_cells).2 ((x4 + x5) : Int32).toNatClampNeg (-1))))) else none)) : Option fn_Z)
  refine (fs_r (n := n + 47) 2 (pc' := 47) (L' := [some (.ref cT), some (.int x1), some (.int x2), some (.int x3), some (.int x4), some (.int x5)]) (S' := [.int 12, .int x5]) rfl).trans ?_
  refine (fs_j (n := n + 46) rfl (t := 67) rfl (by decide)).trans (fs_ite ?_ ?_)
  · skip
    refine (fs_r (n := n + 40) 6 (pc' := 76) (L' := [some (.ref cT), some (.int x1), some (.int x2), some (.int x3), some (.int x4), some (.int x5)]) (S' := [.int x1, .int (x4 + 0), .ref 10200]) rfl).trans ?_
    refine (fs_is (n := n + 39) (k := 200) rfl rfl).trans (fs_ite ?_ rfl)
    refine (fs_r (n := n + 33) 6 (pc' := 86) (L' := [some (.ref cT), some (.int x1), some (.int x2), some (.int x3), some (.int x4), some (.int x5)]) (S' := [.int x2, .int (x4 + 1), .ref 10200]) rfl).trans ?_
    refine (fs_is (n := n + 32) (k := 200) rfl rfl).trans (fs_ite ?_ rfl)
    refine (fs_r (n := n + 26) 6 (pc' := 96) (L' := [some (.ref cT), some (.int x1), some (.int x2), some (.int x3), some (.int x4), some (.int x5)]) (S' := [.int x3, .int (x4 + 2), .ref 10200]) rfl).trans ?_
    refine (fs_is (n := n + 25) (k := 200) rfl rfl).trans (fs_ite ?_ rfl)
    refine (fs_r (n := n + 19) 6 (pc' := 107) (L' := [some (.ref cT), some (.int x1), some (.int x2), some (.int x3), some (.int x4), some (.int x5)]) (S' := [.int 0, .int (x4 + 8), .ref 10200]) rfl).trans ?_
    refine (fs_is (n := n + 18) (k := 200) rfl rfl).trans (fs_ite ?_ rfl)
    refine (fs_r (n := n + 12) 6 (pc' := 118) (L' := [some (.ref cT), some (.int x1), some (.int x2), some (.int x3), some (.int x4), some (.int x5)]) (S' := [.int 0, .int (x4 + 9), .ref 10200]) rfl).trans ?_
    refine (fs_is (n := n + 11) (k := 200) rfl rfl).trans (fs_ite ?_ rfl)
    refine (fs_r (n := n + 6) 5 (pc' := 126) (L' := [some (.ref cT), some (.int x1), some (.int x2), some (.int x3), some (.int x4), some (.int x5)]) (S' := [.int ((g fT_made) + 1), .ref cT]) rfl).trans ?_
    refine (fs_pf (n := n + 5) (ci := 2) (j := 1) rfl rfl rfl rfl).trans ?_
    refine (fs_r (n := n + 1) 4 (pc' := 135) (L' := [some (.ref cT), some (.int x1), some (.int x2), some (.int x3), some (.int x4), some (.int x5)]) (S' := [.int (((g fT_made) + 1) - 1)]) rfl).trans ?_
    exact (fs_ri (n := n + 0) rfl rfl).trans rfl
  · skip
    refine (fs_r (n := n + 40) 6 (pc' := 60) (L' := [some (.ref cT), some (.int x1), some (.int x2), some (.int x3), some (.int x4), some (.int x5)]) (S' := [.int (-1), .int (x4 + x5), .ref 10200]) rfl).trans ?_
    refine (fs_is (n := n + 39) (k := 200) rfl rfl).trans (fs_ite ?_ rfl)
    refine (fs_r (n := n + 38) 1 (pc' := 64) (L' := [some (.ref cT), some (.int x1), some (.int x2), some (.int x3), some (.int x4), some (.int (x5 + 1))]) (S' := []) rfl).trans ?_
    exact (fs_gb (n := n + 37) rfl (t := 43) rfl (by decide)).trans rfl
theorem lT_make_43 (L : Nat) (xs : Nat → Int32) (m d k : Nat) (x1 x2 x3 x4 x5 : Int32) (g : a2_G) (r : a2_A) : lp L xs nT_make nm_m45 m d (k + 1) 43 [some (.ref cT), some (.int x1), some (.int x2), some (.int x3), some (.int x4), some (.int x5)] g r = BT_make_43 L xs m d k x1 x2 x3 x4 x5 g r := fs_lp.trans (bT_make_43 L xs m d k 851 x1 x2 x3 x4 x5 g r)
def BT_make_40 (L : Nat) (xs : Nat → Int32) (m d k : Nat) (x1 x2 x3 x4 : Int32) (g : a2_G) (r : a2_A) : Option fn_Z := (BT_make_43 L xs m d k x1 x2 x3 x4 0 g r)
theorem bT_make_40 (L : Nat) (xs : Nat → Int32) (m d k : Nat) (n : Nat) (x1 x2 x3 x4 : Int32) (g : a2_G) (r : a2_A) : bk L xs nT_make nm_m45 m d k (n + 51) 40 [some (.ref cT), some (.int x1), some (.int x2), some (.int x3), some (.int x4), none] [] g r = BT_make_40 L xs m d k x1 x2 x3 x4 g r := by
  show _ = ((BT_make_43 L xs m d k x1 x2 x3 x4 0 g r) : Option fn_Z)
  refine (fs_r (n := n + 49) 2 (pc' := 43) (L' := [some (.ref cT), some (.int x1), some (.int x2), some (.int x3), some (.int x4), some (.int 0)]) (S' := []) rfl).trans ?_
  exact bT_make_43 L xs m d k (n + 0) x1 x2 x3 x4 0 g r
theorem eT_make (L : Nat) (xs : Nat → Int32) (m d k : Nat) (n : Nat) (a1 a2 a3 : Int32) (g : a2_G) (r : a2_A) : bk L xs nT_make nm_m45 m d k (n + 72) 0 [some (.ref cT), some (.int a1), some (.int a2), some (.int a3), none, none] [] g r = (if am_c2 .le (((g fT_made) * 12) + 12) (Int32.ofNat (r fT_cells).1) = true then (BT_make_40 L xs m d k a1 a2 a3 ((g fT_made) * 12) g r) else (if ¬ ((2 * (Int32.ofNat (r fT_cells).1)) : Int32) < 0 ∧ ((2 * (Int32.ofNat (r fT_cells).1)) : Int32).toNatClampNeg ≤ 60000000 ∧ ((2 * (Int32.ofNat (r fT_cells).1)) : Int32).toNatClampNeg ≠ (r fT_cells).1 ∧ (r fT_cells).1 ≤ 60000000 ∧ 0 < (r fT_cells).1 ∧ 2 * (r fT_cells).1 ≤ ((2 * (Int32.ofNat (r fT_cells).1)) : Int32).toNatClampNeg then (BT_make_40 L xs m d k a1 a2 a3 ((g fT_made) * 12) g (a2_ua r fT_cells (a2_cp ((2 * (Int32.ofNat (r fT_cells).1)) : Int32).toNatClampNeg (r fT_cells)))) else none)) := by
  refine (fs_r (n := n + 61) 11 (pc' := 19) (L' := [some (.ref cT), some (.int a1), some (.int a2), some (.int a3), some (.int ((g fT_made) * 12)), none]) (S' := [.int (Int32.ofNat (r fT_cells).1), .int (((g fT_made) * 12) + 12)]) rfl).trans ?_
  refine (fs_j (n := n + 60) rfl (t := 40) rfl (by decide)).trans (fs_ite ?_ ?_)
  · skip
    exact bT_make_40 L xs m d k (n + 9) a1 a2 a3 ((g fT_made) * 12) g r
  · skip
    refine (fs_r (n := n + 52) 8 (pc' := 34) (L' := [some (.ref cT), some (.int a1), some (.int a2), some (.int a3), some (.int ((g fT_made) * 12)), none]) (S' := [.int (2 * (Int32.ofNat (r fT_cells).1)), .ref 10200, .ref cT]) rfl).trans ?_
    refine (fs_cp (n := n + 51) (q := 200) (ci := 2) (j := 0) rfl rfl rfl rfl rfl rfl).trans (fs_ite ?_ rfl)
    exact bT_make_40 L xs m d k (n + 0) a1 a2 a3 ((g fT_made) * 12) g (a2_ua r fT_cells (a2_cp ((2 * (Int32.ofNat (r fT_cells).1)) : Int32).toNatClampNeg (r fT_cells)))
theorem qT_make (L : Nat) (xs : Nat → Int32) (m d : Nat) (a1 a2 a3 : Int32) (g : a2_G) (r : a2_A) : ev L xs (m + 1) (d + 1) nT_make [.ref cT, .int a1, .int a2, .int a3] g r = (if am_c2 .le (((g fT_made) * 12) + 12) (Int32.ofNat (r fT_cells).1) = true then (BT_make_40 L xs (m + 1) d m a1 a2 a3 ((g fT_made) * 12) g r) else (if ¬ ((2 * (Int32.ofNat (r fT_cells).1)) : Int32) < 0 ∧ ((2 * (Int32.ofNat (r fT_cells).1)) : Int32).toNatClampNeg ≤ 60000000 ∧ ((2 * (Int32.ofNat (r fT_cells).1)) : Int32).toNatClampNeg ≠ (r fT_cells).1 ∧ (r fT_cells).1 ≤ 60000000 ∧ 0 < (r fT_cells).1 ∧ 2 * (r fT_cells).1 ≤ ((2 * (Int32.ofNat (r fT_cells).1)) : Int32).toNatClampNeg then (BT_make_40 L xs (m + 1) d m a1 a2 a3 ((g fT_made) * 12) g (a2_ua r fT_cells (a2_cp ((2 * (Int32.ofNat (r fT_cells).1)) : Int32).toNatClampNeg (r fT_cells)))) else none)) := (fs_ev (M := nm_m45) rfl rfl).trans (eT_make L xs (m + 1) d m 828 a1 a2 a3 g r)
/-- CobolParser$Clauses.start()V -/
theorem eC_start (L : Nat) (xs : Nat → Int32) (m d k : Nat) (n : Nat) (g : a2_G) (r : a2_A) : bk L xs nC_start nm_m46 m d k (n + 4) 0 [some (.ref cC)] [] g r = (fn_n (ev L xs m d nU_start [.ref cU] g r) fun g1 r2 => (some (.inl none, g1, r2))) := by
  refine (fs_r (n := n + 2) 2 (pc' := 4) (L' := [some (.ref cC)]) (S' := [.ref cU]) rfl).trans ?_
  refine (fs_cn (n := n + 1) (N := nm_m47) (as := [.ref cU]) (rest := []) rfl rfl (Or.inl rfl) rfl rfl rfl rfl rfl).trans (fs_fn fun g1 r2 => ?_)
  exact (fs_rv (n := n + 0) rfl rfl).trans rfl
theorem qC_start (L : Nat) (xs : Nat → Int32) (m d : Nat) (g : a2_G) (r : a2_A) : ev L xs (m + 1) (d + 1) nC_start [.ref cC] g r = (fn_n (ev L xs (m + 1) d nU_start [.ref cU] g r) fun g1 r2 => (some (.inl none, g1, r2))) := (fs_ev (M := nm_m46) rfl rfl).trans (eC_start L xs (m + 1) d m 896 g r)
/-- CobolParser$Units.start()V -/
theorem eU_start (L : Nat) (xs : Nat → Int32) (m d k : Nat) (n : Nat) (g : a2_G) (r : a2_A) : bk L xs nU_start nm_m47 m d k (n + 4) 0 [some (.ref cU)] [] g r = (some (.inl none, (upd g fU_size 0), r)) := by
  refine (fs_r (n := n + 2) 2 (pc' := 2) (L' := [some (.ref cU)]) (S' := [.int 0, .ref cU]) rfl).trans ?_
  refine (fs_pf (n := n + 1) (ci := 8) (j := 4) rfl rfl rfl rfl).trans ?_
  exact (fs_rv (n := n + 0) rfl rfl).trans rfl
theorem qU_start (L : Nat) (xs : Nat → Int32) (m d : Nat) (g : a2_G) (r : a2_A) : ev L xs (m + 1) (d + 1) nU_start [.ref cU] g r = (some (.inl none, (upd g fU_size 0), r)) := (fs_ev (M := nm_m47) rfl rfl).trans (eU_start L xs (m + 1) d m 896 g r)
/-- CobolParser$Row.goesOn()Z -/
def BR_goesOn_25 (L : Nat) (xs : Nat → Int32) (m d k : Nat) (x1 : Int32) (g : a2_G) (r : a2_A) : Option fn_Z := (if x1 = 0 ∨ x1 = 1 then some (.inl (some (.int x1)), g, r) else none)
theorem bR_goesOn_25 (L : Nat) (xs : Nat → Int32) (m d k : Nat) (n : Nat) (x1 : Int32) (g : a2_G) (r : a2_A) : bk L xs nR_goesOn nm_m48 m d k (n + 1) 25 [some (.ref cR)] [.int x1] g r = BR_goesOn_25 L xs m d k x1 g r := by
  show _ = ((if x1 = 0 ∨ x1 = 1 then some (.inl (some (.int x1)), g, r) else none) : Option fn_Z)
  exact (fs_rb (n := n + 0) rfl rfl).trans rfl
def BR_goesOn_24 (L : Nat) (xs : Nat → Int32) (m d k : Nat) (g : a2_G) (r : a2_A) : Option fn_Z := (BR_goesOn_25 L xs m d k 0 g r)
theorem bR_goesOn_24 (L : Nat) (xs : Nat → Int32) (m d k : Nat) (n : Nat) (g : a2_G) (r : a2_A) : bk L xs nR_goesOn nm_m48 m d k (n + 2) 24 [some (.ref cR)] [] g r = BR_goesOn_24 L xs m d k g r := by
  show _ = ((BR_goesOn_25 L xs m d k 0 g r) : Option fn_Z)
  refine (fs_r (n := n + 1) 1 (pc' := 25) (L' := [some (.ref cR)]) (S' := [.int 0]) rfl).trans ?_
  exact bR_goesOn_25 L xs m d k (n + 0) 0 g r
theorem eR_goesOn (L : Nat) (xs : Nat → Int32) (m d k : Nat) (n : Nat) (g : a2_G) (r : a2_A) : bk L xs nR_goesOn nm_m48 m d k (n + 12) 0 [some (.ref cR)] [] g r = (if am_c2 .ge (g fR_at) (g fR_size) = true then (BR_goesOn_24 L xs m d k g r) else (if am_c2 .ge (g fR_faultSize) 20 = true then (BR_goesOn_24 L xs m d k g r) else (BR_goesOn_25 L xs m d k 1 g r))) := by
  refine (fs_r (n := n + 8) 4 (pc' := 8) (L' := [some (.ref cR)]) (S' := [.int (g fR_size), .int (g fR_at)]) rfl).trans ?_
  refine (fs_j (n := n + 7) rfl (t := 24) rfl (by decide)).trans (fs_ite ?_ ?_)
  · skip
    exact bR_goesOn_24 L xs m d k (n + 5) g r
  · skip
    refine (fs_r (n := n + 4) 3 (pc' := 17) (L' := [some (.ref cR)]) (S' := [.int 20, .int (g fR_faultSize)]) rfl).trans ?_
    refine (fs_j (n := n + 3) rfl (t := 24) rfl (by decide)).trans (fs_ite ?_ ?_)
    · skip
      exact bR_goesOn_24 L xs m d k (n + 1) g r
    · skip
      refine (fs_r (n := n + 2) 1 (pc' := 21) (L' := [some (.ref cR)]) (S' := [.int 1]) rfl).trans ?_
      refine (fs_go (n := n + 1) rfl (t := 25) rfl (by decide)).trans ?_
      exact bR_goesOn_25 L xs m d k (n + 0) 1 g r
theorem qR_goesOn (L : Nat) (xs : Nat → Int32) (m d : Nat) (g : a2_G) (r : a2_A) : ev L xs (m + 1) (d + 1) nR_goesOn [.ref cR] g r = (if am_c2 .ge (g fR_at) (g fR_size) = true then (BR_goesOn_24 L xs (m + 1) d m g r) else (if am_c2 .ge (g fR_faultSize) 20 = true then (BR_goesOn_24 L xs (m + 1) d m g r) else (BR_goesOn_25 L xs (m + 1) d m 1 g r))) := (fs_ev (M := nm_m48) rfl rfl).trans (eR_goesOn L xs (m + 1) d m 888 g r)
/-- CobolParser$Clauses.readClause()V -/
def BC_readClause_89 (L : Nat) (xs : Nat → Int32) (m d k : Nat) (g : a2_G) (r : a2_A) : Option fn_Z := (some (.inl none, g, r))
theorem bC_readClause_89 (L : Nat) (xs : Nat → Int32) (m d k : Nat) (n : Nat) (g : a2_G) (r : a2_A) : bk L xs nC_readClause nm_m49 m d k (n + 1) 89 [some (.ref cC)] [] g r = BC_readClause_89 L xs m d k g r := by
  show _ = ((some (.inl none, g, r)) : Option fn_Z)
  exact (fs_rv (n := n + 0) rfl rfl).trans rfl
theorem eC_readClause (L : Nat) (xs : Nat → Int32) (m d k : Nat) (n : Nat) (g : a2_G) (r : a2_A) : bk L xs nC_readClause nm_m49 m d k (n + 24) 0 [some (.ref cC)] [] g r = (fn_v (ev L xs m d nR_isKind [.ref cR, .int 1] g r) fun v3 g1 r2 => (if am_c2 .eq v3 0 = true then (fn_v (ev L xs m d nR_isKind [.ref cR, .int 2] g1 r2) fun v6 g4 r5 => (if am_c2 .eq v6 0 = true then (fn_v (ev L xs m d nS_isNext [.ref cS] g4 r5) fun v9 g7 r8 => (if am_c2 .eq v9 0 = true then (fn_v (ev L xs m d nR_isKind [.ref cR, .int 0] g7 r8) fun v12 g10 r11 => (if am_c2 .eq v12 0 = true then (fn_n (ev L xs m d nR_refuse [.ref cR, .int 1] g10 r11) fun g13 r14 => (BC_readClause_89 L xs m d k g13 r14)) else (fn_n (ev L xs m d nC_reservedClause [.ref cC] g10 r11) fun g15 r16 => (BC_readClause_89 L xs m d k g15 r16)))) else (fn_n (ev L xs m d nC_sentence [.ref cC] g7 r8) fun g17 r18 => (BC_readClause_89 L xs m d k g17 r18)))) else (fn_n (ev L xs m d nC_requireState [.ref cC, .int 5, .int 7] g4 r5) fun g19 r20 => (fn_n (ev L xs m d nI_readItem [.ref cI] g19 r20) fun g21 r22 => (BC_readClause_89 L xs m d k g21 r22))))) else (fn_n (ev L xs m d nC_sectionOrParagraph [.ref cC] g1 r2) fun g23 r24 => (BC_readClause_89 L xs m d k g23 r24)))) := by
  refine (fs_r (n := n + 21) 3 (pc' := 5) (L' := [some (.ref cC)]) (S' := [.int 1, .ref cR]) rfl).trans ?_
  refine (fs_cv (n := n + 20) (N := nm_m50) (as := [.ref cR, .int 1]) (rest := []) rfl rfl (Or.inl rfl) rfl rfl rfl rfl rfl).trans (fs_fv fun v3 g1 r2 => ?_)
  refine (fs_i (n := n + 19) rfl (t := 18) rfl (by decide)).trans (fs_ite ?_ ?_)
  · skip
    refine (fs_r (n := n + 16) 3 (pc' := 23) (L' := [some (.ref cC)]) (S' := [.int 2, .ref cR]) rfl).trans ?_
    refine (fs_cv (n := n + 15) (N := nm_m50) (as := [.ref cR, .int 2]) (rest := []) rfl rfl (Or.inl rfl) rfl rfl rfl rfl rfl).trans (fs_fv fun v6 g4 r5 => ?_)
    refine (fs_i (n := n + 14) rfl (t := 46) rfl (by decide)).trans (fs_ite ?_ ?_)
    · skip
      refine (fs_r (n := n + 12) 2 (pc' := 50) (L' := [some (.ref cC)]) (S' := [.ref cS]) rfl).trans ?_
      refine (fs_cv (n := n + 11) (N := nm_m85) (as := [.ref cS]) (rest := []) rfl rfl (Or.inl rfl) rfl rfl rfl rfl rfl).trans (fs_fv fun v9 g7 r8 => ?_)
      refine (fs_i (n := n + 10) rfl (t := 63) rfl (by decide)).trans (fs_ite ?_ ?_)
      · skip
        refine (fs_r (n := n + 7) 3 (pc' := 68) (L' := [some (.ref cC)]) (S' := [.int 0, .ref cR]) rfl).trans ?_
        refine (fs_cv (n := n + 6) (N := nm_m50) (as := [.ref cR, .int 0]) (rest := []) rfl rfl (Or.inl rfl) rfl rfl rfl rfl rfl).trans (fs_fv fun v12 g10 r11 => ?_)
        refine (fs_i (n := n + 5) rfl (t := 81) rfl (by decide)).trans (fs_ite ?_ ?_)
        · skip
          refine (fs_r (n := n + 2) 3 (pc' := 86) (L' := [some (.ref cC)]) (S' := [.int 1, .ref cR]) rfl).trans ?_
          refine (fs_cn (n := n + 1) (N := nm_m56) (as := [.ref cR, .int 1]) (rest := []) rfl rfl (Or.inl rfl) rfl rfl rfl rfl rfl).trans (fs_fn fun g13 r14 => ?_)
          exact bC_readClause_89 L xs m d k (n + 0) g13 r14
        · skip
          refine (fs_r (n := n + 4) 1 (pc' := 75) (L' := [some (.ref cC)]) (S' := [.ref cC]) rfl).trans ?_
          refine (fs_cn (n := n + 3) (N := nm_m124) (as := [.ref cC]) (rest := []) rfl rfl (Or.inl rfl) rfl rfl rfl rfl rfl).trans (fs_fn fun g15 r16 => ?_)
          refine (fs_go (n := n + 2) rfl (t := 89) rfl (by decide)).trans ?_
          exact bC_readClause_89 L xs m d k (n + 1) g15 r16
      · skip
        refine (fs_r (n := n + 9) 1 (pc' := 57) (L' := [some (.ref cC)]) (S' := [.ref cC]) rfl).trans ?_
        refine (fs_cn (n := n + 8) (N := nm_m86) (as := [.ref cC]) (rest := []) rfl rfl (Or.inl rfl) rfl rfl rfl rfl rfl).trans (fs_fn fun g17 r18 => ?_)
        refine (fs_go (n := n + 7) rfl (t := 89) rfl (by decide)).trans ?_
        exact bC_readClause_89 L xs m d k (n + 6) g17 r18
    · skip
      refine (fs_r (n := n + 11) 3 (pc' := 33) (L' := [some (.ref cC)]) (S' := [.int 7, .int 5, .ref cC]) rfl).trans ?_
      refine (fs_cn (n := n + 10) (N := nm_m53) (as := [.ref cC, .int 5, .int 7]) (rest := []) rfl rfl (Or.inl rfl) rfl rfl rfl rfl rfl).trans (fs_fn fun g19 r20 => ?_)
      refine (fs_r (n := n + 8) 2 (pc' := 40) (L' := [some (.ref cC)]) (S' := [.ref cI]) rfl).trans ?_
      refine (fs_cn (n := n + 7) (N := nm_m66) (as := [.ref cI]) (rest := []) rfl rfl (Or.inl rfl) rfl rfl rfl rfl rfl).trans (fs_fn fun g21 r22 => ?_)
      refine (fs_go (n := n + 6) rfl (t := 89) rfl (by decide)).trans ?_
      exact bC_readClause_89 L xs m d k (n + 5) g21 r22
  · skip
    refine (fs_r (n := n + 18) 1 (pc' := 12) (L' := [some (.ref cC)]) (S' := [.ref cC]) rfl).trans ?_
    refine (fs_cn (n := n + 17) (N := nm_m51) (as := [.ref cC]) (rest := []) rfl rfl (Or.inl rfl) rfl rfl rfl rfl rfl).trans (fs_fn fun g23 r24 => ?_)
    refine (fs_go (n := n + 16) rfl (t := 89) rfl (by decide)).trans ?_
    exact bC_readClause_89 L xs m d k (n + 15) g23 r24
theorem qC_readClause (L : Nat) (xs : Nat → Int32) (m d : Nat) (g : a2_G) (r : a2_A) : ev L xs (m + 1) (d + 1) nC_readClause [.ref cC] g r = (fn_v (ev L xs (m + 1) d nR_isKind [.ref cR, .int 1] g r) fun v3 g1 r2 => (if am_c2 .eq v3 0 = true then (fn_v (ev L xs (m + 1) d nR_isKind [.ref cR, .int 2] g1 r2) fun v6 g4 r5 => (if am_c2 .eq v6 0 = true then (fn_v (ev L xs (m + 1) d nS_isNext [.ref cS] g4 r5) fun v9 g7 r8 => (if am_c2 .eq v9 0 = true then (fn_v (ev L xs (m + 1) d nR_isKind [.ref cR, .int 0] g7 r8) fun v12 g10 r11 => (if am_c2 .eq v12 0 = true then (fn_n (ev L xs (m + 1) d nR_refuse [.ref cR, .int 1] g10 r11) fun g13 r14 => (BC_readClause_89 L xs (m + 1) d m g13 r14)) else (fn_n (ev L xs (m + 1) d nC_reservedClause [.ref cC] g10 r11) fun g15 r16 => (BC_readClause_89 L xs (m + 1) d m g15 r16)))) else (fn_n (ev L xs (m + 1) d nC_sentence [.ref cC] g7 r8) fun g17 r18 => (BC_readClause_89 L xs (m + 1) d m g17 r18)))) else (fn_n (ev L xs (m + 1) d nC_requireState [.ref cC, .int 5, .int 7] g4 r5) fun g19 r20 => (fn_n (ev L xs (m + 1) d nI_readItem [.ref cI] g19 r20) fun g21 r22 => (BC_readClause_89 L xs (m + 1) d m g21 r22))))) else (fn_n (ev L xs (m + 1) d nC_sectionOrParagraph [.ref cC] g1 r2) fun g23 r24 => (BC_readClause_89 L xs (m + 1) d m g23 r24)))) := (fs_ev (M := nm_m49) rfl rfl).trans (eC_readClause L xs (m + 1) d m 876 g r)
/-- CobolParser$Row.isKind(I)Z -/
def BR_isKind_29 (L : Nat) (xs : Nat → Int32) (m d k : Nat) (x1 x2 : Int32) (g : a2_G) (r : a2_A) : Option fn_Z := (if x2 = 0 ∨ x2 = 1 then some (.inl (some (.int x2)), g, r) else none)
theorem bR_isKind_29 (L : Nat) (xs : Nat → Int32) (m d k : Nat) (n : Nat) (x1 x2 : Int32) (g : a2_G) (r : a2_A) : bk L xs nR_isKind nm_m50 m d k (n + 1) 29 [some (.ref cR), some (.int x1)] [.int x2] g r = BR_isKind_29 L xs m d k x1 x2 g r := by
  show _ = ((if x2 = 0 ∨ x2 = 1 then some (.inl (some (.int x2)), g, r) else none) : Option fn_Z)
  exact (fs_rb (n := n + 0) rfl rfl).trans rfl
def BR_isKind_28 (L : Nat) (xs : Nat → Int32) (m d k : Nat) (x1 : Int32) (g : a2_G) (r : a2_A) : Option fn_Z := (BR_isKind_29 L xs m d k x1 0 g r)
theorem bR_isKind_28 (L : Nat) (xs : Nat → Int32) (m d k : Nat) (n : Nat) (x1 : Int32) (g : a2_G) (r : a2_A) : bk L xs nR_isKind nm_m50 m d k (n + 2) 28 [some (.ref cR), some (.int x1)] [] g r = BR_isKind_28 L xs m d k x1 g r := by
  show _ = ((BR_isKind_29 L xs m d k x1 0 g r) : Option fn_Z)
  refine (fs_r (n := n + 1) 1 (pc' := 29) (L' := [some (.ref cR), some (.int x1)]) (S' := [.int 0]) rfl).trans ?_
  exact bR_isKind_29 L xs m d k (n + 0) x1 0 g r
theorem eR_isKind (L : Nat) (xs : Nat → Int32) (m d k : Nat) (n : Nat) (a1 : Int32) (g : a2_G) (r : a2_A) : bk L xs nR_isKind nm_m50 m d k (n + 15) 0 [some (.ref cR), some (.int a1)] [] g r = (if am_c2 .ge (g fR_at) (g fR_size) = true then (BR_isKind_28 L xs m d k a1 g r) else (if am_inr (g fR_at) (r fR_kinds).1 = true then (if am_c2 .ne ((r fR_kinds).2 ((g fR_at) : Int32).toNatClampNeg) a1 = true then (BR_isKind_28 L xs m d k a1 g r) else (BR_isKind_29 L xs m d k a1 1 g r)) else none)) := by
  refine (fs_r (n := n + 11) 4 (pc' := 8) (L' := [some (.ref cR), some (.int a1)]) (S' := [.int (g fR_size), .int (g fR_at)]) rfl).trans ?_
  refine (fs_j (n := n + 10) rfl (t := 28) rfl (by decide)).trans (fs_ite ?_ ?_)
  · skip
    exact bR_isKind_28 L xs m d k (n + 8) a1 g r
  · skip
    refine (fs_r (n := n + 6) 4 (pc' := 19) (L' := [some (.ref cR), some (.int a1)]) (S' := [.int (g fR_at), .ref 10100]) rfl).trans ?_
    refine (fs_il (n := n + 5) (k := 100) rfl rfl).trans (fs_ite ?_ rfl)
    refine (fs_r (n := n + 4) 1 (pc' := 21) (L' := [some (.ref cR), some (.int a1)]) (S' := [.int a1, .int ((r fR_kinds).2 ((g fR_at) : Int32).toNatClampNeg)]) rfl).trans ?_
    refine (fs_j (n := n + 3) rfl (t := 28) rfl (by decide)).trans (fs_ite ?_ ?_)
    · skip
      exact bR_isKind_28 L xs m d k (n + 1) a1 g r
    · skip
      refine (fs_r (n := n + 2) 1 (pc' := 25) (L' := [some (.ref cR), some (.int a1)]) (S' := [.int 1]) rfl).trans ?_
      refine (fs_go (n := n + 1) rfl (t := 29) rfl (by decide)).trans ?_
      exact bR_isKind_29 L xs m d k (n + 0) a1 1 g r
theorem qR_isKind (L : Nat) (xs : Nat → Int32) (m d : Nat) (a1 : Int32) (g : a2_G) (r : a2_A) : ev L xs (m + 1) (d + 1) nR_isKind [.ref cR, .int a1] g r = (if am_c2 .ge (g fR_at) (g fR_size) = true then (BR_isKind_28 L xs (m + 1) d m a1 g r) else (if am_inr (g fR_at) (r fR_kinds).1 = true then (if am_c2 .ne ((r fR_kinds).2 ((g fR_at) : Int32).toNatClampNeg) a1 = true then (BR_isKind_28 L xs (m + 1) d m a1 g r) else (BR_isKind_29 L xs (m + 1) d m a1 1 g r)) else none)) := (fs_ev (M := nm_m50) rfl rfl).trans (eR_isKind L xs (m + 1) d m 885 a1 g r)
/-- CobolParser$Clauses.sectionOrParagraph()V -/
def BC_sectionOrParagraph_174 (L : Nat) (xs : Nat → Int32) (m d k : Nat) (x1 x2 x3 : Int32) (g : a2_G) (r : a2_A) : Option fn_Z := (fn_n (ev L xs m d nC_enterBody [.ref cC] g r) fun g25 r26 => (some (.inl none, g25, r26)))
theorem bC_sectionOrParagraph_174 (L : Nat) (xs : Nat → Int32) (m d k : Nat) (n : Nat) (x1 x2 x3 : Int32) (g : a2_G) (r : a2_A) : bk L xs nC_sectionOrParagraph nm_m51 m d k (n + 3) 174 [some (.ref cC), some (.int x1), some (.int x2), some (.int x3)] [] g r = BC_sectionOrParagraph_174 L xs m d k x1 x2 x3 g r := by
  show _ = ((fn_n (ev L xs m d nC_enterBody [.ref cC] g r) fun g25 r26 => (some (.inl none, g25, r26))) : Option fn_Z)
  refine (fs_r (n := n + 2) 1 (pc' := 175) (L' := [some (.ref cC), some (.int x1), some (.int x2), some (.int x3)]) (S' := [.ref cC]) rfl).trans ?_
  refine (fs_cn (n := n + 1) (N := nm_m64) (as := [.ref cC]) (rest := []) rfl rfl (Or.inl rfl) rfl rfl rfl rfl rfl).trans (fs_fn fun g25 r26 => ?_)
  exact (fs_rv (n := n + 0) rfl rfl).trans rfl
def BC_sectionOrParagraph_165 (L : Nat) (xs : Nat → Int32) (m d k : Nat) (x1 x2 x3 x4 : Int32) (g : a2_G) (r : a2_A) : Option fn_Z := (fn_n (ev L xs m d nT_append [.ref cT, .int x4, .int x3] g r) fun g23 r24 => (BC_sectionOrParagraph_174 L xs m d k x1 x2 x3 (upd g23 fC_paragraph x3) r24))
theorem bC_sectionOrParagraph_165 (L : Nat) (xs : Nat → Int32) (m d k : Nat) (n : Nat) (x1 x2 x3 x4 : Int32) (g : a2_G) (r : a2_A) : bk L xs nC_sectionOrParagraph nm_m51 m d k (n + 8) 165 [some (.ref cC), some (.int x1), some (.int x2), some (.int x3)] [.int x4, .ref cT] g r = BC_sectionOrParagraph_165 L xs m d k x1 x2 x3 x4 g r := by
  show _ = ((fn_n (ev L xs m d nT_append [.ref cT, .int x4, .int x3] g r) fun g23 r24 => (BC_sectionOrParagraph_174 L xs m d k x1 x2 x3 (upd g23 fC_paragraph x3) r24)) : Option fn_Z)
  refine (fs_r (n := n + 7) 1 (pc' := 166) (L' := [some (.ref cC), some (.int x1), some (.int x2), some (.int x3)]) (S' := [.int x3, .int x4, .ref cT]) rfl).trans ?_
  refine (fs_cn (n := n + 6) (N := nm_m63) (as := [.ref cT, .int x4, .int x3]) (rest := []) rfl rfl (Or.inl rfl) rfl rfl rfl rfl rfl).trans (fs_fn fun g23 r24 => ?_)
  refine (fs_r (n := n + 4) 2 (pc' := 171) (L' := [some (.ref cC), some (.int x1), some (.int x2), some (.int x3)]) (S' := [.int x3, .ref cC]) rfl).trans ?_
  refine (fs_pf (n := n + 3) (ci := 6) (j := 9) rfl rfl rfl rfl).trans ?_
  exact bC_sectionOrParagraph_174 L xs m d k (n + 0) x1 x2 x3 (upd g23 fC_paragraph x3) r24
def BC_sectionOrParagraph_125 (L : Nat) (xs : Nat → Int32) (m d k : Nat) (x1 x2 x3 x4 : Int32) (g : a2_G) (r : a2_A) : Option fn_Z := (fn_n (ev L xs m d nT_append [.ref cT, .int x4, .int x3] g r) fun g30 r31 => (BC_sectionOrParagraph_174 L xs m d k x1 x2 x3 (upd (upd g30 fC_section x3) fC_paragraph (-1)) r31))
theorem bC_sectionOrParagraph_125 (L : Nat) (xs : Nat → Int32) (m d k : Nat) (n : Nat) (x1 x2 x3 x4 : Int32) (g : a2_G) (r : a2_A) : bk L xs nC_sectionOrParagraph nm_m51 m d k (n + 12) 125 [some (.ref cC), some (.int x1), some (.int x2), some (.int x3)] [.int x4, .ref cT] g r = BC_sectionOrParagraph_125 L xs m d k x1 x2 x3 x4 g r := by
  show _ = ((fn_n (ev L xs m d nT_append [.ref cT, .int x4, .int x3] g r) fun g30 r31 => (BC_sectionOrParagraph_174 L xs m d k x1 x2 x3 (upd (upd g30 fC_section x3) fC_paragraph (-1)) r31)) : Option fn_Z)
  refine (fs_r (n := n + 11) 1 (pc' := 126) (L' := [some (.ref cC), some (.int x1), some (.int x2), some (.int x3)]) (S' := [.int x3, .int x4, .ref cT]) rfl).trans ?_
  refine (fs_cn (n := n + 10) (N := nm_m63) (as := [.ref cT, .int x4, .int x3]) (rest := []) rfl rfl (Or.inl rfl) rfl rfl rfl rfl rfl).trans (fs_fn fun g30 r31 => ?_)
  refine (fs_r (n := n + 8) 2 (pc' := 131) (L' := [some (.ref cC), some (.int x1), some (.int x2), some (.int x3)]) (S' := [.int x3, .ref cC]) rfl).trans ?_
  refine (fs_pf (n := n + 7) (ci := 6) (j := 8) rfl rfl rfl rfl).trans ?_
  refine (fs_r (n := n + 5) 2 (pc' := 136) (L' := [some (.ref cC), some (.int x1), some (.int x2), some (.int x3)]) (S' := [.int (-1), .ref cC]) rfl).trans ?_
  refine (fs_pf (n := n + 4) (ci := 6) (j := 9) rfl rfl rfl rfl).trans ?_
  refine (fs_go (n := n + 3) rfl (t := 174) rfl (by decide)).trans ?_
  exact bC_sectionOrParagraph_174 L xs m d k (n + 0) x1 x2 x3 (upd (upd g30 fC_section x3) fC_paragraph (-1)) r31
def BC_sectionOrParagraph_62 (L : Nat) (xs : Nat → Int32) (m d k : Nat) (x1 x2 x3 : Int32) (g : a2_G) (r : a2_A) : Option fn_Z := (fn_v (ev L xs m d nR_requireKind [.ref cR, .int 1] g r) fun v13 g11 r12 => (fn_v (ev L xs m d nT_make [.ref cT, .int x3, .int v13, .int x2] g11 r12) fun v16 g14 r15 => (fn_v (ev L xs m d nR_skip [.ref cR, .int 16] g14 r15) fun v19 g17 r18 => (fn_v (ev L xs m d nR_requireKind [.ref cR, .int 4] g17 r18) fun v22 g20 r21 => (if am_c2 .eq x1 0 = true then (if am_c2 .ne (g20 fC_section) (-1) = true then (BC_sectionOrParagraph_165 L xs m d k x1 x2 v16 (g20 fC_section) g20 r21) else (BC_sectionOrParagraph_165 L xs m d k x1 x2 v16 (g20 fC_openDivision) g20 r21)) else (fn_v (ev L xs m d nU_state [.ref cU] g20 r21) fun v29 g27 r28 => (if am_c2 .ne v29 9 = true then (BC_sectionOrParagraph_125 L xs m d k x1 x2 v16 (g27 fC_openDivision) g27 r28) else (BC_sectionOrParagraph_125 L xs m d k x1 x2 v16 (g27 fC_declaratives) g27 r28))))))))
theorem bC_sectionOrParagraph_62 (L : Nat) (xs : Nat → Int32) (m d k : Nat) (n : Nat) (x1 x2 x3 : Int32) (g : a2_G) (r : a2_A) : bk L xs nC_sectionOrParagraph nm_m51 m d k (n + 41) 62 [some (.ref cC), some (.int x1), some (.int x2), none] [.int x3, .ref cT] g r = BC_sectionOrParagraph_62 L xs m d k x1 x2 x3 g r := by
  show _ = ((fn_v (ev L xs m d nR_requireKind [.ref cR, .int 1] g r) fun v13 g11 r12 => (fn_v (ev L xs m d nT_make [.ref cT, .int x3, .int v13, .int x2] g11 r12) fun v16 g14 r15 => (fn_v (ev L xs m d nR_skip [.ref cR, .int 16] g14 r15) fun v19 g17 r18 => (fn_v (ev L xs m d nR_requireKind [.ref cR, .int 4] g17 r18) fun v22 g20 r21 => (if am_c2 .eq x1 0 = true then (if am_c2 .ne (g20 fC_section) (-1) = true then (BC_sectionOrParagraph_165 L xs m d k x1 x2 v16 (g20 fC_section) g20 r21) else (BC_sectionOrParagraph_165 L xs m d k x1 x2 v16 (g20 fC_openDivision) g20 r21)) else (fn_v (ev L xs m d nU_state [.ref cU] g20 r21) fun v29 g27 r28 => (if am_c2 .ne v29 9 = true then (BC_sectionOrParagraph_125 L xs m d k x1 x2 v16 (g27 fC_openDivision) g27 r28) else (BC_sectionOrParagraph_125 L xs m d k x1 x2 v16 (g27 fC_declaratives) g27 r28)))))))) : Option fn_Z)
  refine (fs_r (n := n + 38) 3 (pc' := 67) (L' := [some (.ref cC), some (.int x1), some (.int x2), none]) (S' := [.int 1, .ref cR, .int x3, .ref cT]) rfl).trans ?_
  refine (fs_cv (n := n + 37) (N := nm_m59) (as := [.ref cR, .int 1]) (rest := [.int x3, .ref cT]) rfl rfl (Or.inl rfl) rfl rfl rfl rfl rfl).trans (fs_fv fun v13 g11 r12 => ?_)
  refine (fs_r (n := n + 36) 1 (pc' := 71) (L' := [some (.ref cC), some (.int x1), some (.int x2), none]) (S' := [.int x2, .int v13, .int x3, .ref cT]) rfl).trans ?_
  refine (fs_cv (n := n + 35) (N := nm_m45) (as := [.ref cT, .int x3, .int v13, .int x2]) (rest := []) rfl rfl (Or.inl rfl) rfl rfl rfl rfl rfl).trans (fs_fv fun v16 g14 r15 => ?_)
  refine (fs_r (n := n + 31) 4 (pc' := 81) (L' := [some (.ref cC), some (.int x1), some (.int x2), some (.int v16)]) (S' := [.int 16, .ref cR]) rfl).trans ?_
  refine (fs_cv (n := n + 30) (N := nm_m62) (as := [.ref cR, .int 16]) (rest := []) rfl rfl (Or.inl rfl) rfl rfl rfl rfl rfl).trans (fs_fv fun v19 g17 r18 => ?_)
  refine (fs_r (n := n + 26) 4 (pc' := 90) (L' := [some (.ref cC), some (.int x1), some (.int x2), some (.int v16)]) (S' := [.int 4, .ref cR]) rfl).trans ?_
  refine (fs_cv (n := n + 25) (N := nm_m59) (as := [.ref cR, .int 4]) (rest := []) rfl rfl (Or.inl rfl) rfl rfl rfl rfl rfl).trans (fs_fv fun v22 g20 r21 => ?_)
  refine (fs_r (n := n + 23) 2 (pc' := 95) (L' := [some (.ref cC), some (.int x1), some (.int x2), some (.int v16)]) (S' := [.int x1]) rfl).trans ?_
  refine (fs_i (n := n + 22) rfl (t := 142) rfl (by decide)).trans (fs_ite ?_ ?_)
  · skip
    refine (fs_r (n := n + 17) 5 (pc' := 151) (L' := [some (.ref cC), some (.int x1), some (.int x2), some (.int v16)]) (S' := [.int (-1), .int (g20 fC_section), .ref cT]) rfl).trans ?_
    refine (fs_j (n := n + 16) rfl (t := 161) rfl (by decide)).trans (fs_ite ?_ ?_)
    · skip
      refine (fs_r (n := n + 14) 2 (pc' := 165) (L' := [some (.ref cC), some (.int x1), some (.int x2), some (.int v16)]) (S' := [.int (g20 fC_section), .ref cT]) rfl).trans ?_
      exact bC_sectionOrParagraph_165 L xs m d k (n + 6) x1 x2 v16 (g20 fC_section) g20 r21
    · skip
      refine (fs_r (n := n + 14) 2 (pc' := 158) (L' := [some (.ref cC), some (.int x1), some (.int x2), some (.int v16)]) (S' := [.int (g20 fC_openDivision), .ref cT]) rfl).trans ?_
      refine (fs_go (n := n + 13) rfl (t := 165) rfl (by decide)).trans ?_
      exact bC_sectionOrParagraph_165 L xs m d k (n + 5) x1 x2 v16 (g20 fC_openDivision) g20 r21
  · skip
    refine (fs_r (n := n + 18) 4 (pc' := 106) (L' := [some (.ref cC), some (.int x1), some (.int x2), some (.int v16)]) (S' := [.ref cU, .ref cT]) rfl).trans ?_
    refine (fs_cv (n := n + 17) (N := nm_m54) (as := [.ref cU]) (rest := [.ref cT]) rfl rfl (Or.inl rfl) rfl rfl rfl rfl rfl).trans (fs_fv fun v29 g27 r28 => ?_)
    refine (fs_r (n := n + 16) 1 (pc' := 111) (L' := [some (.ref cC), some (.int x1), some (.int x2), some (.int v16)]) (S' := [.int 9, .int v29, .ref cT]) rfl).trans ?_
    refine (fs_j (n := n + 15) rfl (t := 121) rfl (by decide)).trans (fs_ite ?_ ?_)
    · skip
      refine (fs_r (n := n + 13) 2 (pc' := 125) (L' := [some (.ref cC), some (.int x1), some (.int x2), some (.int v16)]) (S' := [.int (g27 fC_openDivision), .ref cT]) rfl).trans ?_
      exact bC_sectionOrParagraph_125 L xs m d k (n + 1) x1 x2 v16 (g27 fC_openDivision) g27 r28
    · skip
      refine (fs_r (n := n + 13) 2 (pc' := 118) (L' := [some (.ref cC), some (.int x1), some (.int x2), some (.int v16)]) (S' := [.int (g27 fC_declaratives), .ref cT]) rfl).trans ?_
      refine (fs_go (n := n + 12) rfl (t := 125) rfl (by decide)).trans ?_
      exact bC_sectionOrParagraph_125 L xs m d k (n + 0) x1 x2 v16 (g27 fC_declaratives) g27 r28
def BC_sectionOrParagraph_36 (L : Nat) (xs : Nat → Int32) (m d k : Nat) (x1 x2 : Int32) (g : a2_G) (r : a2_A) : Option fn_Z := (fn_n (ev L xs m d nC_requireThat [.ref cC, .int x2] g r) fun g6 r7 => (fn_v (ev L xs m d nR_place [.ref cR] g6 r7) fun v10 g8 r9 => (if am_c2 .eq x1 0 = true then (BC_sectionOrParagraph_62 L xs m d k x1 v10 24 g8 r9) else (BC_sectionOrParagraph_62 L xs m d k x1 v10 23 g8 r9))))
theorem bC_sectionOrParagraph_36 (L : Nat) (xs : Nat → Int32) (m d k : Nat) (n : Nat) (x1 x2 : Int32) (g : a2_G) (r : a2_A) : bk L xs nC_sectionOrParagraph nm_m51 m d k (n + 52) 36 [some (.ref cC), some (.int x1), none, none] [.int x2, .ref cC] g r = BC_sectionOrParagraph_36 L xs m d k x1 x2 g r := by
  show _ = ((fn_n (ev L xs m d nC_requireThat [.ref cC, .int x2] g r) fun g6 r7 => (fn_v (ev L xs m d nR_place [.ref cR] g6 r7) fun v10 g8 r9 => (if am_c2 .eq x1 0 = true then (BC_sectionOrParagraph_62 L xs m d k x1 v10 24 g8 r9) else (BC_sectionOrParagraph_62 L xs m d k x1 v10 23 g8 r9)))) : Option fn_Z)
  refine (fs_cn (n := n + 51) (N := nm_m55) (as := [.ref cC, .int x2]) (rest := []) rfl rfl (Or.inl rfl) rfl rfl rfl rfl rfl).trans (fs_fn fun g6 r7 => ?_)
  refine (fs_r (n := n + 49) 2 (pc' := 43) (L' := [some (.ref cC), some (.int x1), none, none]) (S' := [.ref cR]) rfl).trans ?_
  refine (fs_cv (n := n + 48) (N := nm_m58) (as := [.ref cR]) (rest := []) rfl rfl (Or.inl rfl) rfl rfl rfl rfl rfl).trans (fs_fv fun v10 g8 r9 => ?_)
  refine (fs_r (n := n + 44) 4 (pc' := 52) (L' := [some (.ref cC), some (.int x1), some (.int v10), none]) (S' := [.int x1, .ref cT]) rfl).trans ?_
  refine (fs_i (n := n + 43) rfl (t := 60) rfl (by decide)).trans (fs_ite ?_ ?_)
  · skip
    refine (fs_r (n := n + 42) 1 (pc' := 62) (L' := [some (.ref cC), some (.int x1), some (.int v10), none]) (S' := [.int 24, .ref cT]) rfl).trans ?_
    exact bC_sectionOrParagraph_62 L xs m d k (n + 1) x1 v10 24 g8 r9
  · skip
    refine (fs_r (n := n + 42) 1 (pc' := 57) (L' := [some (.ref cC), some (.int x1), some (.int v10), none]) (S' := [.int 23, .ref cT]) rfl).trans ?_
    refine (fs_go (n := n + 41) rfl (t := 62) rfl (by decide)).trans ?_
    exact bC_sectionOrParagraph_62 L xs m d k (n + 0) x1 v10 23 g8 r9
def BC_sectionOrParagraph_31 (L : Nat) (xs : Nat → Int32) (m d k : Nat) (x1 : Int32) (g : a2_G) (r : a2_A) : Option fn_Z := (BC_sectionOrParagraph_36 L xs m d k x1 1 g r)
theorem bC_sectionOrParagraph_31 (L : Nat) (xs : Nat → Int32) (m d k : Nat) (n : Nat) (x1 : Int32) (g : a2_G) (r : a2_A) : bk L xs nC_sectionOrParagraph nm_m51 m d k (n + 54) 31 [some (.ref cC), some (.int x1), none, none] [.ref cC] g r = BC_sectionOrParagraph_31 L xs m d k x1 g r := by
  show _ = ((BC_sectionOrParagraph_36 L xs m d k x1 1 g r) : Option fn_Z)
  refine (fs_r (n := n + 53) 1 (pc' := 32) (L' := [some (.ref cC), some (.int x1), none, none]) (S' := [.int 1, .ref cC]) rfl).trans ?_
  refine (fs_go (n := n + 52) rfl (t := 36) rfl (by decide)).trans ?_
  exact bC_sectionOrParagraph_36 L xs m d k (n + 0) x1 1 g r
theorem eC_sectionOrParagraph (L : Nat) (xs : Nat → Int32) (m d k : Nat) (n : Nat) (g : a2_G) (r : a2_A) : bk L xs nC_sectionOrParagraph nm_m51 m d k (n + 70) 0 [some (.ref cC), none, none, none] [] g r = (fn_v (ev L xs m d nR_isReserved [.ref cR, .int 16, .int 1] g r) fun v3 g1 r2 => (fn_n (ev L xs m d nC_requireState [.ref cC, .int 8, .int 11] g1 r2) fun g4 r5 => (if am_c2 .ne v3 0 = true then (BC_sectionOrParagraph_31 L xs m d k v3 g4 r5) else (fn_v (ev L xs m d nC_mayHoldSentences [.ref cC] g4 r5) fun v34 g32 r33 => (if am_c2 .eq v34 0 = true then (BC_sectionOrParagraph_36 L xs m d k v3 0 g32 r33) else (BC_sectionOrParagraph_31 L xs m d k v3 g32 r33)))))) := by
  refine (fs_r (n := n + 66) 4 (pc' := 7) (L' := [some (.ref cC), none, none, none]) (S' := [.int 1, .int 16, .ref cR]) rfl).trans ?_
  refine (fs_cv (n := n + 65) (N := nm_m52) (as := [.ref cR, .int 16, .int 1]) (rest := []) rfl rfl (Or.inl rfl) rfl rfl rfl rfl rfl).trans (fs_fv fun v3 g1 r2 => ?_)
  refine (fs_r (n := n + 61) 4 (pc' := 16) (L' := [some (.ref cC), some (.int v3), none, none]) (S' := [.int 11, .int 8, .ref cC]) rfl).trans ?_
  refine (fs_cn (n := n + 60) (N := nm_m53) (as := [.ref cC, .int 8, .int 11]) (rest := []) rfl rfl (Or.inl rfl) rfl rfl rfl rfl rfl).trans (fs_fn fun g4 r5 => ?_)
  refine (fs_r (n := n + 58) 2 (pc' := 21) (L' := [some (.ref cC), some (.int v3), none, none]) (S' := [.int v3, .ref cC]) rfl).trans ?_
  refine (fs_i (n := n + 57) rfl (t := 31) rfl (by decide)).trans (fs_ite ?_ ?_)
  · skip
    exact bC_sectionOrParagraph_31 L xs m d k (n + 3) v3 g4 r5
  · skip
    refine (fs_r (n := n + 56) 1 (pc' := 25) (L' := [some (.ref cC), some (.int v3), none, none]) (S' := [.ref cC, .ref cC]) rfl).trans ?_
    refine (fs_cv (n := n + 55) (N := nm_m57) (as := [.ref cC]) (rest := [.ref cC]) rfl rfl (Or.inl rfl) rfl rfl rfl rfl rfl).trans (fs_fv fun v34 g32 r33 => ?_)
    refine (fs_i (n := n + 54) rfl (t := 35) rfl (by decide)).trans (fs_ite ?_ ?_)
    · skip
      refine (fs_r (n := n + 53) 1 (pc' := 36) (L' := [some (.ref cC), some (.int v3), none, none]) (S' := [.int 0, .ref cC]) rfl).trans ?_
      exact bC_sectionOrParagraph_36 L xs m d k (n + 1) v3 0 g32 r33
    · skip
      exact bC_sectionOrParagraph_31 L xs m d k (n + 0) v3 g32 r33
theorem qC_sectionOrParagraph (L : Nat) (xs : Nat → Int32) (m d : Nat) (g : a2_G) (r : a2_A) : ev L xs (m + 1) (d + 1) nC_sectionOrParagraph [.ref cC] g r = (fn_v (ev L xs (m + 1) d nR_isReserved [.ref cR, .int 16, .int 1] g r) fun v3 g1 r2 => (fn_n (ev L xs (m + 1) d nC_requireState [.ref cC, .int 8, .int 11] g1 r2) fun g4 r5 => (if am_c2 .ne v3 0 = true then (BC_sectionOrParagraph_31 L xs (m + 1) d m v3 g4 r5) else (fn_v (ev L xs (m + 1) d nC_mayHoldSentences [.ref cC] g4 r5) fun v34 g32 r33 => (if am_c2 .eq v34 0 = true then (BC_sectionOrParagraph_36 L xs (m + 1) d m v3 0 g32 r33) else (BC_sectionOrParagraph_31 L xs (m + 1) d m v3 g32 r33)))))) := (fs_ev (M := nm_m51) rfl rfl).trans (eC_sectionOrParagraph L xs (m + 1) d m 830 g r)
/-- CobolParser$Row.isReserved(II)Z -/
def BR_isReserved_43 (L : Nat) (xs : Nat → Int32) (m d k : Nat) (x1 x2 x3 x4 : Int32) (g : a2_G) (r : a2_A) : Option fn_Z := (if x4 = 0 ∨ x4 = 1 then some (.inl (some (.int x4)), g, r) else none)
theorem bR_isReserved_43 (L : Nat) (xs : Nat → Int32) (m d k : Nat) (n : Nat) (x1 x2 x3 x4 : Int32) (g : a2_G) (r : a2_A) : bk L xs nR_isReserved nm_m52 m d k (n + 1) 43 [some (.ref cR), some (.int x1), some (.int x2), some (.int x3)] [.int x4] g r = BR_isReserved_43 L xs m d k x1 x2 x3 x4 g r := by
  show _ = ((if x4 = 0 ∨ x4 = 1 then some (.inl (some (.int x4)), g, r) else none) : Option fn_Z)
  exact (fs_rb (n := n + 0) rfl rfl).trans rfl
def BR_isReserved_42 (L : Nat) (xs : Nat → Int32) (m d k : Nat) (x1 x2 x3 : Int32) (g : a2_G) (r : a2_A) : Option fn_Z := (BR_isReserved_43 L xs m d k x1 x2 x3 0 g r)
theorem bR_isReserved_42 (L : Nat) (xs : Nat → Int32) (m d k : Nat) (n : Nat) (x1 x2 x3 : Int32) (g : a2_G) (r : a2_A) : bk L xs nR_isReserved nm_m52 m d k (n + 2) 42 [some (.ref cR), some (.int x1), some (.int x2), some (.int x3)] [] g r = BR_isReserved_42 L xs m d k x1 x2 x3 g r := by
  show _ = ((BR_isReserved_43 L xs m d k x1 x2 x3 0 g r) : Option fn_Z)
  refine (fs_r (n := n + 1) 1 (pc' := 43) (L' := [some (.ref cR), some (.int x1), some (.int x2), some (.int x3)]) (S' := [.int 0]) rfl).trans ?_
  exact bR_isReserved_43 L xs m d k (n + 0) x1 x2 x3 0 g r
theorem eR_isReserved (L : Nat) (xs : Nat → Int32) (m d k : Nat) (n : Nat) (a1 a2 : Int32) (g : a2_G) (r : a2_A) : bk L xs nR_isReserved nm_m52 m d k (n + 25) 0 [some (.ref cR), some (.int a1), some (.int a2), none] [] g r = (if am_c2 .lt ((g fR_at) + a2) 0 = true then (BR_isReserved_42 L xs m d k a1 a2 ((g fR_at) + a2) g r) else (if am_c2 .ge ((g fR_at) + a2) (g fR_size) = true then (BR_isReserved_42 L xs m d k a1 a2 ((g fR_at) + a2) g r) else (if am_inr ((g fR_at) + a2) (r fR_kinds).1 = true then (if am_c2 .ne ((r fR_kinds).2 (((g fR_at) + a2) : Int32).toNatClampNeg) 0 = true then (BR_isReserved_42 L xs m d k a1 a2 ((g fR_at) + a2) g r) else (if am_inr ((g fR_at) + a2) (r fR_values).1 = true then (if am_c2 .ne ((r fR_values).2 (((g fR_at) + a2) : Int32).toNatClampNeg) a1 = true then (BR_isReserved_42 L xs m d k a1 a2 ((g fR_at) + a2) g r) else (BR_isReserved_43 L xs m d k a1 a2 ((g fR_at) + a2) 1 g r)) else none)) else none))) := by
  refine (fs_r (n := n + 19) 6 (pc' := 8) (L' := [some (.ref cR), some (.int a1), some (.int a2), some (.int ((g fR_at) + a2))]) (S' := [.int ((g fR_at) + a2)]) rfl).trans ?_
  refine (fs_i (n := n + 18) rfl (t := 42) rfl (by decide)).trans (fs_ite ?_ ?_)
  · skip
    exact bR_isReserved_42 L xs m d k (n + 16) a1 a2 ((g fR_at) + a2) g r
  · skip
    refine (fs_r (n := n + 15) 3 (pc' := 16) (L' := [some (.ref cR), some (.int a1), some (.int a2), some (.int ((g fR_at) + a2))]) (S' := [.int (g fR_size), .int ((g fR_at) + a2)]) rfl).trans ?_
    refine (fs_j (n := n + 14) rfl (t := 42) rfl (by decide)).trans (fs_ite ?_ ?_)
    · skip
      exact bR_isReserved_42 L xs m d k (n + 12) a1 a2 ((g fR_at) + a2) g r
    · skip
      refine (fs_r (n := n + 11) 3 (pc' := 24) (L' := [some (.ref cR), some (.int a1), some (.int a2), some (.int ((g fR_at) + a2))]) (S' := [.int ((g fR_at) + a2), .ref 10100]) rfl).trans ?_
      refine (fs_il (n := n + 10) (k := 100) rfl rfl).trans (fs_ite ?_ rfl)
      refine (fs_i (n := n + 9) rfl (t := 42) rfl (by decide)).trans (fs_ite ?_ ?_)
      · skip
        exact bR_isReserved_42 L xs m d k (n + 7) a1 a2 ((g fR_at) + a2) g r
      · skip
        refine (fs_r (n := n + 6) 3 (pc' := 33) (L' := [some (.ref cR), some (.int a1), some (.int a2), some (.int ((g fR_at) + a2))]) (S' := [.int ((g fR_at) + a2), .ref 10101]) rfl).trans ?_
        refine (fs_il (n := n + 5) (k := 101) rfl rfl).trans (fs_ite ?_ rfl)
        refine (fs_r (n := n + 4) 1 (pc' := 35) (L' := [some (.ref cR), some (.int a1), some (.int a2), some (.int ((g fR_at) + a2))]) (S' := [.int a1, .int ((r fR_values).2 (((g fR_at) + a2) : Int32).toNatClampNeg)]) rfl).trans ?_
        refine (fs_j (n := n + 3) rfl (t := 42) rfl (by decide)).trans (fs_ite ?_ ?_)
        · skip
          exact bR_isReserved_42 L xs m d k (n + 1) a1 a2 ((g fR_at) + a2) g r
        · skip
          refine (fs_r (n := n + 2) 1 (pc' := 39) (L' := [some (.ref cR), some (.int a1), some (.int a2), some (.int ((g fR_at) + a2))]) (S' := [.int 1]) rfl).trans ?_
          refine (fs_go (n := n + 1) rfl (t := 43) rfl (by decide)).trans ?_
          exact bR_isReserved_43 L xs m d k (n + 0) a1 a2 ((g fR_at) + a2) 1 g r
theorem qR_isReserved (L : Nat) (xs : Nat → Int32) (m d : Nat) (a1 a2 : Int32) (g : a2_G) (r : a2_A) : ev L xs (m + 1) (d + 1) nR_isReserved [.ref cR, .int a1, .int a2] g r = (if am_c2 .lt ((g fR_at) + a2) 0 = true then (BR_isReserved_42 L xs (m + 1) d m a1 a2 ((g fR_at) + a2) g r) else (if am_c2 .ge ((g fR_at) + a2) (g fR_size) = true then (BR_isReserved_42 L xs (m + 1) d m a1 a2 ((g fR_at) + a2) g r) else (if am_inr ((g fR_at) + a2) (r fR_kinds).1 = true then (if am_c2 .ne ((r fR_kinds).2 (((g fR_at) + a2) : Int32).toNatClampNeg) 0 = true then (BR_isReserved_42 L xs (m + 1) d m a1 a2 ((g fR_at) + a2) g r) else (if am_inr ((g fR_at) + a2) (r fR_values).1 = true then (if am_c2 .ne ((r fR_values).2 (((g fR_at) + a2) : Int32).toNatClampNeg) a1 = true then (BR_isReserved_42 L xs (m + 1) d m a1 a2 ((g fR_at) + a2) g r) else (BR_isReserved_43 L xs (m + 1) d m a1 a2 ((g fR_at) + a2) 1 g r)) else none)) else none))) := (fs_ev (M := nm_m52) rfl rfl).trans (eR_isReserved L xs (m + 1) d m 875 a1 a2 g r)
/-- CobolParser$Clauses.requireState(II)V -/
def BC_requireState_28 (L : Nat) (xs : Nat → Int32) (m d k : Nat) (x1 x2 x3 : Int32) (g : a2_G) (r : a2_A) : Option fn_Z := (fn_n (ev L xs m d nC_requireThat [.ref cC, .int x3] g r) fun g4 r5 => (some (.inl none, g4, r5)))
theorem bC_requireState_28 (L : Nat) (xs : Nat → Int32) (m d k : Nat) (n : Nat) (x1 x2 x3 : Int32) (g : a2_G) (r : a2_A) : bk L xs nC_requireState nm_m53 m d k (n + 2) 28 [some (.ref cC), some (.int x1), some (.int x2)] [.int x3, .ref cC] g r = BC_requireState_28 L xs m d k x1 x2 x3 g r := by
  show _ = ((fn_n (ev L xs m d nC_requireThat [.ref cC, .int x3] g r) fun g4 r5 => (some (.inl none, g4, r5))) : Option fn_Z)
  refine (fs_cn (n := n + 1) (N := nm_m55) (as := [.ref cC, .int x3]) (rest := []) rfl rfl (Or.inl rfl) rfl rfl rfl rfl rfl).trans (fs_fn fun g4 r5 => ?_)
  exact (fs_rv (n := n + 0) rfl rfl).trans rfl
def BC_requireState_27 (L : Nat) (xs : Nat → Int32) (m d k : Nat) (x1 x2 : Int32) (g : a2_G) (r : a2_A) : Option fn_Z := (BC_requireState_28 L xs m d k x1 x2 0 g r)
theorem bC_requireState_27 (L : Nat) (xs : Nat → Int32) (m d k : Nat) (n : Nat) (x1 x2 : Int32) (g : a2_G) (r : a2_A) : bk L xs nC_requireState nm_m53 m d k (n + 3) 27 [some (.ref cC), some (.int x1), some (.int x2)] [.ref cC] g r = BC_requireState_27 L xs m d k x1 x2 g r := by
  show _ = ((BC_requireState_28 L xs m d k x1 x2 0 g r) : Option fn_Z)
  refine (fs_r (n := n + 2) 1 (pc' := 28) (L' := [some (.ref cC), some (.int x1), some (.int x2)]) (S' := [.int 0, .ref cC]) rfl).trans ?_
  exact bC_requireState_28 L xs m d k (n + 0) x1 x2 0 g r
theorem eC_requireState (L : Nat) (xs : Nat → Int32) (m d k : Nat) (n : Nat) (a1 a2 : Int32) (g : a2_G) (r : a2_A) : bk L xs nC_requireState nm_m53 m d k (n + 15) 0 [some (.ref cC), some (.int a1), some (.int a2)] [] g r = (fn_v (ev L xs m d nU_state [.ref cU] g r) fun v3 g1 r2 => (if am_c2 .lt v3 a1 = true then (BC_requireState_27 L xs m d k a1 a2 g1 r2) else (fn_v (ev L xs m d nU_state [.ref cU] g1 r2) fun v8 g6 r7 => (if am_c2 .gt v8 a2 = true then (BC_requireState_27 L xs m d k a1 a2 g6 r7) else (BC_requireState_28 L xs m d k a1 a2 1 g6 r7))))) := by
  refine (fs_r (n := n + 12) 3 (pc' := 5) (L' := [some (.ref cC), some (.int a1), some (.int a2)]) (S' := [.ref cU, .ref cC]) rfl).trans ?_
  refine (fs_cv (n := n + 11) (N := nm_m54) (as := [.ref cU]) (rest := [.ref cC]) rfl rfl (Or.inl rfl) rfl rfl rfl rfl rfl).trans (fs_fv fun v3 g1 r2 => ?_)
  refine (fs_r (n := n + 10) 1 (pc' := 9) (L' := [some (.ref cC), some (.int a1), some (.int a2)]) (S' := [.int a1, .int v3, .ref cC]) rfl).trans ?_
  refine (fs_j (n := n + 9) rfl (t := 27) rfl (by decide)).trans (fs_ite ?_ ?_)
  · skip
    exact bC_requireState_27 L xs m d k (n + 6) a1 a2 g1 r2
  · skip
    refine (fs_r (n := n + 7) 2 (pc' := 16) (L' := [some (.ref cC), some (.int a1), some (.int a2)]) (S' := [.ref cU, .ref cC]) rfl).trans ?_
    refine (fs_cv (n := n + 6) (N := nm_m54) (as := [.ref cU]) (rest := [.ref cC]) rfl rfl (Or.inl rfl) rfl rfl rfl rfl rfl).trans (fs_fv fun v8 g6 r7 => ?_)
    refine (fs_r (n := n + 5) 1 (pc' := 20) (L' := [some (.ref cC), some (.int a1), some (.int a2)]) (S' := [.int a2, .int v8, .ref cC]) rfl).trans ?_
    refine (fs_j (n := n + 4) rfl (t := 27) rfl (by decide)).trans (fs_ite ?_ ?_)
    · skip
      exact bC_requireState_27 L xs m d k (n + 1) a1 a2 g6 r7
    · skip
      refine (fs_r (n := n + 3) 1 (pc' := 24) (L' := [some (.ref cC), some (.int a1), some (.int a2)]) (S' := [.int 1, .ref cC]) rfl).trans ?_
      refine (fs_go (n := n + 2) rfl (t := 28) rfl (by decide)).trans ?_
      exact bC_requireState_28 L xs m d k (n + 0) a1 a2 1 g6 r7
theorem qC_requireState (L : Nat) (xs : Nat → Int32) (m d : Nat) (a1 a2 : Int32) (g : a2_G) (r : a2_A) : ev L xs (m + 1) (d + 1) nC_requireState [.ref cC, .int a1, .int a2] g r = (fn_v (ev L xs (m + 1) d nU_state [.ref cU] g r) fun v3 g1 r2 => (if am_c2 .lt v3 a1 = true then (BC_requireState_27 L xs (m + 1) d m a1 a2 g1 r2) else (fn_v (ev L xs (m + 1) d nU_state [.ref cU] g1 r2) fun v8 g6 r7 => (if am_c2 .gt v8 a2 = true then (BC_requireState_27 L xs (m + 1) d m a1 a2 g6 r7) else (BC_requireState_28 L xs (m + 1) d m a1 a2 1 g6 r7))))) := (fs_ev (M := nm_m53) rfl rfl).trans (eC_requireState L xs (m + 1) d m 885 a1 a2 g r)
/-- CobolParser$Units.state()I -/
def BU_state_22 (L : Nat) (xs : Nat → Int32) (m d k : Nat) (x1 : Int32) (g : a2_G) (r : a2_A) : Option fn_Z := (some (.inl (some (.int x1)), g, r))
theorem bU_state_22 (L : Nat) (xs : Nat → Int32) (m d k : Nat) (n : Nat) (x1 : Int32) (g : a2_G) (r : a2_A) : bk L xs nU_state nm_m54 m d k (n + 1) 22 [some (.ref cU)] [.int x1] g r = BU_state_22 L xs m d k x1 g r := by
  show _ = ((some (.inl (some (.int x1)), g, r)) : Option fn_Z)
  exact (fs_ri (n := n + 0) rfl rfl).trans rfl
theorem eU_state (L : Nat) (xs : Nat → Int32) (m d k : Nat) (n : Nat) (g : a2_G) (r : a2_A) : bk L xs nU_state nm_m54 m d k (n + 12) 0 [some (.ref cU)] [] g r = (if am_c2 .le (g fU_size) 0 = true then (BU_state_22 L xs m d k (-1) g r) else (if am_inr ((g fU_size) - 1) (r fU_states).1 = true then (BU_state_22 L xs m d k ((r fU_states).2 (((g fU_size) - 1) : Int32).toNatClampNeg) g r) else none)) := by
  refine (fs_r (n := n + 10) 2 (pc' := 4) (L' := [some (.ref cU)]) (S' := [.int (g fU_size)]) rfl).trans ?_
  refine (fs_i (n := n + 9) rfl (t := 21) rfl (by decide)).trans (fs_ite ?_ ?_)
  · skip
    refine (fs_r (n := n + 8) 1 (pc' := 22) (L' := [some (.ref cU)]) (S' := [.int (-1)]) rfl).trans ?_
    exact bU_state_22 L xs m d k (n + 7) (-1) g r
  · skip
    refine (fs_r (n := n + 3) 6 (pc' := 17) (L' := [some (.ref cU)]) (S' := [.int ((g fU_size) - 1), .ref 10800]) rfl).trans ?_
    refine (fs_il (n := n + 2) (k := 800) rfl rfl).trans (fs_ite ?_ rfl)
    refine (fs_go (n := n + 1) rfl (t := 22) rfl (by decide)).trans ?_
    exact bU_state_22 L xs m d k (n + 0) ((r fU_states).2 (((g fU_size) - 1) : Int32).toNatClampNeg) g r
theorem qU_state (L : Nat) (xs : Nat → Int32) (m d : Nat) (g : a2_G) (r : a2_A) : ev L xs (m + 1) (d + 1) nU_state [.ref cU] g r = (if am_c2 .le (g fU_size) 0 = true then (BU_state_22 L xs (m + 1) d m (-1) g r) else (if am_inr ((g fU_size) - 1) (r fU_states).1 = true then (BU_state_22 L xs (m + 1) d m ((r fU_states).2 (((g fU_size) - 1) : Int32).toNatClampNeg) g r) else none)) := (fs_ev (M := nm_m54) rfl rfl).trans (eU_state L xs (m + 1) d m 888 g r)
/-- CobolParser$Clauses.requireThat(Z)V -/
def BC_requireThat_12 (L : Nat) (xs : Nat → Int32) (m d k : Nat) (x1 : Int32) (g : a2_G) (r : a2_A) : Option fn_Z := (some (.inl none, g, r))
theorem bC_requireThat_12 (L : Nat) (xs : Nat → Int32) (m d k : Nat) (n : Nat) (x1 : Int32) (g : a2_G) (r : a2_A) : bk L xs nC_requireThat nm_m55 m d k (n + 1) 12 [some (.ref cC), some (.int x1)] [] g r = BC_requireThat_12 L xs m d k x1 g r := by
  show _ = ((some (.inl none, g, r)) : Option fn_Z)
  exact (fs_rv (n := n + 0) rfl rfl).trans rfl
theorem eC_requireThat (L : Nat) (xs : Nat → Int32) (m d k : Nat) (n : Nat) (a1 : Int32) (g : a2_G) (r : a2_A) : bk L xs nC_requireThat nm_m55 m d k (n + 7) 0 [some (.ref cC), some (.int a1)] [] g r = (if am_c2 .ne a1 0 = true then (BC_requireThat_12 L xs m d k a1 g r) else (fn_n (ev L xs m d nR_refuse [.ref cR, .int 1] g r) fun g1 r2 => (BC_requireThat_12 L xs m d k a1 g1 r2))) := by
  refine (fs_r (n := n + 6) 1 (pc' := 1) (L' := [some (.ref cC), some (.int a1)]) (S' := [.int a1]) rfl).trans ?_
  refine (fs_i (n := n + 5) rfl (t := 12) rfl (by decide)).trans (fs_ite ?_ ?_)
  · skip
    exact bC_requireThat_12 L xs m d k (n + 4) a1 g r
  · skip
    refine (fs_r (n := n + 2) 3 (pc' := 9) (L' := [some (.ref cC), some (.int a1)]) (S' := [.int 1, .ref cR]) rfl).trans ?_
    refine (fs_cn (n := n + 1) (N := nm_m56) (as := [.ref cR, .int 1]) (rest := []) rfl rfl (Or.inl rfl) rfl rfl rfl rfl rfl).trans (fs_fn fun g1 r2 => ?_)
    exact bC_requireThat_12 L xs m d k (n + 0) a1 g1 r2
theorem qC_requireThat (L : Nat) (xs : Nat → Int32) (m d : Nat) (a1 : Int32) (g : a2_G) (r : a2_A) : ev L xs (m + 1) (d + 1) nC_requireThat [.ref cC, .int a1] g r = (if am_c2 .ne a1 0 = true then (BC_requireThat_12 L xs (m + 1) d m a1 g r) else (fn_n (ev L xs (m + 1) d nR_refuse [.ref cR, .int 1] g r) fun g1 r2 => (BC_requireThat_12 L xs (m + 1) d m a1 g1 r2))) := (fs_ev (M := nm_m55) rfl rfl).trans (eC_requireThat L xs (m + 1) d m 893 a1 g r)
/-- CobolParser$Row.refuse(I)V -/
theorem eR_refuse (L : Nat) (xs : Nat → Int32) (m d k : Nat) (n : Nat) (a1 : Int32) (g : a2_G) (r : a2_A) : bk L xs nR_refuse nm_m56 m d k (n + 4) 0 [some (.ref cR), some (.int a1)] [] g r = (some (.inr 10, (upd g fR_refusal a1), r)) := by
  refine (fs_r (n := n + 2) 2 (pc' := 2) (L' := [some (.ref cR), some (.int a1)]) (S' := [.int a1, .ref cR]) rfl).trans ?_
  refine (fs_pf (n := n + 1) (ci := 1) (j := 4) rfl rfl rfl rfl).trans ?_
  exact (fs_th (n := n + 0) rfl rfl (Nat.le_of_ble_eq_true rfl)).trans rfl
theorem qR_refuse (L : Nat) (xs : Nat → Int32) (m d : Nat) (a1 : Int32) (g : a2_G) (r : a2_A) : ev L xs (m + 1) (d + 1) nR_refuse [.ref cR, .int a1] g r = (some (.inr 10, (upd g fR_refusal a1), r)) := (fs_ev (M := nm_m56) rfl rfl).trans (eR_refuse L xs (m + 1) d m 896 a1 g r)
/-- CobolParser$Clauses.mayHoldSentences()Z -/
def BC_mayHoldSentences_25 (L : Nat) (xs : Nat → Int32) (m d k : Nat) (x1 : Int32) (g : a2_G) (r : a2_A) : Option fn_Z := (if x1 = 0 ∨ x1 = 1 then some (.inl (some (.int x1)), g, r) else none)
theorem bC_mayHoldSentences_25 (L : Nat) (xs : Nat → Int32) (m d k : Nat) (n : Nat) (x1 : Int32) (g : a2_G) (r : a2_A) : bk L xs nC_mayHoldSentences nm_m57 m d k (n + 1) 25 [some (.ref cC)] [.int x1] g r = BC_mayHoldSentences_25 L xs m d k x1 g r := by
  show _ = ((if x1 = 0 ∨ x1 = 1 then some (.inl (some (.int x1)), g, r) else none) : Option fn_Z)
  exact (fs_rb (n := n + 0) rfl rfl).trans rfl
def BC_mayHoldSentences_20 (L : Nat) (xs : Nat → Int32) (m d k : Nat) (g : a2_G) (r : a2_A) : Option fn_Z := (BC_mayHoldSentences_25 L xs m d k 1 g r)
theorem bC_mayHoldSentences_20 (L : Nat) (xs : Nat → Int32) (m d k : Nat) (n : Nat) (g : a2_G) (r : a2_A) : bk L xs nC_mayHoldSentences nm_m57 m d k (n + 3) 20 [some (.ref cC)] [] g r = BC_mayHoldSentences_20 L xs m d k g r := by
  show _ = ((BC_mayHoldSentences_25 L xs m d k 1 g r) : Option fn_Z)
  refine (fs_r (n := n + 2) 1 (pc' := 21) (L' := [some (.ref cC)]) (S' := [.int 1]) rfl).trans ?_
  refine (fs_go (n := n + 1) rfl (t := 25) rfl (by decide)).trans ?_
  exact bC_mayHoldSentences_25 L xs m d k (n + 0) 1 g r
theorem eC_mayHoldSentences (L : Nat) (xs : Nat → Int32) (m d k : Nat) (n : Nat) (g : a2_G) (r : a2_A) : bk L xs nC_mayHoldSentences nm_m57 m d k (n + 12) 0 [some (.ref cC)] [] g r = (fn_v (ev L xs m d nU_state [.ref cU] g r) fun v3 g1 r2 => (if am_c2 .ne v3 9 = true then (BC_mayHoldSentences_20 L xs m d k g1 r2) else (if am_c2 .eq (g1 fC_section) (-1) = true then (BC_mayHoldSentences_25 L xs m d k 0 g1 r2) else (BC_mayHoldSentences_20 L xs m d k g1 r2)))) := by
  refine (fs_r (n := n + 10) 2 (pc' := 4) (L' := [some (.ref cC)]) (S' := [.ref cU]) rfl).trans ?_
  refine (fs_cv (n := n + 9) (N := nm_m54) (as := [.ref cU]) (rest := []) rfl rfl (Or.inl rfl) rfl rfl rfl rfl rfl).trans (fs_fv fun v3 g1 r2 => ?_)
  refine (fs_r (n := n + 8) 1 (pc' := 9) (L' := [some (.ref cC)]) (S' := [.int 9, .int v3]) rfl).trans ?_
  refine (fs_j (n := n + 7) rfl (t := 20) rfl (by decide)).trans (fs_ite ?_ ?_)
  · skip
    exact bC_mayHoldSentences_20 L xs m d k (n + 4) g1 r2
  · skip
    refine (fs_r (n := n + 4) 3 (pc' := 17) (L' := [some (.ref cC)]) (S' := [.int (-1), .int (g1 fC_section)]) rfl).trans ?_
    refine (fs_j (n := n + 3) rfl (t := 24) rfl (by decide)).trans (fs_ite ?_ ?_)
    · skip
      refine (fs_r (n := n + 2) 1 (pc' := 25) (L' := [some (.ref cC)]) (S' := [.int 0]) rfl).trans ?_
      exact bC_mayHoldSentences_25 L xs m d k (n + 1) 0 g1 r2
    · skip
      exact bC_mayHoldSentences_20 L xs m d k (n + 0) g1 r2
theorem qC_mayHoldSentences (L : Nat) (xs : Nat → Int32) (m d : Nat) (g : a2_G) (r : a2_A) : ev L xs (m + 1) (d + 1) nC_mayHoldSentences [.ref cC] g r = (fn_v (ev L xs (m + 1) d nU_state [.ref cU] g r) fun v3 g1 r2 => (if am_c2 .ne v3 9 = true then (BC_mayHoldSentences_20 L xs (m + 1) d m g1 r2) else (if am_c2 .eq (g1 fC_section) (-1) = true then (BC_mayHoldSentences_25 L xs (m + 1) d m 0 g1 r2) else (BC_mayHoldSentences_20 L xs (m + 1) d m g1 r2)))) := (fs_ev (M := nm_m57) rfl rfl).trans (eC_mayHoldSentences L xs (m + 1) d m 888 g r)
/-- CobolParser$Row.place()I -/
theorem eR_place (L : Nat) (xs : Nat → Int32) (m d k : Nat) (n : Nat) (g : a2_G) (r : a2_A) : bk L xs nR_place nm_m58 m d k (n + 3) 0 [some (.ref cR)] [] g r = (some (.inl (some (.int (g fR_at))), g, r)) := by
  refine (fs_r (n := n + 1) 2 (pc' := 4) (L' := [some (.ref cR)]) (S' := [.int (g fR_at)]) rfl).trans ?_
  exact (fs_ri (n := n + 0) rfl rfl).trans rfl
theorem qR_place (L : Nat) (xs : Nat → Int32) (m d : Nat) (g : a2_G) (r : a2_A) : ev L xs (m + 1) (d + 1) nR_place [.ref cR] g r = (some (.inl (some (.int (g fR_at))), g, r)) := (fs_ev (M := nm_m58) rfl rfl).trans (eR_place L xs (m + 1) d m 897 g r)
/-- CobolParser$Row.requireKind(I)I -/
def BR_requireKind_13 (L : Nat) (xs : Nat → Int32) (m d k : Nat) (x1 : Int32) (g : a2_G) (r : a2_A) : Option fn_Z := (fn_v (ev L xs m d nR_value [.ref cR] g r) fun v6 g4 r5 => (fn_n (ev L xs m d nR_advance [.ref cR] g4 r5) fun g7 r8 => (some (.inl (some (.int v6)), g7, r8))))
theorem bR_requireKind_13 (L : Nat) (xs : Nat → Int32) (m d k : Nat) (n : Nat) (x1 : Int32) (g : a2_G) (r : a2_A) : bk L xs nR_requireKind nm_m59 m d k (n + 7) 13 [some (.ref cR), some (.int x1), none] [] g r = BR_requireKind_13 L xs m d k x1 g r := by
  show _ = ((fn_v (ev L xs m d nR_value [.ref cR] g r) fun v6 g4 r5 => (fn_n (ev L xs m d nR_advance [.ref cR] g4 r5) fun g7 r8 => (some (.inl (some (.int v6)), g7, r8)))) : Option fn_Z)
  refine (fs_r (n := n + 6) 1 (pc' := 14) (L' := [some (.ref cR), some (.int x1), none]) (S' := [.ref cR]) rfl).trans ?_
  refine (fs_cv (n := n + 5) (N := nm_m60) (as := [.ref cR]) (rest := []) rfl rfl (Or.inl rfl) rfl rfl rfl rfl rfl).trans (fs_fv fun v6 g4 r5 => ?_)
  refine (fs_r (n := n + 3) 2 (pc' := 19) (L' := [some (.ref cR), some (.int x1), some (.int v6)]) (S' := [.ref cR]) rfl).trans ?_
  refine (fs_cn (n := n + 2) (N := nm_m61) (as := [.ref cR]) (rest := []) rfl rfl (Or.inl rfl) rfl rfl rfl rfl rfl).trans (fs_fn fun g7 r8 => ?_)
  refine (fs_r (n := n + 1) 1 (pc' := 23) (L' := [some (.ref cR), some (.int x1), some (.int v6)]) (S' := [.int v6]) rfl).trans ?_
  exact (fs_ri (n := n + 0) rfl rfl).trans rfl
theorem eR_requireKind (L : Nat) (xs : Nat → Int32) (m d k : Nat) (n : Nat) (a1 : Int32) (g : a2_G) (r : a2_A) : bk L xs nR_requireKind nm_m59 m d k (n + 14) 0 [some (.ref cR), some (.int a1), none] [] g r = (fn_v (ev L xs m d nR_isKind [.ref cR, .int a1] g r) fun v3 g1 r2 => (if am_c2 .ne v3 0 = true then (BR_requireKind_13 L xs m d k a1 g1 r2) else (fn_n (ev L xs m d nR_refuse [.ref cR, .int 1] g1 r2) fun g9 r10 => (BR_requireKind_13 L xs m d k a1 g9 r10)))) := by
  refine (fs_r (n := n + 12) 2 (pc' := 2) (L' := [some (.ref cR), some (.int a1), none]) (S' := [.int a1, .ref cR]) rfl).trans ?_
  refine (fs_cv (n := n + 11) (N := nm_m50) (as := [.ref cR, .int a1]) (rest := []) rfl rfl (Or.inl rfl) rfl rfl rfl rfl rfl).trans (fs_fv fun v3 g1 r2 => ?_)
  refine (fs_i (n := n + 10) rfl (t := 13) rfl (by decide)).trans (fs_ite ?_ ?_)
  · skip
    exact bR_requireKind_13 L xs m d k (n + 3) a1 g1 r2
  · skip
    refine (fs_r (n := n + 8) 2 (pc' := 10) (L' := [some (.ref cR), some (.int a1), none]) (S' := [.int 1, .ref cR]) rfl).trans ?_
    refine (fs_cn (n := n + 7) (N := nm_m56) (as := [.ref cR, .int 1]) (rest := []) rfl rfl (Or.inl rfl) rfl rfl rfl rfl rfl).trans (fs_fn fun g9 r10 => ?_)
    exact bR_requireKind_13 L xs m d k (n + 0) a1 g9 r10
theorem qR_requireKind (L : Nat) (xs : Nat → Int32) (m d : Nat) (a1 : Int32) (g : a2_G) (r : a2_A) : ev L xs (m + 1) (d + 1) nR_requireKind [.ref cR, .int a1] g r = (fn_v (ev L xs (m + 1) d nR_isKind [.ref cR, .int a1] g r) fun v3 g1 r2 => (if am_c2 .ne v3 0 = true then (BR_requireKind_13 L xs (m + 1) d m a1 g1 r2) else (fn_n (ev L xs (m + 1) d nR_refuse [.ref cR, .int 1] g1 r2) fun g9 r10 => (BR_requireKind_13 L xs (m + 1) d m a1 g9 r10)))) := (fs_ev (M := nm_m59) rfl rfl).trans (eR_requireKind L xs (m + 1) d m 886 a1 g r)
/-- CobolParser$Row.value()I -/
def BR_value_24 (L : Nat) (xs : Nat → Int32) (m d k : Nat) (x1 : Int32) (g : a2_G) (r : a2_A) : Option fn_Z := (some (.inl (some (.int x1)), g, r))
theorem bR_value_24 (L : Nat) (xs : Nat → Int32) (m d k : Nat) (n : Nat) (x1 : Int32) (g : a2_G) (r : a2_A) : bk L xs nR_value nm_m60 m d k (n + 1) 24 [some (.ref cR)] [.int x1] g r = BR_value_24 L xs m d k x1 g r := by
  show _ = ((some (.inl (some (.int x1)), g, r)) : Option fn_Z)
  exact (fs_ri (n := n + 0) rfl rfl).trans rfl
theorem eR_value (L : Nat) (xs : Nat → Int32) (m d k : Nat) (n : Nat) (g : a2_G) (r : a2_A) : bk L xs nR_value nm_m60 m d k (n + 12) 0 [some (.ref cR)] [] g r = (if am_c2 .ge (g fR_at) (g fR_size) = true then (BR_value_24 L xs m d k (-1) g r) else (if am_inr (g fR_at) (r fR_values).1 = true then (BR_value_24 L xs m d k ((r fR_values).2 ((g fR_at) : Int32).toNatClampNeg) g r) else none)) := by
  refine (fs_r (n := n + 8) 4 (pc' := 8) (L' := [some (.ref cR)]) (S' := [.int (g fR_size), .int (g fR_at)]) rfl).trans ?_
  refine (fs_j (n := n + 7) rfl (t := 23) rfl (by decide)).trans (fs_ite ?_ ?_)
  · skip
    refine (fs_r (n := n + 6) 1 (pc' := 24) (L' := [some (.ref cR)]) (S' := [.int (-1)]) rfl).trans ?_
    exact bR_value_24 L xs m d k (n + 5) (-1) g r
  · skip
    refine (fs_r (n := n + 3) 4 (pc' := 19) (L' := [some (.ref cR)]) (S' := [.int (g fR_at), .ref 10101]) rfl).trans ?_
    refine (fs_il (n := n + 2) (k := 101) rfl rfl).trans (fs_ite ?_ rfl)
    refine (fs_go (n := n + 1) rfl (t := 24) rfl (by decide)).trans ?_
    exact bR_value_24 L xs m d k (n + 0) ((r fR_values).2 ((g fR_at) : Int32).toNatClampNeg) g r
theorem qR_value (L : Nat) (xs : Nat → Int32) (m d : Nat) (g : a2_G) (r : a2_A) : ev L xs (m + 1) (d + 1) nR_value [.ref cR] g r = (if am_c2 .ge (g fR_at) (g fR_size) = true then (BR_value_24 L xs (m + 1) d m (-1) g r) else (if am_inr (g fR_at) (r fR_values).1 = true then (BR_value_24 L xs (m + 1) d m ((r fR_values).2 ((g fR_at) : Int32).toNatClampNeg) g r) else none)) := (fs_ev (M := nm_m60) rfl rfl).trans (eR_value L xs (m + 1) d m 888 g r)
/-- CobolParser$Row.advance()V -/
def BR_advance_21 (L : Nat) (xs : Nat → Int32) (m d k : Nat) (g : a2_G) (r : a2_A) : Option fn_Z := (some (.inl none, g, r))
theorem bR_advance_21 (L : Nat) (xs : Nat → Int32) (m d k : Nat) (n : Nat) (g : a2_G) (r : a2_A) : bk L xs nR_advance nm_m61 m d k (n + 1) 21 [some (.ref cR)] [] g r = BR_advance_21 L xs m d k g r := by
  show _ = ((some (.inl none, g, r)) : Option fn_Z)
  exact (fs_rv (n := n + 0) rfl rfl).trans rfl
theorem eR_advance (L : Nat) (xs : Nat → Int32) (m d k : Nat) (n : Nat) (g : a2_G) (r : a2_A) : bk L xs nR_advance nm_m61 m d k (n + 12) 0 [some (.ref cR)] [] g r = (if am_c2 .ge (g fR_at) (g fR_size) = true then (BR_advance_21 L xs m d k g r) else (BR_advance_21 L xs m d k (upd g fR_at ((g fR_at) + 1)) r)) := by
  refine (fs_r (n := n + 8) 4 (pc' := 8) (L' := [some (.ref cR)]) (S' := [.int (g fR_size), .int (g fR_at)]) rfl).trans ?_
  refine (fs_j (n := n + 7) rfl (t := 21) rfl (by decide)).trans (fs_ite ?_ ?_)
  · skip
    exact bR_advance_21 L xs m d k (n + 6) g r
  · skip
    refine (fs_r (n := n + 2) 5 (pc' := 18) (L' := [some (.ref cR)]) (S' := [.int ((g fR_at) + 1), .ref cR]) rfl).trans ?_
    refine (fs_pf (n := n + 1) (ci := 1) (j := 3) rfl rfl rfl rfl).trans ?_
    exact bR_advance_21 L xs m d k (n + 0) (upd g fR_at ((g fR_at) + 1)) r
theorem qR_advance (L : Nat) (xs : Nat → Int32) (m d : Nat) (g : a2_G) (r : a2_A) : ev L xs (m + 1) (d + 1) nR_advance [.ref cR] g r = (if am_c2 .ge (g fR_at) (g fR_size) = true then (BR_advance_21 L xs (m + 1) d m g r) else (BR_advance_21 L xs (m + 1) d m (upd g fR_at ((g fR_at) + 1)) r)) := (fs_ev (M := nm_m61) rfl rfl).trans (eR_advance L xs (m + 1) d m 888 g r)
/-- CobolParser$Row.skip(I)Z -/
def BR_skip_56 (L : Nat) (xs : Nat → Int32) (m d k : Nat) (x1 x2 : Int32) (g : a2_G) (r : a2_A) : Option fn_Z := (if x2 = 0 ∨ x2 = 1 then some (.inl (some (.int x2)), g, r) else none)
theorem bR_skip_56 (L : Nat) (xs : Nat → Int32) (m d k : Nat) (n : Nat) (x1 x2 : Int32) (g : a2_G) (r : a2_A) : bk L xs nR_skip nm_m62 m d k (n + 2) 56 [some (.ref cR), some (.int x1), some (.int x2)] [] g r = BR_skip_56 L xs m d k x1 x2 g r := by
  show _ = ((if x2 = 0 ∨ x2 = 1 then some (.inl (some (.int x2)), g, r) else none) : Option fn_Z)
  refine (fs_r (n := n + 1) 1 (pc' := 57) (L' := [some (.ref cR), some (.int x1), some (.int x2)]) (S' := [.int x2]) rfl).trans ?_
  exact (fs_rb (n := n + 0) rfl rfl).trans rfl
def BR_skip_41 (L : Nat) (xs : Nat → Int32) (m d k : Nat) (x1 x2 : Int32) (g : a2_G) (r : a2_A) : Option fn_Z := (if am_c2 .eq x2 0 = true then (BR_skip_56 L xs m d k x1 x2 g r) else (BR_skip_56 L xs m d k x1 x2 (upd g fR_at ((g fR_at) + 1)) r))
theorem bR_skip_41 (L : Nat) (xs : Nat → Int32) (m d k : Nat) (n : Nat) (x1 x2 : Int32) (g : a2_G) (r : a2_A) : bk L xs nR_skip nm_m62 m d k (n + 11) 41 [some (.ref cR), some (.int x1), none] [.int x2] g r = BR_skip_41 L xs m d k x1 x2 g r := by
  show _ = ((if am_c2 .eq x2 0 = true then (BR_skip_56 L xs m d k x1 x2 g r) else (BR_skip_56 L xs m d k x1 x2 (upd g fR_at ((g fR_at) + 1)) r)) : Option fn_Z)
  refine (fs_r (n := n + 9) 2 (pc' := 43) (L' := [some (.ref cR), some (.int x1), some (.int x2)]) (S' := [.int x2]) rfl).trans ?_
  refine (fs_i (n := n + 8) rfl (t := 56) rfl (by decide)).trans (fs_ite ?_ ?_)
  · skip
    exact bR_skip_56 L xs m d k (n + 6) x1 x2 g r
  · skip
    refine (fs_r (n := n + 3) 5 (pc' := 53) (L' := [some (.ref cR), some (.int x1), some (.int x2)]) (S' := [.int ((g fR_at) + 1), .ref cR]) rfl).trans ?_
    refine (fs_pf (n := n + 2) (ci := 1) (j := 3) rfl rfl rfl rfl).trans ?_
    exact bR_skip_56 L xs m d k (n + 0) x1 x2 (upd g fR_at ((g fR_at) + 1)) r
def BR_skip_40 (L : Nat) (xs : Nat → Int32) (m d k : Nat) (x1 : Int32) (g : a2_G) (r : a2_A) : Option fn_Z := (BR_skip_41 L xs m d k x1 0 g r)
theorem bR_skip_40 (L : Nat) (xs : Nat → Int32) (m d k : Nat) (n : Nat) (x1 : Int32) (g : a2_G) (r : a2_A) : bk L xs nR_skip nm_m62 m d k (n + 12) 40 [some (.ref cR), some (.int x1), none] [] g r = BR_skip_40 L xs m d k x1 g r := by
  show _ = ((BR_skip_41 L xs m d k x1 0 g r) : Option fn_Z)
  refine (fs_r (n := n + 11) 1 (pc' := 41) (L' := [some (.ref cR), some (.int x1), none]) (S' := [.int 0]) rfl).trans ?_
  exact bR_skip_41 L xs m d k (n + 0) x1 0 g r
theorem eR_skip (L : Nat) (xs : Nat → Int32) (m d k : Nat) (n : Nat) (a1 : Int32) (g : a2_G) (r : a2_A) : bk L xs nR_skip nm_m62 m d k (n + 31) 0 [some (.ref cR), some (.int a1), none] [] g r = (if am_c2 .ge (g fR_at) (g fR_size) = true then (BR_skip_40 L xs m d k a1 g r) else (if am_inr (g fR_at) (r fR_kinds).1 = true then (if am_c2 .ne ((r fR_kinds).2 ((g fR_at) : Int32).toNatClampNeg) 0 = true then (BR_skip_40 L xs m d k a1 g r) else (if am_inr (g fR_at) (r fR_values).1 = true then (if am_c2 .ne ((r fR_values).2 ((g fR_at) : Int32).toNatClampNeg) a1 = true then (BR_skip_40 L xs m d k a1 g r) else (BR_skip_41 L xs m d k a1 1 g r)) else none)) else none)) := by
  refine (fs_r (n := n + 27) 4 (pc' := 8) (L' := [some (.ref cR), some (.int a1), none]) (S' := [.int (g fR_size), .int (g fR_at)]) rfl).trans ?_
  refine (fs_j (n := n + 26) rfl (t := 40) rfl (by decide)).trans (fs_ite ?_ ?_)
  · skip
    exact bR_skip_40 L xs m d k (n + 14) a1 g r
  · skip
    refine (fs_r (n := n + 22) 4 (pc' := 19) (L' := [some (.ref cR), some (.int a1), none]) (S' := [.int (g fR_at), .ref 10100]) rfl).trans ?_
    refine (fs_il (n := n + 21) (k := 100) rfl rfl).trans (fs_ite ?_ rfl)
    refine (fs_i (n := n + 20) rfl (t := 40) rfl (by decide)).trans (fs_ite ?_ ?_)
    · skip
      exact bR_skip_40 L xs m d k (n + 8) a1 g r
    · skip
      refine (fs_r (n := n + 16) 4 (pc' := 31) (L' := [some (.ref cR), some (.int a1), none]) (S' := [.int (g fR_at), .ref 10101]) rfl).trans ?_
      refine (fs_il (n := n + 15) (k := 101) rfl rfl).trans (fs_ite ?_ rfl)
      refine (fs_r (n := n + 14) 1 (pc' := 33) (L' := [some (.ref cR), some (.int a1), none]) (S' := [.int a1, .int ((r fR_values).2 ((g fR_at) : Int32).toNatClampNeg)]) rfl).trans ?_
      refine (fs_j (n := n + 13) rfl (t := 40) rfl (by decide)).trans (fs_ite ?_ ?_)
      · skip
        exact bR_skip_40 L xs m d k (n + 1) a1 g r
      · skip
        refine (fs_r (n := n + 12) 1 (pc' := 37) (L' := [some (.ref cR), some (.int a1), none]) (S' := [.int 1]) rfl).trans ?_
        refine (fs_go (n := n + 11) rfl (t := 41) rfl (by decide)).trans ?_
        exact bR_skip_41 L xs m d k (n + 0) a1 1 g r
theorem qR_skip (L : Nat) (xs : Nat → Int32) (m d : Nat) (a1 : Int32) (g : a2_G) (r : a2_A) : ev L xs (m + 1) (d + 1) nR_skip [.ref cR, .int a1] g r = (if am_c2 .ge (g fR_at) (g fR_size) = true then (BR_skip_40 L xs (m + 1) d m a1 g r) else (if am_inr (g fR_at) (r fR_kinds).1 = true then (if am_c2 .ne ((r fR_kinds).2 ((g fR_at) : Int32).toNatClampNeg) 0 = true then (BR_skip_40 L xs (m + 1) d m a1 g r) else (if am_inr (g fR_at) (r fR_values).1 = true then (if am_c2 .ne ((r fR_values).2 ((g fR_at) : Int32).toNatClampNeg) a1 = true then (BR_skip_40 L xs (m + 1) d m a1 g r) else (BR_skip_41 L xs (m + 1) d m a1 1 g r)) else none)) else none)) := (fs_ev (M := nm_m62) rfl rfl).trans (eR_skip L xs (m + 1) d m 869 a1 g r)
/-- CobolParser$Tree.append(II)V -/
def BT_append_24 (L : Nat) (xs : Nat → Int32) (m d k : Nat) (x1 x2 : Int32) (g : a2_G) (r : a2_A) : Option fn_Z := (some (.inl none, g, r))
theorem bT_append_24 (L : Nat) (xs : Nat → Int32) (m d k : Nat) (n : Nat) (x1 x2 : Int32) (g : a2_G) (r : a2_A) : bk L xs nT_append nm_m63 m d k (n + 1) 24 [some (.ref cT), some (.int x1), some (.int x2), none, none] [] g r = BT_append_24 L xs m d k x1 x2 g r := by
  show _ = ((some (.inl none, g, r)) : Option fn_Z)
  exact (fs_rv (n := n + 0) rfl rfl).trans rfl
def BT_append_81 (L : Nat) (xs : Nat → Int32) (m d k : Nat) (x1 x2 x3 x4 : Int32) (g : a2_G) (r : a2_A) : Option fn_Z := (if am_inr (x3 + 6) (r fT_cells).1 = true then (if am_inr (x3 + 8) (r fT_cells).1 = true then (if am_inr (x3 + 8) (r fT_cells).1 = true then (if am_inr ((x2 * 12) + 4) (r fT_cells).1 = true then (some (.inl none, g, (a2_ua (a2_ua (a2_ua r fT_cells ((r fT_cells).1, (upd (r fT_cells).2 ((x3 + 6) : Int32).toNatClampNeg x2))) fT_cells ((r fT_cells).1, (upd (upd (r fT_cells).2 ((x3 + 6) : Int32).toNatClampNeg x2) ((x3 + 8) : Int32).toNatClampNeg (((upd (r fT_cells).2 ((x3 + 6) : Int32).toNatClampNeg x2) ((x3 + 8) : Int32).toNatClampNeg) + 1)))) fT_cells ((r fT_cells).1, (upd (upd (upd (r fT_cells).2 ((x3 + 6) : Int32).toNatClampNeg x2) ((x3 + 8) : Int32).toNatClampNeg (((upd (r fT_cells).2 ((x3 + 6) : Int32).toNatClampNeg x2) ((x3 + 8) : Int32).toNatClampNeg) + 1)) (((x2 * 12) + 4) : Int32).toNatClampNeg x1))))) else none) else none) else none) else none)
theorem bT_append_81 (L : Nat) (xs : Nat → Int32) (m d k : Nat) (n : Nat) (x1 x2 x3 x4 : Int32) (g : a2_G) (r : a2_A) : bk L xs nT_append nm_m63 m d k (n + 27) 81 [some (.ref cT), some (.int x1), some (.int x2), some (.int x3), some (.int x4)] [] g r = BT_append_81 L xs m d k x1 x2 x3 x4 g r := by
  show _ = ((if am_inr (x3 + 6) (r fT_cells).1 = true then (if am_inr (x3 + 8) (r fT_cells).1 = true then (if am_inr (x3 + 8) (r fT_cells).1 = true then (if am_inr ((x2 * 12) + 4) (r fT_cells).1 = true then (some (.inl none, g, (a2_ua (a2_ua (a2_ua r fT_cells ((r fT_cells).1, (upd (r fT_cells).2 ((x3 + 6) : Int32).toNatClampNeg x2))) fT_cells ((r fT_cells).1, (upd (upd (r fT_cells).2 ((x3 + 6) : Int32).toNatClampNeg x2) ((x3 + 8) : Int32).toNatClampNeg (((upd (r fT_cells).2 ((x3 + 6) : Int32).toNatClampNeg x2) ((x3 + 8) : Int32).toNatClampNeg) + 1)))) fT_cells ((r fT_cells).1, (upd (upd (upd (r fT_cells).2 ((x3 + 6) : Int32).toNatClampNeg x2) ((x3 + 8) : Int32).toNatClampNeg (((upd (r fT_cells).2 ((x3 + 6) : Int32).toNatClampNeg x2) ((x3 + 8) : Int32).toNatClampNeg) + 1)) (((x2 * 12) + 4) : Int32).toNatClampNeg x1))))) else none) else none) else none) else none) : Option fn_Z)
  refine (fs_r (n := n + 21) 6 (pc' := 90) (L' := [some (.ref cT), some (.int x1), some (.int x2), some (.int x3), some (.int x4)]) (S' := [.int x2, .int (x3 + 6), .ref 10200]) rfl).trans ?_
  refine (fs_is (n := n + 20) (k := 200) rfl rfl).trans (fs_ite ?_ rfl)
  refine (fs_r (n := n + 14) 6 (pc' := 100) (L' := [some (.ref cT), some (.int x1), some (.int x2), some (.int x3), some (.int x4)]) (S' := [.int (x3 + 8), .ref 10200, .int (x3 + 8), .ref 10200]) rfl).trans ?_
  refine (fs_il (n := n + 13) (k := 200) rfl rfl).trans (fs_ite ?_ rfl)
  refine (fs_r (n := n + 11) 2 (pc' := 103) (L' := [some (.ref cT), some (.int x1), some (.int x2), some (.int x3), some (.int x4)]) (S' := [.int (((upd (r fT_cells).2 ((x3 + 6) : Int32).toNatClampNeg x2) ((x3 + 8) : Int32).toNatClampNeg) + 1), .int (x3 + 8), .ref 10200]) rfl).trans ?_
  refine (fs_is (n := n + 10) (k := 200) rfl rfl).trans (fs_ite ?_ rfl)
  refine (fs_r (n := n + 2) 8 (pc' := 115) (L' := [some (.ref cT), some (.int x1), some (.int x2), some (.int x3), some (.int x4)]) (S' := [.int x1, .int ((x2 * 12) + 4), .ref 10200]) rfl).trans ?_
  refine (fs_is (n := n + 1) (k := 200) rfl rfl).trans (fs_ite ?_ rfl)
  exact (fs_rv (n := n + 0) rfl rfl).trans rfl
def BT_append_72 (L : Nat) (xs : Nat → Int32) (m d k : Nat) (x1 x2 x3 x4 : Int32) (g : a2_G) (r : a2_A) : Option fn_Z := (if am_inr (x3 + 5) (r fT_cells).1 = true then (BT_append_81 L xs m d k x1 x2 x3 x4 g (a2_ua r fT_cells ((r fT_cells).1, (upd (r fT_cells).2 ((x3 + 5) : Int32).toNatClampNeg x2)))) else none)
theorem bT_append_72 (L : Nat) (xs : Nat → Int32) (m d k : Nat) (n : Nat) (x1 x2 x3 x4 : Int32) (g : a2_G) (r : a2_A) : bk L xs nT_append nm_m63 m d k (n + 34) 72 [some (.ref cT), some (.int x1), some (.int x2), some (.int x3), some (.int x4)] [] g r = BT_append_72 L xs m d k x1 x2 x3 x4 g r := by
  show _ = ((if am_inr (x3 + 5) (r fT_cells).1 = true then (BT_append_81 L xs m d k x1 x2 x3 x4 g (a2_ua r fT_cells ((r fT_cells).1, (upd (r fT_cells).2 ((x3 + 5) : Int32).toNatClampNeg x2)))) else none) : Option fn_Z)
  refine (fs_r (n := n + 28) 6 (pc' := 80) (L' := [some (.ref cT), some (.int x1), some (.int x2), some (.int x3), some (.int x4)]) (S' := [.int x2, .int (x3 + 5), .ref 10200]) rfl).trans ?_
  refine (fs_is (n := n + 27) (k := 200) rfl rfl).trans (fs_ite ?_ rfl)
  exact bT_append_81 L xs m d k (n + 0) x1 x2 x3 x4 g (a2_ua r fT_cells ((r fT_cells).1, (upd (r fT_cells).2 ((x3 + 5) : Int32).toNatClampNeg x2)))
theorem eT_append (L : Nat) (xs : Nat → Int32) (m d k : Nat) (n : Nat) (a1 a2 : Int32) (g : a2_G) (r : a2_A) : bk L xs nT_append nm_m63 m d k (n + 66) 0 [some (.ref cT), some (.int a1), some (.int a2), none, none] [] g r = (if am_c2 .lt a1 0 = true then (BT_append_24 L xs m d k a1 a2 g r) else (if am_c2 .ge a1 (g fT_made) = true then (BT_append_24 L xs m d k a1 a2 g r) else (if am_c2 .lt a2 0 = true then (BT_append_24 L xs m d k a1 a2 g r) else (if am_c2 .lt a2 (g fT_made) = true then (if am_inr ((a1 * 12) + 6) (r fT_cells).1 = true then (if am_c2 .lt ((r fT_cells).2 (((a1 * 12) + 6) : Int32).toNatClampNeg) 0 = true then (BT_append_72 L xs m d k a1 a2 (a1 * 12) ((r fT_cells).2 (((a1 * 12) + 6) : Int32).toNatClampNeg) g r) else (if am_c2 .ge ((r fT_cells).2 (((a1 * 12) + 6) : Int32).toNatClampNeg) (g fT_made) = true then (BT_append_72 L xs m d k a1 a2 (a1 * 12) ((r fT_cells).2 (((a1 * 12) + 6) : Int32).toNatClampNeg) g r) else (if am_inr ((((r fT_cells).2 (((a1 * 12) + 6) : Int32).toNatClampNeg) * 12) + 7) (r fT_cells).1 = true then (BT_append_81 L xs m d k a1 a2 (a1 * 12) ((r fT_cells).2 (((a1 * 12) + 6) : Int32).toNatClampNeg) g (a2_ua r fT_cells ((r fT_cells).1, (upd (r fT_cells).2 (((((r fT_cells).2 (((a1 * 12) + 6) : Int32).toNatClampNeg) * 12) + 7) : Int32).toNatClampNeg a2)))) else none))) else none) else (BT_append_24 L xs m d k a1 a2 g r))))) := by
  refine (fs_r (n := n + 65) 1 (pc' := 1) (L' := [some (.ref cT), some (.int a1), some (.int a2), none, none]) (S' := [.int a1]) rfl).trans ?_
  refine (fs_i (n := n + 64) rfl (t := 24) rfl (by decide)).trans (fs_ite ?_ ?_)
  · skip
    exact bT_append_24 L xs m d k (n + 63) a1 a2 g r
  · skip
    refine (fs_r (n := n + 61) 3 (pc' := 9) (L' := [some (.ref cT), some (.int a1), some (.int a2), none, none]) (S' := [.int (g fT_made), .int a1]) rfl).trans ?_
    refine (fs_j (n := n + 60) rfl (t := 24) rfl (by decide)).trans (fs_ite ?_ ?_)
    · skip
      exact bT_append_24 L xs m d k (n + 59) a1 a2 g r
    · skip
      refine (fs_r (n := n + 59) 1 (pc' := 13) (L' := [some (.ref cT), some (.int a1), some (.int a2), none, none]) (S' := [.int a2]) rfl).trans ?_
      refine (fs_i (n := n + 58) rfl (t := 24) rfl (by decide)).trans (fs_ite ?_ ?_)
      · skip
        exact bT_append_24 L xs m d k (n + 57) a1 a2 g r
      · skip
        refine (fs_r (n := n + 55) 3 (pc' := 21) (L' := [some (.ref cT), some (.int a1), some (.int a2), none, none]) (S' := [.int (g fT_made), .int a2]) rfl).trans ?_
        refine (fs_j (n := n + 54) rfl (t := 25) rfl (by decide)).trans (fs_ite ?_ ?_)
        · skip
          refine (fs_r (n := n + 45) 9 (pc' := 38) (L' := [some (.ref cT), some (.int a1), some (.int a2), some (.int (a1 * 12)), none]) (S' := [.int ((a1 * 12) + 6), .ref 10200]) rfl).trans ?_
          refine (fs_il (n := n + 44) (k := 200) rfl rfl).trans (fs_ite ?_ rfl)
          refine (fs_r (n := n + 42) 2 (pc' := 43) (L' := [some (.ref cT), some (.int a1), some (.int a2), some (.int (a1 * 12)), some (.int ((r fT_cells).2 (((a1 * 12) + 6) : Int32).toNatClampNeg))]) (S' := [.int ((r fT_cells).2 (((a1 * 12) + 6) : Int32).toNatClampNeg)]) rfl).trans ?_
          refine (fs_i (n := n + 41) rfl (t := 72) rfl (by decide)).trans (fs_ite ?_ ?_)
          · skip
            exact bT_append_72 L xs m d k (n + 7) a1 a2 (a1 * 12) ((r fT_cells).2 (((a1 * 12) + 6) : Int32).toNatClampNeg) g r
          · skip
            refine (fs_r (n := n + 38) 3 (pc' := 52) (L' := [some (.ref cT), some (.int a1), some (.int a2), some (.int (a1 * 12)), some (.int ((r fT_cells).2 (((a1 * 12) + 6) : Int32).toNatClampNeg))]) (S' := [.int (g fT_made), .int ((r fT_cells).2 (((a1 * 12) + 6) : Int32).toNatClampNeg)]) rfl).trans ?_
            refine (fs_j (n := n + 37) rfl (t := 72) rfl (by decide)).trans (fs_ite ?_ ?_)
            · skip
              exact bT_append_72 L xs m d k (n + 3) a1 a2 (a1 * 12) ((r fT_cells).2 (((a1 * 12) + 6) : Int32).toNatClampNeg) g r
            · skip
              refine (fs_r (n := n + 29) 8 (pc' := 68) (L' := [some (.ref cT), some (.int a1), some (.int a2), some (.int (a1 * 12)), some (.int ((r fT_cells).2 (((a1 * 12) + 6) : Int32).toNatClampNeg))]) (S' := [.int a2, .int ((((r fT_cells).2 (((a1 * 12) + 6) : Int32).toNatClampNeg) * 12) + 7), .ref 10200]) rfl).trans ?_
              refine (fs_is (n := n + 28) (k := 200) rfl rfl).trans (fs_ite ?_ rfl)
              refine (fs_go (n := n + 27) rfl (t := 81) rfl (by decide)).trans ?_
              exact bT_append_81 L xs m d k (n + 0) a1 a2 (a1 * 12) ((r fT_cells).2 (((a1 * 12) + 6) : Int32).toNatClampNeg) g (a2_ua r fT_cells ((r fT_cells).1, (upd (r fT_cells).2 (((((r fT_cells).2 (((a1 * 12) + 6) : Int32).toNatClampNeg) * 12) + 7) : Int32).toNatClampNeg a2)))
        · skip
          exact bT_append_24 L xs m d k (n + 53) a1 a2 g r
theorem qT_append (L : Nat) (xs : Nat → Int32) (m d : Nat) (a1 a2 : Int32) (g : a2_G) (r : a2_A) : ev L xs (m + 1) (d + 1) nT_append [.ref cT, .int a1, .int a2] g r = (if am_c2 .lt a1 0 = true then (BT_append_24 L xs (m + 1) d m a1 a2 g r) else (if am_c2 .ge a1 (g fT_made) = true then (BT_append_24 L xs (m + 1) d m a1 a2 g r) else (if am_c2 .lt a2 0 = true then (BT_append_24 L xs (m + 1) d m a1 a2 g r) else (if am_c2 .lt a2 (g fT_made) = true then (if am_inr ((a1 * 12) + 6) (r fT_cells).1 = true then (if am_c2 .lt ((r fT_cells).2 (((a1 * 12) + 6) : Int32).toNatClampNeg) 0 = true then (BT_append_72 L xs (m + 1) d m a1 a2 (a1 * 12) ((r fT_cells).2 (((a1 * 12) + 6) : Int32).toNatClampNeg) g r) else (if am_c2 .ge ((r fT_cells).2 (((a1 * 12) + 6) : Int32).toNatClampNeg) (g fT_made) = true then (BT_append_72 L xs (m + 1) d m a1 a2 (a1 * 12) ((r fT_cells).2 (((a1 * 12) + 6) : Int32).toNatClampNeg) g r) else (if am_inr ((((r fT_cells).2 (((a1 * 12) + 6) : Int32).toNatClampNeg) * 12) + 7) (r fT_cells).1 = true then (BT_append_81 L xs (m + 1) d m a1 a2 (a1 * 12) ((r fT_cells).2 (((a1 * 12) + 6) : Int32).toNatClampNeg) g (a2_ua r fT_cells ((r fT_cells).1, (upd (r fT_cells).2 (((((r fT_cells).2 (((a1 * 12) + 6) : Int32).toNatClampNeg) * 12) + 7) : Int32).toNatClampNeg a2)))) else none))) else none) else (BT_append_24 L xs (m + 1) d m a1 a2 g r))))) := (fs_ev (M := nm_m63) rfl rfl).trans (eT_append L xs (m + 1) d m 834 a1 a2 g r)
/-- CobolParser$Clauses.enterBody()V -/
def BC_enterBody_21 (L : Nat) (xs : Nat → Int32) (m d k : Nat) (g : a2_G) (r : a2_A) : Option fn_Z := (some (.inl none, g, r))
theorem bC_enterBody_21 (L : Nat) (xs : Nat → Int32) (m d k : Nat) (n : Nat) (g : a2_G) (r : a2_A) : bk L xs nC_enterBody nm_m64 m d k (n + 1) 21 [some (.ref cC)] [] g r = BC_enterBody_21 L xs m d k g r := by
  show _ = ((some (.inl none, g, r)) : Option fn_Z)
  exact (fs_rv (n := n + 0) rfl rfl).trans rfl
theorem eC_enterBody (L : Nat) (xs : Nat → Int32) (m d k : Nat) (n : Nat) (g : a2_G) (r : a2_A) : bk L xs nC_enterBody nm_m64 m d k (n + 10) 0 [some (.ref cC)] [] g r = (fn_v (ev L xs m d nU_state [.ref cU] g r) fun v3 g1 r2 => (if am_c2 .eq v3 9 = true then (BC_enterBody_21 L xs m d k g1 r2) else (fn_n (ev L xs m d nU_setState [.ref cU, .int 11] g1 r2) fun g4 r5 => (BC_enterBody_21 L xs m d k g4 r5)))) := by
  refine (fs_r (n := n + 8) 2 (pc' := 4) (L' := [some (.ref cC)]) (S' := [.ref cU]) rfl).trans ?_
  refine (fs_cv (n := n + 7) (N := nm_m54) (as := [.ref cU]) (rest := []) rfl rfl (Or.inl rfl) rfl rfl rfl rfl rfl).trans (fs_fv fun v3 g1 r2 => ?_)
  refine (fs_r (n := n + 6) 1 (pc' := 9) (L' := [some (.ref cC)]) (S' := [.int 9, .int v3]) rfl).trans ?_
  refine (fs_j (n := n + 5) rfl (t := 21) rfl (by decide)).trans (fs_ite ?_ ?_)
  · skip
    exact bC_enterBody_21 L xs m d k (n + 4) g1 r2
  · skip
    refine (fs_r (n := n + 2) 3 (pc' := 18) (L' := [some (.ref cC)]) (S' := [.int 11, .ref cU]) rfl).trans ?_
    refine (fs_cn (n := n + 1) (N := nm_m65) (as := [.ref cU, .int 11]) (rest := []) rfl rfl (Or.inl rfl) rfl rfl rfl rfl rfl).trans (fs_fn fun g4 r5 => ?_)
    exact bC_enterBody_21 L xs m d k (n + 0) g4 r5
theorem qC_enterBody (L : Nat) (xs : Nat → Int32) (m d : Nat) (g : a2_G) (r : a2_A) : ev L xs (m + 1) (d + 1) nC_enterBody [.ref cC] g r = (fn_v (ev L xs (m + 1) d nU_state [.ref cU] g r) fun v3 g1 r2 => (if am_c2 .eq v3 9 = true then (BC_enterBody_21 L xs (m + 1) d m g1 r2) else (fn_n (ev L xs (m + 1) d nU_setState [.ref cU, .int 11] g1 r2) fun g4 r5 => (BC_enterBody_21 L xs (m + 1) d m g4 r5)))) := (fs_ev (M := nm_m64) rfl rfl).trans (eC_enterBody L xs (m + 1) d m 890 g r)
/-- CobolParser$Units.setState(I)V -/
def BU_setState_19 (L : Nat) (xs : Nat → Int32) (m d k : Nat) (x1 : Int32) (g : a2_G) (r : a2_A) : Option fn_Z := (some (.inl none, g, r))
theorem bU_setState_19 (L : Nat) (xs : Nat → Int32) (m d k : Nat) (n : Nat) (x1 : Int32) (g : a2_G) (r : a2_A) : bk L xs nU_setState nm_m65 m d k (n + 1) 19 [some (.ref cU), some (.int x1)] [] g r = BU_setState_19 L xs m d k x1 g r := by
  show _ = ((some (.inl none, g, r)) : Option fn_Z)
  exact (fs_rv (n := n + 0) rfl rfl).trans rfl
theorem eU_setState (L : Nat) (xs : Nat → Int32) (m d k : Nat) (n : Nat) (a1 : Int32) (g : a2_G) (r : a2_A) : bk L xs nU_setState nm_m65 m d k (n + 12) 0 [some (.ref cU), some (.int a1)] [] g r = (if am_c2 .le (g fU_size) 0 = true then (BU_setState_19 L xs m d k a1 g r) else (if am_inr ((g fU_size) - 1) (r fU_states).1 = true then (BU_setState_19 L xs m d k a1 g (a2_ua r fU_states ((r fU_states).1, (upd (r fU_states).2 (((g fU_size) - 1) : Int32).toNatClampNeg a1)))) else none)) := by
  refine (fs_r (n := n + 10) 2 (pc' := 4) (L' := [some (.ref cU), some (.int a1)]) (S' := [.int (g fU_size)]) rfl).trans ?_
  refine (fs_i (n := n + 9) rfl (t := 19) rfl (by decide)).trans (fs_ite ?_ ?_)
  · skip
    exact bU_setState_19 L xs m d k (n + 8) a1 g r
  · skip
    refine (fs_r (n := n + 2) 7 (pc' := 18) (L' := [some (.ref cU), some (.int a1)]) (S' := [.int a1, .int ((g fU_size) - 1), .ref 10800]) rfl).trans ?_
    refine (fs_is (n := n + 1) (k := 800) rfl rfl).trans (fs_ite ?_ rfl)
    exact bU_setState_19 L xs m d k (n + 0) a1 g (a2_ua r fU_states ((r fU_states).1, (upd (r fU_states).2 (((g fU_size) - 1) : Int32).toNatClampNeg a1)))
theorem qU_setState (L : Nat) (xs : Nat → Int32) (m d : Nat) (a1 : Int32) (g : a2_G) (r : a2_A) : ev L xs (m + 1) (d + 1) nU_setState [.ref cU, .int a1] g r = (if am_c2 .le (g fU_size) 0 = true then (BU_setState_19 L xs (m + 1) d m a1 g r) else (if am_inr ((g fU_size) - 1) (r fU_states).1 = true then (BU_setState_19 L xs (m + 1) d m a1 g (a2_ua r fU_states ((r fU_states).1, (upd (r fU_states).2 (((g fU_size) - 1) : Int32).toNatClampNeg a1)))) else none)) := (fs_ev (M := nm_m65) rfl rfl).trans (eU_setState L xs (m + 1) d m 888 a1 g r)
/-- CobolParser$Items.readItem()V -/
def BI_readItem_104 (L : Nat) (xs : Nat → Int32) (m d k : Nat) (x1 x2 x3 x4 : Int32) (g : a2_G) (r : a2_A) : Option fn_Z := (fn_v (ev L xs m d nR_requireKind [.ref cR, .int 4] g r) fun v22 g20 r21 => (fn_n (ev L xs m d nI_place [.ref cI, .int x3, .int x1, .int x2] g20 r21) fun g23 r24 => (some (.inl none, g23, r24))))
theorem bI_readItem_104 (L : Nat) (xs : Nat → Int32) (m d k : Nat) (n : Nat) (x1 x2 x3 x4 : Int32) (g : a2_G) (r : a2_A) : bk L xs nI_readItem nm_m66 m d k (n + 11) 104 [some (.ref cI), some (.int x1), some (.int x2), some (.int x3), some (.int x4)] [] g r = BI_readItem_104 L xs m d k x1 x2 x3 x4 g r := by
  show _ = ((fn_v (ev L xs m d nR_requireKind [.ref cR, .int 4] g r) fun v22 g20 r21 => (fn_n (ev L xs m d nI_place [.ref cI, .int x3, .int x1, .int x2] g20 r21) fun g23 r24 => (some (.inl none, g23, r24)))) : Option fn_Z)
  refine (fs_r (n := n + 8) 3 (pc' := 109) (L' := [some (.ref cI), some (.int x1), some (.int x2), some (.int x3), some (.int x4)]) (S' := [.int 4, .ref cR]) rfl).trans ?_
  refine (fs_cv (n := n + 7) (N := nm_m59) (as := [.ref cR, .int 4]) (rest := []) rfl rfl (Or.inl rfl) rfl rfl rfl rfl rfl).trans (fs_fv fun v22 g20 r21 => ?_)
  refine (fs_r (n := n + 2) 5 (pc' := 117) (L' := [some (.ref cI), some (.int x1), some (.int x2), some (.int x3), some (.int x4)]) (S' := [.int x2, .int x1, .int x3, .ref cI]) rfl).trans ?_
  refine (fs_cn (n := n + 1) (N := nm_m84) (as := [.ref cI, .int x3, .int x1, .int x2]) (rest := []) rfl rfl (Or.inl rfl) rfl rfl rfl rfl rfl).trans (fs_fn fun g23 r24 => ?_)
  exact (fs_rv (n := n + 0) rfl rfl).trans rfl
def BI_readItem_74 (L : Nat) (xs : Nat → Int32) (m d k : Nat) (x1 x2 x3 x4 : Int32) (g : a2_G) (r : a2_A) : Option fn_Z := (if am_c2 .ge x4 1500 = true then (BI_readItem_104 L xs m d k x1 x2 x3 x4 g r) else (fn_v (ev L xs m d nR_isKind [.ref cR, .int 4] g r) fun v27 g25 r26 => (if am_c2 .ne v27 0 = true then (BI_readItem_104 L xs m d k x1 x2 x3 x4 g25 r26) else (fn_n (ev L xs m d nI_itemClause [.ref cI, .int x3] g25 r26) fun g28 r29 => (lp L xs nI_readItem nm_m66 m d k 74 [some (.ref cI), some (.int x1), some (.int x2), some (.int x3), some (.int (x4 + 1))] g28 r29)))))
theorem bI_readItem_74 (L : Nat) (xs : Nat → Int32) (m d k : Nat) (n : Nat) (x1 x2 x3 x4 : Int32) (g : a2_G) (r : a2_A) : bk L xs nI_readItem nm_m66 m d k (n + 19) 74 [some (.ref cI), some (.int x1), some (.int x2), some (.int x3), some (.int x4)] [] g r = BI_readItem_74 L xs m d k x1 x2 x3 x4 g r := by
  show _ = ((if am_c2 .ge x4 1500 = true then (BI_readItem_104 L xs m d k x1 x2 x3 x4 g r) else (fn_v (ev L xs m d nR_isKind [.ref cR, .int 4] g r) fun v27 g25 r26 => (if am_c2 .ne v27 0 = true then (BI_readItem_104 L xs m d k x1 x2 x3 x4 g25 r26) else (fn_n (ev L xs m d nI_itemClause [.ref cI, .int x3] g25 r26) fun g28 r29 => (lp L xs nI_readItem nm_m66 m d k 74 [some (.ref cI), some (.int x1), some (.int x2), some (.int x3), some (.int (x4 + 1))] g28 r29))))) : Option fn_Z)
  refine (fs_r (n := n + 17) 2 (pc' := 79) (L' := [some (.ref cI), some (.int x1), some (.int x2), some (.int x3), some (.int x4)]) (S' := [.int 1500, .int x4]) rfl).trans ?_
  refine (fs_j (n := n + 16) rfl (t := 104) rfl (by decide)).trans (fs_ite ?_ ?_)
  · skip
    exact bI_readItem_104 L xs m d k (n + 5) x1 x2 x3 x4 g r
  · skip
    refine (fs_r (n := n + 13) 3 (pc' := 87) (L' := [some (.ref cI), some (.int x1), some (.int x2), some (.int x3), some (.int x4)]) (S' := [.int 4, .ref cR]) rfl).trans ?_
    refine (fs_cv (n := n + 12) (N := nm_m50) (as := [.ref cR, .int 4]) (rest := []) rfl rfl (Or.inl rfl) rfl rfl rfl rfl rfl).trans (fs_fv fun v27 g25 r26 => ?_)
    refine (fs_i (n := n + 11) rfl (t := 104) rfl (by decide)).trans (fs_ite ?_ ?_)
    · skip
      exact bI_readItem_104 L xs m d k (n + 0) x1 x2 x3 x4 g25 r26
    · skip
      refine (fs_r (n := n + 9) 2 (pc' := 95) (L' := [some (.ref cI), some (.int x1), some (.int x2), some (.int x3), some (.int x4)]) (S' := [.int x3, .ref cI]) rfl).trans ?_
      refine (fs_cn (n := n + 8) (N := nm_m70) (as := [.ref cI, .int x3]) (rest := []) rfl rfl (Or.inl rfl) rfl rfl rfl rfl rfl).trans (fs_fn fun g28 r29 => ?_)
      refine (fs_r (n := n + 7) 1 (pc' := 101) (L' := [some (.ref cI), some (.int x1), some (.int x2), some (.int x3), some (.int (x4 + 1))]) (S' := []) rfl).trans ?_
      exact (fs_gb (n := n + 6) rfl (t := 74) rfl (by decide)).trans rfl
theorem lI_readItem_74 (L : Nat) (xs : Nat → Int32) (m d k : Nat) (x1 x2 x3 x4 : Int32) (g : a2_G) (r : a2_A) : lp L xs nI_readItem nm_m66 m d (k + 1) 74 [some (.ref cI), some (.int x1), some (.int x2), some (.int x3), some (.int x4)] g r = BI_readItem_74 L xs m d k x1 x2 x3 x4 g r := fs_lp.trans (bI_readItem_74 L xs m d k 881 x1 x2 x3 x4 g r)
def BI_readItem_27 (L : Nat) (xs : Nat → Int32) (m d k : Nat) (x1 x2 : Int32) (g : a2_G) (r : a2_A) : Option fn_Z := (fn_v (ev L xs m d nR_place [.ref cR] g r) fun v9 g7 r8 => (fn_v (ev L xs m d nT_make [.ref cT, .int 12, .int 0, .int v9] g7 r8) fun v12 g10 r11 => (fn_n (ev L xs m d nR_advance [.ref cR] g10 r11) fun g13 r14 => (fn_v (ev L xs m d nI_nameOrFiller [.ref cI] g13 r14) fun v17 g15 r16 => (fn_n (ev L xs m d nT_set [.ref cT, .int v12, .int 1, .int ((1000 * x1) + v17)] g15 r16) fun g18 r19 => (BI_readItem_74 L xs m d k x1 x2 v12 0 g18 r19))))))
theorem bI_readItem_27 (L : Nat) (xs : Nat → Int32) (m d k : Nat) (n : Nat) (x1 x2 : Int32) (g : a2_G) (r : a2_A) : bk L xs nI_readItem nm_m66 m d k (n + 44) 27 [some (.ref cI), some (.int x1), some (.int x2), none, none] [] g r = BI_readItem_27 L xs m d k x1 x2 g r := by
  show _ = ((fn_v (ev L xs m d nR_place [.ref cR] g r) fun v9 g7 r8 => (fn_v (ev L xs m d nT_make [.ref cT, .int 12, .int 0, .int v9] g7 r8) fun v12 g10 r11 => (fn_n (ev L xs m d nR_advance [.ref cR] g10 r11) fun g13 r14 => (fn_v (ev L xs m d nI_nameOrFiller [.ref cI] g13 r14) fun v17 g15 r16 => (fn_n (ev L xs m d nT_set [.ref cT, .int v12, .int 1, .int ((1000 * x1) + v17)] g15 r16) fun g18 r19 => (BI_readItem_74 L xs m d k x1 x2 v12 0 g18 r19)))))) : Option fn_Z)
  refine (fs_r (n := n + 38) 6 (pc' := 38) (L' := [some (.ref cI), some (.int x1), some (.int x2), none, none]) (S' := [.ref cR, .int 0, .int 12, .ref cT]) rfl).trans ?_
  refine (fs_cv (n := n + 37) (N := nm_m58) (as := [.ref cR]) (rest := [.int 0, .int 12, .ref cT]) rfl rfl (Or.inl rfl) rfl rfl rfl rfl rfl).trans (fs_fv fun v9 g7 r8 => ?_)
  refine (fs_cv (n := n + 36) (N := nm_m45) (as := [.ref cT, .int 12, .int 0, .int v9]) (rest := []) rfl rfl (Or.inl rfl) rfl rfl rfl rfl rfl).trans (fs_fv fun v12 g10 r11 => ?_)
  refine (fs_r (n := n + 33) 3 (pc' := 49) (L' := [some (.ref cI), some (.int x1), some (.int x2), some (.int v12), none]) (S' := [.ref cR]) rfl).trans ?_
  refine (fs_cn (n := n + 32) (N := nm_m61) (as := [.ref cR]) (rest := []) rfl rfl (Or.inl rfl) rfl rfl rfl rfl rfl).trans (fs_fn fun g13 r14 => ?_)
  refine (fs_r (n := n + 24) 8 (pc' := 64) (L' := [some (.ref cI), some (.int x1), some (.int x2), some (.int v12), none]) (S' := [.ref cI, .int (1000 * x1), .int 1, .int v12, .ref cT]) rfl).trans ?_
  refine (fs_cv (n := n + 23) (N := nm_m68) (as := [.ref cI]) (rest := [.int (1000 * x1), .int 1, .int v12, .ref cT]) rfl rfl (Or.inl rfl) rfl rfl rfl rfl rfl).trans (fs_fv fun v17 g15 r16 => ?_)
  refine (fs_r (n := n + 22) 1 (pc' := 68) (L' := [some (.ref cI), some (.int x1), some (.int x2), some (.int v12), none]) (S' := [.int ((1000 * x1) + v17), .int 1, .int v12, .ref cT]) rfl).trans ?_
  refine (fs_cn (n := n + 21) (N := nm_m69) (as := [.ref cT, .int v12, .int 1, .int ((1000 * x1) + v17)]) (rest := []) rfl rfl (Or.inl rfl) rfl rfl rfl rfl rfl).trans (fs_fn fun g18 r19 => ?_)
  refine (fs_r (n := n + 19) 2 (pc' := 74) (L' := [some (.ref cI), some (.int x1), some (.int x2), some (.int v12), some (.int 0)]) (S' := []) rfl).trans ?_
  exact bI_readItem_74 L xs m d k (n + 0) x1 x2 v12 0 g18 r19
theorem eI_readItem (L : Nat) (xs : Nat → Int32) (m d k : Nat) (n : Nat) (g : a2_G) (r : a2_A) : bk L xs nI_readItem nm_m66 m d k (n + 59) 0 [some (.ref cI), none, none, none, none] [] g r = (fn_v (ev L xs m d nR_value [.ref cR] g r) fun v3 g1 r2 => (fn_v (ev L xs m d nI_keptOpen [.ref cI, .int v3] g1 r2) fun v6 g4 r5 => (if am_c2 .ne v6 (-1) = true then (BI_readItem_27 L xs m d k v3 v6 g4 r5) else (fn_n (ev L xs m d nR_refuse [.ref cR, .int 1] g4 r5) fun g30 r31 => (BI_readItem_27 L xs m d k v3 v6 g30 r31))))) := by
  refine (fs_r (n := n + 57) 2 (pc' := 4) (L' := [some (.ref cI), none, none, none, none]) (S' := [.ref cR]) rfl).trans ?_
  refine (fs_cv (n := n + 56) (N := nm_m60) (as := [.ref cR]) (rest := []) rfl rfl (Or.inl rfl) rfl rfl rfl rfl rfl).trans (fs_fv fun v3 g1 r2 => ?_)
  refine (fs_r (n := n + 53) 3 (pc' := 10) (L' := [some (.ref cI), some (.int v3), none, none, none]) (S' := [.int v3, .ref cI]) rfl).trans ?_
  refine (fs_cv (n := n + 52) (N := nm_m67) (as := [.ref cI, .int v3]) (rest := []) rfl rfl (Or.inl rfl) rfl rfl rfl rfl rfl).trans (fs_fv fun v6 g4 r5 => ?_)
  refine (fs_r (n := n + 49) 3 (pc' := 16) (L' := [some (.ref cI), some (.int v3), some (.int v6), none, none]) (S' := [.int (-1), .int v6]) rfl).trans ?_
  refine (fs_j (n := n + 48) rfl (t := 27) rfl (by decide)).trans (fs_ite ?_ ?_)
  · skip
    exact bI_readItem_27 L xs m d k (n + 4) v3 v6 g4 r5
  · skip
    refine (fs_r (n := n + 45) 3 (pc' := 24) (L' := [some (.ref cI), some (.int v3), some (.int v6), none, none]) (S' := [.int 1, .ref cR]) rfl).trans ?_
    refine (fs_cn (n := n + 44) (N := nm_m56) (as := [.ref cR, .int 1]) (rest := []) rfl rfl (Or.inl rfl) rfl rfl rfl rfl rfl).trans (fs_fn fun g30 r31 => ?_)
    exact bI_readItem_27 L xs m d k (n + 0) v3 v6 g30 r31
theorem qI_readItem (L : Nat) (xs : Nat → Int32) (m d : Nat) (g : a2_G) (r : a2_A) : ev L xs (m + 1) (d + 1) nI_readItem [.ref cI] g r = (fn_v (ev L xs (m + 1) d nR_value [.ref cR] g r) fun v3 g1 r2 => (fn_v (ev L xs (m + 1) d nI_keptOpen [.ref cI, .int v3] g1 r2) fun v6 g4 r5 => (if am_c2 .ne v6 (-1) = true then (BI_readItem_27 L xs (m + 1) d m v3 v6 g4 r5) else (fn_n (ev L xs (m + 1) d nR_refuse [.ref cR, .int 1] g4 r5) fun g30 r31 => (BI_readItem_27 L xs (m + 1) d m v3 v6 g30 r31))))) := (fs_ev (M := nm_m66) rfl rfl).trans (eI_readItem L xs (m + 1) d m 841 g r)
/-- CobolParser$Items.keptOpen(I)I -/
def BI_keptOpen_11 (L : Nat) (xs : Nat → Int32) (m d k : Nat) (x1 : Int32) (g : a2_G) (r : a2_A) : Option fn_Z := (some (.inl (some (.int 0)), g, r))
theorem bI_keptOpen_11 (L : Nat) (xs : Nat → Int32) (m d k : Nat) (n : Nat) (x1 : Int32) (g : a2_G) (r : a2_A) : bk L xs nI_keptOpen nm_m67 m d k (n + 2) 11 [some (.ref cI), some (.int x1), none] [] g r = BI_keptOpen_11 L xs m d k x1 g r := by
  show _ = ((some (.inl (some (.int 0)), g, r)) : Option fn_Z)
  refine (fs_r (n := n + 1) 1 (pc' := 12) (L' := [some (.ref cI), some (.int x1), none]) (S' := [.int 0]) rfl).trans ?_
  exact (fs_ri (n := n + 0) rfl rfl).trans rfl
def BI_keptOpen_46 (L : Nat) (xs : Nat → Int32) (m d k : Nat) (x1 : Int32) (g : a2_G) (r : a2_A) : Option fn_Z := (some (.inl (some (.int (-1))), g, r))
theorem bI_keptOpen_46 (L : Nat) (xs : Nat → Int32) (m d k : Nat) (n : Nat) (x1 : Int32) (g : a2_G) (r : a2_A) : bk L xs nI_keptOpen nm_m67 m d k (n + 2) 46 [some (.ref cI), some (.int x1), none] [] g r = BI_keptOpen_46 L xs m d k x1 g r := by
  show _ = ((some (.inl (some (.int (-1))), g, r)) : Option fn_Z)
  refine (fs_r (n := n + 1) 1 (pc' := 47) (L' := [some (.ref cI), some (.int x1), none]) (S' := [.int (-1)]) rfl).trans ?_
  exact (fs_ri (n := n + 0) rfl rfl).trans rfl
def BI_keptOpen_83 (L : Nat) (xs : Nat → Int32) (m d k : Nat) (x1 x2 : Int32) (g : a2_G) (r : a2_A) : Option fn_Z := (some (.inl (some (.int (-1))), g, r))
theorem bI_keptOpen_83 (L : Nat) (xs : Nat → Int32) (m d k : Nat) (n : Nat) (x1 x2 : Int32) (g : a2_G) (r : a2_A) : bk L xs nI_keptOpen nm_m67 m d k (n + 2) 83 [some (.ref cI), some (.int x1), some (.int x2)] [] g r = BI_keptOpen_83 L xs m d k x1 x2 g r := by
  show _ = ((some (.inl (some (.int (-1))), g, r)) : Option fn_Z)
  refine (fs_r (n := n + 1) 1 (pc' := 84) (L' := [some (.ref cI), some (.int x1), some (.int x2)]) (S' := [.int (-1)]) rfl).trans ?_
  exact (fs_ri (n := n + 0) rfl rfl).trans rfl
def BI_keptOpen_53 (L : Nat) (xs : Nat → Int32) (m d k : Nat) (x1 x2 : Int32) (g : a2_G) (r : a2_A) : Option fn_Z := (if am_c2 .le x2 0 = true then (BI_keptOpen_83 L xs m d k x1 x2 g r) else (if am_c2 .gt x2 49 = true then (BI_keptOpen_83 L xs m d k x1 x2 g r) else (if am_inr (x2 - 1) (r fI_openLevels).1 = true then (if am_c2 .ge ((r fI_openLevels).2 ((x2 - 1) : Int32).toNatClampNeg) x1 = true then (lp L xs nI_keptOpen nm_m67 m d k 53 [some (.ref cI), some (.int x1), some (.int (x2 + (-1)))] g r) else (some (.inl (some (.int x2)), g, r))) else none)))
theorem bI_keptOpen_53 (L : Nat) (xs : Nat → Int32) (m d k : Nat) (n : Nat) (x1 x2 : Int32) (g : a2_G) (r : a2_A) : bk L xs nI_keptOpen nm_m67 m d k (n + 15) 53 [some (.ref cI), some (.int x1), some (.int x2)] [] g r = BI_keptOpen_53 L xs m d k x1 x2 g r := by
  show _ = ((if am_c2 .le x2 0 = true then (BI_keptOpen_83 L xs m d k x1 x2 g r) else (if am_c2 .gt x2 49 = true then (BI_keptOpen_83 L xs m d k x1 x2 g r) else (if am_inr (x2 - 1) (r fI_openLevels).1 = true then (if am_c2 .ge ((r fI_openLevels).2 ((x2 - 1) : Int32).toNatClampNeg) x1 = true then (lp L xs nI_keptOpen nm_m67 m d k 53 [some (.ref cI), some (.int x1), some (.int (x2 + (-1)))] g r) else (some (.inl (some (.int x2)), g, r))) else none))) : Option fn_Z)
  refine (fs_r (n := n + 14) 1 (pc' := 54) (L' := [some (.ref cI), some (.int x1), some (.int x2)]) (S' := [.int x2]) rfl).trans ?_
  refine (fs_i (n := n + 13) rfl (t := 83) rfl (by decide)).trans (fs_ite ?_ ?_)
  · skip
    exact bI_keptOpen_83 L xs m d k (n + 11) x1 x2 g r
  · skip
    refine (fs_r (n := n + 11) 2 (pc' := 60) (L' := [some (.ref cI), some (.int x1), some (.int x2)]) (S' := [.int 49, .int x2]) rfl).trans ?_
    refine (fs_j (n := n + 10) rfl (t := 83) rfl (by decide)).trans (fs_ite ?_ ?_)
    · skip
      exact bI_keptOpen_83 L xs m d k (n + 8) x1 x2 g r
    · skip
      refine (fs_r (n := n + 5) 5 (pc' := 70) (L' := [some (.ref cI), some (.int x1), some (.int x2)]) (S' := [.int (x2 - 1), .ref 10703]) rfl).trans ?_
      refine (fs_il (n := n + 4) (k := 703) rfl rfl).trans (fs_ite ?_ rfl)
      refine (fs_r (n := n + 3) 1 (pc' := 72) (L' := [some (.ref cI), some (.int x1), some (.int x2)]) (S' := [.int x1, .int ((r fI_openLevels).2 ((x2 - 1) : Int32).toNatClampNeg)]) rfl).trans ?_
      refine (fs_j (n := n + 2) rfl (t := 77) rfl (by decide)).trans (fs_ite ?_ ?_)
      · skip
        refine (fs_r (n := n + 1) 1 (pc' := 80) (L' := [some (.ref cI), some (.int x1), some (.int (x2 + (-1)))]) (S' := []) rfl).trans ?_
        exact (fs_gb (n := n + 0) rfl (t := 53) rfl (by decide)).trans rfl
      · skip
        refine (fs_r (n := n + 1) 1 (pc' := 76) (L' := [some (.ref cI), some (.int x1), some (.int x2)]) (S' := [.int x2]) rfl).trans ?_
        exact (fs_ri (n := n + 0) rfl rfl).trans rfl
theorem lI_keptOpen_53 (L : Nat) (xs : Nat → Int32) (m d k : Nat) (x1 x2 : Int32) (g : a2_G) (r : a2_A) : lp L xs nI_keptOpen nm_m67 m d (k + 1) 53 [some (.ref cI), some (.int x1), some (.int x2)] g r = BI_keptOpen_53 L xs m d k x1 x2 g r := fs_lp.trans (bI_keptOpen_53 L xs m d k 885 x1 x2 g r)
def BI_keptOpen_34 (L : Nat) (xs : Nat → Int32) (m d k : Nat) (x1 x2 : Int32) (g : a2_G) (r : a2_A) : Option fn_Z := (some (.inl (some (.int x2)), g, r))
theorem bI_keptOpen_34 (L : Nat) (xs : Nat → Int32) (m d k : Nat) (n : Nat) (x1 x2 : Int32) (g : a2_G) (r : a2_A) : bk L xs nI_keptOpen nm_m67 m d k (n + 1) 34 [some (.ref cI), some (.int x1), none] [.int x2] g r = BI_keptOpen_34 L xs m d k x1 x2 g r := by
  show _ = ((some (.inl (some (.int x2)), g, r)) : Option fn_Z)
  exact (fs_ri (n := n + 0) rfl rfl).trans rfl
theorem eI_keptOpen (L : Nat) (xs : Nat → Int32) (m d k : Nat) (n : Nat) (a1 : Int32) (g : a2_G) (r : a2_A) : bk L xs nI_keptOpen nm_m67 m d k (n + 33) 0 [some (.ref cI), some (.int a1), none] [] g r = (if am_c2 .eq a1 1 = true then (BI_keptOpen_11 L xs m d k a1 g r) else (if am_c2 .ne a1 77 = true then (if am_c2 .ne a1 88 = true then (if am_c2 .lt a1 1 = true then (BI_keptOpen_46 L xs m d k a1 g r) else (if am_c2 .le a1 49 = true then (BI_keptOpen_53 L xs m d k a1 (g fI_openSize) g r) else (BI_keptOpen_46 L xs m d k a1 g r))) else (if am_c2 .le (g fI_openSize) 0 = true then (BI_keptOpen_34 L xs m d k a1 (-1) g r) else (BI_keptOpen_34 L xs m d k a1 (g fI_openSize) g r))) else (BI_keptOpen_11 L xs m d k a1 g r))) := by
  refine (fs_r (n := n + 31) 2 (pc' := 2) (L' := [some (.ref cI), some (.int a1), none]) (S' := [.int 1, .int a1]) rfl).trans ?_
  refine (fs_j (n := n + 30) rfl (t := 11) rfl (by decide)).trans (fs_ite ?_ ?_)
  · skip
    exact bI_keptOpen_11 L xs m d k (n + 28) a1 g r
  · skip
    refine (fs_r (n := n + 28) 2 (pc' := 8) (L' := [some (.ref cI), some (.int a1), none]) (S' := [.int 77, .int a1]) rfl).trans ?_
    refine (fs_j (n := n + 27) rfl (t := 13) rfl (by decide)).trans (fs_ite ?_ ?_)
    · skip
      refine (fs_r (n := n + 25) 2 (pc' := 16) (L' := [some (.ref cI), some (.int a1), none]) (S' := [.int 88, .int a1]) rfl).trans ?_
      refine (fs_j (n := n + 24) rfl (t := 35) rfl (by decide)).trans (fs_ite ?_ ?_)
      · skip
        refine (fs_r (n := n + 22) 2 (pc' := 37) (L' := [some (.ref cI), some (.int a1), none]) (S' := [.int 1, .int a1]) rfl).trans ?_
        refine (fs_j (n := n + 21) rfl (t := 46) rfl (by decide)).trans (fs_ite ?_ ?_)
        · skip
          exact bI_keptOpen_46 L xs m d k (n + 19) a1 g r
        · skip
          refine (fs_r (n := n + 19) 2 (pc' := 43) (L' := [some (.ref cI), some (.int a1), none]) (S' := [.int 49, .int a1]) rfl).trans ?_
          refine (fs_j (n := n + 18) rfl (t := 48) rfl (by decide)).trans (fs_ite ?_ ?_)
          · skip
            refine (fs_r (n := n + 15) 3 (pc' := 53) (L' := [some (.ref cI), some (.int a1), some (.int (g fI_openSize))]) (S' := []) rfl).trans ?_
            exact bI_keptOpen_53 L xs m d k (n + 0) a1 (g fI_openSize) g r
          · skip
            exact bI_keptOpen_46 L xs m d k (n + 16) a1 g r
      · skip
        refine (fs_r (n := n + 22) 2 (pc' := 23) (L' := [some (.ref cI), some (.int a1), none]) (S' := [.int (g fI_openSize)]) rfl).trans ?_
        refine (fs_i (n := n + 21) rfl (t := 33) rfl (by decide)).trans (fs_ite ?_ ?_)
        · skip
          refine (fs_r (n := n + 20) 1 (pc' := 34) (L' := [some (.ref cI), some (.int a1), none]) (S' := [.int (-1)]) rfl).trans ?_
          exact bI_keptOpen_34 L xs m d k (n + 19) a1 (-1) g r
        · skip
          refine (fs_r (n := n + 19) 2 (pc' := 30) (L' := [some (.ref cI), some (.int a1), none]) (S' := [.int (g fI_openSize)]) rfl).trans ?_
          refine (fs_go (n := n + 18) rfl (t := 34) rfl (by decide)).trans ?_
          exact bI_keptOpen_34 L xs m d k (n + 17) a1 (g fI_openSize) g r
    · skip
      exact bI_keptOpen_11 L xs m d k (n + 25) a1 g r
theorem qI_keptOpen (L : Nat) (xs : Nat → Int32) (m d : Nat) (a1 : Int32) (g : a2_G) (r : a2_A) : ev L xs (m + 1) (d + 1) nI_keptOpen [.ref cI, .int a1] g r = (if am_c2 .eq a1 1 = true then (BI_keptOpen_11 L xs (m + 1) d m a1 g r) else (if am_c2 .ne a1 77 = true then (if am_c2 .ne a1 88 = true then (if am_c2 .lt a1 1 = true then (BI_keptOpen_46 L xs (m + 1) d m a1 g r) else (if am_c2 .le a1 49 = true then (BI_keptOpen_53 L xs (m + 1) d m a1 (g fI_openSize) g r) else (BI_keptOpen_46 L xs (m + 1) d m a1 g r))) else (if am_c2 .le (g fI_openSize) 0 = true then (BI_keptOpen_34 L xs (m + 1) d m a1 (-1) g r) else (BI_keptOpen_34 L xs (m + 1) d m a1 (g fI_openSize) g r))) else (BI_keptOpen_11 L xs (m + 1) d m a1 g r))) := (fs_ev (M := nm_m67) rfl rfl).trans (eI_keptOpen L xs (m + 1) d m 867 a1 g r)
/-- CobolParser$Items.nameOrFiller()I -/
theorem eI_nameOrFiller (L : Nat) (xs : Nat → Int32) (m d k : Nat) (n : Nat) (g : a2_G) (r : a2_A) : bk L xs nI_nameOrFiller nm_m68 m d k (n + 12) 0 [some (.ref cI)] [] g r = (fn_v (ev L xs m d nR_isKind [.ref cR, .int 1] g r) fun v3 g1 r2 => (if am_c2 .eq v3 0 = true then (fn_v (ev L xs m d nR_skip [.ref cR, .int 18] g1 r2) fun v6 g4 r5 => (some (.inl (some (.int 0)), g4, r5))) else (fn_v (ev L xs m d nR_requireKind [.ref cR, .int 1] g1 r2) fun v9 g7 r8 => (some (.inl (some (.int (v9 + 1))), g7, r8))))) := by
  refine (fs_r (n := n + 9) 3 (pc' := 5) (L' := [some (.ref cI)]) (S' := [.int 1, .ref cR]) rfl).trans ?_
  refine (fs_cv (n := n + 8) (N := nm_m50) (as := [.ref cR, .int 1]) (rest := []) rfl rfl (Or.inl rfl) rfl rfl rfl rfl rfl).trans (fs_fv fun v3 g1 r2 => ?_)
  refine (fs_i (n := n + 7) rfl (t := 22) rfl (by decide)).trans (fs_ite ?_ ?_)
  · skip
    refine (fs_r (n := n + 4) 3 (pc' := 28) (L' := [some (.ref cI)]) (S' := [.int 18, .ref cR]) rfl).trans ?_
    refine (fs_cv (n := n + 3) (N := nm_m62) (as := [.ref cR, .int 18]) (rest := []) rfl rfl (Or.inl rfl) rfl rfl rfl rfl rfl).trans (fs_fv fun v6 g4 r5 => ?_)
    refine (fs_r (n := n + 1) 2 (pc' := 33) (L' := [some (.ref cI)]) (S' := [.int 0]) rfl).trans ?_
    exact (fs_ri (n := n + 0) rfl rfl).trans rfl
  · skip
    refine (fs_r (n := n + 4) 3 (pc' := 16) (L' := [some (.ref cI)]) (S' := [.int 1, .ref cR]) rfl).trans ?_
    refine (fs_cv (n := n + 3) (N := nm_m59) (as := [.ref cR, .int 1]) (rest := []) rfl rfl (Or.inl rfl) rfl rfl rfl rfl rfl).trans (fs_fv fun v9 g7 r8 => ?_)
    refine (fs_r (n := n + 1) 2 (pc' := 21) (L' := [some (.ref cI)]) (S' := [.int (v9 + 1)]) rfl).trans ?_
    exact (fs_ri (n := n + 0) rfl rfl).trans rfl
theorem qI_nameOrFiller (L : Nat) (xs : Nat → Int32) (m d : Nat) (g : a2_G) (r : a2_A) : ev L xs (m + 1) (d + 1) nI_nameOrFiller [.ref cI] g r = (fn_v (ev L xs (m + 1) d nR_isKind [.ref cR, .int 1] g r) fun v3 g1 r2 => (if am_c2 .eq v3 0 = true then (fn_v (ev L xs (m + 1) d nR_skip [.ref cR, .int 18] g1 r2) fun v6 g4 r5 => (some (.inl (some (.int 0)), g4, r5))) else (fn_v (ev L xs (m + 1) d nR_requireKind [.ref cR, .int 1] g1 r2) fun v9 g7 r8 => (some (.inl (some (.int (v9 + 1))), g7, r8))))) := (fs_ev (M := nm_m68) rfl rfl).trans (eI_nameOrFiller L xs (m + 1) d m 888 g r)
/-- CobolParser$Tree.set(III)V -/
def BT_set_34 (L : Nat) (xs : Nat → Int32) (m d k : Nat) (x1 x2 x3 : Int32) (g : a2_G) (r : a2_A) : Option fn_Z := (some (.inl none, g, r))
theorem bT_set_34 (L : Nat) (xs : Nat → Int32) (m d k : Nat) (n : Nat) (x1 x2 x3 : Int32) (g : a2_G) (r : a2_A) : bk L xs nT_set nm_m69 m d k (n + 1) 34 [some (.ref cT), some (.int x1), some (.int x2), some (.int x3)] [] g r = BT_set_34 L xs m d k x1 x2 x3 g r := by
  show _ = ((some (.inl none, g, r)) : Option fn_Z)
  exact (fs_rv (n := n + 0) rfl rfl).trans rfl
theorem eT_set (L : Nat) (xs : Nat → Int32) (m d k : Nat) (n : Nat) (a1 a2 a3 : Int32) (g : a2_G) (r : a2_A) : bk L xs nT_set nm_m69 m d k (n + 21) 0 [some (.ref cT), some (.int a1), some (.int a2), some (.int a3)] [] g r = (if am_c2 .lt a1 0 = true then (BT_set_34 L xs m d k a1 a2 a3 g r) else (if am_c2 .ge a1 (g fT_made) = true then (BT_set_34 L xs m d k a1 a2 a3 g r) else (if am_c2 .lt a2 0 = true then (BT_set_34 L xs m d k a1 a2 a3 g r) else (if am_c2 .ge a2 12 = true then (BT_set_34 L xs m d k a1 a2 a3 g r) else (if am_inr ((a1 * 12) + a2) (r fT_cells).1 = true then (BT_set_34 L xs m d k a1 a2 a3 g (a2_ua r fT_cells ((r fT_cells).1, (upd (r fT_cells).2 (((a1 * 12) + a2) : Int32).toNatClampNeg a3)))) else none))))) := by
  refine (fs_r (n := n + 20) 1 (pc' := 1) (L' := [some (.ref cT), some (.int a1), some (.int a2), some (.int a3)]) (S' := [.int a1]) rfl).trans ?_
  refine (fs_i (n := n + 19) rfl (t := 34) rfl (by decide)).trans (fs_ite ?_ ?_)
  · skip
    exact bT_set_34 L xs m d k (n + 18) a1 a2 a3 g r
  · skip
    refine (fs_r (n := n + 16) 3 (pc' := 9) (L' := [some (.ref cT), some (.int a1), some (.int a2), some (.int a3)]) (S' := [.int (g fT_made), .int a1]) rfl).trans ?_
    refine (fs_j (n := n + 15) rfl (t := 34) rfl (by decide)).trans (fs_ite ?_ ?_)
    · skip
      exact bT_set_34 L xs m d k (n + 14) a1 a2 a3 g r
    · skip
      refine (fs_r (n := n + 14) 1 (pc' := 13) (L' := [some (.ref cT), some (.int a1), some (.int a2), some (.int a3)]) (S' := [.int a2]) rfl).trans ?_
      refine (fs_i (n := n + 13) rfl (t := 34) rfl (by decide)).trans (fs_ite ?_ ?_)
      · skip
        exact bT_set_34 L xs m d k (n + 12) a1 a2 a3 g r
      · skip
        refine (fs_r (n := n + 11) 2 (pc' := 19) (L' := [some (.ref cT), some (.int a1), some (.int a2), some (.int a3)]) (S' := [.int 12, .int a2]) rfl).trans ?_
        refine (fs_j (n := n + 10) rfl (t := 34) rfl (by decide)).trans (fs_ite ?_ ?_)
        · skip
          exact bT_set_34 L xs m d k (n + 9) a1 a2 a3 g r
        · skip
          refine (fs_r (n := n + 2) 8 (pc' := 33) (L' := [some (.ref cT), some (.int a1), some (.int a2), some (.int a3)]) (S' := [.int a3, .int ((a1 * 12) + a2), .ref 10200]) rfl).trans ?_
          refine (fs_is (n := n + 1) (k := 200) rfl rfl).trans (fs_ite ?_ rfl)
          exact bT_set_34 L xs m d k (n + 0) a1 a2 a3 g (a2_ua r fT_cells ((r fT_cells).1, (upd (r fT_cells).2 (((a1 * 12) + a2) : Int32).toNatClampNeg a3)))
theorem qT_set (L : Nat) (xs : Nat → Int32) (m d : Nat) (a1 a2 a3 : Int32) (g : a2_G) (r : a2_A) : ev L xs (m + 1) (d + 1) nT_set [.ref cT, .int a1, .int a2, .int a3] g r = (if am_c2 .lt a1 0 = true then (BT_set_34 L xs (m + 1) d m a1 a2 a3 g r) else (if am_c2 .ge a1 (g fT_made) = true then (BT_set_34 L xs (m + 1) d m a1 a2 a3 g r) else (if am_c2 .lt a2 0 = true then (BT_set_34 L xs (m + 1) d m a1 a2 a3 g r) else (if am_c2 .ge a2 12 = true then (BT_set_34 L xs (m + 1) d m a1 a2 a3 g r) else (if am_inr ((a1 * 12) + a2) (r fT_cells).1 = true then (BT_set_34 L xs (m + 1) d m a1 a2 a3 g (a2_ua r fT_cells ((r fT_cells).1, (upd (r fT_cells).2 (((a1 * 12) + a2) : Int32).toNatClampNeg a3)))) else none))))) := (fs_ev (M := nm_m69) rfl rfl).trans (eT_set L xs (m + 1) d m 879 a1 a2 a3 g r)
/-- CobolParser$Items.itemClause(I)V -/
def BI_itemClause_124 (L : Nat) (xs : Nat → Int32) (m d k : Nat) (x1 : Int32) (g : a2_G) (r : a2_A) : Option fn_Z := (some (.inl none, g, r))
theorem bI_itemClause_124 (L : Nat) (xs : Nat → Int32) (m d k : Nat) (n : Nat) (x1 : Int32) (g : a2_G) (r : a2_A) : bk L xs nI_itemClause nm_m70 m d k (n + 1) 124 [some (.ref cI), some (.int x1)] [] g r = BI_itemClause_124 L xs m d k x1 g r := by
  show _ = ((some (.inl none, g, r)) : Option fn_Z)
  exact (fs_rv (n := n + 0) rfl rfl).trans rfl
def BI_itemClause_116 (L : Nat) (xs : Nat → Int32) (m d k : Nat) (x1 : Int32) (g : a2_G) (r : a2_A) : Option fn_Z := (fn_n (ev L xs m d nR_refuse [.ref cR, .int 1] g r) fun g11 r12 => (BI_itemClause_124 L xs m d k x1 g11 r12))
theorem bI_itemClause_116 (L : Nat) (xs : Nat → Int32) (m d k : Nat) (n : Nat) (x1 : Int32) (g : a2_G) (r : a2_A) : bk L xs nI_itemClause nm_m70 m d k (n + 5) 116 [some (.ref cI), some (.int x1)] [] g r = BI_itemClause_116 L xs m d k x1 g r := by
  show _ = ((fn_n (ev L xs m d nR_refuse [.ref cR, .int 1] g r) fun g11 r12 => (BI_itemClause_124 L xs m d k x1 g11 r12)) : Option fn_Z)
  refine (fs_r (n := n + 2) 3 (pc' := 121) (L' := [some (.ref cI), some (.int x1)]) (S' := [.int 1, .ref cR]) rfl).trans ?_
  refine (fs_cn (n := n + 1) (N := nm_m56) (as := [.ref cR, .int 1]) (rest := []) rfl rfl (Or.inl rfl) rfl rfl rfl rfl rfl).trans (fs_fn fun g11 r12 => ?_)
  exact bI_itemClause_124 L xs m d k (n + 0) x1 g11 r12
def BI_itemClause_19 (L : Nat) (xs : Nat → Int32) (m d k : Nat) (x1 : Int32) (g : a2_G) (r : a2_A) : Option fn_Z := (fn_v (ev L xs m d nR_value [.ref cR] g r) fun v6 g4 r5 => (if (v6 : Int32).toInt = 19 then (fn_n (ev L xs m d nI_picture [.ref cI, .int x1] g4 r5) fun g7 r8 => (BI_itemClause_124 L xs m d k x1 g7 r8)) else (if (v6 : Int32).toInt = 20 then (fn_n (ev L xs m d nI_literals [.ref cI, .int x1] g4 r5) fun g9 r10 => (BI_itemClause_124 L xs m d k x1 g9 r10)) else (if (v6 : Int32).toInt = 21 then (BI_itemClause_116 L xs m d k x1 g4 r5) else (if (v6 : Int32).toInt = 22 then (fn_n (ev L xs m d nI_occurs [.ref cI, .int x1] g4 r5) fun g13 r14 => (BI_itemClause_124 L xs m d k x1 g13 r14)) else (if (v6 : Int32).toInt = 23 then (BI_itemClause_116 L xs m d k x1 g4 r5) else (if (v6 : Int32).toInt = 24 then (BI_itemClause_116 L xs m d k x1 g4 r5) else (if (v6 : Int32).toInt = 25 then (BI_itemClause_116 L xs m d k x1 g4 r5) else (if (v6 : Int32).toInt = 26 then (fn_n (ev L xs m d nI_redefines [.ref cI, .int x1] g4 r5) fun g15 r16 => (BI_itemClause_124 L xs m d k x1 g15 r16)) else (if (v6 : Int32).toInt = 27 then (fn_n (ev L xs m d nI_usage [.ref cI, .int x1] g4 r5) fun g17 r18 => (BI_itemClause_124 L xs m d k x1 g17 r18)) else (BI_itemClause_116 L xs m d k x1 g4 r5)))))))))))
theorem bI_itemClause_19 (L : Nat) (xs : Nat → Int32) (m d k : Nat) (n : Nat) (x1 : Int32) (g : a2_G) (r : a2_A) : bk L xs nI_itemClause nm_m70 m d k (n + 9) 19 [some (.ref cI), some (.int x1)] [] g r = BI_itemClause_19 L xs m d k x1 g r := by
  show _ = ((fn_v (ev L xs m d nR_value [.ref cR] g r) fun v6 g4 r5 => (if (v6 : Int32).toInt = 19 then (fn_n (ev L xs m d nI_picture [.ref cI, .int x1] g4 r5) fun g7 r8 => (BI_itemClause_124 L xs m d k x1 g7 r8)) else (if (v6 : Int32).toInt = 20 then (fn_n (ev L xs m d nI_literals [.ref cI, .int x1] g4 r5) fun g9 r10 => (BI_itemClause_124 L xs m d k x1 g9 r10)) else (if (v6 : Int32).toInt = 21 then (BI_itemClause_116 L xs m d k x1 g4 r5) else (if (v6 : Int32).toInt = 22 then (fn_n (ev L xs m d nI_occurs [.ref cI, .int x1] g4 r5) fun g13 r14 => (BI_itemClause_124 L xs m d k x1 g13 r14)) else (if (v6 : Int32).toInt = 23 then (BI_itemClause_116 L xs m d k x1 g4 r5) else (if (v6 : Int32).toInt = 24 then (BI_itemClause_116 L xs m d k x1 g4 r5) else (if (v6 : Int32).toInt = 25 then (BI_itemClause_116 L xs m d k x1 g4 r5) else (if (v6 : Int32).toInt = 26 then (fn_n (ev L xs m d nI_redefines [.ref cI, .int x1] g4 r5) fun g15 r16 => (BI_itemClause_124 L xs m d k x1 g15 r16)) else (if (v6 : Int32).toInt = 27 then (fn_n (ev L xs m d nI_usage [.ref cI, .int x1] g4 r5) fun g17 r18 => (BI_itemClause_124 L xs m d k x1 g17 r18)) else (BI_itemClause_116 L xs m d k x1 g4 r5))))))))))) : Option fn_Z)
  refine (fs_r (n := n + 7) 2 (pc' := 23) (L' := [some (.ref cI), some (.int x1)]) (S' := [.ref cR]) rfl).trans ?_
  refine (fs_cv (n := n + 6) (N := nm_m60) (as := [.ref cR]) (rest := []) rfl rfl (Or.inl rfl) rfl rfl rfl rfl rfl).trans (fs_fv fun v6 g4 r5 => ?_)
  refine (fs_ts (n := n + 5) (l := [50, 58, 90, 66, 90, 90, 90, 74, 82]) rfl rfl rfl).trans ?_
  refine fs_tc (v' := 20) rfl ?_ (fs_tc (v' := 21) rfl ?_ (fs_tc (v' := 22) rfl ?_ (fs_tc (v' := 23) rfl ?_ (fs_tc (v' := 24) rfl ?_ (fs_tc (v' := 25) rfl ?_ (fs_tc (v' := 26) rfl ?_ (fs_tc (v' := 27) rfl ?_ (fs_tc (v' := 28) rfl ?_ (fs_tn ?_)))))))))
  · refine (fs_J1 (n := n + 5) (t := 76) rfl (by decide)).trans ?_
    refine (fs_r (n := n + 3) 2 (pc' := 78) (L' := [some (.ref cI), some (.int x1)]) (S' := [.int x1, .ref cI]) rfl).trans ?_
    refine (fs_cn (n := n + 2) (N := nm_m71) (as := [.ref cI, .int x1]) (rest := []) rfl rfl (Or.inl rfl) rfl rfl rfl rfl rfl).trans (fs_fn fun g7 r8 => ?_)
    refine (fs_go (n := n + 1) rfl (t := 124) rfl (by decide)).trans ?_
    exact bI_itemClause_124 L xs m d k (n + 0) x1 g7 r8
  · refine (fs_J1 (n := n + 5) (t := 84) rfl (by decide)).trans ?_
    refine (fs_r (n := n + 3) 2 (pc' := 86) (L' := [some (.ref cI), some (.int x1)]) (S' := [.int x1, .ref cI]) rfl).trans ?_
    refine (fs_cn (n := n + 2) (N := nm_m73) (as := [.ref cI, .int x1]) (rest := []) rfl rfl (Or.inl rfl) rfl rfl rfl rfl rfl).trans (fs_fn fun g9 r10 => ?_)
    refine (fs_go (n := n + 1) rfl (t := 124) rfl (by decide)).trans ?_
    exact bI_itemClause_124 L xs m d k (n + 0) x1 g9 r10
  · refine (fs_J1 (n := n + 5) (t := 116) rfl (by decide)).trans ?_
    exact bI_itemClause_116 L xs m d k (n + 0) x1 g4 r5
  · refine (fs_J1 (n := n + 5) (t := 92) rfl (by decide)).trans ?_
    refine (fs_r (n := n + 3) 2 (pc' := 94) (L' := [some (.ref cI), some (.int x1)]) (S' := [.int x1, .ref cI]) rfl).trans ?_
    refine (fs_cn (n := n + 2) (N := nm_m78) (as := [.ref cI, .int x1]) (rest := []) rfl rfl (Or.inl rfl) rfl rfl rfl rfl rfl).trans (fs_fn fun g13 r14 => ?_)
    refine (fs_go (n := n + 1) rfl (t := 124) rfl (by decide)).trans ?_
    exact bI_itemClause_124 L xs m d k (n + 0) x1 g13 r14
  · refine (fs_J1 (n := n + 5) (t := 116) rfl (by decide)).trans ?_
    exact bI_itemClause_116 L xs m d k (n + 0) x1 g4 r5
  · refine (fs_J1 (n := n + 5) (t := 116) rfl (by decide)).trans ?_
    exact bI_itemClause_116 L xs m d k (n + 0) x1 g4 r5
  · refine (fs_J1 (n := n + 5) (t := 116) rfl (by decide)).trans ?_
    exact bI_itemClause_116 L xs m d k (n + 0) x1 g4 r5
  · refine (fs_J1 (n := n + 5) (t := 100) rfl (by decide)).trans ?_
    refine (fs_r (n := n + 3) 2 (pc' := 102) (L' := [some (.ref cI), some (.int x1)]) (S' := [.int x1, .ref cI]) rfl).trans ?_
    refine (fs_cn (n := n + 2) (N := nm_m81) (as := [.ref cI, .int x1]) (rest := []) rfl rfl (Or.inl rfl) rfl rfl rfl rfl rfl).trans (fs_fn fun g15 r16 => ?_)
    refine (fs_go (n := n + 1) rfl (t := 124) rfl (by decide)).trans ?_
    exact bI_itemClause_124 L xs m d k (n + 0) x1 g15 r16
  · refine (fs_J1 (n := n + 5) (t := 108) rfl (by decide)).trans ?_
    refine (fs_r (n := n + 3) 2 (pc' := 110) (L' := [some (.ref cI), some (.int x1)]) (S' := [.int x1, .ref cI]) rfl).trans ?_
    refine (fs_cn (n := n + 2) (N := nm_m82) (as := [.ref cI, .int x1]) (rest := []) rfl rfl (Or.inl rfl) rfl rfl rfl rfl rfl).trans (fs_fn fun g17 r18 => ?_)
    refine (fs_go (n := n + 1) rfl (t := 124) rfl (by decide)).trans ?_
    exact bI_itemClause_124 L xs m d k (n + 0) x1 g17 r18
  · refine (fs_J1 (n := n + 5) (t := 116) rfl (by decide)).trans ?_
    exact bI_itemClause_116 L xs m d k (n + 0) x1 g4 r5
theorem eI_itemClause (L : Nat) (xs : Nat → Int32) (m d k : Nat) (n : Nat) (a1 : Int32) (g : a2_G) (r : a2_A) : bk L xs nI_itemClause nm_m70 m d k (n + 18) 0 [some (.ref cI), some (.int a1)] [] g r = (fn_v (ev L xs m d nR_isKind [.ref cR, .int 0] g r) fun v3 g1 r2 => (if am_c2 .ne v3 0 = true then (BI_itemClause_19 L xs m d k a1 g1 r2) else (fn_n (ev L xs m d nR_refuse [.ref cR, .int 1] g1 r2) fun g19 r20 => (BI_itemClause_19 L xs m d k a1 g19 r20)))) := by
  refine (fs_r (n := n + 15) 3 (pc' := 5) (L' := [some (.ref cI), some (.int a1)]) (S' := [.int 0, .ref cR]) rfl).trans ?_
  refine (fs_cv (n := n + 14) (N := nm_m50) (as := [.ref cR, .int 0]) (rest := []) rfl rfl (Or.inl rfl) rfl rfl rfl rfl rfl).trans (fs_fv fun v3 g1 r2 => ?_)
  refine (fs_i (n := n + 13) rfl (t := 19) rfl (by decide)).trans (fs_ite ?_ ?_)
  · skip
    exact bI_itemClause_19 L xs m d k (n + 4) a1 g1 r2
  · skip
    refine (fs_r (n := n + 10) 3 (pc' := 16) (L' := [some (.ref cI), some (.int a1)]) (S' := [.int 1, .ref cR]) rfl).trans ?_
    refine (fs_cn (n := n + 9) (N := nm_m56) (as := [.ref cR, .int 1]) (rest := []) rfl rfl (Or.inl rfl) rfl rfl rfl rfl rfl).trans (fs_fn fun g19 r20 => ?_)
    exact bI_itemClause_19 L xs m d k (n + 0) a1 g19 r20
theorem qI_itemClause (L : Nat) (xs : Nat → Int32) (m d : Nat) (a1 : Int32) (g : a2_G) (r : a2_A) : ev L xs (m + 1) (d + 1) nI_itemClause [.ref cI, .int a1] g r = (fn_v (ev L xs (m + 1) d nR_isKind [.ref cR, .int 0] g r) fun v3 g1 r2 => (if am_c2 .ne v3 0 = true then (BI_itemClause_19 L xs (m + 1) d m a1 g1 r2) else (fn_n (ev L xs (m + 1) d nR_refuse [.ref cR, .int 1] g1 r2) fun g19 r20 => (BI_itemClause_19 L xs (m + 1) d m a1 g19 r20)))) := (fs_ev (M := nm_m70) rfl rfl).trans (eI_itemClause L xs (m + 1) d m 882 a1 g r)
/-- CobolParser$Items.picture(I)V -/
theorem eI_picture (L : Nat) (xs : Nat → Int32) (m d k : Nat) (n : Nat) (a1 : Int32) (g : a2_G) (r : a2_A) : bk L xs nI_picture nm_m71 m d k (n + 20) 0 [some (.ref cI), some (.int a1), none] [] g r = (fn_v (ev L xs m d nI_beginIn [.ref cI, .int a1, .int 13] g r) fun v3 g1 r2 => (fn_v (ev L xs m d nR_skip [.ref cR, .int 67] g1 r2) fun v6 g4 r5 => (fn_v (ev L xs m d nR_requireKind [.ref cR, .int 3] g4 r5) fun v9 g7 r8 => (fn_n (ev L xs m d nT_set [.ref cT, .int v3, .int 1, .int v9] g7 r8) fun g10 r11 => (some (.inl none, g10, r11)))))) := by
  refine (fs_r (n := n + 17) 3 (pc' := 4) (L' := [some (.ref cI), some (.int a1), none]) (S' := [.int 13, .int a1, .ref cI]) rfl).trans ?_
  refine (fs_cv (n := n + 16) (N := nm_m72) (as := [.ref cI, .int a1, .int 13]) (rest := []) rfl rfl (Or.inl rfl) rfl rfl rfl rfl rfl).trans (fs_fv fun v3 g1 r2 => ?_)
  refine (fs_r (n := n + 12) 4 (pc' := 14) (L' := [some (.ref cI), some (.int a1), some (.int v3)]) (S' := [.int 67, .ref cR]) rfl).trans ?_
  refine (fs_cv (n := n + 11) (N := nm_m62) (as := [.ref cR, .int 67]) (rest := []) rfl rfl (Or.inl rfl) rfl rfl rfl rfl rfl).trans (fs_fv fun v6 g4 r5 => ?_)
  refine (fs_r (n := n + 3) 8 (pc' := 29) (L' := [some (.ref cI), some (.int a1), some (.int v3)]) (S' := [.int 3, .ref cR, .int 1, .int v3, .ref cT]) rfl).trans ?_
  refine (fs_cv (n := n + 2) (N := nm_m59) (as := [.ref cR, .int 3]) (rest := [.int 1, .int v3, .ref cT]) rfl rfl (Or.inl rfl) rfl rfl rfl rfl rfl).trans (fs_fv fun v9 g7 r8 => ?_)
  refine (fs_cn (n := n + 1) (N := nm_m69) (as := [.ref cT, .int v3, .int 1, .int v9]) (rest := []) rfl rfl (Or.inl rfl) rfl rfl rfl rfl rfl).trans (fs_fn fun g10 r11 => ?_)
  exact (fs_rv (n := n + 0) rfl rfl).trans rfl
theorem qI_picture (L : Nat) (xs : Nat → Int32) (m d : Nat) (a1 : Int32) (g : a2_G) (r : a2_A) : ev L xs (m + 1) (d + 1) nI_picture [.ref cI, .int a1] g r = (fn_v (ev L xs (m + 1) d nI_beginIn [.ref cI, .int a1, .int 13] g r) fun v3 g1 r2 => (fn_v (ev L xs (m + 1) d nR_skip [.ref cR, .int 67] g1 r2) fun v6 g4 r5 => (fn_v (ev L xs (m + 1) d nR_requireKind [.ref cR, .int 3] g4 r5) fun v9 g7 r8 => (fn_n (ev L xs (m + 1) d nT_set [.ref cT, .int v3, .int 1, .int v9] g7 r8) fun g10 r11 => (some (.inl none, g10, r11)))))) := (fs_ev (M := nm_m71) rfl rfl).trans (eI_picture L xs (m + 1) d m 880 a1 g r)
