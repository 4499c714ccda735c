/-! every method of the system: printed by wip/whole/mg.py -/
theorem mg_0 : MG 0 := ⟨plainFor_of_name (by decide), by decide, sk_X7_init⟩
theorem mg_1 : MG 1 := ⟨plainFor_of_name (by decide), by decide, sk_X7_write⟩
theorem mg_2 : MG 2 := ⟨plainFor_of_name (by decide), by decide, sk_X7_erase⟩
theorem mg_3 : MG 3 := ⟨plainFor_of_name (by decide), by decide, sk_X7_fault⟩
theorem mg_4 : MG 4 := ⟨plainFor_of_name (by decide), by decide, sk_X7_house⟩
theorem mg_5 : MG 5 := ⟨plainFor_of_name (by decide), by decide, sk_X7_sound⟩
theorem mg_6 : MG 6 := ⟨plainFor_of_name (by decide), by decide, sk_X7_span⟩
theorem mg_7 : MG 7 := ⟨plainFor_of_name (by decide), by decide, sk_X7_tone⟩
theorem mg_8 : MG 8 := ⟨plainFor_of_name (by decide), by decide, sk_X7_put⟩
theorem mg_9 : MG 9 := ⟨plainFor_of_name (by decide), by decide, sk_X7_fade⟩
theorem mg_10 : MG 10 := ⟨plainFor_of_name (by decide), by decide, sk_X7_gain⟩
theorem mg_11 : MG 11 := ⟨plainFor_of_name (by decide), by decide, sk_X7_wipe⟩
theorem mg_12 : MG 12 := ⟨plainFor_of_name (by decide), by decide, sk_X7_cut⟩
theorem mg_13 : MG 13 := ⟨plainFor_of_name (by decide), by decide, sk_X7_move⟩
theorem mg_14 : MG 14 := ⟨plainFor_of_name (by decide), by decide, sk_X7_shift⟩
theorem mg_15 : MG 15 := ⟨plainFor_of_name (by decide), by decide, sk_X7_shut⟩
theorem mg_16 : MG 16 := ⟨plainFor_of_name (by decide), by decide, sk_X7_bounce⟩
theorem mg_17 : MG 17 := ⟨plainFor_of_name (by decide), by decide, sk_X7_undo⟩
theorem mg_18 : MG 18 := ⟨plainFor_of_name (by decide), by decide, sk_X7_keep⟩
theorem mg_19 : MG 19 := ⟨plainFor_of_name (by decide), by decide, sk_X7_back⟩
theorem mg_20 : MG 20 := ⟨plainFor_of_name (by decide), by decide, sk_X7_heard⟩
theorem mg_21 : MG 21 := ⟨plainFor_of_name (by decide), by decide, sk_X7_exact⟩
theorem mg_22 : MG 22 := ⟨plainFor_of_name (by decide), by decide, sk_X7_sum⟩
theorem mg_23 : MG 23 := ⟨plainFor_of_name (by decide), by decide, sk_X7_played⟩
theorem mg_24 : MG 24 := ⟨plainFor_of_name (by decide), by decide, sk_X7_covers⟩
theorem mg_25 : MG 25 := ⟨plainFor_of_name (by decide), by decide, sk_X7_rack⟩
theorem mg_26 : MG 26 := ⟨plainFor_of_name (by decide), by decide, sk_X7_hang⟩
theorem mg_27 : MG 27 := ⟨plainFor_of_name (by decide), by decide, sk_X7_take⟩
theorem mg_28 : MG 28 := ⟨plainFor_of_name (by decide), by decide, sk_X7_likeness⟩
theorem mg_29 : MG 29 := ⟨plainFor_of_name (by decide), by decide, sk_X7_pass⟩
theorem mg_30 : MG 30 := ⟨plainFor_of_name (by decide), by decide, sk_X7_drop⟩
theorem mg_31 : MG 31 := ⟨plainFor_of_name (by decide), by decide, sk_X7_count⟩
theorem mg_32 : MG 32 := ⟨plainFor_of_name (by decide), by decide, sk_X7_isWithin⟩
theorem mg_33 : MG 33 := ⟨plainFor_of_name (by decide), by decide, sk_X7_isMoment⟩
theorem mg_34 : MG 34 := ⟨plainFor_of_name (by decide), by decide, sk_X7_isPlaceFor⟩
theorem mg_35 : MG 35 := ⟨plainFor_of_name (by decide), by decide, sk_X7_isTrack⟩
theorem mg_36 : MG 36 := ⟨plainFor_of_name (by decide), by decide, sk_X7_isRack⟩
theorem mg_37 : MG 37 := ⟨plainFor_of_name (by decide), by decide, sk_X7_isSound⟩
theorem mg_38 : MG 38 := ⟨plainFor_of_name (by decide), by decide, sk_X7_isSpan⟩
theorem mg_39 : MG 39 := ⟨plainFor_of_name (by decide), by decide, sk_X7_perform⟩
theorem mg_40 : MG 40 := ⟨plainFor_of_name (by decide), by decide, sk_X7_clearAll⟩
theorem mg_41 : MG 41 := ⟨plainFor_of_name (by decide), by decide, sk_X7_forgetAllBehindText⟩
theorem mg_42 : MG 42 := ⟨plainFor_of_name (by decide), by decide, sk_X7_playedOn⟩
theorem mg_43 : MG 43 := ⟨plainFor_of_name (by decide), by decide, sk_X7_heardAt⟩
theorem mg_44 : MG 44 := ⟨plainFor_of_name (by decide), by decide, sk_X7_timesOf⟩
theorem mg_45 : MG 45 := ⟨plainFor_of_name (by decide), by decide, sk_X7_spansOfAll⟩
theorem mg_46 : MG 46 := ⟨plainFor_of_name (by decide), by decide, sk_X7_shutBits⟩
theorem mg_47 : MG 47 := ⟨plainFor_of_name (by decide), by decide, sk_X7_loudest⟩
theorem mg_48 : MG 48 := ⟨plainFor_of_name (by decide), by decide, sk_X7_silentMoments⟩
theorem mg_49 : MG 49 := ⟨plainFor_of_name (by decide), by decide, sk_X7_thingsOnRacks⟩
theorem mg_50 : MG 50 := ⟨plainFor_of_name (by decide), by decide, sk_X7_sixteenfold⟩
theorem mg_51 : MG 51 := ⟨plainFor_of_name (by decide), by decide, sk_X7_bitsOfFloat⟩
theorem mg_52 : MG 52 := ⟨plainFor_of_name (by decide), by decide, sk_X7_bitsOfDouble⟩
theorem mg_53 : MG 53 := ⟨plainFor_of_name (by decide), by decide, sk_X7_bitsOfSize⟩
theorem mg_54 : MG 54 := ⟨plainFor_of_name (by decide), by decide, sk_X8_init⟩
theorem mg_55 : MG 55 := ⟨plainFor_of_name (by decide), by decide, sk_X8_in⟩
theorem mg_56 : MG 56 := ⟨plainFor_of_name (by decide), by decide, sk_X8_isTrack⟩
theorem mg_57 : MG 57 := ⟨plainFor_of_name (by decide), by decide, sk_X8_many⟩
theorem mg_58 : MG 58 := ⟨plainFor_of_name (by decide), by decide, sk_X8_of⟩
theorem mg_59 : MG 59 := ⟨plainFor_of_name (by decide), by decide, sk_X8_sets⟩
theorem mg_60 : MG 60 := ⟨plainFor_of_name (by decide), by decide, sk_X8_isSpan⟩
theorem mg_61 : MG 61 := ⟨plainFor_of_name (by decide), by decide, sk_X8_tells⟩
theorem mg_62 : MG 62 := ⟨plainFor_of_name (by decide), by decide, sk_X8_gives⟩
theorem mg_63 : MG 63 := ⟨plainFor_of_name (by decide), by decide, sk_X8_begins⟩
theorem mg_64 : MG 64 := ⟨plainFor_of_name (by decide), by decide, sk_X8_runs⟩
theorem mg_65 : MG 65 := ⟨plainFor_of_name (by decide), by decide, sk_X8_least⟩
theorem mg_66 : MG 66 := ⟨plainFor_of_name (by decide), by decide, sk_X8_lays⟩
theorem mg_67 : MG 67 := ⟨plainFor_of_name (by decide), by decide, sk_X8_brings⟩
theorem mg_68 : MG 68 := ⟨plainFor_of_name (by decide), by decide, sk_X8_fades⟩
theorem mg_69 : MG 69 := ⟨plainFor_of_name (by decide), by decide, sk_X8_notes⟩
theorem mg_70 : MG 70 := ⟨plainFor_of_name (by decide), by decide, sk_X8_byteAt⟩
theorem mg_71 : MG 71 := ⟨plainFor_of_name (by decide), by decide, sk_X8_next⟩
theorem mg_72 : MG 72 := ⟨plainFor_of_name (by decide), by decide, sk_X8_faults⟩
theorem mg_73 : MG 73 := ⟨plainFor_of_name (by decide), by decide, sk_X8_number⟩
theorem mg_74 : MG 74 := ⟨plainFor_of_name (by decide), by decide, sk_X8_toldTone⟩
theorem mg_75 : MG 75 := ⟨plainFor_of_name (by decide), by decide, sk_X8_toldPut⟩
theorem mg_76 : MG 76 := ⟨plainFor_of_name (by decide), by decide, sk_X8_toldFade⟩
theorem mg_77 : MG 77 := ⟨plainFor_of_name (by decide), by decide, sk_X8_toldShift⟩
theorem mg_78 : MG 78 := ⟨plainFor_of_name (by decide), by decide, sk_X8_toldShut⟩
theorem mg_79 : MG 79 := ⟨plainFor_of_name (by decide), by decide, sk_X8_toldHouse⟩
theorem mg_80 : MG 80 := ⟨plainFor_of_name (by decide), by decide, sk_X8_isWord⟩
theorem mg_81 : MG 81 := ⟨plainFor_of_name (by decide), by decide, sk_X8_clause⟩
theorem mg_82 : MG 82 := ⟨plainFor_of_name (by decide), by decide, sk_X8_reads⟩
theorem mg_83 : MG 83 := ⟨plainFor_of_name (by decide), by decide, sk_X8_write⟩
theorem mg_84 : MG 84 := ⟨plainFor_of_name (by decide), by decide, sk_X8_erase⟩
theorem mg_85 : MG 85 := ⟨plainFor_of_name (by decide), by decide, sk_X8_fault⟩
theorem mg_86 : MG 86 := ⟨plainFor_of_name (by decide), by decide, sk_X8_house⟩
theorem mg_87 : MG 87 := ⟨plainFor_of_name (by decide), by decide, sk_X8_sounds⟩
theorem mg_88 : MG 88 := ⟨plainFor_of_name (by decide), by decide, sk_X8_spanAt⟩
theorem mg_89 : MG 89 := ⟨plainFor_of_name (by decide), by decide, sk_X8_playedAt⟩
theorem mg_90 : MG 90 := ⟨plainFor_of_name (by decide), by decide, sk_X8_heardAt⟩
theorem mg_91 : MG 91 := ⟨plainFor_of_name (by decide), by decide, sk_X8_times⟩
theorem mg_92 : MG 92 := ⟨plainFor_of_name (by decide), by decide, sk_X8_sound⟩
theorem mg_93 : MG 93 := ⟨plainFor_of_name (by decide), by decide, sk_X8_span⟩
theorem mg_94 : MG 94 := ⟨plainFor_of_name (by decide), by decide, sk_X8_tone⟩
theorem mg_95 : MG 95 := ⟨plainFor_of_name (by decide), by decide, sk_X8_put⟩
theorem mg_96 : MG 96 := ⟨plainFor_of_name (by decide), by decide, sk_X8_fade⟩
theorem mg_97 : MG 97 := ⟨plainFor_of_name (by decide), by decide, sk_X8_gain⟩
theorem mg_98 : MG 98 := ⟨plainFor_of_name (by decide), by decide, sk_X8_wipe⟩
theorem mg_99 : MG 99 := ⟨plainFor_of_name (by decide), by decide, sk_X8_cut⟩
theorem mg_100 : MG 100 := ⟨plainFor_of_name (by decide), by decide, sk_X8_move⟩
theorem mg_101 : MG 101 := ⟨plainFor_of_name (by decide), by decide, sk_X8_shift⟩
theorem mg_102 : MG 102 := ⟨plainFor_of_name (by decide), by decide, sk_X8_shut⟩
theorem mg_103 : MG 103 := ⟨plainFor_of_name (by decide), by decide, sk_X8_bounce⟩
theorem mg_104 : MG 104 := ⟨plainFor_of_name (by decide), by decide, sk_X8_undo⟩
theorem mg_105 : MG 105 := ⟨plainFor_of_name (by decide), by decide, sk_X8_allSpans⟩
theorem mg_106 : MG 106 := ⟨plainFor_of_name (by decide), by decide, sk_X8_keep⟩
theorem mg_107 : MG 107 := ⟨plainFor_of_name (by decide), by decide, sk_X8_back⟩
theorem mg_108 : MG 108 := ⟨plainFor_of_name (by decide), by decide, sk_X8_heard⟩
theorem mg_109 : MG 109 := ⟨plainFor_of_name (by decide), by decide, sk_X8_exact⟩
theorem mg_110 : MG 110 := ⟨plainFor_of_name (by decide), by decide, sk_X8_sum⟩
theorem mg_111 : MG 111 := ⟨plainFor_of_name (by decide), by decide, sk_X8_played⟩
theorem mg_112 : MG 112 := ⟨plainFor_of_name (by decide), by decide, sk_X8_covers⟩
theorem mg_113 : MG 113 := ⟨plainFor_of_name (by decide), by decide, sk_X8_isRack⟩
theorem mg_114 : MG 114 := ⟨plainFor_of_name (by decide), by decide, sk_X8_thingsOn⟩
theorem mg_115 : MG 115 := ⟨plainFor_of_name (by decide), by decide, sk_X8_rack⟩
theorem mg_116 : MG 116 := ⟨plainFor_of_name (by decide), by decide, sk_X8_isFor⟩
theorem mg_117 : MG 117 := ⟨plainFor_of_name (by decide), by decide, sk_X8_hang⟩
theorem mg_118 : MG 118 := ⟨plainFor_of_name (by decide), by decide, sk_X8_take⟩
theorem mg_119 : MG 119 := ⟨plainFor_of_name (by decide), by decide, sk_X8_likeness⟩
theorem mg_120 : MG 120 := ⟨plainFor_of_name (by decide), by decide, sk_X8_pass⟩
theorem mg_121 : MG 121 := ⟨plainFor_of_name (by decide), by decide, sk_X8_drop⟩
theorem mg_122 : MG 122 := ⟨plainFor_of_name (by decide), by decide, sk_X8_loudest⟩
theorem mg_123 : MG 123 := ⟨plainFor_of_name (by decide), by decide, sk_X8_silent⟩
theorem mg_124 : MG 124 := ⟨plainFor_of_name (by decide), by decide, sk_X8_gaps⟩
theorem mg_125 : MG 125 := ⟨plainFor_of_name (by decide), by decide, sk_X8_count⟩
theorem mg_126 : MG 126 := ⟨plainFor_of_name (by decide), by decide, sk_X0_init⟩
theorem mg_127 : MG 127 := ⟨plainFor_of_name (by decide), by decide, sk_X0_makeAnew⟩
theorem mg_128 : MG 128 := ⟨plainFor_of_name (by decide), by decide, sk_X0_things⟩
theorem mg_129 : MG 129 := ⟨plainFor_of_name (by decide), by decide, sk_X0_findAt⟩
theorem mg_130 : MG 130 := ⟨plainFor_of_name (by decide), by decide, sk_X0_tryToHang⟩
theorem mg_131 : MG 131 := ⟨plainFor_of_name (by decide), by decide, sk_X0_takeFrom⟩
theorem mg_132 : MG 132 := ⟨plainFor_of_name (by decide), by decide, sk_X0_becomeLike⟩
theorem mg_133 : MG 133 := ⟨plainFor_of_name (by decide), by decide, sk_X0_hangAllOn⟩
theorem mg_134 : MG 134 := ⟨plainFor_of_name (by decide), by decide, sk_X1_init⟩
theorem mg_135 : MG 135 := ⟨plainFor_of_name (by decide), by decide, sk_X1_read⟩
theorem mg_136 : MG 136 := ⟨plainFor_of_name (by decide), by decide, sk_X1_startWith⟩
theorem mg_137 : MG 137 := ⟨plainFor_of_name (by decide), by decide, sk_X1_nextToken⟩
theorem mg_138 : MG 138 := ⟨plainFor_of_name (by decide), by decide, sk_X1_isWord⟩
theorem mg_139 : MG 139 := ⟨plainFor_of_name (by decide), by decide, sk_X1_wordHere⟩
theorem mg_140 : MG 140 := ⟨plainFor_of_name (by decide), by decide, sk_X1_readClause⟩
theorem mg_141 : MG 141 := ⟨plainFor_of_name (by decide), by decide, sk_X1_readTone⟩
theorem mg_142 : MG 142 := ⟨plainFor_of_name (by decide), by decide, sk_X1_readPut⟩
theorem mg_143 : MG 143 := ⟨plainFor_of_name (by decide), by decide, sk_X1_readShift⟩
theorem mg_144 : MG 144 := ⟨plainFor_of_name (by decide), by decide, sk_X1_readNumber⟩
theorem mg_145 : MG 145 := ⟨plainFor_of_name (by decide), by decide, sk_X2_init⟩
theorem mg_146 : MG 146 := ⟨plainFor_of_name (by decide), by decide, sk_X2_addRow⟩
theorem mg_147 : MG 147 := ⟨plainFor_of_name (by decide), by decide, sk_X2_addTone⟩
theorem mg_148 : MG 148 := ⟨plainFor_of_name (by decide), by decide, sk_X2_isThere⟩
theorem mg_149 : MG 149 := ⟨plainFor_of_name (by decide), by decide, sk_X2_floatAt⟩
theorem mg_150 : MG 150 := ⟨plainFor_of_name (by decide), by decide, sk_X2_setFloat⟩
theorem mg_151 : MG 151 := ⟨plainFor_of_name (by decide), by decide, sk_X3_init⟩
theorem mg_152 : MG 152 := ⟨plainFor_of_name (by decide), by decide, sk_X3_end⟩
theorem mg_153 : MG 153 := ⟨plainFor_of_name (by decide), by decide, sk_X3_allowsFades⟩
theorem mg_154 : MG 154 := ⟨plainFor_of_name (by decide), by decide, sk_X3_faded⟩
theorem mg_155 : MG 155 := ⟨plainFor_of_name (by decide), by decide, sk_X3_louder⟩
theorem mg_156 : MG 156 := ⟨plainFor_of_name (by decide), by decide, sk_X3_movedTo⟩
theorem mg_157 : MG 157 := ⟨plainFor_of_name (by decide), by decide, sk_X3_aheadOf⟩
theorem mg_158 : MG 158 := ⟨plainFor_of_name (by decide), by decide, sk_X3_from⟩
theorem mg_159 : MG 159 := ⟨plainFor_of_name (by decide), by decide, sk_X3_weigh⟩
theorem mg_160 : MG 160 := ⟨plainFor_of_name (by decide), by decide, sk_X4_init⟩
theorem mg_161 : MG 161 := ⟨plainFor_of_name (by decide), by decide, sk_X4_copyOf⟩
theorem mg_162 : MG 162 := ⟨plainFor_of_name (by decide), by decide, sk_X4_takeRest⟩
theorem mg_163 : MG 163 := ⟨plainFor_of_name (by decide), by decide, sk_X4_append⟩
theorem mg_164 : MG 164 := ⟨plainFor_of_name (by decide), by decide, sk_X4_insert⟩
theorem mg_165 : MG 165 := ⟨plainFor_of_name (by decide), by decide, sk_X4_indexAt⟩
theorem mg_166 : MG 166 := ⟨plainFor_of_name (by decide), by decide, sk_X4_momentsWithin⟩
theorem mg_167 : MG 167 := ⟨plainFor_of_name (by decide), by decide, sk_X4_timesOf⟩
theorem mg_168 : MG 168 := ⟨plainFor_of_name (by decide), by decide, sk_X4_gaps⟩
theorem mg_169 : MG 169 := ⟨plainFor_of_name (by decide), by decide, sk_X5_init⟩
theorem mg_170 : MG 170 := ⟨plainFor_of_name (by decide), by decide, sk_X5_append⟩
theorem mg_171 : MG 171 := ⟨plainFor_of_name (by decide), by decide, sk_X5_letterAt⟩
theorem mg_172 : MG 172 := ⟨plainFor_of_name (by decide), by decide, sk_X5_kindAt⟩
theorem mg_173 : MG 173 := ⟨plainFor_of_name (by decide), by decide, sk_X6_init⟩
theorem mg_174 : MG 174 := ⟨plainFor_of_name (by decide), by decide, sk_X6_becomeEmpty⟩
theorem mg_175 : MG 175 := ⟨plainFor_of_name (by decide), by decide, sk_X6_lay⟩
theorem mg_176 : MG 176 := ⟨plainFor_of_name (by decide), by decide, sk_X6_clear⟩
theorem mg_177 : MG 177 := ⟨plainFor_of_name (by decide), by decide, sk_X6_split⟩
theorem mg_178 : MG 178 := ⟨plainFor_of_name (by decide), by decide, sk_X6_replace⟩
theorem mg_179 : MG 179 := ⟨plainFor_of_name (by decide), by decide, sk_X6_shiftTo⟩
theorem mg_180 : MG 180 := ⟨plainFor_of_name (by decide), by decide, sk_X6_acceptDraft⟩
theorem mg_181 : MG 181 := ⟨plainFor_of_name (by decide), by decide, sk_X6_goBack⟩
theorem mg_182 : MG 182 := ⟨plainFor_of_name (by decide), by decide, sk_X6_store⟩
theorem mg_183 : MG 183 := ⟨plainFor_of_name (by decide), by decide, sk_X6_restore⟩
theorem mg_184 : MG 184 := ⟨plainFor_of_name (by decide), by decide, sk_L_law⟩
theorem mg_185 : MG 185 := ⟨by decide +kernel, by decide, sk_J_max⟩
theorem mg_186 : MG 186 := ⟨by decide +kernel, by decide, sk_J_min⟩
theorem mg_187 : MG 187 := ⟨by decide +kernel, by decide, sk_J_fnan⟩
theorem mg_188 : MG 188 := ⟨by decide +kernel, by decide, sk_J_fbits⟩
theorem mg_189 : MG 189 := ⟨by decide +kernel, by decide, sk_J_dnan⟩
theorem mg_190 : MG 190 := ⟨by decide +kernel, by decide, sk_J_dbits⟩
theorem rg_node {P : Nat → Prop} {a b : Nat} (m : Nat) (h1 : ∀ M, a ≤ M → M < m → P M) (h2 : ∀ M, m ≤ M → M < b → P M) : ∀ M, a ≤ M → M < b → P M := fun M ha hb => if h : M < m then h1 M ha h else h2 M (by omega) hb
theorem rg_leaf {P : Nat → Prop} {k : Nat} (h : P k) : ∀ M, k ≤ M → M < k + 1 → P M := fun M ha hb => by
  have : M = k := by omega
  subst this
  exact h
theorem mg_lt : ∀ M, 0 ≤ M → M < 191 → MG M := (rg_node 95 (rg_node 47 (rg_node 23 (rg_node 11 (rg_node 5 (rg_node 2 (rg_node 1 (rg_leaf mg_0) (rg_leaf mg_1)) (rg_node 3 (rg_leaf mg_2) (rg_node 4 (rg_leaf mg_3) (rg_leaf mg_4)))) (rg_node 8 (rg_node 6 (rg_leaf mg_5) (rg_node 7 (rg_leaf mg_6) (rg_leaf mg_7))) (rg_node 9 (rg_leaf mg_8) (rg_node 10 (rg_leaf mg_9) (rg_leaf mg_10))))) (rg_node 17 (rg_node 14 (rg_node 12 (rg_leaf mg_11) (rg_node 13 (rg_leaf mg_12) (rg_leaf mg_13))) (rg_node 15 (rg_leaf mg_14) (rg_node 16 (rg_leaf mg_15) (rg_leaf mg_16)))) (rg_node 20 (rg_node 18 (rg_leaf mg_17) (rg_node 19 (rg_leaf mg_18) (rg_leaf mg_19))) (rg_node 21 (rg_leaf mg_20) (rg_node 22 (rg_leaf mg_21) (rg_leaf mg_22)))))) (rg_node 35 (rg_node 29 (rg_node 26 (rg_node 24 (rg_leaf mg_23) (rg_node 25 (rg_leaf mg_24) (rg_leaf mg_25))) (rg_node 27 (rg_leaf mg_26) (rg_node 28 (rg_leaf mg_27) (rg_leaf mg_28)))) (rg_node 32 (rg_node 30 (rg_leaf mg_29) (rg_node 31 (rg_leaf mg_30) (rg_leaf mg_31))) (rg_node 33 (rg_leaf mg_32) (rg_node 34 (rg_leaf mg_33) (rg_leaf mg_34))))) (rg_node 41 (rg_node 38 (rg_node 36 (rg_leaf mg_35) (rg_node 37 (rg_leaf mg_36) (rg_leaf mg_37))) (rg_node 39 (rg_leaf mg_38) (rg_node 40 (rg_leaf mg_39) (rg_leaf mg_40)))) (rg_node 44 (rg_node 42 (rg_leaf mg_41) (rg_node 43 (rg_leaf mg_42) (rg_leaf mg_43))) (rg_node 45 (rg_leaf mg_44) (rg_node 46 (rg_leaf mg_45) (rg_leaf mg_46))))))) (rg_node 71 (rg_node 59 (rg_node 53 (rg_node 50 (rg_node 48 (rg_leaf mg_47) (rg_node 49 (rg_leaf mg_48) (rg_leaf mg_49))) (rg_node 51 (rg_leaf mg_50) (rg_node 52 (rg_leaf mg_51) (rg_leaf mg_52)))) (rg_node 56 (rg_node 54 (rg_leaf mg_53) (rg_node 55 (rg_leaf mg_54) (rg_leaf mg_55))) (rg_node 57 (rg_leaf mg_56) (rg_node 58 (rg_leaf mg_57) (rg_leaf mg_58))))) (rg_node 65 (rg_node 62 (rg_node 60 (rg_leaf mg_59) (rg_node 61 (rg_leaf mg_60) (rg_leaf mg_61))) (rg_node 63 (rg_leaf mg_62) (rg_node 64 (rg_leaf mg_63) (rg_leaf mg_64)))) (rg_node 68 (rg_node 66 (rg_leaf mg_65) (rg_node 67 (rg_leaf mg_66) (rg_leaf mg_67))) (rg_node 69 (rg_leaf mg_68) (rg_node 70 (rg_leaf mg_69) (rg_leaf mg_70)))))) (rg_node 83 (rg_node 77 (rg_node 74 (rg_node 72 (rg_leaf mg_71) (rg_node 73 (rg_leaf mg_72) (rg_leaf mg_73))) (rg_node 75 (rg_leaf mg_74) (rg_node 76 (rg_leaf mg_75) (rg_leaf mg_76)))) (rg_node 80 (rg_node 78 (rg_leaf mg_77) (rg_node 79 (rg_leaf mg_78) (rg_leaf mg_79))) (rg_node 81 (rg_leaf mg_80) (rg_node 82 (rg_leaf mg_81) (rg_leaf mg_82))))) (rg_node 89 (rg_node 86 (rg_node 84 (rg_leaf mg_83) (rg_node 85 (rg_leaf mg_84) (rg_leaf mg_85))) (rg_node 87 (rg_leaf mg_86) (rg_node 88 (rg_leaf mg_87) (rg_leaf mg_88)))) (rg_node 92 (rg_node 90 (rg_leaf mg_89) (rg_node 91 (rg_leaf mg_90) (rg_leaf mg_91))) (rg_node 93 (rg_leaf mg_92) (rg_node 94 (rg_leaf mg_93) (rg_leaf mg_94)))))))) (rg_node 143 (rg_node 119 (rg_node 107 (rg_node 101 (rg_node 98 (rg_node 96 (rg_leaf mg_95) (rg_node 97 (rg_leaf mg_96) (rg_leaf mg_97))) (rg_node 99 (rg_leaf mg_98) (rg_node 100 (rg_leaf mg_99) (rg_leaf mg_100)))) (rg_node 104 (rg_node 102 (rg_leaf mg_101) (rg_node 103 (rg_leaf mg_102) (rg_leaf mg_103))) (rg_node 105 (rg_leaf mg_104) (rg_node 106 (rg_leaf mg_105) (rg_leaf mg_106))))) (rg_node 113 (rg_node 110 (rg_node 108 (rg_leaf mg_107) (rg_node 109 (rg_leaf mg_108) (rg_leaf mg_109))) (rg_node 111 (rg_leaf mg_110) (rg_node 112 (rg_leaf mg_111) (rg_leaf mg_112)))) (rg_node 116 (rg_node 114 (rg_leaf mg_113) (rg_node 115 (rg_leaf mg_114) (rg_leaf mg_115))) (rg_node 117 (rg_leaf mg_116) (rg_node 118 (rg_leaf mg_117) (rg_leaf mg_118)))))) (rg_node 131 (rg_node 125 (rg_node 122 (rg_node 120 (rg_leaf mg_119) (rg_node 121 (rg_leaf mg_120) (rg_leaf mg_121))) (rg_node 123 (rg_leaf mg_122) (rg_node 124 (rg_leaf mg_123) (rg_leaf mg_124)))) (rg_node 128 (rg_node 126 (rg_leaf mg_125) (rg_node 127 (rg_leaf mg_126) (rg_leaf mg_127))) (rg_node 129 (rg_leaf mg_128) (rg_node 130 (rg_leaf mg_129) (rg_leaf mg_130))))) (rg_node 137 (rg_node 134 (rg_node 132 (rg_leaf mg_131) (rg_node 133 (rg_leaf mg_132) (rg_leaf mg_133))) (rg_node 135 (rg_leaf mg_134) (rg_node 136 (rg_leaf mg_135) (rg_leaf mg_136)))) (rg_node 140 (rg_node 138 (rg_leaf mg_137) (rg_node 139 (rg_leaf mg_138) (rg_leaf mg_139))) (rg_node 141 (rg_leaf mg_140) (rg_node 142 (rg_leaf mg_141) (rg_leaf mg_142))))))) (rg_node 167 (rg_node 155 (rg_node 149 (rg_node 146 (rg_node 144 (rg_leaf mg_143) (rg_node 145 (rg_leaf mg_144) (rg_leaf mg_145))) (rg_node 147 (rg_leaf mg_146) (rg_node 148 (rg_leaf mg_147) (rg_leaf mg_148)))) (rg_node 152 (rg_node 150 (rg_leaf mg_149) (rg_node 151 (rg_leaf mg_150) (rg_leaf mg_151))) (rg_node 153 (rg_leaf mg_152) (rg_node 154 (rg_leaf mg_153) (rg_leaf mg_154))))) (rg_node 161 (rg_node 158 (rg_node 156 (rg_leaf mg_155) (rg_node 157 (rg_leaf mg_156) (rg_leaf mg_157))) (rg_node 159 (rg_leaf mg_158) (rg_node 160 (rg_leaf mg_159) (rg_leaf mg_160)))) (rg_node 164 (rg_node 162 (rg_leaf mg_161) (rg_node 163 (rg_leaf mg_162) (rg_leaf mg_163))) (rg_node 165 (rg_leaf mg_164) (rg_node 166 (rg_leaf mg_165) (rg_leaf mg_166)))))) (rg_node 179 (rg_node 173 (rg_node 170 (rg_node 168 (rg_leaf mg_167) (rg_node 169 (rg_leaf mg_168) (rg_leaf mg_169))) (rg_node 171 (rg_leaf mg_170) (rg_node 172 (rg_leaf mg_171) (rg_leaf mg_172)))) (rg_node 176 (rg_node 174 (rg_leaf mg_173) (rg_node 175 (rg_leaf mg_174) (rg_leaf mg_175))) (rg_node 177 (rg_leaf mg_176) (rg_node 178 (rg_leaf mg_177) (rg_leaf mg_178))))) (rg_node 185 (rg_node 182 (rg_node 180 (rg_leaf mg_179) (rg_node 181 (rg_leaf mg_180) (rg_leaf mg_181))) (rg_node 183 (rg_leaf mg_182) (rg_node 184 (rg_leaf mg_183) (rg_leaf mg_184)))) (rg_node 188 (rg_node 186 (rg_leaf mg_185) (rg_node 187 (rg_leaf mg_186) (rg_leaf mg_187))) (rg_node 189 (rg_leaf mg_188) (rg_node 190 (rg_leaf mg_189) (rg_leaf mg_190)))))))))
theorem mg_hi (M : Nat) (h : 190 ≤ M) : MG M := by
  have key : ∀ k, k ≤ M → Nat.blt M k = false := fun k hk => by
    cases hb : Nat.blt M k with
    | false => rfl
    | true =>
      have : M < k := Nat.le_of_ble_eq_true hb
      omega
  have k95 := key 95 (by omega)
  have k143 := key 143 (by omega)
  have k167 := key 167 (by omega)
  have k179 := key 179 (by omega)
  have k185 := key 185 (by omega)
  have k188 := key 188 (by omega)
  have k189 := key 189 (by omega)
  have k190 := key 190 (by omega)
  have e1 : mY M = mY 190 := by unfold mY; simp only [k95, k143, k167, k179, k185, k188, k189, k190, cond_false]; rfl
  have e2 : mB M = mB 190 := by unfold mB; simp only [k95, k143, k167, k179, k185, k188, k189, k190, cond_false]; rfl
  have e3 : mRt M = mRt 190 := by unfold mRt; simp only [k95, k143, k167, k179, k185, k188, k189, k190, cond_false]; rfl
  have e4 : mmx M = mmx 190 := by unfold mmx; simp only [k95, k143, k167, k179, k185, k188, k189, k190, cond_false]; rfl
  have e5 : mcd M = mcd 190 := by unfold mcd; simp only [k95, k143, k167, k179, k185, k188, k189, k190, cond_false]; rfl
  have e6 : mlv M = mlv 190 := by
    have hb : Nat.beq M M_X1_isWord = false := by
      cases hb : Nat.beq M M_X1_isWord with
      | false => rfl
      | true =>
        have := Nat.eq_of_beq_eq_true hb
        have h9 : M = 138 := this
        omega
    unfold mlv
    rw [hb]
    rfl
  have h9 := mg_190
  unfold MG at h9 ⊢
  rw [e1, e2, e3, e4, e5, e6]
  exact h9
theorem mg_all (M : Nat) : MG M := if h : M < 191 then mg_lt M (Nat.zero_le _) h else mg_hi M (by omega)
