/-! THE LAW: its calls, its cases, its loop -/
theorem lgc_self (x : Int64) : lg_cmp x x = 0 := by
  unfold lg_cmp
  simp
theorem cvL_13 : kV RL RX4 13 yX4_moor cX4_moor 8 (some .int) 4 := ⟨kg_V q1_147 q1_148 q1_149 q1_1 q1_150, by decide +kernel⟩
theorem cvL_17 : kV RL RX5 17 yX5_moor cX5_moor 7 (some .int) 4 := ⟨kg_V q3_67 q3_68 q3_69 q1_5 q3_70, by decide +kernel⟩
theorem cvL_18 : kV RL RX4 18 yX4_ofPerson cX4_ofPerson 3 (some .int) 2 := ⟨kg_V q1_185 q1_186 q1_187 q1_1 q1_188, by decide +kernel⟩
theorem cvL_22 : kV RL RX5 22 yX5_ofPerson cX5_ofPerson 3 (some .int) 2 := ⟨kg_V q3_110 q3_111 q3_112 q1_5 q3_113, by decide +kernel⟩
theorem cvL_23 : kV RL RX4 23 yX4_post cX4_post 3 (some .int) 1 := ⟨kg_V q1_219 q1_220 q1_221 q1_1 q1_222, by decide +kernel⟩
theorem cvL_27 : kV RL RX5 27 yX5_post cX5_post 3 (some .int) 1 := ⟨kg_V q3_140 q3_141 q3_142 q1_5 q3_143, by decide +kernel⟩
theorem cvL_28 : kV RL RX4 28 yX4_lax cX4_lax 3 (some .int) 1 := ⟨kg_V q1_227 q1_228 q1_229 q1_1 q1_230, by decide +kernel⟩
theorem cvL_31 : kV RL RX5 31 yX5_lax cX5_lax 3 (some .int) 1 := ⟨kg_V q3_145 q3_146 q3_147 q1_5 q3_148, by decide +kernel⟩
theorem cvL_32 : kV RL RX4 32 yX4_bathe cX4_bathe 3 (some .int) 2 := ⟨kg_V q1_231 q1_232 q1_233 q1_1 q1_234, by decide +kernel⟩
theorem cvL_35 : kV RL RX5 35 yX5_bathe cX5_bathe 4 (some .int) 2 := ⟨kg_V q3_149 q3_150 q3_151 q1_5 q3_152, by decide +kernel⟩
theorem cvL_36 : kV RL RX4 36 yX4_moves cX4_moves 3 (some .int) 2 := ⟨kg_V q1_239 q2_0 q2_1 q1_1 q2_2, by decide +kernel⟩
theorem cvL_39 : kV RL RX5 39 yX5_moves cX5_moves 4 (some .int) 2 := ⟨kg_V q3_154 q3_155 q3_156 q1_5 q3_157, by decide +kernel⟩
theorem cvL_40 : kV RL RX4 40 yX4_send cX4_send 2 (some .int) 1 := ⟨kg_V q2_3 q2_4 q2_5 q1_1 q2_6, by decide +kernel⟩
theorem cvL_43 : kV RL RX5 43 yX5_send cX5_send 2 (some .int) 1 := ⟨kg_V q3_158 q3_159 q3_160 q1_5 q3_161, by decide +kernel⟩
theorem cvL_44 : kV RL RX4 44 yX4_comes cX4_comes 2 (some .int) 1 := ⟨kg_V q2_12 q2_13 q2_14 q1_1 q2_15, by decide +kernel⟩
theorem cvL_47 : kV RL RX5 47 yX5_comes cX5_comes 6 (some .int) 1 := ⟨kg_V q3_166 q3_167 q3_168 q1_5 q3_169, by decide +kernel⟩
theorem cvL_48 : kV RL RX4 48 yX4_round cX4_round 9 (some .int) 5 := ⟨kg_V q2_27 q2_28 q2_29 q1_1 q2_30, by decide +kernel⟩
theorem cvL_52 : kV RL RX5 52 yX5_round cX5_round 8 (some .int) 5 := ⟨kg_V q3_170 q3_171 q3_172 q1_5 q3_173, by decide +kernel⟩
theorem cvL_53 : kV RL RX4 53 yX4_strict cX4_strict 3 (some .int) 1 := ⟨kg_V q2_62 q2_63 q2_64 q1_1 q2_65, by decide +kernel⟩
theorem cvL_56 : kV RL RX5 56 yX5_strict cX5_strict 5 (some .int) 1 := ⟨kg_V q3_195 q3_196 q3_197 q1_5 q3_198, by decide +kernel⟩
theorem cvL_57 : kV RL RX4 57 yX4_site cX4_site 6 (some .int) 1 := ⟨kg_V q2_66 q2_67 q2_68 q1_1 q2_69, by decide +kernel⟩
theorem cvL_60 : kV RL RX5 60 yX5_site cX5_site 7 (some .int) 1 := ⟨kg_V q3_199 q3_200 q3_201 q1_5 q3_202, by decide +kernel⟩
theorem cvL_61 : kV RL RX4 61 yX4_order cX4_order 3 (some .int) 1 := ⟨kg_V q2_71 q2_72 q2_73 q1_1 q2_74, by decide +kernel⟩
theorem cvL_64 : kV RL RX5 64 yX5_order cX5_order 3 (some .int) 1 := ⟨kg_V q3_207 q3_208 q3_209 q1_5 q3_210, by decide +kernel⟩
theorem cvL_65 : kV RL RX4 65 yX4_ahead cX4_ahead 2 (some .int) 1 := ⟨kg_V q2_94 q2_95 q2_96 q1_1 q2_97, by decide +kernel⟩
theorem cvL_68 : kV RL RX5 68 yX5_ahead cX5_ahead 5 (some .int) 1 := ⟨kg_V q3_229 q3_230 q3_231 q1_5 q3_232, by decide +kernel⟩
theorem cvL_69 : kV RL RX4 69 yX4_reading cX4_reading 3 (some .int) 2 := ⟨kg_V q2_98 q2_99 q2_100 q1_1 q2_101, by decide +kernel⟩
theorem cvL_72 : kV RL RX5 72 yX5_reading cX5_reading 3 (some .int) 2 := ⟨kg_V q4_4 q4_5 q4_6 q1_5 q4_7, by decide +kernel⟩
theorem cvL_73 : kV RL RX4 73 yX4_back cX4_back 2 (some .int) 1 := ⟨kg_V q2_102 q2_103 q2_104 q1_1 q2_105, by decide +kernel⟩
theorem cvL_76 : kV RL RX5 76 yX5_back cX5_back 2 (some .int) 1 := ⟨kg_V q4_8 q4_9 q4_10 q1_5 q4_11, by decide +kernel⟩
theorem cvL_77 : kV RL RX4 77 yX4_smells cX4_smells 2 (some .int) 1 := ⟨kg_V q2_106 q2_107 q2_108 q1_1 q2_109, by decide +kernel⟩
theorem cvL_80 : kV RL RX5 80 yX5_smells cX5_smells 5 (some .int) 1 := ⟨kg_V q4_12 q4_13 q4_14 q1_5 q4_15, by decide +kernel⟩
theorem cvL_81 : kV RL RX4 81 yX4_pasts cX4_pasts 2 (some .int) 1 := ⟨kg_V q2_118 q2_119 q2_120 q1_1 q2_121, by decide +kernel⟩
theorem cvL_84 : kV RL RX5 84 yX5_pasts cX5_pasts 5 (some .int) 1 := ⟨kg_V q4_20 q4_21 q4_22 q1_5 q4_23, by decide +kernel⟩
theorem cvL_85 : kV RL RX4 85 yX4_kinds cX4_kinds 2 (some .int) 1 := ⟨kg_V q2_122 q2_123 q2_124 q1_1 q2_125, by decide +kernel⟩
theorem cvL_88 : kV RL RX5 88 yX5_kinds cX5_kinds 5 (some .int) 1 := ⟨kg_V q4_24 q4_25 q4_26 q1_5 q4_27, by decide +kernel⟩
theorem cvL_89 : kV RL RX4 89 yX4_odds cX4_odds 5 (some .long) 2 := ⟨kg_V q2_126 q2_127 q2_128 q1_1 q2_129, by decide +kernel⟩
theorem cvL_93 : kV RL RX5 93 yX5_odds cX5_odds 7 (some .long) 2 := ⟨kg_V q4_28 q4_29 q4_30 q1_5 q4_31, by decide +kernel⟩
theorem cvL_94 : kV RL RX4 94 yX4_sheet cX4_sheet 4 (some .int) 3 := ⟨kg_V q2_135 q2_136 q2_137 q1_1 q2_138, by decide +kernel⟩
theorem cvL_98 : kV RL RX5 98 yX5_sheet cX5_sheet 5 (some .int) 3 := ⟨kg_V q4_39 q4_40 q4_41 q1_5 q4_42, by decide +kernel⟩
theorem cvL_99 : kV RL RX4 99 yX4_lose cX4_lose 3 (some .int) 1 := ⟨kg_V q2_143 q2_144 q2_145 q1_1 q2_146, by decide +kernel⟩
theorem cvL_102 : kV RL RX5 102 yX5_lose cX5_lose 3 (some .int) 1 := ⟨kg_V q4_43 q4_44 q4_45 q1_5 q4_46, by decide +kernel⟩
theorem cvL_103 : kV RL RX4 103 yX4_put cX4_put 5 (some .int) 3 := ⟨kg_V q2_147 q2_148 q2_149 q1_1 q2_150, by decide +kernel⟩
theorem cvL_106 : kV RL RX5 106 yX5_put cX5_put 4 (some .int) 3 := ⟨kg_V q4_47 q4_48 q4_49 q1_5 q4_50, by decide +kernel⟩
theorem cvL_107 : kV RL RX4 107 yX4_cell cX4_cell 5 (some .long) 3 := ⟨kg_V q2_159 q2_160 q2_161 q1_1 q2_162, by decide +kernel⟩
theorem cvL_111 : kV RL RX5 111 yX5_cell cX5_cell 4 (some .long) 3 := ⟨kg_V q4_55 q4_56 q4_57 q1_5 q4_58, by decide +kernel⟩
theorem cvL_112 : kV RL RX4 112 yX4_copy cX4_copy 8 (some .int) 5 := ⟨kg_V q2_163 q2_164 q2_165 q1_1 q2_166, by decide +kernel⟩
theorem cvL_115 : kV RL RX5 115 yX5_copy cX5_copy 7 (some .int) 5 := ⟨kg_V q4_63 q4_64 q4_65 q1_5 q4_66, by decide +kernel⟩
theorem cvL_116 : kV RL RX4 116 yX4_tell cX4_tell 2 (some .int) 1 := ⟨kg_V q2_167 q2_168 q2_169 q1_1 q2_170, by decide +kernel⟩
theorem cvL_119 : kV RL RX5 119 yX5_tell cX5_tell 4 (some .int) 1 := ⟨kg_V q4_67 q4_68 q4_69 q1_5 q4_70, by decide +kernel⟩
theorem cvL_120 : kV RL RX4 120 yX4_whistle cX4_whistle 2 (some .int) 1 := ⟨kg_V q2_187 q2_188 q2_189 q1_1 q2_190, by decide +kernel⟩
theorem cvL_123 : kV RL RX5 123 yX5_whistle cX5_whistle 2 (some .int) 1 := ⟨kg_V q4_75 q4_76 q4_77 q1_5 q4_78, by decide +kernel⟩
theorem cvL_124 : kV RL RX4 124 yX4_as cX4_as 3 (some .int) 2 := ⟨kg_V q2_191 q2_192 q2_193 q1_1 q2_194, by decide +kernel⟩
theorem cvL_127 : kV RL RX5 127 yX5_as cX5_as 3 (some .int) 2 := ⟨kg_V q4_79 q4_80 q4_81 q1_5 q4_82, by decide +kernel⟩
theorem cvL_128 : kV RL RX4 128 yX4_trace cX4_trace 1 (some .int) 0 := ⟨kg_V q2_195 q2_196 q2_197 q1_1 q2_198, by decide +kernel⟩
theorem cvL_132 : kV RL RX5 132 yX5_trace cX5_trace 1 (some .int) 0 := ⟨kg_V q4_83 q4_84 q4_85 q1_5 q4_86, by decide +kernel⟩
theorem cvL_133 : kV RL RX4 133 yX4_fault cX4_fault 1 (some .int) 0 := ⟨kg_V q2_199 q2_200 q2_201 q1_1 q2_202, by decide +kernel⟩
theorem cvL_136 : kV RL RX5 136 yX5_fault cX5_fault 1 (some .int) 0 := ⟨kg_V q4_87 q4_88 q4_89 q1_5 q4_90, by decide +kernel⟩
theorem cvL_137 : kV RL RX4 137 yX4_many cX4_many 2 (some .int) 1 := ⟨kg_V q2_203 q2_204 q2_205 q1_1 q2_206, by decide +kernel⟩
theorem cvL_140 : kV RL RX5 140 yX5_many cX5_many 2 (some .int) 1 := ⟨kg_V q4_91 q4_92 q4_93 q1_5 q4_94, by decide +kernel⟩
theorem kA_b {E : kE} {b sz : Nat} (hb : b < sz) (hge : ∀ k, k < 47 → sz ≤ ead E k) : ¬ kA E sz b := by
  rintro (⟨k, hk, h⟩ | h)
  · have := hge k hk
    omega
  · omega
/-- one int of the script onto the stack -/
theorem law_arg {p : Program} {l : Launch} {e : Env} {s : State} {m : MethodId} {below : List Frame} {meth : Method} {c : Code} {b L : Nat} {xs : Nat → Int32} {E : kE} {cells slots : Nat} {Q : State → Prop} {H : Heap} {locs : List Loc} {ls : Array Slot} {rest : List Value} {q1 q2 : Nat} {i pc : Nat} {ρ : kS} (S : CallFix p m c cL_law 4 s #[Value.ref b] kBIG RL) (hX : va_X b L xs s s.heap) (hL : L ≤ 384) (hbl : b < s.heap.size) (hge : ∀ k, k < 47 → s.heap.size ≤ ead E k) (hw : kWS E s ρ H locs) (hl : lv_has ls 4 [(0, .ref b), (1, .ref q1), (2, .ref q2), (3, .int (nI i))]) (hi : i + 6 ≤ L) (k : Nat) (hk : k ≤ 5) (d0 : decode cL_law pc = .ok (.aload_n 0, 1)) (d1 : decode cL_law (pc + 1) = .ok (.iload_n 3, 1)) (d2 : decode cL_law (pc + 2) = .ok (.iconst (k : Int), 1)) (d3 : decode cL_law (pc + 3) = .ok (.iadd, 1)) (d4 : decode cL_law (pc + 4) = .ok (.iaload, 1))
    (kk : W p l e room_1 s m #[Value.ref b] below meth c H locs cells slots Q (F0 m (pc + 5) ls (.int (xs (i + k)) :: rest))) : W p l e room_1 s m #[Value.ref b] below meth c H locs cells slots Q (F0 m pc ls rest) := by
  refine lv_aload_n S.1 S.2.1 d0 rfl (lv_at hl 0 rfl) ?_
  refine lv_iload_n S.1 S.2.1 d1 rfl (lv_at hl 3 rfl) ?_
  refine lv_iconst (v := nI k) S.1 S.2.1 d2 (by rcases (show k = 0 ∨ k = 1 ∨ k = 2 ∨ k = 3 ∨ k = 4 ∨ k = 5 by omega) with rfl | rfl | rfl | rfl | rfl | rfl <;> decide) ?_
  refine lv_iadd S.1 S.2.1 d3 ?_
  rw [nI_add]
  refine va_sld S.1 S.2.1 hX hbl (kA_b hbl hge) hw.2.2.2.1 (vp_in_nI (by omega) (by omega)) d4 ?_
  rw [nI_clamp (by omega)]
  exact kk
set_option maxHeartbeats 4000000 in
set_option maxRecDepth 100000 in
theorem law_c0 {p : Program} {l : Launch} {e : Env} {s : State} {m : MethodId} {below : List Frame} {meth : Method} {c : Code} {b L : Nat} {xs : Nat → Int32} {E : kE} {cells slots : Nat} {Q : State → Prop} {H : Heap} {locs : List Loc} {ls : Array Slot} {i : Nat} {σ τ : kS} (S : CallFix p m c cL_law 4 s #[Value.ref b] kBIG RL) (hX : va_X b L xs s s.heap) (hL : L ≤ 384) (hbl : b < s.heap.size) (hge : ∀ k, k < 47 → s.heap.size ≤ ead E k) (hw : kWS E s (cmb σ τ) H locs) (hRR : RR σ τ) (hl : lv_has ls 4 [(0, .ref b), (1, .ref (ead E 0)), (2, .ref (ead E 26)), (3, .int (nI i))]) (hi : i + 6 ≤ L) (hf : cells ≤ room_1.cells ∧ slots ≤ room_1.slots)
    (kk : ∀ (σ2 τ2 : kS) (H1 : Heap) (locs1 : List Loc), RR σ2 τ2 → kWS E s (cmb σ2 τ2) H1 locs1 → W p l e room_1 s m #[Value.ref b] below meth c H1 locs1 cells slots Q (F0 m 1070 ls [])) : W p l e room_1 s m #[Value.ref b] below meth c H locs cells slots Q (F0 m 168 ls []) := by
  obtain ⟨r, σ2, τ2, g1, g2, hRR2⟩ := c_moor (xs (i + 1)) (xs (i + 2)) (xs (i + 3)) (xs (i + 4)) σ τ hRR
  refine lv_aload_n S.1 S.2.1 dL_law_168 rfl (lv_at hl 1 rfl) ?_
  refine law_arg S hX hL hbl hge hw hl hi 1 (by omega) dL_law_169 dL_law_170 dL_law_171 dL_law_172 dL_law_173 ?_
  refine law_arg S hX hL hbl hge hw hl hi 2 (by omega) dL_law_174 dL_law_175 dL_law_176 dL_law_177 dL_law_178 ?_
  refine law_arg S hX hL hbl hge hw hl hi 3 (by omega) dL_law_179 dL_law_180 dL_law_181 dL_law_182 dL_law_183 ?_
  refine law_arg S hX hL hbl hge hw hl hi 4 (by omega) dL_law_184 dL_law_185 dL_law_186 dL_law_187 dL_law_188 ?_
  refine kcX4_moor S hw cvL_13 ⟨Nat.le_of_ble_eq_true rfl, Nat.le_of_ble_eq_true rfl⟩ g1 hl.1 (Nat.le_of_ble_eq_true rfl) dL_law_189 (fun H locs hw => ?_) hf
  refine lv_aload_n S.1 S.2.1 dL_law_192 rfl (lv_at hl 2 rfl) ?_
  refine law_arg S hX hL hbl hge hw hl hi 1 (by omega) dL_law_193 dL_law_194 dL_law_195 dL_law_196 dL_law_197 ?_
  refine law_arg S hX hL hbl hge hw hl hi 2 (by omega) dL_law_198 dL_law_199 dL_law_200 dL_law_201 dL_law_202 ?_
  refine law_arg S hX hL hbl hge hw hl hi 3 (by omega) dL_law_203 dL_law_204 dL_law_205 dL_law_206 dL_law_207 ?_
  refine law_arg S hX hL hbl hge hw hl hi 4 (by omega) dL_law_208 dL_law_209 dL_law_210 dL_law_211 dL_law_212 ?_
  refine kcX5_moor S hw cvL_17 ⟨Nat.le_of_ble_eq_true rfl, Nat.le_of_ble_eq_true rfl⟩ g2 hl.1 (Nat.le_of_ble_eq_true rfl) dL_law_213 (fun H locs hw => ?_) hf
  refine lv_icmp_eq (tgt := 1070) S.1 S.2.1 dL_law_216 (by decide) (fun _ => ?_) (fun z => absurd rfl z)
  exact kk σ2 τ2 H locs hRR2 hw
set_option maxHeartbeats 4000000 in
set_option maxRecDepth 100000 in
theorem law_c1 {p : Program} {l : Launch} {e : Env} {s : State} {m : MethodId} {below : List Frame} {meth : Method} {c : Code} {b L : Nat} {xs : Nat → Int32} {E : kE} {cells slots : Nat} {Q : State → Prop} {H : Heap} {locs : List Loc} {ls : Array Slot} {i : Nat} {σ τ : kS} (S : CallFix p m c cL_law 4 s #[Value.ref b] kBIG RL) (hX : va_X b L xs s s.heap) (hL : L ≤ 384) (hbl : b < s.heap.size) (hge : ∀ k, k < 47 → s.heap.size ≤ ead E k) (hw : kWS E s (cmb σ τ) H locs) (hRR : RR σ τ) (hl : lv_has ls 4 [(0, .ref b), (1, .ref (ead E 0)), (2, .ref (ead E 26)), (3, .int (nI i))]) (hi : i + 6 ≤ L) (hf : cells ≤ room_1.cells ∧ slots ≤ room_1.slots)
    (kk : ∀ (σ2 τ2 : kS) (H1 : Heap) (locs1 : List Loc), RR σ2 τ2 → kWS E s (cmb σ2 τ2) H1 locs1 → W p l e room_1 s m #[Value.ref b] below meth c H1 locs1 cells slots Q (F0 m 1070 ls [])) : W p l e room_1 s m #[Value.ref b] below meth c H locs cells slots Q (F0 m 221 ls []) := by
  obtain ⟨r, σ2, τ2, g1, g2, hRR2⟩ := c_ofPerson (xs (i + 1)) (xs (i + 2)) σ τ hRR
  refine lv_aload_n S.1 S.2.1 dL_law_221 rfl (lv_at hl 1 rfl) ?_
  refine law_arg S hX hL hbl hge hw hl hi 1 (by omega) dL_law_222 dL_law_223 dL_law_224 dL_law_225 dL_law_226 ?_
  refine law_arg S hX hL hbl hge hw hl hi 2 (by omega) dL_law_227 dL_law_228 dL_law_229 dL_law_230 dL_law_231 ?_
  refine kcX4_ofPerson S hw cvL_18 ⟨Nat.le_of_ble_eq_true rfl, Nat.le_of_ble_eq_true rfl⟩ g1 hl.1 (Nat.le_of_ble_eq_true rfl) dL_law_232 (fun H locs hw => ?_) hf
  refine lv_aload_n S.1 S.2.1 dL_law_235 rfl (lv_at hl 2 rfl) ?_
  refine law_arg S hX hL hbl hge hw hl hi 1 (by omega) dL_law_236 dL_law_237 dL_law_238 dL_law_239 dL_law_240 ?_
  refine law_arg S hX hL hbl hge hw hl hi 2 (by omega) dL_law_241 dL_law_242 dL_law_243 dL_law_244 dL_law_245 ?_
  refine kcX5_ofPerson S hw cvL_22 ⟨Nat.le_of_ble_eq_true rfl, Nat.le_of_ble_eq_true rfl⟩ g2 hl.1 (Nat.le_of_ble_eq_true rfl) dL_law_246 (fun H locs hw => ?_) hf
  refine lv_icmp_eq (tgt := 1070) S.1 S.2.1 dL_law_249 (by decide) (fun _ => ?_) (fun z => absurd rfl z)
  exact kk σ2 τ2 H locs hRR2 hw
set_option maxHeartbeats 4000000 in
set_option maxRecDepth 100000 in
theorem law_c2 {p : Program} {l : Launch} {e : Env} {s : State} {m : MethodId} {below : List Frame} {meth : Method} {c : Code} {b L : Nat} {xs : Nat → Int32} {E : kE} {cells slots : Nat} {Q : State → Prop} {H : Heap} {locs : List Loc} {ls : Array Slot} {i : Nat} {σ τ : kS} (S : CallFix p m c cL_law 4 s #[Value.ref b] kBIG RL) (hX : va_X b L xs s s.heap) (hL : L ≤ 384) (hbl : b < s.heap.size) (hge : ∀ k, k < 47 → s.heap.size ≤ ead E k) (hw : kWS E s (cmb σ τ) H locs) (hRR : RR σ τ) (hl : lv_has ls 4 [(0, .ref b), (1, .ref (ead E 0)), (2, .ref (ead E 26)), (3, .int (nI i))]) (hi : i + 6 ≤ L) (hf : cells ≤ room_1.cells ∧ slots ≤ room_1.slots)
    (kk : ∀ (σ2 τ2 : kS) (H1 : Heap) (locs1 : List Loc), RR σ2 τ2 → kWS E s (cmb σ2 τ2) H1 locs1 → W p l e room_1 s m #[Value.ref b] below meth c H1 locs1 cells slots Q (F0 m 1070 ls [])) : W p l e room_1 s m #[Value.ref b] below meth c H locs cells slots Q (F0 m 254 ls []) := by
  obtain ⟨r, σ2, τ2, g1, g2, hRR2⟩ := c_post (xs (i + 1)) σ τ hRR
  refine lv_aload_n S.1 S.2.1 dL_law_254 rfl (lv_at hl 1 rfl) ?_
  refine law_arg S hX hL hbl hge hw hl hi 1 (by omega) dL_law_255 dL_law_256 dL_law_257 dL_law_258 dL_law_259 ?_
  refine kcX4_post S hw cvL_23 ⟨Nat.le_of_ble_eq_true rfl, Nat.le_of_ble_eq_true rfl⟩ g1 hl.1 (Nat.le_of_ble_eq_true rfl) dL_law_260 (fun H locs hw => ?_) hf
  refine lv_aload_n S.1 S.2.1 dL_law_263 rfl (lv_at hl 2 rfl) ?_
  refine law_arg S hX hL hbl hge hw hl hi 1 (by omega) dL_law_264 dL_law_265 dL_law_266 dL_law_267 dL_law_268 ?_
  refine kcX5_post S hw cvL_27 ⟨Nat.le_of_ble_eq_true rfl, Nat.le_of_ble_eq_true rfl⟩ g2 hl.1 (Nat.le_of_ble_eq_true rfl) dL_law_269 (fun H locs hw => ?_) hf
  refine lv_icmp_eq (tgt := 1070) S.1 S.2.1 dL_law_272 (by decide) (fun _ => ?_) (fun z => absurd rfl z)
  exact kk σ2 τ2 H locs hRR2 hw
set_option maxHeartbeats 4000000 in
set_option maxRecDepth 100000 in
theorem law_c3 {p : Program} {l : Launch} {e : Env} {s : State} {m : MethodId} {below : List Frame} {meth : Method} {c : Code} {b L : Nat} {xs : Nat → Int32} {E : kE} {cells slots : Nat} {Q : State → Prop} {H : Heap} {locs : List Loc} {ls : Array Slot} {i : Nat} {σ τ : kS} (S : CallFix p m c cL_law 4 s #[Value.ref b] kBIG RL) (hX : va_X b L xs s s.heap) (hL : L ≤ 384) (hbl : b < s.heap.size) (hge : ∀ k, k < 47 → s.heap.size ≤ ead E k) (hw : kWS E s (cmb σ τ) H locs) (hRR : RR σ τ) (hl : lv_has ls 4 [(0, .ref b), (1, .ref (ead E 0)), (2, .ref (ead E 26)), (3, .int (nI i))]) (hi : i + 6 ≤ L) (hf : cells ≤ room_1.cells ∧ slots ≤ room_1.slots)
    (kk : ∀ (σ2 τ2 : kS) (H1 : Heap) (locs1 : List Loc), RR σ2 τ2 → kWS E s (cmb σ2 τ2) H1 locs1 → W p l e room_1 s m #[Value.ref b] below meth c H1 locs1 cells slots Q (F0 m 1070 ls [])) : W p l e room_1 s m #[Value.ref b] below meth c H locs cells slots Q (F0 m 277 ls []) := by
  obtain ⟨r, σ2, τ2, g1, g2, hRR2⟩ := c_lax (xs (i + 1)) σ τ hRR
  refine lv_aload_n S.1 S.2.1 dL_law_277 rfl (lv_at hl 1 rfl) ?_
  refine law_arg S hX hL hbl hge hw hl hi 1 (by omega) dL_law_278 dL_law_279 dL_law_280 dL_law_281 dL_law_282 ?_
  refine kcX4_lax S hw cvL_28 ⟨Nat.le_of_ble_eq_true rfl, Nat.le_of_ble_eq_true rfl⟩ g1 hl.1 (Nat.le_of_ble_eq_true rfl) dL_law_283 (fun H locs hw => ?_) hf
  refine lv_aload_n S.1 S.2.1 dL_law_286 rfl (lv_at hl 2 rfl) ?_
  refine law_arg S hX hL hbl hge hw hl hi 1 (by omega) dL_law_287 dL_law_288 dL_law_289 dL_law_290 dL_law_291 ?_
  refine kcX5_lax S hw cvL_31 ⟨Nat.le_of_ble_eq_true rfl, Nat.le_of_ble_eq_true rfl⟩ g2 hl.1 (Nat.le_of_ble_eq_true rfl) dL_law_292 (fun H locs hw => ?_) hf
  refine lv_icmp_eq (tgt := 1070) S.1 S.2.1 dL_law_295 (by decide) (fun _ => ?_) (fun z => absurd rfl z)
  exact kk σ2 τ2 H locs hRR2 hw
set_option maxHeartbeats 4000000 in
set_option maxRecDepth 100000 in
theorem law_c4 {p : Program} {l : Launch} {e : Env} {s : State} {m : MethodId} {below : List Frame} {meth : Method} {c : Code} {b L : Nat} {xs : Nat → Int32} {E : kE} {cells slots : Nat} {Q : State → Prop} {H : Heap} {locs : List Loc} {ls : Array Slot} {i : Nat} {σ τ : kS} (S : CallFix p m c cL_law 4 s #[Value.ref b] kBIG RL) (hX : va_X b L xs s s.heap) (hL : L ≤ 384) (hbl : b < s.heap.size) (hge : ∀ k, k < 47 → s.heap.size ≤ ead E k) (hw : kWS E s (cmb σ τ) H locs) (hRR : RR σ τ) (hl : lv_has ls 4 [(0, .ref b), (1, .ref (ead E 0)), (2, .ref (ead E 26)), (3, .int (nI i))]) (hi : i + 6 ≤ L) (hf : cells ≤ room_1.cells ∧ slots ≤ room_1.slots)
    (kk : ∀ (σ2 τ2 : kS) (H1 : Heap) (locs1 : List Loc), RR σ2 τ2 → kWS E s (cmb σ2 τ2) H1 locs1 → W p l e room_1 s m #[Value.ref b] below meth c H1 locs1 cells slots Q (F0 m 1070 ls [])) : W p l e room_1 s m #[Value.ref b] below meth c H locs cells slots Q (F0 m 300 ls []) := by
  obtain ⟨r, σ2, τ2, g1, g2, hRR2⟩ := c_bathe (xs (i + 1)) (xs (i + 2)) σ τ hRR
  refine lv_aload_n S.1 S.2.1 dL_law_300 rfl (lv_at hl 1 rfl) ?_
  refine law_arg S hX hL hbl hge hw hl hi 1 (by omega) dL_law_301 dL_law_302 dL_law_303 dL_law_304 dL_law_305 ?_
  refine law_arg S hX hL hbl hge hw hl hi 2 (by omega) dL_law_306 dL_law_307 dL_law_308 dL_law_309 dL_law_310 ?_
  refine kcX4_bathe S hw cvL_32 ⟨Nat.le_of_ble_eq_true rfl, Nat.le_of_ble_eq_true rfl⟩ g1 hl.1 (Nat.le_of_ble_eq_true rfl) dL_law_311 (fun H locs hw => ?_) hf
  refine lv_aload_n S.1 S.2.1 dL_law_314 rfl (lv_at hl 2 rfl) ?_
  refine law_arg S hX hL hbl hge hw hl hi 1 (by omega) dL_law_315 dL_law_316 dL_law_317 dL_law_318 dL_law_319 ?_
  refine law_arg S hX hL hbl hge hw hl hi 2 (by omega) dL_law_320 dL_law_321 dL_law_322 dL_law_323 dL_law_324 ?_
  refine kcX5_bathe S hw cvL_35 ⟨Nat.le_of_ble_eq_true rfl, Nat.le_of_ble_eq_true rfl⟩ g2 hl.1 (Nat.le_of_ble_eq_true rfl) dL_law_325 (fun H locs hw => ?_) hf
  refine lv_icmp_eq (tgt := 1070) S.1 S.2.1 dL_law_328 (by decide) (fun _ => ?_) (fun z => absurd rfl z)
  exact kk σ2 τ2 H locs hRR2 hw
set_option maxHeartbeats 4000000 in
set_option maxRecDepth 100000 in
theorem law_c5 {p : Program} {l : Launch} {e : Env} {s : State} {m : MethodId} {below : List Frame} {meth : Method} {c : Code} {b L : Nat} {xs : Nat → Int32} {E : kE} {cells slots : Nat} {Q : State → Prop} {H : Heap} {locs : List Loc} {ls : Array Slot} {i : Nat} {σ τ : kS} (S : CallFix p m c cL_law 4 s #[Value.ref b] kBIG RL) (hX : va_X b L xs s s.heap) (hL : L ≤ 384) (hbl : b < s.heap.size) (hge : ∀ k, k < 47 → s.heap.size ≤ ead E k) (hw : kWS E s (cmb σ τ) H locs) (hRR : RR σ τ) (hl : lv_has ls 4 [(0, .ref b), (1, .ref (ead E 0)), (2, .ref (ead E 26)), (3, .int (nI i))]) (hi : i + 6 ≤ L) (hf : cells ≤ room_1.cells ∧ slots ≤ room_1.slots)
    (kk : ∀ (σ2 τ2 : kS) (H1 : Heap) (locs1 : List Loc), RR σ2 τ2 → kWS E s (cmb σ2 τ2) H1 locs1 → W p l e room_1 s m #[Value.ref b] below meth c H1 locs1 cells slots Q (F0 m 1070 ls [])) : W p l e room_1 s m #[Value.ref b] below meth c H locs cells slots Q (F0 m 333 ls []) := by
  obtain ⟨r, σ2, τ2, g1, g2, hRR2⟩ := c_moves (xs (i + 1)) (xs (i + 2)) σ τ hRR
  refine lv_aload_n S.1 S.2.1 dL_law_333 rfl (lv_at hl 1 rfl) ?_
  refine law_arg S hX hL hbl hge hw hl hi 1 (by omega) dL_law_334 dL_law_335 dL_law_336 dL_law_337 dL_law_338 ?_
  refine law_arg S hX hL hbl hge hw hl hi 2 (by omega) dL_law_339 dL_law_340 dL_law_341 dL_law_342 dL_law_343 ?_
  refine kcX4_moves S hw cvL_36 ⟨Nat.le_of_ble_eq_true rfl, Nat.le_of_ble_eq_true rfl⟩ g1 hl.1 (Nat.le_of_ble_eq_true rfl) dL_law_344 (fun H locs hw => ?_) hf
  refine lv_aload_n S.1 S.2.1 dL_law_347 rfl (lv_at hl 2 rfl) ?_
  refine law_arg S hX hL hbl hge hw hl hi 1 (by omega) dL_law_348 dL_law_349 dL_law_350 dL_law_351 dL_law_352 ?_
  refine law_arg S hX hL hbl hge hw hl hi 2 (by omega) dL_law_353 dL_law_354 dL_law_355 dL_law_356 dL_law_357 ?_
  refine kcX5_moves S hw cvL_39 ⟨Nat.le_of_ble_eq_true rfl, Nat.le_of_ble_eq_true rfl⟩ g2 hl.1 (Nat.le_of_ble_eq_true rfl) dL_law_358 (fun H locs hw => ?_) hf
  refine lv_icmp_eq (tgt := 1070) S.1 S.2.1 dL_law_361 (by decide) (fun _ => ?_) (fun z => absurd rfl z)
  exact kk σ2 τ2 H locs hRR2 hw
set_option maxHeartbeats 4000000 in
set_option maxRecDepth 100000 in
theorem law_c6 {p : Program} {l : Launch} {e : Env} {s : State} {m : MethodId} {below : List Frame} {meth : Method} {c : Code} {b L : Nat} {xs : Nat → Int32} {E : kE} {cells slots : Nat} {Q : State → Prop} {H : Heap} {locs : List Loc} {ls : Array Slot} {i : Nat} {σ τ : kS} (S : CallFix p m c cL_law 4 s #[Value.ref b] kBIG RL) (hX : va_X b L xs s s.heap) (hL : L ≤ 384) (hbl : b < s.heap.size) (hge : ∀ k, k < 47 → s.heap.size ≤ ead E k) (hw : kWS E s (cmb σ τ) H locs) (hRR : RR σ τ) (hl : lv_has ls 4 [(0, .ref b), (1, .ref (ead E 0)), (2, .ref (ead E 26)), (3, .int (nI i))]) (hi : i + 6 ≤ L) (hf : cells ≤ room_1.cells ∧ slots ≤ room_1.slots)
    (kk : ∀ (σ2 τ2 : kS) (H1 : Heap) (locs1 : List Loc), RR σ2 τ2 → kWS E s (cmb σ2 τ2) H1 locs1 → W p l e room_1 s m #[Value.ref b] below meth c H1 locs1 cells slots Q (F0 m 1070 ls [])) : W p l e room_1 s m #[Value.ref b] below meth c H locs cells slots Q (F0 m 366 ls []) := by
  obtain ⟨r, σ2, τ2, g1, g2, hRR2⟩ := c_send (xs (i + 1)) σ τ hRR
  refine lv_aload_n S.1 S.2.1 dL_law_366 rfl (lv_at hl 1 rfl) ?_
  refine law_arg S hX hL hbl hge hw hl hi 1 (by omega) dL_law_367 dL_law_368 dL_law_369 dL_law_370 dL_law_371 ?_
  refine kcX4_send S hw cvL_40 ⟨Nat.le_of_ble_eq_true rfl, Nat.le_of_ble_eq_true rfl⟩ g1 hl.1 (Nat.le_of_ble_eq_true rfl) dL_law_372 (fun H locs hw => ?_) hf
  refine lv_aload_n S.1 S.2.1 dL_law_375 rfl (lv_at hl 2 rfl) ?_
  refine law_arg S hX hL hbl hge hw hl hi 1 (by omega) dL_law_376 dL_law_377 dL_law_378 dL_law_379 dL_law_380 ?_
  refine kcX5_send S hw cvL_43 ⟨Nat.le_of_ble_eq_true rfl, Nat.le_of_ble_eq_true rfl⟩ g2 hl.1 (Nat.le_of_ble_eq_true rfl) dL_law_381 (fun H locs hw => ?_) hf
  refine lv_icmp_eq (tgt := 1070) S.1 S.2.1 dL_law_384 (by decide) (fun _ => ?_) (fun z => absurd rfl z)
  exact kk σ2 τ2 H locs hRR2 hw
set_option maxHeartbeats 4000000 in
set_option maxRecDepth 100000 in
theorem law_c7 {p : Program} {l : Launch} {e : Env} {s : State} {m : MethodId} {below : List Frame} {meth : Method} {c : Code} {b L : Nat} {xs : Nat → Int32} {E : kE} {cells slots : Nat} {Q : State → Prop} {H : Heap} {locs : List Loc} {ls : Array Slot} {i : Nat} {σ τ : kS} (S : CallFix p m c cL_law 4 s #[Value.ref b] kBIG RL) (hX : va_X b L xs s s.heap) (hL : L ≤ 384) (hbl : b < s.heap.size) (hge : ∀ k, k < 47 → s.heap.size ≤ ead E k) (hw : kWS E s (cmb σ τ) H locs) (hRR : RR σ τ) (hl : lv_has ls 4 [(0, .ref b), (1, .ref (ead E 0)), (2, .ref (ead E 26)), (3, .int (nI i))]) (hi : i + 6 ≤ L) (hf : cells ≤ room_1.cells ∧ slots ≤ room_1.slots)
    (kk : ∀ (σ2 τ2 : kS) (H1 : Heap) (locs1 : List Loc), RR σ2 τ2 → kWS E s (cmb σ2 τ2) H1 locs1 → W p l e room_1 s m #[Value.ref b] below meth c H1 locs1 cells slots Q (F0 m 1070 ls [])) : W p l e room_1 s m #[Value.ref b] below meth c H locs cells slots Q (F0 m 389 ls []) := by
  obtain ⟨r, σ2, τ2, g1, g2, hRR2⟩ := c_comes (xs (i + 1)) σ τ hRR
  refine lv_aload_n S.1 S.2.1 dL_law_389 rfl (lv_at hl 1 rfl) ?_
  refine law_arg S hX hL hbl hge hw hl hi 1 (by omega) dL_law_390 dL_law_391 dL_law_392 dL_law_393 dL_law_394 ?_
  refine kcX4_comes S hw cvL_44 ⟨Nat.le_of_ble_eq_true rfl, Nat.le_of_ble_eq_true rfl⟩ g1 hl.1 (Nat.le_of_ble_eq_true rfl) dL_law_395 (fun H locs hw => ?_) hf
  refine lv_aload_n S.1 S.2.1 dL_law_398 rfl (lv_at hl 2 rfl) ?_
  refine law_arg S hX hL hbl hge hw hl hi 1 (by omega) dL_law_399 dL_law_400 dL_law_401 dL_law_402 dL_law_403 ?_
  refine kcX5_comes S hw cvL_47 ⟨Nat.le_of_ble_eq_true rfl, Nat.le_of_ble_eq_true rfl⟩ g2 hl.1 (Nat.le_of_ble_eq_true rfl) dL_law_404 (fun H locs hw => ?_) hf
  refine lv_icmp_eq (tgt := 1070) S.1 S.2.1 dL_law_407 (by decide) (fun _ => ?_) (fun z => absurd rfl z)
  exact kk σ2 τ2 H locs hRR2 hw
set_option maxHeartbeats 4000000 in
set_option maxRecDepth 100000 in
theorem law_c8 {p : Program} {l : Launch} {e : Env} {s : State} {m : MethodId} {below : List Frame} {meth : Method} {c : Code} {b L : Nat} {xs : Nat → Int32} {E : kE} {cells slots : Nat} {Q : State → Prop} {H : Heap} {locs : List Loc} {ls : Array Slot} {i : Nat} {σ τ : kS} (S : CallFix p m c cL_law 4 s #[Value.ref b] kBIG RL) (hX : va_X b L xs s s.heap) (hL : L ≤ 384) (hbl : b < s.heap.size) (hge : ∀ k, k < 47 → s.heap.size ≤ ead E k) (hw : kWS E s (cmb σ τ) H locs) (hRR : RR σ τ) (hl : lv_has ls 4 [(0, .ref b), (1, .ref (ead E 0)), (2, .ref (ead E 26)), (3, .int (nI i))]) (hi : i + 6 ≤ L) (hf : cells ≤ room_1.cells ∧ slots ≤ room_1.slots)
    (kk : ∀ (σ2 τ2 : kS) (H1 : Heap) (locs1 : List Loc), RR σ2 τ2 → kWS E s (cmb σ2 τ2) H1 locs1 → W p l e room_1 s m #[Value.ref b] below meth c H1 locs1 cells slots Q (F0 m 1070 ls [])) : W p l e room_1 s m #[Value.ref b] below meth c H locs cells slots Q (F0 m 412 ls []) := by
  obtain ⟨r, σ2, τ2, g1, g2, hRR2⟩ := c_round (xs (i + 1)) (xs (i + 2)) (xs (i + 3)) (xs (i + 4)) (xs (i + 5)) σ τ hRR
  refine lv_aload_n S.1 S.2.1 dL_law_412 rfl (lv_at hl 1 rfl) ?_
  refine law_arg S hX hL hbl hge hw hl hi 1 (by omega) dL_law_413 dL_law_414 dL_law_415 dL_law_416 dL_law_417 ?_
  refine law_arg S hX hL hbl hge hw hl hi 2 (by omega) dL_law_418 dL_law_419 dL_law_420 dL_law_421 dL_law_422 ?_
  refine law_arg S hX hL hbl hge hw hl hi 3 (by omega) dL_law_423 dL_law_424 dL_law_425 dL_law_426 dL_law_427 ?_
  refine law_arg S hX hL hbl hge hw hl hi 4 (by omega) dL_law_428 dL_law_429 dL_law_430 dL_law_431 dL_law_432 ?_
  refine law_arg S hX hL hbl hge hw hl hi 5 (by omega) dL_law_433 dL_law_434 dL_law_435 dL_law_436 dL_law_437 ?_
  refine kcX4_round S hw cvL_48 ⟨Nat.le_of_ble_eq_true rfl, Nat.le_of_ble_eq_true rfl⟩ g1 hl.1 (Nat.le_of_ble_eq_true rfl) dL_law_438 (fun H locs hw => ?_) hf
  refine lv_aload_n S.1 S.2.1 dL_law_441 rfl (lv_at hl 2 rfl) ?_
  refine law_arg S hX hL hbl hge hw hl hi 1 (by omega) dL_law_442 dL_law_443 dL_law_444 dL_law_445 dL_law_446 ?_
  refine law_arg S hX hL hbl hge hw hl hi 2 (by omega) dL_law_447 dL_law_448 dL_law_449 dL_law_450 dL_law_451 ?_
  refine law_arg S hX hL hbl hge hw hl hi 3 (by omega) dL_law_452 dL_law_453 dL_law_454 dL_law_455 dL_law_456 ?_
  refine law_arg S hX hL hbl hge hw hl hi 4 (by omega) dL_law_457 dL_law_458 dL_law_459 dL_law_460 dL_law_461 ?_
  refine law_arg S hX hL hbl hge hw hl hi 5 (by omega) dL_law_462 dL_law_463 dL_law_464 dL_law_465 dL_law_466 ?_
  refine kcX5_round S hw cvL_52 ⟨Nat.le_of_ble_eq_true rfl, Nat.le_of_ble_eq_true rfl⟩ g2 hl.1 (Nat.le_of_ble_eq_true rfl) dL_law_467 (fun H locs hw => ?_) hf
  refine lv_icmp_eq (tgt := 1070) S.1 S.2.1 dL_law_470 (by decide) (fun _ => ?_) (fun z => absurd rfl z)
  exact kk σ2 τ2 H locs hRR2 hw
set_option maxHeartbeats 4000000 in
set_option maxRecDepth 100000 in
theorem law_c9 {p : Program} {l : Launch} {e : Env} {s : State} {m : MethodId} {below : List Frame} {meth : Method} {c : Code} {b L : Nat} {xs : Nat → Int32} {E : kE} {cells slots : Nat} {Q : State → Prop} {H : Heap} {locs : List Loc} {ls : Array Slot} {i : Nat} {σ τ : kS} (S : CallFix p m c cL_law 4 s #[Value.ref b] kBIG RL) (hX : va_X b L xs s s.heap) (hL : L ≤ 384) (hbl : b < s.heap.size) (hge : ∀ k, k < 47 → s.heap.size ≤ ead E k) (hw : kWS E s (cmb σ τ) H locs) (hRR : RR σ τ) (hl : lv_has ls 4 [(0, .ref b), (1, .ref (ead E 0)), (2, .ref (ead E 26)), (3, .int (nI i))]) (hi : i + 6 ≤ L) (hf : cells ≤ room_1.cells ∧ slots ≤ room_1.slots)
    (kk : ∀ (σ2 τ2 : kS) (H1 : Heap) (locs1 : List Loc), RR σ2 τ2 → kWS E s (cmb σ2 τ2) H1 locs1 → W p l e room_1 s m #[Value.ref b] below meth c H1 locs1 cells slots Q (F0 m 1070 ls [])) : W p l e room_1 s m #[Value.ref b] below meth c H locs cells slots Q (F0 m 475 ls []) := by
  obtain ⟨r, σ2, τ2, g1, g2, hRR2⟩ := c_strict (xs (i + 1)) σ τ hRR
  refine lv_aload_n S.1 S.2.1 dL_law_475 rfl (lv_at hl 1 rfl) ?_
  refine law_arg S hX hL hbl hge hw hl hi 1 (by omega) dL_law_476 dL_law_477 dL_law_478 dL_law_479 dL_law_480 ?_
  refine kcX4_strict S hw cvL_53 ⟨Nat.le_of_ble_eq_true rfl, Nat.le_of_ble_eq_true rfl⟩ g1 hl.1 (Nat.le_of_ble_eq_true rfl) dL_law_481 (fun H locs hw => ?_) hf
  refine lv_aload_n S.1 S.2.1 dL_law_484 rfl (lv_at hl 2 rfl) ?_
  refine law_arg S hX hL hbl hge hw hl hi 1 (by omega) dL_law_485 dL_law_486 dL_law_487 dL_law_488 dL_law_489 ?_
  refine kcX5_strict S hw cvL_56 ⟨Nat.le_of_ble_eq_true rfl, Nat.le_of_ble_eq_true rfl⟩ g2 hl.1 (Nat.le_of_ble_eq_true rfl) dL_law_490 (fun H locs hw => ?_) hf
  refine lv_icmp_eq (tgt := 1070) S.1 S.2.1 dL_law_493 (by decide) (fun _ => ?_) (fun z => absurd rfl z)
  exact kk σ2 τ2 H locs hRR2 hw
set_option maxHeartbeats 4000000 in
set_option maxRecDepth 100000 in
theorem law_c10 {p : Program} {l : Launch} {e : Env} {s : State} {m : MethodId} {below : List Frame} {meth : Method} {c : Code} {b L : Nat} {xs : Nat → Int32} {E : kE} {cells slots : Nat} {Q : State → Prop} {H : Heap} {locs : List Loc} {ls : Array Slot} {i : Nat} {σ τ : kS} (S : CallFix p m c cL_law 4 s #[Value.ref b] kBIG RL) (hX : va_X b L xs s s.heap) (hL : L ≤ 384) (hbl : b < s.heap.size) (hge : ∀ k, k < 47 → s.heap.size ≤ ead E k) (hw : kWS E s (cmb σ τ) H locs) (hRR : RR σ τ) (hl : lv_has ls 4 [(0, .ref b), (1, .ref (ead E 0)), (2, .ref (ead E 26)), (3, .int (nI i))]) (hi : i + 6 ≤ L) (hf : cells ≤ room_1.cells ∧ slots ≤ room_1.slots)
    (kk : ∀ (σ2 τ2 : kS) (H1 : Heap) (locs1 : List Loc), RR σ2 τ2 → kWS E s (cmb σ2 τ2) H1 locs1 → W p l e room_1 s m #[Value.ref b] below meth c H1 locs1 cells slots Q (F0 m 1070 ls [])) : W p l e room_1 s m #[Value.ref b] below meth c H locs cells slots Q (F0 m 498 ls []) := by
  obtain ⟨r, σ2, τ2, g1, g2, hRR2⟩ := c_site (xs (i + 1)) σ τ hRR
  refine lv_aload_n S.1 S.2.1 dL_law_498 rfl (lv_at hl 1 rfl) ?_
  refine law_arg S hX hL hbl hge hw hl hi 1 (by omega) dL_law_499 dL_law_500 dL_law_501 dL_law_502 dL_law_503 ?_
  refine kcX4_site S hw cvL_57 ⟨Nat.le_of_ble_eq_true rfl, Nat.le_of_ble_eq_true rfl⟩ g1 hl.1 (Nat.le_of_ble_eq_true rfl) dL_law_504 (fun H locs hw => ?_) hf
  refine lv_aload_n S.1 S.2.1 dL_law_507 rfl (lv_at hl 2 rfl) ?_
  refine law_arg S hX hL hbl hge hw hl hi 1 (by omega) dL_law_508 dL_law_509 dL_law_510 dL_law_511 dL_law_512 ?_
  refine kcX5_site S hw cvL_60 ⟨Nat.le_of_ble_eq_true rfl, Nat.le_of_ble_eq_true rfl⟩ g2 hl.1 (Nat.le_of_ble_eq_true rfl) dL_law_513 (fun H locs hw => ?_) hf
  refine lv_icmp_eq (tgt := 1070) S.1 S.2.1 dL_law_516 (by decide) (fun _ => ?_) (fun z => absurd rfl z)
  exact kk σ2 τ2 H locs hRR2 hw
set_option maxHeartbeats 4000000 in
set_option maxRecDepth 100000 in
theorem law_c11 {p : Program} {l : Launch} {e : Env} {s : State} {m : MethodId} {below : List Frame} {meth : Method} {c : Code} {b L : Nat} {xs : Nat → Int32} {E : kE} {cells slots : Nat} {Q : State → Prop} {H : Heap} {locs : List Loc} {ls : Array Slot} {i : Nat} {σ τ : kS} (S : CallFix p m c cL_law 4 s #[Value.ref b] kBIG RL) (hX : va_X b L xs s s.heap) (hL : L ≤ 384) (hbl : b < s.heap.size) (hge : ∀ k, k < 47 → s.heap.size ≤ ead E k) (hw : kWS E s (cmb σ τ) H locs) (hRR : RR σ τ) (hl : lv_has ls 4 [(0, .ref b), (1, .ref (ead E 0)), (2, .ref (ead E 26)), (3, .int (nI i))]) (hi : i + 6 ≤ L) (hf : cells ≤ room_1.cells ∧ slots ≤ room_1.slots)
    (kk : ∀ (σ2 τ2 : kS) (H1 : Heap) (locs1 : List Loc), RR σ2 τ2 → kWS E s (cmb σ2 τ2) H1 locs1 → W p l e room_1 s m #[Value.ref b] below meth c H1 locs1 cells slots Q (F0 m 1070 ls [])) : W p l e room_1 s m #[Value.ref b] below meth c H locs cells slots Q (F0 m 521 ls []) := by
  obtain ⟨r, σ2, τ2, g1, g2, hRR2⟩ := c_order (xs (i + 1)) σ τ hRR
  refine lv_aload_n S.1 S.2.1 dL_law_521 rfl (lv_at hl 1 rfl) ?_
  refine law_arg S hX hL hbl hge hw hl hi 1 (by omega) dL_law_522 dL_law_523 dL_law_524 dL_law_525 dL_law_526 ?_
  refine kcX4_order S hw cvL_61 ⟨Nat.le_of_ble_eq_true rfl, Nat.le_of_ble_eq_true rfl⟩ g1 hl.1 (Nat.le_of_ble_eq_true rfl) dL_law_527 (fun H locs hw => ?_) hf
  refine lv_aload_n S.1 S.2.1 dL_law_530 rfl (lv_at hl 2 rfl) ?_
  refine law_arg S hX hL hbl hge hw hl hi 1 (by omega) dL_law_531 dL_law_532 dL_law_533 dL_law_534 dL_law_535 ?_
  refine kcX5_order S hw cvL_64 ⟨Nat.le_of_ble_eq_true rfl, Nat.le_of_ble_eq_true rfl⟩ g2 hl.1 (Nat.le_of_ble_eq_true rfl) dL_law_536 (fun H locs hw => ?_) hf
  refine lv_icmp_eq (tgt := 1070) S.1 S.2.1 dL_law_539 (by decide) (fun _ => ?_) (fun z => absurd rfl z)
  exact kk σ2 τ2 H locs hRR2 hw
set_option maxHeartbeats 4000000 in
set_option maxRecDepth 100000 in
theorem law_c12 {p : Program} {l : Launch} {e : Env} {s : State} {m : MethodId} {below : List Frame} {meth : Method} {c : Code} {b L : Nat} {xs : Nat → Int32} {E : kE} {cells slots : Nat} {Q : State → Prop} {H : Heap} {locs : List Loc} {ls : Array Slot} {i : Nat} {σ τ : kS} (S : CallFix p m c cL_law 4 s #[Value.ref b] kBIG RL) (hX : va_X b L xs s s.heap) (hL : L ≤ 384) (hbl : b < s.heap.size) (hge : ∀ k, k < 47 → s.heap.size ≤ ead E k) (hw : kWS E s (cmb σ τ) H locs) (hRR : RR σ τ) (hl : lv_has ls 4 [(0, .ref b), (1, .ref (ead E 0)), (2, .ref (ead E 26)), (3, .int (nI i))]) (hi : i + 6 ≤ L) (hf : cells ≤ room_1.cells ∧ slots ≤ room_1.slots)
    (kk : ∀ (σ2 τ2 : kS) (H1 : Heap) (locs1 : List Loc), RR σ2 τ2 → kWS E s (cmb σ2 τ2) H1 locs1 → W p l e room_1 s m #[Value.ref b] below meth c H1 locs1 cells slots Q (F0 m 1070 ls [])) : W p l e room_1 s m #[Value.ref b] below meth c H locs cells slots Q (F0 m 544 ls []) := by
  obtain ⟨r, σ2, τ2, g1, g2, hRR2⟩ := c_ahead (xs (i + 1)) σ τ hRR
  refine lv_aload_n S.1 S.2.1 dL_law_544 rfl (lv_at hl 1 rfl) ?_
  refine law_arg S hX hL hbl hge hw hl hi 1 (by omega) dL_law_545 dL_law_546 dL_law_547 dL_law_548 dL_law_549 ?_
  refine kcX4_ahead S hw cvL_65 ⟨Nat.le_of_ble_eq_true rfl, Nat.le_of_ble_eq_true rfl⟩ g1 hl.1 (Nat.le_of_ble_eq_true rfl) dL_law_550 (fun H locs hw => ?_) hf
  refine lv_aload_n S.1 S.2.1 dL_law_553 rfl (lv_at hl 2 rfl) ?_
  refine law_arg S hX hL hbl hge hw hl hi 1 (by omega) dL_law_554 dL_law_555 dL_law_556 dL_law_557 dL_law_558 ?_
  refine kcX5_ahead S hw cvL_68 ⟨Nat.le_of_ble_eq_true rfl, Nat.le_of_ble_eq_true rfl⟩ g2 hl.1 (Nat.le_of_ble_eq_true rfl) dL_law_559 (fun H locs hw => ?_) hf
  refine lv_icmp_eq (tgt := 1070) S.1 S.2.1 dL_law_562 (by decide) (fun _ => ?_) (fun z => absurd rfl z)
  exact kk σ2 τ2 H locs hRR2 hw
set_option maxHeartbeats 4000000 in
set_option maxRecDepth 100000 in
theorem law_c13 {p : Program} {l : Launch} {e : Env} {s : State} {m : MethodId} {below : List Frame} {meth : Method} {c : Code} {b L : Nat} {xs : Nat → Int32} {E : kE} {cells slots : Nat} {Q : State → Prop} {H : Heap} {locs : List Loc} {ls : Array Slot} {i : Nat} {σ τ : kS} (S : CallFix p m c cL_law 4 s #[Value.ref b] kBIG RL) (hX : va_X b L xs s s.heap) (hL : L ≤ 384) (hbl : b < s.heap.size) (hge : ∀ k, k < 47 → s.heap.size ≤ ead E k) (hw : kWS E s (cmb σ τ) H locs) (hRR : RR σ τ) (hl : lv_has ls 4 [(0, .ref b), (1, .ref (ead E 0)), (2, .ref (ead E 26)), (3, .int (nI i))]) (hi : i + 6 ≤ L) (hf : cells ≤ room_1.cells ∧ slots ≤ room_1.slots)
    (kk : ∀ (σ2 τ2 : kS) (H1 : Heap) (locs1 : List Loc), RR σ2 τ2 → kWS E s (cmb σ2 τ2) H1 locs1 → W p l e room_1 s m #[Value.ref b] below meth c H1 locs1 cells slots Q (F0 m 1070 ls [])) : W p l e room_1 s m #[Value.ref b] below meth c H locs cells slots Q (F0 m 567 ls []) := by
  obtain ⟨r, σ2, τ2, g1, g2, hRR2⟩ := c_reading (xs (i + 1)) (xs (i + 2)) σ τ hRR
  refine lv_aload_n S.1 S.2.1 dL_law_567 rfl (lv_at hl 1 rfl) ?_
  refine law_arg S hX hL hbl hge hw hl hi 1 (by omega) dL_law_568 dL_law_569 dL_law_570 dL_law_571 dL_law_572 ?_
  refine law_arg S hX hL hbl hge hw hl hi 2 (by omega) dL_law_573 dL_law_574 dL_law_575 dL_law_576 dL_law_577 ?_
  refine kcX4_reading S hw cvL_69 ⟨Nat.le_of_ble_eq_true rfl, Nat.le_of_ble_eq_true rfl⟩ g1 hl.1 (Nat.le_of_ble_eq_true rfl) dL_law_578 (fun H locs hw => ?_) hf
  refine lv_aload_n S.1 S.2.1 dL_law_581 rfl (lv_at hl 2 rfl) ?_
  refine law_arg S hX hL hbl hge hw hl hi 1 (by omega) dL_law_582 dL_law_583 dL_law_584 dL_law_585 dL_law_586 ?_
  refine law_arg S hX hL hbl hge hw hl hi 2 (by omega) dL_law_587 dL_law_588 dL_law_589 dL_law_590 dL_law_591 ?_
  refine kcX5_reading S hw cvL_72 ⟨Nat.le_of_ble_eq_true rfl, Nat.le_of_ble_eq_true rfl⟩ g2 hl.1 (Nat.le_of_ble_eq_true rfl) dL_law_592 (fun H locs hw => ?_) hf
  refine lv_icmp_eq (tgt := 1070) S.1 S.2.1 dL_law_595 (by decide) (fun _ => ?_) (fun z => absurd rfl z)
  exact kk σ2 τ2 H locs hRR2 hw
set_option maxHeartbeats 4000000 in
set_option maxRecDepth 100000 in
theorem law_c14 {p : Program} {l : Launch} {e : Env} {s : State} {m : MethodId} {below : List Frame} {meth : Method} {c : Code} {b L : Nat} {xs : Nat → Int32} {E : kE} {cells slots : Nat} {Q : State → Prop} {H : Heap} {locs : List Loc} {ls : Array Slot} {i : Nat} {σ τ : kS} (S : CallFix p m c cL_law 4 s #[Value.ref b] kBIG RL) (hX : va_X b L xs s s.heap) (hL : L ≤ 384) (hbl : b < s.heap.size) (hge : ∀ k, k < 47 → s.heap.size ≤ ead E k) (hw : kWS E s (cmb σ τ) H locs) (hRR : RR σ τ) (hl : lv_has ls 4 [(0, .ref b), (1, .ref (ead E 0)), (2, .ref (ead E 26)), (3, .int (nI i))]) (hi : i + 6 ≤ L) (hf : cells ≤ room_1.cells ∧ slots ≤ room_1.slots)
    (kk : ∀ (σ2 τ2 : kS) (H1 : Heap) (locs1 : List Loc), RR σ2 τ2 → kWS E s (cmb σ2 τ2) H1 locs1 → W p l e room_1 s m #[Value.ref b] below meth c H1 locs1 cells slots Q (F0 m 1070 ls [])) : W p l e room_1 s m #[Value.ref b] below meth c H locs cells slots Q (F0 m 600 ls []) := by
  obtain ⟨r, σ2, τ2, g1, g2, hRR2⟩ := c_back (xs (i + 1)) σ τ hRR
  refine lv_aload_n S.1 S.2.1 dL_law_600 rfl (lv_at hl 1 rfl) ?_
  refine law_arg S hX hL hbl hge hw hl hi 1 (by omega) dL_law_601 dL_law_602 dL_law_603 dL_law_604 dL_law_605 ?_
  refine kcX4_back S hw cvL_73 ⟨Nat.le_of_ble_eq_true rfl, Nat.le_of_ble_eq_true rfl⟩ g1 hl.1 (Nat.le_of_ble_eq_true rfl) dL_law_606 (fun H locs hw => ?_) hf
  refine lv_aload_n S.1 S.2.1 dL_law_609 rfl (lv_at hl 2 rfl) ?_
  refine law_arg S hX hL hbl hge hw hl hi 1 (by omega) dL_law_610 dL_law_611 dL_law_612 dL_law_613 dL_law_614 ?_
  refine kcX5_back S hw cvL_76 ⟨Nat.le_of_ble_eq_true rfl, Nat.le_of_ble_eq_true rfl⟩ g2 hl.1 (Nat.le_of_ble_eq_true rfl) dL_law_615 (fun H locs hw => ?_) hf
  refine lv_icmp_eq (tgt := 1070) S.1 S.2.1 dL_law_618 (by decide) (fun _ => ?_) (fun z => absurd rfl z)
  exact kk σ2 τ2 H locs hRR2 hw
set_option maxHeartbeats 4000000 in
set_option maxRecDepth 100000 in
theorem law_c15 {p : Program} {l : Launch} {e : Env} {s : State} {m : MethodId} {below : List Frame} {meth : Method} {c : Code} {b L : Nat} {xs : Nat → Int32} {E : kE} {cells slots : Nat} {Q : State → Prop} {H : Heap} {locs : List Loc} {ls : Array Slot} {i : Nat} {σ τ : kS} (S : CallFix p m c cL_law 4 s #[Value.ref b] kBIG RL) (hX : va_X b L xs s s.heap) (hL : L ≤ 384) (hbl : b < s.heap.size) (hge : ∀ k, k < 47 → s.heap.size ≤ ead E k) (hw : kWS E s (cmb σ τ) H locs) (hRR : RR σ τ) (hl : lv_has ls 4 [(0, .ref b), (1, .ref (ead E 0)), (2, .ref (ead E 26)), (3, .int (nI i))]) (hi : i + 6 ≤ L) (hf : cells ≤ room_1.cells ∧ slots ≤ room_1.slots)
    (kk : ∀ (σ2 τ2 : kS) (H1 : Heap) (locs1 : List Loc), RR σ2 τ2 → kWS E s (cmb σ2 τ2) H1 locs1 → W p l e room_1 s m #[Value.ref b] below meth c H1 locs1 cells slots Q (F0 m 1070 ls [])) : W p l e room_1 s m #[Value.ref b] below meth c H locs cells slots Q (F0 m 623 ls []) := by
  obtain ⟨r, σ2, τ2, g1, g2, hRR2⟩ := c_smells (xs (i + 1)) σ τ hRR
  refine lv_aload_n S.1 S.2.1 dL_law_623 rfl (lv_at hl 1 rfl) ?_
  refine law_arg S hX hL hbl hge hw hl hi 1 (by omega) dL_law_624 dL_law_625 dL_law_626 dL_law_627 dL_law_628 ?_
  refine kcX4_smells S hw cvL_77 ⟨Nat.le_of_ble_eq_true rfl, Nat.le_of_ble_eq_true rfl⟩ g1 hl.1 (Nat.le_of_ble_eq_true rfl) dL_law_629 (fun H locs hw => ?_) hf
  refine lv_aload_n S.1 S.2.1 dL_law_632 rfl (lv_at hl 2 rfl) ?_
  refine law_arg S hX hL hbl hge hw hl hi 1 (by omega) dL_law_633 dL_law_634 dL_law_635 dL_law_636 dL_law_637 ?_
  refine kcX5_smells S hw cvL_80 ⟨Nat.le_of_ble_eq_true rfl, Nat.le_of_ble_eq_true rfl⟩ g2 hl.1 (Nat.le_of_ble_eq_true rfl) dL_law_638 (fun H locs hw => ?_) hf
  refine lv_icmp_eq (tgt := 1070) S.1 S.2.1 dL_law_641 (by decide) (fun _ => ?_) (fun z => absurd rfl z)
  exact kk σ2 τ2 H locs hRR2 hw
set_option maxHeartbeats 4000000 in
set_option maxRecDepth 100000 in
theorem law_c16 {p : Program} {l : Launch} {e : Env} {s : State} {m : MethodId} {below : List Frame} {meth : Method} {c : Code} {b L : Nat} {xs : Nat → Int32} {E : kE} {cells slots : Nat} {Q : State → Prop} {H : Heap} {locs : List Loc} {ls : Array Slot} {i : Nat} {σ τ : kS} (S : CallFix p m c cL_law 4 s #[Value.ref b] kBIG RL) (hX : va_X b L xs s s.heap) (hL : L ≤ 384) (hbl : b < s.heap.size) (hge : ∀ k, k < 47 → s.heap.size ≤ ead E k) (hw : kWS E s (cmb σ τ) H locs) (hRR : RR σ τ) (hl : lv_has ls 4 [(0, .ref b), (1, .ref (ead E 0)), (2, .ref (ead E 26)), (3, .int (nI i))]) (hi : i + 6 ≤ L) (hf : cells ≤ room_1.cells ∧ slots ≤ room_1.slots)
    (kk : ∀ (σ2 τ2 : kS) (H1 : Heap) (locs1 : List Loc), RR σ2 τ2 → kWS E s (cmb σ2 τ2) H1 locs1 → W p l e room_1 s m #[Value.ref b] below meth c H1 locs1 cells slots Q (F0 m 1070 ls [])) : W p l e room_1 s m #[Value.ref b] below meth c H locs cells slots Q (F0 m 646 ls []) := by
  obtain ⟨r, σ2, τ2, g1, g2, hRR2⟩ := c_pasts (xs (i + 1)) σ τ hRR
  refine lv_aload_n S.1 S.2.1 dL_law_646 rfl (lv_at hl 1 rfl) ?_
  refine law_arg S hX hL hbl hge hw hl hi 1 (by omega) dL_law_647 dL_law_648 dL_law_649 dL_law_650 dL_law_651 ?_
  refine kcX4_pasts S hw cvL_81 ⟨Nat.le_of_ble_eq_true rfl, Nat.le_of_ble_eq_true rfl⟩ g1 hl.1 (Nat.le_of_ble_eq_true rfl) dL_law_652 (fun H locs hw => ?_) hf
  refine lv_aload_n S.1 S.2.1 dL_law_655 rfl (lv_at hl 2 rfl) ?_
  refine law_arg S hX hL hbl hge hw hl hi 1 (by omega) dL_law_656 dL_law_657 dL_law_658 dL_law_659 dL_law_660 ?_
  refine kcX5_pasts S hw cvL_84 ⟨Nat.le_of_ble_eq_true rfl, Nat.le_of_ble_eq_true rfl⟩ g2 hl.1 (Nat.le_of_ble_eq_true rfl) dL_law_661 (fun H locs hw => ?_) hf
  refine lv_icmp_eq (tgt := 1070) S.1 S.2.1 dL_law_664 (by decide) (fun _ => ?_) (fun z => absurd rfl z)
  exact kk σ2 τ2 H locs hRR2 hw
set_option maxHeartbeats 4000000 in
set_option maxRecDepth 100000 in
theorem law_c17 {p : Program} {l : Launch} {e : Env} {s : State} {m : MethodId} {below : List Frame} {meth : Method} {c : Code} {b L : Nat} {xs : Nat → Int32} {E : kE} {cells slots : Nat} {Q : State → Prop} {H : Heap} {locs : List Loc} {ls : Array Slot} {i : Nat} {σ τ : kS} (S : CallFix p m c cL_law 4 s #[Value.ref b] kBIG RL) (hX : va_X b L xs s s.heap) (hL : L ≤ 384) (hbl : b < s.heap.size) (hge : ∀ k, k < 47 → s.heap.size ≤ ead E k) (hw : kWS E s (cmb σ τ) H locs) (hRR : RR σ τ) (hl : lv_has ls 4 [(0, .ref b), (1, .ref (ead E 0)), (2, .ref (ead E 26)), (3, .int (nI i))]) (hi : i + 6 ≤ L) (hf : cells ≤ room_1.cells ∧ slots ≤ room_1.slots)
    (kk : ∀ (σ2 τ2 : kS) (H1 : Heap) (locs1 : List Loc), RR σ2 τ2 → kWS E s (cmb σ2 τ2) H1 locs1 → W p l e room_1 s m #[Value.ref b] below meth c H1 locs1 cells slots Q (F0 m 1070 ls [])) : W p l e room_1 s m #[Value.ref b] below meth c H locs cells slots Q (F0 m 669 ls []) := by
  obtain ⟨r, σ2, τ2, g1, g2, hRR2⟩ := c_kinds (xs (i + 1)) σ τ hRR
  refine lv_aload_n S.1 S.2.1 dL_law_669 rfl (lv_at hl 1 rfl) ?_
  refine law_arg S hX hL hbl hge hw hl hi 1 (by omega) dL_law_670 dL_law_671 dL_law_672 dL_law_673 dL_law_674 ?_
  refine kcX4_kinds S hw cvL_85 ⟨Nat.le_of_ble_eq_true rfl, Nat.le_of_ble_eq_true rfl⟩ g1 hl.1 (Nat.le_of_ble_eq_true rfl) dL_law_675 (fun H locs hw => ?_) hf
  refine lv_aload_n S.1 S.2.1 dL_law_678 rfl (lv_at hl 2 rfl) ?_
  refine law_arg S hX hL hbl hge hw hl hi 1 (by omega) dL_law_679 dL_law_680 dL_law_681 dL_law_682 dL_law_683 ?_
  refine kcX5_kinds S hw cvL_88 ⟨Nat.le_of_ble_eq_true rfl, Nat.le_of_ble_eq_true rfl⟩ g2 hl.1 (Nat.le_of_ble_eq_true rfl) dL_law_684 (fun H locs hw => ?_) hf
  refine lv_icmp_eq (tgt := 1070) S.1 S.2.1 dL_law_687 (by decide) (fun _ => ?_) (fun z => absurd rfl z)
  exact kk σ2 τ2 H locs hRR2 hw
set_option maxHeartbeats 4000000 in
set_option maxRecDepth 100000 in
theorem law_c18 {p : Program} {l : Launch} {e : Env} {s : State} {m : MethodId} {below : List Frame} {meth : Method} {c : Code} {b L : Nat} {xs : Nat → Int32} {E : kE} {cells slots : Nat} {Q : State → Prop} {H : Heap} {locs : List Loc} {ls : Array Slot} {i : Nat} {σ τ : kS} (S : CallFix p m c cL_law 4 s #[Value.ref b] kBIG RL) (hX : va_X b L xs s s.heap) (hL : L ≤ 384) (hbl : b < s.heap.size) (hge : ∀ k, k < 47 → s.heap.size ≤ ead E k) (hw : kWS E s (cmb σ τ) H locs) (hRR : RR σ τ) (hl : lv_has ls 4 [(0, .ref b), (1, .ref (ead E 0)), (2, .ref (ead E 26)), (3, .int (nI i))]) (hi : i + 6 ≤ L) (hf : cells ≤ room_1.cells ∧ slots ≤ room_1.slots)
    (kk : ∀ (σ2 τ2 : kS) (H1 : Heap) (locs1 : List Loc), RR σ2 τ2 → kWS E s (cmb σ2 τ2) H1 locs1 → W p l e room_1 s m #[Value.ref b] below meth c H1 locs1 cells slots Q (F0 m 1070 ls [])) : W p l e room_1 s m #[Value.ref b] below meth c H locs cells slots Q (F0 m 692 ls []) := by
  obtain ⟨r, σ2, τ2, g1, g2, hRR2⟩ := c_odds (xs (i + 1)) (xs (i + 2)) σ τ hRR
  refine lv_aload_n S.1 S.2.1 dL_law_692 rfl (lv_at hl 1 rfl) ?_
  refine law_arg S hX hL hbl hge hw hl hi 1 (by omega) dL_law_693 dL_law_694 dL_law_695 dL_law_696 dL_law_697 ?_
  refine law_arg S hX hL hbl hge hw hl hi 2 (by omega) dL_law_698 dL_law_699 dL_law_700 dL_law_701 dL_law_702 ?_
  refine kcX4_odds S hw cvL_89 ⟨Nat.le_of_ble_eq_true rfl, Nat.le_of_ble_eq_true rfl⟩ g1 hl.1 (Nat.le_of_ble_eq_true rfl) dL_law_703 (fun H locs hw => ?_) hf
  refine lv_aload_n S.1 S.2.1 dL_law_706 rfl (lv_at hl 2 rfl) ?_
  refine law_arg S hX hL hbl hge hw hl hi 1 (by omega) dL_law_707 dL_law_708 dL_law_709 dL_law_710 dL_law_711 ?_
  refine law_arg S hX hL hbl hge hw hl hi 2 (by omega) dL_law_712 dL_law_713 dL_law_714 dL_law_715 dL_law_716 ?_
  refine kcX5_odds S hw cvL_93 ⟨Nat.le_of_ble_eq_true rfl, Nat.le_of_ble_eq_true rfl⟩ g2 hl.1 (Nat.le_of_ble_eq_true rfl) dL_law_717 (fun H locs hw => ?_) hf
  refine W.lcmp S.1 S.2.1 dL_law_720 ?_
  refine lv_if_eq (tgt := 1070) S.1 S.2.1 dL_law_721 (by decide) (fun _ => ?_) (fun z => absurd (lgc_self _) z)
  exact kk σ2 τ2 H locs hRR2 hw
set_option maxHeartbeats 4000000 in
set_option maxRecDepth 100000 in
theorem law_c19 {p : Program} {l : Launch} {e : Env} {s : State} {m : MethodId} {below : List Frame} {meth : Method} {c : Code} {b L : Nat} {xs : Nat → Int32} {E : kE} {cells slots : Nat} {Q : State → Prop} {H : Heap} {locs : List Loc} {ls : Array Slot} {i : Nat} {σ τ : kS} (S : CallFix p m c cL_law 4 s #[Value.ref b] kBIG RL) (hX : va_X b L xs s s.heap) (hL : L ≤ 384) (hbl : b < s.heap.size) (hge : ∀ k, k < 47 → s.heap.size ≤ ead E k) (hw : kWS E s (cmb σ τ) H locs) (hRR : RR σ τ) (hl : lv_has ls 4 [(0, .ref b), (1, .ref (ead E 0)), (2, .ref (ead E 26)), (3, .int (nI i))]) (hi : i + 6 ≤ L) (hf : cells ≤ room_1.cells ∧ slots ≤ room_1.slots)
    (kk : ∀ (σ2 τ2 : kS) (H1 : Heap) (locs1 : List Loc), RR σ2 τ2 → kWS E s (cmb σ2 τ2) H1 locs1 → W p l e room_1 s m #[Value.ref b] below meth c H1 locs1 cells slots Q (F0 m 1070 ls [])) : W p l e room_1 s m #[Value.ref b] below meth c H locs cells slots Q (F0 m 726 ls []) := by
  obtain ⟨r, σ2, τ2, g1, g2, hRR2⟩ := c_sheet (xs (i + 1)) (xs (i + 2)) (xs (i + 3)) σ τ hRR
  refine lv_aload_n S.1 S.2.1 dL_law_726 rfl (lv_at hl 1 rfl) ?_
  refine law_arg S hX hL hbl hge hw hl hi 1 (by omega) dL_law_727 dL_law_728 dL_law_729 dL_law_730 dL_law_731 ?_
  refine law_arg S hX hL hbl hge hw hl hi 2 (by omega) dL_law_732 dL_law_733 dL_law_734 dL_law_735 dL_law_736 ?_
  refine law_arg S hX hL hbl hge hw hl hi 3 (by omega) dL_law_737 dL_law_738 dL_law_739 dL_law_740 dL_law_741 ?_
  refine kcX4_sheet S hw cvL_94 ⟨Nat.le_of_ble_eq_true rfl, Nat.le_of_ble_eq_true rfl⟩ g1 hl.1 (Nat.le_of_ble_eq_true rfl) dL_law_742 (fun H locs hw => ?_) hf
  refine lv_aload_n S.1 S.2.1 dL_law_745 rfl (lv_at hl 2 rfl) ?_
  refine law_arg S hX hL hbl hge hw hl hi 1 (by omega) dL_law_746 dL_law_747 dL_law_748 dL_law_749 dL_law_750 ?_
  refine law_arg S hX hL hbl hge hw hl hi 2 (by omega) dL_law_751 dL_law_752 dL_law_753 dL_law_754 dL_law_755 ?_
  refine law_arg S hX hL hbl hge hw hl hi 3 (by omega) dL_law_756 dL_law_757 dL_law_758 dL_law_759 dL_law_760 ?_
  refine kcX5_sheet S hw cvL_98 ⟨Nat.le_of_ble_eq_true rfl, Nat.le_of_ble_eq_true rfl⟩ g2 hl.1 (Nat.le_of_ble_eq_true rfl) dL_law_761 (fun H locs hw => ?_) hf
  refine lv_icmp_eq (tgt := 1070) S.1 S.2.1 dL_law_764 (by decide) (fun _ => ?_) (fun z => absurd rfl z)
  exact kk σ2 τ2 H locs hRR2 hw
set_option maxHeartbeats 4000000 in
set_option maxRecDepth 100000 in
theorem law_c20 {p : Program} {l : Launch} {e : Env} {s : State} {m : MethodId} {below : List Frame} {meth : Method} {c : Code} {b L : Nat} {xs : Nat → Int32} {E : kE} {cells slots : Nat} {Q : State → Prop} {H : Heap} {locs : List Loc} {ls : Array Slot} {i : Nat} {σ τ : kS} (S : CallFix p m c cL_law 4 s #[Value.ref b] kBIG RL) (hX : va_X b L xs s s.heap) (hL : L ≤ 384) (hbl : b < s.heap.size) (hge : ∀ k, k < 47 → s.heap.size ≤ ead E k) (hw : kWS E s (cmb σ τ) H locs) (hRR : RR σ τ) (hl : lv_has ls 4 [(0, .ref b), (1, .ref (ead E 0)), (2, .ref (ead E 26)), (3, .int (nI i))]) (hi : i + 6 ≤ L) (hf : cells ≤ room_1.cells ∧ slots ≤ room_1.slots)
    (kk : ∀ (σ2 τ2 : kS) (H1 : Heap) (locs1 : List Loc), RR σ2 τ2 → kWS E s (cmb σ2 τ2) H1 locs1 → W p l e room_1 s m #[Value.ref b] below meth c H1 locs1 cells slots Q (F0 m 1070 ls [])) : W p l e room_1 s m #[Value.ref b] below meth c H locs cells slots Q (F0 m 769 ls []) := by
  obtain ⟨r, σ2, τ2, g1, g2, hRR2⟩ := c_lose (xs (i + 1)) σ τ hRR
  refine lv_aload_n S.1 S.2.1 dL_law_769 rfl (lv_at hl 1 rfl) ?_
  refine law_arg S hX hL hbl hge hw hl hi 1 (by omega) dL_law_770 dL_law_771 dL_law_772 dL_law_773 dL_law_774 ?_
  refine kcX4_lose S hw cvL_99 ⟨Nat.le_of_ble_eq_true rfl, Nat.le_of_ble_eq_true rfl⟩ g1 hl.1 (Nat.le_of_ble_eq_true rfl) dL_law_775 (fun H locs hw => ?_) hf
  refine lv_aload_n S.1 S.2.1 dL_law_778 rfl (lv_at hl 2 rfl) ?_
  refine law_arg S hX hL hbl hge hw hl hi 1 (by omega) dL_law_779 dL_law_780 dL_law_781 dL_law_782 dL_law_783 ?_
  refine kcX5_lose S hw cvL_102 ⟨Nat.le_of_ble_eq_true rfl, Nat.le_of_ble_eq_true rfl⟩ g2 hl.1 (Nat.le_of_ble_eq_true rfl) dL_law_784 (fun H locs hw => ?_) hf
  refine lv_icmp_eq (tgt := 1070) S.1 S.2.1 dL_law_787 (by decide) (fun _ => ?_) (fun z => absurd rfl z)
  exact kk σ2 τ2 H locs hRR2 hw
set_option maxHeartbeats 4000000 in
set_option maxRecDepth 100000 in
theorem law_c21 {p : Program} {l : Launch} {e : Env} {s : State} {m : MethodId} {below : List Frame} {meth : Method} {c : Code} {b L : Nat} {xs : Nat → Int32} {E : kE} {cells slots : Nat} {Q : State → Prop} {H : Heap} {locs : List Loc} {ls : Array Slot} {i : Nat} {σ τ : kS} (S : CallFix p m c cL_law 4 s #[Value.ref b] kBIG RL) (hX : va_X b L xs s s.heap) (hL : L ≤ 384) (hbl : b < s.heap.size) (hge : ∀ k, k < 47 → s.heap.size ≤ ead E k) (hw : kWS E s (cmb σ τ) H locs) (hRR : RR σ τ) (hl : lv_has ls 4 [(0, .ref b), (1, .ref (ead E 0)), (2, .ref (ead E 26)), (3, .int (nI i))]) (hi : i + 6 ≤ L) (hf : cells ≤ room_1.cells ∧ slots ≤ room_1.slots)
    (kk : ∀ (σ2 τ2 : kS) (H1 : Heap) (locs1 : List Loc), RR σ2 τ2 → kWS E s (cmb σ2 τ2) H1 locs1 → W p l e room_1 s m #[Value.ref b] below meth c H1 locs1 cells slots Q (F0 m 1070 ls [])) : W p l e room_1 s m #[Value.ref b] below meth c H locs cells slots Q (F0 m 792 ls []) := by
  obtain ⟨r, σ2, τ2, g1, g2, hRR2⟩ := c_put (xs (i + 1)) (xs (i + 2)) (xs (i + 3)) σ τ hRR
  refine lv_aload_n S.1 S.2.1 dL_law_792 rfl (lv_at hl 1 rfl) ?_
  refine law_arg S hX hL hbl hge hw hl hi 1 (by omega) dL_law_793 dL_law_794 dL_law_795 dL_law_796 dL_law_797 ?_
  refine law_arg S hX hL hbl hge hw hl hi 2 (by omega) dL_law_798 dL_law_799 dL_law_800 dL_law_801 dL_law_802 ?_
  refine law_arg S hX hL hbl hge hw hl hi 3 (by omega) dL_law_803 dL_law_804 dL_law_805 dL_law_806 dL_law_807 ?_
  refine kcX4_put S hw cvL_103 ⟨Nat.le_of_ble_eq_true rfl, Nat.le_of_ble_eq_true rfl⟩ g1 hl.1 (Nat.le_of_ble_eq_true rfl) dL_law_808 (fun H locs hw => ?_) hf
  refine lv_aload_n S.1 S.2.1 dL_law_811 rfl (lv_at hl 2 rfl) ?_
  refine law_arg S hX hL hbl hge hw hl hi 1 (by omega) dL_law_812 dL_law_813 dL_law_814 dL_law_815 dL_law_816 ?_
  refine law_arg S hX hL hbl hge hw hl hi 2 (by omega) dL_law_817 dL_law_818 dL_law_819 dL_law_820 dL_law_821 ?_
  refine law_arg S hX hL hbl hge hw hl hi 3 (by omega) dL_law_822 dL_law_823 dL_law_824 dL_law_825 dL_law_826 ?_
  refine kcX5_put S hw cvL_106 ⟨Nat.le_of_ble_eq_true rfl, Nat.le_of_ble_eq_true rfl⟩ g2 hl.1 (Nat.le_of_ble_eq_true rfl) dL_law_827 (fun H locs hw => ?_) hf
  refine lv_icmp_eq (tgt := 1070) S.1 S.2.1 dL_law_830 (by decide) (fun _ => ?_) (fun z => absurd rfl z)
  exact kk σ2 τ2 H locs hRR2 hw
set_option maxHeartbeats 4000000 in
set_option maxRecDepth 100000 in
theorem law_c22 {p : Program} {l : Launch} {e : Env} {s : State} {m : MethodId} {below : List Frame} {meth : Method} {c : Code} {b L : Nat} {xs : Nat → Int32} {E : kE} {cells slots : Nat} {Q : State → Prop} {H : Heap} {locs : List Loc} {ls : Array Slot} {i : Nat} {σ τ : kS} (S : CallFix p m c cL_law 4 s #[Value.ref b] kBIG RL) (hX : va_X b L xs s s.heap) (hL : L ≤ 384) (hbl : b < s.heap.size) (hge : ∀ k, k < 47 → s.heap.size ≤ ead E k) (hw : kWS E s (cmb σ τ) H locs) (hRR : RR σ τ) (hl : lv_has ls 4 [(0, .ref b), (1, .ref (ead E 0)), (2, .ref (ead E 26)), (3, .int (nI i))]) (hi : i + 6 ≤ L) (hf : cells ≤ room_1.cells ∧ slots ≤ room_1.slots)
    (kk : ∀ (σ2 τ2 : kS) (H1 : Heap) (locs1 : List Loc), RR σ2 τ2 → kWS E s (cmb σ2 τ2) H1 locs1 → W p l e room_1 s m #[Value.ref b] below meth c H1 locs1 cells slots Q (F0 m 1070 ls [])) : W p l e room_1 s m #[Value.ref b] below meth c H locs cells slots Q (F0 m 835 ls []) := by
  obtain ⟨r, σ2, τ2, g1, g2, hRR2⟩ := c_cell (xs (i + 1)) (xs (i + 2)) (xs (i + 3)) σ τ hRR
  refine lv_aload_n S.1 S.2.1 dL_law_835 rfl (lv_at hl 1 rfl) ?_
  refine law_arg S hX hL hbl hge hw hl hi 1 (by omega) dL_law_836 dL_law_837 dL_law_838 dL_law_839 dL_law_840 ?_
  refine law_arg S hX hL hbl hge hw hl hi 2 (by omega) dL_law_841 dL_law_842 dL_law_843 dL_law_844 dL_law_845 ?_
  refine law_arg S hX hL hbl hge hw hl hi 3 (by omega) dL_law_846 dL_law_847 dL_law_848 dL_law_849 dL_law_850 ?_
  refine kcX4_cell S hw cvL_107 ⟨Nat.le_of_ble_eq_true rfl, Nat.le_of_ble_eq_true rfl⟩ g1 hl.1 (Nat.le_of_ble_eq_true rfl) dL_law_851 (fun H locs hw => ?_) hf
  refine lv_aload_n S.1 S.2.1 dL_law_854 rfl (lv_at hl 2 rfl) ?_
  refine law_arg S hX hL hbl hge hw hl hi 1 (by omega) dL_law_855 dL_law_856 dL_law_857 dL_law_858 dL_law_859 ?_
  refine law_arg S hX hL hbl hge hw hl hi 2 (by omega) dL_law_860 dL_law_861 dL_law_862 dL_law_863 dL_law_864 ?_
  refine law_arg S hX hL hbl hge hw hl hi 3 (by omega) dL_law_865 dL_law_866 dL_law_867 dL_law_868 dL_law_869 ?_
  refine kcX5_cell S hw cvL_111 ⟨Nat.le_of_ble_eq_true rfl, Nat.le_of_ble_eq_true rfl⟩ g2 hl.1 (Nat.le_of_ble_eq_true rfl) dL_law_870 (fun H locs hw => ?_) hf
  refine W.lcmp S.1 S.2.1 dL_law_873 ?_
  refine lv_if_eq (tgt := 1070) S.1 S.2.1 dL_law_874 (by decide) (fun _ => ?_) (fun z => absurd (lgc_self _) z)
  exact kk σ2 τ2 H locs hRR2 hw
set_option maxHeartbeats 4000000 in
set_option maxRecDepth 100000 in
theorem law_c23 {p : Program} {l : Launch} {e : Env} {s : State} {m : MethodId} {below : List Frame} {meth : Method} {c : Code} {b L : Nat} {xs : Nat → Int32} {E : kE} {cells slots : Nat} {Q : State → Prop} {H : Heap} {locs : List Loc} {ls : Array Slot} {i : Nat} {σ τ : kS} (S : CallFix p m c cL_law 4 s #[Value.ref b] kBIG RL) (hX : va_X b L xs s s.heap) (hL : L ≤ 384) (hbl : b < s.heap.size) (hge : ∀ k, k < 47 → s.heap.size ≤ ead E k) (hw : kWS E s (cmb σ τ) H locs) (hRR : RR σ τ) (hl : lv_has ls 4 [(0, .ref b), (1, .ref (ead E 0)), (2, .ref (ead E 26)), (3, .int (nI i))]) (hi : i + 6 ≤ L) (hf : cells ≤ room_1.cells ∧ slots ≤ room_1.slots)
    (kk : ∀ (σ2 τ2 : kS) (H1 : Heap) (locs1 : List Loc), RR σ2 τ2 → kWS E s (cmb σ2 τ2) H1 locs1 → W p l e room_1 s m #[Value.ref b] below meth c H1 locs1 cells slots Q (F0 m 1070 ls [])) : W p l e room_1 s m #[Value.ref b] below meth c H locs cells slots Q (F0 m 879 ls []) := by
  obtain ⟨r, σ2, τ2, g1, g2, hRR2⟩ := c_copy (xs (i + 1)) (xs (i + 2)) (xs (i + 3)) (xs (i + 4)) (xs (i + 5)) σ τ hRR
  refine lv_aload_n S.1 S.2.1 dL_law_879 rfl (lv_at hl 1 rfl) ?_
  refine law_arg S hX hL hbl hge hw hl hi 1 (by omega) dL_law_880 dL_law_881 dL_law_882 dL_law_883 dL_law_884 ?_
  refine law_arg S hX hL hbl hge hw hl hi 2 (by omega) dL_law_885 dL_law_886 dL_law_887 dL_law_888 dL_law_889 ?_
  refine law_arg S hX hL hbl hge hw hl hi 3 (by omega) dL_law_890 dL_law_891 dL_law_892 dL_law_893 dL_law_894 ?_
  refine law_arg S hX hL hbl hge hw hl hi 4 (by omega) dL_law_895 dL_law_896 dL_law_897 dL_law_898 dL_law_899 ?_
  refine law_arg S hX hL hbl hge hw hl hi 5 (by omega) dL_law_900 dL_law_901 dL_law_902 dL_law_903 dL_law_904 ?_
  refine kcX4_copy S hw cvL_112 ⟨Nat.le_of_ble_eq_true rfl, Nat.le_of_ble_eq_true rfl⟩ g1 hl.1 (Nat.le_of_ble_eq_true rfl) dL_law_905 (fun H locs hw => ?_) hf
  refine lv_aload_n S.1 S.2.1 dL_law_908 rfl (lv_at hl 2 rfl) ?_
  refine law_arg S hX hL hbl hge hw hl hi 1 (by omega) dL_law_909 dL_law_910 dL_law_911 dL_law_912 dL_law_913 ?_
  refine law_arg S hX hL hbl hge hw hl hi 2 (by omega) dL_law_914 dL_law_915 dL_law_916 dL_law_917 dL_law_918 ?_
  refine law_arg S hX hL hbl hge hw hl hi 3 (by omega) dL_law_919 dL_law_920 dL_law_921 dL_law_922 dL_law_923 ?_
  refine law_arg S hX hL hbl hge hw hl hi 4 (by omega) dL_law_924 dL_law_925 dL_law_926 dL_law_927 dL_law_928 ?_
  refine law_arg S hX hL hbl hge hw hl hi 5 (by omega) dL_law_929 dL_law_930 dL_law_931 dL_law_932 dL_law_933 ?_
  refine kcX5_copy S hw cvL_115 ⟨Nat.le_of_ble_eq_true rfl, Nat.le_of_ble_eq_true rfl⟩ g2 hl.1 (Nat.le_of_ble_eq_true rfl) dL_law_934 (fun H locs hw => ?_) hf
  refine lv_icmp_eq (tgt := 1070) S.1 S.2.1 dL_law_937 (by decide) (fun _ => ?_) (fun z => absurd rfl z)
  exact kk σ2 τ2 H locs hRR2 hw
set_option maxHeartbeats 4000000 in
set_option maxRecDepth 100000 in
theorem law_c24 {p : Program} {l : Launch} {e : Env} {s : State} {m : MethodId} {below : List Frame} {meth : Method} {c : Code} {b L : Nat} {xs : Nat → Int32} {E : kE} {cells slots : Nat} {Q : State → Prop} {H : Heap} {locs : List Loc} {ls : Array Slot} {i : Nat} {σ τ : kS} (S : CallFix p m c cL_law 4 s #[Value.ref b] kBIG RL) (hX : va_X b L xs s s.heap) (hL : L ≤ 384) (hbl : b < s.heap.size) (hge : ∀ k, k < 47 → s.heap.size ≤ ead E k) (hw : kWS E s (cmb σ τ) H locs) (hRR : RR σ τ) (hl : lv_has ls 4 [(0, .ref b), (1, .ref (ead E 0)), (2, .ref (ead E 26)), (3, .int (nI i))]) (hi : i + 6 ≤ L) (hf : cells ≤ room_1.cells ∧ slots ≤ room_1.slots)
    (kk : ∀ (σ2 τ2 : kS) (H1 : Heap) (locs1 : List Loc), RR σ2 τ2 → kWS E s (cmb σ2 τ2) H1 locs1 → W p l e room_1 s m #[Value.ref b] below meth c H1 locs1 cells slots Q (F0 m 1070 ls [])) : W p l e room_1 s m #[Value.ref b] below meth c H locs cells slots Q (F0 m 942 ls []) := by
  obtain ⟨r, σ2, τ2, g1, g2, hRR2⟩ := c_tell (xs (i + 1)) σ τ hRR
  refine lv_aload_n S.1 S.2.1 dL_law_942 rfl (lv_at hl 1 rfl) ?_
  refine law_arg S hX hL hbl hge hw hl hi 1 (by omega) dL_law_943 dL_law_944 dL_law_945 dL_law_946 dL_law_947 ?_
  refine kcX4_tell S hw cvL_116 ⟨Nat.le_of_ble_eq_true rfl, Nat.le_of_ble_eq_true rfl⟩ g1 hl.1 (Nat.le_of_ble_eq_true rfl) dL_law_948 (fun H locs hw => ?_) hf
  refine lv_aload_n S.1 S.2.1 dL_law_951 rfl (lv_at hl 2 rfl) ?_
  refine law_arg S hX hL hbl hge hw hl hi 1 (by omega) dL_law_952 dL_law_953 dL_law_954 dL_law_955 dL_law_956 ?_
  refine kcX5_tell S hw cvL_119 ⟨Nat.le_of_ble_eq_true rfl, Nat.le_of_ble_eq_true rfl⟩ g2 hl.1 (Nat.le_of_ble_eq_true rfl) dL_law_957 (fun H locs hw => ?_) hf
  refine lv_icmp_eq (tgt := 1070) S.1 S.2.1 dL_law_960 (by decide) (fun _ => ?_) (fun z => absurd rfl z)
  exact kk σ2 τ2 H locs hRR2 hw
set_option maxHeartbeats 4000000 in
set_option maxRecDepth 100000 in
theorem law_c25 {p : Program} {l : Launch} {e : Env} {s : State} {m : MethodId} {below : List Frame} {meth : Method} {c : Code} {b L : Nat} {xs : Nat → Int32} {E : kE} {cells slots : Nat} {Q : State → Prop} {H : Heap} {locs : List Loc} {ls : Array Slot} {i : Nat} {σ τ : kS} (S : CallFix p m c cL_law 4 s #[Value.ref b] kBIG RL) (hX : va_X b L xs s s.heap) (hL : L ≤ 384) (hbl : b < s.heap.size) (hge : ∀ k, k < 47 → s.heap.size ≤ ead E k) (hw : kWS E s (cmb σ τ) H locs) (hRR : RR σ τ) (hl : lv_has ls 4 [(0, .ref b), (1, .ref (ead E 0)), (2, .ref (ead E 26)), (3, .int (nI i))]) (hi : i + 6 ≤ L) (hf : cells ≤ room_1.cells ∧ slots ≤ room_1.slots)
    (kk : ∀ (σ2 τ2 : kS) (H1 : Heap) (locs1 : List Loc), RR σ2 τ2 → kWS E s (cmb σ2 τ2) H1 locs1 → W p l e room_1 s m #[Value.ref b] below meth c H1 locs1 cells slots Q (F0 m 1070 ls [])) : W p l e room_1 s m #[Value.ref b] below meth c H locs cells slots Q (F0 m 965 ls []) := by
  obtain ⟨r, σ2, τ2, g1, g2, hRR2⟩ := c_whistle (xs (i + 1)) σ τ hRR
  refine lv_aload_n S.1 S.2.1 dL_law_965 rfl (lv_at hl 1 rfl) ?_
  refine law_arg S hX hL hbl hge hw hl hi 1 (by omega) dL_law_966 dL_law_967 dL_law_968 dL_law_969 dL_law_970 ?_
  refine kcX4_whistle S hw cvL_120 ⟨Nat.le_of_ble_eq_true rfl, Nat.le_of_ble_eq_true rfl⟩ g1 hl.1 (Nat.le_of_ble_eq_true rfl) dL_law_971 (fun H locs hw => ?_) hf
  refine lv_aload_n S.1 S.2.1 dL_law_974 rfl (lv_at hl 2 rfl) ?_
  refine law_arg S hX hL hbl hge hw hl hi 1 (by omega) dL_law_975 dL_law_976 dL_law_977 dL_law_978 dL_law_979 ?_
  refine kcX5_whistle S hw cvL_123 ⟨Nat.le_of_ble_eq_true rfl, Nat.le_of_ble_eq_true rfl⟩ g2 hl.1 (Nat.le_of_ble_eq_true rfl) dL_law_980 (fun H locs hw => ?_) hf
  refine lv_icmp_eq (tgt := 1070) S.1 S.2.1 dL_law_983 (by decide) (fun _ => ?_) (fun z => absurd rfl z)
  exact kk σ2 τ2 H locs hRR2 hw
set_option maxHeartbeats 4000000 in
set_option maxRecDepth 100000 in
theorem law_c26 {p : Program} {l : Launch} {e : Env} {s : State} {m : MethodId} {below : List Frame} {meth : Method} {c : Code} {b L : Nat} {xs : Nat → Int32} {E : kE} {cells slots : Nat} {Q : State → Prop} {H : Heap} {locs : List Loc} {ls : Array Slot} {i : Nat} {σ τ : kS} (S : CallFix p m c cL_law 4 s #[Value.ref b] kBIG RL) (hX : va_X b L xs s s.heap) (hL : L ≤ 384) (hbl : b < s.heap.size) (hge : ∀ k, k < 47 → s.heap.size ≤ ead E k) (hw : kWS E s (cmb σ τ) H locs) (hRR : RR σ τ) (hl : lv_has ls 4 [(0, .ref b), (1, .ref (ead E 0)), (2, .ref (ead E 26)), (3, .int (nI i))]) (hi : i + 6 ≤ L) (hf : cells ≤ room_1.cells ∧ slots ≤ room_1.slots)
    (kk : ∀ (σ2 τ2 : kS) (H1 : Heap) (locs1 : List Loc), RR σ2 τ2 → kWS E s (cmb σ2 τ2) H1 locs1 → W p l e room_1 s m #[Value.ref b] below meth c H1 locs1 cells slots Q (F0 m 1070 ls [])) : W p l e room_1 s m #[Value.ref b] below meth c H locs cells slots Q (F0 m 988 ls []) := by
  obtain ⟨r, σ2, τ2, g1, g2, hRR2⟩ := c_as (xs (i + 1)) (xs (i + 2)) σ τ hRR
  refine lv_aload_n S.1 S.2.1 dL_law_988 rfl (lv_at hl 1 rfl) ?_
  refine law_arg S hX hL hbl hge hw hl hi 1 (by omega) dL_law_989 dL_law_990 dL_law_991 dL_law_992 dL_law_993 ?_
  refine law_arg S hX hL hbl hge hw hl hi 2 (by omega) dL_law_994 dL_law_995 dL_law_996 dL_law_997 dL_law_998 ?_
  refine kcX4_as S hw cvL_124 ⟨Nat.le_of_ble_eq_true rfl, Nat.le_of_ble_eq_true rfl⟩ g1 hl.1 (Nat.le_of_ble_eq_true rfl) dL_law_999 (fun H locs hw => ?_) hf
  refine lv_aload_n S.1 S.2.1 dL_law_1002 rfl (lv_at hl 2 rfl) ?_
  refine law_arg S hX hL hbl hge hw hl hi 1 (by omega) dL_law_1003 dL_law_1004 dL_law_1005 dL_law_1006 dL_law_1007 ?_
  refine law_arg S hX hL hbl hge hw hl hi 2 (by omega) dL_law_1008 dL_law_1009 dL_law_1010 dL_law_1011 dL_law_1012 ?_
  refine kcX5_as S hw cvL_127 ⟨Nat.le_of_ble_eq_true rfl, Nat.le_of_ble_eq_true rfl⟩ g2 hl.1 (Nat.le_of_ble_eq_true rfl) dL_law_1013 (fun H locs hw => ?_) hf
  refine lv_icmp_eq (tgt := 1070) S.1 S.2.1 dL_law_1016 (by decide) (fun _ => ?_) (fun z => absurd rfl z)
  exact kk σ2 τ2 H locs hRR2 hw
set_option maxHeartbeats 4000000 in
set_option maxRecDepth 100000 in
theorem law_c27 {p : Program} {l : Launch} {e : Env} {s : State} {m : MethodId} {below : List Frame} {meth : Method} {c : Code} {b L : Nat} {xs : Nat → Int32} {E : kE} {cells slots : Nat} {Q : State → Prop} {H : Heap} {locs : List Loc} {ls : Array Slot} {i : Nat} {σ τ : kS} (S : CallFix p m c cL_law 4 s #[Value.ref b] kBIG RL) (hX : va_X b L xs s s.heap) (hL : L ≤ 384) (hbl : b < s.heap.size) (hge : ∀ k, k < 47 → s.heap.size ≤ ead E k) (hw : kWS E s (cmb σ τ) H locs) (hRR : RR σ τ) (hl : lv_has ls 4 [(0, .ref b), (1, .ref (ead E 0)), (2, .ref (ead E 26)), (3, .int (nI i))]) (hi : i + 6 ≤ L) (hf : cells ≤ room_1.cells ∧ slots ≤ room_1.slots)
    (kk : ∀ (σ2 τ2 : kS) (H1 : Heap) (locs1 : List Loc), RR σ2 τ2 → kWS E s (cmb σ2 τ2) H1 locs1 → W p l e room_1 s m #[Value.ref b] below meth c H1 locs1 cells slots Q (F0 m 1070 ls [])) : W p l e room_1 s m #[Value.ref b] below meth c H locs cells slots Q (F0 m 1021 ls []) := by
  obtain ⟨r, σ2, τ2, g1, g2, hRR2⟩ := c_trace  σ τ hRR
  refine lv_aload_n S.1 S.2.1 dL_law_1021 rfl (lv_at hl 1 rfl) ?_
  refine kcX4_trace S hw cvL_128 ⟨Nat.le_of_ble_eq_true rfl, Nat.le_of_ble_eq_true rfl⟩ g1 hl.1 (Nat.le_of_ble_eq_true rfl) dL_law_1022 (fun H locs hw => ?_) hf
  refine lv_aload_n S.1 S.2.1 dL_law_1025 rfl (lv_at hl 2 rfl) ?_
  refine kcX5_trace S hw cvL_132 ⟨Nat.le_of_ble_eq_true rfl, Nat.le_of_ble_eq_true rfl⟩ g2 hl.1 (Nat.le_of_ble_eq_true rfl) dL_law_1026 (fun H locs hw => ?_) hf
  refine lv_icmp_eq (tgt := 1070) S.1 S.2.1 dL_law_1029 (by decide) (fun _ => ?_) (fun z => absurd rfl z)
  exact kk σ2 τ2 H locs hRR2 hw
set_option maxHeartbeats 4000000 in
set_option maxRecDepth 100000 in
theorem law_c28 {p : Program} {l : Launch} {e : Env} {s : State} {m : MethodId} {below : List Frame} {meth : Method} {c : Code} {b L : Nat} {xs : Nat → Int32} {E : kE} {cells slots : Nat} {Q : State → Prop} {H : Heap} {locs : List Loc} {ls : Array Slot} {i : Nat} {σ τ : kS} (S : CallFix p m c cL_law 4 s #[Value.ref b] kBIG RL) (hX : va_X b L xs s s.heap) (hL : L ≤ 384) (hbl : b < s.heap.size) (hge : ∀ k, k < 47 → s.heap.size ≤ ead E k) (hw : kWS E s (cmb σ τ) H locs) (hRR : RR σ τ) (hl : lv_has ls 4 [(0, .ref b), (1, .ref (ead E 0)), (2, .ref (ead E 26)), (3, .int (nI i))]) (hi : i + 6 ≤ L) (hf : cells ≤ room_1.cells ∧ slots ≤ room_1.slots)
    (kk : ∀ (σ2 τ2 : kS) (H1 : Heap) (locs1 : List Loc), RR σ2 τ2 → kWS E s (cmb σ2 τ2) H1 locs1 → W p l e room_1 s m #[Value.ref b] below meth c H1 locs1 cells slots Q (F0 m 1070 ls [])) : W p l e room_1 s m #[Value.ref b] below meth c H locs cells slots Q (F0 m 1034 ls []) := by
  obtain ⟨r, σ2, τ2, g1, g2, hRR2⟩ := c_fault  σ τ hRR
  refine lv_aload_n S.1 S.2.1 dL_law_1034 rfl (lv_at hl 1 rfl) ?_
  refine kcX4_fault S hw cvL_133 ⟨Nat.le_of_ble_eq_true rfl, Nat.le_of_ble_eq_true rfl⟩ g1 hl.1 (Nat.le_of_ble_eq_true rfl) dL_law_1035 (fun H locs hw => ?_) hf
  refine lv_aload_n S.1 S.2.1 dL_law_1038 rfl (lv_at hl 2 rfl) ?_
  refine kcX5_fault S hw cvL_136 ⟨Nat.le_of_ble_eq_true rfl, Nat.le_of_ble_eq_true rfl⟩ g2 hl.1 (Nat.le_of_ble_eq_true rfl) dL_law_1039 (fun H locs hw => ?_) hf
  refine lv_icmp_eq (tgt := 1070) S.1 S.2.1 dL_law_1042 (by decide) (fun _ => ?_) (fun z => absurd rfl z)
  exact kk σ2 τ2 H locs hRR2 hw
set_option maxHeartbeats 4000000 in
set_option maxRecDepth 100000 in
theorem law_c29 {p : Program} {l : Launch} {e : Env} {s : State} {m : MethodId} {below : List Frame} {meth : Method} {c : Code} {b L : Nat} {xs : Nat → Int32} {E : kE} {cells slots : Nat} {Q : State → Prop} {H : Heap} {locs : List Loc} {ls : Array Slot} {i : Nat} {σ τ : kS} (S : CallFix p m c cL_law 4 s #[Value.ref b] kBIG RL) (hX : va_X b L xs s s.heap) (hL : L ≤ 384) (hbl : b < s.heap.size) (hge : ∀ k, k < 47 → s.heap.size ≤ ead E k) (hw : kWS E s (cmb σ τ) H locs) (hRR : RR σ τ) (hl : lv_has ls 4 [(0, .ref b), (1, .ref (ead E 0)), (2, .ref (ead E 26)), (3, .int (nI i))]) (hi : i + 6 ≤ L) (hf : cells ≤ room_1.cells ∧ slots ≤ room_1.slots)
    (kk : ∀ (σ2 τ2 : kS) (H1 : Heap) (locs1 : List Loc), RR σ2 τ2 → kWS E s (cmb σ2 τ2) H1 locs1 → W p l e room_1 s m #[Value.ref b] below meth c H1 locs1 cells slots Q (F0 m 1070 ls [])) : W p l e room_1 s m #[Value.ref b] below meth c H locs cells slots Q (F0 m 1047 ls []) := by
  obtain ⟨r, σ2, τ2, g1, g2, hRR2⟩ := c_many (xs (i + 1)) σ τ hRR
  refine lv_aload_n S.1 S.2.1 dL_law_1047 rfl (lv_at hl 1 rfl) ?_
  refine law_arg S hX hL hbl hge hw hl hi 1 (by omega) dL_law_1048 dL_law_1049 dL_law_1050 dL_law_1051 dL_law_1052 ?_
  refine kcX4_many S hw cvL_137 ⟨Nat.le_of_ble_eq_true rfl, Nat.le_of_ble_eq_true rfl⟩ g1 hl.1 (Nat.le_of_ble_eq_true rfl) dL_law_1053 (fun H locs hw => ?_) hf
  refine lv_aload_n S.1 S.2.1 dL_law_1056 rfl (lv_at hl 2 rfl) ?_
  refine law_arg S hX hL hbl hge hw hl hi 1 (by omega) dL_law_1057 dL_law_1058 dL_law_1059 dL_law_1060 dL_law_1061 ?_
  refine kcX5_many S hw cvL_140 ⟨Nat.le_of_ble_eq_true rfl, Nat.le_of_ble_eq_true rfl⟩ g2 hl.1 (Nat.le_of_ble_eq_true rfl) dL_law_1062 (fun H locs hw => ?_) hf
  refine lv_icmp_eq (tgt := 1070) S.1 S.2.1 dL_law_1065 (by decide) (fun _ => ?_) (fun z => absurd rfl z)
  exact kk σ2 τ2 H locs hRR2 hw
theorem lenm6 {L i : Nat} (hL : L ≤ 384) (hi : i ≤ 384 + 6) : (Int32.ofNat L - 6 < nI i) ↔ L < i + 6 := by
  have e1 : (Int32.ofNat L - 6).toInt = (L : Int) - 6 := by
    have h : ∀ L : Nat, L < 385 → (Int32.ofNat L - 6).toInt = (L : Int) - 6 := by decide +kernel
    exact h L (by omega)
  rw [Int32.lt_iff_toInt_lt, e1, nI_toInt (by omega)]
  omega
set_option maxHeartbeats 4000000 in
set_option maxRecDepth 100000 in
/-- THE LAW'S LOOP -/
theorem law_loop {p : Program} {l : Launch} {e : Env} {s : State} {m : MethodId} {below : List Frame} {meth : Method} {c : Code} {b L : Nat} {xs : Nat → Int32} {E : kE} (hL : L ≤ 384) (C0 : lw_At p s m meth c b L xs) (S : CallFix p m c cL_law 4 s #[Value.ref b] kBIG RL) (hge : ∀ k, k < 47 → s.heap.size ≤ ead E k) :
    ∀ (n i : Nat), i ≤ L → L + 6 ≤ i + 6 * n → ∀ (σ τ : kS) (H : Heap) (locs : List Loc) (ls : Array Slot), RR σ τ → kWS E s (cmb σ τ) H locs → lv_has ls 4 [(0, .ref b), (1, .ref (ead E 0)), (2, .ref (ead E 26)), (3, .int (nI i))] → W p l e room_1 s m #[Value.ref b] below meth c H locs 600000 7302250 (lw_Z below #[Value.ref b] s) (F0 m 18 ls []) := by
  obtain ⟨hx, hb, hr, hml, hown, hts, hX, hbl, hlocks, hgv⟩ := C0
  have hf : 600000 ≤ room_1.cells ∧ 7302250 ≤ room_1.slots := ⟨Nat.le_of_ble_eq_true rfl, Nat.le_of_ble_eq_true rfl⟩
  have hbA := kA_b hbl hge
  intro n
  induction n with
  | zero =>
    intro i h1 h2
    exact absurd h2 (by omega)
  | succ n ih =>
    intro i hi hn σ τ H locs ls hRR hw hl
    refine lv_iload_n S.1 S.2.1 dL_law_18 rfl (lv_at hl 3 rfl) ?_
    refine lv_aload_n S.1 S.2.1 dL_law_19 rfl (lv_at hl 0 rfl) ?_
    refine va_slen S.1 S.2.1 hX hbl hbA hw.2.2.2.1 dL_law_20 ?_
    refine lv_bipush (v := 6) S.1 S.2.1 dL_law_21 (by decide) ?_
    refine lv_isub S.1 S.2.1 dL_law_23 ?_
    refine lv_icmp_gt (tgt := 1076) S.1 S.2.1 dL_law_24 (by decide) (fun _ => ?_) (fun c6 => ?_)
    · refine lv_iconst (v := 1) S.1 S.2.1 dL_law_1076 (by decide) ?_
      refine va_forget (fun q hq => ?_) ?_
      · rcases hw.2.2.2.1.2.2 q hq with ⟨k, hk, h⟩ | h
        · rw [h]; exact hge k hk
        · exact h
      · exact lw_ret hx hb hr hlocks dL_law_1077
    · have h6 : i + 6 ≤ L := by
        rcases Nat.lt_or_ge L (i + 6) with q | q
        · exact absurd ((lenm6 hL (by omega)).mpr q) c6
        · exact q
      have next : ∀ (σ2 τ2 : kS) (H1 : Heap) (locs1 : List Loc), RR σ2 τ2 → kWS E s (cmb σ2 τ2) H1 locs1 → W p l e room_1 s m #[Value.ref b] below meth c H1 locs1 600000 7302250 (lw_Z below #[Value.ref b] s) (F0 m 1070 ls []) := by
        intro σ2 τ2 H1 locs1 hRR2 hw2
        refine lv_iinc (v := nI (i + 6)) (lv' := [(3, .int (nI (i + 6))), (0, .ref b), (1, .ref (ead E 0)), (2, .ref (ead E 26))]) S.1 S.2.1 dL_law_1070 hl (k := 3) rfl (by rw [← nI_add]; rfl) (by decide) rfl (fun ls hl => ?_)
        refine lv_goto (tgt := 18) S.1 S.2.1 dL_law_1073 (by decide) ?_
        exact ih (i + 6) h6 (by omega) σ2 τ2 H1 locs1 ls hRR2 hw2 (lv_sub hl [1, 2, 3, 0] rfl)
      refine lv_aload_n S.1 S.2.1 dL_law_27 rfl (lv_at hl 0 rfl) ?_
      refine lv_iload_n S.1 S.2.1 dL_law_28 rfl (lv_at hl 3 rfl) ?_
      refine va_sld S.1 S.2.1 hX hbl hbA hw.2.2.2.1 (vp_in_nI (by omega) (by omega)) dL_law_29 ?_
      refine lv_bipush (v := 31) S.1 S.2.1 dL_law_30 (by decide) ?_
      refine lv_iand S.1 S.2.1 dL_law_32 ?_
      generalize hv : xs (nI i).toNatClampNeg &&& 31 = v
      rcases rng_cases v 30 (by decide) with ⟨k, hk, hv⟩ | hv
      · rcases (show k = 0 ∨ k = 1 ∨ k = 2 ∨ k = 3 ∨ k = 4 ∨ k = 5 ∨ k = 6 ∨ k = 7 ∨ k = 8 ∨ k = 9 ∨ k = 10 ∨ k = 11 ∨ k = 12 ∨ k = 13 ∨ k = 14 ∨ k = 15 ∨ k = 16 ∨ k = 17 ∨ k = 18 ∨ k = 19 ∨ k = 20 ∨ k = 21 ∨ k = 22 ∨ k = 23 ∨ k = 24 ∨ k = 25 ∨ k = 26 ∨ k = 27 ∨ k = 28 ∨ k = 29 by omega) with rfl | rfl | rfl | rfl | rfl | rfl | rfl | rfl | rfl | rfl | rfl | rfl | rfl | rfl | rfl | rfl | rfl | rfl | rfl | rfl | rfl | rfl | rfl | rfl | rfl | rfl | rfl | rfl | rfl | rfl
        · refine lv_tableIn (tgt := 168) S.1 S.2.1 dL_law_33 (by rw [hv]; decide) (by rw [hv]; decide) (by rw [hv]; rfl) (by decide) ?_
          exact law_c0 S hX hL hbl hge hw hRR hl h6 hf next
        · refine lv_tableIn (tgt := 221) S.1 S.2.1 dL_law_33 (by rw [hv]; decide) (by rw [hv]; decide) (by rw [hv]; rfl) (by decide) ?_
          exact law_c1 S hX hL hbl hge hw hRR hl h6 hf next
        · refine lv_tableIn (tgt := 254) S.1 S.2.1 dL_law_33 (by rw [hv]; decide) (by rw [hv]; decide) (by rw [hv]; rfl) (by decide) ?_
          exact law_c2 S hX hL hbl hge hw hRR hl h6 hf next
        · refine lv_tableIn (tgt := 277) S.1 S.2.1 dL_law_33 (by rw [hv]; decide) (by rw [hv]; decide) (by rw [hv]; rfl) (by decide) ?_
          exact law_c3 S hX hL hbl hge hw hRR hl h6 hf next
        · refine lv_tableIn (tgt := 300) S.1 S.2.1 dL_law_33 (by rw [hv]; decide) (by rw [hv]; decide) (by rw [hv]; rfl) (by decide) ?_
          exact law_c4 S hX hL hbl hge hw hRR hl h6 hf next
        · refine lv_tableIn (tgt := 333) S.1 S.2.1 dL_law_33 (by rw [hv]; decide) (by rw [hv]; decide) (by rw [hv]; rfl) (by decide) ?_
          exact law_c5 S hX hL hbl hge hw hRR hl h6 hf next
        · refine lv_tableIn (tgt := 366) S.1 S.2.1 dL_law_33 (by rw [hv]; decide) (by rw [hv]; decide) (by rw [hv]; rfl) (by decide) ?_
          exact law_c6 S hX hL hbl hge hw hRR hl h6 hf next
        · refine lv_tableIn (tgt := 389) S.1 S.2.1 dL_law_33 (by rw [hv]; decide) (by rw [hv]; decide) (by rw [hv]; rfl) (by decide) ?_
          exact law_c7 S hX hL hbl hge hw hRR hl h6 hf next
        · refine lv_tableIn (tgt := 412) S.1 S.2.1 dL_law_33 (by rw [hv]; decide) (by rw [hv]; decide) (by rw [hv]; rfl) (by decide) ?_
          exact law_c8 S hX hL hbl hge hw hRR hl h6 hf next
        · refine lv_tableIn (tgt := 475) S.1 S.2.1 dL_law_33 (by rw [hv]; decide) (by rw [hv]; decide) (by rw [hv]; rfl) (by decide) ?_
          exact law_c9 S hX hL hbl hge hw hRR hl h6 hf next
        · refine lv_tableIn (tgt := 498) S.1 S.2.1 dL_law_33 (by rw [hv]; decide) (by rw [hv]; decide) (by rw [hv]; rfl) (by decide) ?_
          exact law_c10 S hX hL hbl hge hw hRR hl h6 hf next
        · refine lv_tableIn (tgt := 521) S.1 S.2.1 dL_law_33 (by rw [hv]; decide) (by rw [hv]; decide) (by rw [hv]; rfl) (by decide) ?_
          exact law_c11 S hX hL hbl hge hw hRR hl h6 hf next
        · refine lv_tableIn (tgt := 544) S.1 S.2.1 dL_law_33 (by rw [hv]; decide) (by rw [hv]; decide) (by rw [hv]; rfl) (by decide) ?_
          exact law_c12 S hX hL hbl hge hw hRR hl h6 hf next
        · refine lv_tableIn (tgt := 567) S.1 S.2.1 dL_law_33 (by rw [hv]; decide) (by rw [hv]; decide) (by rw [hv]; rfl) (by decide) ?_
          exact law_c13 S hX hL hbl hge hw hRR hl h6 hf next
        · refine lv_tableIn (tgt := 600) S.1 S.2.1 dL_law_33 (by rw [hv]; decide) (by rw [hv]; decide) (by rw [hv]; rfl) (by decide) ?_
          exact law_c14 S hX hL hbl hge hw hRR hl h6 hf next
        · refine lv_tableIn (tgt := 623) S.1 S.2.1 dL_law_33 (by rw [hv]; decide) (by rw [hv]; decide) (by rw [hv]; rfl) (by decide) ?_
          exact law_c15 S hX hL hbl hge hw hRR hl h6 hf next
        · refine lv_tableIn (tgt := 646) S.1 S.2.1 dL_law_33 (by rw [hv]; decide) (by rw [hv]; decide) (by rw [hv]; rfl) (by decide) ?_
          exact law_c16 S hX hL hbl hge hw hRR hl h6 hf next
        · refine lv_tableIn (tgt := 669) S.1 S.2.1 dL_law_33 (by rw [hv]; decide) (by rw [hv]; decide) (by rw [hv]; rfl) (by decide) ?_
          exact law_c17 S hX hL hbl hge hw hRR hl h6 hf next
        · refine lv_tableIn (tgt := 692) S.1 S.2.1 dL_law_33 (by rw [hv]; decide) (by rw [hv]; decide) (by rw [hv]; rfl) (by decide) ?_
          exact law_c18 S hX hL hbl hge hw hRR hl h6 hf next
        · refine lv_tableIn (tgt := 726) S.1 S.2.1 dL_law_33 (by rw [hv]; decide) (by rw [hv]; decide) (by rw [hv]; rfl) (by decide) ?_
          exact law_c19 S hX hL hbl hge hw hRR hl h6 hf next
        · refine lv_tableIn (tgt := 769) S.1 S.2.1 dL_law_33 (by rw [hv]; decide) (by rw [hv]; decide) (by rw [hv]; rfl) (by decide) ?_
          exact law_c20 S hX hL hbl hge hw hRR hl h6 hf next
        · refine lv_tableIn (tgt := 792) S.1 S.2.1 dL_law_33 (by rw [hv]; decide) (by rw [hv]; decide) (by rw [hv]; rfl) (by decide) ?_
          exact law_c21 S hX hL hbl hge hw hRR hl h6 hf next
        · refine lv_tableIn (tgt := 835) S.1 S.2.1 dL_law_33 (by rw [hv]; decide) (by rw [hv]; decide) (by rw [hv]; rfl) (by decide) ?_
          exact law_c22 S hX hL hbl hge hw hRR hl h6 hf next
        · refine lv_tableIn (tgt := 879) S.1 S.2.1 dL_law_33 (by rw [hv]; decide) (by rw [hv]; decide) (by rw [hv]; rfl) (by decide) ?_
          exact law_c23 S hX hL hbl hge hw hRR hl h6 hf next
        · refine lv_tableIn (tgt := 942) S.1 S.2.1 dL_law_33 (by rw [hv]; decide) (by rw [hv]; decide) (by rw [hv]; rfl) (by decide) ?_
          exact law_c24 S hX hL hbl hge hw hRR hl h6 hf next
        · refine lv_tableIn (tgt := 965) S.1 S.2.1 dL_law_33 (by rw [hv]; decide) (by rw [hv]; decide) (by rw [hv]; rfl) (by decide) ?_
          exact law_c25 S hX hL hbl hge hw hRR hl h6 hf next
        · refine lv_tableIn (tgt := 988) S.1 S.2.1 dL_law_33 (by rw [hv]; decide) (by rw [hv]; decide) (by rw [hv]; rfl) (by decide) ?_
          exact law_c26 S hX hL hbl hge hw hRR hl h6 hf next
        · refine lv_tableIn (tgt := 1021) S.1 S.2.1 dL_law_33 (by rw [hv]; decide) (by rw [hv]; decide) (by rw [hv]; rfl) (by decide) ?_
          exact law_c27 S hX hL hbl hge hw hRR hl h6 hf next
        · refine lv_tableIn (tgt := 1034) S.1 S.2.1 dL_law_33 (by rw [hv]; decide) (by rw [hv]; decide) (by rw [hv]; rfl) (by decide) ?_
          exact law_c28 S hX hL hbl hge hw hRR hl h6 hf next
        · refine lv_tableIn (tgt := 1047) S.1 S.2.1 dL_law_33 (by rw [hv]; decide) (by rw [hv]; decide) (by rw [hv]; rfl) (by decide) ?_
          exact law_c29 S hX hL hbl hge hw hRR hl h6 hf next
      · refine lv_tableOut (tgt := 1070) S.1 S.2.1 dL_law_33 (by omega) (by decide) ?_
        exact next σ τ H locs hRR hw
