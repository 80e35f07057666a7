set_option maxHeartbeats 4000000 in
set_option maxRecDepth 100000 in
theorem wX5_round_J73 {p : Program} {l : Launch} {e : Env} {s : State} {m : MethodId} {args : Array Value} {below : List Frame} {meth : Method} {c : Code} {Q : State → Prop} {E : kE} {ω σ1 : kS} {r : Int32} (S : CallFix p m c cX5_round 8 s args kBIG RX5) (hR : kRetI p l e (rml 6) s m args below meth c cX5_round E Q (some .int) r (cmb ω σ1))  : ∀ (a1 : Int32) (a2 : Int32) (a3 : Int32) (a4 : Int32) (a5 : Int32) (σ : kS) (H : Heap) (locs : List Loc) (ls : Array Slot), fX5_round_J73 a1 a2 a3 a4 a5 σ = some (r, σ1) → kWS E s (cmb ω σ) H locs → lv_has ls 8 [(0, .ref (ead E 26)), (1, .int a1), (2, .int a2), (3, .int a3), (4, .int a4), (5, .int a5)] → W p l e (rml 6) s m args below meth c H locs 0 0 Q (F0 m 73 ls []) := by
  intro a1 a2 a3 a4 a5 σ H locs ls hF hw hl
  unfold fX5_round_J73 at hF
  refine lv_aload_n S.1 S.2.1 dX5_round_73 rfl (lv_at hl 0 rfl) ?_
  refine gf_X5_80 S hw dX5_round_74 ?_
  refine lv_if_ne (tgt := 87) S.1 S.2.1 dX5_round_77 (by decide) (fun c38 => ?_) (fun c38 => ?_)
  · replace hF := kif hF c38
    refine lv_aload_n S.1 S.2.1 dX5_round_87 rfl (lv_at hl 0 rfl) ?_
    refine lv_iload_n S.1 S.2.1 dX5_round_88 rfl (lv_at hl 1 rfl) ?_
    refine lv_iload_n S.1 S.2.1 dX5_round_89 rfl (lv_at hl 2 rfl) ?_
    refine lv_iload_n S.1 S.2.1 dX5_round_90 rfl (lv_at hl 3 rfl) ?_
    refine lv_ldc2 (v := 2) S.1 S.2.1 S.2.2.2.1 (S.2.2.2.2 _ q3_82) dX5_round_91 ?_
    refine lv_iload S.1 S.2.1 dX5_round_94 (lv_at hl 4 rfl) ?_
    refine lv_i2l S.1 S.2.1 dX5_round_96 rfl ?_
    refine lv_lmul S.1 S.2.1 dX5_round_97 ?_
    obtain ⟨r41, σ40, e39, hF⟩ := kbi_e hF
    refine kcX5_cellsBarred S hw cv_X5_128 ⟨Nat.le_of_ble_eq_true rfl, Nat.le_of_ble_eq_true rfl⟩ e39 hl.1 (Nat.le_of_ble_eq_true rfl) dX5_round_98 (fun H locs hw => ?_)
    refine lv_istore (lv' := [(6, .int r41), (0, .ref (ead E 26)), (1, .int a1), (2, .int a2), (3, .int a3), (4, .int a4), (5, .int a5)]) S.1 S.2.1 dX5_round_101 hl (by decide) rfl (fun ls hl => ?_)
    refine lv_iload S.1 S.2.1 dX5_round_103 (lv_at hl 0 rfl) ?_
    refine lv_if_ge (tgt := 111) S.1 S.2.1 dX5_round_105 (by decide) (fun c42 => ?_) (fun c42 => ?_)
    · replace hF := kit hF c42
      refine lv_aload_n S.1 S.2.1 dX5_round_111 rfl (lv_at hl 1 rfl) ?_
      refine lv_bipush (v := 60) S.1 S.2.1 dX5_round_112 (by decide) ?_
      refine lv_iload_n S.1 S.2.1 dX5_round_114 rfl (lv_at hl 2 rfl) ?_
      refine lv_imul S.1 S.2.1 dX5_round_115 ?_
      refine lv_iload_n S.1 S.2.1 dX5_round_116 rfl (lv_at hl 4 rfl) ?_
      refine lv_iadd S.1 S.2.1 dX5_round_117 ?_
      refine lv_iload S.1 S.2.1 dX5_round_118 (lv_at hl 5 rfl) ?_
      obtain ⟨r45, σ44, e43, hF⟩ := kbi_e hF
      refine kcX5_pairsBarred S hw cv_X5_187 ⟨Nat.le_of_ble_eq_true rfl, Nat.le_of_ble_eq_true rfl⟩ e43 hl.1 (Nat.le_of_ble_eq_true rfl) dX5_round_120 (fun H locs hw => ?_)
      refine lv_istore (lv' := [(6, .int r45), (0, .ref (ead E 26)), (1, .int a1), (2, .int a2), (3, .int a3), (4, .int a4), (5, .int a5)]) S.1 S.2.1 dX5_round_123 hl (by decide) rfl (fun ls hl => ?_)
      refine lv_iload S.1 S.2.1 dX5_round_125 (lv_at hl 0 rfl) ?_
      refine lv_if_ge (tgt := 137) S.1 S.2.1 dX5_round_127 (by decide) (fun c46 => ?_) (fun c46 => ?_)
      · replace hF := kit hF c46
        refine lv_aload_n S.1 S.2.1 dX5_round_137 rfl (lv_at hl 1 rfl) ?_
        obtain ⟨σ48, e47, hF⟩ := kbv_e hF
        refine kcX5_keepAll S hw cv_X5_190 ⟨Nat.le_of_ble_eq_true rfl, Nat.le_of_ble_eq_true rfl⟩ e47 hl.1 (Nat.le_of_ble_eq_true rfl) dX5_round_138 (fun H locs hw => ?_)
        refine lv_aload_n S.1 S.2.1 dX5_round_141 rfl (lv_at hl 1 rfl) ?_
        refine lv_bipush (v := 60) S.1 S.2.1 dX5_round_142 (by decide) ?_
        refine lv_iload_n S.1 S.2.1 dX5_round_144 rfl (lv_at hl 2 rfl) ?_
        refine lv_imul S.1 S.2.1 dX5_round_145 ?_
        refine lv_iload_n S.1 S.2.1 dX5_round_146 rfl (lv_at hl 4 rfl) ?_
        refine lv_iadd S.1 S.2.1 dX5_round_147 ?_
        refine lv_iload S.1 S.2.1 dX5_round_148 (lv_at hl 5 rfl) ?_
        refine lv_iload S.1 S.2.1 dX5_round_150 (lv_at hl 6 rfl) ?_
        obtain ⟨r51, σ50, e49, hF⟩ := kbi_e hF
        refine kcX5_roundBy S hw cv_X5_193 ⟨Nat.le_of_ble_eq_true rfl, Nat.le_of_ble_eq_true rfl⟩ e49 hl.1 (Nat.le_of_ble_eq_true rfl) dX5_round_152 (fun H locs hw => ?_)
        refine lv_istore (lv' := [(7, .int r51), (6, .int r45), (0, .ref (ead E 26)), (1, .int a1), (2, .int a2), (3, .int a3), (4, .int a4), (5, .int a5)]) S.1 S.2.1 dX5_round_155 hl (by decide) rfl (fun ls hl => ?_)
        refine lv_aload_n S.1 S.2.1 dX5_round_157 rfl (lv_at hl 2 rfl) ?_
        obtain ⟨σ53, e52, hF⟩ := kbv_e hF
        refine kcX5_bringBack S hw cv_X5_197 ⟨Nat.le_of_ble_eq_true rfl, Nat.le_of_ble_eq_true rfl⟩ e52 hl.1 (Nat.le_of_ble_eq_true rfl) dX5_round_158 (fun H locs hw => ?_)
        refine lv_aload_n S.1 S.2.1 dX5_round_161 rfl (lv_at hl 2 rfl) ?_
        refine lv_iload S.1 S.2.1 dX5_round_162 (lv_at hl 0 rfl) ?_
        obtain ⟨r56, σ55, e54, hF⟩ := kbi_e hF
        refine kcX5_refused S hw cv_X5_123 ⟨Nat.le_of_ble_eq_true rfl, Nat.le_of_ble_eq_true rfl⟩ e54 hl.1 (Nat.le_of_ble_eq_true rfl) dX5_round_164 (fun H locs hw => ?_)
        obtain ⟨rfl, rfl⟩ := kret hF
        exact hR _ _ _ _ dX5_round_167 hw (fun h => nomatch h)
      · replace hF := kif hF c46
        refine lv_aload_n S.1 S.2.1 dX5_round_130 rfl (lv_at hl 1 rfl) ?_
        refine lv_iload S.1 S.2.1 dX5_round_131 (lv_at hl 0 rfl) ?_
        obtain ⟨r59, σ58, e57, hF⟩ := kbi_e hF
        refine kcX5_refused S hw cv_X5_123 ⟨Nat.le_of_ble_eq_true rfl, Nat.le_of_ble_eq_true rfl⟩ e57 hl.1 (Nat.le_of_ble_eq_true rfl) dX5_round_133 (fun H locs hw => ?_)
        obtain ⟨rfl, rfl⟩ := kret hF
        exact hR _ _ _ _ dX5_round_136 hw (fun h => nomatch h)
    · replace hF := kif hF c42
      refine lv_iload S.1 S.2.1 dX5_round_108 (lv_at hl 0 rfl) ?_
      obtain ⟨rfl, rfl⟩ := kret hF
      exact hR _ _ _ _ dX5_round_110 hw (fun h => nomatch h)
  · replace hF := kit hF c38
    refine lv_aload_n S.1 S.2.1 dX5_round_80 rfl (lv_at hl 0 rfl) ?_
    refine lv_bipush (v := (-3)) S.1 S.2.1 dX5_round_81 (by decide) ?_
    obtain ⟨r62, σ61, e60, hF⟩ := kbi_e hF
    refine kcX5_refused S hw cv_X5_123 ⟨Nat.le_of_ble_eq_true rfl, Nat.le_of_ble_eq_true rfl⟩ e60 hl.1 (Nat.le_of_ble_eq_true rfl) dX5_round_83 (fun H locs hw => ?_)
    obtain ⟨rfl, rfl⟩ := kret hF
    exact hR _ _ _ _ dX5_round_86 hw (fun h => nomatch h)
set_option maxHeartbeats 4000000 in
set_option maxRecDepth 100000 in
theorem mX5_round {l : Launch} {E : kE} {ω σ σ1 : kS} {r : Int32} {a1 : Int32} {a2 : Int32} {a3 : Int32} {a4 : Int32} {a5 : Int32}  (hF : fX5_round a1 a2 a3 a4 a5 σ = some (r, σ1)) : kMetI l yX5_round cX5_round 8 (some .int) 6 E [.ref (ead E 26), .int a1, .int a2, .int a3, .int a4, .int a5] (cmb ω σ) r (cmb ω σ1) := by
  refine kMetI.of (by decide +kernel) (Nat.le_of_ble_eq_true rfl) (Or.inl rfl) ?_
  intro p e s m args below meth c Q ls S hR hw hl
  have hl : lv_has ls 8 [(0, .ref (ead E 26)), (1, .int a1), (2, .int a2), (3, .int a3), (4, .int a4), (5, .int a5)] := hl
  unfold fX5_round at hF
  refine lv_iload_n S.1 S.2.1 dX5_round_0 rfl (lv_at hl 1 rfl) ?_
  obtain ⟨r3, σ2, e1, hF⟩ := kbi_e hF
  refine kcX5_noSheet S hw cv_X5_119 ⟨Nat.le_of_ble_eq_true rfl, Nat.le_of_ble_eq_true rfl⟩ e1 hl.1 (Nat.le_of_ble_eq_true rfl) dX5_round_1 (fun H locs hw hz4 => ?_)
  refine lv_if_eq (tgt := 13) S.1 S.2.1 dX5_round_4 (by decide) (fun c5 => ?_) (fun c5 => ?_)
  · replace hF := kit hF c5
    refine lv_iload_n S.1 S.2.1 dX5_round_13 rfl (lv_at hl 2 rfl) ?_
    refine lv_i2l S.1 S.2.1 dX5_round_14 rfl ?_
    refine lv_lconst (v := 0) S.1 S.2.1 dX5_round_15 (by decide) ?_
    refine lv_ldc2 (v := 2) S.1 S.2.1 S.2.2.2.1 (S.2.2.2.2 _ q3_82) dX5_round_16 ?_
    obtain ⟨r8, σ7, e6, hF⟩ := kbi_e hF
    refine kcX5_in S hw cv_X5_83 ⟨Nat.le_of_ble_eq_true rfl, Nat.le_of_ble_eq_true rfl⟩ e6 hl.1 (Nat.le_of_ble_eq_true rfl) dX5_round_19 (fun H locs hw hz9 => ?_)
    refine lv_if_eq (tgt := 66) S.1 S.2.1 dX5_round_22 (by decide) (fun c10 => ?_) (fun c10 => ?_)
    · replace hF := kit hF c10
      refine lv_aload_n S.1 S.2.1 dX5_round_66 rfl (lv_at hl 0 rfl) ?_
      refine lv_bipush (v := (-2)) S.1 S.2.1 dX5_round_67 (by decide) ?_
      obtain ⟨r13, σ12, e11, hF⟩ := kbi_e hF
      refine kcX5_refused S hw cv_X5_123 ⟨Nat.le_of_ble_eq_true rfl, Nat.le_of_ble_eq_true rfl⟩ e11 hl.1 (Nat.le_of_ble_eq_true rfl) dX5_round_69 (fun H locs hw => ?_)
      obtain ⟨rfl, rfl⟩ := kret hF
      exact hR _ _ _ _ dX5_round_72 hw (fun h => nomatch h)
    · replace hF := kif hF c10
      refine lv_iload S.1 S.2.1 dX5_round_25 (lv_at hl 4 rfl) ?_
      refine lv_i2l S.1 S.2.1 dX5_round_27 rfl ?_
      refine lv_lconst (v := 0) S.1 S.2.1 dX5_round_28 (by decide) ?_
      refine lv_ldc2 (v := 20) S.1 S.2.1 S.2.2.2.1 (S.2.2.2.2 _ q3_174) dX5_round_29 ?_
      obtain ⟨r16, σ15, e14, hF⟩ := kbi_e hF
      refine kcX5_in S hw cv_X5_83 ⟨Nat.le_of_ble_eq_true rfl, Nat.le_of_ble_eq_true rfl⟩ e14 hl.1 (Nat.le_of_ble_eq_true rfl) dX5_round_32 (fun H locs hw hz17 => ?_)
      refine lv_if_eq (tgt := 66) S.1 S.2.1 dX5_round_35 (by decide) (fun c18 => ?_) (fun c18 => ?_)
      · replace hF := kit hF c18
        refine lv_aload_n S.1 S.2.1 dX5_round_66 rfl (lv_at hl 0 rfl) ?_
        refine lv_bipush (v := (-2)) S.1 S.2.1 dX5_round_67 (by decide) ?_
        obtain ⟨r21, σ20, e19, hF⟩ := kbi_e hF
        refine kcX5_refused S hw cv_X5_123 ⟨Nat.le_of_ble_eq_true rfl, Nat.le_of_ble_eq_true rfl⟩ e19 hl.1 (Nat.le_of_ble_eq_true rfl) dX5_round_69 (fun H locs hw => ?_)
        obtain ⟨rfl, rfl⟩ := kret hF
        exact hR _ _ _ _ dX5_round_72 hw (fun h => nomatch h)
      · replace hF := kif hF c18
        refine lv_iload S.1 S.2.1 dX5_round_38 (lv_at hl 5 rfl) ?_
        refine lv_i2l S.1 S.2.1 dX5_round_40 rfl ?_
        refine lv_lconst (v := 0) S.1 S.2.1 dX5_round_41 (by decide) ?_
        refine lv_ldc2 (v := 3) S.1 S.2.1 S.2.2.2.1 (S.2.2.2.2 _ q3_74) dX5_round_42 ?_
        obtain ⟨r24, σ23, e22, hF⟩ := kbi_e hF
        refine kcX5_in S hw cv_X5_83 ⟨Nat.le_of_ble_eq_true rfl, Nat.le_of_ble_eq_true rfl⟩ e22 hl.1 (Nat.le_of_ble_eq_true rfl) dX5_round_45 (fun H locs hw hz25 => ?_)
        refine lv_if_ne (tgt := 73) S.1 S.2.1 dX5_round_48 (by decide) (fun c26 => ?_) (fun c26 => ?_)
        · replace hF := kif hF c26
          exact wX5_round_J73 S hR a1 a2 a3 a4 a5 _ _ _ _ hF hw (lv_sub hl [0, 1, 2, 3, 4, 5] rfl)
        · replace hF := kit hF c26
          refine lv_iload S.1 S.2.1 dX5_round_51 (lv_at hl 5 rfl) ?_
          refine lv_i2l S.1 S.2.1 dX5_round_53 rfl ?_
          refine lv_ldc2 (v := 10) S.1 S.2.1 S.2.2.2.1 (S.2.2.2.2 _ q3_175) dX5_round_54 ?_
          refine lv_ldc2 (v := 15) S.1 S.2.1 S.2.2.2.1 (S.2.2.2.2 _ q3_176) dX5_round_57 ?_
          obtain ⟨r29, σ28, e27, hF⟩ := kbi_e hF
          refine kcX5_in S hw cv_X5_83 ⟨Nat.le_of_ble_eq_true rfl, Nat.le_of_ble_eq_true rfl⟩ e27 hl.1 (Nat.le_of_ble_eq_true rfl) dX5_round_60 (fun H locs hw hz30 => ?_)
          refine lv_if_ne (tgt := 73) S.1 S.2.1 dX5_round_63 (by decide) (fun c31 => ?_) (fun c31 => ?_)
          · replace hF := kif hF c31
            exact wX5_round_J73 S hR a1 a2 a3 a4 a5 _ _ _ _ hF hw (lv_sub hl [0, 1, 2, 3, 4, 5] rfl)
          · replace hF := kit hF c31
            refine lv_aload_n S.1 S.2.1 dX5_round_66 rfl (lv_at hl 0 rfl) ?_
            refine lv_bipush (v := (-2)) S.1 S.2.1 dX5_round_67 (by decide) ?_
            obtain ⟨r34, σ33, e32, hF⟩ := kbi_e hF
            refine kcX5_refused S hw cv_X5_123 ⟨Nat.le_of_ble_eq_true rfl, Nat.le_of_ble_eq_true rfl⟩ e32 hl.1 (Nat.le_of_ble_eq_true rfl) dX5_round_69 (fun H locs hw => ?_)
            obtain ⟨rfl, rfl⟩ := kret hF
            exact hR _ _ _ _ dX5_round_72 hw (fun h => nomatch h)
  · replace hF := kif hF c5
    refine lv_aload_n S.1 S.2.1 dX5_round_7 rfl (lv_at hl 0 rfl) ?_
    refine lv_iconst (v := (-1)) S.1 S.2.1 dX5_round_8 (by decide) ?_
    obtain ⟨r37, σ36, e35, hF⟩ := kbi_e hF
    refine kcX5_refused S hw cv_X5_123 ⟨Nat.le_of_ble_eq_true rfl, Nat.le_of_ble_eq_true rfl⟩ e35 hl.1 (Nat.le_of_ble_eq_true rfl) dX5_round_9 (fun H locs hw => ?_)
    obtain ⟨rfl, rfl⟩ := kret hF
    exact hR _ _ _ _ dX5_round_12 hw (fun h => nomatch h)
set_option maxRecDepth 100000 in
theorem kcX5_round {p : Program} {l : Launch} {e : Env} {R : Room} {s : State} {m : MethodId} {args : Array Value} {below : List Frame} {meth : Method} {c : Code} {H : Heap} {locs : List Loc} {cells slots : Nat} {Q : State → Prop} {cc : ByteArray} {pc : Nat} {ls : Array Slot} {rest : List Value} {E : kE} {σ ω σ1 : kS} {nL index : Nat} {own : String} {r : Int32} (S : CallFix p m c cc nL s args kBIG own) (hw : kWS E s (cmb ω σ) H locs) (cw : kV own RX5 index yX5_round cX5_round 8 (some .int) 5) (hR : 6 + 1 ≤ R.frames ∧ 8 + (8 + 11) + 40 * 6 ≤ R.locals) {a1 : Int32} {a2 : Int32} {a3 : Int32} {a4 : Int32} {a5 : Int32}  (hF : fX5_round a1 a2 a3 a4 a5 σ = some (r, σ1)) (hls : ls.size = nL) (hW : (rest.map fun v => v.category).sum ≤ 8) (hdg : decode cc pc = .ok (.invokevirtual index, 3)) (kk : ∀ (H1 : Heap) (locs1 : List Loc), kWS E s (cmb ω σ1) H1 locs1 → W p l e R s m args below meth c H1 locs1 cells slots Q (F0 m (pc + 3) ls (.int r :: rest))) (hf : cells ≤ R.cells ∧ slots ≤ R.slots := by exact ⟨Nat.le_of_ble_eq_true rfl, Nat.le_of_ble_eq_true rfl⟩) : W p l e R s m args below meth c H locs cells slots Q (F0 m pc ls (.int a5 :: .int a4 :: .int a3 :: .int a2 :: .int a1 :: .ref (ead E 26) :: rest)) := kr_calli (mc := 0) (y := yX5_round) (b := cX5_round) (n := 0) (lv := 0) (As := []) (ret := some .int) hw (kr_runV (As := [.int a1, .int a2, .int a3, .int a4, .int a5]) (q := 26) S hw ((mX5_round (l := l) (E := E) (ω := ω) hF) H.size) cw hR rfl (by decide) rfl rfl hls _ rfl hW hdg hf) (fun H1 locs1 h _ => kk H1 locs1 h)
set_option maxHeartbeats 4000000 in
set_option maxRecDepth 100000 in
theorem wX5_strict_L21 {p : Program} {l : Launch} {e : Env} {s : State} {m : MethodId} {args : Array Value} {below : List Frame} {meth : Method} {c : Code} {Q : State → Prop} {E : kE} {ω σ1 : kS} {r : Int32} (S : CallFix p m c cX5_strict 5 s args kBIG RX5) (hR : kRetI p l e (rml 4) s m args below meth c cX5_strict E Q (some .int) r (cmb ω σ1))  : ∀ (n : Nat), ∀ (a1 : Int32) (a2 : Int32) (a3 : Int32) (a4 : Int32) (σ : kS) (H : Heap) (locs : List Loc) (ls : Array Slot), fX5_strict_L21 n a1 a2 a3 a4 σ = some (r, σ1) → kWS E s (cmb ω σ) H locs → lv_has ls 5 [(0, .ref (ead E 26)), (1, .int a1), (2, .int a2), (3, .int a3), (4, .int a4)] → W p l e (rml 4) s m args below meth c H locs 0 0 Q (F0 m 21 ls []) := by
  intro n
  induction n with
  | zero =>
    intro a1 a2 a3 a4 σ H locs ls hF hw hl
    exact absurd hF (fun h => nomatch h)
  | succ n ih =>
    intro a1 a2 a3 a4 σ H locs ls hF hw hl
    rw [fX5_strict_L21] at hF
    refine lv_iload S.1 S.2.1 dX5_strict_21 (lv_at hl 4 rfl) ?_
    refine lv_if_lt (tgt := 54) S.1 S.2.1 dX5_strict_23 (by decide) (fun c7 => ?_) (fun c7 => ?_)
    · replace hF := kit hF c7
      refine lv_aload_n S.1 S.2.1 dX5_strict_54 rfl (lv_at hl 0 rfl) ?_
      refine lv_iload_n S.1 S.2.1 dX5_strict_55 rfl (lv_at hl 2 rfl) ?_
      refine pf_X5_138 S hw dX5_strict_56 (fun H locs hw => ?_)
      refine lv_iload_n S.1 S.2.1 dX5_strict_59 rfl (lv_at hl 3 rfl) ?_
      obtain ⟨rfl, rfl⟩ := kret hF
      exact hR _ _ _ _ dX5_strict_60 hw (fun h => nomatch h)
    · replace hF := kif hF c7
      refine lv_aload_n S.1 S.2.1 dX5_strict_26 rfl (lv_at hl 0 rfl) ?_
      refine lv_iload S.1 S.2.1 dX5_strict_27 (lv_at hl 4 rfl) ?_
      refine pf_X5_138 S hw dX5_strict_29 (fun H locs hw => ?_)
      refine lv_aload_n S.1 S.2.1 dX5_strict_32 rfl (lv_at hl 0 rfl) ?_
      refine lv_iload_n S.1 S.2.1 dX5_strict_33 rfl (lv_at hl 1 rfl) ?_
      obtain ⟨r10, σ9, e8, hF⟩ := kbi_e hF
      refine kcX5_goesTo S hw cv_X5_165 ⟨Nat.le_of_ble_eq_true rfl, Nat.le_of_ble_eq_true rfl⟩ e8 hl.1 (Nat.le_of_ble_eq_true rfl) dX5_strict_34 (fun H locs hw => ?_)
      refine lv_iload_n S.1 S.2.1 dX5_strict_37 rfl (lv_at hl 1 rfl) ?_
      refine lv_icmp_ne (tgt := 46) S.1 S.2.1 dX5_strict_38 (by decide) (fun c11 => ?_) (fun c11 => ?_)
      · replace hF := kif hF c11
        refine lv_iload_n S.1 S.2.1 dX5_strict_46 rfl (lv_at hl 3 rfl) ?_
        refine lv_istore_n (lv' := [(3, .int a3), (0, .ref (ead E 26)), (1, .int a1), (2, .int a2), (4, .int a4)]) S.1 S.2.1 dX5_strict_47 rfl hl (by decide) rfl (fun ls hl => ?_)
        obtain ⟨v12, ev12⟩ : ∃ y : Int32, y = a4 + (-1) := ⟨_, rfl⟩
        replace hF := klb hF ev12
        refine lv_iinc (v := v12) (lv' := [(4, .int v12), (3, .int a3), (0, .ref (ead E 26)), (1, .int a1), (2, .int a2)]) S.1 S.2.1 dX5_strict_48 hl (k := 4) rfl (by rw [ev12]; rfl) (by decide) rfl (fun ls hl => ?_)
        refine lv_goto (tgt := 21) S.1 S.2.1 dX5_strict_51 (by decide) ?_
        exact ih a1 a2 a3 v12 _ _ _ _ hF hw (lv_sub hl [2, 3, 4, 1, 0] rfl)
      · replace hF := kit hF c11
        refine lv_iload S.1 S.2.1 dX5_strict_41 (lv_at hl 4 rfl) ?_
        refine lv_goto (tgt := 47) S.1 S.2.1 dX5_strict_43 (by decide) ?_
        refine lv_istore_n (lv' := [(3, .int a4), (0, .ref (ead E 26)), (1, .int a1), (2, .int a2), (4, .int a4)]) S.1 S.2.1 dX5_strict_47 rfl hl (by decide) rfl (fun ls hl => ?_)
        obtain ⟨v13, ev13⟩ : ∃ y : Int32, y = a4 + (-1) := ⟨_, rfl⟩
        replace hF := klb hF ev13
        refine lv_iinc (v := v13) (lv' := [(4, .int v13), (3, .int a4), (0, .ref (ead E 26)), (1, .int a1), (2, .int a2)]) S.1 S.2.1 dX5_strict_48 hl (k := 4) rfl (by rw [ev13]; rfl) (by decide) rfl (fun ls hl => ?_)
        refine lv_goto (tgt := 21) S.1 S.2.1 dX5_strict_51 (by decide) ?_
        exact ih a1 a2 a4 v13 _ _ _ _ hF hw (lv_sub hl [2, 3, 4, 1, 0] rfl)
set_option maxHeartbeats 4000000 in
set_option maxRecDepth 100000 in
theorem mX5_strict {l : Launch} {E : kE} {ω σ σ1 : kS} {r : Int32} {a1 : Int32}  (hF : fX5_strict a1 σ = some (r, σ1)) : kMetI l yX5_strict cX5_strict 5 (some .int) 4 E [.ref (ead E 26), .int a1] (cmb ω σ) r (cmb ω σ1) := by
  refine kMetI.of (by decide +kernel) (Nat.le_of_ble_eq_true rfl) (Or.inl rfl) ?_
  intro p e s m args below meth c Q ls S hR hw hl
  have hl : lv_has ls 5 [(0, .ref (ead E 26)), (1, .int a1)] := hl
  unfold fX5_strict at hF
  refine lv_aload_n S.1 S.2.1 dX5_strict_0 rfl (lv_at hl 0 rfl) ?_
  refine lv_iload_n S.1 S.2.1 dX5_strict_1 rfl (lv_at hl 1 rfl) ?_
  obtain ⟨r3, σ2, e1, hF⟩ := kbi_e hF
  refine kcX5_noPerson S hw cv_X5_162 ⟨Nat.le_of_ble_eq_true rfl, Nat.le_of_ble_eq_true rfl⟩ e1 hl.1 (Nat.le_of_ble_eq_true rfl) dX5_strict_2 (fun H locs hw hz4 => ?_)
  refine lv_if_eq (tgt := 10) S.1 S.2.1 dX5_strict_5 (by decide) (fun c5 => ?_) (fun c5 => ?_)
  · replace hF := kit hF c5
    refine lv_aload_n S.1 S.2.1 dX5_strict_10 rfl (lv_at hl 0 rfl) ?_
    refine gf_X5_138 S hw dX5_strict_11 ?_
    refine lv_topi (fun v6 ev6 => ?_)
    replace hF := klb hF ev6
    refine lv_istore_n (lv' := [(2, .int v6), (0, .ref (ead E 26)), (1, .int a1)]) S.1 S.2.1 dX5_strict_14 rfl hl (by decide) rfl (fun ls hl => ?_)
    refine lv_bipush (v := (-9)) S.1 S.2.1 dX5_strict_15 (by decide) ?_
    refine lv_istore_n (lv' := [(3, .int (-9)), (2, .int v6), (0, .ref (ead E 26)), (1, .int a1)]) S.1 S.2.1 dX5_strict_17 rfl hl (by decide) rfl (fun ls hl => ?_)
    refine lv_iconst (v := 3) S.1 S.2.1 dX5_strict_18 (by decide) ?_
    refine lv_istore (lv' := [(4, .int 3), (3, .int (-9)), (2, .int v6), (0, .ref (ead E 26)), (1, .int a1)]) S.1 S.2.1 dX5_strict_19 hl (by decide) rfl (fun ls hl => ?_)
    exact wX5_strict_L21 S hR 1000 a1 v6 (-9) 3 _ _ _ _ hF hw (lv_sub hl [3, 4, 2, 1, 0] rfl)
  · replace hF := kif hF c5
    refine lv_iconst (v := (-1)) S.1 S.2.1 dX5_strict_8 (by decide) ?_
    obtain ⟨rfl, rfl⟩ := kret hF
    exact hR _ _ _ _ dX5_strict_9 hw (fun h => nomatch h)
set_option maxRecDepth 100000 in
theorem kcX5_strict {p : Program} {l : Launch} {e : Env} {R : Room} {s : State} {m : MethodId} {args : Array Value} {below : List Frame} {meth : Method} {c : Code} {H : Heap} {locs : List Loc} {cells slots : Nat} {Q : State → Prop} {cc : ByteArray} {pc : Nat} {ls : Array Slot} {rest : List Value} {E : kE} {σ ω σ1 : kS} {nL index : Nat} {own : String} {r : Int32} (S : CallFix p m c cc nL s args kBIG own) (hw : kWS E s (cmb ω σ) H locs) (cw : kV own RX5 index yX5_strict cX5_strict 5 (some .int) 1) (hR : 4 + 1 ≤ R.frames ∧ 8 + (5 + 11) + 40 * 4 ≤ R.locals) {a1 : Int32}  (hF : fX5_strict a1 σ = some (r, σ1)) (hls : ls.size = nL) (hW : (rest.map fun v => v.category).sum ≤ 8) (hdg : decode cc pc = .ok (.invokevirtual index, 3)) (kk : ∀ (H1 : Heap) (locs1 : List Loc), kWS E s (cmb ω σ1) H1 locs1 → W p l e R s m args below meth c H1 locs1 cells slots Q (F0 m (pc + 3) ls (.int r :: rest))) (hf : cells ≤ R.cells ∧ slots ≤ R.slots := by exact ⟨Nat.le_of_ble_eq_true rfl, Nat.le_of_ble_eq_true rfl⟩) : W p l e R s m args below meth c H locs cells slots Q (F0 m pc ls (.int a1 :: .ref (ead E 26) :: rest)) := kr_calli (mc := 0) (y := yX5_strict) (b := cX5_strict) (n := 0) (lv := 0) (As := []) (ret := some .int) hw (kr_runV (As := [.int a1]) (q := 26) S hw ((mX5_strict (l := l) (E := E) (ω := ω) hF) H.size) cw hR rfl (by decide) rfl rfl hls _ rfl hW hdg hf) (fun H1 locs1 h _ => kk H1 locs1 h)
set_option maxHeartbeats 4000000 in
set_option maxRecDepth 100000 in
theorem wX5_comeNow_L4 {p : Program} {l : Launch} {e : Env} {s : State} {m : MethodId} {args : Array Value} {below : List Frame} {meth : Method} {c : Code} {Q : State → Prop} {E : kE} {ω σ1 : kS} {r : Int32} (S : CallFix p m c cX5_comeNow 3 s args kBIG RX5) (hR : kRetI p l e (rml 4) s m args below meth c cX5_comeNow E Q (some .int) r (cmb ω σ1))  : ∀ (n : Nat), ∀ (a1 : Int32) (a2 : Int32) (σ : kS) (H : Heap) (locs : List Loc) (ls : Array Slot), fX5_comeNow_L4 n a1 a2 σ = some (r, σ1) → kWS E s (cmb ω σ) H locs → lv_has ls 3 [(0, .ref (ead E 26)), (1, .int a1), (2, .int a2)] → W p l e (rml 4) s m args below meth c H locs 0 0 Q (F0 m 4 ls []) := by
  intro n
  induction n with
  | zero =>
    intro a1 a2 σ H locs ls hF hw hl
    exact absurd hF (fun h => nomatch h)
  | succ n ih =>
    intro a1 a2 σ H locs ls hF hw hl
    rw [fX5_comeNow_L4] at hF
    refine lv_iload_n S.1 S.2.1 dX5_comeNow_4 rfl (lv_at hl 2 rfl) ?_
    refine lv_aload_n S.1 S.2.1 dX5_comeNow_5 rfl (lv_at hl 0 rfl) ?_
    refine gf_X5_80 S hw dX5_comeNow_6 ?_
    refine lv_icmp_ge (tgt := 35) S.1 S.2.1 dX5_comeNow_9 (by decide) (fun c1 => ?_) (fun c1 => ?_)
    · replace hF := kit hF c1
      refine lv_iload_n S.1 S.2.1 dX5_comeNow_35 rfl (lv_at hl 1 rfl) ?_
      obtain ⟨rfl, rfl⟩ := kret hF
      exact hR _ _ _ _ dX5_comeNow_36 hw (fun h => nomatch h)
    · replace hF := kif hF c1
      refine lv_iload_n S.1 S.2.1 dX5_comeNow_12 rfl (lv_at hl 1 rfl) ?_
      refine lv_aload_n S.1 S.2.1 dX5_comeNow_13 rfl (lv_at hl 0 rfl) ?_
      refine lv_iload_n S.1 S.2.1 dX5_comeNow_14 rfl (lv_at hl 2 rfl) ?_
      obtain ⟨r4, σ3, e2, hF⟩ := kbi_e hF
      refine kcX5_goesTo S hw cv_X5_165 ⟨Nat.le_of_ble_eq_true rfl, Nat.le_of_ble_eq_true rfl⟩ e2 hl.1 (Nat.le_of_ble_eq_true rfl) dX5_comeNow_15 (fun H locs hw => ?_)
      refine lv_iload_n S.1 S.2.1 dX5_comeNow_18 rfl (lv_at hl 2 rfl) ?_
      refine lv_icmp_ne (tgt := 26) S.1 S.2.1 dX5_comeNow_19 (by decide) (fun c5 => ?_) (fun c5 => ?_)
      · replace hF := kif hF c5
        refine lv_iconst (v := 0) S.1 S.2.1 dX5_comeNow_26 (by decide) ?_
        refine lv_iadd S.1 S.2.1 dX5_comeNow_27 ?_
        refine lv_topi (fun v6 ev6 => ?_)
        replace hF := klb hF ev6
        refine lv_istore_n (lv' := [(1, .int v6), (0, .ref (ead E 26)), (2, .int a2)]) S.1 S.2.1 dX5_comeNow_28 rfl hl (by decide) rfl (fun ls hl => ?_)
        obtain ⟨v7, ev7⟩ : ∃ y : Int32, y = a2 + 1 := ⟨_, rfl⟩
        replace hF := klb hF ev7
        refine lv_iinc (v := v7) (lv' := [(2, .int v7), (1, .int v6), (0, .ref (ead E 26))]) S.1 S.2.1 dX5_comeNow_29 hl (k := 2) rfl (by rw [ev7]; rfl) (by decide) rfl (fun ls hl => ?_)
        refine lv_goto (tgt := 4) S.1 S.2.1 dX5_comeNow_32 (by decide) ?_
        exact ih v6 v7 _ _ _ _ hF hw (lv_sub hl [2, 1, 0] rfl)
      · replace hF := kit hF c5
        refine lv_iconst (v := 1) S.1 S.2.1 dX5_comeNow_22 (by decide) ?_
        refine lv_goto (tgt := 27) S.1 S.2.1 dX5_comeNow_23 (by decide) ?_
        refine lv_iadd S.1 S.2.1 dX5_comeNow_27 ?_
        refine lv_topi (fun v8 ev8 => ?_)
        replace hF := klb hF ev8
        refine lv_istore_n (lv' := [(1, .int v8), (0, .ref (ead E 26)), (2, .int a2)]) S.1 S.2.1 dX5_comeNow_28 rfl hl (by decide) rfl (fun ls hl => ?_)
        obtain ⟨v9, ev9⟩ : ∃ y : Int32, y = a2 + 1 := ⟨_, rfl⟩
        replace hF := klb hF ev9
        refine lv_iinc (v := v9) (lv' := [(2, .int v9), (1, .int v8), (0, .ref (ead E 26))]) S.1 S.2.1 dX5_comeNow_29 hl (k := 2) rfl (by rw [ev9]; rfl) (by decide) rfl (fun ls hl => ?_)
        refine lv_goto (tgt := 4) S.1 S.2.1 dX5_comeNow_32 (by decide) ?_
        exact ih v8 v9 _ _ _ _ hF hw (lv_sub hl [2, 1, 0] rfl)
set_option maxHeartbeats 4000000 in
set_option maxRecDepth 100000 in
theorem mX5_comeNow {l : Launch} {E : kE} {ω σ σ1 : kS} {r : Int32}   (hF : fX5_comeNow σ = some (r, σ1)) : kMetI l yX5_comeNow cX5_comeNow 3 (some .int) 4 E [.ref (ead E 26)] (cmb ω σ) r (cmb ω σ1) := by
  refine kMetI.of (by decide +kernel) (Nat.le_of_ble_eq_true rfl) (Or.inl rfl) ?_
  intro p e s m args below meth c Q ls S hR hw hl
  have hl : lv_has ls 3 [(0, .ref (ead E 26))] := hl
  unfold fX5_comeNow at hF
  refine lv_iconst (v := 0) S.1 S.2.1 dX5_comeNow_0 (by decide) ?_
  refine lv_istore_n (lv' := [(1, .int 0), (0, .ref (ead E 26))]) S.1 S.2.1 dX5_comeNow_1 rfl hl (by decide) rfl (fun ls hl => ?_)
  refine lv_iconst (v := 0) S.1 S.2.1 dX5_comeNow_2 (by decide) ?_
  refine lv_istore_n (lv' := [(2, .int 0), (1, .int 0), (0, .ref (ead E 26))]) S.1 S.2.1 dX5_comeNow_3 rfl hl (by decide) rfl (fun ls hl => ?_)
  exact wX5_comeNow_L4 S hR 1000 0 0 _ _ _ _ hF hw (lv_sub hl [2, 1, 0] rfl)
set_option maxRecDepth 100000 in
theorem kcX5_comeNow {p : Program} {l : Launch} {e : Env} {R : Room} {s : State} {m : MethodId} {args : Array Value} {below : List Frame} {meth : Method} {c : Code} {H : Heap} {locs : List Loc} {cells slots : Nat} {Q : State → Prop} {cc : ByteArray} {pc : Nat} {ls : Array Slot} {rest : List Value} {E : kE} {σ ω σ1 : kS} {nL index : Nat} {own : String} {r : Int32} (S : CallFix p m c cc nL s args kBIG own) (hw : kWS E s (cmb ω σ) H locs) (cw : kV own RX5 index yX5_comeNow cX5_comeNow 3 (some .int) 0) (hR : 4 + 1 ≤ R.frames ∧ 8 + (3 + 11) + 40 * 4 ≤ R.locals)   (hF : fX5_comeNow σ = some (r, σ1)) (hls : ls.size = nL) (hW : (rest.map fun v => v.category).sum ≤ 8) (hdg : decode cc pc = .ok (.invokevirtual index, 3)) (kk : ∀ (H1 : Heap) (locs1 : List Loc), kWS E s (cmb ω σ1) H1 locs1 → W p l e R s m args below meth c H1 locs1 cells slots Q (F0 m (pc + 3) ls (.int r :: rest))) (hf : cells ≤ R.cells ∧ slots ≤ R.slots := by exact ⟨Nat.le_of_ble_eq_true rfl, Nat.le_of_ble_eq_true rfl⟩) : W p l e R s m args below meth c H locs cells slots Q (F0 m pc ls (.ref (ead E 26) :: rest)) := kr_calli (mc := 0) (y := yX5_comeNow) (b := cX5_comeNow) (n := 0) (lv := 0) (As := []) (ret := some .int) hw (kr_runV (As := []) (q := 26) S hw ((mX5_comeNow (l := l) (E := E) (ω := ω) hF) H.size) cw hR rfl (by decide) rfl rfl hls _ rfl hW hdg hf) (fun H1 locs1 h _ => kk H1 locs1 h)
set_option maxHeartbeats 4000000 in
set_option maxRecDepth 100000 in
theorem wX5_site_J70 {p : Program} {l : Launch} {e : Env} {s : State} {m : MethodId} {args : Array Value} {below : List Frame} {meth : Method} {c : Code} {Q : State → Prop} {E : kE} {ω σ1 : kS} {r : Int32} (S : CallFix p m c cX5_site 7 s args kBIG RX5) (hR : kRetI p l e (rml 5) s m args below meth c cX5_site E Q (some .int) r (cmb ω σ1)) {k38 : Int32 → Int32 → Int32 → Int32 → Int32 → kS → Option (Int32 × kS)} (hk38 : ∀ (a1 : Int32) (a2 : Int32) (a3 : Int32) (a4 : Int32) (a5 : Int32) (σ : kS) (H : Heap) (locs : List Loc) (ls : Array Slot), k38 a1 a2 a3 a4 a5 σ = some (r, σ1) → kWS E s (cmb ω σ) H locs → lv_has ls 7 [(0, .ref (ead E 26)), (1, .int a1), (2, .int a2), (3, .int a3), (4, .int a4), (5, .int a5)] → W p l e (rml 5) s m args below meth c H locs 0 0 Q (F0 m 38 ls [])) : ∀ (a1 : Int32) (a2 : Int32) (a4 : Int32) (a5 : Int32) (a6 : Int32) (as0 : Int32) (σ : kS) (H : Heap) (locs : List Loc) (ls : Array Slot), fX5_site_J70 k38 a1 a2 a4 a5 a6 as0 σ = some (r, σ1) → kWS E s (cmb ω σ) H locs → lv_has ls 7 [(0, .ref (ead E 26)), (1, .int a1), (2, .int a2), (4, .int a4), (5, .int a5), (6, .int a6)] → W p l e (rml 5) s m args below meth c H locs 0 0 Q (F0 m 70 ls [.int as0]) := by
  intro a1 a2 a4 a5 a6 as0 σ H locs ls hF hw hl
  unfold fX5_site_J70 at hF
  refine lv_istore_n (lv' := [(3, .int as0), (0, .ref (ead E 26)), (1, .int a1), (2, .int a2), (4, .int a4), (5, .int a5), (6, .int a6)]) S.1 S.2.1 dX5_site_70 rfl hl (by decide) rfl (fun ls hl => ?_)
  refine lv_iload S.1 S.2.1 dX5_site_71 (lv_at hl 6 rfl) ?_
  refine lv_iload S.1 S.2.1 dX5_site_73 (lv_at hl 4 rfl) ?_
  refine lv_icmp_le (tgt := 83) S.1 S.2.1 dX5_site_75 (by decide) (fun c14 => ?_) (fun c14 => ?_)
  · replace hF := kit hF c14
    refine lv_iload S.1 S.2.1 dX5_site_83 (lv_at hl 4 rfl) ?_
    refine lv_istore (lv' := [(4, .int a4), (3, .int as0), (0, .ref (ead E 26)), (1, .int a1), (2, .int a2), (5, .int a5), (6, .int a6)]) S.1 S.2.1 dX5_site_85 hl (by decide) rfl (fun ls hl => ?_)
    obtain ⟨v15, ev15⟩ : ∃ y : Int32, y = a5 + 1 := ⟨_, rfl⟩
    replace hF := klb hF ev15
    refine lv_iinc (v := v15) (lv' := [(5, .int v15), (4, .int a4), (3, .int as0), (0, .ref (ead E 26)), (1, .int a1), (2, .int a2), (6, .int a6)]) S.1 S.2.1 dX5_site_87 hl (k := 5) rfl (by rw [ev15]; rfl) (by decide) rfl (fun ls hl => ?_)
    refine lv_goto (tgt := 38) S.1 S.2.1 dX5_site_90 (by decide) ?_
    exact hk38 a1 a2 as0 a4 v15 _ _ _ _ hF hw (lv_sub hl [3, 4, 5, 2, 1, 0] rfl)
  · replace hF := kif hF c14
    refine lv_iload S.1 S.2.1 dX5_site_78 (lv_at hl 6 rfl) ?_
    refine lv_goto (tgt := 85) S.1 S.2.1 dX5_site_80 (by decide) ?_
    refine lv_istore (lv' := [(4, .int a6), (3, .int as0), (0, .ref (ead E 26)), (1, .int a1), (2, .int a2), (5, .int a5), (6, .int a6)]) S.1 S.2.1 dX5_site_85 hl (by decide) rfl (fun ls hl => ?_)
    obtain ⟨v16, ev16⟩ : ∃ y : Int32, y = a5 + 1 := ⟨_, rfl⟩
    replace hF := klb hF ev16
    refine lv_iinc (v := v16) (lv' := [(5, .int v16), (4, .int a6), (3, .int as0), (0, .ref (ead E 26)), (1, .int a1), (2, .int a2), (6, .int a6)]) S.1 S.2.1 dX5_site_87 hl (k := 5) rfl (by rw [ev16]; rfl) (by decide) rfl (fun ls hl => ?_)
    refine lv_goto (tgt := 38) S.1 S.2.1 dX5_site_90 (by decide) ?_
    exact hk38 a1 a2 as0 a6 v16 _ _ _ _ hF hw (lv_sub hl [3, 4, 5, 2, 1, 0] rfl)
set_option maxHeartbeats 4000000 in
set_option maxRecDepth 100000 in
theorem wX5_site_L38 {p : Program} {l : Launch} {e : Env} {s : State} {m : MethodId} {args : Array Value} {below : List Frame} {meth : Method} {c : Code} {Q : State → Prop} {E : kE} {ω σ1 : kS} {r : Int32} (S : CallFix p m c cX5_site 7 s args kBIG RX5) (hR : kRetI p l e (rml 5) s m args below meth c cX5_site E Q (some .int) r (cmb ω σ1))  : ∀ (n : Nat), ∀ (a1 : Int32) (a2 : Int32) (a3 : Int32) (a4 : Int32) (a5 : Int32) (σ : kS) (H : Heap) (locs : List Loc) (ls : Array Slot), fX5_site_L38 n a1 a2 a3 a4 a5 σ = some (r, σ1) → kWS E s (cmb ω σ) H locs → lv_has ls 7 [(0, .ref (ead E 26)), (1, .int a1), (2, .int a2), (3, .int a3), (4, .int a4), (5, .int a5)] → W p l e (rml 5) s m args below meth c H locs 0 0 Q (F0 m 38 ls []) := by
  intro n
  induction n with
  | zero =>
    intro a1 a2 a3 a4 a5 σ H locs ls hF hw hl
    exact absurd hF (fun h => nomatch h)
  | succ n ih =>
    intro a1 a2 a3 a4 a5 σ H locs ls hF hw hl
    rw [fX5_site_L38] at hF
    refine lv_iload S.1 S.2.1 dX5_site_38 (lv_at hl 5 rfl) ?_
    refine lv_bipush (v := 10) S.1 S.2.1 dX5_site_40 (by decide) ?_
    refine lv_icmp_ge (tgt := 93) S.1 S.2.1 dX5_site_42 (by decide) (fun c8 => ?_) (fun c8 => ?_)
    · replace hF := kit hF c8
      refine lv_aload_n S.1 S.2.1 dX5_site_93 rfl (lv_at hl 0 rfl) ?_
      refine lv_iload_n S.1 S.2.1 dX5_site_94 rfl (lv_at hl 2 rfl) ?_
      refine pf_X5_135 S hw dX5_site_95 (fun H locs hw => ?_)
      refine lv_iload_n S.1 S.2.1 dX5_site_98 rfl (lv_at hl 1 rfl) ?_
      refine lv_if_ne (tgt := 106) S.1 S.2.1 dX5_site_99 (by decide) (fun c9 => ?_) (fun c9 => ?_)
      · replace hF := kif hF c9
        refine lv_iload S.1 S.2.1 dX5_site_106 (lv_at hl 4 rfl) ?_
        obtain ⟨rfl, rfl⟩ := kret hF
        exact hR _ _ _ _ dX5_site_108 hw (fun h => nomatch h)
      · replace hF := kit hF c9
        refine lv_iload_n S.1 S.2.1 dX5_site_102 rfl (lv_at hl 3 rfl) ?_
        refine lv_goto (tgt := 108) S.1 S.2.1 dX5_site_103 (by decide) ?_
        obtain ⟨rfl, rfl⟩ := kret hF
        exact hR _ _ _ _ dX5_site_108 hw (fun h => nomatch h)
    · replace hF := kif hF c8
      refine lv_aload_n S.1 S.2.1 dX5_site_45 rfl (lv_at hl 0 rfl) ?_
      refine lv_iload S.1 S.2.1 dX5_site_46 (lv_at hl 5 rfl) ?_
      refine pf_X5_135 S hw dX5_site_48 (fun H locs hw => ?_)
      refine lv_aload_n S.1 S.2.1 dX5_site_51 rfl (lv_at hl 0 rfl) ?_
      obtain ⟨r12, σ11, e10, hF⟩ := kbi_e hF
      refine kcX5_comeNow S hw cv_X5_200 ⟨Nat.le_of_ble_eq_true rfl, Nat.le_of_ble_eq_true rfl⟩ e10 hl.1 (Nat.le_of_ble_eq_true rfl) dX5_site_52 (fun H locs hw => ?_)
      refine lv_istore (lv' := [(6, .int r12), (0, .ref (ead E 26)), (1, .int a1), (2, .int a2), (3, .int a3), (4, .int a4), (5, .int a5)]) S.1 S.2.1 dX5_site_55 hl (by decide) rfl (fun ls hl => ?_)
      refine lv_iload S.1 S.2.1 dX5_site_57 (lv_at hl 0 rfl) ?_
      refine lv_iload S.1 S.2.1 dX5_site_59 (lv_at hl 5 rfl) ?_
      refine lv_icmp_le (tgt := 69) S.1 S.2.1 dX5_site_61 (by decide) (fun c13 => ?_) (fun c13 => ?_)
      · replace hF := kit hF c13
        refine lv_iload_n S.1 S.2.1 dX5_site_69 rfl (lv_at hl 4 rfl) ?_
        exact wX5_site_J70 S hR ih a1 a2 a4 a5 r12 a3 _ _ _ _ hF hw (lv_sub hl [1, 2, 3, 5, 6, 0] rfl)
      · replace hF := kif hF c13
        refine lv_iload S.1 S.2.1 dX5_site_64 (lv_at hl 6 rfl) ?_
        refine lv_goto (tgt := 70) S.1 S.2.1 dX5_site_66 (by decide) ?_
        exact wX5_site_J70 S hR ih a1 a2 a4 a5 r12 a5 _ _ _ _ hF hw (lv_sub hl [1, 2, 3, 5, 6, 0] rfl)
set_option maxHeartbeats 4000000 in
set_option maxRecDepth 100000 in
theorem mX5_site {l : Launch} {E : kE} {ω σ σ1 : kS} {r : Int32} {a1 : Int32}  (hF : fX5_site a1 σ = some (r, σ1)) : kMetI l yX5_site cX5_site 7 (some .int) 5 E [.ref (ead E 26), .int a1] (cmb ω σ) r (cmb ω σ1) := by
  refine kMetI.of (by decide +kernel) (Nat.le_of_ble_eq_true rfl) (Or.inl rfl) ?_
  intro p e s m args below meth c Q ls S hR hw hl
  have hl : lv_has ls 7 [(0, .ref (ead E 26)), (1, .int a1)] := hl
  unfold fX5_site at hF
  refine lv_aload_n S.1 S.2.1 dX5_site_0 rfl (lv_at hl 0 rfl) ?_
  refine gf_X5_80 S hw dX5_site_1 ?_
  refine lv_if_ne (tgt := 10) S.1 S.2.1 dX5_site_4 (by decide) (fun c1 => ?_) (fun c1 => ?_)
  · replace hF := kif hF c1
    refine lv_iload_n S.1 S.2.1 dX5_site_10 rfl (lv_at hl 1 rfl) ?_
    refine lv_i2l S.1 S.2.1 dX5_site_11 rfl ?_
    refine lv_lconst (v := 0) S.1 S.2.1 dX5_site_12 (by decide) ?_
    refine lv_lconst (v := 1) S.1 S.2.1 dX5_site_13 (by decide) ?_
    obtain ⟨r4, σ3, e2, hF⟩ := kbi_e hF
    refine kcX5_in S hw cv_X5_83 ⟨Nat.le_of_ble_eq_true rfl, Nat.le_of_ble_eq_true rfl⟩ e2 hl.1 (Nat.le_of_ble_eq_true rfl) dX5_site_14 (fun H locs hw hz5 => ?_)
    refine lv_if_ne (tgt := 23) S.1 S.2.1 dX5_site_17 (by decide) (fun c6 => ?_) (fun c6 => ?_)
    · replace hF := kif hF c6
      refine lv_aload_n S.1 S.2.1 dX5_site_23 rfl (lv_at hl 0 rfl) ?_
      refine gf_X5_135 S hw dX5_site_24 ?_
      refine lv_topi (fun v7 ev7 => ?_)
      replace hF := klb hF ev7
      refine lv_istore_n (lv' := [(2, .int v7), (0, .ref (ead E 26)), (1, .int a1)]) S.1 S.2.1 dX5_site_27 rfl hl (by decide) rfl (fun ls hl => ?_)
      refine lv_bipush (v := (-9)) S.1 S.2.1 dX5_site_28 (by decide) ?_
      refine lv_istore_n (lv' := [(3, .int (-9)), (2, .int v7), (0, .ref (ead E 26)), (1, .int a1)]) S.1 S.2.1 dX5_site_30 rfl hl (by decide) rfl (fun ls hl => ?_)
      refine lv_bipush (v := (-9)) S.1 S.2.1 dX5_site_31 (by decide) ?_
      refine lv_istore (lv' := [(4, .int (-9)), (3, .int (-9)), (2, .int v7), (0, .ref (ead E 26)), (1, .int a1)]) S.1 S.2.1 dX5_site_33 hl (by decide) rfl (fun ls hl => ?_)
      refine lv_iconst (v := 0) S.1 S.2.1 dX5_site_35 (by decide) ?_
      refine lv_istore (lv' := [(5, .int 0), (4, .int (-9)), (3, .int (-9)), (2, .int v7), (0, .ref (ead E 26)), (1, .int a1)]) S.1 S.2.1 dX5_site_36 hl (by decide) rfl (fun ls hl => ?_)
      exact wX5_site_L38 S hR 1000 a1 v7 (-9) (-9) 0 _ _ _ _ hF hw (lv_sub hl [4, 5, 3, 2, 1, 0] rfl)
    · replace hF := kit hF c6
      refine lv_bipush (v := (-2)) S.1 S.2.1 dX5_site_20 (by decide) ?_
      obtain ⟨rfl, rfl⟩ := kret hF
      exact hR _ _ _ _ dX5_site_22 hw (fun h => nomatch h)
  · replace hF := kit hF c1
    refine lv_bipush (v := (-3)) S.1 S.2.1 dX5_site_7 (by decide) ?_
    obtain ⟨rfl, rfl⟩ := kret hF
    exact hR _ _ _ _ dX5_site_9 hw (fun h => nomatch h)
set_option maxRecDepth 100000 in
theorem kcX5_site {p : Program} {l : Launch} {e : Env} {R : Room} {s : State} {m : MethodId} {args : Array Value} {below : List Frame} {meth : Method} {c : Code} {H : Heap} {locs : List Loc} {cells slots : Nat} {Q : State → Prop} {cc : ByteArray} {pc : Nat} {ls : Array Slot} {rest : List Value} {E : kE} {σ ω σ1 : kS} {nL index : Nat} {own : String} {r : Int32} (S : CallFix p m c cc nL s args kBIG own) (hw : kWS E s (cmb ω σ) H locs) (cw : kV own RX5 index yX5_site cX5_site 7 (some .int) 1) (hR : 5 + 1 ≤ R.frames ∧ 8 + (7 + 11) + 40 * 5 ≤ R.locals) {a1 : Int32}  (hF : fX5_site a1 σ = some (r, σ1)) (hls : ls.size = nL) (hW : (rest.map fun v => v.category).sum ≤ 8) (hdg : decode cc pc = .ok (.invokevirtual index, 3)) (kk : ∀ (H1 : Heap) (locs1 : List Loc), kWS E s (cmb ω σ1) H1 locs1 → W p l e R s m args below meth c H1 locs1 cells slots Q (F0 m (pc + 3) ls (.int r :: rest))) (hf : cells ≤ R.cells ∧ slots ≤ R.slots := by exact ⟨Nat.le_of_ble_eq_true rfl, Nat.le_of_ble_eq_true rfl⟩) : W p l e R s m args below meth c H locs cells slots Q (F0 m pc ls (.int a1 :: .ref (ead E 26) :: rest)) := kr_calli (mc := 0) (y := yX5_site) (b := cX5_site) (n := 0) (lv := 0) (As := []) (ret := some .int) hw (kr_runV (As := [.int a1]) (q := 26) S hw ((mX5_site (l := l) (E := E) (ω := ω) hF) H.size) cw hR rfl (by decide) rfl rfl hls _ rfl hW hdg hf) (fun H1 locs1 h _ => kk H1 locs1 h)
set_option maxHeartbeats 4000000 in
set_option maxRecDepth 100000 in
theorem mX5_exchange {l : Launch} {E : kE} {ω σ σ1 : kS} {a1 : Int32} {a2 : Int32}  (hF : fX5_exchange a1 a2 σ = some σ1) : kMetV l yX5_exchange cX5_exchange 4 0 E [.ref (ead E 26), .int a1, .int a2] (cmb ω σ) (cmb ω σ1) := by
  refine kMetV.of (by decide +kernel) (Nat.le_of_ble_eq_true rfl) ?_
  intro p e s m args below meth c Q ls S hR hw hl
  have hl : lv_has ls 4 [(0, .ref (ead E 26)), (1, .int a1), (2, .int a2)] := hl
  unfold fX5_exchange at hF
  refine lv_aload_n S.1 S.2.1 dX5_exchange_0 rfl (lv_at hl 0 rfl) ?_
  refine gf_X5_43 S hw dX5_exchange_1 ?_
  refine lv_iload_n S.1 S.2.1 dX5_exchange_4 rfl (lv_at hl 1 rfl) ?_
  obtain ⟨hb1, hF⟩ := kin hF
  refine km_iald (q := 12) S hw rfl (Nat.le_of_ble_eq_true rfl) hb1 dX5_exchange_5 ?_
  refine lv_topi (fun v2 ev2 => ?_)
  replace hF := klb hF ev2
  refine lv_istore_n (lv' := [(3, .int v2), (0, .ref (ead E 26)), (1, .int a1), (2, .int a2)]) S.1 S.2.1 dX5_exchange_6 rfl hl (by decide) rfl (fun ls hl => ?_)
  refine lv_aload_n S.1 S.2.1 dX5_exchange_7 rfl (lv_at hl 1 rfl) ?_
  refine gf_X5_43 S hw dX5_exchange_8 ?_
  refine lv_iload_n S.1 S.2.1 dX5_exchange_11 rfl (lv_at hl 2 rfl) ?_
  refine lv_aload_n S.1 S.2.1 dX5_exchange_12 rfl (lv_at hl 1 rfl) ?_
  refine gf_X5_43 S hw dX5_exchange_13 ?_
  refine lv_iload_n S.1 S.2.1 dX5_exchange_16 rfl (lv_at hl 3 rfl) ?_
  obtain ⟨hb3, hF⟩ := kin hF
  refine km_iald (q := 12) S hw rfl (Nat.le_of_ble_eq_true rfl) hb3 dX5_exchange_17 ?_
  obtain ⟨hb4, hF⟩ := kin hF
  refine km_iast (q := 12) S hw rfl (Nat.le_of_ble_eq_true rfl) hb4 dX5_exchange_18 (fun H locs hw => ?_)
  refine lv_aload_n S.1 S.2.1 dX5_exchange_19 rfl (lv_at hl 1 rfl) ?_
  refine gf_X5_43 S hw dX5_exchange_20 ?_
  refine lv_iload_n S.1 S.2.1 dX5_exchange_23 rfl (lv_at hl 3 rfl) ?_
  refine lv_iload_n S.1 S.2.1 dX5_exchange_24 rfl (lv_at hl 0 rfl) ?_
  obtain ⟨hb5, hF⟩ := kin hF
  refine km_iast (q := 12) S hw rfl (Nat.le_of_ble_eq_true rfl) hb5 dX5_exchange_25 (fun H locs hw => ?_)
  cases kre hF
  exact hR _ _ _ _ dX5_exchange_26 hw
set_option maxRecDepth 100000 in
theorem kcX5_exchange {p : Program} {l : Launch} {e : Env} {R : Room} {s : State} {m : MethodId} {args : Array Value} {below : List Frame} {meth : Method} {c : Code} {H : Heap} {locs : List Loc} {cells slots : Nat} {Q : State → Prop} {cc : ByteArray} {pc : Nat} {ls : Array Slot} {rest : List Value} {E : kE} {σ ω σ1 : kS} {nL index : Nat} {own : String} (S : CallFix p m c cc nL s args kBIG own) (hw : kWS E s (cmb ω σ) H locs) (cw : kV own RX5 index yX5_exchange cX5_exchange 4 none 2) (hR : 0 + 1 ≤ R.frames ∧ 8 + (4 + 11) + 40 * 0 ≤ R.locals) {a1 : Int32} {a2 : Int32}  (hF : fX5_exchange a1 a2 σ = some σ1) (hls : ls.size = nL) (hW : (rest.map fun v => v.category).sum ≤ 8) (hdg : decode cc pc = .ok (.invokevirtual index, 3)) (kk : ∀ (H1 : Heap) (locs1 : List Loc), kWS E s (cmb ω σ1) H1 locs1 → W p l e R s m args below meth c H1 locs1 cells slots Q (F0 m (pc + 3) ls rest)) (hf : cells ≤ R.cells ∧ slots ≤ R.slots := by exact ⟨Nat.le_of_ble_eq_true rfl, Nat.le_of_ble_eq_true rfl⟩) : W p l e R s m args below meth c H locs cells slots Q (F0 m pc ls (.int a2 :: .int a1 :: .ref (ead E 26) :: rest)) := kr_callv hw (kr_runV (As := [.int a1, .int a2]) (q := 26) S hw ((mX5_exchange (l := l) (E := E) (ω := ω) hF) H.size) cw hR rfl (by decide) rfl rfl hls _ rfl hW hdg hf) kk
set_option maxHeartbeats 4000000 in
set_option maxRecDepth 100000 in
theorem wX5_nextOrder_L86 {p : Program} {l : Launch} {e : Env} {s : State} {m : MethodId} {args : Array Value} {below : List Frame} {meth : Method} {c : Code} {Q : State → Prop} {E : kE} {ω σ1 : kS} {r : Int32} (S : CallFix p m c cX5_nextOrder 5 s args kBIG RX5) (hR : kRetI p l e (rml 1) s m args below meth c cX5_nextOrder E Q (some .boolean) r (cmb ω σ1))  : ∀ (n : Nat), ∀ (a3 : Int32) (a4 : Int32) (σ : kS) (H : Heap) (locs : List Loc) (ls : Array Slot), fX5_nextOrder_L86 n a3 a4 σ = some (r, σ1) → kWS E s (cmb ω σ) H locs → lv_has ls 5 [(0, .ref (ead E 26)), (3, .int a3), (4, .int a4)] → W p l e (rml 1) s m args below meth c H locs 0 0 Q (F0 m 86 ls []) := by
  intro n
  induction n with
  | zero =>
    intro a3 a4 σ H locs ls hF hw hl
    exact absurd hF (fun h => nomatch h)
  | succ n ih =>
    intro a3 a4 σ H locs ls hF hw hl
    rw [fX5_nextOrder_L86] at hF
    refine lv_iload S.1 S.2.1 dX5_nextOrder_86 (lv_at hl 2 rfl) ?_
    refine lv_iload_n S.1 S.2.1 dX5_nextOrder_88 rfl (lv_at hl 1 rfl) ?_
    refine lv_icmp_le (tgt := 108) S.1 S.2.1 dX5_nextOrder_89 (by decide) (fun c19 => ?_) (fun c19 => ?_)
    · replace hF := kit hF c19
      refine lv_iconst (v := 1) S.1 S.2.1 dX5_nextOrder_108 (by decide) ?_
      obtain ⟨rfl, rfl⟩ := kret hF
      exact hR _ _ _ _ dX5_nextOrder_109 hw (fun _ => (Or.inr rfl))
    · replace hF := kif hF c19
      refine lv_aload_n S.1 S.2.1 dX5_nextOrder_92 rfl (lv_at hl 0 rfl) ?_
      refine lv_iload_n S.1 S.2.1 dX5_nextOrder_93 rfl (lv_at hl 1 rfl) ?_
      refine lv_iload S.1 S.2.1 dX5_nextOrder_94 (lv_at hl 2 rfl) ?_
      obtain ⟨σ21, e20, hF⟩ := kbv_e hF
      refine kcX5_exchange S hw cv_X5_204 ⟨Nat.le_of_ble_eq_true rfl, Nat.le_of_ble_eq_true rfl⟩ e20 hl.1 (Nat.le_of_ble_eq_true rfl) dX5_nextOrder_96 (fun H locs hw => ?_)
      obtain ⟨v22, ev22⟩ : ∃ y : Int32, y = a3 + 1 := ⟨_, rfl⟩
      replace hF := klb hF ev22
      refine lv_iinc (v := v22) (lv' := [(3, .int v22), (0, .ref (ead E 26)), (4, .int a4)]) S.1 S.2.1 dX5_nextOrder_99 hl (k := 1) rfl (by rw [ev22]; rfl) (by decide) rfl (fun ls hl => ?_)
      obtain ⟨v23, ev23⟩ : ∃ y : Int32, y = a4 + (-1) := ⟨_, rfl⟩
      replace hF := klb hF ev23
      refine lv_iinc (v := v23) (lv' := [(4, .int v23), (3, .int v22), (0, .ref (ead E 26))]) S.1 S.2.1 dX5_nextOrder_102 hl (k := 2) rfl (by rw [ev23]; rfl) (by decide) rfl (fun ls hl => ?_)
      refine lv_goto (tgt := 86) S.1 S.2.1 dX5_nextOrder_105 (by decide) ?_
      exact ih v22 v23 _ _ _ _ hF hw (lv_sub hl [2, 1, 0] rfl)
set_option maxHeartbeats 4000000 in
set_option maxRecDepth 100000 in
theorem wX5_nextOrder_L47 {p : Program} {l : Launch} {e : Env} {s : State} {m : MethodId} {args : Array Value} {below : List Frame} {meth : Method} {c : Code} {Q : State → Prop} {E : kE} {ω σ1 : kS} {r : Int32} (S : CallFix p m c cX5_nextOrder 5 s args kBIG RX5) (hR : kRetI p l e (rml 1) s m args below meth c cX5_nextOrder E Q (some .boolean) r (cmb ω σ1))  : ∀ (n : Nat), ∀ (a1 : Int32) (a2 : Int32) (σ : kS) (H : Heap) (locs : List Loc) (ls : Array Slot), fX5_nextOrder_L47 n a1 a2 σ = some (r, σ1) → kWS E s (cmb ω σ) H locs → lv_has ls 5 [(0, .ref (ead E 26)), (1, .int a1), (2, .int a2)] → W p l e (rml 1) s m args below meth c H locs 0 0 Q (F0 m 47 ls []) := by
  intro n
  induction n with
  | zero =>
    intro a1 a2 σ H locs ls hF hw hl
    exact absurd hF (fun h => nomatch h)
  | succ n ih =>
    intro a1 a2 σ H locs ls hF hw hl
    rw [fX5_nextOrder_L47] at hF
    refine lv_aload_n S.1 S.2.1 dX5_nextOrder_47 rfl (lv_at hl 0 rfl) ?_
    refine gf_X5_43 S hw dX5_nextOrder_48 ?_
    refine lv_iload_n S.1 S.2.1 dX5_nextOrder_51 rfl (lv_at hl 2 rfl) ?_
    obtain ⟨hb11, hF⟩ := kin hF
    refine km_iald (q := 12) S hw rfl (Nat.le_of_ble_eq_true rfl) hb11 dX5_nextOrder_52 ?_
    refine lv_aload_n S.1 S.2.1 dX5_nextOrder_53 rfl (lv_at hl 0 rfl) ?_
    refine gf_X5_43 S hw dX5_nextOrder_54 ?_
    refine lv_iload_n S.1 S.2.1 dX5_nextOrder_57 rfl (lv_at hl 1 rfl) ?_
    obtain ⟨hb12, hF⟩ := kin hF
    refine km_iald (q := 12) S hw rfl (Nat.le_of_ble_eq_true rfl) hb12 dX5_nextOrder_58 ?_
    refine lv_icmp_ge (tgt := 68) S.1 S.2.1 dX5_nextOrder_59 (by decide) (fun c13 => ?_) (fun c13 => ?_)
    · replace hF := kit hF c13
      refine lv_aload_n S.1 S.2.1 dX5_nextOrder_68 rfl (lv_at hl 0 rfl) ?_
      refine lv_iload_n S.1 S.2.1 dX5_nextOrder_69 rfl (lv_at hl 1 rfl) ?_
      refine lv_iload_n S.1 S.2.1 dX5_nextOrder_70 rfl (lv_at hl 2 rfl) ?_
      obtain ⟨σ15, e14, hF⟩ := kbv_e hF
      refine kcX5_exchange S hw cv_X5_204 ⟨Nat.le_of_ble_eq_true rfl, Nat.le_of_ble_eq_true rfl⟩ e14 hl.1 (Nat.le_of_ble_eq_true rfl) dX5_nextOrder_71 (fun H locs hw => ?_)
      refine lv_iload_n S.1 S.2.1 dX5_nextOrder_74 rfl (lv_at hl 1 rfl) ?_
      refine lv_iconst (v := 1) S.1 S.2.1 dX5_nextOrder_75 (by decide) ?_
      refine lv_iadd S.1 S.2.1 dX5_nextOrder_76 ?_
      refine lv_topi (fun v16 ev16 => ?_)
      replace hF := klb hF ev16
      refine lv_istore_n (lv' := [(3, .int v16), (0, .ref (ead E 26)), (1, .int a1), (2, .int a2)]) S.1 S.2.1 dX5_nextOrder_77 rfl hl (by decide) rfl (fun ls hl => ?_)
      refine lv_aload_n S.1 S.2.1 dX5_nextOrder_78 rfl (lv_at hl 1 rfl) ?_
      refine gf_X5_80 S hw dX5_nextOrder_79 ?_
      refine lv_iconst (v := 1) S.1 S.2.1 dX5_nextOrder_82 (by decide) ?_
      refine lv_isub S.1 S.2.1 dX5_nextOrder_83 ?_
      refine lv_topi (fun v17 ev17 => ?_)
      replace hF := klb hF ev17
      refine lv_istore (lv' := [(4, .int v17), (3, .int v16), (0, .ref (ead E 26)), (1, .int a1), (2, .int a2)]) S.1 S.2.1 dX5_nextOrder_84 hl (by decide) rfl (fun ls hl => ?_)
      exact wX5_nextOrder_L86 S hR 1000 v16 v17 _ _ _ _ hF hw (lv_sub hl [2, 1, 0] rfl)
    · replace hF := kif hF c13
      obtain ⟨v18, ev18⟩ : ∃ y : Int32, y = a2 + (-1) := ⟨_, rfl⟩
      replace hF := klb hF ev18
      refine lv_iinc (v := v18) (lv' := [(2, .int v18), (0, .ref (ead E 26)), (1, .int a1)]) S.1 S.2.1 dX5_nextOrder_62 hl (k := 2) rfl (by rw [ev18]; rfl) (by decide) rfl (fun ls hl => ?_)
      refine lv_goto (tgt := 47) S.1 S.2.1 dX5_nextOrder_65 (by decide) ?_
      exact ih a1 v18 _ _ _ _ hF hw (lv_sub hl [1, 2, 0] rfl)
set_option maxHeartbeats 4000000 in
set_option maxRecDepth 100000 in
theorem wX5_nextOrder_L7 {p : Program} {l : Launch} {e : Env} {s : State} {m : MethodId} {args : Array Value} {below : List Frame} {meth : Method} {c : Code} {Q : State → Prop} {E : kE} {ω σ1 : kS} {r : Int32} (S : CallFix p m c cX5_nextOrder 5 s args kBIG RX5) (hR : kRetI p l e (rml 1) s m args below meth c cX5_nextOrder E Q (some .boolean) r (cmb ω σ1))  : ∀ (n : Nat), ∀ (a1 : Int32) (σ : kS) (H : Heap) (locs : List Loc) (ls : Array Slot), fX5_nextOrder_L7 n a1 σ = some (r, σ1) → kWS E s (cmb ω σ) H locs → lv_has ls 5 [(0, .ref (ead E 26)), (1, .int a1)] → W p l e (rml 1) s m args below meth c H locs 0 0 Q (F0 m 7 ls []) := by
  intro n
  induction n with
  | zero =>
    intro a1 σ H locs ls hF hw hl
    exact absurd hF (fun h => nomatch h)
  | succ n ih =>
    intro a1 σ H locs ls hF hw hl
    rw [fX5_nextOrder_L7] at hF
    refine lv_iload_n S.1 S.2.1 dX5_nextOrder_7 rfl (lv_at hl 1 rfl) ?_
    refine lv_if_lt (tgt := 34) S.1 S.2.1 dX5_nextOrder_8 (by decide) (fun c2 => ?_) (fun c2 => ?_)
    · replace hF := kit hF c2
      refine lv_iload_n S.1 S.2.1 dX5_nextOrder_34 rfl (lv_at hl 1 rfl) ?_
      refine lv_if_ge (tgt := 40) S.1 S.2.1 dX5_nextOrder_35 (by decide) (fun c3 => ?_) (fun c3 => ?_)
      · replace hF := kit hF c3
        refine lv_aload_n S.1 S.2.1 dX5_nextOrder_40 rfl (lv_at hl 0 rfl) ?_
        refine gf_X5_80 S hw dX5_nextOrder_41 ?_
        refine lv_iconst (v := 1) S.1 S.2.1 dX5_nextOrder_44 (by decide) ?_
        refine lv_isub S.1 S.2.1 dX5_nextOrder_45 ?_
        refine lv_topi (fun v4 ev4 => ?_)
        replace hF := klb hF ev4
        refine lv_istore_n (lv' := [(2, .int v4), (0, .ref (ead E 26)), (1, .int a1)]) S.1 S.2.1 dX5_nextOrder_46 rfl hl (by decide) rfl (fun ls hl => ?_)
        exact wX5_nextOrder_L47 S hR 1000 a1 v4 _ _ _ _ hF hw (lv_sub hl [1, 2, 0] rfl)
      · replace hF := kif hF c3
        refine lv_iconst (v := 0) S.1 S.2.1 dX5_nextOrder_38 (by decide) ?_
        obtain ⟨rfl, rfl⟩ := kret hF
        exact hR _ _ _ _ dX5_nextOrder_39 hw (fun _ => (Or.inl rfl))
    · replace hF := kif hF c2
      refine lv_aload_n S.1 S.2.1 dX5_nextOrder_11 rfl (lv_at hl 0 rfl) ?_
      refine gf_X5_43 S hw dX5_nextOrder_12 ?_
      refine lv_iload_n S.1 S.2.1 dX5_nextOrder_15 rfl (lv_at hl 1 rfl) ?_
      obtain ⟨hb5, hF⟩ := kin hF
      refine km_iald (q := 12) S hw rfl (Nat.le_of_ble_eq_true rfl) hb5 dX5_nextOrder_16 ?_
      refine lv_aload_n S.1 S.2.1 dX5_nextOrder_17 rfl (lv_at hl 0 rfl) ?_
      refine gf_X5_43 S hw dX5_nextOrder_18 ?_
      refine lv_iload_n S.1 S.2.1 dX5_nextOrder_21 rfl (lv_at hl 1 rfl) ?_
      refine lv_iconst (v := 1) S.1 S.2.1 dX5_nextOrder_22 (by decide) ?_
      refine lv_iadd S.1 S.2.1 dX5_nextOrder_23 ?_
      obtain ⟨hb6, hF⟩ := kin hF
      refine km_iald (q := 12) S hw rfl (Nat.le_of_ble_eq_true rfl) hb6 dX5_nextOrder_24 ?_
      refine lv_icmp_le (tgt := 34) S.1 S.2.1 dX5_nextOrder_25 (by decide) (fun c7 => ?_) (fun c7 => ?_)
      · replace hF := kit hF c7
        refine lv_iload_n S.1 S.2.1 dX5_nextOrder_34 rfl (lv_at hl 1 rfl) ?_
        refine lv_if_ge (tgt := 40) S.1 S.2.1 dX5_nextOrder_35 (by decide) (fun c8 => ?_) (fun c8 => ?_)
        · replace hF := kit hF c8
          refine lv_aload_n S.1 S.2.1 dX5_nextOrder_40 rfl (lv_at hl 0 rfl) ?_
          refine gf_X5_80 S hw dX5_nextOrder_41 ?_
          refine lv_iconst (v := 1) S.1 S.2.1 dX5_nextOrder_44 (by decide) ?_
          refine lv_isub S.1 S.2.1 dX5_nextOrder_45 ?_
          refine lv_topi (fun v9 ev9 => ?_)
          replace hF := klb hF ev9
          refine lv_istore_n (lv' := [(2, .int v9), (0, .ref (ead E 26)), (1, .int a1)]) S.1 S.2.1 dX5_nextOrder_46 rfl hl (by decide) rfl (fun ls hl => ?_)
          exact wX5_nextOrder_L47 S hR 1000 a1 v9 _ _ _ _ hF hw (lv_sub hl [1, 2, 0] rfl)
        · replace hF := kif hF c8
          refine lv_iconst (v := 0) S.1 S.2.1 dX5_nextOrder_38 (by decide) ?_
          obtain ⟨rfl, rfl⟩ := kret hF
          exact hR _ _ _ _ dX5_nextOrder_39 hw (fun _ => (Or.inl rfl))
      · replace hF := kif hF c7
        obtain ⟨v10, ev10⟩ : ∃ y : Int32, y = a1 + (-1) := ⟨_, rfl⟩
        replace hF := klb hF ev10
        refine lv_iinc (v := v10) (lv' := [(1, .int v10), (0, .ref (ead E 26))]) S.1 S.2.1 dX5_nextOrder_28 hl (k := 1) rfl (by rw [ev10]; rfl) (by decide) rfl (fun ls hl => ?_)
        refine lv_goto (tgt := 7) S.1 S.2.1 dX5_nextOrder_31 (by decide) ?_
        exact ih v10 _ _ _ _ hF hw (lv_sub hl [1, 0] rfl)
set_option maxHeartbeats 4000000 in
set_option maxRecDepth 100000 in
theorem mX5_nextOrder {l : Launch} {E : kE} {ω σ σ1 : kS} {r : Int32}   (hF : fX5_nextOrder σ = some (r, σ1)) : kMetI l yX5_nextOrder cX5_nextOrder 5 (some .boolean) 1 E [.ref (ead E 26)] (cmb ω σ) r (cmb ω σ1) := by
  refine kMetI.of (by decide +kernel) (Nat.le_of_ble_eq_true rfl) (Or.inr rfl) ?_
  intro p e s m args below meth c Q ls S hR hw hl
  have hl : lv_has ls 5 [(0, .ref (ead E 26))] := hl
  unfold fX5_nextOrder at hF
  refine lv_aload_n S.1 S.2.1 dX5_nextOrder_0 rfl (lv_at hl 0 rfl) ?_
  refine gf_X5_80 S hw dX5_nextOrder_1 ?_
  refine lv_iconst (v := 2) S.1 S.2.1 dX5_nextOrder_4 (by decide) ?_
  refine lv_isub S.1 S.2.1 dX5_nextOrder_5 ?_
  refine lv_topi (fun v1 ev1 => ?_)
  replace hF := klb hF ev1
  refine lv_istore_n (lv' := [(1, .int v1), (0, .ref (ead E 26))]) S.1 S.2.1 dX5_nextOrder_6 rfl hl (by decide) rfl (fun ls hl => ?_)
  exact wX5_nextOrder_L7 S hR 1000 v1 _ _ _ _ hF hw (lv_sub hl [1, 0] rfl)
set_option maxRecDepth 100000 in
theorem kcX5_nextOrder {p : Program} {l : Launch} {e : Env} {R : Room} {s : State} {m : MethodId} {args : Array Value} {below : List Frame} {meth : Method} {c : Code} {H : Heap} {locs : List Loc} {cells slots : Nat} {Q : State → Prop} {cc : ByteArray} {pc : Nat} {ls : Array Slot} {rest : List Value} {E : kE} {σ ω σ1 : kS} {nL index : Nat} {own : String} {r : Int32} (S : CallFix p m c cc nL s args kBIG own) (hw : kWS E s (cmb ω σ) H locs) (cw : kV own RX5 index yX5_nextOrder cX5_nextOrder 5 (some .boolean) 0) (hR : 1 + 1 ≤ R.frames ∧ 8 + (5 + 11) + 40 * 1 ≤ R.locals)   (hF : fX5_nextOrder σ = some (r, σ1)) (hls : ls.size = nL) (hW : (rest.map fun v => v.category).sum ≤ 8) (hdg : decode cc pc = .ok (.invokevirtual index, 3)) (kk : ∀ (H1 : Heap) (locs1 : List Loc), kWS E s (cmb ω σ1) H1 locs1 → (((some .boolean) : Option FieldType) = some .boolean → r = 0 ∨ r = 1) → W p l e R s m args below meth c H1 locs1 cells slots Q (F0 m (pc + 3) ls (.int r :: rest))) (hf : cells ≤ R.cells ∧ slots ≤ R.slots := by exact ⟨Nat.le_of_ble_eq_true rfl, Nat.le_of_ble_eq_true rfl⟩) : W p l e R s m args below meth c H locs cells slots Q (F0 m pc ls (.ref (ead E 26) :: rest)) := kr_calli (mc := 0) (y := yX5_nextOrder) (b := cX5_nextOrder) (n := 0) (lv := 0) (As := []) hw (kr_runV (As := []) (q := 26) S hw ((mX5_nextOrder (l := l) (E := E) (ω := ω) hF) H.size) cw hR rfl (by decide) rfl rfl hls _ rfl hW hdg hf) kk
set_option maxHeartbeats 4000000 in
set_option maxRecDepth 100000 in
theorem wX5_comeInOrder_L4 {p : Program} {l : Launch} {e : Env} {s : State} {m : MethodId} {args : Array Value} {below : List Frame} {meth : Method} {c : Code} {Q : State → Prop} {E : kE} {ω σ1 : kS} {r : Int32} (S : CallFix p m c cX5_comeInOrder 3 s args kBIG RX5) (hR : kRetI p l e (rml 5) s m args below meth c cX5_comeInOrder E Q (some .int) r (cmb ω σ1))  : ∀ (n : Nat), ∀ (a1 : Int32) (a2 : Int32) (σ : kS) (H : Heap) (locs : List Loc) (ls : Array Slot), fX5_comeInOrder_L4 n a1 a2 σ = some (r, σ1) → kWS E s (cmb ω σ) H locs → lv_has ls 3 [(0, .ref (ead E 26)), (1, .int a1), (2, .int a2)] → W p l e (rml 5) s m args below meth c H locs 0 0 Q (F0 m 4 ls []) := by
  intro n
  induction n with
  | zero =>
    intro a1 a2 σ H locs ls hF hw hl
    exact absurd hF (fun h => nomatch h)
  | succ n ih =>
    intro a1 a2 σ H locs ls hF hw hl
    rw [fX5_comeInOrder_L4] at hF
    refine lv_iload_n S.1 S.2.1 dX5_comeInOrder_4 rfl (lv_at hl 2 rfl) ?_
    refine lv_aload_n S.1 S.2.1 dX5_comeInOrder_5 rfl (lv_at hl 0 rfl) ?_
    refine gf_X5_80 S hw dX5_comeInOrder_6 ?_
    refine lv_icmp_ge (tgt := 45) S.1 S.2.1 dX5_comeInOrder_9 (by decide) (fun c1 => ?_) (fun c1 => ?_)
    · replace hF := kit hF c1
      refine lv_aload_n S.1 S.2.1 dX5_comeInOrder_45 rfl (lv_at hl 0 rfl) ?_
      obtain ⟨σ3, e2, hF⟩ := kbv_e hF
      refine kcX5_bringBack S hw cv_X5_197 ⟨Nat.le_of_ble_eq_true rfl, Nat.le_of_ble_eq_true rfl⟩ e2 hl.1 (Nat.le_of_ble_eq_true rfl) dX5_comeInOrder_46 (fun H locs hw => ?_)
      refine lv_iload_n S.1 S.2.1 dX5_comeInOrder_49 rfl (lv_at hl 1 rfl) ?_
      obtain ⟨rfl, rfl⟩ := kret hF
      exact hR _ _ _ _ dX5_comeInOrder_50 hw (fun h => nomatch h)
    · replace hF := kif hF c1
      refine lv_iload_n S.1 S.2.1 dX5_comeInOrder_12 rfl (lv_at hl 1 rfl) ?_
      refine lv_aload_n S.1 S.2.1 dX5_comeInOrder_13 rfl (lv_at hl 0 rfl) ?_
      refine lv_aload_n S.1 S.2.1 dX5_comeInOrder_14 rfl (lv_at hl 0 rfl) ?_
      refine gf_X5_43 S hw dX5_comeInOrder_15 ?_
      refine lv_iload_n S.1 S.2.1 dX5_comeInOrder_18 rfl (lv_at hl 2 rfl) ?_
      obtain ⟨hb4, hF⟩ := kin hF
      refine km_iald (q := 12) S hw rfl (Nat.le_of_ble_eq_true rfl) hb4 dX5_comeInOrder_19 ?_
      obtain ⟨r7, σ6, e5, hF⟩ := kbi_e hF
      refine kcX5_sent S hw cv_X5_174 ⟨Nat.le_of_ble_eq_true rfl, Nat.le_of_ble_eq_true rfl⟩ e5 hl.1 (Nat.le_of_ble_eq_true rfl) dX5_comeInOrder_20 (fun H locs hw => ?_)
      refine lv_aload_n S.1 S.2.1 dX5_comeInOrder_23 rfl (lv_at hl 0 rfl) ?_
      refine gf_X5_43 S hw dX5_comeInOrder_24 ?_
      refine lv_iload_n S.1 S.2.1 dX5_comeInOrder_27 rfl (lv_at hl 2 rfl) ?_
      obtain ⟨hb8, hF⟩ := kin hF
      refine km_iald (q := 12) S hw rfl (Nat.le_of_ble_eq_true rfl) hb8 dX5_comeInOrder_28 ?_
      refine lv_icmp_ne (tgt := 36) S.1 S.2.1 dX5_comeInOrder_29 (by decide) (fun c9 => ?_) (fun c9 => ?_)
      · replace hF := kif hF c9
        refine lv_iconst (v := 0) S.1 S.2.1 dX5_comeInOrder_36 (by decide) ?_
        refine lv_iadd S.1 S.2.1 dX5_comeInOrder_37 ?_
        refine lv_topi (fun v10 ev10 => ?_)
        replace hF := klb hF ev10
        refine lv_istore_n (lv' := [(1, .int v10), (0, .ref (ead E 26)), (2, .int a2)]) S.1 S.2.1 dX5_comeInOrder_38 rfl hl (by decide) rfl (fun ls hl => ?_)
        obtain ⟨v11, ev11⟩ : ∃ y : Int32, y = a2 + 1 := ⟨_, rfl⟩
        replace hF := klb hF ev11
        refine lv_iinc (v := v11) (lv' := [(2, .int v11), (1, .int v10), (0, .ref (ead E 26))]) S.1 S.2.1 dX5_comeInOrder_39 hl (k := 2) rfl (by rw [ev11]; rfl) (by decide) rfl (fun ls hl => ?_)
        refine lv_goto (tgt := 4) S.1 S.2.1 dX5_comeInOrder_42 (by decide) ?_
        exact ih v10 v11 _ _ _ _ hF hw (lv_sub hl [2, 1, 0] rfl)
      · replace hF := kit hF c9
        refine lv_iconst (v := 1) S.1 S.2.1 dX5_comeInOrder_32 (by decide) ?_
        refine lv_goto (tgt := 37) S.1 S.2.1 dX5_comeInOrder_33 (by decide) ?_
        refine lv_iadd S.1 S.2.1 dX5_comeInOrder_37 ?_
        refine lv_topi (fun v12 ev12 => ?_)
        replace hF := klb hF ev12
        refine lv_istore_n (lv' := [(1, .int v12), (0, .ref (ead E 26)), (2, .int a2)]) S.1 S.2.1 dX5_comeInOrder_38 rfl hl (by decide) rfl (fun ls hl => ?_)
        obtain ⟨v13, ev13⟩ : ∃ y : Int32, y = a2 + 1 := ⟨_, rfl⟩
        replace hF := klb hF ev13
        refine lv_iinc (v := v13) (lv' := [(2, .int v13), (1, .int v12), (0, .ref (ead E 26))]) S.1 S.2.1 dX5_comeInOrder_39 hl (k := 2) rfl (by rw [ev13]; rfl) (by decide) rfl (fun ls hl => ?_)
        refine lv_goto (tgt := 4) S.1 S.2.1 dX5_comeInOrder_42 (by decide) ?_
        exact ih v12 v13 _ _ _ _ hF hw (lv_sub hl [2, 1, 0] rfl)
set_option maxHeartbeats 4000000 in
set_option maxRecDepth 100000 in
theorem mX5_comeInOrder {l : Launch} {E : kE} {ω σ σ1 : kS} {r : Int32}   (hF : fX5_comeInOrder σ = some (r, σ1)) : kMetI l yX5_comeInOrder cX5_comeInOrder 3 (some .int) 5 E [.ref (ead E 26)] (cmb ω σ) r (cmb ω σ1) := by
  refine kMetI.of (by decide +kernel) (Nat.le_of_ble_eq_true rfl) (Or.inl rfl) ?_
  intro p e s m args below meth c Q ls S hR hw hl
  have hl : lv_has ls 3 [(0, .ref (ead E 26))] := hl
  unfold fX5_comeInOrder at hF
  refine lv_iconst (v := 0) S.1 S.2.1 dX5_comeInOrder_0 (by decide) ?_
  refine lv_istore_n (lv' := [(1, .int 0), (0, .ref (ead E 26))]) S.1 S.2.1 dX5_comeInOrder_1 rfl hl (by decide) rfl (fun ls hl => ?_)
  refine lv_iconst (v := 0) S.1 S.2.1 dX5_comeInOrder_2 (by decide) ?_
  refine lv_istore_n (lv' := [(2, .int 0), (1, .int 0), (0, .ref (ead E 26))]) S.1 S.2.1 dX5_comeInOrder_3 rfl hl (by decide) rfl (fun ls hl => ?_)
  exact wX5_comeInOrder_L4 S hR 1000 0 0 _ _ _ _ hF hw (lv_sub hl [2, 1, 0] rfl)
set_option maxRecDepth 100000 in
theorem kcX5_comeInOrder {p : Program} {l : Launch} {e : Env} {R : Room} {s : State} {m : MethodId} {args : Array Value} {below : List Frame} {meth : Method} {c : Code} {H : Heap} {locs : List Loc} {cells slots : Nat} {Q : State → Prop} {cc : ByteArray} {pc : Nat} {ls : Array Slot} {rest : List Value} {E : kE} {σ ω σ1 : kS} {nL index : Nat} {own : String} {r : Int32} (S : CallFix p m c cc nL s args kBIG own) (hw : kWS E s (cmb ω σ) H locs) (cw : kV own RX5 index yX5_comeInOrder cX5_comeInOrder 3 (some .int) 0) (hR : 5 + 1 ≤ R.frames ∧ 8 + (3 + 11) + 40 * 5 ≤ R.locals)   (hF : fX5_comeInOrder σ = some (r, σ1)) (hls : ls.size = nL) (hW : (rest.map fun v => v.category).sum ≤ 8) (hdg : decode cc pc = .ok (.invokevirtual index, 3)) (kk : ∀ (H1 : Heap) (locs1 : List Loc), kWS E s (cmb ω σ1) H1 locs1 → W p l e R s m args below meth c H1 locs1 cells slots Q (F0 m (pc + 3) ls (.int r :: rest))) (hf : cells ≤ R.cells ∧ slots ≤ R.slots := by exact ⟨Nat.le_of_ble_eq_true rfl, Nat.le_of_ble_eq_true rfl⟩) : W p l e R s m args below meth c H locs cells slots Q (F0 m pc ls (.ref (ead E 26) :: rest)) := kr_calli (mc := 0) (y := yX5_comeInOrder) (b := cX5_comeInOrder) (n := 0) (lv := 0) (As := []) (ret := some .int) hw (kr_runV (As := []) (q := 26) S hw ((mX5_comeInOrder (l := l) (E := E) (ω := ω) hF) H.size) cw hR rfl (by decide) rfl rfl hls _ rfl hW hdg hf) (fun H1 locs1 h _ => kk H1 locs1 h)
set_option maxHeartbeats 4000000 in
set_option maxRecDepth 100000 in
theorem wX5_bestOrder_L44 {p : Program} {l : Launch} {e : Env} {s : State} {m : MethodId} {args : Array Value} {below : List Frame} {meth : Method} {c : Code} {Q : State → Prop} {E : kE} {ω σ1 : kS} {r : Int32} (S : CallFix p m c cX5_bestOrder 5 s args kBIG RX5) (hR : kRetI p l e (rml 6) s m args below meth c cX5_bestOrder E Q (some .int) r (cmb ω σ1)) {k32 : Int32 → Int32 → kS → Option (Int32 × kS)} (hk32 : ∀ (a1 : Int32) (a2 : Int32) (σ : kS) (H : Heap) (locs : List Loc) (ls : Array Slot), k32 a1 a2 σ = some (r, σ1) → kWS E s (cmb ω σ) H locs → lv_has ls 5 [(0, .ref (ead E 26)), (1, .int a1), (2, .int a2)] → W p l e (rml 6) s m args below meth c H locs 0 0 Q (F0 m 32 ls [])) : ∀ (n : Nat), ∀ (a1 : Int32) (a3 : Int32) (a4 : Int32) (σ : kS) (H : Heap) (locs : List Loc) (ls : Array Slot), fX5_bestOrder_L44 k32 n a1 a3 a4 σ = some (r, σ1) → kWS E s (cmb ω σ) H locs → lv_has ls 5 [(0, .ref (ead E 26)), (1, .int a1), (3, .int a3), (4, .int a4)] → W p l e (rml 6) s m args below meth c H locs 0 0 Q (F0 m 44 ls []) := by
  intro n
  induction n with
  | zero =>
    intro a1 a3 a4 σ H locs ls hF hw hl
    exact absurd hF (fun h => nomatch h)
  | succ n ih =>
    intro a1 a3 a4 σ H locs ls hF hw hl
    rw [fX5_bestOrder_L44] at hF
    refine lv_iload S.1 S.2.1 dX5_bestOrder_44 (lv_at hl 3 rfl) ?_
    refine lv_aload_n S.1 S.2.1 dX5_bestOrder_46 rfl (lv_at hl 0 rfl) ?_
    refine gf_X5_80 S hw dX5_bestOrder_47 ?_
    refine lv_icmp_ge (tgt := 88) S.1 S.2.1 dX5_bestOrder_50 (by decide) (fun c10 => ?_) (fun c10 => ?_)
    · replace hF := kit hF c10
      refine lv_iload_n S.1 S.2.1 dX5_bestOrder_88 rfl (lv_at hl 2 rfl) ?_
      refine lv_iload_n S.1 S.2.1 dX5_bestOrder_89 rfl (lv_at hl 1 rfl) ?_
      refine lv_icmp_le (tgt := 97) S.1 S.2.1 dX5_bestOrder_90 (by decide) (fun c11 => ?_) (fun c11 => ?_)
      · replace hF := kit hF c11
        refine lv_iload_n S.1 S.2.1 dX5_bestOrder_97 rfl (lv_at hl 1 rfl) ?_
        refine lv_istore_n (lv' := [(1, .int a1), (0, .ref (ead E 26)), (3, .int a3), (4, .int a4)]) S.1 S.2.1 dX5_bestOrder_98 rfl hl (by decide) rfl (fun ls hl => ?_)
        refine lv_aload_n S.1 S.2.1 dX5_bestOrder_99 rfl (lv_at hl 1 rfl) ?_
        obtain ⟨r14, σ13, e12, hF⟩ := kbi_e hF
        refine kcX5_nextOrder S hw cv_X5_211 ⟨Nat.le_of_ble_eq_true rfl, Nat.le_of_ble_eq_true rfl⟩ e12 hl.1 (Nat.le_of_ble_eq_true rfl) dX5_bestOrder_100 (fun H locs hw hz15 => ?_)
        refine lv_istore_n (lv' := [(2, .int r14), (1, .int a1), (0, .ref (ead E 26)), (3, .int a3), (4, .int a4)]) S.1 S.2.1 dX5_bestOrder_103 rfl hl (by decide) rfl (fun ls hl => ?_)
        refine lv_goto (tgt := 32) S.1 S.2.1 dX5_bestOrder_104 (by decide) ?_
        exact hk32 a1 r14 _ _ _ _ hF hw (lv_sub hl [2, 1, 0] rfl)
      · replace hF := kif hF c11
        refine lv_iload_n S.1 S.2.1 dX5_bestOrder_93 rfl (lv_at hl 2 rfl) ?_
        refine lv_goto (tgt := 98) S.1 S.2.1 dX5_bestOrder_94 (by decide) ?_
        refine lv_istore_n (lv' := [(1, .int a3), (0, .ref (ead E 26)), (3, .int a3), (4, .int a4)]) S.1 S.2.1 dX5_bestOrder_98 rfl hl (by decide) rfl (fun ls hl => ?_)
        refine lv_aload_n S.1 S.2.1 dX5_bestOrder_99 rfl (lv_at hl 1 rfl) ?_
        obtain ⟨r18, σ17, e16, hF⟩ := kbi_e hF
        refine kcX5_nextOrder S hw cv_X5_211 ⟨Nat.le_of_ble_eq_true rfl, Nat.le_of_ble_eq_true rfl⟩ e16 hl.1 (Nat.le_of_ble_eq_true rfl) dX5_bestOrder_100 (fun H locs hw hz19 => ?_)
        refine lv_istore_n (lv' := [(2, .int r18), (1, .int a3), (0, .ref (ead E 26)), (3, .int a3), (4, .int a4)]) S.1 S.2.1 dX5_bestOrder_103 rfl hl (by decide) rfl (fun ls hl => ?_)
        refine lv_goto (tgt := 32) S.1 S.2.1 dX5_bestOrder_104 (by decide) ?_
        exact hk32 a3 r18 _ _ _ _ hF hw (lv_sub hl [2, 1, 0] rfl)
    · replace hF := kif hF c10
      refine lv_aload_n S.1 S.2.1 dX5_bestOrder_53 rfl (lv_at hl 0 rfl) ?_
      refine gf_X5_46 S hw dX5_bestOrder_54 ?_
      refine lv_iload S.1 S.2.1 dX5_bestOrder_57 (lv_at hl 3 rfl) ?_
      refine lv_iload_n S.1 S.2.1 dX5_bestOrder_59 rfl (lv_at hl 2 rfl) ?_
      refine lv_iload_n S.1 S.2.1 dX5_bestOrder_60 rfl (lv_at hl 1 rfl) ?_
      refine lv_icmp_le (tgt := 74) S.1 S.2.1 dX5_bestOrder_61 (by decide) (fun c20 => ?_) (fun c20 => ?_)
      · replace hF := kit hF c20
        refine lv_aload_n S.1 S.2.1 dX5_bestOrder_74 rfl (lv_at hl 0 rfl) ?_
        refine gf_X5_46 S hw dX5_bestOrder_75 ?_
        refine lv_iload S.1 S.2.1 dX5_bestOrder_78 (lv_at hl 3 rfl) ?_
        obtain ⟨hb21, hF⟩ := kin hF
        refine km_iald (q := 13) S hw rfl (Nat.le_of_ble_eq_true rfl) hb21 dX5_bestOrder_80 ?_
        obtain ⟨hb22, hF⟩ := kin hF
        refine km_iast (q := 13) S hw rfl (Nat.le_of_ble_eq_true rfl) hb22 dX5_bestOrder_81 (fun H locs hw => ?_)
        obtain ⟨v23, ev23⟩ : ∃ y : Int32, y = a4 + 1 := ⟨_, rfl⟩
        replace hF := klb hF ev23
        refine lv_iinc (v := v23) (lv' := [(4, .int v23), (0, .ref (ead E 26)), (1, .int a1), (3, .int a3)]) S.1 S.2.1 dX5_bestOrder_82 hl (k := 3) rfl (by rw [ev23]; rfl) (by decide) rfl (fun ls hl => ?_)
        refine lv_goto (tgt := 44) S.1 S.2.1 dX5_bestOrder_85 (by decide) ?_
        exact ih a1 a3 v23 _ _ _ _ hF hw (lv_sub hl [1, 2, 3, 0] rfl)
      · replace hF := kif hF c20
        refine lv_aload_n S.1 S.2.1 dX5_bestOrder_64 rfl (lv_at hl 0 rfl) ?_
        refine gf_X5_43 S hw dX5_bestOrder_65 ?_
        refine lv_iload S.1 S.2.1 dX5_bestOrder_68 (lv_at hl 3 rfl) ?_
        obtain ⟨hb24, hF⟩ := kin hF
        refine km_iald (q := 12) S hw rfl (Nat.le_of_ble_eq_true rfl) hb24 dX5_bestOrder_70 ?_
        refine lv_goto (tgt := 81) S.1 S.2.1 dX5_bestOrder_71 (by decide) ?_
        obtain ⟨hb25, hF⟩ := kin hF
        refine km_iast (q := 13) S hw rfl (Nat.le_of_ble_eq_true rfl) hb25 dX5_bestOrder_81 (fun H locs hw => ?_)
        obtain ⟨v26, ev26⟩ : ∃ y : Int32, y = a4 + 1 := ⟨_, rfl⟩
        replace hF := klb hF ev26
        refine lv_iinc (v := v26) (lv' := [(4, .int v26), (0, .ref (ead E 26)), (1, .int a1), (3, .int a3)]) S.1 S.2.1 dX5_bestOrder_82 hl (k := 3) rfl (by rw [ev26]; rfl) (by decide) rfl (fun ls hl => ?_)
        refine lv_goto (tgt := 44) S.1 S.2.1 dX5_bestOrder_85 (by decide) ?_
        exact ih a1 a3 v26 _ _ _ _ hF hw (lv_sub hl [1, 2, 3, 0] rfl)
set_option maxHeartbeats 4000000 in
set_option maxRecDepth 100000 in
theorem wX5_bestOrder_L32 {p : Program} {l : Launch} {e : Env} {s : State} {m : MethodId} {args : Array Value} {below : List Frame} {meth : Method} {c : Code} {Q : State → Prop} {E : kE} {ω σ1 : kS} {r : Int32} (S : CallFix p m c cX5_bestOrder 5 s args kBIG RX5) (hR : kRetI p l e (rml 6) s m args below meth c cX5_bestOrder E Q (some .int) r (cmb ω σ1))  : ∀ (n : Nat), ∀ (a1 : Int32) (a2 : Int32) (σ : kS) (H : Heap) (locs : List Loc) (ls : Array Slot), fX5_bestOrder_L32 n a1 a2 σ = some (r, σ1) → kWS E s (cmb ω σ) H locs → lv_has ls 5 [(0, .ref (ead E 26)), (1, .int a1), (2, .int a2)] → W p l e (rml 6) s m args below meth c H locs 0 0 Q (F0 m 32 ls []) := by
  intro n
  induction n with
  | zero =>
    intro a1 a2 σ H locs ls hF hw hl
    exact absurd hF (fun h => nomatch h)
  | succ n ih =>
    intro a1 a2 σ H locs ls hF hw hl
    rw [fX5_bestOrder_L32] at hF
    refine lv_iload_n S.1 S.2.1 dX5_bestOrder_32 rfl (lv_at hl 2 rfl) ?_
    refine lv_if_eq (tgt := 107) S.1 S.2.1 dX5_bestOrder_33 (by decide) (fun c6 => ?_) (fun c6 => ?_)
    · replace hF := kit hF c6
      refine lv_iload_n S.1 S.2.1 dX5_bestOrder_107 rfl (lv_at hl 1 rfl) ?_
      obtain ⟨rfl, rfl⟩ := kret hF
      exact hR _ _ _ _ dX5_bestOrder_108 hw (fun h => nomatch h)
    · replace hF := kif hF c6
      refine lv_aload_n S.1 S.2.1 dX5_bestOrder_36 rfl (lv_at hl 0 rfl) ?_
      obtain ⟨r9, σ8, e7, hF⟩ := kbi_e hF
      refine kcX5_comeInOrder S hw cv_X5_208 ⟨Nat.le_of_ble_eq_true rfl, Nat.le_of_ble_eq_true rfl⟩ e7 hl.1 (Nat.le_of_ble_eq_true rfl) dX5_bestOrder_37 (fun H locs hw => ?_)
      refine lv_istore_n (lv' := [(3, .int r9), (0, .ref (ead E 26)), (1, .int a1), (2, .int a2)]) S.1 S.2.1 dX5_bestOrder_40 rfl hl (by decide) rfl (fun ls hl => ?_)
      refine lv_iconst (v := 0) S.1 S.2.1 dX5_bestOrder_41 (by decide) ?_
      refine lv_istore (lv' := [(4, .int 0), (3, .int r9), (0, .ref (ead E 26)), (1, .int a1), (2, .int a2)]) S.1 S.2.1 dX5_bestOrder_42 hl (by decide) rfl (fun ls hl => ?_)
      exact wX5_bestOrder_L44 S hR ih 1000 a1 r9 0 _ _ _ _ hF hw (lv_sub hl [2, 3, 1, 0] rfl)
set_option maxHeartbeats 4000000 in
set_option maxRecDepth 100000 in
theorem wX5_bestOrder_L6 {p : Program} {l : Launch} {e : Env} {s : State} {m : MethodId} {args : Array Value} {below : List Frame} {meth : Method} {c : Code} {Q : State → Prop} {E : kE} {ω σ1 : kS} {r : Int32} (S : CallFix p m c cX5_bestOrder 5 s args kBIG RX5) (hR : kRetI p l e (rml 6) s m args below meth c cX5_bestOrder E Q (some .int) r (cmb ω σ1))  : ∀ (n : Nat), ∀ (a1 : Int32) (σ : kS) (H : Heap) (locs : List Loc) (ls : Array Slot), fX5_bestOrder_L6 n a1 σ = some (r, σ1) → kWS E s (cmb ω σ) H locs → lv_has ls 5 [(0, .ref (ead E 26)), (1, .int a1)] → W p l e (rml 6) s m args below meth c H locs 0 0 Q (F0 m 6 ls []) := by
  intro n
  induction n with
  | zero =>
    intro a1 σ H locs ls hF hw hl
    exact absurd hF (fun h => nomatch h)
  | succ n ih =>
    intro a1 σ H locs ls hF hw hl
    rw [fX5_bestOrder_L6] at hF
    refine lv_iload_n S.1 S.2.1 dX5_bestOrder_6 rfl (lv_at hl 1 rfl) ?_
    refine lv_aload_n S.1 S.2.1 dX5_bestOrder_7 rfl (lv_at hl 0 rfl) ?_
    refine gf_X5_80 S hw dX5_bestOrder_8 ?_
    refine lv_icmp_ge (tgt := 27) S.1 S.2.1 dX5_bestOrder_11 (by decide) (fun c3 => ?_) (fun c3 => ?_)
    · replace hF := kit hF c3
      refine lv_bipush (v := (-9)) S.1 S.2.1 dX5_bestOrder_27 (by decide) ?_
      refine lv_istore_n (lv' := [(1, .int (-9)), (0, .ref (ead E 26))]) S.1 S.2.1 dX5_bestOrder_29 rfl hl (by decide) rfl (fun ls hl => ?_)
      refine lv_iconst (v := 1) S.1 S.2.1 dX5_bestOrder_30 (by decide) ?_
      refine lv_istore_n (lv' := [(2, .int 1), (1, .int (-9)), (0, .ref (ead E 26))]) S.1 S.2.1 dX5_bestOrder_31 rfl hl (by decide) rfl (fun ls hl => ?_)
      exact wX5_bestOrder_L32 S hR 1000 (-9) 1 _ _ _ _ hF hw (lv_sub hl [2, 1, 0] rfl)
    · replace hF := kif hF c3
      refine lv_aload_n S.1 S.2.1 dX5_bestOrder_14 rfl (lv_at hl 0 rfl) ?_
      refine gf_X5_43 S hw dX5_bestOrder_15 ?_
      refine lv_iload_n S.1 S.2.1 dX5_bestOrder_18 rfl (lv_at hl 1 rfl) ?_
      refine lv_iload_n S.1 S.2.1 dX5_bestOrder_19 rfl (lv_at hl 1 rfl) ?_
      obtain ⟨hb4, hF⟩ := kin hF
      refine km_iast (q := 12) S hw rfl (Nat.le_of_ble_eq_true rfl) hb4 dX5_bestOrder_20 (fun H locs hw => ?_)
      obtain ⟨v5, ev5⟩ : ∃ y : Int32, y = a1 + 1 := ⟨_, rfl⟩
      replace hF := klb hF ev5
      refine lv_iinc (v := v5) (lv' := [(1, .int v5), (0, .ref (ead E 26))]) S.1 S.2.1 dX5_bestOrder_21 hl (k := 1) rfl (by rw [ev5]; rfl) (by decide) rfl (fun ls hl => ?_)
      refine lv_goto (tgt := 6) S.1 S.2.1 dX5_bestOrder_24 (by decide) ?_
      exact ih v5 _ _ _ _ hF hw (lv_sub hl [1, 0] rfl)
set_option maxHeartbeats 4000000 in
set_option maxRecDepth 100000 in
theorem mX5_bestOrder {l : Launch} {E : kE} {ω σ σ1 : kS} {r : Int32}   (hF : fX5_bestOrder σ = some (r, σ1)) : kMetI l yX5_bestOrder cX5_bestOrder 5 (some .int) 6 E [.ref (ead E 26)] (cmb ω σ) r (cmb ω σ1) := by
  refine kMetI.of (by decide +kernel) (Nat.le_of_ble_eq_true rfl) (Or.inl rfl) ?_
  intro p e s m args below meth c Q ls S hR hw hl
  have hl : lv_has ls 5 [(0, .ref (ead E 26))] := hl
  unfold fX5_bestOrder at hF
  refine lv_aload_n S.1 S.2.1 dX5_bestOrder_0 rfl (lv_at hl 0 rfl) ?_
  obtain ⟨σ2, e1, hF⟩ := kbv_e hF
  refine kcX5_keepAll S hw cv_X5_190 ⟨Nat.le_of_ble_eq_true rfl, Nat.le_of_ble_eq_true rfl⟩ e1 hl.1 (Nat.le_of_ble_eq_true rfl) dX5_bestOrder_1 (fun H locs hw => ?_)
  refine lv_iconst (v := 0) S.1 S.2.1 dX5_bestOrder_4 (by decide) ?_
  refine lv_istore_n (lv' := [(1, .int 0), (0, .ref (ead E 26))]) S.1 S.2.1 dX5_bestOrder_5 rfl hl (by decide) rfl (fun ls hl => ?_)
  exact wX5_bestOrder_L6 S hR 1000 0 _ _ _ _ hF hw (lv_sub hl [1, 0] rfl)
set_option maxRecDepth 100000 in
theorem kcX5_bestOrder {p : Program} {l : Launch} {e : Env} {R : Room} {s : State} {m : MethodId} {args : Array Value} {below : List Frame} {meth : Method} {c : Code} {H : Heap} {locs : List Loc} {cells slots : Nat} {Q : State → Prop} {cc : ByteArray} {pc : Nat} {ls : Array Slot} {rest : List Value} {E : kE} {σ ω σ1 : kS} {nL index : Nat} {own : String} {r : Int32} (S : CallFix p m c cc nL s args kBIG own) (hw : kWS E s (cmb ω σ) H locs) (cw : kV own RX5 index yX5_bestOrder cX5_bestOrder 5 (some .int) 0) (hR : 6 + 1 ≤ R.frames ∧ 8 + (5 + 11) + 40 * 6 ≤ R.locals)   (hF : fX5_bestOrder σ = some (r, σ1)) (hls : ls.size = nL) (hW : (rest.map fun v => v.category).sum ≤ 8) (hdg : decode cc pc = .ok (.invokevirtual index, 3)) (kk : ∀ (H1 : Heap) (locs1 : List Loc), kWS E s (cmb ω σ1) H1 locs1 → W p l e R s m args below meth c H1 locs1 cells slots Q (F0 m (pc + 3) ls (.int r :: rest))) (hf : cells ≤ R.cells ∧ slots ≤ R.slots := by exact ⟨Nat.le_of_ble_eq_true rfl, Nat.le_of_ble_eq_true rfl⟩) : W p l e R s m args below meth c H locs cells slots Q (F0 m pc ls (.ref (ead E 26) :: rest)) := kr_calli (mc := 0) (y := yX5_bestOrder) (b := cX5_bestOrder) (n := 0) (lv := 0) (As := []) (ret := some .int) hw (kr_runV (As := []) (q := 26) S hw ((mX5_bestOrder (l := l) (E := E) (ω := ω) hF) H.size) cw hR rfl (by decide) rfl rfl hls _ rfl hW hdg hf) (fun H1 locs1 h _ => kk H1 locs1 h)
set_option maxHeartbeats 4000000 in
set_option maxRecDepth 100000 in
theorem mX5_order {l : Launch} {E : kE} {ω σ σ1 : kS} {r : Int32} {a1 : Int32}  (hF : fX5_order a1 σ = some (r, σ1)) : kMetI l yX5_order cX5_order 3 (some .int) 7 E [.ref (ead E 26), .int a1] (cmb ω σ) r (cmb ω σ1) := by
  refine kMetI.of (by decide +kernel) (Nat.le_of_ble_eq_true rfl) (Or.inl rfl) ?_
  intro p e s m args below meth c Q ls S hR hw hl
  have hl : lv_has ls 3 [(0, .ref (ead E 26)), (1, .int a1)] := hl
  unfold fX5_order at hF
  refine lv_aload_n S.1 S.2.1 dX5_order_0 rfl (lv_at hl 0 rfl) ?_
  refine gf_X5_80 S hw dX5_order_1 ?_
  refine lv_if_ne (tgt := 10) S.1 S.2.1 dX5_order_4 (by decide) (fun c1 => ?_) (fun c1 => ?_)
  · replace hF := kif hF c1
    refine lv_iload_n S.1 S.2.1 dX5_order_10 rfl (lv_at hl 1 rfl) ?_
    refine lv_i2l S.1 S.2.1 dX5_order_11 rfl ?_
    refine lv_ldc2 (v := (-1)) S.1 S.2.1 S.2.2.2.1 (S.2.2.2.2 _ q3_211) dX5_order_12 ?_
    refine lv_ldc2 (v := 5) S.1 S.2.1 S.2.2.2.1 (S.2.2.2.2 _ q3_212) dX5_order_15 ?_
    obtain ⟨r4, σ3, e2, hF⟩ := kbi_e hF
    refine kcX5_in S hw cv_X5_83 ⟨Nat.le_of_ble_eq_true rfl, Nat.le_of_ble_eq_true rfl⟩ e2 hl.1 (Nat.le_of_ble_eq_true rfl) dX5_order_18 (fun H locs hw hz5 => ?_)
    refine lv_if_ne (tgt := 27) S.1 S.2.1 dX5_order_21 (by decide) (fun c6 => ?_) (fun c6 => ?_)
    · replace hF := kif hF c6
      refine lv_aload_n S.1 S.2.1 dX5_order_27 rfl (lv_at hl 0 rfl) ?_
      obtain ⟨r9, σ8, e7, hF⟩ := kbi_e hF
      refine kcX5_bestOrder S hw cv_X5_219 ⟨Nat.le_of_ble_eq_true rfl, Nat.le_of_ble_eq_true rfl⟩ e7 hl.1 (Nat.le_of_ble_eq_true rfl) dX5_order_28 (fun H locs hw => ?_)
      refine lv_istore_n (lv' := [(2, .int r9), (0, .ref (ead E 26)), (1, .int a1)]) S.1 S.2.1 dX5_order_31 rfl hl (by decide) rfl (fun ls hl => ?_)
      refine lv_iload_n S.1 S.2.1 dX5_order_32 rfl (lv_at hl 2 rfl) ?_
      refine lv_if_ge (tgt := 40) S.1 S.2.1 dX5_order_33 (by decide) (fun c10 => ?_) (fun c10 => ?_)
      · replace hF := kit hF c10
        refine lv_iload_n S.1 S.2.1 dX5_order_40 rfl (lv_at hl 2 rfl) ?_
        refine lv_aload_n S.1 S.2.1 dX5_order_41 rfl (lv_at hl 1 rfl) ?_
        refine gf_X5_80 S hw dX5_order_42 ?_
        refine lv_icmp_ge (tgt := 57) S.1 S.2.1 dX5_order_45 (by decide) (fun c11 => ?_) (fun c11 => ?_)
        · replace hF := kit hF c11
          refine lv_bipush (v := (-9)) S.1 S.2.1 dX5_order_57 (by decide) ?_
          obtain ⟨rfl, rfl⟩ := kret hF
          exact hR _ _ _ _ dX5_order_59 hw (fun h => nomatch h)
        · replace hF := kif hF c11
          refine lv_aload_n S.1 S.2.1 dX5_order_48 rfl (lv_at hl 1 rfl) ?_
          refine gf_X5_46 S hw dX5_order_49 ?_
          refine lv_iload_n S.1 S.2.1 dX5_order_52 rfl (lv_at hl 2 rfl) ?_
          obtain ⟨hb12, hF⟩ := kin hF
          refine km_iald (q := 13) S hw rfl (Nat.le_of_ble_eq_true rfl) hb12 dX5_order_53 ?_
          refine lv_goto (tgt := 59) S.1 S.2.1 dX5_order_54 (by decide) ?_
          obtain ⟨rfl, rfl⟩ := kret hF
          exact hR _ _ _ _ dX5_order_59 hw (fun h => nomatch h)
      · replace hF := kif hF c10
        refine lv_iload_n S.1 S.2.1 dX5_order_36 rfl (lv_at hl 0 rfl) ?_
        refine lv_goto (tgt := 59) S.1 S.2.1 dX5_order_37 (by decide) ?_
        obtain ⟨rfl, rfl⟩ := kret hF
        exact hR _ _ _ _ dX5_order_59 hw (fun h => nomatch h)
    · replace hF := kit hF c6
      refine lv_bipush (v := (-2)) S.1 S.2.1 dX5_order_24 (by decide) ?_
      obtain ⟨rfl, rfl⟩ := kret hF
      exact hR _ _ _ _ dX5_order_26 hw (fun h => nomatch h)
  · replace hF := kit hF c1
    refine lv_bipush (v := (-3)) S.1 S.2.1 dX5_order_7 (by decide) ?_
    obtain ⟨rfl, rfl⟩ := kret hF
    exact hR _ _ _ _ dX5_order_9 hw (fun h => nomatch h)
set_option maxRecDepth 100000 in
theorem kcX5_order {p : Program} {l : Launch} {e : Env} {R : Room} {s : State} {m : MethodId} {args : Array Value} {below : List Frame} {meth : Method} {c : Code} {H : Heap} {locs : List Loc} {cells slots : Nat} {Q : State → Prop} {cc : ByteArray} {pc : Nat} {ls : Array Slot} {rest : List Value} {E : kE} {σ ω σ1 : kS} {nL index : Nat} {own : String} {r : Int32} (S : CallFix p m c cc nL s args kBIG own) (hw : kWS E s (cmb ω σ) H locs) (cw : kV own RX5 index yX5_order cX5_order 3 (some .int) 1) (hR : 7 + 1 ≤ R.frames ∧ 8 + (3 + 11) + 40 * 7 ≤ R.locals) {a1 : Int32}  (hF : fX5_order a1 σ = some (r, σ1)) (hls : ls.size = nL) (hW : (rest.map fun v => v.category).sum ≤ 8) (hdg : decode cc pc = .ok (.invokevirtual index, 3)) (kk : ∀ (H1 : Heap) (locs1 : List Loc), kWS E s (cmb ω σ1) H1 locs1 → W p l e R s m args below meth c H1 locs1 cells slots Q (F0 m (pc + 3) ls (.int r :: rest))) (hf : cells ≤ R.cells ∧ slots ≤ R.slots := by exact ⟨Nat.le_of_ble_eq_true rfl, Nat.le_of_ble_eq_true rfl⟩) : W p l e R s m args below meth c H locs cells slots Q (F0 m pc ls (.int a1 :: .ref (ead E 26) :: rest)) := kr_calli (mc := 0) (y := yX5_order) (b := cX5_order) (n := 0) (lv := 0) (As := []) (ret := some .int) hw (kr_runV (As := [.int a1]) (q := 26) S hw ((mX5_order (l := l) (E := E) (ω := ω) hF) H.size) cw hR rfl (by decide) rfl rfl hls _ rfl hW hdg hf) (fun H1 locs1 h _ => kk H1 locs1 h)
set_option maxHeartbeats 4000000 in
set_option maxRecDepth 100000 in
theorem wX5_asMet_L2 {p : Program} {l : Launch} {e : Env} {s : State} {m : MethodId} {args : Array Value} {below : List Frame} {meth : Method} {c : Code} {Q : State → Prop} {E : kE} {ω σ1 : kS} (S : CallFix p m c cX5_asMet 3 s args kBIG RX5) (hR : kRetV p l e (rml 1) s m args below meth c cX5_asMet E Q (cmb ω σ1))  : ∀ (n : Nat), ∀ (a1 : Int32) (a2 : Int32) (σ : kS) (H : Heap) (locs : List Loc) (ls : Array Slot), fX5_asMet_L2 n a1 a2 σ = some σ1 → kWS E s (cmb ω σ) H locs → lv_has ls 3 [(0, .ref (ead E 26)), (1, .int a1), (2, .int a2)] → W p l e (rml 1) s m args below meth c H locs 0 0 Q (F0 m 2 ls []) := by
  intro n
  induction n with
  | zero =>
    intro a1 a2 σ H locs ls hF hw hl
    exact absurd hF (fun h => nomatch h)
  | succ n ih =>
    intro a1 a2 σ H locs ls hF hw hl
    rw [fX5_asMet_L2] at hF
    refine lv_iload_n S.1 S.2.1 dX5_asMet_2 rfl (lv_at hl 2 rfl) ?_
    refine lv_aload_n S.1 S.2.1 dX5_asMet_3 rfl (lv_at hl 0 rfl) ?_
    refine gf_X5_80 S hw dX5_asMet_4 ?_
    refine lv_icmp_ge (tgt := 45) S.1 S.2.1 dX5_asMet_7 (by decide) (fun c1 => ?_) (fun c1 => ?_)
    · replace hF := kit hF c1
      cases kre hF
      exact hR _ _ _ _ dX5_asMet_45 hw
    · replace hF := kif hF c1
      refine lv_aload_n S.1 S.2.1 dX5_asMet_10 rfl (lv_at hl 0 rfl) ?_
      refine gf_X5_16 S hw dX5_asMet_11 ?_
      refine lv_iload_n S.1 S.2.1 dX5_asMet_14 rfl (lv_at hl 2 rfl) ?_
      refine lv_iload_n S.1 S.2.1 dX5_asMet_15 rfl (lv_at hl 1 rfl) ?_
      refine lv_iload_n S.1 S.2.1 dX5_asMet_16 rfl (lv_at hl 2 rfl) ?_
      obtain ⟨r4, σ3, e2, hF⟩ := kbi_e hF
      refine kcX5_isIn S hw cv_X5_222 ⟨Nat.le_of_ble_eq_true rfl, Nat.le_of_ble_eq_true rfl⟩ e2 hl.1 (Nat.le_of_ble_eq_true rfl) dX5_asMet_17 (fun H locs hw hz5 => ?_)
      refine lv_if_eq (tgt := 32) S.1 S.2.1 dX5_asMet_20 (by decide) (fun c6 => ?_) (fun c6 => ?_)
      · replace hF := kit hF c6
        refine lv_aload_n S.1 S.2.1 dX5_asMet_32 rfl (lv_at hl 0 rfl) ?_
        refine gf_X5_37 S hw dX5_asMet_33 ?_
        refine lv_iload_n S.1 S.2.1 dX5_asMet_36 rfl (lv_at hl 2 rfl) ?_
        obtain ⟨hb7, hF⟩ := kin hF
        refine km_iald (q := 10) S hw rfl (Nat.le_of_ble_eq_true rfl) hb7 dX5_asMet_37 ?_
        obtain ⟨hb8, hF⟩ := kin hF
        refine km_iast (q := 3) S hw rfl (Nat.le_of_ble_eq_true rfl) hb8 dX5_asMet_38 (fun H locs hw => ?_)
        obtain ⟨v9, ev9⟩ : ∃ y : Int32, y = a2 + 1 := ⟨_, rfl⟩
        replace hF := klb hF ev9
        refine lv_iinc (v := v9) (lv' := [(2, .int v9), (0, .ref (ead E 26)), (1, .int a1)]) S.1 S.2.1 dX5_asMet_39 hl (k := 2) rfl (by rw [ev9]; rfl) (by decide) rfl (fun ls hl => ?_)
        refine lv_goto (tgt := 2) S.1 S.2.1 dX5_asMet_42 (by decide) ?_
        exact ih a1 v9 _ _ _ _ hF hw (lv_sub hl [1, 2, 0] rfl)
      · replace hF := kif hF c6
        refine lv_aload_n S.1 S.2.1 dX5_asMet_23 rfl (lv_at hl 0 rfl) ?_
        refine gf_X5_34 S hw dX5_asMet_24 ?_
        refine lv_iload_n S.1 S.2.1 dX5_asMet_27 rfl (lv_at hl 2 rfl) ?_
        obtain ⟨hb10, hF⟩ := kin hF
        refine km_iald (q := 9) S hw rfl (Nat.le_of_ble_eq_true rfl) hb10 dX5_asMet_28 ?_
        refine lv_goto (tgt := 38) S.1 S.2.1 dX5_asMet_29 (by decide) ?_
        obtain ⟨hb11, hF⟩ := kin hF
        refine km_iast (q := 3) S hw rfl (Nat.le_of_ble_eq_true rfl) hb11 dX5_asMet_38 (fun H locs hw => ?_)
        obtain ⟨v12, ev12⟩ : ∃ y : Int32, y = a2 + 1 := ⟨_, rfl⟩
        replace hF := klb hF ev12
        refine lv_iinc (v := v12) (lv' := [(2, .int v12), (0, .ref (ead E 26)), (1, .int a1)]) S.1 S.2.1 dX5_asMet_39 hl (k := 2) rfl (by rw [ev12]; rfl) (by decide) rfl (fun ls hl => ?_)
        refine lv_goto (tgt := 2) S.1 S.2.1 dX5_asMet_42 (by decide) ?_
        exact ih a1 v12 _ _ _ _ hF hw (lv_sub hl [1, 2, 0] rfl)
set_option maxHeartbeats 4000000 in
set_option maxRecDepth 100000 in
theorem mX5_asMet {l : Launch} {E : kE} {ω σ σ1 : kS} {a1 : Int32}  (hF : fX5_asMet a1 σ = some σ1) : kMetV l yX5_asMet cX5_asMet 3 1 E [.ref (ead E 26), .int a1] (cmb ω σ) (cmb ω σ1) := by
  refine kMetV.of (by decide +kernel) (Nat.le_of_ble_eq_true rfl) ?_
  intro p e s m args below meth c Q ls S hR hw hl
  have hl : lv_has ls 3 [(0, .ref (ead E 26)), (1, .int a1)] := hl
  unfold fX5_asMet at hF
  refine lv_iconst (v := 0) S.1 S.2.1 dX5_asMet_0 (by decide) ?_
  refine lv_istore_n (lv' := [(2, .int 0), (0, .ref (ead E 26)), (1, .int a1)]) S.1 S.2.1 dX5_asMet_1 rfl hl (by decide) rfl (fun ls hl => ?_)
  exact wX5_asMet_L2 S hR 1000 a1 0 _ _ _ _ hF hw (lv_sub hl [1, 2, 0] rfl)
set_option maxRecDepth 100000 in
theorem kcX5_asMet {p : Program} {l : Launch} {e : Env} {R : Room} {s : State} {m : MethodId} {args : Array Value} {below : List Frame} {meth : Method} {c : Code} {H : Heap} {locs : List Loc} {cells slots : Nat} {Q : State → Prop} {cc : ByteArray} {pc : Nat} {ls : Array Slot} {rest : List Value} {E : kE} {σ ω σ1 : kS} {nL index : Nat} {own : String} (S : CallFix p m c cc nL s args kBIG own) (hw : kWS E s (cmb ω σ) H locs) (cw : kV own RX5 index yX5_asMet cX5_asMet 3 none 1) (hR : 1 + 1 ≤ R.frames ∧ 8 + (3 + 11) + 40 * 1 ≤ R.locals) {a1 : Int32}  (hF : fX5_asMet a1 σ = some σ1) (hls : ls.size = nL) (hW : (rest.map fun v => v.category).sum ≤ 8) (hdg : decode cc pc = .ok (.invokevirtual index, 3)) (kk : ∀ (H1 : Heap) (locs1 : List Loc), kWS E s (cmb ω σ1) H1 locs1 → W p l e R s m args below meth c H1 locs1 cells slots Q (F0 m (pc + 3) ls rest)) (hf : cells ≤ R.cells ∧ slots ≤ R.slots := by exact ⟨Nat.le_of_ble_eq_true rfl, Nat.le_of_ble_eq_true rfl⟩) : W p l e R s m args below meth c H locs cells slots Q (F0 m pc ls (.int a1 :: .ref (ead E 26) :: rest)) := kr_callv hw (kr_runV (As := [.int a1]) (q := 26) S hw ((mX5_asMet (l := l) (E := E) (ω := ω) hF) H.size) cw hR rfl (by decide) rfl rfl hls _ rfl hW hdg hf) kk
set_option maxHeartbeats 4000000 in
set_option maxRecDepth 100000 in
theorem wX5_spreads_J55 {p : Program} {l : Launch} {e : Env} {s : State} {m : MethodId} {args : Array Value} {below : List Frame} {meth : Method} {c : Code} {Q : State → Prop} {E : kE} {ω σ1 : kS} (S : CallFix p m c cX5_spreads 6 s args kBIG RX5) (hR : kRetV p l e (rml 4) s m args below meth c cX5_spreads E Q (cmb ω σ1)) {k10 : Int32 → Int32 → Int32 → kS → Option kS} (hk10 : ∀ (a1 : Int32) (a2 : Int32) (a3 : Int32) (σ : kS) (H : Heap) (locs : List Loc) (ls : Array Slot), k10 a1 a2 a3 σ = some σ1 → kWS E s (cmb ω σ) H locs → lv_has ls 6 [(0, .ref (ead E 26)), (1, .int a1), (2, .int a2), (3, .int a3)] → W p l e (rml 4) s m args below meth c H locs 0 0 Q (F0 m 10 ls [])) : ∀ (a1 : Int32) (a2 : Int32) (a3 : Int32) (as0 : Int32) (σ : kS) (H : Heap) (locs : List Loc) (ls : Array Slot), fX5_spreads_J55 k10 a1 a2 a3 as0 σ = some σ1 → kWS E s (cmb ω σ) H locs → lv_has ls 6 [(0, .ref (ead E 26)), (1, .int a1), (2, .int a2), (3, .int a3)] → W p l e (rml 4) s m args below meth c H locs 0 0 Q (F0 m 55 ls [.int as0]) := by
  intro a1 a2 a3 as0 σ H locs ls hF hw hl
  unfold fX5_spreads_J55 at hF
  refine lv_istore (lv' := [(5, .int as0), (0, .ref (ead E 26)), (1, .int a1), (2, .int a2), (3, .int a3)]) S.1 S.2.1 dX5_spreads_55 hl (by decide) rfl (fun ls hl => ?_)
  refine lv_aload_n S.1 S.2.1 dX5_spreads_57 rfl (lv_at hl 1 rfl) ?_
  refine gf_X5_49 S hw dX5_spreads_58 ?_
  refine lv_iload S.1 S.2.1 dX5_spreads_61 (lv_at hl 0 rfl) ?_
  refine lv_aload_n S.1 S.2.1 dX5_spreads_63 rfl (lv_at hl 1 rfl) ?_
  refine gf_X5_49 S hw dX5_spreads_64 ?_
  refine lv_iload S.1 S.2.1 dX5_spreads_67 (lv_at hl 0 rfl) ?_
  obtain ⟨hb13, hF⟩ := kin hF
  refine km_iald (q := 14) S hw rfl (Nat.le_of_ble_eq_true rfl) hb13 dX5_spreads_69 ?_
  refine lv_if_ge (tgt := 79) S.1 S.2.1 dX5_spreads_70 (by decide) (fun c14 => ?_) (fun c14 => ?_)
  · replace hF := kit hF c14
    refine lv_aload_n S.1 S.2.1 dX5_spreads_79 rfl (lv_at hl 1 rfl) ?_
    refine gf_X5_49 S hw dX5_spreads_80 ?_
    refine lv_iload S.1 S.2.1 dX5_spreads_83 (lv_at hl 0 rfl) ?_
    obtain ⟨hb15, hF⟩ := kin hF
    refine km_iald (q := 14) S hw rfl (Nat.le_of_ble_eq_true rfl) hb15 dX5_spreads_85 ?_
    obtain ⟨hb16, hF⟩ := kin hF
    refine km_iast (q := 14) S hw rfl (Nat.le_of_ble_eq_true rfl) hb16 dX5_spreads_86 (fun H locs hw => ?_)
    obtain ⟨v17, ev17⟩ : ∃ y : Int32, y = a3 + 1 := ⟨_, rfl⟩
    replace hF := klb hF ev17
    refine lv_iinc (v := v17) (lv' := [(3, .int v17), (5, .int as0), (0, .ref (ead E 26)), (1, .int a1), (2, .int a2)]) S.1 S.2.1 dX5_spreads_87 hl (k := 4) rfl (by rw [ev17]; rfl) (by decide) rfl (fun ls hl => ?_)
    refine lv_goto (tgt := 10) S.1 S.2.1 dX5_spreads_90 (by decide) ?_
    exact hk10 a1 a2 v17 _ _ _ _ hF hw (lv_sub hl [2, 3, 4, 0] rfl)
  · replace hF := kif hF c14
    refine lv_iload_n S.1 S.2.1 dX5_spreads_73 rfl (lv_at hl 2 rfl) ?_
    refine lv_iconst (v := 1) S.1 S.2.1 dX5_spreads_74 (by decide) ?_
    refine lv_iadd S.1 S.2.1 dX5_spreads_75 ?_
    refine lv_goto (tgt := 86) S.1 S.2.1 dX5_spreads_76 (by decide) ?_
    obtain ⟨hb18, hF⟩ := kin hF
    refine km_iast (q := 14) S hw rfl (Nat.le_of_ble_eq_true rfl) hb18 dX5_spreads_86 (fun H locs hw => ?_)
    obtain ⟨v19, ev19⟩ : ∃ y : Int32, y = a3 + 1 := ⟨_, rfl⟩
    replace hF := klb hF ev19
    refine lv_iinc (v := v19) (lv' := [(3, .int v19), (5, .int as0), (0, .ref (ead E 26)), (1, .int a1), (2, .int a2)]) S.1 S.2.1 dX5_spreads_87 hl (k := 4) rfl (by rw [ev19]; rfl) (by decide) rfl (fun ls hl => ?_)
    refine lv_goto (tgt := 10) S.1 S.2.1 dX5_spreads_90 (by decide) ?_
    exact hk10 a1 a2 v19 _ _ _ _ hF hw (lv_sub hl [2, 3, 4, 0] rfl)
set_option maxHeartbeats 4000000 in
set_option maxRecDepth 100000 in
theorem wX5_spreads_L10 {p : Program} {l : Launch} {e : Env} {s : State} {m : MethodId} {args : Array Value} {below : List Frame} {meth : Method} {c : Code} {Q : State → Prop} {E : kE} {ω σ1 : kS} (S : CallFix p m c cX5_spreads 6 s args kBIG RX5) (hR : kRetV p l e (rml 4) s m args below meth c cX5_spreads E Q (cmb ω σ1)) {k2 : Int32 → Int32 → kS → Option kS} (hk2 : ∀ (a1 : Int32) (a2 : Int32) (σ : kS) (H : Heap) (locs : List Loc) (ls : Array Slot), k2 a1 a2 σ = some σ1 → kWS E s (cmb ω σ) H locs → lv_has ls 6 [(0, .ref (ead E 26)), (1, .int a1), (2, .int a2)] → W p l e (rml 4) s m args below meth c H locs 0 0 Q (F0 m 2 ls [])) : ∀ (n : Nat), ∀ (a1 : Int32) (a2 : Int32) (a3 : Int32) (σ : kS) (H : Heap) (locs : List Loc) (ls : Array Slot), fX5_spreads_L10 k2 n a1 a2 a3 σ = some σ1 → kWS E s (cmb ω σ) H locs → lv_has ls 6 [(0, .ref (ead E 26)), (1, .int a1), (2, .int a2), (3, .int a3)] → W p l e (rml 4) s m args below meth c H locs 0 0 Q (F0 m 10 ls []) := by
  intro n
  induction n with
  | zero =>
    intro a1 a2 a3 σ H locs ls hF hw hl
    exact absurd hF (fun h => nomatch h)
  | succ n ih =>
    intro a1 a2 a3 σ H locs ls hF hw hl
    rw [fX5_spreads_L10] at hF
    refine lv_iload_n S.1 S.2.1 dX5_spreads_10 rfl (lv_at hl 3 rfl) ?_
    refine lv_aload_n S.1 S.2.1 dX5_spreads_11 rfl (lv_at hl 0 rfl) ?_
    refine gf_X5_80 S hw dX5_spreads_12 ?_
    refine lv_icmp_ge (tgt := 93) S.1 S.2.1 dX5_spreads_15 (by decide) (fun c2 => ?_) (fun c2 => ?_)
    · replace hF := kit hF c2
      obtain ⟨v3, ev3⟩ : ∃ y : Int32, y = a2 + 1 := ⟨_, rfl⟩
      replace hF := klb hF ev3
      refine lv_iinc (v := v3) (lv' := [(2, .int v3), (0, .ref (ead E 26)), (1, .int a1), (3, .int a3)]) S.1 S.2.1 dX5_spreads_93 hl (k := 2) rfl (by rw [ev3]; rfl) (by decide) rfl (fun ls hl => ?_)
      refine lv_goto (tgt := 2) S.1 S.2.1 dX5_spreads_96 (by decide) ?_
      exact hk2 a1 v3 _ _ _ _ hF hw (lv_sub hl [1, 2, 0] rfl)
    · replace hF := kif hF c2
      refine lv_aload_n S.1 S.2.1 dX5_spreads_18 rfl (lv_at hl 0 rfl) ?_
      refine gf_X5_49 S hw dX5_spreads_19 ?_
      refine lv_iload_n S.1 S.2.1 dX5_spreads_22 rfl (lv_at hl 2 rfl) ?_
      obtain ⟨hb4, hF⟩ := kin hF
      refine km_iald (q := 14) S hw rfl (Nat.le_of_ble_eq_true rfl) hb4 dX5_spreads_23 ?_
      refine lv_iload_n S.1 S.2.1 dX5_spreads_24 rfl (lv_at hl 1 rfl) ?_
      refine lv_icmp_ne (tgt := 93) S.1 S.2.1 dX5_spreads_25 (by decide) (fun c5 => ?_) (fun c5 => ?_)
      · replace hF := kif hF c5
        obtain ⟨v6, ev6⟩ : ∃ y : Int32, y = a2 + 1 := ⟨_, rfl⟩
        replace hF := klb hF ev6
        refine lv_iinc (v := v6) (lv' := [(2, .int v6), (0, .ref (ead E 26)), (1, .int a1), (3, .int a3)]) S.1 S.2.1 dX5_spreads_93 hl (k := 2) rfl (by rw [ev6]; rfl) (by decide) rfl (fun ls hl => ?_)
        refine lv_goto (tgt := 2) S.1 S.2.1 dX5_spreads_96 (by decide) ?_
        exact hk2 a1 v6 _ _ _ _ hF hw (lv_sub hl [1, 2, 0] rfl)
      · replace hF := kit hF c5
        refine lv_aload_n S.1 S.2.1 dX5_spreads_28 rfl (lv_at hl 0 rfl) ?_
        refine lv_iload_n S.1 S.2.1 dX5_spreads_29 rfl (lv_at hl 2 rfl) ?_
        obtain ⟨σ8, e7, hF⟩ := kbv_e hF
        refine kcX5_asMet S hw cv_X5_225 ⟨Nat.le_of_ble_eq_true rfl, Nat.le_of_ble_eq_true rfl⟩ e7 hl.1 (Nat.le_of_ble_eq_true rfl) dX5_spreads_30 (fun H locs hw => ?_)
        refine lv_aload_n S.1 S.2.1 dX5_spreads_33 rfl (lv_at hl 0 rfl) ?_
        refine lv_iload_n S.1 S.2.1 dX5_spreads_34 rfl (lv_at hl 3 rfl) ?_
        obtain ⟨r11, σ10, e9, hF⟩ := kbi_e hF
        refine kcX5_goesTo S hw cv_X5_165 ⟨Nat.le_of_ble_eq_true rfl, Nat.le_of_ble_eq_true rfl⟩ e9 hl.1 (Nat.le_of_ble_eq_true rfl) dX5_spreads_35 (fun H locs hw => ?_)
        refine lv_istore (lv' := [(4, .int r11), (0, .ref (ead E 26)), (1, .int a1), (2, .int a2), (3, .int a3)]) S.1 S.2.1 dX5_spreads_38 hl (by decide) rfl (fun ls hl => ?_)
        refine lv_iload S.1 S.2.1 dX5_spreads_40 (lv_at hl 0 rfl) ?_
        refine lv_if_ge (tgt := 49) S.1 S.2.1 dX5_spreads_42 (by decide) (fun c12 => ?_) (fun c12 => ?_)
        · replace hF := kit hF c12
          refine lv_iload_n S.1 S.2.1 dX5_spreads_49 rfl (lv_at hl 3 rfl) ?_
          refine lv_iconst (v := 1) S.1 S.2.1 dX5_spreads_50 (by decide) ?_
          refine lv_iload S.1 S.2.1 dX5_spreads_51 (lv_at hl 0 rfl) ?_
          refine lv_ishl S.1 S.2.1 dX5_spreads_53 ?_
          refine lv_ior S.1 S.2.1 dX5_spreads_54 ?_
          exact wX5_spreads_J55 S hR ih a1 a2 a3 (a2 ||| ((1 : Int32) <<< (r11 &&& 31))) _ _ _ _ hF hw (lv_sub hl [1, 2, 3, 4] rfl)
        · replace hF := kif hF c12
          refine lv_iload_n S.1 S.2.1 dX5_spreads_45 rfl (lv_at hl 3 rfl) ?_
          refine lv_goto (tgt := 55) S.1 S.2.1 dX5_spreads_46 (by decide) ?_
          exact wX5_spreads_J55 S hR ih a1 a2 a3 a2 _ _ _ _ hF hw (lv_sub hl [1, 2, 3, 4] rfl)
set_option maxHeartbeats 4000000 in
set_option maxRecDepth 100000 in
theorem wX5_spreads_L2 {p : Program} {l : Launch} {e : Env} {s : State} {m : MethodId} {args : Array Value} {below : List Frame} {meth : Method} {c : Code} {Q : State → Prop} {E : kE} {ω σ1 : kS} (S : CallFix p m c cX5_spreads 6 s args kBIG RX5) (hR : kRetV p l e (rml 4) s m args below meth c cX5_spreads E Q (cmb ω σ1))  : ∀ (n : Nat), ∀ (a1 : Int32) (a2 : Int32) (σ : kS) (H : Heap) (locs : List Loc) (ls : Array Slot), fX5_spreads_L2 n a1 a2 σ = some σ1 → kWS E s (cmb ω σ) H locs → lv_has ls 6 [(0, .ref (ead E 26)), (1, .int a1), (2, .int a2)] → W p l e (rml 4) s m args below meth c H locs 0 0 Q (F0 m 2 ls []) := by
  intro n
  induction n with
  | zero =>
    intro a1 a2 σ H locs ls hF hw hl
    exact absurd hF (fun h => nomatch h)
  | succ n ih =>
    intro a1 a2 σ H locs ls hF hw hl
    rw [fX5_spreads_L2] at hF
    refine lv_iload_n S.1 S.2.1 dX5_spreads_2 rfl (lv_at hl 2 rfl) ?_
    refine lv_bipush (v := 64) S.1 S.2.1 dX5_spreads_3 (by decide) ?_
    refine lv_icmp_ge (tgt := 99) S.1 S.2.1 dX5_spreads_5 (by decide) (fun c1 => ?_) (fun c1 => ?_)
    · replace hF := kit hF c1
      cases kre hF
      exact hR _ _ _ _ dX5_spreads_99 hw
    · replace hF := kif hF c1
      refine lv_iconst (v := 0) S.1 S.2.1 dX5_spreads_8 (by decide) ?_
      refine lv_istore_n (lv' := [(3, .int 0), (0, .ref (ead E 26)), (1, .int a1), (2, .int a2)]) S.1 S.2.1 dX5_spreads_9 rfl hl (by decide) rfl (fun ls hl => ?_)
      exact wX5_spreads_L10 S hR ih 1000 a1 a2 0 _ _ _ _ hF hw (lv_sub hl [1, 2, 3, 0] rfl)
set_option maxHeartbeats 4000000 in
set_option maxRecDepth 100000 in
theorem mX5_spreads {l : Launch} {E : kE} {ω σ σ1 : kS} {a1 : Int32}  (hF : fX5_spreads a1 σ = some σ1) : kMetV l yX5_spreads cX5_spreads 6 4 E [.ref (ead E 26), .int a1] (cmb ω σ) (cmb ω σ1) := by
  refine kMetV.of (by decide +kernel) (Nat.le_of_ble_eq_true rfl) ?_
  intro p e s m args below meth c Q ls S hR hw hl
  have hl : lv_has ls 6 [(0, .ref (ead E 26)), (1, .int a1)] := hl
  unfold fX5_spreads at hF
  refine lv_iconst (v := 0) S.1 S.2.1 dX5_spreads_0 (by decide) ?_
  refine lv_istore_n (lv' := [(2, .int 0), (0, .ref (ead E 26)), (1, .int a1)]) S.1 S.2.1 dX5_spreads_1 rfl hl (by decide) rfl (fun ls hl => ?_)
  exact wX5_spreads_L2 S hR 1000 a1 0 _ _ _ _ hF hw (lv_sub hl [1, 2, 0] rfl)
set_option maxRecDepth 100000 in
theorem kcX5_spreads {p : Program} {l : Launch} {e : Env} {R : Room} {s : State} {m : MethodId} {args : Array Value} {below : List Frame} {meth : Method} {c : Code} {H : Heap} {locs : List Loc} {cells slots : Nat} {Q : State → Prop} {cc : ByteArray} {pc : Nat} {ls : Array Slot} {rest : List Value} {E : kE} {σ ω σ1 : kS} {nL index : Nat} {own : String} (S : CallFix p m c cc nL s args kBIG own) (hw : kWS E s (cmb ω σ) H locs) (cw : kV own RX5 index yX5_spreads cX5_spreads 6 none 1) (hR : 4 + 1 ≤ R.frames ∧ 8 + (6 + 11) + 40 * 4 ≤ R.locals) {a1 : Int32}  (hF : fX5_spreads a1 σ = some σ1) (hls : ls.size = nL) (hW : (rest.map fun v => v.category).sum ≤ 8) (hdg : decode cc pc = .ok (.invokevirtual index, 3)) (kk : ∀ (H1 : Heap) (locs1 : List Loc), kWS E s (cmb ω σ1) H1 locs1 → W p l e R s m args below meth c H1 locs1 cells slots Q (F0 m (pc + 3) ls rest)) (hf : cells ≤ R.cells ∧ slots ≤ R.slots := by exact ⟨Nat.le_of_ble_eq_true rfl, Nat.le_of_ble_eq_true rfl⟩) : W p l e R s m args below meth c H locs cells slots Q (F0 m pc ls (.int a1 :: .ref (ead E 26) :: rest)) := kr_callv hw (kr_runV (As := [.int a1]) (q := 26) S hw ((mX5_spreads (l := l) (E := E) (ω := ω) hF) H.size) cw hR rfl (by decide) rfl rfl hls _ rfl hW hdg hf) kk
set_option maxHeartbeats 4000000 in
set_option maxRecDepth 100000 in
theorem wX5_ahead_J102 {p : Program} {l : Launch} {e : Env} {s : State} {m : MethodId} {args : Array Value} {below : List Frame} {meth : Method} {c : Code} {Q : State → Prop} {E : kE} {ω σ1 : kS} {r : Int32} (S : CallFix p m c cX5_ahead 5 s args kBIG RX5) (hR : kRetI p l e (rml 5) s m args below meth c cX5_ahead E Q (some .int) r (cmb ω σ1)) {k68 : Int32 → Int32 → Int32 → kS → Option (Int32 × kS)} (hk68 : ∀ (a1 : Int32) (a2 : Int32) (a3 : Int32) (σ : kS) (H : Heap) (locs : List Loc) (ls : Array Slot), k68 a1 a2 a3 σ = some (r, σ1) → kWS E s (cmb ω σ) H locs → lv_has ls 5 [(0, .ref (ead E 26)), (1, .int a1), (2, .int a2), (3, .int a3)] → W p l e (rml 5) s m args below meth c H locs 0 0 Q (F0 m 68 ls [])) : ∀ (a1 : Int32) (a2 : Int32) (a3 : Int32) (as0 : Int32) (σ : kS) (H : Heap) (locs : List Loc) (ls : Array Slot), fX5_ahead_J102 k68 a1 a2 a3 as0 σ = some (r, σ1) → kWS E s (cmb ω σ) H locs → lv_has ls 5 [(0, .ref (ead E 26)), (1, .int a1), (2, .int a2), (3, .int a3)] → W p l e (rml 5) s m args below meth c H locs 0 0 Q (F0 m 102 ls [.int as0]) := by
  intro a1 a2 a3 as0 σ H locs ls hF hw hl
  unfold fX5_ahead_J102 at hF
  refine lv_istore (lv' := [(4, .int as0), (0, .ref (ead E 26)), (1, .int a1), (2, .int a2), (3, .int a3)]) S.1 S.2.1 dX5_ahead_102 hl (by decide) rfl (fun ls hl => ?_)
  refine lv_iload S.1 S.2.1 dX5_ahead_104 (lv_at hl 0 rfl) ?_
  refine lv_if_eq (tgt := 132) S.1 S.2.1 dX5_ahead_106 (by decide) (fun c29 => ?_) (fun c29 => ?_)
  · replace hF := kit hF c29
    refine lv_iload_n S.1 S.2.1 dX5_ahead_132 rfl (lv_at hl 3 rfl) ?_
    refine lv_istore_n (lv' := [(2, .int a2), (4, .int as0), (0, .ref (ead E 26)), (1, .int a1), (3, .int a3)]) S.1 S.2.1 dX5_ahead_133 rfl hl (by decide) rfl (fun ls hl => ?_)
    obtain ⟨v30, ev30⟩ : ∃ y : Int32, y = a3 + 1 := ⟨_, rfl⟩
    replace hF := klb hF ev30
    refine lv_iinc (v := v30) (lv' := [(3, .int v30), (2, .int a2), (4, .int as0), (0, .ref (ead E 26)), (1, .int a1)]) S.1 S.2.1 dX5_ahead_134 hl (k := 4) rfl (by rw [ev30]; rfl) (by decide) rfl (fun ls hl => ?_)
    refine lv_goto (tgt := 68) S.1 S.2.1 dX5_ahead_137 (by decide) ?_
    exact hk68 a1 a2 v30 _ _ _ _ hF hw (lv_sub hl [3, 4, 1, 0] rfl)
  · replace hF := kif hF c29
    refine lv_iload_n S.1 S.2.1 dX5_ahead_109 rfl (lv_at hl 3 rfl) ?_
    refine lv_if_lt (tgt := 123) S.1 S.2.1 dX5_ahead_110 (by decide) (fun c31 => ?_) (fun c31 => ?_)
    · replace hF := kit hF c31
      refine lv_aload_n S.1 S.2.1 dX5_ahead_123 rfl (lv_at hl 1 rfl) ?_
      refine gf_X5_49 S hw dX5_ahead_124 ?_
      refine lv_iload_n S.1 S.2.1 dX5_ahead_127 rfl (lv_at hl 4 rfl) ?_
      obtain ⟨hb32, hF⟩ := kin hF
      refine km_iald (q := 14) S hw rfl (Nat.le_of_ble_eq_true rfl) hb32 dX5_ahead_128 ?_
      refine lv_goto (tgt := 133) S.1 S.2.1 dX5_ahead_129 (by decide) ?_
      refine lv_topi (fun v33 ev33 => ?_)
      replace hF := klb hF ev33
      refine lv_istore_n (lv' := [(2, .int v33), (4, .int as0), (0, .ref (ead E 26)), (1, .int a1), (3, .int a3)]) S.1 S.2.1 dX5_ahead_133 rfl hl (by decide) rfl (fun ls hl => ?_)
      obtain ⟨v34, ev34⟩ : ∃ y : Int32, y = a3 + 1 := ⟨_, rfl⟩
      replace hF := klb hF ev34
      refine lv_iinc (v := v34) (lv' := [(3, .int v34), (2, .int v33), (4, .int as0), (0, .ref (ead E 26)), (1, .int a1)]) S.1 S.2.1 dX5_ahead_134 hl (k := 4) rfl (by rw [ev34]; rfl) (by decide) rfl (fun ls hl => ?_)
      refine lv_goto (tgt := 68) S.1 S.2.1 dX5_ahead_137 (by decide) ?_
      exact hk68 a1 v33 v34 _ _ _ _ hF hw (lv_sub hl [3, 4, 1, 0] rfl)
    · replace hF := kif hF c31
      refine lv_aload_n S.1 S.2.1 dX5_ahead_113 rfl (lv_at hl 1 rfl) ?_
      refine gf_X5_49 S hw dX5_ahead_114 ?_
      refine lv_iload_n S.1 S.2.1 dX5_ahead_117 rfl (lv_at hl 4 rfl) ?_
      obtain ⟨hb35, hF⟩ := kin hF
      refine km_iald (q := 14) S hw rfl (Nat.le_of_ble_eq_true rfl) hb35 dX5_ahead_118 ?_
      refine lv_iload_n S.1 S.2.1 dX5_ahead_119 rfl (lv_at hl 3 rfl) ?_
      refine lv_icmp_ge (tgt := 132) S.1 S.2.1 dX5_ahead_120 (by decide) (fun c36 => ?_) (fun c36 => ?_)
      · replace hF := kit hF c36
        refine lv_iload_n S.1 S.2.1 dX5_ahead_132 rfl (lv_at hl 3 rfl) ?_
        refine lv_istore_n (lv' := [(2, .int a2), (4, .int as0), (0, .ref (ead E 26)), (1, .int a1), (3, .int a3)]) S.1 S.2.1 dX5_ahead_133 rfl hl (by decide) rfl (fun ls hl => ?_)
        obtain ⟨v37, ev37⟩ : ∃ y : Int32, y = a3 + 1 := ⟨_, rfl⟩
        replace hF := klb hF ev37
        refine lv_iinc (v := v37) (lv' := [(3, .int v37), (2, .int a2), (4, .int as0), (0, .ref (ead E 26)), (1, .int a1)]) S.1 S.2.1 dX5_ahead_134 hl (k := 4) rfl (by rw [ev37]; rfl) (by decide) rfl (fun ls hl => ?_)
        refine lv_goto (tgt := 68) S.1 S.2.1 dX5_ahead_137 (by decide) ?_
        exact hk68 a1 a2 v37 _ _ _ _ hF hw (lv_sub hl [3, 4, 1, 0] rfl)
      · replace hF := kif hF c36
        refine lv_aload_n S.1 S.2.1 dX5_ahead_123 rfl (lv_at hl 1 rfl) ?_
        refine gf_X5_49 S hw dX5_ahead_124 ?_
        refine lv_iload_n S.1 S.2.1 dX5_ahead_127 rfl (lv_at hl 4 rfl) ?_
        obtain ⟨hb38, hF⟩ := kin hF
        refine km_iald (q := 14) S hw rfl (Nat.le_of_ble_eq_true rfl) hb38 dX5_ahead_128 ?_
        refine lv_goto (tgt := 133) S.1 S.2.1 dX5_ahead_129 (by decide) ?_
        refine lv_topi (fun v39 ev39 => ?_)
        replace hF := klb hF ev39
        refine lv_istore_n (lv' := [(2, .int v39), (4, .int as0), (0, .ref (ead E 26)), (1, .int a1), (3, .int a3)]) S.1 S.2.1 dX5_ahead_133 rfl hl (by decide) rfl (fun ls hl => ?_)
        obtain ⟨v40, ev40⟩ : ∃ y : Int32, y = a3 + 1 := ⟨_, rfl⟩
        replace hF := klb hF ev40
        refine lv_iinc (v := v40) (lv' := [(3, .int v40), (2, .int v39), (4, .int as0), (0, .ref (ead E 26)), (1, .int a1)]) S.1 S.2.1 dX5_ahead_134 hl (k := 4) rfl (by rw [ev40]; rfl) (by decide) rfl (fun ls hl => ?_)
        refine lv_goto (tgt := 68) S.1 S.2.1 dX5_ahead_137 (by decide) ?_
        exact hk68 a1 v39 v40 _ _ _ _ hF hw (lv_sub hl [3, 4, 1, 0] rfl)
set_option maxHeartbeats 4000000 in
set_option maxRecDepth 100000 in
theorem wX5_ahead_L68 {p : Program} {l : Launch} {e : Env} {s : State} {m : MethodId} {args : Array Value} {below : List Frame} {meth : Method} {c : Code} {Q : State → Prop} {E : kE} {ω σ1 : kS} {r : Int32} (S : CallFix p m c cX5_ahead 5 s args kBIG RX5) (hR : kRetI p l e (rml 5) s m args below meth c cX5_ahead E Q (some .int) r (cmb ω σ1))  : ∀ (n : Nat), ∀ (a1 : Int32) (a2 : Int32) (a3 : Int32) (σ : kS) (H : Heap) (locs : List Loc) (ls : Array Slot), fX5_ahead_L68 n a1 a2 a3 σ = some (r, σ1) → kWS E s (cmb ω σ) H locs → lv_has ls 5 [(0, .ref (ead E 26)), (1, .int a1), (2, .int a2), (3, .int a3)] → W p l e (rml 5) s m args below meth c H locs 0 0 Q (F0 m 68 ls []) := by
  intro n
  induction n with
  | zero =>
    intro a1 a2 a3 σ H locs ls hF hw hl
    exact absurd hF (fun h => nomatch h)
  | succ n ih =>
    intro a1 a2 a3 σ H locs ls hF hw hl
    rw [fX5_ahead_L68] at hF
    refine lv_iload_n S.1 S.2.1 dX5_ahead_68 rfl (lv_at hl 3 rfl) ?_
    refine lv_bipush (v := 64) S.1 S.2.1 dX5_ahead_69 (by decide) ?_
    refine lv_icmp_ge (tgt := 140) S.1 S.2.1 dX5_ahead_71 (by decide) (fun c18 => ?_) (fun c18 => ?_)
    · replace hF := kit hF c18
      refine lv_aload_n S.1 S.2.1 dX5_ahead_140 rfl (lv_at hl 0 rfl) ?_
      obtain ⟨σ20, e19, hF⟩ := kbv_e hF
      refine kcX5_bringBack S hw cv_X5_197 ⟨Nat.le_of_ble_eq_true rfl, Nat.le_of_ble_eq_true rfl⟩ e19 hl.1 (Nat.le_of_ble_eq_true rfl) dX5_ahead_141 (fun H locs hw => ?_)
      refine lv_iload_n S.1 S.2.1 dX5_ahead_144 rfl (lv_at hl 2 rfl) ?_
      obtain ⟨rfl, rfl⟩ := kret hF
      exact hR _ _ _ _ dX5_ahead_145 hw (fun h => nomatch h)
    · replace hF := kif hF c18
      refine lv_aload_n S.1 S.2.1 dX5_ahead_74 rfl (lv_at hl 0 rfl) ?_
      refine lv_iload_n S.1 S.2.1 dX5_ahead_75 rfl (lv_at hl 3 rfl) ?_
      obtain ⟨σ22, e21, hF⟩ := kbv_e hF
      refine kcX5_asMet S hw cv_X5_225 ⟨Nat.le_of_ble_eq_true rfl, Nat.le_of_ble_eq_true rfl⟩ e21 hl.1 (Nat.le_of_ble_eq_true rfl) dX5_ahead_76 (fun H locs hw => ?_)
      refine lv_aload_n S.1 S.2.1 dX5_ahead_79 rfl (lv_at hl 0 rfl) ?_
      refine gf_X5_49 S hw dX5_ahead_80 ?_
      refine lv_iload_n S.1 S.2.1 dX5_ahead_83 rfl (lv_at hl 3 rfl) ?_
      obtain ⟨hb23, hF⟩ := kin hF
      refine km_iald (q := 14) S hw rfl (Nat.le_of_ble_eq_true rfl) hb23 dX5_ahead_84 ?_
      refine lv_if_lt (tgt := 101) S.1 S.2.1 dX5_ahead_85 (by decide) (fun c24 => ?_) (fun c24 => ?_)
      · replace hF := kit hF c24
        refine lv_iconst (v := 0) S.1 S.2.1 dX5_ahead_101 (by decide) ?_
        exact wX5_ahead_J102 S hR ih a1 a2 a3 0 _ _ _ _ hF hw (lv_sub hl [0, 1, 2, 3] rfl)
      · replace hF := kif hF c24
        refine lv_aload_n S.1 S.2.1 dX5_ahead_88 rfl (lv_at hl 0 rfl) ?_
        refine lv_iload_n S.1 S.2.1 dX5_ahead_89 rfl (lv_at hl 1 rfl) ?_
        obtain ⟨r27, σ26, e25, hF⟩ := kbi_e hF
        refine kcX5_goesTo S hw cv_X5_165 ⟨Nat.le_of_ble_eq_true rfl, Nat.le_of_ble_eq_true rfl⟩ e25 hl.1 (Nat.le_of_ble_eq_true rfl) dX5_ahead_90 (fun H locs hw => ?_)
        refine lv_iload_n S.1 S.2.1 dX5_ahead_93 rfl (lv_at hl 1 rfl) ?_
        refine lv_icmp_ne (tgt := 101) S.1 S.2.1 dX5_ahead_94 (by decide) (fun c28 => ?_) (fun c28 => ?_)
        · replace hF := kif hF c28
          refine lv_iconst (v := 0) S.1 S.2.1 dX5_ahead_101 (by decide) ?_
          exact wX5_ahead_J102 S hR ih a1 a2 a3 0 _ _ _ _ hF hw (lv_sub hl [0, 1, 2, 3] rfl)
        · replace hF := kit hF c28
          refine lv_iconst (v := 1) S.1 S.2.1 dX5_ahead_97 (by decide) ?_
          refine lv_goto (tgt := 102) S.1 S.2.1 dX5_ahead_98 (by decide) ?_
          exact wX5_ahead_J102 S hR ih a1 a2 a3 1 _ _ _ _ hF hw (lv_sub hl [0, 1, 2, 3] rfl)
set_option maxHeartbeats 4000000 in
set_option maxRecDepth 100000 in
theorem wX5_ahead_L46 {p : Program} {l : Launch} {e : Env} {s : State} {m : MethodId} {args : Array Value} {below : List Frame} {meth : Method} {c : Code} {Q : State → Prop} {E : kE} {ω σ1 : kS} {r : Int32} (S : CallFix p m c cX5_ahead 5 s args kBIG RX5) (hR : kRetI p l e (rml 5) s m args below meth c cX5_ahead E Q (some .int) r (cmb ω σ1))  : ∀ (n : Nat), ∀ (a1 : Int32) (a2 : Int32) (σ : kS) (H : Heap) (locs : List Loc) (ls : Array Slot), fX5_ahead_L46 n a1 a2 σ = some (r, σ1) → kWS E s (cmb ω σ) H locs → lv_has ls 5 [(0, .ref (ead E 26)), (1, .int a1), (2, .int a2)] → W p l e (rml 5) s m args below meth c H locs 0 0 Q (F0 m 46 ls []) := by
  intro n
  induction n with
  | zero =>
    intro a1 a2 σ H locs ls hF hw hl
    exact absurd hF (fun h => nomatch h)
  | succ n ih =>
    intro a1 a2 σ H locs ls hF hw hl
    rw [fX5_ahead_L46] at hF
    refine lv_iload_n S.1 S.2.1 dX5_ahead_46 rfl (lv_at hl 2 rfl) ?_
    refine lv_bipush (v := 7) S.1 S.2.1 dX5_ahead_47 (by decide) ?_
    refine lv_icmp_ge (tgt := 63) S.1 S.2.1 dX5_ahead_49 (by decide) (fun c14 => ?_) (fun c14 => ?_)
    · replace hF := kit hF c14
      refine lv_bipush (v := (-9)) S.1 S.2.1 dX5_ahead_63 (by decide) ?_
      refine lv_istore_n (lv' := [(2, .int (-9)), (0, .ref (ead E 26)), (1, .int a1)]) S.1 S.2.1 dX5_ahead_65 rfl hl (by decide) rfl (fun ls hl => ?_)
      refine lv_iconst (v := 0) S.1 S.2.1 dX5_ahead_66 (by decide) ?_
      refine lv_istore_n (lv' := [(3, .int 0), (2, .int (-9)), (0, .ref (ead E 26)), (1, .int a1)]) S.1 S.2.1 dX5_ahead_67 rfl hl (by decide) rfl (fun ls hl => ?_)
      exact wX5_ahead_L68 S hR 1000 a1 (-9) 0 _ _ _ _ hF hw (lv_sub hl [2, 3, 1, 0] rfl)
    · replace hF := kif hF c14
      refine lv_aload_n S.1 S.2.1 dX5_ahead_52 rfl (lv_at hl 0 rfl) ?_
      refine lv_iload_n S.1 S.2.1 dX5_ahead_53 rfl (lv_at hl 2 rfl) ?_
      obtain ⟨σ16, e15, hF⟩ := kbv_e hF
      refine kcX5_spreads S hw cv_X5_229 ⟨Nat.le_of_ble_eq_true rfl, Nat.le_of_ble_eq_true rfl⟩ e15 hl.1 (Nat.le_of_ble_eq_true rfl) dX5_ahead_54 (fun H locs hw => ?_)
      obtain ⟨v17, ev17⟩ : ∃ y : Int32, y = a2 + 1 := ⟨_, rfl⟩
      replace hF := klb hF ev17
      refine lv_iinc (v := v17) (lv' := [(2, .int v17), (0, .ref (ead E 26)), (1, .int a1)]) S.1 S.2.1 dX5_ahead_57 hl (k := 2) rfl (by rw [ev17]; rfl) (by decide) rfl (fun ls hl => ?_)
      refine lv_goto (tgt := 46) S.1 S.2.1 dX5_ahead_60 (by decide) ?_
      exact ih a1 v17 _ _ _ _ hF hw (lv_sub hl [1, 2, 0] rfl)
set_option maxHeartbeats 4000000 in
set_option maxRecDepth 100000 in
theorem wX5_ahead_L16 {p : Program} {l : Launch} {e : Env} {s : State} {m : MethodId} {args : Array Value} {below : List Frame} {meth : Method} {c : Code} {Q : State → Prop} {E : kE} {ω σ1 : kS} {r : Int32} (S : CallFix p m c cX5_ahead 5 s args kBIG RX5) (hR : kRetI p l e (rml 5) s m args below meth c cX5_ahead E Q (some .int) r (cmb ω σ1))  : ∀ (n : Nat), ∀ (a1 : Int32) (a2 : Int32) (σ : kS) (H : Heap) (locs : List Loc) (ls : Array Slot), fX5_ahead_L16 n a1 a2 σ = some (r, σ1) → kWS E s (cmb ω σ) H locs → lv_has ls 5 [(0, .ref (ead E 26)), (1, .int a1), (2, .int a2)] → W p l e (rml 5) s m args below meth c H locs 0 0 Q (F0 m 16 ls []) := by
  intro n
  induction n with
  | zero =>
    intro a1 a2 σ H locs ls hF hw hl
    exact absurd hF (fun h => nomatch h)
  | succ n ih =>
    intro a1 a2 σ H locs ls hF hw hl
    rw [fX5_ahead_L16] at hF
    refine lv_iload_n S.1 S.2.1 dX5_ahead_16 rfl (lv_at hl 2 rfl) ?_
    refine lv_bipush (v := 64) S.1 S.2.1 dX5_ahead_17 (by decide) ?_
    refine lv_icmp_ge (tgt := 44) S.1 S.2.1 dX5_ahead_19 (by decide) (fun c8 => ?_) (fun c8 => ?_)
    · replace hF := kit hF c8
      refine lv_iconst (v := 0) S.1 S.2.1 dX5_ahead_44 (by decide) ?_
      refine lv_istore_n (lv' := [(2, .int 0), (0, .ref (ead E 26)), (1, .int a1)]) S.1 S.2.1 dX5_ahead_45 rfl hl (by decide) rfl (fun ls hl => ?_)
      exact wX5_ahead_L46 S hR 1000 a1 0 _ _ _ _ hF hw (lv_sub hl [1, 2, 0] rfl)
    · replace hF := kif hF c8
      refine lv_aload_n S.1 S.2.1 dX5_ahead_22 rfl (lv_at hl 0 rfl) ?_
      refine gf_X5_49 S hw dX5_ahead_23 ?_
      refine lv_iload_n S.1 S.2.1 dX5_ahead_26 rfl (lv_at hl 2 rfl) ?_
      refine lv_iload_n S.1 S.2.1 dX5_ahead_27 rfl (lv_at hl 2 rfl) ?_
      refine lv_if_ne (tgt := 35) S.1 S.2.1 dX5_ahead_28 (by decide) (fun c9 => ?_) (fun c9 => ?_)
      · replace hF := kif hF c9
        refine lv_bipush (v := (-9)) S.1 S.2.1 dX5_ahead_35 (by decide) ?_
        obtain ⟨hb10, hF⟩ := kin hF
        refine km_iast (q := 14) S hw rfl (Nat.le_of_ble_eq_true rfl) hb10 dX5_ahead_37 (fun H locs hw => ?_)
        obtain ⟨v11, ev11⟩ : ∃ y : Int32, y = a2 + 1 := ⟨_, rfl⟩
        replace hF := klb hF ev11
        refine lv_iinc (v := v11) (lv' := [(2, .int v11), (0, .ref (ead E 26)), (1, .int a1)]) S.1 S.2.1 dX5_ahead_38 hl (k := 2) rfl (by rw [ev11]; rfl) (by decide) rfl (fun ls hl => ?_)
        refine lv_goto (tgt := 16) S.1 S.2.1 dX5_ahead_41 (by decide) ?_
        exact ih a1 v11 _ _ _ _ hF hw (lv_sub hl [1, 2, 0] rfl)
      · replace hF := kit hF c9
        refine lv_iconst (v := 0) S.1 S.2.1 dX5_ahead_31 (by decide) ?_
        refine lv_goto (tgt := 37) S.1 S.2.1 dX5_ahead_32 (by decide) ?_
        obtain ⟨hb12, hF⟩ := kin hF
        refine km_iast (q := 14) S hw rfl (Nat.le_of_ble_eq_true rfl) hb12 dX5_ahead_37 (fun H locs hw => ?_)
        obtain ⟨v13, ev13⟩ : ∃ y : Int32, y = a2 + 1 := ⟨_, rfl⟩
        replace hF := klb hF ev13
        refine lv_iinc (v := v13) (lv' := [(2, .int v13), (0, .ref (ead E 26)), (1, .int a1)]) S.1 S.2.1 dX5_ahead_38 hl (k := 2) rfl (by rw [ev13]; rfl) (by decide) rfl (fun ls hl => ?_)
        refine lv_goto (tgt := 16) S.1 S.2.1 dX5_ahead_41 (by decide) ?_
        exact ih a1 v13 _ _ _ _ hF hw (lv_sub hl [1, 2, 0] rfl)
set_option maxHeartbeats 4000000 in
set_option maxRecDepth 100000 in
theorem mX5_ahead {l : Launch} {E : kE} {ω σ σ1 : kS} {r : Int32} {a1 : Int32}  (hF : fX5_ahead a1 σ = some (r, σ1)) : kMetI l yX5_ahead cX5_ahead 5 (some .int) 5 E [.ref (ead E 26), .int a1] (cmb ω σ) r (cmb ω σ1) := by
  refine kMetI.of (by decide +kernel) (Nat.le_of_ble_eq_true rfl) (Or.inl rfl) ?_
  intro p e s m args below meth c Q ls S hR hw hl
  have hl : lv_has ls 5 [(0, .ref (ead E 26)), (1, .int a1)] := hl
  unfold fX5_ahead at hF
  refine lv_aload_n S.1 S.2.1 dX5_ahead_0 rfl (lv_at hl 0 rfl) ?_
  refine lv_iload_n S.1 S.2.1 dX5_ahead_1 rfl (lv_at hl 1 rfl) ?_
  obtain ⟨r3, σ2, e1, hF⟩ := kbi_e hF
  refine kcX5_noPerson S hw cv_X5_162 ⟨Nat.le_of_ble_eq_true rfl, Nat.le_of_ble_eq_true rfl⟩ e1 hl.1 (Nat.le_of_ble_eq_true rfl) dX5_ahead_2 (fun H locs hw hz4 => ?_)
  refine lv_if_eq (tgt := 10) S.1 S.2.1 dX5_ahead_5 (by decide) (fun c5 => ?_) (fun c5 => ?_)
  · replace hF := kit hF c5
    refine lv_aload_n S.1 S.2.1 dX5_ahead_10 rfl (lv_at hl 0 rfl) ?_
    obtain ⟨σ7, e6, hF⟩ := kbv_e hF
    refine kcX5_keepAll S hw cv_X5_190 ⟨Nat.le_of_ble_eq_true rfl, Nat.le_of_ble_eq_true rfl⟩ e6 hl.1 (Nat.le_of_ble_eq_true rfl) dX5_ahead_11 (fun H locs hw => ?_)
    refine lv_iconst (v := 0) S.1 S.2.1 dX5_ahead_14 (by decide) ?_
    refine lv_istore_n (lv' := [(2, .int 0), (0, .ref (ead E 26)), (1, .int a1)]) S.1 S.2.1 dX5_ahead_15 rfl hl (by decide) rfl (fun ls hl => ?_)
    exact wX5_ahead_L16 S hR 1000 a1 0 _ _ _ _ hF hw (lv_sub hl [1, 2, 0] rfl)
  · replace hF := kif hF c5
    refine lv_iconst (v := (-1)) S.1 S.2.1 dX5_ahead_8 (by decide) ?_
    obtain ⟨rfl, rfl⟩ := kret hF
    exact hR _ _ _ _ dX5_ahead_9 hw (fun h => nomatch h)
set_option maxRecDepth 100000 in
theorem kcX5_ahead {p : Program} {l : Launch} {e : Env} {R : Room} {s : State} {m : MethodId} {args : Array Value} {below : List Frame} {meth : Method} {c : Code} {H : Heap} {locs : List Loc} {cells slots : Nat} {Q : State → Prop} {cc : ByteArray} {pc : Nat} {ls : Array Slot} {rest : List Value} {E : kE} {σ ω σ1 : kS} {nL index : Nat} {own : String} {r : Int32} (S : CallFix p m c cc nL s args kBIG own) (hw : kWS E s (cmb ω σ) H locs) (cw : kV own RX5 index yX5_ahead cX5_ahead 5 (some .int) 1) (hR : 5 + 1 ≤ R.frames ∧ 8 + (5 + 11) + 40 * 5 ≤ R.locals) {a1 : Int32}  (hF : fX5_ahead a1 σ = some (r, σ1)) (hls : ls.size = nL) (hW : (rest.map fun v => v.category).sum ≤ 8) (hdg : decode cc pc = .ok (.invokevirtual index, 3)) (kk : ∀ (H1 : Heap) (locs1 : List Loc), kWS E s (cmb ω σ1) H1 locs1 → W p l e R s m args below meth c H1 locs1 cells slots Q (F0 m (pc + 3) ls (.int r :: rest))) (hf : cells ≤ R.cells ∧ slots ≤ R.slots := by exact ⟨Nat.le_of_ble_eq_true rfl, Nat.le_of_ble_eq_true rfl⟩) : W p l e R s m args below meth c H locs cells slots Q (F0 m pc ls (.int a1 :: .ref (ead E 26) :: rest)) := kr_calli (mc := 0) (y := yX5_ahead) (b := cX5_ahead) (n := 0) (lv := 0) (As := []) (ret := some .int) hw (kr_runV (As := [.int a1]) (q := 26) S hw ((mX5_ahead (l := l) (E := E) (ω := ω) hF) H.size) cw hR rfl (by decide) rfl rfl hls _ rfl hW hdg hf) (fun H1 locs1 h _ => kk H1 locs1 h)
