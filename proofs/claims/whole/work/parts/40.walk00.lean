set_option maxHeartbeats 4000000 in
set_option maxRecDepth 100000 in
theorem mX0_become {l : Launch} {E : kE} {ω σ σ1 : kS} {q0 : Nat} {q1 : Nat} (hq0 : isM q0) (hq1 : isM q1) (hF : fX0_become q0 q1 σ = some σ1) : kMetV l yX0_become cX0_become 2 1 E [.ref (ead E q0), .ref (ead E q1)] (cmb σ ω) (cmb σ1 ω) := by
  refine kMetV.of (by decide +kernel) (Nat.le_of_ble_eq_true rfl) ?_
  intro p e s m args below meth c Q ls S hR hw hl
  have hl : lv_has ls 2 [(0, .ref (ead E q0)), (1, .ref (ead E q1))] := hl
  unfold fX0_become at hF
  refine lv_aload_n S.1 S.2.1 dX0_become_0 rfl (lv_at hl 0 rfl) ?_
  refine lv_aload_n S.1 S.2.1 dX0_become_1 rfl (lv_at hl 1 rfl) ?_
  refine gf_X0_24 S hw hq1.1 hq1.2.1 rfl dX0_become_2 ?_
  refine pf_X0_24 S hw hq0.1 hq0.2.1 rfl dX0_become_5 (fun H locs hw => ?_)
  refine lv_aload_n S.1 S.2.1 dX0_become_8 rfl (lv_at hl 0 rfl) ?_
  refine lv_aload_n S.1 S.2.1 dX0_become_9 rfl (lv_at hl 1 rfl) ?_
  refine gf_X0_28 S hw hq1.1 hq1.2.1 rfl dX0_become_10 ?_
  refine pf_X0_28 S hw hq0.1 hq0.2.1 rfl dX0_become_13 (fun H locs hw => ?_)
  refine lv_aload_n S.1 S.2.1 dX0_become_16 rfl (lv_at hl 0 rfl) ?_
  refine lv_aload_n S.1 S.2.1 dX0_become_17 rfl (lv_at hl 1 rfl) ?_
  refine gf_X0_31 S hw hq1.1 hq1.2.1 rfl dX0_become_18 ?_
  refine pf_X0_31 S hw hq0.1 hq0.2.1 rfl dX0_become_21 (fun H locs hw => ?_)
  refine lv_aload_n S.1 S.2.1 dX0_become_24 rfl (lv_at hl 1 rfl) ?_
  refine gf_X0_9 S hw hq1.1 hq1.2.1 rfl dX0_become_25 ?_
  refine lv_iconst (v := 0) S.1 S.2.1 dX0_become_28 (by decide) ?_
  refine lv_aload_n S.1 S.2.1 dX0_become_29 rfl (lv_at hl 0 rfl) ?_
  refine gf_X0_9 S hw hq0.1 hq0.2.1 rfl dX0_become_30 ?_
  refine lv_iconst (v := 0) S.1 S.2.1 dX0_become_33 (by decide) ?_
  refine lv_bipush (v := 6) S.1 S.2.1 dX0_become_34 (by decide) ?_
  obtain ⟨hb1, hF⟩ := kin hF
  refine kx_copy S hw (S.2.2.1.trans hl.1.symm) q2_46 hq1.2.2.1 hq0.2.2.1 hb1 (Nat.le_of_ble_eq_true rfl) (Nat.le_of_ble_eq_true rfl) dX0_become_36 (fun H locs hw => ?_)
  refine lv_aload_n S.1 S.2.1 dX0_become_39 rfl (lv_at hl 1 rfl) ?_
  refine gf_X0_15 S hw hq1.1 hq1.2.1 rfl dX0_become_40 ?_
  refine lv_iconst (v := 0) S.1 S.2.1 dX0_become_43 (by decide) ?_
  refine lv_aload_n S.1 S.2.1 dX0_become_44 rfl (lv_at hl 0 rfl) ?_
  refine gf_X0_15 S hw hq0.1 hq0.2.1 rfl dX0_become_45 ?_
  refine lv_iconst (v := 0) S.1 S.2.1 dX0_become_48 (by decide) ?_
  refine lv_bipush (v := 6) S.1 S.2.1 dX0_become_49 (by decide) ?_
  obtain ⟨hb2, hF⟩ := kin hF
  refine kx_copy S hw (S.2.2.1.trans hl.1.symm) q2_46 hq1.2.2.2.1 hq0.2.2.2.1 hb2 (Nat.le_of_ble_eq_true rfl) (Nat.le_of_ble_eq_true rfl) dX0_become_51 (fun H locs hw => ?_)
  refine lv_aload_n S.1 S.2.1 dX0_become_54 rfl (lv_at hl 1 rfl) ?_
  refine gf_X0_18 S hw hq1.1 hq1.2.1 rfl dX0_become_55 ?_
  refine lv_iconst (v := 0) S.1 S.2.1 dX0_become_58 (by decide) ?_
  refine lv_aload_n S.1 S.2.1 dX0_become_59 rfl (lv_at hl 0 rfl) ?_
  refine gf_X0_18 S hw hq0.1 hq0.2.1 rfl dX0_become_60 ?_
  refine lv_iconst (v := 0) S.1 S.2.1 dX0_become_63 (by decide) ?_
  refine lv_bipush (v := 6) S.1 S.2.1 dX0_become_64 (by decide) ?_
  obtain ⟨hb3, hF⟩ := kin hF
  refine kx_copy S hw (S.2.2.1.trans hl.1.symm) q2_46 hq1.2.2.2.2.1 hq0.2.2.2.2.1 hb3 (Nat.le_of_ble_eq_true rfl) (Nat.le_of_ble_eq_true rfl) dX0_become_66 (fun H locs hw => ?_)
  refine lv_aload_n S.1 S.2.1 dX0_become_69 rfl (lv_at hl 1 rfl) ?_
  refine gf_X0_21 S hw hq1.1 hq1.2.1 rfl dX0_become_70 ?_
  refine lv_iconst (v := 0) S.1 S.2.1 dX0_become_73 (by decide) ?_
  refine lv_aload_n S.1 S.2.1 dX0_become_74 rfl (lv_at hl 0 rfl) ?_
  refine gf_X0_21 S hw hq0.1 hq0.2.1 rfl dX0_become_75 ?_
  refine lv_iconst (v := 0) S.1 S.2.1 dX0_become_78 (by decide) ?_
  refine lv_bipush (v := 6) S.1 S.2.1 dX0_become_79 (by decide) ?_
  obtain ⟨hb4, hF⟩ := kin hF
  refine kx_copy S hw (S.2.2.1.trans hl.1.symm) q2_46 hq1.2.2.2.2.2 hq0.2.2.2.2.2 hb4 (Nat.le_of_ble_eq_true rfl) (Nat.le_of_ble_eq_true rfl) dX0_become_81 (fun H locs hw => ?_)
  cases kre hF
  exact hR _ _ _ _ dX0_become_84 hw
set_option maxRecDepth 100000 in
theorem kcX0_become {p : Program} {l : Launch} {e : Env} {R : Room} {s : State} {m : MethodId} {args : Array Value} {below : List Frame} {meth : Method} {c : Code} {H : Heap} {locs : List Loc} {cells slots : Nat} {Q : State → Prop} {cc : ByteArray} {pc : Nat} {ls : Array Slot} {rest : List Value} {E : kE} {σ ω σ1 : kS} {nL index : Nat} {own : String} (S : CallFix p m c cc nL s args kBIG own) (hw : kWS E s (cmb σ ω) H locs) (cw : kV own RX0 index yX0_become cX0_become 2 none 1) (hR : 1 + 1 ≤ R.frames ∧ 8 + (2 + 11) + 40 * 1 ≤ R.locals) {q0 : Nat} {q1 : Nat} (hq0 : isM q0) (hq1 : isM q1) (hF : fX0_become q0 q1 σ = some σ1) (hls : ls.size = nL) (hW : (rest.map fun v => v.category).sum ≤ 8) (hdg : decode cc pc = .ok (.invokevirtual index, 3)) (kk : ∀ (H1 : Heap) (locs1 : List Loc), kWS E s (cmb σ1 ω) H1 locs1 → W p l e R s m args below meth c H1 locs1 cells slots Q (F0 m (pc + 3) ls rest)) (hf : cells ≤ R.cells ∧ slots ≤ R.slots := by exact ⟨Nat.le_of_ble_eq_true rfl, Nat.le_of_ble_eq_true rfl⟩) : W p l e R s m args below meth c H locs cells slots Q (F0 m pc ls (.ref (ead E q1) :: .ref (ead E q0) :: rest)) := kr_callv hw (kr_runV (As := [.ref (ead E q1)]) (q := q0) S hw ((mX0_become (l := l) (E := E) (ω := ω) hq0 hq1 hF) H.size) cw hR hq0.1 (Nat.lt_trans hq0.2.1 (by decide)) rfl rfl hls _ rfl hW hdg hf) kk
set_option maxHeartbeats 4000000 in
set_option maxRecDepth 100000 in
theorem mJ6_bitCount_0f7a4 {l : Launch} {E : kE} {ω σ σ1 : kS} {r : Int32} {a0 : Int32}  (hF : fJ6_bitCount_0f7a4 a0 σ = some (r, σ1)) : kMetI l yJ6_bitCount_0f7a4 cJ6_bitCount_0f7a4 1 (some .int) 0 E [.int a0] (cmb σ ω) r (cmb σ1 ω) := by
  refine kMetI.of (by decide +kernel) (Nat.le_of_ble_eq_true rfl) (Or.inl rfl) ?_
  intro p e s m args below meth c Q ls S hR hw hl
  have hl : lv_has ls 1 [(0, .int a0)] := hl
  unfold fJ6_bitCount_0f7a4 at hF
  refine lv_iload_n S.1 S.2.1 dJ6_bitCount_0f7a4_0 rfl (lv_at hl 0 rfl) ?_
  refine lv_iload_n S.1 S.2.1 dJ6_bitCount_0f7a4_1 rfl (lv_at hl 0 rfl) ?_
  refine lv_iconst (v := 1) S.1 S.2.1 dJ6_bitCount_0f7a4_2 (by decide) ?_
  refine lv_iushr S.1 S.2.1 dJ6_bitCount_0f7a4_3 rfl ?_
  refine lv_ldcw (v := 1431655765) S.1 S.2.1 S.2.2.2.1 (S.2.2.2.2 _ q1_200) dJ6_bitCount_0f7a4_4 ?_
  refine lv_iand S.1 S.2.1 dJ6_bitCount_0f7a4_7 ?_
  refine lv_isub S.1 S.2.1 dJ6_bitCount_0f7a4_8 ?_
  refine lv_topi (fun v1 ev1 => ?_)
  replace hF := klb hF ev1
  refine lv_istore_n (lv' := [(0, .int v1)]) S.1 S.2.1 dJ6_bitCount_0f7a4_9 rfl hl (by decide) rfl (fun ls hl => ?_)
  refine lv_iload_n S.1 S.2.1 dJ6_bitCount_0f7a4_10 rfl (lv_at hl 0 rfl) ?_
  refine lv_ldcw (v := 858993459) S.1 S.2.1 S.2.2.2.1 (S.2.2.2.2 _ q1_201) dJ6_bitCount_0f7a4_11 ?_
  refine lv_iand S.1 S.2.1 dJ6_bitCount_0f7a4_14 ?_
  refine lv_iload_n S.1 S.2.1 dJ6_bitCount_0f7a4_15 rfl (lv_at hl 0 rfl) ?_
  refine lv_iconst (v := 2) S.1 S.2.1 dJ6_bitCount_0f7a4_16 (by decide) ?_
  refine lv_iushr S.1 S.2.1 dJ6_bitCount_0f7a4_17 rfl ?_
  refine lv_ldcw (v := 858993459) S.1 S.2.1 S.2.2.2.1 (S.2.2.2.2 _ q1_201) dJ6_bitCount_0f7a4_18 ?_
  refine lv_iand S.1 S.2.1 dJ6_bitCount_0f7a4_21 ?_
  refine lv_iadd S.1 S.2.1 dJ6_bitCount_0f7a4_22 ?_
  refine lv_topi (fun v2 ev2 => ?_)
  replace hF := klb hF ev2
  refine lv_istore_n (lv' := [(0, .int v2)]) S.1 S.2.1 dJ6_bitCount_0f7a4_23 rfl hl (by decide) rfl (fun ls hl => ?_)
  refine lv_iload_n S.1 S.2.1 dJ6_bitCount_0f7a4_24 rfl (lv_at hl 0 rfl) ?_
  refine lv_iload_n S.1 S.2.1 dJ6_bitCount_0f7a4_25 rfl (lv_at hl 0 rfl) ?_
  refine lv_iconst (v := 4) S.1 S.2.1 dJ6_bitCount_0f7a4_26 (by decide) ?_
  refine lv_iushr S.1 S.2.1 dJ6_bitCount_0f7a4_27 rfl ?_
  refine lv_iadd S.1 S.2.1 dJ6_bitCount_0f7a4_28 ?_
  refine lv_ldcw (v := 252645135) S.1 S.2.1 S.2.2.2.1 (S.2.2.2.2 _ q1_202) dJ6_bitCount_0f7a4_29 ?_
  refine lv_iand S.1 S.2.1 dJ6_bitCount_0f7a4_32 ?_
  refine lv_topi (fun v3 ev3 => ?_)
  replace hF := klb hF ev3
  refine lv_istore_n (lv' := [(0, .int v3)]) S.1 S.2.1 dJ6_bitCount_0f7a4_33 rfl hl (by decide) rfl (fun ls hl => ?_)
  refine lv_iload_n S.1 S.2.1 dJ6_bitCount_0f7a4_34 rfl (lv_at hl 0 rfl) ?_
  refine lv_iload_n S.1 S.2.1 dJ6_bitCount_0f7a4_35 rfl (lv_at hl 0 rfl) ?_
  refine lv_bipush (v := 8) S.1 S.2.1 dJ6_bitCount_0f7a4_36 (by decide) ?_
  refine lv_iushr S.1 S.2.1 dJ6_bitCount_0f7a4_38 rfl ?_
  refine lv_iadd S.1 S.2.1 dJ6_bitCount_0f7a4_39 ?_
  refine lv_topi (fun v4 ev4 => ?_)
  replace hF := klb hF ev4
  refine lv_istore_n (lv' := [(0, .int v4)]) S.1 S.2.1 dJ6_bitCount_0f7a4_40 rfl hl (by decide) rfl (fun ls hl => ?_)
  refine lv_iload_n S.1 S.2.1 dJ6_bitCount_0f7a4_41 rfl (lv_at hl 0 rfl) ?_
  refine lv_iload_n S.1 S.2.1 dJ6_bitCount_0f7a4_42 rfl (lv_at hl 0 rfl) ?_
  refine lv_bipush (v := 16) S.1 S.2.1 dJ6_bitCount_0f7a4_43 (by decide) ?_
  refine lv_iushr S.1 S.2.1 dJ6_bitCount_0f7a4_45 rfl ?_
  refine lv_iadd S.1 S.2.1 dJ6_bitCount_0f7a4_46 ?_
  refine lv_topi (fun v5 ev5 => ?_)
  replace hF := klb hF ev5
  refine lv_istore_n (lv' := [(0, .int v5)]) S.1 S.2.1 dJ6_bitCount_0f7a4_47 rfl hl (by decide) rfl (fun ls hl => ?_)
  refine lv_iload_n S.1 S.2.1 dJ6_bitCount_0f7a4_48 rfl (lv_at hl 0 rfl) ?_
  refine lv_bipush (v := 63) S.1 S.2.1 dJ6_bitCount_0f7a4_49 (by decide) ?_
  refine lv_iand S.1 S.2.1 dJ6_bitCount_0f7a4_51 ?_
  obtain ⟨rfl, rfl⟩ := kret hF
  exact hR _ _ _ _ dJ6_bitCount_0f7a4_52 hw (fun h => nomatch h)
set_option maxRecDepth 100000 in
theorem kcJ6_bitCount_0f7a4 {p : Program} {l : Launch} {e : Env} {R : Room} {s : State} {m : MethodId} {args : Array Value} {below : List Frame} {meth : Method} {c : Code} {H : Heap} {locs : List Loc} {cells slots : Nat} {Q : State → Prop} {cc : ByteArray} {pc : Nat} {ls : Array Slot} {rest : List Value} {E : kE} {σ ω σ1 : kS} {nL index : Nat} {own : String} {r : Int32} (S : CallFix p m c cc nL s args kBIG own) (hw : kWS E s (cmb σ ω) H locs) (cw : kSt own index yJ6_bitCount_0f7a4 cJ6_bitCount_0f7a4 1 (some .int) 1) (hR : 0 + 1 ≤ R.frames ∧ 8 + (1 + 11) + 40 * 0 ≤ R.locals) {a0 : Int32}  (hF : fJ6_bitCount_0f7a4 a0 σ = some (r, σ1)) (hls : ls.size = nL) (hW : (rest.map fun v => v.category).sum ≤ 8) (hdg : decode cc pc = .ok (.invokestatic index, 3)) (kk : ∀ (H1 : Heap) (locs1 : List Loc), kWS E s (cmb σ1 ω) H1 locs1 → W p l e R s m args below meth c H1 locs1 cells slots Q (F0 m (pc + 3) ls (.int r :: rest))) (hf : cells ≤ R.cells ∧ slots ≤ R.slots := by exact ⟨Nat.le_of_ble_eq_true rfl, Nat.le_of_ble_eq_true rfl⟩) : W p l e R s m args below meth c H locs cells slots Q (F0 m pc ls (.int a0 :: rest)) := kr_calli (mc := 0) (y := yJ6_bitCount_0f7a4) (b := cJ6_bitCount_0f7a4) (n := 0) (lv := 0) (As := []) (ret := some .int) hw (kr_runS (As := [.int a0]) S hw ((mJ6_bitCount_0f7a4 (l := l) (E := E) (ω := ω) hF) H.size) cw hR rfl hls _ rfl hW hdg hf) (fun H1 locs1 h _ => kk H1 locs1 h)
set_option maxHeartbeats 4000000 in
set_option maxRecDepth 100000 in
theorem mX0_scentOf {l : Launch} {E : kE} {ω σ σ1 : kS} {r : Int32} {q0 : Nat} {a1 : Int32} (hq0 : isM q0) (hF : fX0_scentOf q0 a1 σ = some (r, σ1)) : kMetI l yX0_scentOf cX0_scentOf 3 (some .int) 1 E [.ref (ead E q0), .int a1] (cmb σ ω) r (cmb σ1 ω) := by
  refine kMetI.of (by decide +kernel) (Nat.le_of_ble_eq_true rfl) (Or.inl rfl) ?_
  intro p e s m args below meth c Q ls S hR hw hl
  have hl : lv_has ls 3 [(0, .ref (ead E q0)), (1, .int a1)] := hl
  unfold fX0_scentOf at hF
  refine lv_aload_n S.1 S.2.1 dX0_scentOf_0 rfl (lv_at hl 0 rfl) ?_
  refine gf_X0_15 S hw hq0.1 hq0.2.1 rfl dX0_scentOf_1 ?_
  refine lv_iload_n S.1 S.2.1 dX0_scentOf_4 rfl (lv_at hl 1 rfl) ?_
  obtain ⟨hb1, hF⟩ := kin hF
  refine kx_iald (q := q0 + 2) S hw hq0.2.2.2.1.1 hq0.2.2.2.1.2 hb1 dX0_scentOf_5 ?_
  obtain ⟨r4, σ3, e2, hF⟩ := kbi_e hF
  refine kcJ6_bitCount_0f7a4 S hw cv_X0_40 ⟨Nat.le_of_ble_eq_true rfl, Nat.le_of_ble_eq_true rfl⟩ e2 hl.1 (Nat.le_of_ble_eq_true rfl) dX0_scentOf_6 (fun H locs hw => ?_)
  refine lv_istore_n (lv' := [(2, .int r4), (0, .ref (ead E q0)), (1, .int a1)]) S.1 S.2.1 dX0_scentOf_9 rfl hl (by decide) rfl (fun ls hl => ?_)
  refine lv_aload_n S.1 S.2.1 dX0_scentOf_10 rfl (lv_at hl 1 rfl) ?_
  refine gf_X0_9 S hw hq0.1 hq0.2.1 rfl dX0_scentOf_11 ?_
  refine lv_iload_n S.1 S.2.1 dX0_scentOf_14 rfl (lv_at hl 2 rfl) ?_
  obtain ⟨hb5, hF⟩ := kin hF
  refine kx_iald (q := q0 + 1) S hw hq0.2.2.1.1 hq0.2.2.1.2 hb5 dX0_scentOf_15 ?_
  by_cases c6 : (σ3 (q0 + 1) (Int32.toNatClampNeg a1)) = 1
  · replace hF := kit hF c6
    refine lv_lookup (off := 34) (tgt := 50) S.1 S.2.1 dX0_scentOf_16 (by decide) (by rw [c6]; rfl) (by decide) ?_
    refine lv_iload_n S.1 S.2.1 dX0_scentOf_50 rfl (lv_at hl 0 rfl) ?_
    refine lv_iconst (v := 1) S.1 S.2.1 dX0_scentOf_51 (by decide) ?_
    refine lv_iadd S.1 S.2.1 dX0_scentOf_52 ?_
    obtain ⟨rfl, rfl⟩ := kret hF
    exact hR _ _ _ _ dX0_scentOf_53 hw (fun h => nomatch h)
  · replace hF := kif hF c6
    by_cases c7 : (σ3 (q0 + 1) (Int32.toNatClampNeg a1)) = 2
    · replace hF := kit hF c7
      refine lv_lookup (off := 28) (tgt := 44) S.1 S.2.1 dX0_scentOf_16 (by decide) (by rw [c7]; rfl) (by decide) ?_
      refine lv_iconst (v := 2) S.1 S.2.1 dX0_scentOf_44 (by decide) ?_
      refine lv_iload_n S.1 S.2.1 dX0_scentOf_45 rfl (lv_at hl 0 rfl) ?_
      refine lv_iconst (v := 1) S.1 S.2.1 dX0_scentOf_46 (by decide) ?_
      refine lv_iadd S.1 S.2.1 dX0_scentOf_47 ?_
      refine lv_imul S.1 S.2.1 dX0_scentOf_48 ?_
      obtain ⟨rfl, rfl⟩ := kret hF
      exact hR _ _ _ _ dX0_scentOf_49 hw (fun h => nomatch h)
    · replace hF := kif hF c7
      refine lv_lookup (off := 38) (tgt := 54) S.1 S.2.1 dX0_scentOf_16 (by decide) (klook2 (klk c6 rfl) (klk c7 rfl)) (by decide) ?_
      refine lv_iload_n S.1 S.2.1 dX0_scentOf_54 rfl (lv_at hl 0 rfl) ?_
      obtain ⟨rfl, rfl⟩ := kret hF
      exact hR _ _ _ _ dX0_scentOf_55 hw (fun h => nomatch h)
set_option maxRecDepth 100000 in
theorem kcX0_scentOf {p : Program} {l : Launch} {e : Env} {R : Room} {s : State} {m : MethodId} {args : Array Value} {below : List Frame} {meth : Method} {c : Code} {H : Heap} {locs : List Loc} {cells slots : Nat} {Q : State → Prop} {cc : ByteArray} {pc : Nat} {ls : Array Slot} {rest : List Value} {E : kE} {σ ω σ1 : kS} {nL index : Nat} {own : String} {r : Int32} (S : CallFix p m c cc nL s args kBIG own) (hw : kWS E s (cmb σ ω) H locs) (cw : kV own RX0 index yX0_scentOf cX0_scentOf 3 (some .int) 1) (hR : 1 + 1 ≤ R.frames ∧ 8 + (3 + 11) + 40 * 1 ≤ R.locals) {q0 : Nat} {a1 : Int32} (hq0 : isM q0) (hF : fX0_scentOf q0 a1 σ = some (r, σ1)) (hls : ls.size = nL) (hW : (rest.map fun v => v.category).sum ≤ 8) (hdg : decode cc pc = .ok (.invokevirtual index, 3)) (kk : ∀ (H1 : Heap) (locs1 : List Loc), kWS E s (cmb σ1 ω) H1 locs1 → W p l e R s m args below meth c H1 locs1 cells slots Q (F0 m (pc + 3) ls (.int r :: rest))) (hf : cells ≤ R.cells ∧ slots ≤ R.slots := by exact ⟨Nat.le_of_ble_eq_true rfl, Nat.le_of_ble_eq_true rfl⟩) : W p l e R s m args below meth c H locs cells slots Q (F0 m pc ls (.int a1 :: .ref (ead E q0) :: rest)) := kr_calli (mc := 0) (y := yX0_scentOf) (b := cX0_scentOf) (n := 0) (lv := 0) (As := []) (ret := some .int) hw (kr_runV (As := [.int a1]) (q := q0) S hw ((mX0_scentOf (l := l) (E := E) (ω := ω) hq0 hF) H.size) cw hR hq0.1 (Nat.lt_trans hq0.2.1 (by decide)) rfl rfl hls _ rfl hW hdg hf) (fun H1 locs1 h _ => kk H1 locs1 h)
set_option maxHeartbeats 4000000 in
set_option maxRecDepth 100000 in
theorem mX0_distanceOf {l : Launch} {E : kE} {ω σ σ1 : kS} {r : Int32} {q0 : Nat} {a1 : Int32} (hq0 : isM q0) (hF : fX0_distanceOf q0 a1 σ = some (r, σ1)) : kMetI l yX0_distanceOf cX0_distanceOf 2 (some .int) 1 E [.ref (ead E q0), .int a1] (cmb σ ω) r (cmb σ1 ω) := by
  refine kMetI.of (by decide +kernel) (Nat.le_of_ble_eq_true rfl) (Or.inl rfl) ?_
  intro p e s m args below meth c Q ls S hR hw hl
  have hl : lv_has ls 2 [(0, .ref (ead E q0)), (1, .int a1)] := hl
  unfold fX0_distanceOf at hF
  refine lv_aload_n S.1 S.2.1 dX0_distanceOf_0 rfl (lv_at hl 0 rfl) ?_
  refine gf_X0_21 S hw hq0.1 hq0.2.1 rfl dX0_distanceOf_1 ?_
  refine lv_iload_n S.1 S.2.1 dX0_distanceOf_4 rfl (lv_at hl 1 rfl) ?_
  obtain ⟨hb1, hF⟩ := kin hF
  refine kx_iald (q := q0 + 4) S hw hq0.2.2.2.2.2.1 hq0.2.2.2.2.2.2 hb1 dX0_distanceOf_5 ?_
  refine lv_aload_n S.1 S.2.1 dX0_distanceOf_6 rfl (lv_at hl 0 rfl) ?_
  refine gf_X0_24 S hw hq0.1 hq0.2.1 rfl dX0_distanceOf_7 ?_
  refine lv_isub S.1 S.2.1 dX0_distanceOf_10 ?_
  refine va_mabs S.1 S.2.1 (S.2.2.1.trans hl.1.symm) S.2.2.2.1 (S.2.2.2.2 _ q1_211) (S.2.2.2.2 _ q1_212) (S.2.2.2.2 _ q1_8) (S.2.2.2.2 _ q1_213) (Nat.le_of_ble_eq_true rfl) (Nat.le_of_ble_eq_true rfl) (Nat.le_of_ble_eq_true rfl) (Nat.le_of_ble_eq_true rfl) dX0_distanceOf_11 ?_
  obtain ⟨rfl, rfl⟩ := kret hF
  exact hR _ _ _ _ dX0_distanceOf_14 hw (fun h => nomatch h)
set_option maxRecDepth 100000 in
theorem kcX0_distanceOf {p : Program} {l : Launch} {e : Env} {R : Room} {s : State} {m : MethodId} {args : Array Value} {below : List Frame} {meth : Method} {c : Code} {H : Heap} {locs : List Loc} {cells slots : Nat} {Q : State → Prop} {cc : ByteArray} {pc : Nat} {ls : Array Slot} {rest : List Value} {E : kE} {σ ω σ1 : kS} {nL index : Nat} {own : String} {r : Int32} (S : CallFix p m c cc nL s args kBIG own) (hw : kWS E s (cmb σ ω) H locs) (cw : kV own RX0 index yX0_distanceOf cX0_distanceOf 2 (some .int) 1) (hR : 1 + 1 ≤ R.frames ∧ 8 + (2 + 11) + 40 * 1 ≤ R.locals) {q0 : Nat} {a1 : Int32} (hq0 : isM q0) (hF : fX0_distanceOf q0 a1 σ = some (r, σ1)) (hls : ls.size = nL) (hW : (rest.map fun v => v.category).sum ≤ 8) (hdg : decode cc pc = .ok (.invokevirtual index, 3)) (kk : ∀ (H1 : Heap) (locs1 : List Loc), kWS E s (cmb σ1 ω) H1 locs1 → W p l e R s m args below meth c H1 locs1 cells slots Q (F0 m (pc + 3) ls (.int r :: rest))) (hf : cells ≤ R.cells ∧ slots ≤ R.slots := by exact ⟨Nat.le_of_ble_eq_true rfl, Nat.le_of_ble_eq_true rfl⟩) : W p l e R s m args below meth c H locs cells slots Q (F0 m pc ls (.int a1 :: .ref (ead E q0) :: rest)) := kr_calli (mc := 0) (y := yX0_distanceOf) (b := cX0_distanceOf) (n := 0) (lv := 0) (As := []) (ret := some .int) hw (kr_runV (As := [.int a1]) (q := q0) S hw ((mX0_distanceOf (l := l) (E := E) (ω := ω) hq0 hF) H.size) cw hR hq0.1 (Nat.lt_trans hq0.2.1 (by decide)) rfl rfl hls _ rfl hW hdg hf) (fun H1 locs1 h _ => kk H1 locs1 h)
set_option maxHeartbeats 4000000 in
set_option maxRecDepth 100000 in
theorem mX0_isSmelt {l : Launch} {E : kE} {ω σ σ1 : kS} {r : Int32} {q0 : Nat} {a1 : Int32} (hq0 : isM q0) (hF : fX0_isSmelt q0 a1 σ = some (r, σ1)) : kMetI l yX0_isSmelt cX0_isSmelt 2 (some .boolean) 2 E [.ref (ead E q0), .int a1] (cmb σ ω) r (cmb σ1 ω) := by
  refine kMetI.of (by decide +kernel) (Nat.le_of_ble_eq_true rfl) (Or.inr rfl) ?_
  intro p e s m args below meth c Q ls S hR hw hl
  have hl : lv_has ls 2 [(0, .ref (ead E q0)), (1, .int a1)] := hl
  unfold fX0_isSmelt at hF
  refine lv_aload_n S.1 S.2.1 dX0_isSmelt_0 rfl (lv_at hl 0 rfl) ?_
  refine lv_iload_n S.1 S.2.1 dX0_isSmelt_1 rfl (lv_at hl 1 rfl) ?_
  obtain ⟨r3, σ2, e1, hF⟩ := kbi_e hF
  refine kcX0_distanceOf S hw cv_X0_51 ⟨Nat.le_of_ble_eq_true rfl, Nat.le_of_ble_eq_true rfl⟩ hq0 e1 hl.1 (Nat.le_of_ble_eq_true rfl) dX0_isSmelt_2 (fun H locs hw => ?_)
  refine lv_aload_n S.1 S.2.1 dX0_isSmelt_5 rfl (lv_at hl 0 rfl) ?_
  refine lv_iload_n S.1 S.2.1 dX0_isSmelt_6 rfl (lv_at hl 1 rfl) ?_
  obtain ⟨r6, σ5, e4, hF⟩ := kbi_e hF
  refine kcX0_scentOf S hw cv_X0_54 ⟨Nat.le_of_ble_eq_true rfl, Nat.le_of_ble_eq_true rfl⟩ hq0 e4 hl.1 (Nat.le_of_ble_eq_true rfl) dX0_isSmelt_7 (fun H locs hw => ?_)
  refine lv_icmp_gt (tgt := 17) S.1 S.2.1 dX0_isSmelt_10 (by decide) (fun c7 => ?_) (fun c7 => ?_)
  · replace hF := kit hF c7
    refine lv_iconst (v := 0) S.1 S.2.1 dX0_isSmelt_17 (by decide) ?_
    obtain ⟨rfl, rfl⟩ := kret hF
    exact hR _ _ _ _ dX0_isSmelt_18 hw (fun _ => (Or.inl rfl))
  · replace hF := kif hF c7
    refine lv_iconst (v := 1) S.1 S.2.1 dX0_isSmelt_13 (by decide) ?_
    refine lv_goto (tgt := 18) S.1 S.2.1 dX0_isSmelt_14 (by decide) ?_
    obtain ⟨rfl, rfl⟩ := kret hF
    exact hR _ _ _ _ dX0_isSmelt_18 hw (fun _ => (Or.inr rfl))
set_option maxRecDepth 100000 in
theorem kcX0_isSmelt {p : Program} {l : Launch} {e : Env} {R : Room} {s : State} {m : MethodId} {args : Array Value} {below : List Frame} {meth : Method} {c : Code} {H : Heap} {locs : List Loc} {cells slots : Nat} {Q : State → Prop} {cc : ByteArray} {pc : Nat} {ls : Array Slot} {rest : List Value} {E : kE} {σ ω σ1 : kS} {nL index : Nat} {own : String} {r : Int32} (S : CallFix p m c cc nL s args kBIG own) (hw : kWS E s (cmb σ ω) H locs) (cw : kV own RX0 index yX0_isSmelt cX0_isSmelt 2 (some .boolean) 1) (hR : 2 + 1 ≤ R.frames ∧ 8 + (2 + 11) + 40 * 2 ≤ R.locals) {q0 : Nat} {a1 : Int32} (hq0 : isM q0) (hF : fX0_isSmelt q0 a1 σ = some (r, σ1)) (hls : ls.size = nL) (hW : (rest.map fun v => v.category).sum ≤ 8) (hdg : decode cc pc = .ok (.invokevirtual index, 3)) (kk : ∀ (H1 : Heap) (locs1 : List Loc), kWS E s (cmb σ1 ω) H1 locs1 → (((some .boolean) : Option FieldType) = some .boolean → r = 0 ∨ r = 1) → W p l e R s m args below meth c H1 locs1 cells slots Q (F0 m (pc + 3) ls (.int r :: rest))) (hf : cells ≤ R.cells ∧ slots ≤ R.slots := by exact ⟨Nat.le_of_ble_eq_true rfl, Nat.le_of_ble_eq_true rfl⟩) : W p l e R s m args below meth c H locs cells slots Q (F0 m pc ls (.int a1 :: .ref (ead E q0) :: rest)) := kr_calli (mc := 0) (y := yX0_isSmelt) (b := cX0_isSmelt) (n := 0) (lv := 0) (As := []) hw (kr_runV (As := [.int a1]) (q := q0) S hw ((mX0_isSmelt (l := l) (E := E) (ω := ω) hq0 hF) H.size) cw hR hq0.1 (Nat.lt_trans hq0.2.1 (by decide)) rfl rfl hls _ rfl hW hdg hf) kk
set_option maxHeartbeats 4000000 in
set_option maxRecDepth 100000 in
theorem wX0_goesTo_L11 {p : Program} {l : Launch} {e : Env} {s : State} {m : MethodId} {args : Array Value} {below : List Frame} {meth : Method} {c : Code} {Q : State → Prop} {E : kE} {ω σ1 : kS} {r : Int32} (S : CallFix p m c cX0_goesTo 8 s args kBIG RX0) (hR : kRetI p l e (rml 2) s m args below meth c cX0_goesTo E Q (some .int) r (cmb σ1 ω))  : ∀ (n : Nat), ∀ (q0 : Nat) (a1 : Int32) (a2 : Int32) (a3 : Int32) (a4 : Int32) (a5 : Int32) (hq0 : isM q0) (σ : kS) (H : Heap) (locs : List Loc) (ls : Array Slot), fX0_goesTo_L11 n q0 a1 a2 a3 a4 a5 σ = some (r, σ1) → kWS E s (cmb σ ω) H locs → lv_has ls 8 [(0, .ref (ead E q0)), (1, .int a1), (2, .int a2), (3, .int a3), (4, .int a4), (5, .int a5)] → W p l e (rml 2) s m args below meth c H locs 0 0 Q (F0 m 11 ls []) := by
  intro n
  induction n with
  | zero =>
    intro q0 a1 a2 a3 a4 a5 hq0 σ H locs ls hF hw hl
    exact absurd hF (fun h => nomatch h)
  | succ n ih =>
    intro q0 a1 a2 a3 a4 a5 hq0 σ H locs ls hF hw hl
    rw [fX0_goesTo_L11] at hF
    refine lv_iload S.1 S.2.1 dX0_goesTo_11 (lv_at hl 5 rfl) ?_
    refine lv_aload_n S.1 S.2.1 dX0_goesTo_13 rfl (lv_at hl 0 rfl) ?_
    refine gf_X0_31 S hw hq0.1 hq0.2.1 rfl dX0_goesTo_14 ?_
    refine lv_icmp_ge (tgt := 111) S.1 S.2.1 dX0_goesTo_17 (by decide) (fun c1 => ?_) (fun c1 => ?_)
    · replace hF := kit hF c1
      refine lv_iload_n S.1 S.2.1 dX0_goesTo_111 rfl (lv_at hl 2 rfl) ?_
      obtain ⟨rfl, rfl⟩ := kret hF
      exact hR _ _ _ _ dX0_goesTo_112 hw (fun h => nomatch h)
    · replace hF := kif hF c1
      refine lv_aload_n S.1 S.2.1 dX0_goesTo_20 rfl (lv_at hl 0 rfl) ?_
      refine gf_X0_15 S hw hq0.1 hq0.2.1 rfl dX0_goesTo_21 ?_
      refine lv_iload S.1 S.2.1 dX0_goesTo_24 (lv_at hl 5 rfl) ?_
      obtain ⟨hb2, hF⟩ := kin hF
      refine kx_iald (q := q0 + 2) S hw hq0.2.2.2.1.1 hq0.2.2.2.1.2 hb2 dX0_goesTo_26 ?_
      refine lv_aload_n S.1 S.2.1 dX0_goesTo_27 rfl (lv_at hl 0 rfl) ?_
      refine gf_X0_18 S hw hq0.1 hq0.2.1 rfl dX0_goesTo_28 ?_
      refine lv_iload_n S.1 S.2.1 dX0_goesTo_31 rfl (lv_at hl 1 rfl) ?_
      obtain ⟨hb3, hF⟩ := kin hF
      refine kx_iald (q := q0 + 3) S hw hq0.2.2.2.2.1.1 hq0.2.2.2.2.1.2 hb3 dX0_goesTo_32 ?_
      refine lv_ixor S.1 S.2.1 dX0_goesTo_33 ?_
      obtain ⟨r6, σ5, e4, hF⟩ := kbi_e hF
      refine kcJ6_bitCount_0f7a4 S hw cv_X0_40 ⟨Nat.le_of_ble_eq_true rfl, Nat.le_of_ble_eq_true rfl⟩ e4 hl.1 (Nat.le_of_ble_eq_true rfl) dX0_goesTo_34 (fun H locs hw => ?_)
      refine lv_istore (lv' := [(6, .int r6), (0, .ref (ead E q0)), (1, .int a1), (2, .int a2), (3, .int a3), (4, .int a4), (5, .int a5)]) S.1 S.2.1 dX0_goesTo_37 hl (by decide) rfl (fun ls hl => ?_)
      refine lv_aload_n S.1 S.2.1 dX0_goesTo_39 rfl (lv_at hl 1 rfl) ?_
      refine lv_iload S.1 S.2.1 dX0_goesTo_40 (lv_at hl 6 rfl) ?_
      obtain ⟨r9, σ8, e7, hF⟩ := kbi_e hF
      refine kcX0_distanceOf S hw cv_X0_51 ⟨Nat.le_of_ble_eq_true rfl, Nat.le_of_ble_eq_true rfl⟩ hq0 e7 hl.1 (Nat.le_of_ble_eq_true rfl) dX0_goesTo_42 (fun H locs hw => ?_)
      refine lv_istore (lv' := [(7, .int r9), (6, .int r6), (0, .ref (ead E q0)), (1, .int a1), (2, .int a2), (3, .int a3), (4, .int a4), (5, .int a5)]) S.1 S.2.1 dX0_goesTo_45 hl (by decide) rfl (fun ls hl => ?_)
      refine lv_iload S.1 S.2.1 dX0_goesTo_47 (lv_at hl 1 rfl) ?_
      refine lv_aload_n S.1 S.2.1 dX0_goesTo_49 rfl (lv_at hl 2 rfl) ?_
      refine gf_X0_28 S hw hq0.1 hq0.2.1 rfl dX0_goesTo_50 ?_
      refine lv_icmp_gt (tgt := 105) S.1 S.2.1 dX0_goesTo_53 (by decide) (fun c10 => ?_) (fun c10 => ?_)
      · replace hF := kit hF c10
        obtain ⟨v11, ev11⟩ : ∃ y : Int32, y = a5 + 1 := ⟨_, rfl⟩
        replace hF := klb hF ev11
        refine lv_iinc (v := v11) (lv' := [(5, .int v11), (7, .int r9), (6, .int r6), (0, .ref (ead E q0)), (1, .int a1), (2, .int a2), (3, .int a3), (4, .int a4)]) S.1 S.2.1 dX0_goesTo_105 hl (k := 7) rfl (by rw [ev11]; rfl) (by decide) rfl (fun ls hl => ?_)
        refine lv_goto (tgt := 11) S.1 S.2.1 dX0_goesTo_108 (by decide) ?_
        exact ih q0 a1 a2 a3 a4 v11 hq0 _ _ _ _ hF hw (lv_sub hl [3, 4, 5, 6, 7, 0] rfl)
      · replace hF := kif hF c10
        refine lv_iload S.1 S.2.1 dX0_goesTo_56 (lv_at hl 0 rfl) ?_
        refine lv_aload_n S.1 S.2.1 dX0_goesTo_58 rfl (lv_at hl 2 rfl) ?_
        refine lv_iload S.1 S.2.1 dX0_goesTo_59 (lv_at hl 7 rfl) ?_
        obtain ⟨r14, σ13, e12, hF⟩ := kbi_e hF
        refine kcX0_scentOf S hw cv_X0_54 ⟨Nat.le_of_ble_eq_true rfl, Nat.le_of_ble_eq_true rfl⟩ hq0 e12 hl.1 (Nat.le_of_ble_eq_true rfl) dX0_goesTo_61 (fun H locs hw => ?_)
        refine lv_icmp_le (tgt := 70) S.1 S.2.1 dX0_goesTo_64 (by decide) (fun c15 => ?_) (fun c15 => ?_)
        · replace hF := kit hF c15
          refine lv_iload_n S.1 S.2.1 dX0_goesTo_70 rfl (lv_at hl 4 rfl) ?_
          refine lv_bipush (v := (-9)) S.1 S.2.1 dX0_goesTo_71 (by decide) ?_
          refine lv_icmp_eq (tgt := 95) S.1 S.2.1 dX0_goesTo_73 (by decide) (fun c16 => ?_) (fun c16 => ?_)
          · replace hF := kit hF c16
            refine lv_iload S.1 S.2.1 dX0_goesTo_95 (lv_at hl 7 rfl) ?_
            refine lv_istore_n (lv' := [(2, .int a5), (7, .int r9), (6, .int r6), (0, .ref (ead E q0)), (1, .int a1), (3, .int a3), (4, .int a4), (5, .int a5)]) S.1 S.2.1 dX0_goesTo_97 rfl hl (by decide) rfl (fun ls hl => ?_)
            refine lv_iload S.1 S.2.1 dX0_goesTo_98 (lv_at hl 2 rfl) ?_
            refine lv_istore_n (lv' := [(3, .int r6), (2, .int a5), (7, .int r9), (6, .int r6), (0, .ref (ead E q0)), (1, .int a1), (4, .int a4), (5, .int a5)]) S.1 S.2.1 dX0_goesTo_100 rfl hl (by decide) rfl (fun ls hl => ?_)
            refine lv_iload S.1 S.2.1 dX0_goesTo_101 (lv_at hl 2 rfl) ?_
            refine lv_istore (lv' := [(4, .int r9), (3, .int r6), (2, .int a5), (7, .int r9), (6, .int r6), (0, .ref (ead E q0)), (1, .int a1), (5, .int a5)]) S.1 S.2.1 dX0_goesTo_103 hl (by decide) rfl (fun ls hl => ?_)
            obtain ⟨v17, ev17⟩ : ∃ y : Int32, y = a5 + 1 := ⟨_, rfl⟩
            replace hF := klb hF ev17
            refine lv_iinc (v := v17) (lv' := [(5, .int v17), (4, .int r9), (3, .int r6), (2, .int a5), (7, .int r9), (6, .int r6), (0, .ref (ead E q0)), (1, .int a1)]) S.1 S.2.1 dX0_goesTo_105 hl (k := 7) rfl (by rw [ev17]; rfl) (by decide) rfl (fun ls hl => ?_)
            refine lv_goto (tgt := 11) S.1 S.2.1 dX0_goesTo_108 (by decide) ?_
            exact ih q0 a1 a5 r6 r9 v17 hq0 _ _ _ _ hF hw (lv_sub hl [6, 7, 3, 2, 1, 0] rfl)
          · replace hF := kif hF c16
            refine lv_iload S.1 S.2.1 dX0_goesTo_76 (lv_at hl 1 rfl) ?_
            refine lv_iload_n S.1 S.2.1 dX0_goesTo_78 rfl (lv_at hl 5 rfl) ?_
            refine lv_icmp_lt (tgt := 95) S.1 S.2.1 dX0_goesTo_79 (by decide) (fun c18 => ?_) (fun c18 => ?_)
            · replace hF := kit hF c18
              refine lv_iload S.1 S.2.1 dX0_goesTo_95 (lv_at hl 7 rfl) ?_
              refine lv_istore_n (lv' := [(2, .int a5), (7, .int r9), (6, .int r6), (0, .ref (ead E q0)), (1, .int a1), (3, .int a3), (4, .int a4), (5, .int a5)]) S.1 S.2.1 dX0_goesTo_97 rfl hl (by decide) rfl (fun ls hl => ?_)
              refine lv_iload S.1 S.2.1 dX0_goesTo_98 (lv_at hl 2 rfl) ?_
              refine lv_istore_n (lv' := [(3, .int r6), (2, .int a5), (7, .int r9), (6, .int r6), (0, .ref (ead E q0)), (1, .int a1), (4, .int a4), (5, .int a5)]) S.1 S.2.1 dX0_goesTo_100 rfl hl (by decide) rfl (fun ls hl => ?_)
              refine lv_iload S.1 S.2.1 dX0_goesTo_101 (lv_at hl 2 rfl) ?_
              refine lv_istore (lv' := [(4, .int r9), (3, .int r6), (2, .int a5), (7, .int r9), (6, .int r6), (0, .ref (ead E q0)), (1, .int a1), (5, .int a5)]) S.1 S.2.1 dX0_goesTo_103 hl (by decide) rfl (fun ls hl => ?_)
              obtain ⟨v19, ev19⟩ : ∃ y : Int32, y = a5 + 1 := ⟨_, rfl⟩
              replace hF := klb hF ev19
              refine lv_iinc (v := v19) (lv' := [(5, .int v19), (4, .int r9), (3, .int r6), (2, .int a5), (7, .int r9), (6, .int r6), (0, .ref (ead E q0)), (1, .int a1)]) S.1 S.2.1 dX0_goesTo_105 hl (k := 7) rfl (by rw [ev19]; rfl) (by decide) rfl (fun ls hl => ?_)
              refine lv_goto (tgt := 11) S.1 S.2.1 dX0_goesTo_108 (by decide) ?_
              exact ih q0 a1 a5 r6 r9 v19 hq0 _ _ _ _ hF hw (lv_sub hl [6, 7, 3, 2, 1, 0] rfl)
            · replace hF := kif hF c18
              refine lv_iload S.1 S.2.1 dX0_goesTo_82 (lv_at hl 1 rfl) ?_
              refine lv_iload_n S.1 S.2.1 dX0_goesTo_84 rfl (lv_at hl 5 rfl) ?_
              refine lv_icmp_ne (tgt := 105) S.1 S.2.1 dX0_goesTo_85 (by decide) (fun c20 => ?_) (fun c20 => ?_)
              · replace hF := kif hF c20
                obtain ⟨v21, ev21⟩ : ∃ y : Int32, y = a5 + 1 := ⟨_, rfl⟩
                replace hF := klb hF ev21
                refine lv_iinc (v := v21) (lv' := [(5, .int v21), (7, .int r9), (6, .int r6), (0, .ref (ead E q0)), (1, .int a1), (2, .int a2), (3, .int a3), (4, .int a4)]) S.1 S.2.1 dX0_goesTo_105 hl (k := 7) rfl (by rw [ev21]; rfl) (by decide) rfl (fun ls hl => ?_)
                refine lv_goto (tgt := 11) S.1 S.2.1 dX0_goesTo_108 (by decide) ?_
                exact ih q0 a1 a2 a3 a4 v21 hq0 _ _ _ _ hF hw (lv_sub hl [3, 4, 5, 6, 7, 0] rfl)
              · replace hF := kit hF c20
                refine lv_iload S.1 S.2.1 dX0_goesTo_88 (lv_at hl 0 rfl) ?_
                refine lv_iload S.1 S.2.1 dX0_goesTo_90 (lv_at hl 6 rfl) ?_
                refine lv_icmp_ge (tgt := 105) S.1 S.2.1 dX0_goesTo_92 (by decide) (fun c22 => ?_) (fun c22 => ?_)
                · replace hF := kit hF c22
                  obtain ⟨v23, ev23⟩ : ∃ y : Int32, y = a5 + 1 := ⟨_, rfl⟩
                  replace hF := klb hF ev23
                  refine lv_iinc (v := v23) (lv' := [(5, .int v23), (7, .int r9), (6, .int r6), (0, .ref (ead E q0)), (1, .int a1), (2, .int a2), (3, .int a3), (4, .int a4)]) S.1 S.2.1 dX0_goesTo_105 hl (k := 7) rfl (by rw [ev23]; rfl) (by decide) rfl (fun ls hl => ?_)
                  refine lv_goto (tgt := 11) S.1 S.2.1 dX0_goesTo_108 (by decide) ?_
                  exact ih q0 a1 a2 a3 a4 v23 hq0 _ _ _ _ hF hw (lv_sub hl [3, 4, 5, 6, 7, 0] rfl)
                · replace hF := kif hF c22
                  refine lv_iload S.1 S.2.1 dX0_goesTo_95 (lv_at hl 7 rfl) ?_
                  refine lv_istore_n (lv' := [(2, .int a5), (7, .int r9), (6, .int r6), (0, .ref (ead E q0)), (1, .int a1), (3, .int a3), (4, .int a4), (5, .int a5)]) S.1 S.2.1 dX0_goesTo_97 rfl hl (by decide) rfl (fun ls hl => ?_)
                  refine lv_iload S.1 S.2.1 dX0_goesTo_98 (lv_at hl 2 rfl) ?_
                  refine lv_istore_n (lv' := [(3, .int r6), (2, .int a5), (7, .int r9), (6, .int r6), (0, .ref (ead E q0)), (1, .int a1), (4, .int a4), (5, .int a5)]) S.1 S.2.1 dX0_goesTo_100 rfl hl (by decide) rfl (fun ls hl => ?_)
                  refine lv_iload S.1 S.2.1 dX0_goesTo_101 (lv_at hl 2 rfl) ?_
                  refine lv_istore (lv' := [(4, .int r9), (3, .int r6), (2, .int a5), (7, .int r9), (6, .int r6), (0, .ref (ead E q0)), (1, .int a1), (5, .int a5)]) S.1 S.2.1 dX0_goesTo_103 hl (by decide) rfl (fun ls hl => ?_)
                  obtain ⟨v24, ev24⟩ : ∃ y : Int32, y = a5 + 1 := ⟨_, rfl⟩
                  replace hF := klb hF ev24
                  refine lv_iinc (v := v24) (lv' := [(5, .int v24), (4, .int r9), (3, .int r6), (2, .int a5), (7, .int r9), (6, .int r6), (0, .ref (ead E q0)), (1, .int a1)]) S.1 S.2.1 dX0_goesTo_105 hl (k := 7) rfl (by rw [ev24]; rfl) (by decide) rfl (fun ls hl => ?_)
                  refine lv_goto (tgt := 11) S.1 S.2.1 dX0_goesTo_108 (by decide) ?_
                  exact ih q0 a1 a5 r6 r9 v24 hq0 _ _ _ _ hF hw (lv_sub hl [6, 7, 3, 2, 1, 0] rfl)
        · replace hF := kif hF c15
          refine lv_goto (tgt := 105) S.1 S.2.1 dX0_goesTo_67 (by decide) ?_
          obtain ⟨v25, ev25⟩ : ∃ y : Int32, y = a5 + 1 := ⟨_, rfl⟩
          replace hF := klb hF ev25
          refine lv_iinc (v := v25) (lv' := [(5, .int v25), (7, .int r9), (6, .int r6), (0, .ref (ead E q0)), (1, .int a1), (2, .int a2), (3, .int a3), (4, .int a4)]) S.1 S.2.1 dX0_goesTo_105 hl (k := 7) rfl (by rw [ev25]; rfl) (by decide) rfl (fun ls hl => ?_)
          refine lv_goto (tgt := 11) S.1 S.2.1 dX0_goesTo_108 (by decide) ?_
          exact ih q0 a1 a2 a3 a4 v25 hq0 _ _ _ _ hF hw (lv_sub hl [3, 4, 5, 6, 7, 0] rfl)
set_option maxHeartbeats 4000000 in
set_option maxRecDepth 100000 in
theorem mX0_goesTo {l : Launch} {E : kE} {ω σ σ1 : kS} {r : Int32} {q0 : Nat} {a1 : Int32} (hq0 : isM q0) (hF : fX0_goesTo q0 a1 σ = some (r, σ1)) : kMetI l yX0_goesTo cX0_goesTo 8 (some .int) 2 E [.ref (ead E q0), .int a1] (cmb σ ω) r (cmb σ1 ω) := by
  refine kMetI.of (by decide +kernel) (Nat.le_of_ble_eq_true rfl) (Or.inl rfl) ?_
  intro p e s m args below meth c Q ls S hR hw hl
  have hl : lv_has ls 8 [(0, .ref (ead E q0)), (1, .int a1)] := hl
  unfold fX0_goesTo at hF
  refine lv_bipush (v := (-9)) S.1 S.2.1 dX0_goesTo_0 (by decide) ?_
  refine lv_istore_n (lv' := [(2, .int (-9)), (0, .ref (ead E q0)), (1, .int a1)]) S.1 S.2.1 dX0_goesTo_2 rfl hl (by decide) rfl (fun ls hl => ?_)
  refine lv_iconst (v := 0) S.1 S.2.1 dX0_goesTo_3 (by decide) ?_
  refine lv_istore_n (lv' := [(3, .int 0), (2, .int (-9)), (0, .ref (ead E q0)), (1, .int a1)]) S.1 S.2.1 dX0_goesTo_4 rfl hl (by decide) rfl (fun ls hl => ?_)
  refine lv_iconst (v := 0) S.1 S.2.1 dX0_goesTo_5 (by decide) ?_
  refine lv_istore (lv' := [(4, .int 0), (3, .int 0), (2, .int (-9)), (0, .ref (ead E q0)), (1, .int a1)]) S.1 S.2.1 dX0_goesTo_6 hl (by decide) rfl (fun ls hl => ?_)
  refine lv_iconst (v := 0) S.1 S.2.1 dX0_goesTo_8 (by decide) ?_
  refine lv_istore (lv' := [(5, .int 0), (4, .int 0), (3, .int 0), (2, .int (-9)), (0, .ref (ead E q0)), (1, .int a1)]) S.1 S.2.1 dX0_goesTo_9 hl (by decide) rfl (fun ls hl => ?_)
  exact wX0_goesTo_L11 S hR 1000 q0 a1 (-9) 0 0 0 hq0 _ _ _ _ hF hw (lv_sub hl [4, 5, 3, 2, 1, 0] rfl)
set_option maxRecDepth 100000 in
theorem kcX0_goesTo {p : Program} {l : Launch} {e : Env} {R : Room} {s : State} {m : MethodId} {args : Array Value} {below : List Frame} {meth : Method} {c : Code} {H : Heap} {locs : List Loc} {cells slots : Nat} {Q : State → Prop} {cc : ByteArray} {pc : Nat} {ls : Array Slot} {rest : List Value} {E : kE} {σ ω σ1 : kS} {nL index : Nat} {own : String} {r : Int32} (S : CallFix p m c cc nL s args kBIG own) (hw : kWS E s (cmb σ ω) H locs) (cw : kV own RX0 index yX0_goesTo cX0_goesTo 8 (some .int) 1) (hR : 2 + 1 ≤ R.frames ∧ 8 + (8 + 11) + 40 * 2 ≤ R.locals) {q0 : Nat} {a1 : Int32} (hq0 : isM q0) (hF : fX0_goesTo q0 a1 σ = some (r, σ1)) (hls : ls.size = nL) (hW : (rest.map fun v => v.category).sum ≤ 8) (hdg : decode cc pc = .ok (.invokevirtual index, 3)) (kk : ∀ (H1 : Heap) (locs1 : List Loc), kWS E s (cmb σ1 ω) H1 locs1 → W p l e R s m args below meth c H1 locs1 cells slots Q (F0 m (pc + 3) ls (.int r :: rest))) (hf : cells ≤ R.cells ∧ slots ≤ R.slots := by exact ⟨Nat.le_of_ble_eq_true rfl, Nat.le_of_ble_eq_true rfl⟩) : W p l e R s m args below meth c H locs cells slots Q (F0 m pc ls (.int a1 :: .ref (ead E q0) :: rest)) := kr_calli (mc := 0) (y := yX0_goesTo) (b := cX0_goesTo) (n := 0) (lv := 0) (As := []) (ret := some .int) hw (kr_runV (As := [.int a1]) (q := q0) S hw ((mX0_goesTo (l := l) (E := E) (ω := ω) hq0 hF) H.size) cw hR hq0.1 (Nat.lt_trans hq0.2.1 (by decide)) rfl rfl hls _ rfl hW hdg hf) (fun H1 locs1 h _ => kk H1 locs1 h)
set_option maxHeartbeats 4000000 in
set_option maxRecDepth 100000 in
theorem mX0_deliver {l : Launch} {E : kE} {ω σ σ1 : kS} {r : Int32} {q0 : Nat} {a1 : Int32} (hq0 : isM q0) (hF : fX0_deliver q0 a1 σ = some (r, σ1)) : kMetI l yX0_deliver cX0_deliver 3 (some .int) 3 E [.ref (ead E q0), .int a1] (cmb σ ω) r (cmb σ1 ω) := by
  refine kMetI.of (by decide +kernel) (Nat.le_of_ble_eq_true rfl) (Or.inl rfl) ?_
  intro p e s m args below meth c Q ls S hR hw hl
  have hl : lv_has ls 3 [(0, .ref (ead E q0)), (1, .int a1)] := hl
  unfold fX0_deliver at hF
  refine lv_aload_n S.1 S.2.1 dX0_deliver_0 rfl (lv_at hl 0 rfl) ?_
  refine lv_iload_n S.1 S.2.1 dX0_deliver_1 rfl (lv_at hl 1 rfl) ?_
  obtain ⟨r3, σ2, e1, hF⟩ := kbi_e hF
  refine kcX0_goesTo S hw cv_X0_57 ⟨Nat.le_of_ble_eq_true rfl, Nat.le_of_ble_eq_true rfl⟩ hq0 e1 hl.1 (Nat.le_of_ble_eq_true rfl) dX0_deliver_2 (fun H locs hw => ?_)
  refine lv_istore_n (lv' := [(2, .int r3), (0, .ref (ead E q0)), (1, .int a1)]) S.1 S.2.1 dX0_deliver_5 rfl hl (by decide) rfl (fun ls hl => ?_)
  refine lv_iload_n S.1 S.2.1 dX0_deliver_6 rfl (lv_at hl 0 rfl) ?_
  refine lv_bipush (v := (-9)) S.1 S.2.1 dX0_deliver_7 (by decide) ?_
  refine lv_icmp_eq (tgt := 24) S.1 S.2.1 dX0_deliver_9 (by decide) (fun c4 => ?_) (fun c4 => ?_)
  · replace hF := kit hF c4
    refine lv_iload_n S.1 S.2.1 dX0_deliver_24 rfl (lv_at hl 0 rfl) ?_
    obtain ⟨rfl, rfl⟩ := kret hF
    exact hR _ _ _ _ dX0_deliver_25 hw (fun h => nomatch h)
  · replace hF := kif hF c4
    refine lv_aload_n S.1 S.2.1 dX0_deliver_12 rfl (lv_at hl 1 rfl) ?_
    refine gf_X0_18 S hw hq0.1 hq0.2.1 rfl dX0_deliver_13 ?_
    refine lv_iload_n S.1 S.2.1 dX0_deliver_16 rfl (lv_at hl 0 rfl) ?_
    refine lv_aload_n S.1 S.2.1 dX0_deliver_17 rfl (lv_at hl 1 rfl) ?_
    refine gf_X0_15 S hw hq0.1 hq0.2.1 rfl dX0_deliver_18 ?_
    refine lv_iload_n S.1 S.2.1 dX0_deliver_21 rfl (lv_at hl 0 rfl) ?_
    obtain ⟨hb5, hF⟩ := kin hF
    refine kx_iald (q := q0 + 2) S hw hq0.2.2.2.1.1 hq0.2.2.2.1.2 hb5 dX0_deliver_22 ?_
    obtain ⟨hb6, hF⟩ := kin hF
    refine kx_iast (q := q0 + 3) S hw hq0.2.2.2.2.1.1 hq0.2.2.2.2.1.2 hb6 dX0_deliver_23 (fun H locs hw => ?_)
    refine lv_iload_n S.1 S.2.1 dX0_deliver_24 rfl (lv_at hl 0 rfl) ?_
    obtain ⟨rfl, rfl⟩ := kret hF
    exact hR _ _ _ _ dX0_deliver_25 hw (fun h => nomatch h)
set_option maxRecDepth 100000 in
theorem kcX0_deliver {p : Program} {l : Launch} {e : Env} {R : Room} {s : State} {m : MethodId} {args : Array Value} {below : List Frame} {meth : Method} {c : Code} {H : Heap} {locs : List Loc} {cells slots : Nat} {Q : State → Prop} {cc : ByteArray} {pc : Nat} {ls : Array Slot} {rest : List Value} {E : kE} {σ ω σ1 : kS} {nL index : Nat} {own : String} {r : Int32} (S : CallFix p m c cc nL s args kBIG own) (hw : kWS E s (cmb σ ω) H locs) (cw : kV own RX0 index yX0_deliver cX0_deliver 3 (some .int) 1) (hR : 3 + 1 ≤ R.frames ∧ 8 + (3 + 11) + 40 * 3 ≤ R.locals) {q0 : Nat} {a1 : Int32} (hq0 : isM q0) (hF : fX0_deliver q0 a1 σ = some (r, σ1)) (hls : ls.size = nL) (hW : (rest.map fun v => v.category).sum ≤ 8) (hdg : decode cc pc = .ok (.invokevirtual index, 3)) (kk : ∀ (H1 : Heap) (locs1 : List Loc), kWS E s (cmb σ1 ω) H1 locs1 → W p l e R s m args below meth c H1 locs1 cells slots Q (F0 m (pc + 3) ls (.int r :: rest))) (hf : cells ≤ R.cells ∧ slots ≤ R.slots := by exact ⟨Nat.le_of_ble_eq_true rfl, Nat.le_of_ble_eq_true rfl⟩) : W p l e R s m args below meth c H locs cells slots Q (F0 m pc ls (.int a1 :: .ref (ead E q0) :: rest)) := kr_calli (mc := 0) (y := yX0_deliver) (b := cX0_deliver) (n := 0) (lv := 0) (As := []) (ret := some .int) hw (kr_runV (As := [.int a1]) (q := q0) S hw ((mX0_deliver (l := l) (E := E) (ω := ω) hq0 hF) H.size) cw hR hq0.1 (Nat.lt_trans hq0.2.1 (by decide)) rfl rfl hls _ rfl hW hdg hf) (fun H1 locs1 h _ => kk H1 locs1 h)
set_option maxHeartbeats 4000000 in
set_option maxRecDepth 100000 in
theorem wX0_whoseCome_L4 {p : Program} {l : Launch} {e : Env} {s : State} {m : MethodId} {args : Array Value} {below : List Frame} {meth : Method} {c : Code} {Q : State → Prop} {E : kE} {ω σ1 : kS} {r : Int32} (S : CallFix p m c cX0_whoseCome 3 s args kBIG RX0) (hR : kRetI p l e (rml 3) s m args below meth c cX0_whoseCome E Q (some .int) r (cmb σ1 ω))  : ∀ (n : Nat), ∀ (q0 : Nat) (a1 : Int32) (a2 : Int32) (hq0 : isM q0) (σ : kS) (H : Heap) (locs : List Loc) (ls : Array Slot), fX0_whoseCome_L4 n q0 a1 a2 σ = some (r, σ1) → kWS E s (cmb σ ω) H locs → lv_has ls 3 [(0, .ref (ead E q0)), (1, .int a1), (2, .int a2)] → W p l e (rml 3) s m args below meth c H locs 0 0 Q (F0 m 4 ls []) := by
  intro n
  induction n with
  | zero =>
    intro q0 a1 a2 hq0 σ H locs ls hF hw hl
    exact absurd hF (fun h => nomatch h)
  | succ n ih =>
    intro q0 a1 a2 hq0 σ H locs ls hF hw hl
    rw [fX0_whoseCome_L4] at hF
    refine lv_iload_n S.1 S.2.1 dX0_whoseCome_4 rfl (lv_at hl 2 rfl) ?_
    refine lv_aload_n S.1 S.2.1 dX0_whoseCome_5 rfl (lv_at hl 0 rfl) ?_
    refine gf_X0_31 S hw hq0.1 hq0.2.1 rfl dX0_whoseCome_6 ?_
    refine lv_icmp_ge (tgt := 33) S.1 S.2.1 dX0_whoseCome_9 (by decide) (fun c1 => ?_) (fun c1 => ?_)
    · replace hF := kit hF c1
      refine lv_iload_n S.1 S.2.1 dX0_whoseCome_33 rfl (lv_at hl 1 rfl) ?_
      obtain ⟨rfl, rfl⟩ := kret hF
      exact hR _ _ _ _ dX0_whoseCome_34 hw (fun h => nomatch h)
    · replace hF := kif hF c1
      refine lv_aload_n S.1 S.2.1 dX0_whoseCome_12 rfl (lv_at hl 0 rfl) ?_
      refine lv_iload_n S.1 S.2.1 dX0_whoseCome_13 rfl (lv_at hl 2 rfl) ?_
      obtain ⟨r4, σ3, e2, hF⟩ := kbi_e hF
      refine kcX0_goesTo S hw cv_X0_57 ⟨Nat.le_of_ble_eq_true rfl, Nat.le_of_ble_eq_true rfl⟩ hq0 e2 hl.1 (Nat.le_of_ble_eq_true rfl) dX0_whoseCome_14 (fun H locs hw => ?_)
      refine lv_iload_n S.1 S.2.1 dX0_whoseCome_17 rfl (lv_at hl 2 rfl) ?_
      refine lv_icmp_ne (tgt := 27) S.1 S.2.1 dX0_whoseCome_18 (by decide) (fun c5 => ?_) (fun c5 => ?_)
      · replace hF := kif hF c5
        obtain ⟨v6, ev6⟩ : ∃ y : Int32, y = a2 + 1 := ⟨_, rfl⟩
        replace hF := klb hF ev6
        refine lv_iinc (v := v6) (lv' := [(2, .int v6), (0, .ref (ead E q0)), (1, .int a1)]) S.1 S.2.1 dX0_whoseCome_27 hl (k := 2) rfl (by rw [ev6]; rfl) (by decide) rfl (fun ls hl => ?_)
        refine lv_goto (tgt := 4) S.1 S.2.1 dX0_whoseCome_30 (by decide) ?_
        exact ih q0 a1 v6 hq0 _ _ _ _ hF hw (lv_sub hl [1, 2, 0] rfl)
      · replace hF := kit hF c5
        refine lv_iload_n S.1 S.2.1 dX0_whoseCome_21 rfl (lv_at hl 1 rfl) ?_
        refine lv_iconst (v := 1) S.1 S.2.1 dX0_whoseCome_22 (by decide) ?_
        refine lv_iload_n S.1 S.2.1 dX0_whoseCome_23 rfl (lv_at hl 2 rfl) ?_
        refine lv_ishl S.1 S.2.1 dX0_whoseCome_24 ?_
        refine lv_ior S.1 S.2.1 dX0_whoseCome_25 ?_
        refine lv_topi (fun v7 ev7 => ?_)
        replace hF := klb hF ev7
        refine lv_istore_n (lv' := [(1, .int v7), (0, .ref (ead E q0)), (2, .int a2)]) S.1 S.2.1 dX0_whoseCome_26 rfl hl (by decide) rfl (fun ls hl => ?_)
        obtain ⟨v8, ev8⟩ : ∃ y : Int32, y = a2 + 1 := ⟨_, rfl⟩
        replace hF := klb hF ev8
        refine lv_iinc (v := v8) (lv' := [(2, .int v8), (1, .int v7), (0, .ref (ead E q0))]) S.1 S.2.1 dX0_whoseCome_27 hl (k := 2) rfl (by rw [ev8]; rfl) (by decide) rfl (fun ls hl => ?_)
        refine lv_goto (tgt := 4) S.1 S.2.1 dX0_whoseCome_30 (by decide) ?_
        exact ih q0 v7 v8 hq0 _ _ _ _ hF hw (lv_sub hl [2, 1, 0] rfl)
set_option maxHeartbeats 4000000 in
set_option maxRecDepth 100000 in
theorem mX0_whoseCome {l : Launch} {E : kE} {ω σ σ1 : kS} {r : Int32} {q0 : Nat} (hq0 : isM q0) (hF : fX0_whoseCome q0 σ = some (r, σ1)) : kMetI l yX0_whoseCome cX0_whoseCome 3 (some .int) 3 E [.ref (ead E q0)] (cmb σ ω) r (cmb σ1 ω) := by
  refine kMetI.of (by decide +kernel) (Nat.le_of_ble_eq_true rfl) (Or.inl rfl) ?_
  intro p e s m args below meth c Q ls S hR hw hl
  have hl : lv_has ls 3 [(0, .ref (ead E q0))] := hl
  unfold fX0_whoseCome at hF
  refine lv_iconst (v := 0) S.1 S.2.1 dX0_whoseCome_0 (by decide) ?_
  refine lv_istore_n (lv' := [(1, .int 0), (0, .ref (ead E q0))]) S.1 S.2.1 dX0_whoseCome_1 rfl hl (by decide) rfl (fun ls hl => ?_)
  refine lv_iconst (v := 0) S.1 S.2.1 dX0_whoseCome_2 (by decide) ?_
  refine lv_istore_n (lv' := [(2, .int 0), (1, .int 0), (0, .ref (ead E q0))]) S.1 S.2.1 dX0_whoseCome_3 rfl hl (by decide) rfl (fun ls hl => ?_)
  exact wX0_whoseCome_L4 S hR 1000 q0 0 0 hq0 _ _ _ _ hF hw (lv_sub hl [2, 1, 0] rfl)
set_option maxRecDepth 100000 in
theorem kcX0_whoseCome {p : Program} {l : Launch} {e : Env} {R : Room} {s : State} {m : MethodId} {args : Array Value} {below : List Frame} {meth : Method} {c : Code} {H : Heap} {locs : List Loc} {cells slots : Nat} {Q : State → Prop} {cc : ByteArray} {pc : Nat} {ls : Array Slot} {rest : List Value} {E : kE} {σ ω σ1 : kS} {nL index : Nat} {own : String} {r : Int32} (S : CallFix p m c cc nL s args kBIG own) (hw : kWS E s (cmb σ ω) H locs) (cw : kV own RX0 index yX0_whoseCome cX0_whoseCome 3 (some .int) 0) (hR : 3 + 1 ≤ R.frames ∧ 8 + (3 + 11) + 40 * 3 ≤ R.locals) {q0 : Nat} (hq0 : isM q0) (hF : fX0_whoseCome q0 σ = some (r, σ1)) (hls : ls.size = nL) (hW : (rest.map fun v => v.category).sum ≤ 8) (hdg : decode cc pc = .ok (.invokevirtual index, 3)) (kk : ∀ (H1 : Heap) (locs1 : List Loc), kWS E s (cmb σ1 ω) H1 locs1 → W p l e R s m args below meth c H1 locs1 cells slots Q (F0 m (pc + 3) ls (.int r :: rest))) (hf : cells ≤ R.cells ∧ slots ≤ R.slots := by exact ⟨Nat.le_of_ble_eq_true rfl, Nat.le_of_ble_eq_true rfl⟩) : W p l e R s m args below meth c H locs cells slots Q (F0 m pc ls (.ref (ead E q0) :: rest)) := kr_calli (mc := 0) (y := yX0_whoseCome) (b := cX0_whoseCome) (n := 0) (lv := 0) (As := []) (ret := some .int) hw (kr_runV (As := []) (q := q0) S hw ((mX0_whoseCome (l := l) (E := E) (ω := ω) hq0 hF) H.size) cw hR hq0.1 (Nat.lt_trans hq0.2.1 (by decide)) rfl rfl hls _ rfl hW hdg hf) (fun H1 locs1 h _ => kk H1 locs1 h)
set_option maxHeartbeats 4000000 in
set_option maxRecDepth 100000 in
theorem mX4_withOne {l : Launch} {E : kE} {ω σ σ1 : kS} {r : Int32} {a0 : Int32} {a1 : Int32}  (hF : fX4_withOne a0 a1 σ = some (r, σ1)) : kMetI l yX4_withOne cX4_withOne 2 (some .int) 0 E [.int a0, .int a1] (cmb σ ω) r (cmb σ1 ω) := by
  refine kMetI.of (by decide +kernel) (Nat.le_of_ble_eq_true rfl) (Or.inl rfl) ?_
  intro p e s m args below meth c Q ls S hR hw hl
  have hl : lv_has ls 2 [(0, .int a0), (1, .int a1)] := hl
  unfold fX4_withOne at hF
  refine lv_iload_n S.1 S.2.1 dX4_withOne_0 rfl (lv_at hl 1 rfl) ?_
  refine lv_bipush (v := (-9)) S.1 S.2.1 dX4_withOne_1 (by decide) ?_
  refine lv_icmp_ne (tgt := 10) S.1 S.2.1 dX4_withOne_3 (by decide) (fun c1 => ?_) (fun c1 => ?_)
  · replace hF := kif hF c1
    refine lv_iload_n S.1 S.2.1 dX4_withOne_10 rfl (lv_at hl 0 rfl) ?_
    refine lv_iconst (v := 1) S.1 S.2.1 dX4_withOne_11 (by decide) ?_
    refine lv_iload_n S.1 S.2.1 dX4_withOne_12 rfl (lv_at hl 1 rfl) ?_
    refine lv_ishl S.1 S.2.1 dX4_withOne_13 ?_
    refine lv_ior S.1 S.2.1 dX4_withOne_14 ?_
    obtain ⟨rfl, rfl⟩ := kret hF
    exact hR _ _ _ _ dX4_withOne_15 hw (fun h => nomatch h)
  · replace hF := kit hF c1
    refine lv_iload_n S.1 S.2.1 dX4_withOne_6 rfl (lv_at hl 0 rfl) ?_
    refine lv_goto (tgt := 15) S.1 S.2.1 dX4_withOne_7 (by decide) ?_
    obtain ⟨rfl, rfl⟩ := kret hF
    exact hR _ _ _ _ dX4_withOne_15 hw (fun h => nomatch h)
set_option maxRecDepth 100000 in
theorem kcX4_withOne {p : Program} {l : Launch} {e : Env} {R : Room} {s : State} {m : MethodId} {args : Array Value} {below : List Frame} {meth : Method} {c : Code} {H : Heap} {locs : List Loc} {cells slots : Nat} {Q : State → Prop} {cc : ByteArray} {pc : Nat} {ls : Array Slot} {rest : List Value} {E : kE} {σ ω σ1 : kS} {nL index : Nat} {own : String} {r : Int32} (S : CallFix p m c cc nL s args kBIG own) (hw : kWS E s (cmb σ ω) H locs) (cw : kSt own index yX4_withOne cX4_withOne 2 (some .int) 2) (hR : 0 + 1 ≤ R.frames ∧ 8 + (2 + 11) + 40 * 0 ≤ R.locals) {a0 : Int32} {a1 : Int32}  (hF : fX4_withOne a0 a1 σ = some (r, σ1)) (hls : ls.size = nL) (hW : (rest.map fun v => v.category).sum ≤ 8) (hdg : decode cc pc = .ok (.invokestatic index, 3)) (kk : ∀ (H1 : Heap) (locs1 : List Loc), kWS E s (cmb σ1 ω) H1 locs1 → W p l e R s m args below meth c H1 locs1 cells slots Q (F0 m (pc + 3) ls (.int r :: rest))) (hf : cells ≤ R.cells ∧ slots ≤ R.slots := by exact ⟨Nat.le_of_ble_eq_true rfl, Nat.le_of_ble_eq_true rfl⟩) : W p l e R s m args below meth c H locs cells slots Q (F0 m pc ls (.int a1 :: .int a0 :: rest)) := kr_calli (mc := 0) (y := yX4_withOne) (b := cX4_withOne) (n := 0) (lv := 0) (As := []) (ret := some .int) hw (kr_runS (As := [.int a0, .int a1]) S hw ((mX4_withOne (l := l) (E := E) (ω := ω) hF) H.size) cw hR rfl hls _ rfl hW hdg hf) (fun H1 locs1 h _ => kk H1 locs1 h)
set_option maxRecDepth 100000 in
theorem kcNX4_withOne {p : Program} {l : Launch} {e : Env} {R : Room} {s : State} {m : MethodId} {args : Array Value} {below : List Frame} {meth : Method} {c : Code} {H : Heap} {locs : List Loc} {cells slots : Nat} {Q : State → Prop} {cc : ByteArray} {pc : Nat} {ls : Array Slot} {rest : List Value} {E : kE} {σ ω σ1 : kS} {nL index : Nat} {own : String} {r : Int32} (S : CallFix p m c cc nL s args kBIG own) (hw : kWS E s (cmb σ ω) H locs) {host : String} (hn : va_Nw (.methodLinkNest own index yX4_withOne host) s) (cw : kNs yX4_withOne cX4_withOne 2 (some .int) 2) (hR : 0 + 1 ≤ R.frames ∧ 8 + (2 + 11) + 40 * 0 ≤ R.locals) {a0 : Int32} {a1 : Int32}  (hF : fX4_withOne a0 a1 σ = some (r, σ1)) (hls : ls.size = nL) (hW : (rest.map fun v => v.category).sum ≤ 8) (hdg : decode cc pc = .ok (.invokestatic index, 3)) (kk : ∀ (H1 : Heap) (locs1 : List Loc), kWS E s (cmb σ1 ω) H1 locs1 → W p l e R s m args below meth c H1 locs1 cells slots Q (F0 m (pc + 3) ls (.int r :: rest))) (hf : cells ≤ R.cells ∧ slots ≤ R.slots := by exact ⟨Nat.le_of_ble_eq_true rfl, Nat.le_of_ble_eq_true rfl⟩) : W p l e R s m args below meth c H locs cells slots Q (F0 m pc ls (.int a1 :: .int a0 :: rest)) := kr_calli (mc := 0) (y := yX4_withOne) (b := cX4_withOne) (n := 0) (lv := 0) (As := []) (ret := some .int) hw (kr_runN (As := [.int a0, .int a1]) S hw hn ((mX4_withOne (l := l) (E := E) (ω := ω) hF) H.size) cw hR rfl hls _ rfl hW hdg hf) (fun H1 locs1 h _ => kk H1 locs1 h)
set_option maxHeartbeats 4000000 in
set_option maxRecDepth 100000 in
theorem wX0_whoGetOne_L4 {p : Program} {l : Launch} {e : Env} {s : State} {m : MethodId} {args : Array Value} {below : List Frame} {meth : Method} {c : Code} {Q : State → Prop} {E : kE} {ω σ1 : kS} {r : Int32} (S : CallFix p m c cX0_whoGetOne 3 s args kBIG RX0) (hR : kRetI p l e (rml 3) s m args below meth c cX0_whoGetOne E Q (some .int) r (cmb σ1 ω))  : ∀ (n : Nat), ∀ (q0 : Nat) (a1 : Int32) (a2 : Int32) (hq0 : isM q0) (σ : kS) (H : Heap) (locs : List Loc) (ls : Array Slot), fX0_whoGetOne_L4 n q0 a1 a2 σ = some (r, σ1) → kWS E s (cmb σ ω) H locs → lv_has ls 3 [(0, .ref (ead E q0)), (1, .int a1), (2, .int a2)] → W p l e (rml 3) s m args below meth c H locs 0 0 Q (F0 m 4 ls []) := by
  intro n
  induction n with
  | zero =>
    intro q0 a1 a2 hq0 σ H locs ls hF hw hl
    exact absurd hF (fun h => nomatch h)
  | succ n ih =>
    intro q0 a1 a2 hq0 σ H locs ls hF hw hl
    rw [fX0_whoGetOne_L4] at hF
    refine lv_iload_n S.1 S.2.1 dX0_whoGetOne_4 rfl (lv_at hl 2 rfl) ?_
    refine lv_aload_n S.1 S.2.1 dX0_whoGetOne_5 rfl (lv_at hl 0 rfl) ?_
    refine gf_X0_31 S hw hq0.1 hq0.2.1 rfl dX0_whoGetOne_6 ?_
    refine lv_icmp_ge (tgt := 28) S.1 S.2.1 dX0_whoGetOne_9 (by decide) (fun c1 => ?_) (fun c1 => ?_)
    · replace hF := kit hF c1
      refine lv_iload_n S.1 S.2.1 dX0_whoGetOne_28 rfl (lv_at hl 1 rfl) ?_
      obtain ⟨rfl, rfl⟩ := kret hF
      exact hR _ _ _ _ dX0_whoGetOne_29 hw (fun h => nomatch h)
    · replace hF := kif hF c1
      refine lv_iload_n S.1 S.2.1 dX0_whoGetOne_12 rfl (lv_at hl 1 rfl) ?_
      refine lv_aload_n S.1 S.2.1 dX0_whoGetOne_13 rfl (lv_at hl 0 rfl) ?_
      refine lv_iload_n S.1 S.2.1 dX0_whoGetOne_14 rfl (lv_at hl 2 rfl) ?_
      obtain ⟨r4, σ3, e2, hF⟩ := kbi_e hF
      refine kcX0_goesTo S hw cv_X0_57 ⟨Nat.le_of_ble_eq_true rfl, Nat.le_of_ble_eq_true rfl⟩ hq0 e2 hl.1 (Nat.le_of_ble_eq_true rfl) dX0_whoGetOne_15 (fun H locs hw => ?_)
      obtain ⟨r7, σ6, e5, hF⟩ := kbi_e hF
      refine kcNX4_withOne S hw hw.2.2.2.2.1 cv_X0_60 ⟨Nat.le_of_ble_eq_true rfl, Nat.le_of_ble_eq_true rfl⟩ e5 hl.1 (Nat.le_of_ble_eq_true rfl) dX0_whoGetOne_18 (fun H locs hw => ?_)
      refine lv_istore_n (lv' := [(1, .int r7), (0, .ref (ead E q0)), (2, .int a2)]) S.1 S.2.1 dX0_whoGetOne_21 rfl hl (by decide) rfl (fun ls hl => ?_)
      obtain ⟨v8, ev8⟩ : ∃ y : Int32, y = a2 + 1 := ⟨_, rfl⟩
      replace hF := klb hF ev8
      refine lv_iinc (v := v8) (lv' := [(2, .int v8), (1, .int r7), (0, .ref (ead E q0))]) S.1 S.2.1 dX0_whoGetOne_22 hl (k := 2) rfl (by rw [ev8]; rfl) (by decide) rfl (fun ls hl => ?_)
      refine lv_goto (tgt := 4) S.1 S.2.1 dX0_whoGetOne_25 (by decide) ?_
      exact ih q0 r7 v8 hq0 _ _ _ _ hF hw (lv_sub hl [2, 1, 0] rfl)
set_option maxHeartbeats 4000000 in
set_option maxRecDepth 100000 in
theorem mX0_whoGetOne {l : Launch} {E : kE} {ω σ σ1 : kS} {r : Int32} {q0 : Nat} (hq0 : isM q0) (hF : fX0_whoGetOne q0 σ = some (r, σ1)) : kMetI l yX0_whoGetOne cX0_whoGetOne 3 (some .int) 3 E [.ref (ead E q0)] (cmb σ ω) r (cmb σ1 ω) := by
  refine kMetI.of (by decide +kernel) (Nat.le_of_ble_eq_true rfl) (Or.inl rfl) ?_
  intro p e s m args below meth c Q ls S hR hw hl
  have hl : lv_has ls 3 [(0, .ref (ead E q0))] := hl
  unfold fX0_whoGetOne at hF
  refine lv_iconst (v := 0) S.1 S.2.1 dX0_whoGetOne_0 (by decide) ?_
  refine lv_istore_n (lv' := [(1, .int 0), (0, .ref (ead E q0))]) S.1 S.2.1 dX0_whoGetOne_1 rfl hl (by decide) rfl (fun ls hl => ?_)
  refine lv_iconst (v := 0) S.1 S.2.1 dX0_whoGetOne_2 (by decide) ?_
  refine lv_istore_n (lv' := [(2, .int 0), (1, .int 0), (0, .ref (ead E q0))]) S.1 S.2.1 dX0_whoGetOne_3 rfl hl (by decide) rfl (fun ls hl => ?_)
  exact wX0_whoGetOne_L4 S hR 1000 q0 0 0 hq0 _ _ _ _ hF hw (lv_sub hl [2, 1, 0] rfl)
set_option maxRecDepth 100000 in
theorem kcX0_whoGetOne {p : Program} {l : Launch} {e : Env} {R : Room} {s : State} {m : MethodId} {args : Array Value} {below : List Frame} {meth : Method} {c : Code} {H : Heap} {locs : List Loc} {cells slots : Nat} {Q : State → Prop} {cc : ByteArray} {pc : Nat} {ls : Array Slot} {rest : List Value} {E : kE} {σ ω σ1 : kS} {nL index : Nat} {own : String} {r : Int32} (S : CallFix p m c cc nL s args kBIG own) (hw : kWS E s (cmb σ ω) H locs) (cw : kV own RX0 index yX0_whoGetOne cX0_whoGetOne 3 (some .int) 0) (hR : 3 + 1 ≤ R.frames ∧ 8 + (3 + 11) + 40 * 3 ≤ R.locals) {q0 : Nat} (hq0 : isM q0) (hF : fX0_whoGetOne q0 σ = some (r, σ1)) (hls : ls.size = nL) (hW : (rest.map fun v => v.category).sum ≤ 8) (hdg : decode cc pc = .ok (.invokevirtual index, 3)) (kk : ∀ (H1 : Heap) (locs1 : List Loc), kWS E s (cmb σ1 ω) H1 locs1 → W p l e R s m args below meth c H1 locs1 cells slots Q (F0 m (pc + 3) ls (.int r :: rest))) (hf : cells ≤ R.cells ∧ slots ≤ R.slots := by exact ⟨Nat.le_of_ble_eq_true rfl, Nat.le_of_ble_eq_true rfl⟩) : W p l e R s m args below meth c H locs cells slots Q (F0 m pc ls (.ref (ead E q0) :: rest)) := kr_calli (mc := 0) (y := yX0_whoGetOne) (b := cX0_whoGetOne) (n := 0) (lv := 0) (As := []) (ret := some .int) hw (kr_runV (As := []) (q := q0) S hw ((mX0_whoGetOne (l := l) (E := E) (ω := ω) hq0 hF) H.size) cw hR hq0.1 (Nat.lt_trans hq0.2.1 (by decide)) rfl rfl hls _ rfl hW hdg hf) (fun H1 locs1 h _ => kk H1 locs1 h)
set_option maxHeartbeats 4000000 in
set_option maxRecDepth 100000 in
theorem wX1_begin_L17 {p : Program} {l : Launch} {e : Env} {s : State} {m : MethodId} {args : Array Value} {below : List Frame} {meth : Method} {c : Code} {Q : State → Prop} {E : kE} {ω σ1 : kS} (S : CallFix p m c cX1_begin 4 s args kBIG RX1) (hR : kRetV p l e (rml 0) s m args below meth c cX1_begin E Q (cmb σ1 ω))  : ∀ (n : Nat), ∀ (q0 : Nat) (a3 : Int32) (hq0 : isSh q0) (σ : kS) (H : Heap) (locs : List Loc) (ls : Array Slot), fX1_begin_L17 n q0 a3 σ = some σ1 → kWS E s (cmb σ ω) H locs → lv_has ls 4 [(0, .ref (ead E q0)), (3, .int a3)] → W p l e (rml 0) s m args below meth c H locs 0 0 Q (F0 m 17 ls []) := by
  intro n
  induction n with
  | zero =>
    intro q0 a3 hq0 σ H locs ls hF hw hl
    exact absurd hF (fun h => nomatch h)
  | succ n ih =>
    intro q0 a3 hq0 σ H locs ls hF hw hl
    rw [fX1_begin_L17] at hF
    refine lv_iload_n S.1 S.2.1 dX1_begin_17 rfl (lv_at hl 1 rfl) ?_
    refine lv_bipush (v := 60) S.1 S.2.1 dX1_begin_18 (by decide) ?_
    refine lv_icmp_ge (tgt := 36) S.1 S.2.1 dX1_begin_20 (by decide) (fun c1 => ?_) (fun c1 => ?_)
    · replace hF := kit hF c1
      cases kre hF
      exact hR _ _ _ _ dX1_begin_36 hw
    · replace hF := kif hF c1
      refine lv_aload_n S.1 S.2.1 dX1_begin_23 rfl (lv_at hl 0 rfl) ?_
      refine gf_X1_9 S hw hq0.1 hq0.2.1 rfl dX1_begin_24 ?_
      refine lv_iload_n S.1 S.2.1 dX1_begin_27 rfl (lv_at hl 1 rfl) ?_
      refine lv_iconst (v := 0) S.1 S.2.1 dX1_begin_28 (by decide) ?_
      obtain ⟨hb2, hF⟩ := kin hF
      refine kx_iast (q := q0 + 4) S hw hq0.2.2.1 hq0.2.2.2 hb2 dX1_begin_29 (fun H locs hw => ?_)
      obtain ⟨v3, ev3⟩ : ∃ y : Int32, y = a3 + 1 := ⟨_, rfl⟩
      replace hF := klb hF ev3
      refine lv_iinc (v := v3) (lv' := [(3, .int v3), (0, .ref (ead E q0))]) S.1 S.2.1 dX1_begin_30 hl (k := 1) rfl (by rw [ev3]; rfl) (by decide) rfl (fun ls hl => ?_)
      refine lv_goto (tgt := 17) S.1 S.2.1 dX1_begin_33 (by decide) ?_
      exact ih q0 v3 hq0 _ _ _ _ hF hw (lv_sub hl [1, 0] rfl)
set_option maxHeartbeats 4000000 in
set_option maxRecDepth 100000 in
theorem mX1_begin {l : Launch} {E : kE} {ω σ σ1 : kS} {q0 : Nat} {a1 : Int32} {a2 : Int32} (hq0 : isSh q0) (hF : fX1_begin q0 a1 a2 σ = some σ1) : kMetV l yX1_begin cX1_begin 4 0 E [.ref (ead E q0), .int a1, .int a2] (cmb σ ω) (cmb σ1 ω) := by
  refine kMetV.of (by decide +kernel) (Nat.le_of_ble_eq_true rfl) ?_
  intro p e s m args below meth c Q ls S hR hw hl
  have hl : lv_has ls 4 [(0, .ref (ead E q0)), (1, .int a1), (2, .int a2)] := hl
  unfold fX1_begin at hF
  refine lv_aload_n S.1 S.2.1 dX1_begin_0 rfl (lv_at hl 0 rfl) ?_
  refine lv_iconst (v := 1) S.1 S.2.1 dX1_begin_1 (by decide) ?_
  refine pf_X1_15 S hw hq0.1 hq0.2.1 rfl rfl rfl dX1_begin_2 (fun H locs hw => ?_)
  refine lv_aload_n S.1 S.2.1 dX1_begin_5 rfl (lv_at hl 0 rfl) ?_
  refine lv_iload_n S.1 S.2.1 dX1_begin_6 rfl (lv_at hl 1 rfl) ?_
  refine pf_X1_19 S hw hq0.1 hq0.2.1 rfl dX1_begin_7 (fun H locs hw => ?_)
  refine lv_aload_n S.1 S.2.1 dX1_begin_10 rfl (lv_at hl 0 rfl) ?_
  refine lv_iload_n S.1 S.2.1 dX1_begin_11 rfl (lv_at hl 2 rfl) ?_
  refine pf_X1_23 S hw hq0.1 hq0.2.1 rfl dX1_begin_12 (fun H locs hw => ?_)
  refine lv_iconst (v := 0) S.1 S.2.1 dX1_begin_15 (by decide) ?_
  refine lv_istore_n (lv' := [(3, .int 0), (0, .ref (ead E q0)), (1, .int a1), (2, .int a2)]) S.1 S.2.1 dX1_begin_16 rfl hl (by decide) rfl (fun ls hl => ?_)
  exact wX1_begin_L17 S hR 1000 q0 0 hq0 _ _ _ _ hF hw (lv_sub hl [1, 0] rfl)
set_option maxRecDepth 100000 in
theorem kcX1_begin {p : Program} {l : Launch} {e : Env} {R : Room} {s : State} {m : MethodId} {args : Array Value} {below : List Frame} {meth : Method} {c : Code} {H : Heap} {locs : List Loc} {cells slots : Nat} {Q : State → Prop} {cc : ByteArray} {pc : Nat} {ls : Array Slot} {rest : List Value} {E : kE} {σ ω σ1 : kS} {nL index : Nat} {own : String} (S : CallFix p m c cc nL s args kBIG own) (hw : kWS E s (cmb σ ω) H locs) (cw : kV own RX1 index yX1_begin cX1_begin 4 none 2) (hR : 0 + 1 ≤ R.frames ∧ 8 + (4 + 11) + 40 * 0 ≤ R.locals) {q0 : Nat} {a1 : Int32} {a2 : Int32} (hq0 : isSh q0) (hF : fX1_begin q0 a1 a2 σ = some σ1) (hls : ls.size = nL) (hW : (rest.map fun v => v.category).sum ≤ 8) (hdg : decode cc pc = .ok (.invokevirtual index, 3)) (kk : ∀ (H1 : Heap) (locs1 : List Loc), kWS E s (cmb σ1 ω) H1 locs1 → W p l e R s m args below meth c H1 locs1 cells slots Q (F0 m (pc + 3) ls rest)) (hf : cells ≤ R.cells ∧ slots ≤ R.slots := by exact ⟨Nat.le_of_ble_eq_true rfl, Nat.le_of_ble_eq_true rfl⟩) : W p l e R s m args below meth c H locs cells slots Q (F0 m pc ls (.int a2 :: .int a1 :: .ref (ead E q0) :: rest)) := kr_callv hw (kr_runV (As := [.int a1, .int a2]) (q := q0) S hw ((mX1_begin (l := l) (E := E) (ω := ω) hq0 hF) H.size) cw hR hq0.1 (Nat.lt_trans hq0.2.1 (by decide)) rfl rfl hls _ rfl hW hdg hf) kk
set_option maxHeartbeats 4000000 in
set_option maxRecDepth 100000 in
theorem mX1_faultAs {l : Launch} {E : kE} {ω σ σ1 : kS} {r : Int32} {q0 : Nat} {a1 : Int32} (hq0 : isSh q0) (hF : fX1_faultAs q0 a1 σ = some (r, σ1)) : kMetI l yX1_faultAs cX1_faultAs 2 (some .int) 0 E [.ref (ead E q0), .int a1] (cmb σ ω) r (cmb σ1 ω) := by
  refine kMetI.of (by decide +kernel) (Nat.le_of_ble_eq_true rfl) (Or.inl rfl) ?_
  intro p e s m args below meth c Q ls S hR hw hl
  have hl : lv_has ls 2 [(0, .ref (ead E q0)), (1, .int a1)] := hl
  unfold fX1_faultAs at hF
  refine lv_aload_n S.1 S.2.1 dX1_faultAs_0 rfl (lv_at hl 0 rfl) ?_
  refine gf_X1_15 S hw hq0.1 hq0.2.1 rfl dX1_faultAs_1 ?_
  refine lv_if_ne (tgt := 9) S.1 S.2.1 dX1_faultAs_4 (by decide) (fun c1 => ?_) (fun c1 => ?_)
  · replace hF := kif hF c1
    refine lv_aload_n S.1 S.2.1 dX1_faultAs_9 rfl (lv_at hl 0 rfl) ?_
    refine gf_X1_19 S hw hq0.1 hq0.2.1 rfl dX1_faultAs_10 ?_
    refine lv_iload_n S.1 S.2.1 dX1_faultAs_13 rfl (lv_at hl 1 rfl) ?_
    refine lv_icmp_ne (tgt := 21) S.1 S.2.1 dX1_faultAs_14 (by decide) (fun c2 => ?_) (fun c2 => ?_)
    · replace hF := kif hF c2
      refine lv_iconst (v := 2) S.1 S.2.1 dX1_faultAs_21 (by decide) ?_
      obtain ⟨rfl, rfl⟩ := kret hF
      exact hR _ _ _ _ dX1_faultAs_22 hw (fun h => nomatch h)
    · replace hF := kit hF c2
      refine lv_iconst (v := 0) S.1 S.2.1 dX1_faultAs_17 (by decide) ?_
      refine lv_goto (tgt := 22) S.1 S.2.1 dX1_faultAs_18 (by decide) ?_
      obtain ⟨rfl, rfl⟩ := kret hF
      exact hR _ _ _ _ dX1_faultAs_22 hw (fun h => nomatch h)
  · replace hF := kit hF c1
    refine lv_iconst (v := 1) S.1 S.2.1 dX1_faultAs_7 (by decide) ?_
    obtain ⟨rfl, rfl⟩ := kret hF
    exact hR _ _ _ _ dX1_faultAs_8 hw (fun h => nomatch h)
set_option maxRecDepth 100000 in
theorem kcX1_faultAs {p : Program} {l : Launch} {e : Env} {R : Room} {s : State} {m : MethodId} {args : Array Value} {below : List Frame} {meth : Method} {c : Code} {H : Heap} {locs : List Loc} {cells slots : Nat} {Q : State → Prop} {cc : ByteArray} {pc : Nat} {ls : Array Slot} {rest : List Value} {E : kE} {σ ω σ1 : kS} {nL index : Nat} {own : String} {r : Int32} (S : CallFix p m c cc nL s args kBIG own) (hw : kWS E s (cmb σ ω) H locs) (cw : kV own RX1 index yX1_faultAs cX1_faultAs 2 (some .int) 1) (hR : 0 + 1 ≤ R.frames ∧ 8 + (2 + 11) + 40 * 0 ≤ R.locals) {q0 : Nat} {a1 : Int32} (hq0 : isSh q0) (hF : fX1_faultAs q0 a1 σ = some (r, σ1)) (hls : ls.size = nL) (hW : (rest.map fun v => v.category).sum ≤ 8) (hdg : decode cc pc = .ok (.invokevirtual index, 3)) (kk : ∀ (H1 : Heap) (locs1 : List Loc), kWS E s (cmb σ1 ω) H1 locs1 → W p l e R s m args below meth c H1 locs1 cells slots Q (F0 m (pc + 3) ls (.int r :: rest))) (hf : cells ≤ R.cells ∧ slots ≤ R.slots := by exact ⟨Nat.le_of_ble_eq_true rfl, Nat.le_of_ble_eq_true rfl⟩) : W p l e R s m args below meth c H locs cells slots Q (F0 m pc ls (.int a1 :: .ref (ead E q0) :: rest)) := kr_calli (mc := 0) (y := yX1_faultAs) (b := cX1_faultAs) (n := 0) (lv := 0) (As := []) (ret := some .int) hw (kr_runV (As := [.int a1]) (q := q0) S hw ((mX1_faultAs (l := l) (E := E) (ω := ω) hq0 hF) H.size) cw hR hq0.1 (Nat.lt_trans hq0.2.1 (by decide)) rfl rfl hls _ rfl hW hdg hf) (fun H1 locs1 h _ => kk H1 locs1 h)
set_option maxHeartbeats 4000000 in
set_option maxRecDepth 100000 in
theorem mX1_hasCell {l : Launch} {E : kE} {ω σ σ1 : kS} {r : Int32} {q0 : Nat} {a1 : Int32} (hq0 : isSh q0) (hF : fX1_hasCell q0 a1 σ = some (r, σ1)) : kMetI l yX1_hasCell cX1_hasCell 2 (some .boolean) 0 E [.ref (ead E q0), .int a1] (cmb σ ω) r (cmb σ1 ω) := by
  refine kMetI.of (by decide +kernel) (Nat.le_of_ble_eq_true rfl) (Or.inr rfl) ?_
  intro p e s m args below meth c Q ls S hR hw hl
  have hl : lv_has ls 2 [(0, .ref (ead E q0)), (1, .int a1)] := hl
  unfold fX1_hasCell at hF
  refine lv_iload_n S.1 S.2.1 dX1_hasCell_0 rfl (lv_at hl 1 rfl) ?_
  refine lv_if_lt (tgt := 16) S.1 S.2.1 dX1_hasCell_1 (by decide) (fun c1 => ?_) (fun c1 => ?_)
  · replace hF := kit hF c1
    refine lv_iconst (v := 0) S.1 S.2.1 dX1_hasCell_16 (by decide) ?_
    obtain ⟨rfl, rfl⟩ := kret hF
    exact hR _ _ _ _ dX1_hasCell_17 hw (fun _ => (Or.inl rfl))
  · replace hF := kif hF c1
    refine lv_iload_n S.1 S.2.1 dX1_hasCell_4 rfl (lv_at hl 1 rfl) ?_
    refine lv_aload_n S.1 S.2.1 dX1_hasCell_5 rfl (lv_at hl 0 rfl) ?_
    refine gf_X1_23 S hw hq0.1 hq0.2.1 rfl dX1_hasCell_6 ?_
    refine lv_icmp_ge (tgt := 16) S.1 S.2.1 dX1_hasCell_9 (by decide) (fun c2 => ?_) (fun c2 => ?_)
    · replace hF := kit hF c2
      refine lv_iconst (v := 0) S.1 S.2.1 dX1_hasCell_16 (by decide) ?_
      obtain ⟨rfl, rfl⟩ := kret hF
      exact hR _ _ _ _ dX1_hasCell_17 hw (fun _ => (Or.inl rfl))
    · replace hF := kif hF c2
      refine lv_iconst (v := 1) S.1 S.2.1 dX1_hasCell_12 (by decide) ?_
      refine lv_goto (tgt := 17) S.1 S.2.1 dX1_hasCell_13 (by decide) ?_
      obtain ⟨rfl, rfl⟩ := kret hF
      exact hR _ _ _ _ dX1_hasCell_17 hw (fun _ => (Or.inr rfl))
set_option maxRecDepth 100000 in
theorem kcX1_hasCell {p : Program} {l : Launch} {e : Env} {R : Room} {s : State} {m : MethodId} {args : Array Value} {below : List Frame} {meth : Method} {c : Code} {H : Heap} {locs : List Loc} {cells slots : Nat} {Q : State → Prop} {cc : ByteArray} {pc : Nat} {ls : Array Slot} {rest : List Value} {E : kE} {σ ω σ1 : kS} {nL index : Nat} {own : String} {r : Int32} (S : CallFix p m c cc nL s args kBIG own) (hw : kWS E s (cmb σ ω) H locs) (cw : kV own RX1 index yX1_hasCell cX1_hasCell 2 (some .boolean) 1) (hR : 0 + 1 ≤ R.frames ∧ 8 + (2 + 11) + 40 * 0 ≤ R.locals) {q0 : Nat} {a1 : Int32} (hq0 : isSh q0) (hF : fX1_hasCell q0 a1 σ = some (r, σ1)) (hls : ls.size = nL) (hW : (rest.map fun v => v.category).sum ≤ 8) (hdg : decode cc pc = .ok (.invokevirtual index, 3)) (kk : ∀ (H1 : Heap) (locs1 : List Loc), kWS E s (cmb σ1 ω) H1 locs1 → (((some .boolean) : Option FieldType) = some .boolean → r = 0 ∨ r = 1) → W p l e R s m args below meth c H1 locs1 cells slots Q (F0 m (pc + 3) ls (.int r :: rest))) (hf : cells ≤ R.cells ∧ slots ≤ R.slots := by exact ⟨Nat.le_of_ble_eq_true rfl, Nat.le_of_ble_eq_true rfl⟩) : W p l e R s m args below meth c H locs cells slots Q (F0 m pc ls (.int a1 :: .ref (ead E q0) :: rest)) := kr_calli (mc := 0) (y := yX1_hasCell) (b := cX1_hasCell) (n := 0) (lv := 0) (As := []) hw (kr_runV (As := [.int a1]) (q := q0) S hw ((mX1_hasCell (l := l) (E := E) (ω := ω) hq0 hF) H.size) cw hR hq0.1 (Nat.lt_trans hq0.2.1 (by decide)) rfl rfl hls _ rfl hW hdg hf) kk
set_option maxHeartbeats 4000000 in
set_option maxRecDepth 100000 in
theorem mX1_spans {l : Launch} {E : kE} {ω σ σ1 : kS} {r : Int32} {q0 : Nat} {a1 : Int32} {a2 : Int32} (hq0 : isSh q0) (hF : fX1_spans q0 a1 a2 σ = some (r, σ1)) : kMetI l yX1_spans cX1_spans 3 (some .boolean) 0 E [.ref (ead E q0), .int a1, .int a2] (cmb σ ω) r (cmb σ1 ω) := by
  refine kMetI.of (by decide +kernel) (Nat.le_of_ble_eq_true rfl) (Or.inr rfl) ?_
  intro p e s m args below meth c Q ls S hR hw hl
  have hl : lv_has ls 3 [(0, .ref (ead E q0)), (1, .int a1), (2, .int a2)] := hl
  unfold fX1_spans at hF
  refine lv_iload_n S.1 S.2.1 dX1_spans_0 rfl (lv_at hl 1 rfl) ?_
  refine lv_if_lt (tgt := 30) S.1 S.2.1 dX1_spans_1 (by decide) (fun c1 => ?_) (fun c1 => ?_)
  · replace hF := kit hF c1
    refine lv_iconst (v := 0) S.1 S.2.1 dX1_spans_30 (by decide) ?_
    obtain ⟨rfl, rfl⟩ := kret hF
    exact hR _ _ _ _ dX1_spans_31 hw (fun _ => (Or.inl rfl))
  · replace hF := kif hF c1
    refine lv_iload_n S.1 S.2.1 dX1_spans_4 rfl (lv_at hl 1 rfl) ?_
    refine lv_aload_n S.1 S.2.1 dX1_spans_5 rfl (lv_at hl 0 rfl) ?_
    refine gf_X1_23 S hw hq0.1 hq0.2.1 rfl dX1_spans_6 ?_
    refine lv_icmp_gt (tgt := 30) S.1 S.2.1 dX1_spans_9 (by decide) (fun c2 => ?_) (fun c2 => ?_)
    · replace hF := kit hF c2
      refine lv_iconst (v := 0) S.1 S.2.1 dX1_spans_30 (by decide) ?_
      obtain ⟨rfl, rfl⟩ := kret hF
      exact hR _ _ _ _ dX1_spans_31 hw (fun _ => (Or.inl rfl))
    · replace hF := kif hF c2
      refine lv_iload_n S.1 S.2.1 dX1_spans_12 rfl (lv_at hl 2 rfl) ?_
      refine lv_if_lt (tgt := 30) S.1 S.2.1 dX1_spans_13 (by decide) (fun c3 => ?_) (fun c3 => ?_)
      · replace hF := kit hF c3
        refine lv_iconst (v := 0) S.1 S.2.1 dX1_spans_30 (by decide) ?_
        obtain ⟨rfl, rfl⟩ := kret hF
        exact hR _ _ _ _ dX1_spans_31 hw (fun _ => (Or.inl rfl))
      · replace hF := kif hF c3
        refine lv_iload_n S.1 S.2.1 dX1_spans_16 rfl (lv_at hl 2 rfl) ?_
        refine lv_aload_n S.1 S.2.1 dX1_spans_17 rfl (lv_at hl 0 rfl) ?_
        refine gf_X1_23 S hw hq0.1 hq0.2.1 rfl dX1_spans_18 ?_
        refine lv_iload_n S.1 S.2.1 dX1_spans_21 rfl (lv_at hl 1 rfl) ?_
        refine lv_isub S.1 S.2.1 dX1_spans_22 ?_
        refine lv_icmp_gt (tgt := 30) S.1 S.2.1 dX1_spans_23 (by decide) (fun c4 => ?_) (fun c4 => ?_)
        · replace hF := kit hF c4
          refine lv_iconst (v := 0) S.1 S.2.1 dX1_spans_30 (by decide) ?_
          obtain ⟨rfl, rfl⟩ := kret hF
          exact hR _ _ _ _ dX1_spans_31 hw (fun _ => (Or.inl rfl))
        · replace hF := kif hF c4
          refine lv_iconst (v := 1) S.1 S.2.1 dX1_spans_26 (by decide) ?_
          refine lv_goto (tgt := 31) S.1 S.2.1 dX1_spans_27 (by decide) ?_
          obtain ⟨rfl, rfl⟩ := kret hF
          exact hR _ _ _ _ dX1_spans_31 hw (fun _ => (Or.inr rfl))
set_option maxRecDepth 100000 in
theorem kcX1_spans {p : Program} {l : Launch} {e : Env} {R : Room} {s : State} {m : MethodId} {args : Array Value} {below : List Frame} {meth : Method} {c : Code} {H : Heap} {locs : List Loc} {cells slots : Nat} {Q : State → Prop} {cc : ByteArray} {pc : Nat} {ls : Array Slot} {rest : List Value} {E : kE} {σ ω σ1 : kS} {nL index : Nat} {own : String} {r : Int32} (S : CallFix p m c cc nL s args kBIG own) (hw : kWS E s (cmb σ ω) H locs) (cw : kV own RX1 index yX1_spans cX1_spans 3 (some .boolean) 2) (hR : 0 + 1 ≤ R.frames ∧ 8 + (3 + 11) + 40 * 0 ≤ R.locals) {q0 : Nat} {a1 : Int32} {a2 : Int32} (hq0 : isSh q0) (hF : fX1_spans q0 a1 a2 σ = some (r, σ1)) (hls : ls.size = nL) (hW : (rest.map fun v => v.category).sum ≤ 8) (hdg : decode cc pc = .ok (.invokevirtual index, 3)) (kk : ∀ (H1 : Heap) (locs1 : List Loc), kWS E s (cmb σ1 ω) H1 locs1 → (((some .boolean) : Option FieldType) = some .boolean → r = 0 ∨ r = 1) → W p l e R s m args below meth c H1 locs1 cells slots Q (F0 m (pc + 3) ls (.int r :: rest))) (hf : cells ≤ R.cells ∧ slots ≤ R.slots := by exact ⟨Nat.le_of_ble_eq_true rfl, Nat.le_of_ble_eq_true rfl⟩) : W p l e R s m args below meth c H locs cells slots Q (F0 m pc ls (.int a2 :: .int a1 :: .ref (ead E q0) :: rest)) := kr_calli (mc := 0) (y := yX1_spans) (b := cX1_spans) (n := 0) (lv := 0) (As := []) hw (kr_runV (As := [.int a1, .int a2]) (q := q0) S hw ((mX1_spans (l := l) (E := E) (ω := ω) hq0 hF) H.size) cw hR hq0.1 (Nat.lt_trans hq0.2.1 (by decide)) rfl rfl hls _ rfl hW hdg hf) kk
set_option maxHeartbeats 4000000 in
set_option maxRecDepth 100000 in
theorem mX1_write {l : Launch} {E : kE} {ω σ σ1 : kS} {q0 : Nat} {a1 : Int32} {a2 : Int32} (hq0 : isSh q0) (hF : fX1_write q0 a1 a2 σ = some σ1) : kMetV l yX1_write cX1_write 3 0 E [.ref (ead E q0), .int a1, .int a2] (cmb σ ω) (cmb σ1 ω) := by
  refine kMetV.of (by decide +kernel) (Nat.le_of_ble_eq_true rfl) ?_
  intro p e s m args below meth c Q ls S hR hw hl
  have hl : lv_has ls 3 [(0, .ref (ead E q0)), (1, .int a1), (2, .int a2)] := hl
  unfold fX1_write at hF
  refine lv_aload_n S.1 S.2.1 dX1_write_0 rfl (lv_at hl 0 rfl) ?_
  refine gf_X1_19 S hw hq0.1 hq0.2.1 rfl dX1_write_1 ?_
  refine lv_if_ne (tgt := 18) S.1 S.2.1 dX1_write_4 (by decide) (fun c1 => ?_) (fun c1 => ?_)
  · replace hF := kif hF c1
    refine lv_aload_n S.1 S.2.1 dX1_write_18 rfl (lv_at hl 0 rfl) ?_
    refine gf_X1_19 S hw hq0.1 hq0.2.1 rfl dX1_write_19 ?_
    refine lv_iconst (v := 1) S.1 S.2.1 dX1_write_22 (by decide) ?_
    refine lv_icmp_ne (tgt := 37) S.1 S.2.1 dX1_write_23 (by decide) (fun c2 => ?_) (fun c2 => ?_)
    · replace hF := kif hF c2
      refine lv_aload_n S.1 S.2.1 dX1_write_37 rfl (lv_at hl 0 rfl) ?_
      refine gf_X1_9 S hw hq0.1 hq0.2.1 rfl dX1_write_38 ?_
      refine lv_iload_n S.1 S.2.1 dX1_write_41 rfl (lv_at hl 1 rfl) ?_
      refine lv_iload_n S.1 S.2.1 dX1_write_42 rfl (lv_at hl 2 rfl) ?_
      obtain ⟨hb3, hF⟩ := kin hF
      refine kx_iast (q := q0 + 4) S hw hq0.2.2.1 hq0.2.2.2 hb3 dX1_write_43 (fun H locs hw => ?_)
      cases kre hF
      exact hR _ _ _ _ dX1_write_44 hw
    · replace hF := kit hF c2
      refine lv_aload_n S.1 S.2.1 dX1_write_26 rfl (lv_at hl 0 rfl) ?_
      refine gf_X1_9 S hw hq0.1 hq0.2.1 rfl dX1_write_27 ?_
      refine lv_iload_n S.1 S.2.1 dX1_write_30 rfl (lv_at hl 1 rfl) ?_
      refine lv_iload_n S.1 S.2.1 dX1_write_31 rfl (lv_at hl 2 rfl) ?_
      refine lv_i2s S.1 S.2.1 dX1_write_32 rfl ?_
      obtain ⟨hb4, hF⟩ := kin hF
      refine kx_iast (q := q0 + 4) S hw hq0.2.2.1 hq0.2.2.2 hb4 dX1_write_33 (fun H locs hw => ?_)
      refine lv_goto (tgt := 44) S.1 S.2.1 dX1_write_34 (by decide) ?_
      cases kre hF
      exact hR _ _ _ _ dX1_write_44 hw
  · replace hF := kit hF c1
    refine lv_aload_n S.1 S.2.1 dX1_write_7 rfl (lv_at hl 0 rfl) ?_
    refine gf_X1_9 S hw hq0.1 hq0.2.1 rfl dX1_write_8 ?_
    refine lv_iload_n S.1 S.2.1 dX1_write_11 rfl (lv_at hl 1 rfl) ?_
    refine lv_iload_n S.1 S.2.1 dX1_write_12 rfl (lv_at hl 2 rfl) ?_
    refine lv_i2b S.1 S.2.1 dX1_write_13 rfl ?_
    obtain ⟨hb5, hF⟩ := kin hF
    refine kx_iast (q := q0 + 4) S hw hq0.2.2.1 hq0.2.2.2 hb5 dX1_write_14 (fun H locs hw => ?_)
    refine lv_goto (tgt := 44) S.1 S.2.1 dX1_write_15 (by decide) ?_
    cases kre hF
    exact hR _ _ _ _ dX1_write_44 hw
set_option maxRecDepth 100000 in
theorem kcX1_write {p : Program} {l : Launch} {e : Env} {R : Room} {s : State} {m : MethodId} {args : Array Value} {below : List Frame} {meth : Method} {c : Code} {H : Heap} {locs : List Loc} {cells slots : Nat} {Q : State → Prop} {cc : ByteArray} {pc : Nat} {ls : Array Slot} {rest : List Value} {E : kE} {σ ω σ1 : kS} {nL index : Nat} {own : String} (S : CallFix p m c cc nL s args kBIG own) (hw : kWS E s (cmb σ ω) H locs) (cw : kV own RX1 index yX1_write cX1_write 3 none 2) (hR : 0 + 1 ≤ R.frames ∧ 8 + (3 + 11) + 40 * 0 ≤ R.locals) {q0 : Nat} {a1 : Int32} {a2 : Int32} (hq0 : isSh q0) (hF : fX1_write q0 a1 a2 σ = some σ1) (hls : ls.size = nL) (hW : (rest.map fun v => v.category).sum ≤ 8) (hdg : decode cc pc = .ok (.invokevirtual index, 3)) (kk : ∀ (H1 : Heap) (locs1 : List Loc), kWS E s (cmb σ1 ω) H1 locs1 → W p l e R s m args below meth c H1 locs1 cells slots Q (F0 m (pc + 3) ls rest)) (hf : cells ≤ R.cells ∧ slots ≤ R.slots := by exact ⟨Nat.le_of_ble_eq_true rfl, Nat.le_of_ble_eq_true rfl⟩) : W p l e R s m args below meth c H locs cells slots Q (F0 m pc ls (.int a2 :: .int a1 :: .ref (ead E q0) :: rest)) := kr_callv hw (kr_runV (As := [.int a1, .int a2]) (q := q0) S hw ((mX1_write (l := l) (E := E) (ω := ω) hq0 hF) H.size) cw hR hq0.1 (Nat.lt_trans hq0.2.1 (by decide)) rfl rfl hls _ rfl hW hdg hf) kk
set_option maxHeartbeats 4000000 in
set_option maxRecDepth 100000 in
theorem mX2_clear {l : Launch} {E : kE} {ω σ σ1 : kS}   (hF : fX2_clear σ = some σ1) : kMetV l yX2_clear cX2_clear 1 0 E [.ref (ead E 20)] (cmb σ ω) (cmb σ1 ω) := by
  refine kMetV.of (by decide +kernel) (Nat.le_of_ble_eq_true rfl) ?_
  intro p e s m args below meth c Q ls S hR hw hl
  have hl : lv_has ls 1 [(0, .ref (ead E 20))] := hl
  unfold fX2_clear at hF
  refine lv_aload_n S.1 S.2.1 dX2_clear_0 rfl (lv_at hl 0 rfl) ?_
  refine lv_iconst (v := 0) S.1 S.2.1 dX2_clear_1 (by decide) ?_
  refine pf_X2_9 (q := 20) S hw rfl (Nat.le_of_ble_eq_true rfl) rfl dX2_clear_2 (fun H locs hw => ?_)
  refine lv_aload_n S.1 S.2.1 dX2_clear_5 rfl (lv_at hl 0 rfl) ?_
  refine lv_bipush (v := (-9)) S.1 S.2.1 dX2_clear_6 (by decide) ?_
  refine pf_X2_15 (q := 20) S hw rfl (Nat.le_of_ble_eq_true rfl) rfl dX2_clear_8 (fun H locs hw => ?_)
  refine lv_aload_n S.1 S.2.1 dX2_clear_11 rfl (lv_at hl 0 rfl) ?_
  refine lv_iconst (v := 0) S.1 S.2.1 dX2_clear_12 (by decide) ?_
  refine pf_X2_18 (q := 20) S hw rfl (Nat.le_of_ble_eq_true rfl) rfl dX2_clear_13 (fun H locs hw => ?_)
  refine lv_aload_n S.1 S.2.1 dX2_clear_16 rfl (lv_at hl 0 rfl) ?_
  refine lv_iconst (v := 0) S.1 S.2.1 dX2_clear_17 (by decide) ?_
  refine pf_X2_21 (q := 20) S hw rfl (Nat.le_of_ble_eq_true rfl) rfl dX2_clear_18 (fun H locs hw => ?_)
  cases kre hF
  exact hR _ _ _ _ dX2_clear_21 hw
set_option maxRecDepth 100000 in
theorem kcX2_clear {p : Program} {l : Launch} {e : Env} {R : Room} {s : State} {m : MethodId} {args : Array Value} {below : List Frame} {meth : Method} {c : Code} {H : Heap} {locs : List Loc} {cells slots : Nat} {Q : State → Prop} {cc : ByteArray} {pc : Nat} {ls : Array Slot} {rest : List Value} {E : kE} {σ ω σ1 : kS} {nL index : Nat} {own : String} (S : CallFix p m c cc nL s args kBIG own) (hw : kWS E s (cmb σ ω) H locs) (cw : kV own RX2 index yX2_clear cX2_clear 1 none 0) (hR : 0 + 1 ≤ R.frames ∧ 8 + (1 + 11) + 40 * 0 ≤ R.locals)   (hF : fX2_clear σ = some σ1) (hls : ls.size = nL) (hW : (rest.map fun v => v.category).sum ≤ 8) (hdg : decode cc pc = .ok (.invokevirtual index, 3)) (kk : ∀ (H1 : Heap) (locs1 : List Loc), kWS E s (cmb σ1 ω) H1 locs1 → W p l e R s m args below meth c H1 locs1 cells slots Q (F0 m (pc + 3) ls rest)) (hf : cells ≤ R.cells ∧ slots ≤ R.slots := by exact ⟨Nat.le_of_ble_eq_true rfl, Nat.le_of_ble_eq_true rfl⟩) : W p l e R s m args below meth c H locs cells slots Q (F0 m pc ls (.ref (ead E 20) :: rest)) := kr_callv hw (kr_runV (As := []) (q := 20) S hw ((mX2_clear (l := l) (E := E) (ω := ω) hF) H.size) cw hR rfl (by decide) rfl rfl hls _ rfl hW hdg hf) kk
set_option maxHeartbeats 4000000 in
set_option maxRecDepth 100000 in
theorem wX2_add_J32 {p : Program} {l : Launch} {e : Env} {s : State} {m : MethodId} {args : Array Value} {below : List Frame} {meth : Method} {c : Code} {Q : State → Prop} {E : kE} {ω σ1 : kS} (S : CallFix p m c cX2_add 4 s args kBIG RX2) (hR : kRetV p l e (rml 1) s m args below meth c cX2_add E Q (cmb σ1 ω))  : ∀ (a3 : Int32) (σ : kS) (H : Heap) (locs : List Loc) (ls : Array Slot), fX2_add_J32 a3 σ = some σ1 → kWS E s (cmb σ ω) H locs → lv_has ls 4 [(0, .ref (ead E 20)), (3, .int a3)] → W p l e (rml 1) s m args below meth c H locs 0 0 Q (F0 m 32 ls []) := by
  intro a3 σ H locs ls hF hw hl
  unfold fX2_add_J32 at hF
  refine lv_iload_n S.1 S.2.1 dX2_add_32 rfl (lv_at hl 1 rfl) ?_
  refine lv_bipush (v := (-9)) S.1 S.2.1 dX2_add_33 (by decide) ?_
  refine lv_icmp_ne (tgt := 48) S.1 S.2.1 dX2_add_35 (by decide) (fun c3 => ?_) (fun c3 => ?_)
  · replace hF := kif hF c3
    refine lv_aload_n S.1 S.2.1 dX2_add_48 rfl (lv_at hl 0 rfl) ?_
    refine lv_aload_n S.1 S.2.1 dX2_add_49 rfl (lv_at hl 0 rfl) ?_
    refine gf_X2_18 (q := 20) S hw rfl (Nat.le_of_ble_eq_true rfl) rfl dX2_add_50 ?_
    refine lv_iload_n S.1 S.2.1 dX2_add_53 rfl (lv_at hl 1 rfl) ?_
    obtain ⟨r6, σ5, e4, hF⟩ := kbi_e hF
    refine kcNX4_withOne S hw hw.2.2.2.2.2.1 cv_X2_24 ⟨Nat.le_of_ble_eq_true rfl, Nat.le_of_ble_eq_true rfl⟩ e4 hl.1 (Nat.le_of_ble_eq_true rfl) dX2_add_54 (fun H locs hw => ?_)
    refine pf_X2_18 (q := 20) S hw rfl (Nat.le_of_ble_eq_true rfl) rfl dX2_add_57 (fun H locs hw => ?_)
    cases kre hF
    exact hR _ _ _ _ dX2_add_60 hw
  · replace hF := kit hF c3
    refine lv_aload_n S.1 S.2.1 dX2_add_38 rfl (lv_at hl 0 rfl) ?_
    refine lv_dup S.1 S.2.1 dX2_add_39 rfl ?_
    refine gf_X2_21 (q := 20) S hw rfl (Nat.le_of_ble_eq_true rfl) rfl dX2_add_40 ?_
    refine lv_iconst (v := 1) S.1 S.2.1 dX2_add_43 (by decide) ?_
    refine lv_iadd S.1 S.2.1 dX2_add_44 ?_
    refine pf_X2_21 (q := 20) S hw rfl (Nat.le_of_ble_eq_true rfl) rfl dX2_add_45 (fun H locs hw => ?_)
    refine lv_aload_n S.1 S.2.1 dX2_add_48 rfl (lv_at hl 0 rfl) ?_
    refine lv_aload_n S.1 S.2.1 dX2_add_49 rfl (lv_at hl 0 rfl) ?_
    refine gf_X2_18 (q := 20) S hw rfl (Nat.le_of_ble_eq_true rfl) rfl dX2_add_50 ?_
    refine lv_iload_n S.1 S.2.1 dX2_add_53 rfl (lv_at hl 1 rfl) ?_
    obtain ⟨r9, σ8, e7, hF⟩ := kbi_e hF
    refine kcNX4_withOne S hw hw.2.2.2.2.2.1 cv_X2_24 ⟨Nat.le_of_ble_eq_true rfl, Nat.le_of_ble_eq_true rfl⟩ e7 hl.1 (Nat.le_of_ble_eq_true rfl) dX2_add_54 (fun H locs hw => ?_)
    refine pf_X2_18 (q := 20) S hw rfl (Nat.le_of_ble_eq_true rfl) rfl dX2_add_57 (fun H locs hw => ?_)
    cases kre hF
    exact hR _ _ _ _ dX2_add_60 hw
set_option maxHeartbeats 4000000 in
set_option maxRecDepth 100000 in
theorem mX2_add {l : Launch} {E : kE} {ω σ σ1 : kS} {a1 : Int32} {a2 : Int32} {a3 : Int32}  (hF : fX2_add a1 a2 a3 σ = some σ1) : kMetV l yX2_add cX2_add 4 1 E [.ref (ead E 20), .int a1, .int a2, .int a3] (cmb σ ω) (cmb σ1 ω) := by
  refine kMetV.of (by decide +kernel) (Nat.le_of_ble_eq_true rfl) ?_
  intro p e s m args below meth c Q ls S hR hw hl
  have hl : lv_has ls 4 [(0, .ref (ead E 20)), (1, .int a1), (2, .int a2), (3, .int a3)] := hl
  unfold fX2_add at hF
  refine lv_iload_n S.1 S.2.1 dX2_add_0 rfl (lv_at hl 3 rfl) ?_
  refine lv_iload_n S.1 S.2.1 dX2_add_1 rfl (lv_at hl 2 rfl) ?_
  refine lv_icmp_ne (tgt := 18) S.1 S.2.1 dX2_add_2 (by decide) (fun c1 => ?_) (fun c1 => ?_)
  · replace hF := kif hF c1
    refine lv_aload_n S.1 S.2.1 dX2_add_18 rfl (lv_at hl 0 rfl) ?_
    refine gf_X2_15 (q := 20) S hw rfl (Nat.le_of_ble_eq_true rfl) rfl dX2_add_19 ?_
    refine lv_bipush (v := (-9)) S.1 S.2.1 dX2_add_22 (by decide) ?_
    refine lv_icmp_ne (tgt := 32) S.1 S.2.1 dX2_add_24 (by decide) (fun c2 => ?_) (fun c2 => ?_)
    · replace hF := kif hF c2
      exact wX2_add_J32 S hR a3 _ _ _ _ hF hw (lv_sub hl [0, 3] rfl)
    · replace hF := kit hF c2
      refine lv_aload_n S.1 S.2.1 dX2_add_27 rfl (lv_at hl 0 rfl) ?_
      refine lv_iload_n S.1 S.2.1 dX2_add_28 rfl (lv_at hl 1 rfl) ?_
      refine pf_X2_15 (q := 20) S hw rfl (Nat.le_of_ble_eq_true rfl) rfl dX2_add_29 (fun H locs hw => ?_)
      exact wX2_add_J32 S hR a3 _ _ _ _ hF hw (lv_sub hl [0, 3] rfl)
  · replace hF := kit hF c1
    refine lv_aload_n S.1 S.2.1 dX2_add_5 rfl (lv_at hl 0 rfl) ?_
    refine lv_dup S.1 S.2.1 dX2_add_6 rfl ?_
    refine gf_X2_9 (q := 20) S hw rfl (Nat.le_of_ble_eq_true rfl) rfl dX2_add_7 ?_
    refine lv_iconst (v := 1) S.1 S.2.1 dX2_add_10 (by decide) ?_
    refine lv_iadd S.1 S.2.1 dX2_add_11 ?_
    refine pf_X2_9 (q := 20) S hw rfl (Nat.le_of_ble_eq_true rfl) rfl dX2_add_12 (fun H locs hw => ?_)
    refine lv_goto (tgt := 32) S.1 S.2.1 dX2_add_15 (by decide) ?_
    exact wX2_add_J32 S hR a3 _ _ _ _ hF hw (lv_sub hl [0, 3] rfl)
set_option maxRecDepth 100000 in
theorem kcX2_add {p : Program} {l : Launch} {e : Env} {R : Room} {s : State} {m : MethodId} {args : Array Value} {below : List Frame} {meth : Method} {c : Code} {H : Heap} {locs : List Loc} {cells slots : Nat} {Q : State → Prop} {cc : ByteArray} {pc : Nat} {ls : Array Slot} {rest : List Value} {E : kE} {σ ω σ1 : kS} {nL index : Nat} {own : String} (S : CallFix p m c cc nL s args kBIG own) (hw : kWS E s (cmb σ ω) H locs) (cw : kV own RX2 index yX2_add cX2_add 4 none 3) (hR : 1 + 1 ≤ R.frames ∧ 8 + (4 + 11) + 40 * 1 ≤ R.locals) {a1 : Int32} {a2 : Int32} {a3 : Int32}  (hF : fX2_add a1 a2 a3 σ = some σ1) (hls : ls.size = nL) (hW : (rest.map fun v => v.category).sum ≤ 8) (hdg : decode cc pc = .ok (.invokevirtual index, 3)) (kk : ∀ (H1 : Heap) (locs1 : List Loc), kWS E s (cmb σ1 ω) H1 locs1 → W p l e R s m args below meth c H1 locs1 cells slots Q (F0 m (pc + 3) ls rest)) (hf : cells ≤ R.cells ∧ slots ≤ R.slots := by exact ⟨Nat.le_of_ble_eq_true rfl, Nat.le_of_ble_eq_true rfl⟩) : W p l e R s m args below meth c H locs cells slots Q (F0 m pc ls (.int a3 :: .int a2 :: .int a1 :: .ref (ead E 20) :: rest)) := kr_callv hw (kr_runV (As := [.int a1, .int a2, .int a3]) (q := 20) S hw ((mX2_add (l := l) (E := E) (ω := ω) hF) H.size) cw hR rfl (by decide) rfl rfl hls _ rfl hW hdg hf) kk
set_option maxHeartbeats 4000000 in
set_option maxRecDepth 100000 in
theorem mX4_isBelow {l : Launch} {E : kE} {ω σ σ1 : kS} {r : Int32} {a0 : Int32} {a1 : Int32}  (hF : fX4_isBelow a0 a1 σ = some (r, σ1)) : kMetI l yX4_isBelow cX4_isBelow 2 (some .boolean) 0 E [.int a0, .int a1] (cmb σ ω) r (cmb σ1 ω) := by
  refine kMetI.of (by decide +kernel) (Nat.le_of_ble_eq_true rfl) (Or.inr rfl) ?_
  intro p e s m args below meth c Q ls S hR hw hl
  have hl : lv_has ls 2 [(0, .int a0), (1, .int a1)] := hl
  unfold fX4_isBelow at hF
  refine lv_iload_n S.1 S.2.1 dX4_isBelow_0 rfl (lv_at hl 0 rfl) ?_
  refine lv_if_lt (tgt := 13) S.1 S.2.1 dX4_isBelow_1 (by decide) (fun c1 => ?_) (fun c1 => ?_)
  · replace hF := kit hF c1
    refine lv_iconst (v := 0) S.1 S.2.1 dX4_isBelow_13 (by decide) ?_
    obtain ⟨rfl, rfl⟩ := kret hF
    exact hR _ _ _ _ dX4_isBelow_14 hw (fun _ => (Or.inl rfl))
  · replace hF := kif hF c1
    refine lv_iload_n S.1 S.2.1 dX4_isBelow_4 rfl (lv_at hl 0 rfl) ?_
    refine lv_iload_n S.1 S.2.1 dX4_isBelow_5 rfl (lv_at hl 1 rfl) ?_
    refine lv_icmp_ge (tgt := 13) S.1 S.2.1 dX4_isBelow_6 (by decide) (fun c2 => ?_) (fun c2 => ?_)
    · replace hF := kit hF c2
      refine lv_iconst (v := 0) S.1 S.2.1 dX4_isBelow_13 (by decide) ?_
      obtain ⟨rfl, rfl⟩ := kret hF
      exact hR _ _ _ _ dX4_isBelow_14 hw (fun _ => (Or.inl rfl))
    · replace hF := kif hF c2
      refine lv_iconst (v := 1) S.1 S.2.1 dX4_isBelow_9 (by decide) ?_
      refine lv_goto (tgt := 14) S.1 S.2.1 dX4_isBelow_10 (by decide) ?_
      obtain ⟨rfl, rfl⟩ := kret hF
      exact hR _ _ _ _ dX4_isBelow_14 hw (fun _ => (Or.inr rfl))
set_option maxRecDepth 100000 in
theorem kcX4_isBelow {p : Program} {l : Launch} {e : Env} {R : Room} {s : State} {m : MethodId} {args : Array Value} {below : List Frame} {meth : Method} {c : Code} {H : Heap} {locs : List Loc} {cells slots : Nat} {Q : State → Prop} {cc : ByteArray} {pc : Nat} {ls : Array Slot} {rest : List Value} {E : kE} {σ ω σ1 : kS} {nL index : Nat} {own : String} {r : Int32} (S : CallFix p m c cc nL s args kBIG own) (hw : kWS E s (cmb σ ω) H locs) (cw : kSt own index yX4_isBelow cX4_isBelow 2 (some .boolean) 2) (hR : 0 + 1 ≤ R.frames ∧ 8 + (2 + 11) + 40 * 0 ≤ R.locals) {a0 : Int32} {a1 : Int32}  (hF : fX4_isBelow a0 a1 σ = some (r, σ1)) (hls : ls.size = nL) (hW : (rest.map fun v => v.category).sum ≤ 8) (hdg : decode cc pc = .ok (.invokestatic index, 3)) (kk : ∀ (H1 : Heap) (locs1 : List Loc), kWS E s (cmb σ1 ω) H1 locs1 → (((some .boolean) : Option FieldType) = some .boolean → r = 0 ∨ r = 1) → W p l e R s m args below meth c H1 locs1 cells slots Q (F0 m (pc + 3) ls (.int r :: rest))) (hf : cells ≤ R.cells ∧ slots ≤ R.slots := by exact ⟨Nat.le_of_ble_eq_true rfl, Nat.le_of_ble_eq_true rfl⟩) : W p l e R s m args below meth c H locs cells slots Q (F0 m pc ls (.int a1 :: .int a0 :: rest)) := kr_calli (mc := 0) (y := yX4_isBelow) (b := cX4_isBelow) (n := 0) (lv := 0) (As := []) hw (kr_runS (As := [.int a0, .int a1]) S hw ((mX4_isBelow (l := l) (E := E) (ω := ω) hF) H.size) cw hR rfl hls _ rfl hW hdg hf) kk
set_option maxRecDepth 100000 in
theorem kcNX4_isBelow {p : Program} {l : Launch} {e : Env} {R : Room} {s : State} {m : MethodId} {args : Array Value} {below : List Frame} {meth : Method} {c : Code} {H : Heap} {locs : List Loc} {cells slots : Nat} {Q : State → Prop} {cc : ByteArray} {pc : Nat} {ls : Array Slot} {rest : List Value} {E : kE} {σ ω σ1 : kS} {nL index : Nat} {own : String} {r : Int32} (S : CallFix p m c cc nL s args kBIG own) (hw : kWS E s (cmb σ ω) H locs) {host : String} (hn : va_Nw (.methodLinkNest own index yX4_isBelow host) s) (cw : kNs yX4_isBelow cX4_isBelow 2 (some .boolean) 2) (hR : 0 + 1 ≤ R.frames ∧ 8 + (2 + 11) + 40 * 0 ≤ R.locals) {a0 : Int32} {a1 : Int32}  (hF : fX4_isBelow a0 a1 σ = some (r, σ1)) (hls : ls.size = nL) (hW : (rest.map fun v => v.category).sum ≤ 8) (hdg : decode cc pc = .ok (.invokestatic index, 3)) (kk : ∀ (H1 : Heap) (locs1 : List Loc), kWS E s (cmb σ1 ω) H1 locs1 → (((some .boolean) : Option FieldType) = some .boolean → r = 0 ∨ r = 1) → W p l e R s m args below meth c H1 locs1 cells slots Q (F0 m (pc + 3) ls (.int r :: rest))) (hf : cells ≤ R.cells ∧ slots ≤ R.slots := by exact ⟨Nat.le_of_ble_eq_true rfl, Nat.le_of_ble_eq_true rfl⟩) : W p l e R s m args below meth c H locs cells slots Q (F0 m pc ls (.int a1 :: .int a0 :: rest)) := kr_calli (mc := 0) (y := yX4_isBelow) (b := cX4_isBelow) (n := 0) (lv := 0) (As := []) hw (kr_runN (As := [.int a0, .int a1]) S hw hn ((mX4_isBelow (l := l) (E := E) (ω := ω) hF) H.size) cw hR rfl hls _ rfl hW hdg hf) kk
set_option maxHeartbeats 4000000 in
set_option maxRecDepth 100000 in
theorem mX3_isDigitBelow {l : Launch} {E : kE} {ω σ σ1 : kS} {r : Int32} {a0 : Int32} {a1 : Int32}  (hF : fX3_isDigitBelow a0 a1 σ = some (r, σ1)) : kMetI l yX3_isDigitBelow cX3_isDigitBelow 2 (some .boolean) 1 E [.int a0, .int a1] (cmb σ ω) r (cmb σ1 ω) := by
  refine kMetI.of (by decide +kernel) (Nat.le_of_ble_eq_true rfl) (Or.inr rfl) ?_
  intro p e s m args below meth c Q ls S hR hw hl
  have hl : lv_has ls 2 [(0, .int a0), (1, .int a1)] := hl
  unfold fX3_isDigitBelow at hF
  refine lv_iload_n S.1 S.2.1 dX3_isDigitBelow_0 rfl (lv_at hl 0 rfl) ?_
  refine lv_bipush (v := 48) S.1 S.2.1 dX3_isDigitBelow_1 (by decide) ?_
  refine lv_isub S.1 S.2.1 dX3_isDigitBelow_3 ?_
  refine lv_iload_n S.1 S.2.1 dX3_isDigitBelow_4 rfl (lv_at hl 1 rfl) ?_
  obtain ⟨r3, σ2, e1, hF⟩ := kbi_e hF
  refine kcNX4_isBelow S hw hw.2.2.2.2.2.2 cv_X3_18 ⟨Nat.le_of_ble_eq_true rfl, Nat.le_of_ble_eq_true rfl⟩ e1 hl.1 (Nat.le_of_ble_eq_true rfl) dX3_isDigitBelow_5 (fun H locs hw hz4 => ?_)
  obtain ⟨rfl, rfl⟩ := kret hF
  exact hR _ _ _ _ dX3_isDigitBelow_8 hw (fun _ => (hz4 rfl))
set_option maxRecDepth 100000 in
theorem kcX3_isDigitBelow {p : Program} {l : Launch} {e : Env} {R : Room} {s : State} {m : MethodId} {args : Array Value} {below : List Frame} {meth : Method} {c : Code} {H : Heap} {locs : List Loc} {cells slots : Nat} {Q : State → Prop} {cc : ByteArray} {pc : Nat} {ls : Array Slot} {rest : List Value} {E : kE} {σ ω σ1 : kS} {nL index : Nat} {own : String} {r : Int32} (S : CallFix p m c cc nL s args kBIG own) (hw : kWS E s (cmb σ ω) H locs) (cw : kSt own index yX3_isDigitBelow cX3_isDigitBelow 2 (some .boolean) 2) (hR : 1 + 1 ≤ R.frames ∧ 8 + (2 + 11) + 40 * 1 ≤ R.locals) {a0 : Int32} {a1 : Int32}  (hF : fX3_isDigitBelow a0 a1 σ = some (r, σ1)) (hls : ls.size = nL) (hW : (rest.map fun v => v.category).sum ≤ 8) (hdg : decode cc pc = .ok (.invokestatic index, 3)) (kk : ∀ (H1 : Heap) (locs1 : List Loc), kWS E s (cmb σ1 ω) H1 locs1 → (((some .boolean) : Option FieldType) = some .boolean → r = 0 ∨ r = 1) → W p l e R s m args below meth c H1 locs1 cells slots Q (F0 m (pc + 3) ls (.int r :: rest))) (hf : cells ≤ R.cells ∧ slots ≤ R.slots := by exact ⟨Nat.le_of_ble_eq_true rfl, Nat.le_of_ble_eq_true rfl⟩) : W p l e R s m args below meth c H locs cells slots Q (F0 m pc ls (.int a1 :: .int a0 :: rest)) := kr_calli (mc := 0) (y := yX3_isDigitBelow) (b := cX3_isDigitBelow) (n := 0) (lv := 0) (As := []) hw (kr_runS (As := [.int a0, .int a1]) S hw ((mX3_isDigitBelow (l := l) (E := E) (ω := ω) hF) H.size) cw hR rfl hls _ rfl hW hdg hf) kk
set_option maxHeartbeats 4000000 in
set_option maxRecDepth 100000 in
theorem mX3_goesOnWith {l : Launch} {E : kE} {ω σ σ1 : kS} {r : Int32} {a0 : Int32} {a1 : Int32}  (hF : fX3_goesOnWith a0 a1 σ = some (r, σ1)) : kMetI l yX3_goesOnWith cX3_goesOnWith 2 (some .boolean) 2 E [.int a0, .int a1] (cmb σ ω) r (cmb σ1 ω) := by
  refine kMetI.of (by decide +kernel) (Nat.le_of_ble_eq_true rfl) (Or.inr rfl) ?_
  intro p e s m args below meth c Q ls S hR hw hl
  have hl : lv_has ls 2 [(0, .int a0), (1, .int a1)] := hl
  unfold fX3_goesOnWith at hF
  refine lv_iload_n S.1 S.2.1 dX3_goesOnWith_0 rfl (lv_at hl 0 rfl) ?_
  refine lv_bipush (v := 33) S.1 S.2.1 dX3_goesOnWith_1 (by decide) ?_
  refine lv_icmp_lt (tgt := 8) S.1 S.2.1 dX3_goesOnWith_3 (by decide) (fun c1 => ?_) (fun c1 => ?_)
  · replace hF := kit hF c1
    refine lv_iload_n S.1 S.2.1 dX3_goesOnWith_8 rfl (lv_at hl 0 rfl) ?_
    refine lv_iconst (v := 3) S.1 S.2.1 dX3_goesOnWith_9 (by decide) ?_
    refine lv_icmp_ge (tgt := 47) S.1 S.2.1 dX3_goesOnWith_10 (by decide) (fun c2 => ?_) (fun c2 => ?_)
    · replace hF := kit hF c2
      refine lv_iload_n S.1 S.2.1 dX3_goesOnWith_47 rfl (lv_at hl 0 rfl) ?_
      refine lv_iconst (v := 3) S.1 S.2.1 dX3_goesOnWith_48 (by decide) ?_
      refine lv_isub S.1 S.2.1 dX3_goesOnWith_49 ?_
      refine lv_iconst (v := 5) S.1 S.2.1 dX3_goesOnWith_50 (by decide) ?_
      refine lv_irem S.1 S.2.1 dX3_goesOnWith_51 (by decide) ?_
      by_cases c3 : ((a0 - 3) - (a0 - 3) / 5 * 5) = 0
      · replace hF := kit hF c3
        refine lv_tableIn (tgt := 88) S.1 S.2.1 dX3_goesOnWith_52 (by rw [c3]; decide) (by rw [c3]; decide) (by rw [c3]; rfl) (by decide) ?_
        refine lv_iload_n S.1 S.2.1 dX3_goesOnWith_88 rfl (lv_at hl 1 rfl) ?_
        refine lv_bipush (v := 59) S.1 S.2.1 dX3_goesOnWith_89 (by decide) ?_
        refine lv_icmp_ne (tgt := 98) S.1 S.2.1 dX3_goesOnWith_91 (by decide) (fun c4 => ?_) (fun c4 => ?_)
        · replace hF := kif hF c4
          refine lv_iconst (v := 0) S.1 S.2.1 dX3_goesOnWith_98 (by decide) ?_
          obtain ⟨rfl, rfl⟩ := kret hF
          exact hR _ _ _ _ dX3_goesOnWith_99 hw (fun _ => (Or.inl rfl))
        · replace hF := kit hF c4
          refine lv_iconst (v := 1) S.1 S.2.1 dX3_goesOnWith_94 (by decide) ?_
          refine lv_goto (tgt := 99) S.1 S.2.1 dX3_goesOnWith_95 (by decide) ?_
          obtain ⟨rfl, rfl⟩ := kret hF
          exact hR _ _ _ _ dX3_goesOnWith_99 hw (fun _ => (Or.inr rfl))
      · replace hF := kif hF c3
        by_cases c5 : ((a0 - 3) - (a0 - 3) / 5 * 5) = 1
        · replace hF := kit hF c5
          refine lv_tableIn (tgt := 100) S.1 S.2.1 dX3_goesOnWith_52 (by rw [c5]; decide) (by rw [c5]; decide) (by rw [c5]; rfl) (by decide) ?_
          refine lv_iload_n S.1 S.2.1 dX3_goesOnWith_100 rfl (lv_at hl 1 rfl) ?_
          refine lv_bipush (v := 112) S.1 S.2.1 dX3_goesOnWith_101 (by decide) ?_
          refine lv_icmp_eq (tgt := 118) S.1 S.2.1 dX3_goesOnWith_103 (by decide) (fun c6 => ?_) (fun c6 => ?_)
          · replace hF := kit hF c6
            refine lv_iconst (v := 1) S.1 S.2.1 dX3_goesOnWith_118 (by decide) ?_
            refine lv_goto (tgt := 123) S.1 S.2.1 dX3_goesOnWith_119 (by decide) ?_
            obtain ⟨rfl, rfl⟩ := kret hF
            exact hR _ _ _ _ dX3_goesOnWith_123 hw (fun _ => (Or.inr rfl))
          · replace hF := kif hF c6
            refine lv_iload_n S.1 S.2.1 dX3_goesOnWith_106 rfl (lv_at hl 1 rfl) ?_
            refine lv_bipush (v := 114) S.1 S.2.1 dX3_goesOnWith_107 (by decide) ?_
            refine lv_icmp_eq (tgt := 118) S.1 S.2.1 dX3_goesOnWith_109 (by decide) (fun c7 => ?_) (fun c7 => ?_)
            · replace hF := kit hF c7
              refine lv_iconst (v := 1) S.1 S.2.1 dX3_goesOnWith_118 (by decide) ?_
              refine lv_goto (tgt := 123) S.1 S.2.1 dX3_goesOnWith_119 (by decide) ?_
              obtain ⟨rfl, rfl⟩ := kret hF
              exact hR _ _ _ _ dX3_goesOnWith_123 hw (fun _ => (Or.inr rfl))
            · replace hF := kif hF c7
              refine lv_iload_n S.1 S.2.1 dX3_goesOnWith_112 rfl (lv_at hl 1 rfl) ?_
              refine lv_bipush (v := 107) S.1 S.2.1 dX3_goesOnWith_113 (by decide) ?_
              refine lv_icmp_ne (tgt := 122) S.1 S.2.1 dX3_goesOnWith_115 (by decide) (fun c8 => ?_) (fun c8 => ?_)
              · replace hF := kif hF c8
                refine lv_iconst (v := 0) S.1 S.2.1 dX3_goesOnWith_122 (by decide) ?_
                obtain ⟨rfl, rfl⟩ := kret hF
                exact hR _ _ _ _ dX3_goesOnWith_123 hw (fun _ => (Or.inl rfl))
              · replace hF := kit hF c8
                refine lv_iconst (v := 1) S.1 S.2.1 dX3_goesOnWith_118 (by decide) ?_
                refine lv_goto (tgt := 123) S.1 S.2.1 dX3_goesOnWith_119 (by decide) ?_
                obtain ⟨rfl, rfl⟩ := kret hF
                exact hR _ _ _ _ dX3_goesOnWith_123 hw (fun _ => (Or.inr rfl))
        · replace hF := kif hF c5
          by_cases c9 : ((a0 - 3) - (a0 - 3) / 5 * 5) = 2
          · replace hF := kit hF c9
            refine lv_tableIn (tgt := 131) S.1 S.2.1 dX3_goesOnWith_52 (by rw [c9]; decide) (by rw [c9]; decide) (by rw [c9]; rfl) (by decide) ?_
            refine lv_iload_n S.1 S.2.1 dX3_goesOnWith_131 rfl (lv_at hl 1 rfl) ?_
            refine lv_bipush (v := 8) S.1 S.2.1 dX3_goesOnWith_132 (by decide) ?_
            obtain ⟨r12, σ11, e10, hF⟩ := kbi_e hF
            refine kcX3_isDigitBelow S hw cv_X3_15 ⟨Nat.le_of_ble_eq_true rfl, Nat.le_of_ble_eq_true rfl⟩ e10 hl.1 (Nat.le_of_ble_eq_true rfl) dX3_goesOnWith_134 (fun H locs hw hz13 => ?_)
            obtain ⟨rfl, rfl⟩ := kret hF
            exact hR _ _ _ _ dX3_goesOnWith_137 hw (fun _ => (hz13 rfl))
          · replace hF := kif hF c9
            by_cases c14 : ((a0 - 3) - (a0 - 3) / 5 * 5) = 3
            · replace hF := kit hF c14
              refine lv_tableIn (tgt := 131) S.1 S.2.1 dX3_goesOnWith_52 (by rw [c14]; decide) (by rw [c14]; decide) (by rw [c14]; rfl) (by decide) ?_
              refine lv_iload_n S.1 S.2.1 dX3_goesOnWith_131 rfl (lv_at hl 1 rfl) ?_
              refine lv_bipush (v := 8) S.1 S.2.1 dX3_goesOnWith_132 (by decide) ?_
              obtain ⟨r17, σ16, e15, hF⟩ := kbi_e hF
              refine kcX3_isDigitBelow S hw cv_X3_15 ⟨Nat.le_of_ble_eq_true rfl, Nat.le_of_ble_eq_true rfl⟩ e15 hl.1 (Nat.le_of_ble_eq_true rfl) dX3_goesOnWith_134 (fun H locs hw hz18 => ?_)
              obtain ⟨rfl, rfl⟩ := kret hF
              exact hR _ _ _ _ dX3_goesOnWith_137 hw (fun _ => (hz18 rfl))
            · replace hF := kif hF c14
              by_cases c19 : ((a0 - 3) - (a0 - 3) / 5 * 5) = 4
              · replace hF := kit hF c19
                refine lv_tableIn (tgt := 124) S.1 S.2.1 dX3_goesOnWith_52 (by rw [c19]; decide) (by rw [c19]; decide) (by rw [c19]; rfl) (by decide) ?_
                refine lv_iload_n S.1 S.2.1 dX3_goesOnWith_124 rfl (lv_at hl 1 rfl) ?_
                refine lv_bipush (v := 10) S.1 S.2.1 dX3_goesOnWith_125 (by decide) ?_
                obtain ⟨r22, σ21, e20, hF⟩ := kbi_e hF
                refine kcX3_isDigitBelow S hw cv_X3_15 ⟨Nat.le_of_ble_eq_true rfl, Nat.le_of_ble_eq_true rfl⟩ e20 hl.1 (Nat.le_of_ble_eq_true rfl) dX3_goesOnWith_127 (fun H locs hw hz23 => ?_)
                obtain ⟨rfl, rfl⟩ := kret hF
                exact hR _ _ _ _ dX3_goesOnWith_130 hw (fun _ => (hz23 rfl))
              · replace hF := kif hF c19
                refine lv_tableOut (tgt := 131) S.1 S.2.1 dX3_goesOnWith_52 (ktab5 c3 c5 c9 c14 c19) (by decide) ?_
                refine lv_iload_n S.1 S.2.1 dX3_goesOnWith_131 rfl (lv_at hl 1 rfl) ?_
                refine lv_bipush (v := 8) S.1 S.2.1 dX3_goesOnWith_132 (by decide) ?_
                obtain ⟨r26, σ25, e24, hF⟩ := kbi_e hF
                refine kcX3_isDigitBelow S hw cv_X3_15 ⟨Nat.le_of_ble_eq_true rfl, Nat.le_of_ble_eq_true rfl⟩ e24 hl.1 (Nat.le_of_ble_eq_true rfl) dX3_goesOnWith_134 (fun H locs hw hz27 => ?_)
                obtain ⟨rfl, rfl⟩ := kret hF
                exact hR _ _ _ _ dX3_goesOnWith_137 hw (fun _ => (hz27 rfl))
    · replace hF := kif hF c2
      refine lv_iload_n S.1 S.2.1 dX3_goesOnWith_13 rfl (lv_at hl 0 rfl) ?_
      refine lv_if_ne (tgt := 31) S.1 S.2.1 dX3_goesOnWith_14 (by decide) (fun c28 => ?_) (fun c28 => ?_)
      · replace hF := kif hF c28
        refine lv_iload_n S.1 S.2.1 dX3_goesOnWith_31 rfl (lv_at hl 1 rfl) ?_
        refine lv_iload_n S.1 S.2.1 dX3_goesOnWith_32 rfl (lv_at hl 0 rfl) ?_
        refine lv_iconst (v := 1) S.1 S.2.1 dX3_goesOnWith_33 (by decide) ?_
        refine lv_icmp_ne (tgt := 42) S.1 S.2.1 dX3_goesOnWith_34 (by decide) (fun c29 => ?_) (fun c29 => ?_)
        · replace hF := kif hF c29
          refine lv_iconst (v := 4) S.1 S.2.1 dX3_goesOnWith_42 (by decide) ?_
          obtain ⟨r32, σ31, e30, hF⟩ := kbi_e hF
          refine kcX3_isDigitBelow S hw cv_X3_15 ⟨Nat.le_of_ble_eq_true rfl, Nat.le_of_ble_eq_true rfl⟩ e30 hl.1 (Nat.le_of_ble_eq_true rfl) dX3_goesOnWith_43 (fun H locs hw hz33 => ?_)
          obtain ⟨rfl, rfl⟩ := kret hF
          exact hR _ _ _ _ dX3_goesOnWith_46 hw (fun _ => (hz33 rfl))
        · replace hF := kit hF c29
          refine lv_bipush (v := 10) S.1 S.2.1 dX3_goesOnWith_37 (by decide) ?_
          refine lv_goto (tgt := 43) S.1 S.2.1 dX3_goesOnWith_39 (by decide) ?_
          obtain ⟨r36, σ35, e34, hF⟩ := kbi_e hF
          refine kcX3_isDigitBelow S hw cv_X3_15 ⟨Nat.le_of_ble_eq_true rfl, Nat.le_of_ble_eq_true rfl⟩ e34 hl.1 (Nat.le_of_ble_eq_true rfl) dX3_goesOnWith_43 (fun H locs hw hz37 => ?_)
          obtain ⟨rfl, rfl⟩ := kret hF
          exact hR _ _ _ _ dX3_goesOnWith_46 hw (fun _ => (hz37 rfl))
      · replace hF := kit hF c28
        refine lv_iload_n S.1 S.2.1 dX3_goesOnWith_17 rfl (lv_at hl 1 rfl) ?_
        refine lv_bipush (v := 100) S.1 S.2.1 dX3_goesOnWith_18 (by decide) ?_
        refine lv_icmp_ne (tgt := 27) S.1 S.2.1 dX3_goesOnWith_20 (by decide) (fun c38 => ?_) (fun c38 => ?_)
        · replace hF := kif hF c38
          refine lv_iconst (v := 0) S.1 S.2.1 dX3_goesOnWith_27 (by decide) ?_
          refine lv_goto (tgt := 46) S.1 S.2.1 dX3_goesOnWith_28 (by decide) ?_
          obtain ⟨rfl, rfl⟩ := kret hF
          exact hR _ _ _ _ dX3_goesOnWith_46 hw (fun _ => (Or.inl rfl))
        · replace hF := kit hF c38
          refine lv_iconst (v := 1) S.1 S.2.1 dX3_goesOnWith_23 (by decide) ?_
          refine lv_goto (tgt := 46) S.1 S.2.1 dX3_goesOnWith_24 (by decide) ?_
          obtain ⟨rfl, rfl⟩ := kret hF
          exact hR _ _ _ _ dX3_goesOnWith_46 hw (fun _ => (Or.inr rfl))
  · replace hF := kif hF c1
    refine lv_iconst (v := 0) S.1 S.2.1 dX3_goesOnWith_6 (by decide) ?_
    obtain ⟨rfl, rfl⟩ := kret hF
    exact hR _ _ _ _ dX3_goesOnWith_7 hw (fun _ => (Or.inl rfl))
set_option maxRecDepth 100000 in
theorem kcX3_goesOnWith {p : Program} {l : Launch} {e : Env} {R : Room} {s : State} {m : MethodId} {args : Array Value} {below : List Frame} {meth : Method} {c : Code} {H : Heap} {locs : List Loc} {cells slots : Nat} {Q : State → Prop} {cc : ByteArray} {pc : Nat} {ls : Array Slot} {rest : List Value} {E : kE} {σ ω σ1 : kS} {nL index : Nat} {own : String} {r : Int32} (S : CallFix p m c cc nL s args kBIG own) (hw : kWS E s (cmb σ ω) H locs) (cw : kSt own index yX3_goesOnWith cX3_goesOnWith 2 (some .boolean) 2) (hR : 2 + 1 ≤ R.frames ∧ 8 + (2 + 11) + 40 * 2 ≤ R.locals) {a0 : Int32} {a1 : Int32}  (hF : fX3_goesOnWith a0 a1 σ = some (r, σ1)) (hls : ls.size = nL) (hW : (rest.map fun v => v.category).sum ≤ 8) (hdg : decode cc pc = .ok (.invokestatic index, 3)) (kk : ∀ (H1 : Heap) (locs1 : List Loc), kWS E s (cmb σ1 ω) H1 locs1 → (((some .boolean) : Option FieldType) = some .boolean → r = 0 ∨ r = 1) → W p l e R s m args below meth c H1 locs1 cells slots Q (F0 m (pc + 3) ls (.int r :: rest))) (hf : cells ≤ R.cells ∧ slots ≤ R.slots := by exact ⟨Nat.le_of_ble_eq_true rfl, Nat.le_of_ble_eq_true rfl⟩) : W p l e R s m args below meth c H locs cells slots Q (F0 m pc ls (.int a1 :: .int a0 :: rest)) := kr_calli (mc := 0) (y := yX3_goesOnWith) (b := cX3_goesOnWith) (n := 0) (lv := 0) (As := []) hw (kr_runS (As := [.int a0, .int a1]) S hw ((mX3_goesOnWith (l := l) (E := E) (ω := ω) hF) H.size) cw hR rfl hls _ rfl hW hdg hf) kk
set_option maxHeartbeats 4000000 in
set_option maxRecDepth 100000 in
theorem wX3_firstFault_L2 {p : Program} {l : Launch} {e : Env} {s : State} {m : MethodId} {args : Array Value} {below : List Frame} {meth : Method} {c : Code} {Q : State → Prop} {E : kE} {ω σ1 : kS} {r : Int32} (S : CallFix p m c cX3_firstFault 4 s args kBIG RX3) (hR : kRetI p l e (rml 3) s m args below meth c cX3_firstFault E Q (some .int) r (cmb σ1 ω))  : ∀ (n : Nat), ∀ (q0 : Nat) (a1 : Int32) (a2 : Int32) (a3 : Int32) (hq0 : xA q0 60) (σ : kS) (H : Heap) (locs : List Loc) (ls : Array Slot), fX3_firstFault_L2 n q0 a1 a2 a3 σ = some (r, σ1) → kWS E s (cmb σ ω) H locs → lv_has ls 4 [(0, .ref (ead E q0)), (1, .int a1), (2, .int a2), (3, .int a3)] → W p l e (rml 3) s m args below meth c H locs 0 0 Q (F0 m 2 ls []) := by
  intro n
  induction n with
  | zero =>
    intro q0 a1 a2 a3 hq0 σ H locs ls hF hw hl
    exact absurd hF (fun h => nomatch h)
  | succ n ih =>
    intro q0 a1 a2 a3 hq0 σ H locs ls hF hw hl
    rw [fX3_firstFault_L2] at hF
    refine lv_iload_n S.1 S.2.1 dX3_firstFault_2 rfl (lv_at hl 3 rfl) ?_
    refine lv_iload_n S.1 S.2.1 dX3_firstFault_3 rfl (lv_at hl 2 rfl) ?_
    refine lv_icmp_ge (tgt := 27) S.1 S.2.1 dX3_firstFault_4 (by decide) (fun c1 => ?_) (fun c1 => ?_)
    · replace hF := kit hF c1
      refine lv_iload_n S.1 S.2.1 dX3_firstFault_27 rfl (lv_at hl 2 rfl) ?_
      refine lv_bipush (v := 13) S.1 S.2.1 dX3_firstFault_28 (by decide) ?_
      refine lv_icmp_lt (tgt := 46) S.1 S.2.1 dX3_firstFault_30 (by decide) (fun c2 => ?_) (fun c2 => ?_)
      · replace hF := kit hF c2
        refine lv_iload_n S.1 S.2.1 dX3_firstFault_46 rfl (lv_at hl 2 rfl) ?_
        obtain ⟨rfl, rfl⟩ := kret hF
        exact hR _ _ _ _ dX3_firstFault_47 hw (fun h => nomatch h)
      · replace hF := kif hF c2
        refine lv_iload_n S.1 S.2.1 dX3_firstFault_33 rfl (lv_at hl 2 rfl) ?_
        refine lv_iconst (v := 3) S.1 S.2.1 dX3_firstFault_34 (by decide) ?_
        refine lv_isub S.1 S.2.1 dX3_firstFault_35 ?_
        refine lv_iconst (v := 5) S.1 S.2.1 dX3_firstFault_36 (by decide) ?_
        refine lv_irem S.1 S.2.1 dX3_firstFault_37 (by decide) ?_
        refine lv_if_ne (tgt := 46) S.1 S.2.1 dX3_firstFault_38 (by decide) (fun c3 => ?_) (fun c3 => ?_)
        · replace hF := kif hF c3
          refine lv_iload_n S.1 S.2.1 dX3_firstFault_46 rfl (lv_at hl 2 rfl) ?_
          obtain ⟨rfl, rfl⟩ := kret hF
          exact hR _ _ _ _ dX3_firstFault_47 hw (fun h => nomatch h)
        · replace hF := kit hF c3
          refine lv_bipush (v := (-9)) S.1 S.2.1 dX3_firstFault_41 (by decide) ?_
          refine lv_goto (tgt := 47) S.1 S.2.1 dX3_firstFault_43 (by decide) ?_
          obtain ⟨rfl, rfl⟩ := kret hF
          exact hR _ _ _ _ dX3_firstFault_47 hw (fun h => nomatch h)
    · replace hF := kif hF c1
      refine lv_iload_n S.1 S.2.1 dX3_firstFault_7 rfl (lv_at hl 3 rfl) ?_
      refine lv_aload_n S.1 S.2.1 dX3_firstFault_8 rfl (lv_at hl 0 rfl) ?_
      refine lv_iload_n S.1 S.2.1 dX3_firstFault_9 rfl (lv_at hl 1 rfl) ?_
      refine lv_iload_n S.1 S.2.1 dX3_firstFault_10 rfl (lv_at hl 3 rfl) ?_
      refine lv_iadd S.1 S.2.1 dX3_firstFault_11 ?_
      obtain ⟨hb4, hF⟩ := kin hF
      refine kx_iald (q := q0) S hw hq0.1 hq0.2 hb4 dX3_firstFault_12 ?_
      obtain ⟨r7, σ6, e5, hF⟩ := kbi_e hF
      refine kcX3_goesOnWith S hw cv_X3_11 ⟨Nat.le_of_ble_eq_true rfl, Nat.le_of_ble_eq_true rfl⟩ e5 hl.1 (Nat.le_of_ble_eq_true rfl) dX3_firstFault_13 (fun H locs hw hz8 => ?_)
      refine lv_if_ne (tgt := 21) S.1 S.2.1 dX3_firstFault_16 (by decide) (fun c9 => ?_) (fun c9 => ?_)
      · replace hF := kif hF c9
        obtain ⟨v10, ev10⟩ : ∃ y : Int32, y = a3 + 1 := ⟨_, rfl⟩
        replace hF := klb hF ev10
        refine lv_iinc (v := v10) (lv' := [(3, .int v10), (0, .ref (ead E q0)), (1, .int a1), (2, .int a2)]) S.1 S.2.1 dX3_firstFault_21 hl (k := 3) rfl (by rw [ev10]; rfl) (by decide) rfl (fun ls hl => ?_)
        refine lv_goto (tgt := 2) S.1 S.2.1 dX3_firstFault_24 (by decide) ?_
        exact ih q0 a1 a2 v10 hq0 _ _ _ _ hF hw (lv_sub hl [1, 2, 3, 0] rfl)
      · replace hF := kit hF c9
        refine lv_iload_n S.1 S.2.1 dX3_firstFault_19 rfl (lv_at hl 3 rfl) ?_
        obtain ⟨rfl, rfl⟩ := kret hF
        exact hR _ _ _ _ dX3_firstFault_20 hw (fun h => nomatch h)
set_option maxHeartbeats 4000000 in
set_option maxRecDepth 100000 in
theorem mX3_firstFault {l : Launch} {E : kE} {ω σ σ1 : kS} {r : Int32} {q0 : Nat} {a1 : Int32} {a2 : Int32} (hq0 : xA q0 60) (hF : fX3_firstFault q0 a1 a2 σ = some (r, σ1)) : kMetI l yX3_firstFault cX3_firstFault 4 (some .int) 3 E [.ref (ead E q0), .int a1, .int a2] (cmb σ ω) r (cmb σ1 ω) := by
  refine kMetI.of (by decide +kernel) (Nat.le_of_ble_eq_true rfl) (Or.inl rfl) ?_
  intro p e s m args below meth c Q ls S hR hw hl
  have hl : lv_has ls 4 [(0, .ref (ead E q0)), (1, .int a1), (2, .int a2)] := hl
  unfold fX3_firstFault at hF
  refine lv_iconst (v := 0) S.1 S.2.1 dX3_firstFault_0 (by decide) ?_
  refine lv_istore_n (lv' := [(3, .int 0), (0, .ref (ead E q0)), (1, .int a1), (2, .int a2)]) S.1 S.2.1 dX3_firstFault_1 rfl hl (by decide) rfl (fun ls hl => ?_)
  exact wX3_firstFault_L2 S hR 1000 q0 a1 a2 0 hq0 _ _ _ _ hF hw (lv_sub hl [1, 2, 3, 0] rfl)
set_option maxRecDepth 100000 in
theorem kcX3_firstFault {p : Program} {l : Launch} {e : Env} {R : Room} {s : State} {m : MethodId} {args : Array Value} {below : List Frame} {meth : Method} {c : Code} {H : Heap} {locs : List Loc} {cells slots : Nat} {Q : State → Prop} {cc : ByteArray} {pc : Nat} {ls : Array Slot} {rest : List Value} {E : kE} {σ ω σ1 : kS} {nL index : Nat} {own : String} {r : Int32} (S : CallFix p m c cc nL s args kBIG own) (hw : kWS E s (cmb σ ω) H locs) (cw : kSt own index yX3_firstFault cX3_firstFault 4 (some .int) 3) (hR : 3 + 1 ≤ R.frames ∧ 8 + (4 + 11) + 40 * 3 ≤ R.locals) {q0 : Nat} {a1 : Int32} {a2 : Int32} (hq0 : xA q0 60) (hF : fX3_firstFault q0 a1 a2 σ = some (r, σ1)) (hls : ls.size = nL) (hW : (rest.map fun v => v.category).sum ≤ 8) (hdg : decode cc pc = .ok (.invokestatic index, 3)) (kk : ∀ (H1 : Heap) (locs1 : List Loc), kWS E s (cmb σ1 ω) H1 locs1 → W p l e R s m args below meth c H1 locs1 cells slots Q (F0 m (pc + 3) ls (.int r :: rest))) (hf : cells ≤ R.cells ∧ slots ≤ R.slots := by exact ⟨Nat.le_of_ble_eq_true rfl, Nat.le_of_ble_eq_true rfl⟩) : W p l e R s m args below meth c H locs cells slots Q (F0 m pc ls (.int a2 :: .int a1 :: .ref (ead E q0) :: rest)) := kr_calli (mc := 0) (y := yX3_firstFault) (b := cX3_firstFault) (n := 0) (lv := 0) (As := []) (ret := some .int) hw (kr_runS (As := [.ref (ead E q0), .int a1, .int a2]) S hw ((mX3_firstFault (l := l) (E := E) (ω := ω) hq0 hF) H.size) cw hR rfl hls _ rfl hW hdg hf) (fun H1 locs1 h _ => kk H1 locs1 h)
set_option maxHeartbeats 4000000 in
set_option maxRecDepth 100000 in
theorem mX3_kindOf {l : Launch} {E : kE} {ω σ σ1 : kS} {r : Int32} {a0 : Int32}  (hF : fX3_kindOf a0 σ = some (r, σ1)) : kMetI l yX3_kindOf cX3_kindOf 1 (some .int) 0 E [.int a0] (cmb σ ω) r (cmb σ1 ω) := by
  refine kMetI.of (by decide +kernel) (Nat.le_of_ble_eq_true rfl) (Or.inl rfl) ?_
  intro p e s m args below meth c Q ls S hR hw hl
  have hl : lv_has ls 1 [(0, .int a0)] := hl
  unfold fX3_kindOf at hF
  refine lv_iload_n S.1 S.2.1 dX3_kindOf_0 rfl (lv_at hl 0 rfl) ?_
  refine lv_bipush (v := 107) S.1 S.2.1 dX3_kindOf_1 (by decide) ?_
  refine lv_icmp_ne (tgt := 8) S.1 S.2.1 dX3_kindOf_3 (by decide) (fun c1 => ?_) (fun c1 => ?_)
  · replace hF := kif hF c1
    refine lv_iload_n S.1 S.2.1 dX3_kindOf_8 rfl (lv_at hl 0 rfl) ?_
    refine lv_bipush (v := 114) S.1 S.2.1 dX3_kindOf_9 (by decide) ?_
    refine lv_icmp_ne (tgt := 18) S.1 S.2.1 dX3_kindOf_11 (by decide) (fun c2 => ?_) (fun c2 => ?_)
    · replace hF := kif hF c2
      refine lv_iconst (v := 0) S.1 S.2.1 dX3_kindOf_18 (by decide) ?_
      obtain ⟨rfl, rfl⟩ := kret hF
      exact hR _ _ _ _ dX3_kindOf_19 hw (fun h => nomatch h)
    · replace hF := kit hF c2
      refine lv_iconst (v := 1) S.1 S.2.1 dX3_kindOf_14 (by decide) ?_
      refine lv_goto (tgt := 19) S.1 S.2.1 dX3_kindOf_15 (by decide) ?_
      obtain ⟨rfl, rfl⟩ := kret hF
      exact hR _ _ _ _ dX3_kindOf_19 hw (fun h => nomatch h)
  · replace hF := kit hF c1
    refine lv_iconst (v := 2) S.1 S.2.1 dX3_kindOf_6 (by decide) ?_
    obtain ⟨rfl, rfl⟩ := kret hF
    exact hR _ _ _ _ dX3_kindOf_7 hw (fun h => nomatch h)
set_option maxRecDepth 100000 in
theorem kcX3_kindOf {p : Program} {l : Launch} {e : Env} {R : Room} {s : State} {m : MethodId} {args : Array Value} {below : List Frame} {meth : Method} {c : Code} {H : Heap} {locs : List Loc} {cells slots : Nat} {Q : State → Prop} {cc : ByteArray} {pc : Nat} {ls : Array Slot} {rest : List Value} {E : kE} {σ ω σ1 : kS} {nL index : Nat} {own : String} {r : Int32} (S : CallFix p m c cc nL s args kBIG own) (hw : kWS E s (cmb σ ω) H locs) (cw : kSt own index yX3_kindOf cX3_kindOf 1 (some .int) 1) (hR : 0 + 1 ≤ R.frames ∧ 8 + (1 + 11) + 40 * 0 ≤ R.locals) {a0 : Int32}  (hF : fX3_kindOf a0 σ = some (r, σ1)) (hls : ls.size = nL) (hW : (rest.map fun v => v.category).sum ≤ 8) (hdg : decode cc pc = .ok (.invokestatic index, 3)) (kk : ∀ (H1 : Heap) (locs1 : List Loc), kWS E s (cmb σ1 ω) H1 locs1 → W p l e R s m args below meth c H1 locs1 cells slots Q (F0 m (pc + 3) ls (.int r :: rest))) (hf : cells ≤ R.cells ∧ slots ≤ R.slots := by exact ⟨Nat.le_of_ble_eq_true rfl, Nat.le_of_ble_eq_true rfl⟩) : W p l e R s m args below meth c H locs cells slots Q (F0 m pc ls (.int a0 :: rest)) := kr_calli (mc := 0) (y := yX3_kindOf) (b := cX3_kindOf) (n := 0) (lv := 0) (As := []) (ret := some .int) hw (kr_runS (As := [.int a0]) S hw ((mX3_kindOf (l := l) (E := E) (ω := ω) hF) H.size) cw hR rfl hls _ rfl hW hdg hf) (fun H1 locs1 h _ => kk H1 locs1 h)
set_option maxHeartbeats 4000000 in
set_option maxRecDepth 100000 in
theorem wX3_fill_L36 {p : Program} {l : Launch} {e : Env} {s : State} {m : MethodId} {args : Array Value} {below : List Frame} {meth : Method} {c : Code} {Q : State → Prop} {E : kE} {ω σ1 : kS} (S : CallFix p m c cX3_fill 6 s args kBIG RX3) (hR : kRetV p l e (rml 1) s m args below meth c cX3_fill E Q (cmb σ1 ω))  : ∀ (n : Nat), ∀ (q0 : Nat) (q1 : Nat) (a2 : Int32) (a4 : Int32) (hq0 : isM q0) (hq1 : xA q1 60) (σ : kS) (H : Heap) (locs : List Loc) (ls : Array Slot), fX3_fill_L36 n q0 q1 a2 a4 σ = some σ1 → kWS E s (cmb σ ω) H locs → lv_has ls 6 [(0, .ref (ead E q0)), (1, .ref (ead E q1)), (2, .int a2), (4, .int a4)] → W p l e (rml 1) s m args below meth c H locs 0 0 Q (F0 m 36 ls []) := by
  intro n
  induction n with
  | zero =>
    intro q0 q1 a2 a4 hq0 hq1 σ H locs ls hF hw hl
    exact absurd hF (fun h => nomatch h)
  | succ n ih =>
    intro q0 q1 a2 a4 hq0 hq1 σ H locs ls hF hw hl
    rw [fX3_fill_L36] at hF
    refine lv_iload S.1 S.2.1 dX3_fill_36 (lv_at hl 3 rfl) ?_
    refine lv_aload_n S.1 S.2.1 dX3_fill_38 rfl (lv_at hl 0 rfl) ?_
    refine gf_X3_30 S hw hq0.1 hq0.2.1 rfl dX3_fill_39 ?_
    refine lv_icmp_ge (tgt := 125) S.1 S.2.1 dX3_fill_42 (by decide) (fun c3 => ?_) (fun c3 => ?_)
    · replace hF := kit hF c3
      cases kre hF
      exact hR _ _ _ _ dX3_fill_125 hw
    · replace hF := kif hF c3
      refine lv_iload_n S.1 S.2.1 dX3_fill_45 rfl (lv_at hl 2 rfl) ?_
      refine lv_iconst (v := 3) S.1 S.2.1 dX3_fill_46 (by decide) ?_
      refine lv_iadd S.1 S.2.1 dX3_fill_47 ?_
      refine lv_iconst (v := 5) S.1 S.2.1 dX3_fill_48 (by decide) ?_
      refine lv_iload S.1 S.2.1 dX3_fill_49 (lv_at hl 3 rfl) ?_
      refine lv_imul S.1 S.2.1 dX3_fill_51 ?_
      refine lv_iadd S.1 S.2.1 dX3_fill_52 ?_
      refine lv_topi (fun v4 ev4 => ?_)
      replace hF := klb hF ev4
      refine lv_istore (lv' := [(5, .int v4), (0, .ref (ead E q0)), (1, .ref (ead E q1)), (2, .int a2), (4, .int a4)]) S.1 S.2.1 dX3_fill_53 hl (by decide) rfl (fun ls hl => ?_)
      refine lv_aload_n S.1 S.2.1 dX3_fill_55 rfl (lv_at hl 1 rfl) ?_
      refine gf_X3_33 S hw hq0.1 hq0.2.1 rfl dX3_fill_56 ?_
      refine lv_iload S.1 S.2.1 dX3_fill_59 (lv_at hl 4 rfl) ?_
      refine lv_aload_n S.1 S.2.1 dX3_fill_61 rfl (lv_at hl 2 rfl) ?_
      refine lv_iload S.1 S.2.1 dX3_fill_62 (lv_at hl 0 rfl) ?_
      refine lv_iconst (v := 1) S.1 S.2.1 dX3_fill_64 (by decide) ?_
      refine lv_iadd S.1 S.2.1 dX3_fill_65 ?_
      obtain ⟨hb5, hF⟩ := kin hF
      refine kx_iald (q := q1) S hw hq1.1 hq1.2 hb5 dX3_fill_66 ?_
      obtain ⟨r8, σ7, e6, hF⟩ := kbi_e hF
      refine kcX3_kindOf S hw cv_X3_37 ⟨Nat.le_of_ble_eq_true rfl, Nat.le_of_ble_eq_true rfl⟩ e6 hl.1 (Nat.le_of_ble_eq_true rfl) dX3_fill_67 (fun H locs hw => ?_)
      obtain ⟨hb9, hF⟩ := kin hF
      refine kx_iast (q := q0 + 1) S hw hq0.2.2.1.1 hq0.2.2.1.2 hb9 dX3_fill_70 (fun H locs hw => ?_)
      refine lv_aload_n S.1 S.2.1 dX3_fill_71 rfl (lv_at hl 1 rfl) ?_
      refine gf_X3_41 S hw hq0.1 hq0.2.1 rfl dX3_fill_72 ?_
      refine lv_iload S.1 S.2.1 dX3_fill_75 (lv_at hl 4 rfl) ?_
      refine lv_aload_n S.1 S.2.1 dX3_fill_77 rfl (lv_at hl 2 rfl) ?_
      refine lv_iload S.1 S.2.1 dX3_fill_78 (lv_at hl 0 rfl) ?_
      refine lv_iconst (v := 2) S.1 S.2.1 dX3_fill_80 (by decide) ?_
      refine lv_iadd S.1 S.2.1 dX3_fill_81 ?_
      obtain ⟨hb10, hF⟩ := kin hF
      refine kx_iald (q := q1) S hw hq1.1 hq1.2 hb10 dX3_fill_82 ?_
      refine lv_bipush (v := 48) S.1 S.2.1 dX3_fill_83 (by decide) ?_
      refine lv_isub S.1 S.2.1 dX3_fill_85 ?_
      obtain ⟨hb11, hF⟩ := kin hF
      refine kx_iast (q := q0 + 2) S hw hq0.2.2.2.1.1 hq0.2.2.2.1.2 hb11 dX3_fill_86 (fun H locs hw => ?_)
      refine lv_aload_n S.1 S.2.1 dX3_fill_87 rfl (lv_at hl 1 rfl) ?_
      refine gf_X3_44 S hw hq0.1 hq0.2.1 rfl dX3_fill_88 ?_
      refine lv_iload S.1 S.2.1 dX3_fill_91 (lv_at hl 4 rfl) ?_
      refine lv_aload_n S.1 S.2.1 dX3_fill_93 rfl (lv_at hl 2 rfl) ?_
      refine lv_iload S.1 S.2.1 dX3_fill_94 (lv_at hl 0 rfl) ?_
      refine lv_iconst (v := 3) S.1 S.2.1 dX3_fill_96 (by decide) ?_
      refine lv_iadd S.1 S.2.1 dX3_fill_97 ?_
      obtain ⟨hb12, hF⟩ := kin hF
      refine kx_iald (q := q1) S hw hq1.1 hq1.2 hb12 dX3_fill_98 ?_
      refine lv_bipush (v := 48) S.1 S.2.1 dX3_fill_99 (by decide) ?_
      refine lv_isub S.1 S.2.1 dX3_fill_101 ?_
      obtain ⟨hb13, hF⟩ := kin hF
      refine kx_iast (q := q0 + 3) S hw hq0.2.2.2.2.1.1 hq0.2.2.2.2.1.2 hb13 dX3_fill_102 (fun H locs hw => ?_)
      refine lv_aload_n S.1 S.2.1 dX3_fill_103 rfl (lv_at hl 1 rfl) ?_
      refine gf_X3_47 S hw hq0.1 hq0.2.1 rfl dX3_fill_104 ?_
      refine lv_iload S.1 S.2.1 dX3_fill_107 (lv_at hl 4 rfl) ?_
      refine lv_aload_n S.1 S.2.1 dX3_fill_109 rfl (lv_at hl 2 rfl) ?_
      refine lv_iload S.1 S.2.1 dX3_fill_110 (lv_at hl 0 rfl) ?_
      refine lv_iconst (v := 4) S.1 S.2.1 dX3_fill_112 (by decide) ?_
      refine lv_iadd S.1 S.2.1 dX3_fill_113 ?_
      obtain ⟨hb14, hF⟩ := kin hF
      refine kx_iald (q := q1) S hw hq1.1 hq1.2 hb14 dX3_fill_114 ?_
      refine lv_bipush (v := 48) S.1 S.2.1 dX3_fill_115 (by decide) ?_
      refine lv_isub S.1 S.2.1 dX3_fill_117 ?_
      obtain ⟨hb15, hF⟩ := kin hF
      refine kx_iast (q := q0 + 4) S hw hq0.2.2.2.2.2.1 hq0.2.2.2.2.2.2 hb15 dX3_fill_118 (fun H locs hw => ?_)
      obtain ⟨v16, ev16⟩ : ∃ y : Int32, y = a4 + 1 := ⟨_, rfl⟩
      replace hF := klb hF ev16
      refine lv_iinc (v := v16) (lv' := [(4, .int v16), (5, .int v4), (0, .ref (ead E q0)), (1, .ref (ead E q1)), (2, .int a2)]) S.1 S.2.1 dX3_fill_119 hl (k := 4) rfl (by rw [ev16]; rfl) (by decide) rfl (fun ls hl => ?_)
      refine lv_goto (tgt := 36) S.1 S.2.1 dX3_fill_122 (by decide) ?_
      exact ih q0 q1 a2 v16 hq0 hq1 _ _ _ _ hF hw (lv_sub hl [2, 3, 4, 0] rfl)
set_option maxHeartbeats 4000000 in
set_option maxRecDepth 100000 in
theorem mX3_fill {l : Launch} {E : kE} {ω σ σ1 : kS} {q0 : Nat} {q1 : Nat} {a2 : Int32} {a3 : Int32} (hq0 : isM q0) (hq1 : xA q1 60) (hF : fX3_fill q0 q1 a2 a3 σ = some σ1) : kMetV l yX3_fill cX3_fill 6 1 E [.ref (ead E q0), .ref (ead E q1), .int a2, .int a3] (cmb σ ω) (cmb σ1 ω) := by
  refine kMetV.of (by decide +kernel) (Nat.le_of_ble_eq_true rfl) ?_
  intro p e s m args below meth c Q ls S hR hw hl
  have hl : lv_has ls 6 [(0, .ref (ead E q0)), (1, .ref (ead E q1)), (2, .int a2), (3, .int a3)] := hl
  unfold fX3_fill at hF
  refine lv_aload_n S.1 S.2.1 dX3_fill_0 rfl (lv_at hl 0 rfl) ?_
  refine lv_aload_n S.1 S.2.1 dX3_fill_1 rfl (lv_at hl 1 rfl) ?_
  refine lv_iload_n S.1 S.2.1 dX3_fill_2 rfl (lv_at hl 2 rfl) ?_
  refine lv_iconst (v := 1) S.1 S.2.1 dX3_fill_3 (by decide) ?_
  refine lv_iadd S.1 S.2.1 dX3_fill_4 ?_
  obtain ⟨hb1, hF⟩ := kin hF
  refine kx_iald (q := q1) S hw hq1.1 hq1.2 hb1 dX3_fill_5 ?_
  refine lv_bipush (v := 48) S.1 S.2.1 dX3_fill_6 (by decide) ?_
  refine lv_isub S.1 S.2.1 dX3_fill_8 ?_
  refine pf_X3_21 S hw hq0.1 hq0.2.1 rfl dX3_fill_9 (fun H locs hw => ?_)
  refine lv_aload_n S.1 S.2.1 dX3_fill_12 rfl (lv_at hl 0 rfl) ?_
  refine lv_aload_n S.1 S.2.1 dX3_fill_13 rfl (lv_at hl 1 rfl) ?_
  refine lv_iload_n S.1 S.2.1 dX3_fill_14 rfl (lv_at hl 2 rfl) ?_
  refine lv_iconst (v := 2) S.1 S.2.1 dX3_fill_15 (by decide) ?_
  refine lv_iadd S.1 S.2.1 dX3_fill_16 ?_
  obtain ⟨hb2, hF⟩ := kin hF
  refine kx_iald (q := q1) S hw hq1.1 hq1.2 hb2 dX3_fill_17 ?_
  refine lv_bipush (v := 48) S.1 S.2.1 dX3_fill_18 (by decide) ?_
  refine lv_isub S.1 S.2.1 dX3_fill_20 ?_
  refine pf_X3_27 S hw hq0.1 hq0.2.1 rfl dX3_fill_21 (fun H locs hw => ?_)
  refine lv_aload_n S.1 S.2.1 dX3_fill_24 rfl (lv_at hl 0 rfl) ?_
  refine lv_iload_n S.1 S.2.1 dX3_fill_25 rfl (lv_at hl 3 rfl) ?_
  refine lv_iconst (v := 3) S.1 S.2.1 dX3_fill_26 (by decide) ?_
  refine lv_isub S.1 S.2.1 dX3_fill_27 ?_
  refine lv_iconst (v := 5) S.1 S.2.1 dX3_fill_28 (by decide) ?_
  refine lv_idiv S.1 S.2.1 dX3_fill_29 (by decide) ?_
  refine pf_X3_30 S hw hq0.1 hq0.2.1 rfl dX3_fill_30 (fun H locs hw => ?_)
  refine lv_iconst (v := 0) S.1 S.2.1 dX3_fill_33 (by decide) ?_
  refine lv_istore (lv' := [(4, .int 0), (0, .ref (ead E q0)), (1, .ref (ead E q1)), (2, .int a2), (3, .int a3)]) S.1 S.2.1 dX3_fill_34 hl (by decide) rfl (fun ls hl => ?_)
  exact wX3_fill_L36 S hR 1000 q0 q1 a2 0 hq0 hq1 _ _ _ _ hF hw (lv_sub hl [1, 2, 3, 0] rfl)
set_option maxRecDepth 100000 in
theorem kcX3_fill {p : Program} {l : Launch} {e : Env} {R : Room} {s : State} {m : MethodId} {args : Array Value} {below : List Frame} {meth : Method} {c : Code} {H : Heap} {locs : List Loc} {cells slots : Nat} {Q : State → Prop} {cc : ByteArray} {pc : Nat} {ls : Array Slot} {rest : List Value} {E : kE} {σ ω σ1 : kS} {nL index : Nat} {own : String} (S : CallFix p m c cc nL s args kBIG own) (hw : kWS E s (cmb σ ω) H locs) (cw : kSt own index yX3_fill cX3_fill 6 none 4) (hR : 1 + 1 ≤ R.frames ∧ 8 + (6 + 11) + 40 * 1 ≤ R.locals) {q0 : Nat} {q1 : Nat} {a2 : Int32} {a3 : Int32} (hq0 : isM q0) (hq1 : xA q1 60) (hF : fX3_fill q0 q1 a2 a3 σ = some σ1) (hls : ls.size = nL) (hW : (rest.map fun v => v.category).sum ≤ 8) (hdg : decode cc pc = .ok (.invokestatic index, 3)) (kk : ∀ (H1 : Heap) (locs1 : List Loc), kWS E s (cmb σ1 ω) H1 locs1 → W p l e R s m args below meth c H1 locs1 cells slots Q (F0 m (pc + 3) ls rest)) (hf : cells ≤ R.cells ∧ slots ≤ R.slots := by exact ⟨Nat.le_of_ble_eq_true rfl, Nat.le_of_ble_eq_true rfl⟩) : W p l e R s m args below meth c H locs cells slots Q (F0 m pc ls (.int a3 :: .int a2 :: .ref (ead E q1) :: .ref (ead E q0) :: rest)) := kr_callv hw (kr_runS (As := [.ref (ead E q0), .ref (ead E q1), .int a2, .int a3]) S hw ((mX3_fill (l := l) (E := E) (ω := ω) hq0 hq1 hF) H.size) cw hR rfl hls _ rfl hW hdg hf) kk
set_option maxHeartbeats 4000000 in
set_option maxRecDepth 100000 in
theorem mX4_isSheet {l : Launch} {E : kE} {ω σ σ1 : kS} {r : Int32} {a0 : Int32}  (hF : fX4_isSheet a0 σ = some (r, σ1)) : kMetI l yX4_isSheet cX4_isSheet 1 (some .boolean) 1 E [.int a0] (cmb σ ω) r (cmb σ1 ω) := by
  refine kMetI.of (by decide +kernel) (Nat.le_of_ble_eq_true rfl) (Or.inr rfl) ?_
  intro p e s m args below meth c Q ls S hR hw hl
  have hl : lv_has ls 1 [(0, .int a0)] := hl
  unfold fX4_isSheet at hF
  refine lv_iload_n S.1 S.2.1 dX4_isSheet_0 rfl (lv_at hl 0 rfl) ?_
  refine lv_iconst (v := 4) S.1 S.2.1 dX4_isSheet_1 (by decide) ?_
  obtain ⟨r3, σ2, e1, hF⟩ := kbi_e hF
  refine kcX4_isBelow S hw cv_X4_59 ⟨Nat.le_of_ble_eq_true rfl, Nat.le_of_ble_eq_true rfl⟩ e1 hl.1 (Nat.le_of_ble_eq_true rfl) dX4_isSheet_2 (fun H locs hw hz4 => ?_)
  obtain ⟨rfl, rfl⟩ := kret hF
  exact hR _ _ _ _ dX4_isSheet_5 hw (fun _ => (hz4 rfl))
set_option maxRecDepth 100000 in
theorem kcX4_isSheet {p : Program} {l : Launch} {e : Env} {R : Room} {s : State} {m : MethodId} {args : Array Value} {below : List Frame} {meth : Method} {c : Code} {H : Heap} {locs : List Loc} {cells slots : Nat} {Q : State → Prop} {cc : ByteArray} {pc : Nat} {ls : Array Slot} {rest : List Value} {E : kE} {σ ω σ1 : kS} {nL index : Nat} {own : String} {r : Int32} (S : CallFix p m c cc nL s args kBIG own) (hw : kWS E s (cmb σ ω) H locs) (cw : kSt own index yX4_isSheet cX4_isSheet 1 (some .boolean) 1) (hR : 1 + 1 ≤ R.frames ∧ 8 + (1 + 11) + 40 * 1 ≤ R.locals) {a0 : Int32}  (hF : fX4_isSheet a0 σ = some (r, σ1)) (hls : ls.size = nL) (hW : (rest.map fun v => v.category).sum ≤ 8) (hdg : decode cc pc = .ok (.invokestatic index, 3)) (kk : ∀ (H1 : Heap) (locs1 : List Loc), kWS E s (cmb σ1 ω) H1 locs1 → (((some .boolean) : Option FieldType) = some .boolean → r = 0 ∨ r = 1) → W p l e R s m args below meth c H1 locs1 cells slots Q (F0 m (pc + 3) ls (.int r :: rest))) (hf : cells ≤ R.cells ∧ slots ≤ R.slots := by exact ⟨Nat.le_of_ble_eq_true rfl, Nat.le_of_ble_eq_true rfl⟩) : W p l e R s m args below meth c H locs cells slots Q (F0 m pc ls (.int a0 :: rest)) := kr_calli (mc := 0) (y := yX4_isSheet) (b := cX4_isSheet) (n := 0) (lv := 0) (As := []) hw (kr_runS (As := [.int a0]) S hw ((mX4_isSheet (l := l) (E := E) (ω := ω) hF) H.size) cw hR rfl hls _ rfl hW hdg hf) kk
set_option maxHeartbeats 4000000 in
set_option maxRecDepth 100000 in
theorem mX4_faulted {l : Launch} {E : kE} {ω σ σ1 : kS} {r : Int32} {a1 : Int32}  (hF : fX4_faulted a1 σ = some (r, σ1)) : kMetI l yX4_faulted cX4_faulted 2 (some .int) 0 E [.ref (ead E 0), .int a1] (cmb σ ω) r (cmb σ1 ω) := by
  refine kMetI.of (by decide +kernel) (Nat.le_of_ble_eq_true rfl) (Or.inl rfl) ?_
  intro p e s m args below meth c Q ls S hR hw hl
  have hl : lv_has ls 2 [(0, .ref (ead E 0)), (1, .int a1)] := hl
  unfold fX4_faulted at hF
  refine lv_aload_n S.1 S.2.1 dX4_faulted_0 rfl (lv_at hl 0 rfl) ?_
  refine lv_iload_n S.1 S.2.1 dX4_faulted_1 rfl (lv_at hl 1 rfl) ?_
  refine pf_X4_51 (q := 0) S hw rfl (Nat.le_of_ble_eq_true rfl) rfl dX4_faulted_2 (fun H locs hw => ?_)
  refine lv_bipush (v := (-10)) S.1 S.2.1 dX4_faulted_5 (by decide) ?_
  refine lv_iload_n S.1 S.2.1 dX4_faulted_7 rfl (lv_at hl 1 rfl) ?_
  refine lv_isub S.1 S.2.1 dX4_faulted_8 ?_
  obtain ⟨rfl, rfl⟩ := kret hF
  exact hR _ _ _ _ dX4_faulted_9 hw (fun h => nomatch h)
set_option maxRecDepth 100000 in
theorem kcX4_faulted {p : Program} {l : Launch} {e : Env} {R : Room} {s : State} {m : MethodId} {args : Array Value} {below : List Frame} {meth : Method} {c : Code} {H : Heap} {locs : List Loc} {cells slots : Nat} {Q : State → Prop} {cc : ByteArray} {pc : Nat} {ls : Array Slot} {rest : List Value} {E : kE} {σ ω σ1 : kS} {nL index : Nat} {own : String} {r : Int32} (S : CallFix p m c cc nL s args kBIG own) (hw : kWS E s (cmb σ ω) H locs) (cw : kV own RX4 index yX4_faulted cX4_faulted 2 (some .int) 1) (hR : 0 + 1 ≤ R.frames ∧ 8 + (2 + 11) + 40 * 0 ≤ R.locals) {a1 : Int32}  (hF : fX4_faulted a1 σ = some (r, σ1)) (hls : ls.size = nL) (hW : (rest.map fun v => v.category).sum ≤ 8) (hdg : decode cc pc = .ok (.invokevirtual index, 3)) (kk : ∀ (H1 : Heap) (locs1 : List Loc), kWS E s (cmb σ1 ω) H1 locs1 → W p l e R s m args below meth c H1 locs1 cells slots Q (F0 m (pc + 3) ls (.int r :: rest))) (hf : cells ≤ R.cells ∧ slots ≤ R.slots := by exact ⟨Nat.le_of_ble_eq_true rfl, Nat.le_of_ble_eq_true rfl⟩) : W p l e R s m args below meth c H locs cells slots Q (F0 m pc ls (.int a1 :: .ref (ead E 0) :: rest)) := kr_calli (mc := 0) (y := yX4_faulted) (b := cX4_faulted) (n := 0) (lv := 0) (As := []) (ret := some .int) hw (kr_runV (As := [.int a1]) (q := 0) S hw ((mX4_faulted (l := l) (E := E) (ω := ω) hF) H.size) cw hR rfl (by decide) rfl rfl hls _ rfl hW hdg hf) (fun H1 locs1 h _ => kk H1 locs1 h)
