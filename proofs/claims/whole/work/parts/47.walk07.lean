set_option maxHeartbeats 4000000 in
set_option maxRecDepth 100000 in
theorem mX5_whistle {l : Launch} {E : kE} {ω σ σ1 : kS} {r : Int32} {a1 : Int32}  (hF : fX5_whistle a1 σ = some (r, σ1)) : kMetI l yX5_whistle cX5_whistle 2 (some .int) 2 E [.ref (ead E 26), .int a1] (cmb ω σ) r (cmb ω σ1) := by
  refine kMetI.of (by decide +kernel) (Nat.le_of_ble_eq_true rfl) (Or.inl rfl) ?_
  intro p e s m args below meth c Q ls S hR hw hl
  have hl : lv_has ls 2 [(0, .ref (ead E 26)), (1, .int a1)] := hl
  unfold fX5_whistle at hF
  refine lv_aload_n S.1 S.2.1 dX5_whistle_0 rfl (lv_at hl 0 rfl) ?_
  refine lv_iload_n S.1 S.2.1 dX5_whistle_1 rfl (lv_at hl 1 rfl) ?_
  obtain ⟨r3, σ2, e1, hF⟩ := kbi_e hF
  refine kcX5_noPerson S hw cv_X5_162 ⟨Nat.le_of_ble_eq_true rfl, Nat.le_of_ble_eq_true rfl⟩ e1 hl.1 (Nat.le_of_ble_eq_true rfl) dX5_whistle_2 (fun H locs hw hz4 => ?_)
  refine lv_if_eq (tgt := 10) S.1 S.2.1 dX5_whistle_5 (by decide) (fun c5 => ?_) (fun c5 => ?_)
  · replace hF := kit hF c5
    refine lv_aload_n S.1 S.2.1 dX5_whistle_10 rfl (lv_at hl 0 rfl) ?_
    refine lv_aload_n S.1 S.2.1 dX5_whistle_11 rfl (lv_at hl 0 rfl) ?_
    refine gf_X5_7 S hw dX5_whistle_12 ?_
    refine lv_iload_n S.1 S.2.1 dX5_whistle_15 rfl (lv_at hl 1 rfl) ?_
    obtain ⟨hb6, hF⟩ := kin hF
    refine km_iald (q := 1) S hw rfl (Nat.le_of_ble_eq_true rfl) hb6 dX5_whistle_16 ?_
    refine lv_iconst (v := 2) S.1 S.2.1 dX5_whistle_17 (by decide) ?_
    refine lv_icmp_ne (tgt := 25) S.1 S.2.1 dX5_whistle_18 (by decide) (fun c7 => ?_) (fun c7 => ?_)
    · replace hF := kif hF c7
      refine lv_iconst (v := 4) S.1 S.2.1 dX5_whistle_25 (by decide) ?_
      obtain ⟨σ9, e8, hF⟩ := kbv_e hF
      refine kcX5_traced S hw cv_X5_249 ⟨Nat.le_of_ble_eq_true rfl, Nat.le_of_ble_eq_true rfl⟩ e8 hl.1 (Nat.le_of_ble_eq_true rfl) dX5_whistle_26 (fun H locs hw => ?_)
      refine lv_aload_n S.1 S.2.1 dX5_whistle_29 rfl (lv_at hl 0 rfl) ?_
      refine gf_X5_7 S hw dX5_whistle_30 ?_
      refine lv_iload_n S.1 S.2.1 dX5_whistle_33 rfl (lv_at hl 1 rfl) ?_
      obtain ⟨hb10, hF⟩ := kin hF
      refine km_iald (q := 1) S hw rfl (Nat.le_of_ble_eq_true rfl) hb10 dX5_whistle_34 ?_
      refine lv_iconst (v := 2) S.1 S.2.1 dX5_whistle_35 (by decide) ?_
      refine lv_icmp_ne (tgt := 44) S.1 S.2.1 dX5_whistle_36 (by decide) (fun c11 => ?_) (fun c11 => ?_)
      · replace hF := kif hF c11
        refine lv_iload_n S.1 S.2.1 dX5_whistle_44 rfl (lv_at hl 1 rfl) ?_
        obtain ⟨rfl, rfl⟩ := kret hF
        exact hR _ _ _ _ dX5_whistle_45 hw (fun h => nomatch h)
      · replace hF := kit hF c11
        refine lv_bipush (v := 70) S.1 S.2.1 dX5_whistle_39 (by decide) ?_
        refine lv_goto (tgt := 45) S.1 S.2.1 dX5_whistle_41 (by decide) ?_
        obtain ⟨rfl, rfl⟩ := kret hF
        exact hR _ _ _ _ dX5_whistle_45 hw (fun h => nomatch h)
    · replace hF := kit hF c7
      refine lv_iconst (v := 5) S.1 S.2.1 dX5_whistle_21 (by decide) ?_
      refine lv_goto (tgt := 26) S.1 S.2.1 dX5_whistle_22 (by decide) ?_
      obtain ⟨σ13, e12, hF⟩ := kbv_e hF
      refine kcX5_traced S hw cv_X5_249 ⟨Nat.le_of_ble_eq_true rfl, Nat.le_of_ble_eq_true rfl⟩ e12 hl.1 (Nat.le_of_ble_eq_true rfl) dX5_whistle_26 (fun H locs hw => ?_)
      refine lv_aload_n S.1 S.2.1 dX5_whistle_29 rfl (lv_at hl 0 rfl) ?_
      refine gf_X5_7 S hw dX5_whistle_30 ?_
      refine lv_iload_n S.1 S.2.1 dX5_whistle_33 rfl (lv_at hl 1 rfl) ?_
      obtain ⟨hb14, hF⟩ := kin hF
      refine km_iald (q := 1) S hw rfl (Nat.le_of_ble_eq_true rfl) hb14 dX5_whistle_34 ?_
      refine lv_iconst (v := 2) S.1 S.2.1 dX5_whistle_35 (by decide) ?_
      refine lv_icmp_ne (tgt := 44) S.1 S.2.1 dX5_whistle_36 (by decide) (fun c15 => ?_) (fun c15 => ?_)
      · replace hF := kif hF c15
        refine lv_iload_n S.1 S.2.1 dX5_whistle_44 rfl (lv_at hl 1 rfl) ?_
        obtain ⟨rfl, rfl⟩ := kret hF
        exact hR _ _ _ _ dX5_whistle_45 hw (fun h => nomatch h)
      · replace hF := kit hF c15
        refine lv_bipush (v := 70) S.1 S.2.1 dX5_whistle_39 (by decide) ?_
        refine lv_goto (tgt := 45) S.1 S.2.1 dX5_whistle_41 (by decide) ?_
        obtain ⟨rfl, rfl⟩ := kret hF
        exact hR _ _ _ _ dX5_whistle_45 hw (fun h => nomatch h)
  · replace hF := kif hF c5
    refine lv_iconst (v := (-1)) S.1 S.2.1 dX5_whistle_8 (by decide) ?_
    obtain ⟨rfl, rfl⟩ := kret hF
    exact hR _ _ _ _ dX5_whistle_9 hw (fun h => nomatch h)
set_option maxRecDepth 100000 in
theorem kcX5_whistle {p : Program} {l : Launch} {e : Env} {R : Room} {s : State} {m : MethodId} {args : Array Value} {below : List Frame} {meth : Method} {c : Code} {H : Heap} {locs : List Loc} {cells slots : Nat} {Q : State → Prop} {cc : ByteArray} {pc : Nat} {ls : Array Slot} {rest : List Value} {E : kE} {σ ω σ1 : kS} {nL index : Nat} {own : String} {r : Int32} (S : CallFix p m c cc nL s args kBIG own) (hw : kWS E s (cmb ω σ) H locs) (cw : kV own RX5 index yX5_whistle cX5_whistle 2 (some .int) 1) (hR : 2 + 1 ≤ R.frames ∧ 8 + (2 + 11) + 40 * 2 ≤ R.locals) {a1 : Int32}  (hF : fX5_whistle a1 σ = some (r, σ1)) (hls : ls.size = nL) (hW : (rest.map fun v => v.category).sum ≤ 8) (hdg : decode cc pc = .ok (.invokevirtual index, 3)) (kk : ∀ (H1 : Heap) (locs1 : List Loc), kWS E s (cmb ω σ1) H1 locs1 → W p l e R s m args below meth c H1 locs1 cells slots Q (F0 m (pc + 3) ls (.int r :: rest))) (hf : cells ≤ R.cells ∧ slots ≤ R.slots := by exact ⟨Nat.le_of_ble_eq_true rfl, Nat.le_of_ble_eq_true rfl⟩) : W p l e R s m args below meth c H locs cells slots Q (F0 m pc ls (.int a1 :: .ref (ead E 26) :: rest)) := kr_calli (mc := 0) (y := yX5_whistle) (b := cX5_whistle) (n := 0) (lv := 0) (As := []) (ret := some .int) hw (kr_runV (As := [.int a1]) (q := 26) S hw ((mX5_whistle (l := l) (E := E) (ω := ω) hF) H.size) cw hR rfl (by decide) rfl rfl hls _ rfl hW hdg hf) (fun H1 locs1 h _ => kk H1 locs1 h)
set_option maxHeartbeats 4000000 in
set_option maxRecDepth 100000 in
theorem mX5_as {l : Launch} {E : kE} {ω σ σ1 : kS} {r : Int32} {a1 : Int32} {a2 : Int32}  (hF : fX5_as a1 a2 σ = some (r, σ1)) : kMetI l yX5_as cX5_as 3 (some .int) 2 E [.ref (ead E 26), .int a1, .int a2] (cmb ω σ) r (cmb ω σ1) := by
  refine kMetI.of (by decide +kernel) (Nat.le_of_ble_eq_true rfl) (Or.inl rfl) ?_
  intro p e s m args below meth c Q ls S hR hw hl
  have hl : lv_has ls 3 [(0, .ref (ead E 26)), (1, .int a1), (2, .int a2)] := hl
  unfold fX5_as at hF
  refine lv_aload_n S.1 S.2.1 dX5_as_0 rfl (lv_at hl 0 rfl) ?_
  refine lv_iload_n S.1 S.2.1 dX5_as_1 rfl (lv_at hl 1 rfl) ?_
  obtain ⟨r3, σ2, e1, hF⟩ := kbi_e hF
  refine kcX5_noPerson S hw cv_X5_162 ⟨Nat.le_of_ble_eq_true rfl, Nat.le_of_ble_eq_true rfl⟩ e1 hl.1 (Nat.le_of_ble_eq_true rfl) dX5_as_2 (fun H locs hw hz4 => ?_)
  refine lv_if_eq (tgt := 14) S.1 S.2.1 dX5_as_5 (by decide) (fun c5 => ?_) (fun c5 => ?_)
  · replace hF := kit hF c5
    refine lv_iload_n S.1 S.2.1 dX5_as_14 rfl (lv_at hl 2 rfl) ?_
    refine lv_i2l S.1 S.2.1 dX5_as_15 rfl ?_
    refine lv_lconst (v := 0) S.1 S.2.1 dX5_as_16 (by decide) ?_
    refine lv_ldc2 (v := 2) S.1 S.2.1 S.2.2.2.1 (S.2.2.2.2 _ q3_82) dX5_as_17 ?_
    obtain ⟨r8, σ7, e6, hF⟩ := kbi_e hF
    refine kcX5_in S hw cv_X5_83 ⟨Nat.le_of_ble_eq_true rfl, Nat.le_of_ble_eq_true rfl⟩ e6 hl.1 (Nat.le_of_ble_eq_true rfl) dX5_as_20 (fun H locs hw hz9 => ?_)
    refine lv_if_ne (tgt := 33) S.1 S.2.1 dX5_as_23 (by decide) (fun c10 => ?_) (fun c10 => ?_)
    · replace hF := kif hF c10
      refine lv_aload_n S.1 S.2.1 dX5_as_33 rfl (lv_at hl 0 rfl) ?_
      refine gf_X5_7 S hw dX5_as_34 ?_
      refine lv_iload_n S.1 S.2.1 dX5_as_37 rfl (lv_at hl 1 rfl) ?_
      obtain ⟨hb11, hF⟩ := kin hF
      refine km_iald (q := 1) S hw rfl (Nat.le_of_ble_eq_true rfl) hb11 dX5_as_38 ?_
      refine lv_iload_n S.1 S.2.1 dX5_as_39 rfl (lv_at hl 2 rfl) ?_
      refine lv_icmp_lt (tgt := 51) S.1 S.2.1 dX5_as_40 (by decide) (fun c12 => ?_) (fun c12 => ?_)
      · replace hF := kit hF c12
        refine lv_aload_n S.1 S.2.1 dX5_as_51 rfl (lv_at hl 0 rfl) ?_
        refine lv_iconst (v := 2) S.1 S.2.1 dX5_as_52 (by decide) ?_
        obtain ⟨r15, σ14, e13, hF⟩ := kbi_e hF
        refine kcX5_failed S hw cv_X5_111 ⟨Nat.le_of_ble_eq_true rfl, Nat.le_of_ble_eq_true rfl⟩ e13 hl.1 (Nat.le_of_ble_eq_true rfl) dX5_as_53 (fun H locs hw => ?_)
        obtain ⟨rfl, rfl⟩ := kret hF
        exact hR _ _ _ _ dX5_as_56 hw (fun h => nomatch h)
      · replace hF := kif hF c12
        refine lv_aload_n S.1 S.2.1 dX5_as_43 rfl (lv_at hl 0 rfl) ?_
        refine lv_iconst (v := 1) S.1 S.2.1 dX5_as_44 (by decide) ?_
        obtain ⟨r18, σ17, e16, hF⟩ := kbi_e hF
        refine kcX5_refused S hw cv_X5_123 ⟨Nat.le_of_ble_eq_true rfl, Nat.le_of_ble_eq_true rfl⟩ e16 hl.1 (Nat.le_of_ble_eq_true rfl) dX5_as_45 (fun H locs hw => ?_)
        refine lv_goto (tgt := 56) S.1 S.2.1 dX5_as_48 (by decide) ?_
        obtain ⟨rfl, rfl⟩ := kret hF
        exact hR _ _ _ _ dX5_as_56 hw (fun h => nomatch h)
    · replace hF := kit hF c10
      refine lv_aload_n S.1 S.2.1 dX5_as_26 rfl (lv_at hl 0 rfl) ?_
      refine lv_bipush (v := (-2)) S.1 S.2.1 dX5_as_27 (by decide) ?_
      obtain ⟨r21, σ20, e19, hF⟩ := kbi_e hF
      refine kcX5_refused S hw cv_X5_123 ⟨Nat.le_of_ble_eq_true rfl, Nat.le_of_ble_eq_true rfl⟩ e19 hl.1 (Nat.le_of_ble_eq_true rfl) dX5_as_29 (fun H locs hw => ?_)
      obtain ⟨rfl, rfl⟩ := kret hF
      exact hR _ _ _ _ dX5_as_32 hw (fun h => nomatch h)
  · replace hF := kif hF c5
    refine lv_aload_n S.1 S.2.1 dX5_as_8 rfl (lv_at hl 0 rfl) ?_
    refine lv_iconst (v := (-1)) S.1 S.2.1 dX5_as_9 (by decide) ?_
    obtain ⟨r24, σ23, e22, hF⟩ := kbi_e hF
    refine kcX5_refused S hw cv_X5_123 ⟨Nat.le_of_ble_eq_true rfl, Nat.le_of_ble_eq_true rfl⟩ e22 hl.1 (Nat.le_of_ble_eq_true rfl) dX5_as_10 (fun H locs hw => ?_)
    obtain ⟨rfl, rfl⟩ := kret hF
    exact hR _ _ _ _ dX5_as_13 hw (fun h => nomatch h)
set_option maxRecDepth 100000 in
theorem kcX5_as {p : Program} {l : Launch} {e : Env} {R : Room} {s : State} {m : MethodId} {args : Array Value} {below : List Frame} {meth : Method} {c : Code} {H : Heap} {locs : List Loc} {cells slots : Nat} {Q : State → Prop} {cc : ByteArray} {pc : Nat} {ls : Array Slot} {rest : List Value} {E : kE} {σ ω σ1 : kS} {nL index : Nat} {own : String} {r : Int32} (S : CallFix p m c cc nL s args kBIG own) (hw : kWS E s (cmb ω σ) H locs) (cw : kV own RX5 index yX5_as cX5_as 3 (some .int) 2) (hR : 2 + 1 ≤ R.frames ∧ 8 + (3 + 11) + 40 * 2 ≤ R.locals) {a1 : Int32} {a2 : Int32}  (hF : fX5_as a1 a2 σ = some (r, σ1)) (hls : ls.size = nL) (hW : (rest.map fun v => v.category).sum ≤ 8) (hdg : decode cc pc = .ok (.invokevirtual index, 3)) (kk : ∀ (H1 : Heap) (locs1 : List Loc), kWS E s (cmb ω σ1) H1 locs1 → W p l e R s m args below meth c H1 locs1 cells slots Q (F0 m (pc + 3) ls (.int r :: rest))) (hf : cells ≤ R.cells ∧ slots ≤ R.slots := by exact ⟨Nat.le_of_ble_eq_true rfl, Nat.le_of_ble_eq_true rfl⟩) : W p l e R s m args below meth c H locs cells slots Q (F0 m pc ls (.int a2 :: .int a1 :: .ref (ead E 26) :: rest)) := kr_calli (mc := 0) (y := yX5_as) (b := cX5_as) (n := 0) (lv := 0) (As := []) (ret := some .int) hw (kr_runV (As := [.int a1, .int a2]) (q := 26) S hw ((mX5_as (l := l) (E := E) (ω := ω) hF) H.size) cw hR rfl (by decide) rfl rfl hls _ rfl hW hdg hf) (fun H1 locs1 h _ => kk H1 locs1 h)
set_option maxHeartbeats 4000000 in
set_option maxRecDepth 100000 in
theorem mX5_trace {l : Launch} {E : kE} {ω σ σ1 : kS} {r : Int32}   (hF : fX5_trace σ = some (r, σ1)) : kMetI l yX5_trace cX5_trace 1 (some .int) 0 E [.ref (ead E 26)] (cmb ω σ) r (cmb ω σ1) := by
  refine kMetI.of (by decide +kernel) (Nat.le_of_ble_eq_true rfl) (Or.inl rfl) ?_
  intro p e s m args below meth c Q ls S hR hw hl
  have hl : lv_has ls 1 [(0, .ref (ead E 26))] := hl
  unfold fX5_trace at hF
  refine lv_aload_n S.1 S.2.1 dX5_trace_0 rfl (lv_at hl 0 rfl) ?_
  refine gf_X5_246 S hw dX5_trace_1 ?_
  obtain ⟨rfl, rfl⟩ := kret hF
  exact hR _ _ _ _ dX5_trace_4 hw (fun h => nomatch h)
set_option maxRecDepth 100000 in
theorem kcX5_trace {p : Program} {l : Launch} {e : Env} {R : Room} {s : State} {m : MethodId} {args : Array Value} {below : List Frame} {meth : Method} {c : Code} {H : Heap} {locs : List Loc} {cells slots : Nat} {Q : State → Prop} {cc : ByteArray} {pc : Nat} {ls : Array Slot} {rest : List Value} {E : kE} {σ ω σ1 : kS} {nL index : Nat} {own : String} {r : Int32} (S : CallFix p m c cc nL s args kBIG own) (hw : kWS E s (cmb ω σ) H locs) (cw : kV own RX5 index yX5_trace cX5_trace 1 (some .int) 0) (hR : 0 + 1 ≤ R.frames ∧ 8 + (1 + 11) + 40 * 0 ≤ R.locals)   (hF : fX5_trace σ = some (r, σ1)) (hls : ls.size = nL) (hW : (rest.map fun v => v.category).sum ≤ 8) (hdg : decode cc pc = .ok (.invokevirtual index, 3)) (kk : ∀ (H1 : Heap) (locs1 : List Loc), kWS E s (cmb ω σ1) H1 locs1 → W p l e R s m args below meth c H1 locs1 cells slots Q (F0 m (pc + 3) ls (.int r :: rest))) (hf : cells ≤ R.cells ∧ slots ≤ R.slots := by exact ⟨Nat.le_of_ble_eq_true rfl, Nat.le_of_ble_eq_true rfl⟩) : W p l e R s m args below meth c H locs cells slots Q (F0 m pc ls (.ref (ead E 26) :: rest)) := kr_calli (mc := 0) (y := yX5_trace) (b := cX5_trace) (n := 0) (lv := 0) (As := []) (ret := some .int) hw (kr_runV (As := []) (q := 26) S hw ((mX5_trace (l := l) (E := E) (ω := ω) hF) H.size) cw hR rfl (by decide) rfl rfl hls _ rfl hW hdg hf) (fun H1 locs1 h _ => kk H1 locs1 h)
set_option maxHeartbeats 4000000 in
set_option maxRecDepth 100000 in
theorem mX5_fault {l : Launch} {E : kE} {ω σ σ1 : kS} {r : Int32}   (hF : fX5_fault σ = some (r, σ1)) : kMetI l yX5_fault cX5_fault 1 (some .int) 0 E [.ref (ead E 26)] (cmb ω σ) r (cmb ω σ1) := by
  refine kMetI.of (by decide +kernel) (Nat.le_of_ble_eq_true rfl) (Or.inl rfl) ?_
  intro p e s m args below meth c Q ls S hR hw hl
  have hl : lv_has ls 1 [(0, .ref (ead E 26))] := hl
  unfold fX5_fault at hF
  refine lv_aload_n S.1 S.2.1 dX5_fault_0 rfl (lv_at hl 0 rfl) ?_
  refine gf_X5_72 S hw dX5_fault_1 ?_
  obtain ⟨rfl, rfl⟩ := kret hF
  exact hR _ _ _ _ dX5_fault_4 hw (fun h => nomatch h)
set_option maxRecDepth 100000 in
theorem kcX5_fault {p : Program} {l : Launch} {e : Env} {R : Room} {s : State} {m : MethodId} {args : Array Value} {below : List Frame} {meth : Method} {c : Code} {H : Heap} {locs : List Loc} {cells slots : Nat} {Q : State → Prop} {cc : ByteArray} {pc : Nat} {ls : Array Slot} {rest : List Value} {E : kE} {σ ω σ1 : kS} {nL index : Nat} {own : String} {r : Int32} (S : CallFix p m c cc nL s args kBIG own) (hw : kWS E s (cmb ω σ) H locs) (cw : kV own RX5 index yX5_fault cX5_fault 1 (some .int) 0) (hR : 0 + 1 ≤ R.frames ∧ 8 + (1 + 11) + 40 * 0 ≤ R.locals)   (hF : fX5_fault σ = some (r, σ1)) (hls : ls.size = nL) (hW : (rest.map fun v => v.category).sum ≤ 8) (hdg : decode cc pc = .ok (.invokevirtual index, 3)) (kk : ∀ (H1 : Heap) (locs1 : List Loc), kWS E s (cmb ω σ1) H1 locs1 → W p l e R s m args below meth c H1 locs1 cells slots Q (F0 m (pc + 3) ls (.int r :: rest))) (hf : cells ≤ R.cells ∧ slots ≤ R.slots := by exact ⟨Nat.le_of_ble_eq_true rfl, Nat.le_of_ble_eq_true rfl⟩) : W p l e R s m args below meth c H locs cells slots Q (F0 m pc ls (.ref (ead E 26) :: rest)) := kr_calli (mc := 0) (y := yX5_fault) (b := cX5_fault) (n := 0) (lv := 0) (As := []) (ret := some .int) hw (kr_runV (As := []) (q := 26) S hw ((mX5_fault (l := l) (E := E) (ω := ω) hF) H.size) cw hR rfl (by decide) rfl rfl hls _ rfl hW hdg hf) (fun H1 locs1 h _ => kk H1 locs1 h)
set_option maxHeartbeats 4000000 in
set_option maxRecDepth 100000 in
theorem mX5_many {l : Launch} {E : kE} {ω σ σ1 : kS} {r : Int32} {a1 : Int32}  (hF : fX5_many a1 σ = some (r, σ1)) : kMetI l yX5_many cX5_many 2 (some .int) 0 E [.ref (ead E 26), .int a1] (cmb ω σ) r (cmb ω σ1) := by
  refine kMetI.of (by decide +kernel) (Nat.le_of_ble_eq_true rfl) (Or.inl rfl) ?_
  intro p e s m args below meth c Q ls S hR hw hl
  have hl : lv_has ls 2 [(0, .ref (ead E 26)), (1, .int a1)] := hl
  unfold fX5_many at hF
  refine lv_iload_n S.1 S.2.1 dX5_many_0 rfl (lv_at hl 1 rfl) ?_
  by_cases c1 : a1 = 0
  · replace hF := kit hF c1
    refine lv_tableIn (tgt := 36) S.1 S.2.1 dX5_many_1 (by rw [c1]; decide) (by rw [c1]; decide) (by rw [c1]; rfl) (by decide) ?_
    refine lv_aload_n S.1 S.2.1 dX5_many_36 rfl (lv_at hl 0 rfl) ?_
    refine gf_X5_80 S hw dX5_many_37 ?_
    obtain ⟨rfl, rfl⟩ := kret hF
    exact hR _ _ _ _ dX5_many_40 hw (fun h => nomatch h)
  · replace hF := kif hF c1
    by_cases c2 : a1 = 1
    · replace hF := kit hF c2
      refine lv_tableIn (tgt := 41) S.1 S.2.1 dX5_many_1 (by rw [c2]; decide) (by rw [c2]; decide) (by rw [c2]; rfl) (by decide) ?_
      refine lv_aload_n S.1 S.2.1 dX5_many_41 rfl (lv_at hl 0 rfl) ?_
      refine gf_X5_135 S hw dX5_many_42 ?_
      obtain ⟨rfl, rfl⟩ := kret hF
      exact hR _ _ _ _ dX5_many_45 hw (fun h => nomatch h)
    · replace hF := kif hF c2
      by_cases c3 : a1 = 2
      · replace hF := kit hF c3
        refine lv_tableIn (tgt := 46) S.1 S.2.1 dX5_many_1 (by rw [c3]; decide) (by rw [c3]; decide) (by rw [c3]; rfl) (by decide) ?_
        refine lv_aload_n S.1 S.2.1 dX5_many_46 rfl (lv_at hl 0 rfl) ?_
        refine gf_X5_138 S hw dX5_many_47 ?_
        obtain ⟨rfl, rfl⟩ := kret hF
        exact hR _ _ _ _ dX5_many_50 hw (fun h => nomatch h)
      · replace hF := kif hF c3
        by_cases c4 : a1 = 3
        · replace hF := kit hF c4
          refine lv_tableIn (tgt := 51) S.1 S.2.1 dX5_many_1 (by rw [c4]; decide) (by rw [c4]; decide) (by rw [c4]; rfl) (by decide) ?_
          refine lv_aload_n S.1 S.2.1 dX5_many_51 rfl (lv_at hl 0 rfl) ?_
          refine gf_X5_141 S hw dX5_many_52 ?_
          obtain ⟨rfl, rfl⟩ := kret hF
          exact hR _ _ _ _ dX5_many_55 hw (fun h => nomatch h)
        · replace hF := kif hF c4
          by_cases c5 : a1 = 4
          · replace hF := kit hF c5
            refine lv_tableIn (tgt := 56) S.1 S.2.1 dX5_many_1 (by rw [c5]; decide) (by rw [c5]; decide) (by rw [c5]; rfl) (by decide) ?_
            refine lv_aload_n S.1 S.2.1 dX5_many_56 rfl (lv_at hl 0 rfl) ?_
            refine gf_X5_144 S hw dX5_many_57 ?_
            obtain ⟨rfl, rfl⟩ := kret hF
            exact hR _ _ _ _ dX5_many_60 hw (fun h => nomatch h)
          · replace hF := kif hF c5
            refine lv_tableOut (tgt := 61) S.1 S.2.1 dX5_many_1 (ktab5 c1 c2 c3 c4 c5) (by decide) ?_
            refine lv_bipush (v := (-2)) S.1 S.2.1 dX5_many_61 (by decide) ?_
            obtain ⟨rfl, rfl⟩ := kret hF
            exact hR _ _ _ _ dX5_many_63 hw (fun h => nomatch h)
set_option maxRecDepth 100000 in
theorem kcX5_many {p : Program} {l : Launch} {e : Env} {R : Room} {s : State} {m : MethodId} {args : Array Value} {below : List Frame} {meth : Method} {c : Code} {H : Heap} {locs : List Loc} {cells slots : Nat} {Q : State → Prop} {cc : ByteArray} {pc : Nat} {ls : Array Slot} {rest : List Value} {E : kE} {σ ω σ1 : kS} {nL index : Nat} {own : String} {r : Int32} (S : CallFix p m c cc nL s args kBIG own) (hw : kWS E s (cmb ω σ) H locs) (cw : kV own RX5 index yX5_many cX5_many 2 (some .int) 1) (hR : 0 + 1 ≤ R.frames ∧ 8 + (2 + 11) + 40 * 0 ≤ R.locals) {a1 : Int32}  (hF : fX5_many a1 σ = some (r, σ1)) (hls : ls.size = nL) (hW : (rest.map fun v => v.category).sum ≤ 8) (hdg : decode cc pc = .ok (.invokevirtual index, 3)) (kk : ∀ (H1 : Heap) (locs1 : List Loc), kWS E s (cmb ω σ1) H1 locs1 → W p l e R s m args below meth c H1 locs1 cells slots Q (F0 m (pc + 3) ls (.int r :: rest))) (hf : cells ≤ R.cells ∧ slots ≤ R.slots := by exact ⟨Nat.le_of_ble_eq_true rfl, Nat.le_of_ble_eq_true rfl⟩) : W p l e R s m args below meth c H locs cells slots Q (F0 m pc ls (.int a1 :: .ref (ead E 26) :: rest)) := kr_calli (mc := 0) (y := yX5_many) (b := cX5_many) (n := 0) (lv := 0) (As := []) (ret := some .int) hw (kr_runV (As := [.int a1]) (q := 26) S hw ((mX5_many (l := l) (E := E) (ω := ω) hF) H.size) cw hR rfl (by decide) rfl rfl hls _ rfl hW hdg hf) (fun H1 locs1 h _ => kk H1 locs1 h)
