set_option maxHeartbeats 4000000 in
set_option maxRecDepth 100000 in
theorem mX4_begins {l : Launch} {E : kE} {ω σ σ1 : kS} {a1 : Int32}  (hF : fX4_begins a1 σ = some σ1) : kMetV l yX4_begins cX4_begins 2 0 E [.ref (ead E 0), .int a1] (cmb σ ω) (cmb σ1 ω) := by
  refine kMetV.of (by decide +kernel) (Nat.le_of_ble_eq_true rfl) ?_
  intro p e s m args below meth c Q ls S hR hw hl
  have hl : lv_has ls 2 [(0, .ref (ead E 0)), (1, .int a1)] := hl
  unfold fX4_begins at hF
  refine lv_aload_n S.1 S.2.1 dX4_begins_0 rfl (lv_at hl 0 rfl) ?_
  refine lv_bipush (v := 31) S.1 S.2.1 dX4_begins_1 (by decide) ?_
  refine lv_aload_n S.1 S.2.1 dX4_begins_3 rfl (lv_at hl 0 rfl) ?_
  refine gf_X4_215 (q := 0) S hw rfl (Nat.le_of_ble_eq_true rfl) rfl dX4_begins_4 ?_
  refine lv_imul S.1 S.2.1 dX4_begins_7 ?_
  refine lv_iload_n S.1 S.2.1 dX4_begins_8 rfl (lv_at hl 1 rfl) ?_
  refine lv_iadd S.1 S.2.1 dX4_begins_9 ?_
  refine pf_X4_215 (q := 0) S hw rfl (Nat.le_of_ble_eq_true rfl) rfl dX4_begins_10 (fun H locs hw => ?_)
  cases kre hF
  exact hR _ _ _ _ dX4_begins_13 hw
set_option maxRecDepth 100000 in
theorem kcX4_begins {p : Program} {l : Launch} {e : Env} {R : Room} {s : State} {m : MethodId} {args : Array Value} {below : List Frame} {meth : Method} {c : Code} {H : Heap} {locs : List Loc} {cells slots : Nat} {Q : State → Prop} {cc : ByteArray} {pc : Nat} {ls : Array Slot} {rest : List Value} {E : kE} {σ ω σ1 : kS} {nL index : Nat} {own : String} (S : CallFix p m c cc nL s args kBIG own) (hw : kWS E s (cmb σ ω) H locs) (cw : kV own RX4 index yX4_begins cX4_begins 2 none 1) (hR : 0 + 1 ≤ R.frames ∧ 8 + (2 + 11) + 40 * 0 ≤ R.locals) {a1 : Int32}  (hF : fX4_begins a1 σ = some σ1) (hls : ls.size = nL) (hW : (rest.map fun v => v.category).sum ≤ 8) (hdg : decode cc pc = .ok (.invokevirtual index, 3)) (kk : ∀ (H1 : Heap) (locs1 : List Loc), kWS E s (cmb σ1 ω) H1 locs1 → W p l e R s m args below meth c H1 locs1 cells slots Q (F0 m (pc + 3) ls rest)) (hf : cells ≤ R.cells ∧ slots ≤ R.slots := by exact ⟨Nat.le_of_ble_eq_true rfl, Nat.le_of_ble_eq_true rfl⟩) : W p l e R s m args below meth c H locs cells slots Q (F0 m pc ls (.int a1 :: .ref (ead E 0) :: rest)) := kr_callv hw (kr_runV (As := [.int a1]) (q := 0) S hw ((mX4_begins (l := l) (E := E) (ω := ω) hF) H.size) cw hR rfl (by decide) rfl rfl hls _ rfl hW hdg hf) kk
set_option maxHeartbeats 4000000 in
set_option maxRecDepth 100000 in
theorem mX4_toldByPlain {l : Launch} {E : kE} {ω σ σ1 : kS} {r : Int32} {a1 : Int32}  (hF : fX4_toldByPlain a1 σ = some (r, σ1)) : kMetI l yX4_toldByPlain cX4_toldByPlain 2 (some .int) 1 E [.ref (ead E 0), .int a1] (cmb σ ω) r (cmb σ1 ω) := by
  refine kMetI.of (by decide +kernel) (Nat.le_of_ble_eq_true rfl) (Or.inl rfl) ?_
  intro p e s m args below meth c Q ls S hR hw hl
  have hl : lv_has ls 2 [(0, .ref (ead E 0)), (1, .int a1)] := hl
  unfold fX4_toldByPlain at hF
  refine lv_aload_n S.1 S.2.1 dX4_toldByPlain_0 rfl (lv_at hl 0 rfl) ?_
  refine lv_iconst (v := 1) S.1 S.2.1 dX4_toldByPlain_1 (by decide) ?_
  obtain ⟨σ2, e1, hF⟩ := kbv_e hF
  refine kcX4_begins S hw cv_X4_211 ⟨Nat.le_of_ble_eq_true rfl, Nat.le_of_ble_eq_true rfl⟩ e1 hl.1 (Nat.le_of_ble_eq_true rfl) dX4_toldByPlain_2 (fun H locs hw => ?_)
  refine lv_aload_n S.1 S.2.1 dX4_toldByPlain_5 rfl (lv_at hl 0 rfl) ?_
  refine gf_X4_12 (q := 0) S hw rfl (Nat.le_of_ble_eq_true rfl) rfl dX4_toldByPlain_6 ?_
  refine gf_X4_101 (q := 1) S hw rfl (Nat.le_of_ble_eq_true rfl) rfl dX4_toldByPlain_9 ?_
  refine lv_iload_n S.1 S.2.1 dX4_toldByPlain_12 rfl (lv_at hl 1 rfl) ?_
  obtain ⟨hb3, hF⟩ := kin hF
  refine kx_iald (q := 3) S hw rfl (Nat.le_of_ble_eq_true rfl) hb3 dX4_toldByPlain_13 ?_
  obtain ⟨rfl, rfl⟩ := kret hF
  exact hR _ _ _ _ dX4_toldByPlain_14 hw (fun h => nomatch h)
set_option maxRecDepth 100000 in
theorem kcX4_toldByPlain {p : Program} {l : Launch} {e : Env} {R : Room} {s : State} {m : MethodId} {args : Array Value} {below : List Frame} {meth : Method} {c : Code} {H : Heap} {locs : List Loc} {cells slots : Nat} {Q : State → Prop} {cc : ByteArray} {pc : Nat} {ls : Array Slot} {rest : List Value} {E : kE} {σ ω σ1 : kS} {nL index : Nat} {own : String} {r : Int32} (S : CallFix p m c cc nL s args kBIG own) (hw : kWS E s (cmb σ ω) H locs) (cw : kV own RX4 index yX4_toldByPlain cX4_toldByPlain 2 (some .int) 1) (hR : 1 + 1 ≤ R.frames ∧ 8 + (2 + 11) + 40 * 1 ≤ R.locals) {a1 : Int32}  (hF : fX4_toldByPlain a1 σ = some (r, σ1)) (hls : ls.size = nL) (hW : (rest.map fun v => v.category).sum ≤ 8) (hdg : decode cc pc = .ok (.invokevirtual index, 3)) (kk : ∀ (H1 : Heap) (locs1 : List Loc), kWS E s (cmb σ1 ω) H1 locs1 → W p l e R s m args below meth c H1 locs1 cells slots Q (F0 m (pc + 3) ls (.int r :: rest))) (hf : cells ≤ R.cells ∧ slots ≤ R.slots := by exact ⟨Nat.le_of_ble_eq_true rfl, Nat.le_of_ble_eq_true rfl⟩) : W p l e R s m args below meth c H locs cells slots Q (F0 m pc ls (.int a1 :: .ref (ead E 0) :: rest)) := kr_calli (mc := 0) (y := yX4_toldByPlain) (b := cX4_toldByPlain) (n := 0) (lv := 0) (As := []) (ret := some .int) hw (kr_runV (As := [.int a1]) (q := 0) S hw ((mX4_toldByPlain (l := l) (E := E) (ω := ω) hF) H.size) cw hR rfl (by decide) rfl rfl hls _ rfl hW hdg hf) (fun H1 locs1 h _ => kk H1 locs1 h)
set_option maxHeartbeats 4000000 in
set_option maxRecDepth 100000 in
theorem mX4_toldByRank {l : Launch} {E : kE} {ω σ σ1 : kS} {r : Int32} {a1 : Int32}  (hF : fX4_toldByRank a1 σ = some (r, σ1)) : kMetI l yX4_toldByRank cX4_toldByRank 2 (some .int) 2 E [.ref (ead E 0), .int a1] (cmb σ ω) r (cmb σ1 ω) := by
  refine kMetI.of (by decide +kernel) (Nat.le_of_ble_eq_true rfl) (Or.inl rfl) ?_
  intro p e s m args below meth c Q ls S hR hw hl
  have hl : lv_has ls 2 [(0, .ref (ead E 0)), (1, .int a1)] := hl
  unfold fX4_toldByRank at hF
  refine lv_aload_n S.1 S.2.1 dX4_toldByRank_0 rfl (lv_at hl 0 rfl) ?_
  refine lv_iconst (v := 2) S.1 S.2.1 dX4_toldByRank_1 (by decide) ?_
  obtain ⟨σ2, e1, hF⟩ := kbv_e hF
  refine kcX4_begins S hw cv_X4_211 ⟨Nat.le_of_ble_eq_true rfl, Nat.le_of_ble_eq_true rfl⟩ e1 hl.1 (Nat.le_of_ble_eq_true rfl) dX4_toldByRank_2 (fun H locs hw => ?_)
  refine lv_aload_n S.1 S.2.1 dX4_toldByRank_5 rfl (lv_at hl 0 rfl) ?_
  refine lv_iload_n S.1 S.2.1 dX4_toldByRank_6 rfl (lv_at hl 1 rfl) ?_
  obtain ⟨r5, σ4, e3, hF⟩ := kbi_e hF
  refine kcX4_toldByPlain S hw cv_X4_208 ⟨Nat.le_of_ble_eq_true rfl, Nat.le_of_ble_eq_true rfl⟩ e3 hl.1 (Nat.le_of_ble_eq_true rfl) dX4_toldByRank_7 (fun H locs hw => ?_)
  refine lv_bipush (v := 100) S.1 S.2.1 dX4_toldByRank_10 (by decide) ?_
  refine lv_iadd S.1 S.2.1 dX4_toldByRank_12 ?_
  obtain ⟨rfl, rfl⟩ := kret hF
  exact hR _ _ _ _ dX4_toldByRank_13 hw (fun h => nomatch h)
set_option maxRecDepth 100000 in
theorem kcX4_toldByRank {p : Program} {l : Launch} {e : Env} {R : Room} {s : State} {m : MethodId} {args : Array Value} {below : List Frame} {meth : Method} {c : Code} {H : Heap} {locs : List Loc} {cells slots : Nat} {Q : State → Prop} {cc : ByteArray} {pc : Nat} {ls : Array Slot} {rest : List Value} {E : kE} {σ ω σ1 : kS} {nL index : Nat} {own : String} {r : Int32} (S : CallFix p m c cc nL s args kBIG own) (hw : kWS E s (cmb σ ω) H locs) (cw : kV own RX4 index yX4_toldByRank cX4_toldByRank 2 (some .int) 1) (hR : 2 + 1 ≤ R.frames ∧ 8 + (2 + 11) + 40 * 2 ≤ R.locals) {a1 : Int32}  (hF : fX4_toldByRank a1 σ = some (r, σ1)) (hls : ls.size = nL) (hW : (rest.map fun v => v.category).sum ≤ 8) (hdg : decode cc pc = .ok (.invokevirtual index, 3)) (kk : ∀ (H1 : Heap) (locs1 : List Loc), kWS E s (cmb σ1 ω) H1 locs1 → W p l e R s m args below meth c H1 locs1 cells slots Q (F0 m (pc + 3) ls (.int r :: rest))) (hf : cells ≤ R.cells ∧ slots ≤ R.slots := by exact ⟨Nat.le_of_ble_eq_true rfl, Nat.le_of_ble_eq_true rfl⟩) : W p l e R s m args below meth c H locs cells slots Q (F0 m pc ls (.int a1 :: .ref (ead E 0) :: rest)) := kr_calli (mc := 0) (y := yX4_toldByRank) (b := cX4_toldByRank) (n := 0) (lv := 0) (As := []) (ret := some .int) hw (kr_runV (As := [.int a1]) (q := 0) S hw ((mX4_toldByRank (l := l) (E := E) (ω := ω) hF) H.size) cw hR rfl (by decide) rfl rfl hls _ rfl hW hdg hf) (fun H1 locs1 h _ => kk H1 locs1 h)
set_option maxHeartbeats 4000000 in
set_option maxRecDepth 100000 in
theorem mX4_toldByReeking {l : Launch} {E : kE} {ω σ σ1 : kS} {r : Int32} {a1 : Int32}  (hF : fX4_toldByReeking a1 σ = some (r, σ1)) : kMetI l yX4_toldByReeking cX4_toldByReeking 3 (some .int) 3 E [.ref (ead E 0), .int a1] (cmb σ ω) r (cmb σ1 ω) := by
  refine kMetI.of (by decide +kernel) (Nat.le_of_ble_eq_true rfl) (Or.inl rfl) ?_
  intro p e s m args below meth c Q ls S hR hw hl
  have hl : lv_has ls 3 [(0, .ref (ead E 0)), (1, .int a1)] := hl
  unfold fX4_toldByReeking at hF
  refine lv_aload_n S.1 S.2.1 dX4_toldByReeking_0 rfl (lv_at hl 0 rfl) ?_
  refine lv_iconst (v := 3) S.1 S.2.1 dX4_toldByReeking_1 (by decide) ?_
  obtain ⟨σ2, e1, hF⟩ := kbv_e hF
  refine kcX4_begins S hw cv_X4_211 ⟨Nat.le_of_ble_eq_true rfl, Nat.le_of_ble_eq_true rfl⟩ e1 hl.1 (Nat.le_of_ble_eq_true rfl) dX4_toldByReeking_2 (fun H locs hw => ?_)
  refine lv_aload_n S.1 S.2.1 dX4_toldByReeking_5 rfl (lv_at hl 0 rfl) ?_
  refine lv_iload_n S.1 S.2.1 dX4_toldByReeking_6 rfl (lv_at hl 1 rfl) ?_
  obtain ⟨r5, σ4, e3, hF⟩ := kbi_e hF
  refine kcX4_toldByRank S hw cv_X4_205 ⟨Nat.le_of_ble_eq_true rfl, Nat.le_of_ble_eq_true rfl⟩ e3 hl.1 (Nat.le_of_ble_eq_true rfl) dX4_toldByReeking_7 (fun H locs hw => ?_)
  refine lv_istore_n (lv' := [(2, .int r5), (0, .ref (ead E 0)), (1, .int a1)]) S.1 S.2.1 dX4_toldByReeking_10 rfl hl (by decide) rfl (fun ls hl => ?_)
  refine lv_iload_n S.1 S.2.1 dX4_toldByReeking_11 rfl (lv_at hl 0 rfl) ?_
  refine lv_aload_n S.1 S.2.1 dX4_toldByReeking_12 rfl (lv_at hl 1 rfl) ?_
  refine lv_iload_n S.1 S.2.1 dX4_toldByReeking_13 rfl (lv_at hl 2 rfl) ?_
  obtain ⟨r8, σ7, e6, hF⟩ := kbi_e hF
  refine kcX4_toldByPlain S hw cv_X4_208 ⟨Nat.le_of_ble_eq_true rfl, Nat.le_of_ble_eq_true rfl⟩ e6 hl.1 (Nat.le_of_ble_eq_true rfl) dX4_toldByReeking_14 (fun H locs hw => ?_)
  refine lv_iadd S.1 S.2.1 dX4_toldByReeking_17 ?_
  obtain ⟨rfl, rfl⟩ := kret hF
  exact hR _ _ _ _ dX4_toldByReeking_18 hw (fun h => nomatch h)
set_option maxRecDepth 100000 in
theorem kcX4_toldByReeking {p : Program} {l : Launch} {e : Env} {R : Room} {s : State} {m : MethodId} {args : Array Value} {below : List Frame} {meth : Method} {c : Code} {H : Heap} {locs : List Loc} {cells slots : Nat} {Q : State → Prop} {cc : ByteArray} {pc : Nat} {ls : Array Slot} {rest : List Value} {E : kE} {σ ω σ1 : kS} {nL index : Nat} {own : String} {r : Int32} (S : CallFix p m c cc nL s args kBIG own) (hw : kWS E s (cmb σ ω) H locs) (cw : kV own RX4 index yX4_toldByReeking cX4_toldByReeking 3 (some .int) 1) (hR : 3 + 1 ≤ R.frames ∧ 8 + (3 + 11) + 40 * 3 ≤ R.locals) {a1 : Int32}  (hF : fX4_toldByReeking a1 σ = some (r, σ1)) (hls : ls.size = nL) (hW : (rest.map fun v => v.category).sum ≤ 8) (hdg : decode cc pc = .ok (.invokevirtual index, 3)) (kk : ∀ (H1 : Heap) (locs1 : List Loc), kWS E s (cmb σ1 ω) H1 locs1 → W p l e R s m args below meth c H1 locs1 cells slots Q (F0 m (pc + 3) ls (.int r :: rest))) (hf : cells ≤ R.cells ∧ slots ≤ R.slots := by exact ⟨Nat.le_of_ble_eq_true rfl, Nat.le_of_ble_eq_true rfl⟩) : W p l e R s m args below meth c H locs cells slots Q (F0 m pc ls (.int a1 :: .ref (ead E 0) :: rest)) := kr_calli (mc := 0) (y := yX4_toldByReeking) (b := cX4_toldByReeking) (n := 0) (lv := 0) (As := []) (ret := some .int) hw (kr_runV (As := [.int a1]) (q := 0) S hw ((mX4_toldByReeking (l := l) (E := E) (ω := ω) hF) H.size) cw hR rfl (by decide) rfl rfl hls _ rfl hW hdg hf) (fun H1 locs1 h _ => kk H1 locs1 h)
set_option maxHeartbeats 4000000 in
set_option maxRecDepth 100000 in
theorem mX4_tell {l : Launch} {E : kE} {ω σ σ1 : kS} {r : Int32} {a1 : Int32}  (hF : fX4_tell a1 σ = some (r, σ1)) : kMetI l yX4_tell cX4_tell 2 (some .int) 4 E [.ref (ead E 0), .int a1] (cmb σ ω) r (cmb σ1 ω) := by
  refine kMetI.of (by decide +kernel) (Nat.le_of_ble_eq_true rfl) (Or.inl rfl) ?_
  intro p e s m args below meth c Q ls S hR hw hl
  have hl : lv_has ls 2 [(0, .ref (ead E 0)), (1, .int a1)] := hl
  unfold fX4_tell at hF
  refine lv_aload_n S.1 S.2.1 dX4_tell_0 rfl (lv_at hl 0 rfl) ?_
  refine lv_iload_n S.1 S.2.1 dX4_tell_1 rfl (lv_at hl 1 rfl) ?_
  obtain ⟨r3, σ2, e1, hF⟩ := kbi_e hF
  refine kcX4_isPerson S hw cv_X4_95 ⟨Nat.le_of_ble_eq_true rfl, Nat.le_of_ble_eq_true rfl⟩ e1 hl.1 (Nat.le_of_ble_eq_true rfl) dX4_tell_2 (fun H locs hw hz4 => ?_)
  refine lv_if_ne (tgt := 10) S.1 S.2.1 dX4_tell_5 (by decide) (fun c5 => ?_) (fun c5 => ?_)
  · replace hF := kif hF c5
    refine lv_aload_n S.1 S.2.1 dX4_tell_10 rfl (lv_at hl 0 rfl) ?_
    refine gf_X4_12 (q := 0) S hw rfl (Nat.le_of_ble_eq_true rfl) rfl dX4_tell_11 ?_
    refine gf_X4_98 (q := 1) S hw rfl (Nat.le_of_ble_eq_true rfl) rfl dX4_tell_14 ?_
    refine lv_iload_n S.1 S.2.1 dX4_tell_17 rfl (lv_at hl 1 rfl) ?_
    obtain ⟨hb6, hF⟩ := kin hF
    refine kx_iald (q := 2) S hw rfl (Nat.le_of_ble_eq_true rfl) hb6 dX4_tell_18 ?_
    by_cases c7 : (σ2 2 (Int32.toNatClampNeg a1)) = 1
    · replace hF := kit hF c7
      refine lv_lookup (off := 31) (tgt := 50) S.1 S.2.1 dX4_tell_19 (by decide) (by rw [c7]; rfl) (by decide) ?_
      refine lv_aload_n S.1 S.2.1 dX4_tell_50 rfl (lv_at hl 0 rfl) ?_
      refine lv_iload_n S.1 S.2.1 dX4_tell_51 rfl (lv_at hl 1 rfl) ?_
      obtain ⟨r10, σ9, e8, hF⟩ := kbi_e hF
      refine kcX4_toldByRank S hw cv_X4_205 ⟨Nat.le_of_ble_eq_true rfl, Nat.le_of_ble_eq_true rfl⟩ e8 hl.1 (Nat.le_of_ble_eq_true rfl) dX4_tell_52 (fun H locs hw => ?_)
      obtain ⟨rfl, rfl⟩ := kret hF
      exact hR _ _ _ _ dX4_tell_55 hw (fun h => nomatch h)
    · replace hF := kif hF c7
      by_cases c11 : (σ2 2 (Int32.toNatClampNeg a1)) = 2
      · replace hF := kit hF c11
        refine lv_lookup (off := 25) (tgt := 44) S.1 S.2.1 dX4_tell_19 (by decide) (by rw [c11]; rfl) (by decide) ?_
        refine lv_aload_n S.1 S.2.1 dX4_tell_44 rfl (lv_at hl 0 rfl) ?_
        refine lv_iload_n S.1 S.2.1 dX4_tell_45 rfl (lv_at hl 1 rfl) ?_
        obtain ⟨r14, σ13, e12, hF⟩ := kbi_e hF
        refine kcX4_toldByReeking S hw cv_X4_202 ⟨Nat.le_of_ble_eq_true rfl, Nat.le_of_ble_eq_true rfl⟩ e12 hl.1 (Nat.le_of_ble_eq_true rfl) dX4_tell_46 (fun H locs hw => ?_)
        obtain ⟨rfl, rfl⟩ := kret hF
        exact hR _ _ _ _ dX4_tell_49 hw (fun h => nomatch h)
      · replace hF := kif hF c11
        refine lv_lookup (off := 37) (tgt := 56) S.1 S.2.1 dX4_tell_19 (by decide) (klook2 (klk c7 rfl) (klk c11 rfl)) (by decide) ?_
        refine lv_aload_n S.1 S.2.1 dX4_tell_56 rfl (lv_at hl 0 rfl) ?_
        refine lv_iload_n S.1 S.2.1 dX4_tell_57 rfl (lv_at hl 1 rfl) ?_
        obtain ⟨r17, σ16, e15, hF⟩ := kbi_e hF
        refine kcX4_toldByPlain S hw cv_X4_208 ⟨Nat.le_of_ble_eq_true rfl, Nat.le_of_ble_eq_true rfl⟩ e15 hl.1 (Nat.le_of_ble_eq_true rfl) dX4_tell_58 (fun H locs hw => ?_)
        obtain ⟨rfl, rfl⟩ := kret hF
        exact hR _ _ _ _ dX4_tell_61 hw (fun h => nomatch h)
  · replace hF := kit hF c5
    refine lv_iconst (v := (-1)) S.1 S.2.1 dX4_tell_8 (by decide) ?_
    obtain ⟨rfl, rfl⟩ := kret hF
    exact hR _ _ _ _ dX4_tell_9 hw (fun h => nomatch h)
set_option maxRecDepth 100000 in
theorem kcX4_tell {p : Program} {l : Launch} {e : Env} {R : Room} {s : State} {m : MethodId} {args : Array Value} {below : List Frame} {meth : Method} {c : Code} {H : Heap} {locs : List Loc} {cells slots : Nat} {Q : State → Prop} {cc : ByteArray} {pc : Nat} {ls : Array Slot} {rest : List Value} {E : kE} {σ ω σ1 : kS} {nL index : Nat} {own : String} {r : Int32} (S : CallFix p m c cc nL s args kBIG own) (hw : kWS E s (cmb σ ω) H locs) (cw : kV own RX4 index yX4_tell cX4_tell 2 (some .int) 1) (hR : 4 + 1 ≤ R.frames ∧ 8 + (2 + 11) + 40 * 4 ≤ R.locals) {a1 : Int32}  (hF : fX4_tell a1 σ = some (r, σ1)) (hls : ls.size = nL) (hW : (rest.map fun v => v.category).sum ≤ 8) (hdg : decode cc pc = .ok (.invokevirtual index, 3)) (kk : ∀ (H1 : Heap) (locs1 : List Loc), kWS E s (cmb σ1 ω) H1 locs1 → W p l e R s m args below meth c H1 locs1 cells slots Q (F0 m (pc + 3) ls (.int r :: rest))) (hf : cells ≤ R.cells ∧ slots ≤ R.slots := by exact ⟨Nat.le_of_ble_eq_true rfl, Nat.le_of_ble_eq_true rfl⟩) : W p l e R s m args below meth c H locs cells slots Q (F0 m pc ls (.int a1 :: .ref (ead E 0) :: rest)) := kr_calli (mc := 0) (y := yX4_tell) (b := cX4_tell) (n := 0) (lv := 0) (As := []) (ret := some .int) hw (kr_runV (As := [.int a1]) (q := 0) S hw ((mX4_tell (l := l) (E := E) (ω := ω) hF) H.size) cw hR rfl (by decide) rfl rfl hls _ rfl hW hdg hf) (fun H1 locs1 h _ => kk H1 locs1 h)
set_option maxHeartbeats 4000000 in
set_option maxRecDepth 100000 in
theorem mX4_whistle {l : Launch} {E : kE} {ω σ σ1 : kS} {r : Int32} {a1 : Int32}  (hF : fX4_whistle a1 σ = some (r, σ1)) : kMetI l yX4_whistle cX4_whistle 2 (some .int) 2 E [.ref (ead E 0), .int a1] (cmb σ ω) r (cmb σ1 ω) := by
  refine kMetI.of (by decide +kernel) (Nat.le_of_ble_eq_true rfl) (Or.inl rfl) ?_
  intro p e s m args below meth c Q ls S hR hw hl
  have hl : lv_has ls 2 [(0, .ref (ead E 0)), (1, .int a1)] := hl
  unfold fX4_whistle at hF
  refine lv_aload_n S.1 S.2.1 dX4_whistle_0 rfl (lv_at hl 0 rfl) ?_
  refine lv_iload_n S.1 S.2.1 dX4_whistle_1 rfl (lv_at hl 1 rfl) ?_
  obtain ⟨r3, σ2, e1, hF⟩ := kbi_e hF
  refine kcX4_isPerson S hw cv_X4_95 ⟨Nat.le_of_ble_eq_true rfl, Nat.le_of_ble_eq_true rfl⟩ e1 hl.1 (Nat.le_of_ble_eq_true rfl) dX4_whistle_2 (fun H locs hw hz4 => ?_)
  refine lv_if_ne (tgt := 10) S.1 S.2.1 dX4_whistle_5 (by decide) (fun c5 => ?_) (fun c5 => ?_)
  · replace hF := kif hF c5
    refine lv_aload_n S.1 S.2.1 dX4_whistle_10 rfl (lv_at hl 0 rfl) ?_
    refine gf_X4_12 (q := 0) S hw rfl (Nat.le_of_ble_eq_true rfl) rfl dX4_whistle_11 ?_
    refine gf_X4_98 (q := 1) S hw rfl (Nat.le_of_ble_eq_true rfl) rfl dX4_whistle_14 ?_
    refine lv_iload_n S.1 S.2.1 dX4_whistle_17 rfl (lv_at hl 1 rfl) ?_
    obtain ⟨hb6, hF⟩ := kin hF
    refine kx_iald (q := 2) S hw rfl (Nat.le_of_ble_eq_true rfl) hb6 dX4_whistle_18 ?_
    refine lv_iconst (v := 2) S.1 S.2.1 dX4_whistle_19 (by decide) ?_
    refine lv_icmp_ne (tgt := 31) S.1 S.2.1 dX4_whistle_20 (by decide) (fun c7 => ?_) (fun c7 => ?_)
    · replace hF := kif hF c7
      refine lv_aload_n S.1 S.2.1 dX4_whistle_31 rfl (lv_at hl 0 rfl) ?_
      refine lv_iconst (v := 4) S.1 S.2.1 dX4_whistle_32 (by decide) ?_
      obtain ⟨σ9, e8, hF⟩ := kbv_e hF
      refine kcX4_begins S hw cv_X4_211 ⟨Nat.le_of_ble_eq_true rfl, Nat.le_of_ble_eq_true rfl⟩ e8 hl.1 (Nat.le_of_ble_eq_true rfl) dX4_whistle_33 (fun H locs hw => ?_)
      refine lv_iload_n S.1 S.2.1 dX4_whistle_36 rfl (lv_at hl 1 rfl) ?_
      obtain ⟨rfl, rfl⟩ := kret hF
      exact hR _ _ _ _ dX4_whistle_37 hw (fun h => nomatch h)
    · replace hF := kit hF c7
      refine lv_aload_n S.1 S.2.1 dX4_whistle_23 rfl (lv_at hl 0 rfl) ?_
      refine lv_iconst (v := 5) S.1 S.2.1 dX4_whistle_24 (by decide) ?_
      obtain ⟨σ11, e10, hF⟩ := kbv_e hF
      refine kcX4_begins S hw cv_X4_211 ⟨Nat.le_of_ble_eq_true rfl, Nat.le_of_ble_eq_true rfl⟩ e10 hl.1 (Nat.le_of_ble_eq_true rfl) dX4_whistle_25 (fun H locs hw => ?_)
      refine lv_bipush (v := 70) S.1 S.2.1 dX4_whistle_28 (by decide) ?_
      obtain ⟨rfl, rfl⟩ := kret hF
      exact hR _ _ _ _ dX4_whistle_30 hw (fun h => nomatch h)
  · replace hF := kit hF c5
    refine lv_iconst (v := (-1)) S.1 S.2.1 dX4_whistle_8 (by decide) ?_
    obtain ⟨rfl, rfl⟩ := kret hF
    exact hR _ _ _ _ dX4_whistle_9 hw (fun h => nomatch h)
set_option maxRecDepth 100000 in
theorem kcX4_whistle {p : Program} {l : Launch} {e : Env} {R : Room} {s : State} {m : MethodId} {args : Array Value} {below : List Frame} {meth : Method} {c : Code} {H : Heap} {locs : List Loc} {cells slots : Nat} {Q : State → Prop} {cc : ByteArray} {pc : Nat} {ls : Array Slot} {rest : List Value} {E : kE} {σ ω σ1 : kS} {nL index : Nat} {own : String} {r : Int32} (S : CallFix p m c cc nL s args kBIG own) (hw : kWS E s (cmb σ ω) H locs) (cw : kV own RX4 index yX4_whistle cX4_whistle 2 (some .int) 1) (hR : 2 + 1 ≤ R.frames ∧ 8 + (2 + 11) + 40 * 2 ≤ R.locals) {a1 : Int32}  (hF : fX4_whistle a1 σ = some (r, σ1)) (hls : ls.size = nL) (hW : (rest.map fun v => v.category).sum ≤ 8) (hdg : decode cc pc = .ok (.invokevirtual index, 3)) (kk : ∀ (H1 : Heap) (locs1 : List Loc), kWS E s (cmb σ1 ω) H1 locs1 → W p l e R s m args below meth c H1 locs1 cells slots Q (F0 m (pc + 3) ls (.int r :: rest))) (hf : cells ≤ R.cells ∧ slots ≤ R.slots := by exact ⟨Nat.le_of_ble_eq_true rfl, Nat.le_of_ble_eq_true rfl⟩) : W p l e R s m args below meth c H locs cells slots Q (F0 m pc ls (.int a1 :: .ref (ead E 0) :: rest)) := kr_calli (mc := 0) (y := yX4_whistle) (b := cX4_whistle) (n := 0) (lv := 0) (As := []) (ret := some .int) hw (kr_runV (As := [.int a1]) (q := 0) S hw ((mX4_whistle (l := l) (E := E) (ω := ω) hF) H.size) cw hR rfl (by decide) rfl rfl hls _ rfl hW hdg hf) (fun H1 locs1 h _ => kk H1 locs1 h)
set_option maxHeartbeats 4000000 in
set_option maxRecDepth 100000 in
theorem mX4_as {l : Launch} {E : kE} {ω σ σ1 : kS} {r : Int32} {a1 : Int32} {a2 : Int32}  (hF : fX4_as a1 a2 σ = some (r, σ1)) : kMetI l yX4_as cX4_as 3 (some .int) 2 E [.ref (ead E 0), .int a1, .int a2] (cmb σ ω) r (cmb σ1 ω) := by
  refine kMetI.of (by decide +kernel) (Nat.le_of_ble_eq_true rfl) (Or.inl rfl) ?_
  intro p e s m args below meth c Q ls S hR hw hl
  have hl : lv_has ls 3 [(0, .ref (ead E 0)), (1, .int a1), (2, .int a2)] := hl
  unfold fX4_as at hF
  refine lv_aload_n S.1 S.2.1 dX4_as_0 rfl (lv_at hl 0 rfl) ?_
  refine lv_iconst (v := 0) S.1 S.2.1 dX4_as_1 (by decide) ?_
  refine pf_X4_51 (q := 0) S hw rfl (Nat.le_of_ble_eq_true rfl) rfl dX4_as_2 (fun H locs hw => ?_)
  refine lv_aload_n S.1 S.2.1 dX4_as_5 rfl (lv_at hl 0 rfl) ?_
  refine lv_iload_n S.1 S.2.1 dX4_as_6 rfl (lv_at hl 1 rfl) ?_
  obtain ⟨r3, σ2, e1, hF⟩ := kbi_e hF
  refine kcX4_isPerson S hw cv_X4_95 ⟨Nat.le_of_ble_eq_true rfl, Nat.le_of_ble_eq_true rfl⟩ e1 hl.1 (Nat.le_of_ble_eq_true rfl) dX4_as_7 (fun H locs hw hz4 => ?_)
  refine lv_if_ne (tgt := 15) S.1 S.2.1 dX4_as_10 (by decide) (fun c5 => ?_) (fun c5 => ?_)
  · replace hF := kif hF c5
    refine lv_iload_n S.1 S.2.1 dX4_as_15 rfl (lv_at hl 2 rfl) ?_
    refine lv_iconst (v := 3) S.1 S.2.1 dX4_as_16 (by decide) ?_
    obtain ⟨r8, σ7, e6, hF⟩ := kbi_e hF
    refine kcX4_isBelow S hw cv_X4_59 ⟨Nat.le_of_ble_eq_true rfl, Nat.le_of_ble_eq_true rfl⟩ e6 hl.1 (Nat.le_of_ble_eq_true rfl) dX4_as_17 (fun H locs hw hz9 => ?_)
    refine lv_if_ne (tgt := 26) S.1 S.2.1 dX4_as_20 (by decide) (fun c10 => ?_) (fun c10 => ?_)
    · replace hF := kif hF c10
      refine lv_iload_n S.1 S.2.1 dX4_as_26 rfl (lv_at hl 2 rfl) ?_
      refine lv_aload_n S.1 S.2.1 dX4_as_27 rfl (lv_at hl 0 rfl) ?_
      refine gf_X4_12 (q := 0) S hw rfl (Nat.le_of_ble_eq_true rfl) rfl dX4_as_28 ?_
      refine gf_X4_98 (q := 1) S hw rfl (Nat.le_of_ble_eq_true rfl) rfl dX4_as_31 ?_
      refine lv_iload_n S.1 S.2.1 dX4_as_34 rfl (lv_at hl 1 rfl) ?_
      obtain ⟨hb11, hF⟩ := kin hF
      refine kx_iald (q := 2) S hw rfl (Nat.le_of_ble_eq_true rfl) hb11 dX4_as_35 ?_
      refine lv_icmp_gt (tgt := 43) S.1 S.2.1 dX4_as_36 (by decide) (fun c12 => ?_) (fun c12 => ?_)
      · replace hF := kit hF c12
        refine lv_aload_n S.1 S.2.1 dX4_as_43 rfl (lv_at hl 0 rfl) ?_
        refine lv_iconst (v := 2) S.1 S.2.1 dX4_as_44 (by decide) ?_
        obtain ⟨r15, σ14, e13, hF⟩ := kbi_e hF
        refine kcX4_faulted S hw cv_X4_70 ⟨Nat.le_of_ble_eq_true rfl, Nat.le_of_ble_eq_true rfl⟩ e13 hl.1 (Nat.le_of_ble_eq_true rfl) dX4_as_45 (fun H locs hw => ?_)
        obtain ⟨rfl, rfl⟩ := kret hF
        exact hR _ _ _ _ dX4_as_48 hw (fun h => nomatch h)
      · replace hF := kif hF c12
        refine lv_iconst (v := 1) S.1 S.2.1 dX4_as_39 (by decide) ?_
        refine lv_goto (tgt := 48) S.1 S.2.1 dX4_as_40 (by decide) ?_
        obtain ⟨rfl, rfl⟩ := kret hF
        exact hR _ _ _ _ dX4_as_48 hw (fun h => nomatch h)
    · replace hF := kit hF c10
      refine lv_bipush (v := (-2)) S.1 S.2.1 dX4_as_23 (by decide) ?_
      obtain ⟨rfl, rfl⟩ := kret hF
      exact hR _ _ _ _ dX4_as_25 hw (fun h => nomatch h)
  · replace hF := kit hF c5
    refine lv_iconst (v := (-1)) S.1 S.2.1 dX4_as_13 (by decide) ?_
    obtain ⟨rfl, rfl⟩ := kret hF
    exact hR _ _ _ _ dX4_as_14 hw (fun h => nomatch h)
set_option maxRecDepth 100000 in
theorem kcX4_as {p : Program} {l : Launch} {e : Env} {R : Room} {s : State} {m : MethodId} {args : Array Value} {below : List Frame} {meth : Method} {c : Code} {H : Heap} {locs : List Loc} {cells slots : Nat} {Q : State → Prop} {cc : ByteArray} {pc : Nat} {ls : Array Slot} {rest : List Value} {E : kE} {σ ω σ1 : kS} {nL index : Nat} {own : String} {r : Int32} (S : CallFix p m c cc nL s args kBIG own) (hw : kWS E s (cmb σ ω) H locs) (cw : kV own RX4 index yX4_as cX4_as 3 (some .int) 2) (hR : 2 + 1 ≤ R.frames ∧ 8 + (3 + 11) + 40 * 2 ≤ R.locals) {a1 : Int32} {a2 : Int32}  (hF : fX4_as a1 a2 σ = some (r, σ1)) (hls : ls.size = nL) (hW : (rest.map fun v => v.category).sum ≤ 8) (hdg : decode cc pc = .ok (.invokevirtual index, 3)) (kk : ∀ (H1 : Heap) (locs1 : List Loc), kWS E s (cmb σ1 ω) H1 locs1 → W p l e R s m args below meth c H1 locs1 cells slots Q (F0 m (pc + 3) ls (.int r :: rest))) (hf : cells ≤ R.cells ∧ slots ≤ R.slots := by exact ⟨Nat.le_of_ble_eq_true rfl, Nat.le_of_ble_eq_true rfl⟩) : W p l e R s m args below meth c H locs cells slots Q (F0 m pc ls (.int a2 :: .int a1 :: .ref (ead E 0) :: rest)) := kr_calli (mc := 0) (y := yX4_as) (b := cX4_as) (n := 0) (lv := 0) (As := []) (ret := some .int) hw (kr_runV (As := [.int a1, .int a2]) (q := 0) S hw ((mX4_as (l := l) (E := E) (ω := ω) hF) H.size) cw hR rfl (by decide) rfl rfl hls _ rfl hW hdg hf) (fun H1 locs1 h _ => kk H1 locs1 h)
set_option maxHeartbeats 4000000 in
set_option maxRecDepth 100000 in
theorem mX4_trace {l : Launch} {E : kE} {ω σ σ1 : kS} {r : Int32}   (hF : fX4_trace σ = some (r, σ1)) : kMetI l yX4_trace cX4_trace 1 (some .int) 0 E [.ref (ead E 0)] (cmb σ ω) r (cmb σ1 ω) := by
  refine kMetI.of (by decide +kernel) (Nat.le_of_ble_eq_true rfl) (Or.inl rfl) ?_
  intro p e s m args below meth c Q ls S hR hw hl
  have hl : lv_has ls 1 [(0, .ref (ead E 0))] := hl
  unfold fX4_trace at hF
  refine lv_aload_n S.1 S.2.1 dX4_trace_0 rfl (lv_at hl 0 rfl) ?_
  refine gf_X4_215 (q := 0) S hw rfl (Nat.le_of_ble_eq_true rfl) rfl dX4_trace_1 ?_
  obtain ⟨rfl, rfl⟩ := kret hF
  exact hR _ _ _ _ dX4_trace_4 hw (fun h => nomatch h)
set_option maxRecDepth 100000 in
theorem kcX4_trace {p : Program} {l : Launch} {e : Env} {R : Room} {s : State} {m : MethodId} {args : Array Value} {below : List Frame} {meth : Method} {c : Code} {H : Heap} {locs : List Loc} {cells slots : Nat} {Q : State → Prop} {cc : ByteArray} {pc : Nat} {ls : Array Slot} {rest : List Value} {E : kE} {σ ω σ1 : kS} {nL index : Nat} {own : String} {r : Int32} (S : CallFix p m c cc nL s args kBIG own) (hw : kWS E s (cmb σ ω) H locs) (cw : kV own RX4 index yX4_trace cX4_trace 1 (some .int) 0) (hR : 0 + 1 ≤ R.frames ∧ 8 + (1 + 11) + 40 * 0 ≤ R.locals)   (hF : fX4_trace σ = some (r, σ1)) (hls : ls.size = nL) (hW : (rest.map fun v => v.category).sum ≤ 8) (hdg : decode cc pc = .ok (.invokevirtual index, 3)) (kk : ∀ (H1 : Heap) (locs1 : List Loc), kWS E s (cmb σ1 ω) H1 locs1 → W p l e R s m args below meth c H1 locs1 cells slots Q (F0 m (pc + 3) ls (.int r :: rest))) (hf : cells ≤ R.cells ∧ slots ≤ R.slots := by exact ⟨Nat.le_of_ble_eq_true rfl, Nat.le_of_ble_eq_true rfl⟩) : W p l e R s m args below meth c H locs cells slots Q (F0 m pc ls (.ref (ead E 0) :: rest)) := kr_calli (mc := 0) (y := yX4_trace) (b := cX4_trace) (n := 0) (lv := 0) (As := []) (ret := some .int) hw (kr_runV (As := []) (q := 0) S hw ((mX4_trace (l := l) (E := E) (ω := ω) hF) H.size) cw hR rfl (by decide) rfl rfl hls _ rfl hW hdg hf) (fun H1 locs1 h _ => kk H1 locs1 h)
set_option maxHeartbeats 4000000 in
set_option maxRecDepth 100000 in
theorem mX4_fault {l : Launch} {E : kE} {ω σ σ1 : kS} {r : Int32}   (hF : fX4_fault σ = some (r, σ1)) : kMetI l yX4_fault cX4_fault 1 (some .int) 0 E [.ref (ead E 0)] (cmb σ ω) r (cmb σ1 ω) := by
  refine kMetI.of (by decide +kernel) (Nat.le_of_ble_eq_true rfl) (Or.inl rfl) ?_
  intro p e s m args below meth c Q ls S hR hw hl
  have hl : lv_has ls 1 [(0, .ref (ead E 0))] := hl
  unfold fX4_fault at hF
  refine lv_aload_n S.1 S.2.1 dX4_fault_0 rfl (lv_at hl 0 rfl) ?_
  refine gf_X4_51 (q := 0) S hw rfl (Nat.le_of_ble_eq_true rfl) rfl dX4_fault_1 ?_
  obtain ⟨rfl, rfl⟩ := kret hF
  exact hR _ _ _ _ dX4_fault_4 hw (fun h => nomatch h)
set_option maxRecDepth 100000 in
theorem kcX4_fault {p : Program} {l : Launch} {e : Env} {R : Room} {s : State} {m : MethodId} {args : Array Value} {below : List Frame} {meth : Method} {c : Code} {H : Heap} {locs : List Loc} {cells slots : Nat} {Q : State → Prop} {cc : ByteArray} {pc : Nat} {ls : Array Slot} {rest : List Value} {E : kE} {σ ω σ1 : kS} {nL index : Nat} {own : String} {r : Int32} (S : CallFix p m c cc nL s args kBIG own) (hw : kWS E s (cmb σ ω) H locs) (cw : kV own RX4 index yX4_fault cX4_fault 1 (some .int) 0) (hR : 0 + 1 ≤ R.frames ∧ 8 + (1 + 11) + 40 * 0 ≤ R.locals)   (hF : fX4_fault σ = some (r, σ1)) (hls : ls.size = nL) (hW : (rest.map fun v => v.category).sum ≤ 8) (hdg : decode cc pc = .ok (.invokevirtual index, 3)) (kk : ∀ (H1 : Heap) (locs1 : List Loc), kWS E s (cmb σ1 ω) H1 locs1 → W p l e R s m args below meth c H1 locs1 cells slots Q (F0 m (pc + 3) ls (.int r :: rest))) (hf : cells ≤ R.cells ∧ slots ≤ R.slots := by exact ⟨Nat.le_of_ble_eq_true rfl, Nat.le_of_ble_eq_true rfl⟩) : W p l e R s m args below meth c H locs cells slots Q (F0 m pc ls (.ref (ead E 0) :: rest)) := kr_calli (mc := 0) (y := yX4_fault) (b := cX4_fault) (n := 0) (lv := 0) (As := []) (ret := some .int) hw (kr_runV (As := []) (q := 0) S hw ((mX4_fault (l := l) (E := E) (ω := ω) hF) H.size) cw hR rfl (by decide) rfl rfl hls _ rfl hW hdg hf) (fun H1 locs1 h _ => kk H1 locs1 h)
set_option maxHeartbeats 4000000 in
set_option maxRecDepth 100000 in
theorem mX4_many {l : Launch} {E : kE} {ω σ σ1 : kS} {r : Int32} {a1 : Int32}  (hF : fX4_many a1 σ = some (r, σ1)) : kMetI l yX4_many cX4_many 2 (some .int) 0 E [.ref (ead E 0), .int a1] (cmb σ ω) r (cmb σ1 ω) := by
  refine kMetI.of (by decide +kernel) (Nat.le_of_ble_eq_true rfl) (Or.inl rfl) ?_
  intro p e s m args below meth c Q ls S hR hw hl
  have hl : lv_has ls 2 [(0, .ref (ead E 0)), (1, .int a1)] := hl
  unfold fX4_many at hF
  refine lv_iload_n S.1 S.2.1 dX4_many_0 rfl (lv_at hl 1 rfl) ?_
  by_cases c1 : a1 = 0
  · replace hF := kit hF c1
    refine lv_tableIn (tgt := 36) S.1 S.2.1 dX4_many_1 (by rw [c1]; decide) (by rw [c1]; decide) (by rw [c1]; rfl) (by decide) ?_
    refine lv_aload_n S.1 S.2.1 dX4_many_36 rfl (lv_at hl 0 rfl) ?_
    refine gf_X4_12 (q := 0) S hw rfl (Nat.le_of_ble_eq_true rfl) rfl dX4_many_37 ?_
    refine gf_X4_92 (q := 1) S hw rfl (Nat.le_of_ble_eq_true rfl) rfl dX4_many_40 ?_
    obtain ⟨rfl, rfl⟩ := kret hF
    exact hR _ _ _ _ dX4_many_43 hw (fun h => nomatch h)
  · replace hF := kif hF c1
    by_cases c2 : a1 = 1
    · replace hF := kit hF c2
      refine lv_tableIn (tgt := 44) S.1 S.2.1 dX4_many_1 (by rw [c2]; decide) (by rw [c2]; decide) (by rw [c2]; rfl) (by decide) ?_
      refine lv_aload_n S.1 S.2.1 dX4_many_44 rfl (lv_at hl 0 rfl) ?_
      refine gf_X4_12 (q := 0) S hw rfl (Nat.le_of_ble_eq_true rfl) rfl dX4_many_45 ?_
      refine gf_X4_123 (q := 1) S hw rfl (Nat.le_of_ble_eq_true rfl) rfl dX4_many_48 ?_
      obtain ⟨rfl, rfl⟩ := kret hF
      exact hR _ _ _ _ dX4_many_51 hw (fun h => nomatch h)
    · replace hF := kif hF c2
      by_cases c3 : a1 = 2
      · replace hF := kit hF c3
        refine lv_tableIn (tgt := 52) S.1 S.2.1 dX4_many_1 (by rw [c3]; decide) (by rw [c3]; decide) (by rw [c3]; rfl) (by decide) ?_
        refine lv_aload_n S.1 S.2.1 dX4_many_52 rfl (lv_at hl 0 rfl) ?_
        refine gf_X4_12 (q := 0) S hw rfl (Nat.le_of_ble_eq_true rfl) rfl dX4_many_53 ?_
        refine gf_X4_126 (q := 1) S hw rfl (Nat.le_of_ble_eq_true rfl) rfl dX4_many_56 ?_
        obtain ⟨rfl, rfl⟩ := kret hF
        exact hR _ _ _ _ dX4_many_59 hw (fun h => nomatch h)
      · replace hF := kif hF c3
        by_cases c4 : a1 = 3
        · replace hF := kit hF c4
          refine lv_tableIn (tgt := 60) S.1 S.2.1 dX4_many_1 (by rw [c4]; decide) (by rw [c4]; decide) (by rw [c4]; rfl) (by decide) ?_
          refine lv_aload_n S.1 S.2.1 dX4_many_60 rfl (lv_at hl 0 rfl) ?_
          refine gf_X4_89 (q := 0) S hw rfl (Nat.le_of_ble_eq_true rfl) rfl dX4_many_61 ?_
          obtain ⟨rfl, rfl⟩ := kret hF
          exact hR _ _ _ _ dX4_many_64 hw (fun h => nomatch h)
        · replace hF := kif hF c4
          by_cases c5 : a1 = 4
          · replace hF := kit hF c5
            refine lv_tableIn (tgt := 65) S.1 S.2.1 dX4_many_1 (by rw [c5]; decide) (by rw [c5]; decide) (by rw [c5]; rfl) (by decide) ?_
            refine lv_aload_n S.1 S.2.1 dX4_many_65 rfl (lv_at hl 0 rfl) ?_
            refine gf_X4_86 (q := 0) S hw rfl (Nat.le_of_ble_eq_true rfl) rfl dX4_many_66 ?_
            obtain ⟨rfl, rfl⟩ := kret hF
            exact hR _ _ _ _ dX4_many_69 hw (fun h => nomatch h)
          · replace hF := kif hF c5
            refine lv_tableOut (tgt := 70) S.1 S.2.1 dX4_many_1 (ktab5 c1 c2 c3 c4 c5) (by decide) ?_
            refine lv_bipush (v := (-2)) S.1 S.2.1 dX4_many_70 (by decide) ?_
            obtain ⟨rfl, rfl⟩ := kret hF
            exact hR _ _ _ _ dX4_many_72 hw (fun h => nomatch h)
set_option maxRecDepth 100000 in
theorem kcX4_many {p : Program} {l : Launch} {e : Env} {R : Room} {s : State} {m : MethodId} {args : Array Value} {below : List Frame} {meth : Method} {c : Code} {H : Heap} {locs : List Loc} {cells slots : Nat} {Q : State → Prop} {cc : ByteArray} {pc : Nat} {ls : Array Slot} {rest : List Value} {E : kE} {σ ω σ1 : kS} {nL index : Nat} {own : String} {r : Int32} (S : CallFix p m c cc nL s args kBIG own) (hw : kWS E s (cmb σ ω) H locs) (cw : kV own RX4 index yX4_many cX4_many 2 (some .int) 1) (hR : 0 + 1 ≤ R.frames ∧ 8 + (2 + 11) + 40 * 0 ≤ R.locals) {a1 : Int32}  (hF : fX4_many a1 σ = some (r, σ1)) (hls : ls.size = nL) (hW : (rest.map fun v => v.category).sum ≤ 8) (hdg : decode cc pc = .ok (.invokevirtual index, 3)) (kk : ∀ (H1 : Heap) (locs1 : List Loc), kWS E s (cmb σ1 ω) H1 locs1 → W p l e R s m args below meth c H1 locs1 cells slots Q (F0 m (pc + 3) ls (.int r :: rest))) (hf : cells ≤ R.cells ∧ slots ≤ R.slots := by exact ⟨Nat.le_of_ble_eq_true rfl, Nat.le_of_ble_eq_true rfl⟩) : W p l e R s m args below meth c H locs cells slots Q (F0 m pc ls (.int a1 :: .ref (ead E 0) :: rest)) := kr_calli (mc := 0) (y := yX4_many) (b := cX4_many) (n := 0) (lv := 0) (As := []) (ret := some .int) hw (kr_runV (As := [.int a1]) (q := 0) S hw ((mX4_many (l := l) (E := E) (ω := ω) hF) H.size) cw hR rfl (by decide) rfl rfl hls _ rfl hW hdg hf) (fun H1 locs1 h _ => kk H1 locs1 h)
set_option maxHeartbeats 4000000 in
set_option maxRecDepth 100000 in
theorem mX5_in {l : Launch} {E : kE} {ω σ σ1 : kS} {r : Int32} {a0 : Int64} {a2 : Int64} {a4 : Int64}  (hF : fX5_in a0 a2 a4 σ = some (r, σ1)) : kMetI l yX5_in cX5_in 6 (some .boolean) 0 E [.long a0, .long a2, .long a4] (cmb ω σ) r (cmb ω σ1) := by
  refine kMetI.of (by decide +kernel) (Nat.le_of_ble_eq_true rfl) (Or.inr rfl) ?_
  intro p e s m args below meth c Q ls S hR hw hl
  have hl : lv_has ls 6 [(0, .long a0), (2, .long a2), (4, .long a4)] := hl
  unfold fX5_in at hF
  refine lv_lload_n S.1 S.2.1 dX5_in_0 rfl (lv_at hl 0 rfl) ?_
  refine lv_lload_n S.1 S.2.1 dX5_in_1 rfl (lv_at hl 1 rfl) ?_
  refine W.lcmp S.1 S.2.1 dX5_in_2 ?_
  refine lv_if_lt (tgt := 17) S.1 S.2.1 dX5_in_3 (by decide) (fun c1 => ?_) (fun c1 => ?_)
  · replace hF := kit hF c1
    refine lv_iconst (v := 0) S.1 S.2.1 dX5_in_17 (by decide) ?_
    obtain ⟨rfl, rfl⟩ := kret hF
    exact hR _ _ _ _ dX5_in_18 hw (fun _ => (Or.inl rfl))
  · replace hF := kif hF c1
    refine lv_lload_n S.1 S.2.1 dX5_in_6 rfl (lv_at hl 0 rfl) ?_
    refine lv_lload S.1 S.2.1 dX5_in_7 (lv_at hl 2 rfl) ?_
    refine W.lcmp S.1 S.2.1 dX5_in_9 ?_
    refine lv_if_gt (tgt := 17) S.1 S.2.1 dX5_in_10 (by decide) (fun c2 => ?_) (fun c2 => ?_)
    · replace hF := kit hF c2
      refine lv_iconst (v := 0) S.1 S.2.1 dX5_in_17 (by decide) ?_
      obtain ⟨rfl, rfl⟩ := kret hF
      exact hR _ _ _ _ dX5_in_18 hw (fun _ => (Or.inl rfl))
    · replace hF := kif hF c2
      refine lv_iconst (v := 1) S.1 S.2.1 dX5_in_13 (by decide) ?_
      refine lv_goto (tgt := 18) S.1 S.2.1 dX5_in_14 (by decide) ?_
      obtain ⟨rfl, rfl⟩ := kret hF
      exact hR _ _ _ _ dX5_in_18 hw (fun _ => (Or.inr rfl))
set_option maxRecDepth 100000 in
theorem kcX5_in {p : Program} {l : Launch} {e : Env} {R : Room} {s : State} {m : MethodId} {args : Array Value} {below : List Frame} {meth : Method} {c : Code} {H : Heap} {locs : List Loc} {cells slots : Nat} {Q : State → Prop} {cc : ByteArray} {pc : Nat} {ls : Array Slot} {rest : List Value} {E : kE} {σ ω σ1 : kS} {nL index : Nat} {own : String} {r : Int32} (S : CallFix p m c cc nL s args kBIG own) (hw : kWS E s (cmb ω σ) H locs) (cw : kSt own index yX5_in cX5_in 6 (some .boolean) 3) (hR : 0 + 1 ≤ R.frames ∧ 8 + (6 + 11) + 40 * 0 ≤ R.locals) {a0 : Int64} {a2 : Int64} {a4 : Int64}  (hF : fX5_in a0 a2 a4 σ = some (r, σ1)) (hls : ls.size = nL) (hW : (rest.map fun v => v.category).sum ≤ 8) (hdg : decode cc pc = .ok (.invokestatic index, 3)) (kk : ∀ (H1 : Heap) (locs1 : List Loc), kWS E s (cmb ω σ1) H1 locs1 → (((some .boolean) : Option FieldType) = some .boolean → r = 0 ∨ r = 1) → W p l e R s m args below meth c H1 locs1 cells slots Q (F0 m (pc + 3) ls (.int r :: rest))) (hf : cells ≤ R.cells ∧ slots ≤ R.slots := by exact ⟨Nat.le_of_ble_eq_true rfl, Nat.le_of_ble_eq_true rfl⟩) : W p l e R s m args below meth c H locs cells slots Q (F0 m pc ls (.long a4 :: .long a2 :: .long a0 :: rest)) := kr_calli (mc := 0) (y := yX5_in) (b := cX5_in) (n := 0) (lv := 0) (As := []) hw (kr_runS (As := [.long a0, .long a2, .long a4]) S hw ((mX5_in (l := l) (E := E) (ω := ω) hF) H.size) cw hR rfl hls _ rfl hW hdg hf) kk
set_option maxHeartbeats 4000000 in
set_option maxRecDepth 100000 in
theorem mX5_lost {l : Launch} {E : kE} {ω σ σ1 : kS} {r : Int64}   (hF : fX5_lost σ = some (r, σ1)) : kMetL l yX5_lost cX5_lost 0 0 E [] (cmb ω σ) r (cmb ω σ1) := by
  refine kMetL.of (by decide +kernel) (Nat.le_of_ble_eq_true rfl) ?_
  intro p e s m args below meth c Q ls S hR hw hl
  have hl : lv_has ls 0 [] := hl
  unfold fX5_lost at hF
  refine lv_ldc2 (v := (-9223372036854775808)) S.1 S.2.1 S.2.2.2.1 (S.2.2.2.2 _ q4_35) dX5_lost_0 ?_
  obtain ⟨rfl, rfl⟩ := kret hF
  exact hR _ _ _ _ dX5_lost_3 hw
set_option maxRecDepth 100000 in
theorem kcX5_lost {p : Program} {l : Launch} {e : Env} {R : Room} {s : State} {m : MethodId} {args : Array Value} {below : List Frame} {meth : Method} {c : Code} {H : Heap} {locs : List Loc} {cells slots : Nat} {Q : State → Prop} {cc : ByteArray} {pc : Nat} {ls : Array Slot} {rest : List Value} {E : kE} {σ ω σ1 : kS} {nL index : Nat} {own : String} {r : Int64} (S : CallFix p m c cc nL s args kBIG own) (hw : kWS E s (cmb ω σ) H locs) (cw : kSt own index yX5_lost cX5_lost 0 (some .long) 0) (hR : 0 + 1 ≤ R.frames ∧ 8 + (0 + 11) + 40 * 0 ≤ R.locals)   (hF : fX5_lost σ = some (r, σ1)) (hls : ls.size = nL) (hW : (rest.map fun v => v.category).sum ≤ 8) (hdg : decode cc pc = .ok (.invokestatic index, 3)) (kk : ∀ (H1 : Heap) (locs1 : List Loc), kWS E s (cmb ω σ1) H1 locs1 → W p l e R s m args below meth c H1 locs1 cells slots Q (F0 m (pc + 3) ls (.long r :: rest))) (hf : cells ≤ R.cells ∧ slots ≤ R.slots := by exact ⟨Nat.le_of_ble_eq_true rfl, Nat.le_of_ble_eq_true rfl⟩) : W p l e R s m args below meth c H locs cells slots Q (F0 m pc ls (rest)) := kr_calll hw (kr_runS (As := []) S hw ((mX5_lost (l := l) (E := E) (ω := ω) hF) H.size) cw hR rfl hls _ rfl hW hdg hf) kk
set_option maxHeartbeats 4000000 in
set_option maxRecDepth 100000 in
theorem mX5_isIn {l : Launch} {E : kE} {ω σ σ1 : kS} {r : Int32} {a0 : Int32} {a1 : Int32}  (hF : fX5_isIn a0 a1 σ = some (r, σ1)) : kMetI l yX5_isIn cX5_isIn 2 (some .boolean) 0 E [.int a0, .int a1] (cmb ω σ) r (cmb ω σ1) := by
  refine kMetI.of (by decide +kernel) (Nat.le_of_ble_eq_true rfl) (Or.inr rfl) ?_
  intro p e s m args below meth c Q ls S hR hw hl
  have hl : lv_has ls 2 [(0, .int a0), (1, .int a1)] := hl
  unfold fX5_isIn at hF
  refine lv_iload_n S.1 S.2.1 dX5_isIn_0 rfl (lv_at hl 0 rfl) ?_
  refine lv_iload_n S.1 S.2.1 dX5_isIn_1 rfl (lv_at hl 1 rfl) ?_
  refine lv_ishr S.1 S.2.1 dX5_isIn_2 ?_
  refine lv_iconst (v := 1) S.1 S.2.1 dX5_isIn_3 (by decide) ?_
  refine lv_iand S.1 S.2.1 dX5_isIn_4 ?_
  refine lv_iconst (v := 1) S.1 S.2.1 dX5_isIn_5 (by decide) ?_
  refine lv_icmp_ne (tgt := 13) S.1 S.2.1 dX5_isIn_6 (by decide) (fun c1 => ?_) (fun c1 => ?_)
  · replace hF := kif hF c1
    refine lv_iconst (v := 0) S.1 S.2.1 dX5_isIn_13 (by decide) ?_
    obtain ⟨rfl, rfl⟩ := kret hF
    exact hR _ _ _ _ dX5_isIn_14 hw (fun _ => (Or.inl rfl))
  · replace hF := kit hF c1
    refine lv_iconst (v := 1) S.1 S.2.1 dX5_isIn_9 (by decide) ?_
    refine lv_goto (tgt := 14) S.1 S.2.1 dX5_isIn_10 (by decide) ?_
    obtain ⟨rfl, rfl⟩ := kret hF
    exact hR _ _ _ _ dX5_isIn_14 hw (fun _ => (Or.inr rfl))
set_option maxRecDepth 100000 in
theorem kcX5_isIn {p : Program} {l : Launch} {e : Env} {R : Room} {s : State} {m : MethodId} {args : Array Value} {below : List Frame} {meth : Method} {c : Code} {H : Heap} {locs : List Loc} {cells slots : Nat} {Q : State → Prop} {cc : ByteArray} {pc : Nat} {ls : Array Slot} {rest : List Value} {E : kE} {σ ω σ1 : kS} {nL index : Nat} {own : String} {r : Int32} (S : CallFix p m c cc nL s args kBIG own) (hw : kWS E s (cmb ω σ) H locs) (cw : kSt own index yX5_isIn cX5_isIn 2 (some .boolean) 2) (hR : 0 + 1 ≤ R.frames ∧ 8 + (2 + 11) + 40 * 0 ≤ R.locals) {a0 : Int32} {a1 : Int32}  (hF : fX5_isIn a0 a1 σ = some (r, σ1)) (hls : ls.size = nL) (hW : (rest.map fun v => v.category).sum ≤ 8) (hdg : decode cc pc = .ok (.invokestatic index, 3)) (kk : ∀ (H1 : Heap) (locs1 : List Loc), kWS E s (cmb ω σ1) H1 locs1 → (((some .boolean) : Option FieldType) = some .boolean → r = 0 ∨ r = 1) → W p l e R s m args below meth c H1 locs1 cells slots Q (F0 m (pc + 3) ls (.int r :: rest))) (hf : cells ≤ R.cells ∧ slots ≤ R.slots := by exact ⟨Nat.le_of_ble_eq_true rfl, Nat.le_of_ble_eq_true rfl⟩) : W p l e R s m args below meth c H locs cells slots Q (F0 m pc ls (.int a1 :: .int a0 :: rest)) := kr_calli (mc := 0) (y := yX5_isIn) (b := cX5_isIn) (n := 0) (lv := 0) (As := []) hw (kr_runS (As := [.int a0, .int a1]) S hw ((mX5_isIn (l := l) (E := E) (ω := ω) hF) H.size) cw hR rfl hls _ rfl hW hdg hf) kk
set_option maxHeartbeats 4000000 in
set_option maxRecDepth 100000 in
theorem wX5_bits_L4 {p : Program} {l : Launch} {e : Env} {s : State} {m : MethodId} {args : Array Value} {below : List Frame} {meth : Method} {c : Code} {Q : State → Prop} {E : kE} {ω σ1 : kS} {r : Int32} (S : CallFix p m c cX5_bits 3 s args kBIG RX5) (hR : kRetI p l e (rml 0) s m args below meth c cX5_bits E Q (some .int) r (cmb ω σ1))  : ∀ (n : Nat), ∀ (a1 : Int32) (a2 : Int32) (σ : kS) (H : Heap) (locs : List Loc) (ls : Array Slot), fX5_bits_L4 n a1 a2 σ = some (r, σ1) → kWS E s (cmb ω σ) H locs → lv_has ls 3 [(1, .int a1), (2, .int a2)] → W p l e (rml 0) s m args below meth c H locs 0 0 Q (F0 m 4 ls []) := by
  intro n
  induction n with
  | zero =>
    intro a1 a2 σ H locs ls hF hw hl
    exact absurd hF (fun h => nomatch h)
  | succ n ih =>
    intro a1 a2 σ H locs ls hF hw hl
    rw [fX5_bits_L4] at hF
    refine lv_iload_n S.1 S.2.1 dX5_bits_4 rfl (lv_at hl 1 rfl) ?_
    refine lv_if_le (tgt := 21) S.1 S.2.1 dX5_bits_5 (by decide) (fun c1 => ?_) (fun c1 => ?_)
    · replace hF := kit hF c1
      refine lv_iload_n S.1 S.2.1 dX5_bits_21 rfl (lv_at hl 0 rfl) ?_
      obtain ⟨rfl, rfl⟩ := kret hF
      exact hR _ _ _ _ dX5_bits_22 hw (fun h => nomatch h)
    · replace hF := kif hF c1
      refine lv_iload_n S.1 S.2.1 dX5_bits_8 rfl (lv_at hl 0 rfl) ?_
      refine lv_iload_n S.1 S.2.1 dX5_bits_9 rfl (lv_at hl 1 rfl) ?_
      refine lv_iconst (v := 1) S.1 S.2.1 dX5_bits_10 (by decide) ?_
      refine lv_iand S.1 S.2.1 dX5_bits_11 ?_
      refine lv_iadd S.1 S.2.1 dX5_bits_12 ?_
      refine lv_topi (fun v2 ev2 => ?_)
      replace hF := klb hF ev2
      refine lv_istore_n (lv' := [(1, .int v2), (2, .int a2)]) S.1 S.2.1 dX5_bits_13 rfl hl (by decide) rfl (fun ls hl => ?_)
      refine lv_iload_n S.1 S.2.1 dX5_bits_14 rfl (lv_at hl 1 rfl) ?_
      refine lv_iconst (v := 1) S.1 S.2.1 dX5_bits_15 (by decide) ?_
      refine lv_ishr S.1 S.2.1 dX5_bits_16 ?_
      refine lv_topi (fun v3 ev3 => ?_)
      replace hF := klb hF ev3
      refine lv_istore_n (lv' := [(2, .int v3), (1, .int v2)]) S.1 S.2.1 dX5_bits_17 rfl hl (by decide) rfl (fun ls hl => ?_)
      refine lv_goto (tgt := 4) S.1 S.2.1 dX5_bits_18 (by decide) ?_
      exact ih v2 v3 _ _ _ _ hF hw (lv_sub hl [1, 0] rfl)
set_option maxHeartbeats 4000000 in
set_option maxRecDepth 100000 in
theorem mX5_bits {l : Launch} {E : kE} {ω σ σ1 : kS} {r : Int32} {a0 : Int32}  (hF : fX5_bits a0 σ = some (r, σ1)) : kMetI l yX5_bits cX5_bits 3 (some .int) 0 E [.int a0] (cmb ω σ) r (cmb ω σ1) := by
  refine kMetI.of (by decide +kernel) (Nat.le_of_ble_eq_true rfl) (Or.inl rfl) ?_
  intro p e s m args below meth c Q ls S hR hw hl
  have hl : lv_has ls 3 [(0, .int a0)] := hl
  unfold fX5_bits at hF
  refine lv_iconst (v := 0) S.1 S.2.1 dX5_bits_0 (by decide) ?_
  refine lv_istore_n (lv' := [(1, .int 0), (0, .int a0)]) S.1 S.2.1 dX5_bits_1 rfl hl (by decide) rfl (fun ls hl => ?_)
  refine lv_iload_n S.1 S.2.1 dX5_bits_2 rfl (lv_at hl 1 rfl) ?_
  refine lv_istore_n (lv' := [(2, .int a0), (1, .int 0), (0, .int a0)]) S.1 S.2.1 dX5_bits_3 rfl hl (by decide) rfl (fun ls hl => ?_)
  exact wX5_bits_L4 S hR 1000 0 a0 _ _ _ _ hF hw (lv_sub hl [1, 0] rfl)
set_option maxRecDepth 100000 in
theorem kcX5_bits {p : Program} {l : Launch} {e : Env} {R : Room} {s : State} {m : MethodId} {args : Array Value} {below : List Frame} {meth : Method} {c : Code} {H : Heap} {locs : List Loc} {cells slots : Nat} {Q : State → Prop} {cc : ByteArray} {pc : Nat} {ls : Array Slot} {rest : List Value} {E : kE} {σ ω σ1 : kS} {nL index : Nat} {own : String} {r : Int32} (S : CallFix p m c cc nL s args kBIG own) (hw : kWS E s (cmb ω σ) H locs) (cw : kSt own index yX5_bits cX5_bits 3 (some .int) 1) (hR : 0 + 1 ≤ R.frames ∧ 8 + (3 + 11) + 40 * 0 ≤ R.locals) {a0 : Int32}  (hF : fX5_bits a0 σ = some (r, σ1)) (hls : ls.size = nL) (hW : (rest.map fun v => v.category).sum ≤ 8) (hdg : decode cc pc = .ok (.invokestatic index, 3)) (kk : ∀ (H1 : Heap) (locs1 : List Loc), kWS E s (cmb ω σ1) H1 locs1 → W p l e R s m args below meth c H1 locs1 cells slots Q (F0 m (pc + 3) ls (.int r :: rest))) (hf : cells ≤ R.cells ∧ slots ≤ R.slots := by exact ⟨Nat.le_of_ble_eq_true rfl, Nat.le_of_ble_eq_true rfl⟩) : W p l e R s m args below meth c H locs cells slots Q (F0 m pc ls (.int a0 :: rest)) := kr_calli (mc := 0) (y := yX5_bits) (b := cX5_bits) (n := 0) (lv := 0) (As := []) (ret := some .int) hw (kr_runS (As := [.int a0]) S hw ((mX5_bits (l := l) (E := E) (ω := ω) hF) H.size) cw hR rfl hls _ rfl hW hdg hf) (fun H1 locs1 h _ => kk H1 locs1 h)
set_option maxHeartbeats 4000000 in
set_option maxRecDepth 100000 in
theorem mX5_apart {l : Launch} {E : kE} {ω σ σ1 : kS} {r : Int32} {a0 : Int32} {a1 : Int32}  (hF : fX5_apart a0 a1 σ = some (r, σ1)) : kMetI l yX5_apart cX5_apart 2 (some .int) 0 E [.int a0, .int a1] (cmb ω σ) r (cmb ω σ1) := by
  refine kMetI.of (by decide +kernel) (Nat.le_of_ble_eq_true rfl) (Or.inl rfl) ?_
  intro p e s m args below meth c Q ls S hR hw hl
  have hl : lv_has ls 2 [(0, .int a0), (1, .int a1)] := hl
  unfold fX5_apart at hF
  refine lv_iload_n S.1 S.2.1 dX5_apart_0 rfl (lv_at hl 0 rfl) ?_
  refine lv_iload_n S.1 S.2.1 dX5_apart_1 rfl (lv_at hl 1 rfl) ?_
  refine lv_icmp_le (tgt := 11) S.1 S.2.1 dX5_apart_2 (by decide) (fun c1 => ?_) (fun c1 => ?_)
  · replace hF := kit hF c1
    refine lv_iload_n S.1 S.2.1 dX5_apart_11 rfl (lv_at hl 1 rfl) ?_
    refine lv_iload_n S.1 S.2.1 dX5_apart_12 rfl (lv_at hl 0 rfl) ?_
    refine lv_isub S.1 S.2.1 dX5_apart_13 ?_
    obtain ⟨rfl, rfl⟩ := kret hF
    exact hR _ _ _ _ dX5_apart_14 hw (fun h => nomatch h)
  · replace hF := kif hF c1
    refine lv_iload_n S.1 S.2.1 dX5_apart_5 rfl (lv_at hl 0 rfl) ?_
    refine lv_iload_n S.1 S.2.1 dX5_apart_6 rfl (lv_at hl 1 rfl) ?_
    refine lv_isub S.1 S.2.1 dX5_apart_7 ?_
    refine lv_goto (tgt := 14) S.1 S.2.1 dX5_apart_8 (by decide) ?_
    obtain ⟨rfl, rfl⟩ := kret hF
    exact hR _ _ _ _ dX5_apart_14 hw (fun h => nomatch h)
set_option maxRecDepth 100000 in
theorem kcX5_apart {p : Program} {l : Launch} {e : Env} {R : Room} {s : State} {m : MethodId} {args : Array Value} {below : List Frame} {meth : Method} {c : Code} {H : Heap} {locs : List Loc} {cells slots : Nat} {Q : State → Prop} {cc : ByteArray} {pc : Nat} {ls : Array Slot} {rest : List Value} {E : kE} {σ ω σ1 : kS} {nL index : Nat} {own : String} {r : Int32} (S : CallFix p m c cc nL s args kBIG own) (hw : kWS E s (cmb ω σ) H locs) (cw : kSt own index yX5_apart cX5_apart 2 (some .int) 2) (hR : 0 + 1 ≤ R.frames ∧ 8 + (2 + 11) + 40 * 0 ≤ R.locals) {a0 : Int32} {a1 : Int32}  (hF : fX5_apart a0 a1 σ = some (r, σ1)) (hls : ls.size = nL) (hW : (rest.map fun v => v.category).sum ≤ 8) (hdg : decode cc pc = .ok (.invokestatic index, 3)) (kk : ∀ (H1 : Heap) (locs1 : List Loc), kWS E s (cmb ω σ1) H1 locs1 → W p l e R s m args below meth c H1 locs1 cells slots Q (F0 m (pc + 3) ls (.int r :: rest))) (hf : cells ≤ R.cells ∧ slots ≤ R.slots := by exact ⟨Nat.le_of_ble_eq_true rfl, Nat.le_of_ble_eq_true rfl⟩) : W p l e R s m args below meth c H locs cells slots Q (F0 m pc ls (.int a1 :: .int a0 :: rest)) := kr_calli (mc := 0) (y := yX5_apart) (b := cX5_apart) (n := 0) (lv := 0) (As := []) (ret := some .int) hw (kr_runS (As := [.int a0, .int a1]) S hw ((mX5_apart (l := l) (E := E) (ω := ω) hF) H.size) cw hR rfl hls _ rfl hW hdg hf) (fun H1 locs1 h _ => kk H1 locs1 h)
set_option maxHeartbeats 4000000 in
set_option maxRecDepth 100000 in
theorem wX5_share_L6 {p : Program} {l : Launch} {e : Env} {s : State} {m : MethodId} {args : Array Value} {below : List Frame} {meth : Method} {c : Code} {Q : State → Prop} {E : kE} {ω σ1 : kS} {r : Int64} (S : CallFix p m c cX5_share 11 s args kBIG RX5) (hR : kRetL p l e (rml 0) s m args below meth c cX5_share E Q r (cmb ω σ1))  : ∀ (n : Nat), ∀ (a0 : Int64) (a2 : Int64) (a4 : Int32) (a5 : Int64) (a7 : Int64) (σ : kS) (H : Heap) (locs : List Loc) (ls : Array Slot), fX5_share_L6 n a0 a2 a4 a5 a7 σ = some (r, σ1) → kWS E s (cmb ω σ) H locs → lv_has ls 11 [(0, .long a0), (2, .long a2), (4, .int a4), (5, .long a5), (7, .long a7)] → W p l e (rml 0) s m args below meth c H locs 0 0 Q (F0 m 6 ls []) := by
  intro n
  induction n with
  | zero =>
    intro a0 a2 a4 a5 a7 σ H locs ls hF hw hl
    exact absurd hF (fun h => nomatch h)
  | succ n ih =>
    intro a0 a2 a4 a5 a7 σ H locs ls hF hw hl
    rw [fX5_share_L6] at hF
    refine lv_lload S.1 S.2.1 dX5_share_6 (lv_at hl 4 rfl) ?_
    refine lv_lconst (v := 0) S.1 S.2.1 dX5_share_8 (by decide) ?_
    refine W.lcmp S.1 S.2.1 dX5_share_9 ?_
    refine lv_if_eq (tgt := 31) S.1 S.2.1 dX5_share_10 (by decide) (fun c1 => ?_) (fun c1 => ?_)
    · replace hF := kit hF c1
      refine lv_iload S.1 S.2.1 dX5_share_31 (lv_at hl 2 rfl) ?_
      refine lv_if_ne (tgt := 40) S.1 S.2.1 dX5_share_33 (by decide) (fun c2 => ?_) (fun c2 => ?_)
      · replace hF := kif hF c2
        refine lv_lload_n S.1 S.2.1 dX5_share_40 rfl (lv_at hl 1 rfl) ?_
        refine lv_lload S.1 S.2.1 dX5_share_41 (lv_at hl 3 rfl) ?_
        obtain ⟨hb3, hF⟩ := kin hF
        refine lv_ldiv S.1 S.2.1 dX5_share_43 hb3 ?_
        obtain ⟨rfl, rfl⟩ := kret hF
        exact hR _ _ _ _ dX5_share_44 hw
      · replace hF := kit hF c2
        refine lv_lload_n S.1 S.2.1 dX5_share_36 rfl (lv_at hl 0 rfl) ?_
        refine lv_goto (tgt := 41) S.1 S.2.1 dX5_share_37 (by decide) ?_
        refine lv_lload S.1 S.2.1 dX5_share_41 (lv_at hl 3 rfl) ?_
        obtain ⟨hb4, hF⟩ := kin hF
        refine lv_ldiv S.1 S.2.1 dX5_share_43 hb4 ?_
        obtain ⟨rfl, rfl⟩ := kret hF
        exact hR _ _ _ _ dX5_share_44 hw
    · replace hF := kif hF c1
      refine lv_lload S.1 S.2.1 dX5_share_13 (lv_at hl 3 rfl) ?_
      refine lv_lload S.1 S.2.1 dX5_share_15 (lv_at hl 4 rfl) ?_
      obtain ⟨hb5, hF⟩ := kin hF
      refine lv_lrem S.1 S.2.1 dX5_share_17 hb5 ?_
      refine lv_topl (fun v6 ev6 => ?_)
      replace hF := klb hF ev6
      refine lv_lstore (lv' := [(9, .long v6), (0, .long a0), (2, .long a2), (4, .int a4), (5, .long a5), (7, .long a7)]) S.1 S.2.1 dX5_share_18 hl (by decide) rfl (fun ls hl => ?_)
      refine lv_lload S.1 S.2.1 dX5_share_20 (lv_at hl 5 rfl) ?_
      refine lv_lstore (lv' := [(5, .long a7), (9, .long v6), (0, .long a0), (2, .long a2), (4, .int a4), (7, .long a7)]) S.1 S.2.1 dX5_share_22 hl (by decide) rfl (fun ls hl => ?_)
      refine lv_lload S.1 S.2.1 dX5_share_24 (lv_at hl 1 rfl) ?_
      refine lv_lstore (lv' := [(7, .long v6), (5, .long a7), (9, .long v6), (0, .long a0), (2, .long a2), (4, .int a4)]) S.1 S.2.1 dX5_share_26 hl (by decide) rfl (fun ls hl => ?_)
      refine lv_goto (tgt := 6) S.1 S.2.1 dX5_share_28 (by decide) ?_
      exact ih a0 a2 a4 a7 v6 _ _ _ _ hF hw (lv_sub hl [3, 4, 5, 1, 0] rfl)
set_option maxHeartbeats 4000000 in
set_option maxRecDepth 100000 in
theorem mX5_share {l : Launch} {E : kE} {ω σ σ1 : kS} {r : Int64} {a0 : Int64} {a2 : Int64} {a4 : Int32}  (hF : fX5_share a0 a2 a4 σ = some (r, σ1)) : kMetL l yX5_share cX5_share 11 0 E [.long a0, .long a2, .int a4] (cmb ω σ) r (cmb ω σ1) := by
  refine kMetL.of (by decide +kernel) (Nat.le_of_ble_eq_true rfl) ?_
  intro p e s m args below meth c Q ls S hR hw hl
  have hl : lv_has ls 11 [(0, .long a0), (2, .long a2), (4, .int a4)] := hl
  unfold fX5_share at hF
  refine lv_lload_n S.1 S.2.1 dX5_share_0 rfl (lv_at hl 0 rfl) ?_
  refine lv_lstore (lv' := [(5, .long a0), (0, .long a0), (2, .long a2), (4, .int a4)]) S.1 S.2.1 dX5_share_1 hl (by decide) rfl (fun ls hl => ?_)
  refine lv_lload_n S.1 S.2.1 dX5_share_3 rfl (lv_at hl 2 rfl) ?_
  refine lv_lstore (lv' := [(7, .long a2), (5, .long a0), (0, .long a0), (2, .long a2), (4, .int a4)]) S.1 S.2.1 dX5_share_4 hl (by decide) rfl (fun ls hl => ?_)
  exact wX5_share_L6 S hR 1000 a0 a2 a4 a0 a2 _ _ _ _ hF hw (lv_sub hl [2, 3, 4, 1, 0] rfl)
set_option maxRecDepth 100000 in
theorem kcX5_share {p : Program} {l : Launch} {e : Env} {R : Room} {s : State} {m : MethodId} {args : Array Value} {below : List Frame} {meth : Method} {c : Code} {H : Heap} {locs : List Loc} {cells slots : Nat} {Q : State → Prop} {cc : ByteArray} {pc : Nat} {ls : Array Slot} {rest : List Value} {E : kE} {σ ω σ1 : kS} {nL index : Nat} {own : String} {r : Int64} (S : CallFix p m c cc nL s args kBIG own) (hw : kWS E s (cmb ω σ) H locs) (cw : kSt own index yX5_share cX5_share 11 (some .long) 3) (hR : 0 + 1 ≤ R.frames ∧ 8 + (11 + 11) + 40 * 0 ≤ R.locals) {a0 : Int64} {a2 : Int64} {a4 : Int32}  (hF : fX5_share a0 a2 a4 σ = some (r, σ1)) (hls : ls.size = nL) (hW : (rest.map fun v => v.category).sum ≤ 8) (hdg : decode cc pc = .ok (.invokestatic index, 3)) (kk : ∀ (H1 : Heap) (locs1 : List Loc), kWS E s (cmb ω σ1) H1 locs1 → W p l e R s m args below meth c H1 locs1 cells slots Q (F0 m (pc + 3) ls (.long r :: rest))) (hf : cells ≤ R.cells ∧ slots ≤ R.slots := by exact ⟨Nat.le_of_ble_eq_true rfl, Nat.le_of_ble_eq_true rfl⟩) : W p l e R s m args below meth c H locs cells slots Q (F0 m pc ls (.int a4 :: .long a2 :: .long a0 :: rest)) := kr_calll hw (kr_runS (As := [.long a0, .long a2, .int a4]) S hw ((mX5_share (l := l) (E := E) (ω := ω) hF) H.size) cw hR rfl hls _ rfl hW hdg hf) kk
set_option maxHeartbeats 4000000 in
set_option maxRecDepth 100000 in
theorem mX5_refused {l : Launch} {E : kE} {ω σ σ1 : kS} {r : Int32} {a1 : Int32}  (hF : fX5_refused a1 σ = some (r, σ1)) : kMetI l yX5_refused cX5_refused 2 (some .int) 0 E [.ref (ead E 26), .int a1] (cmb ω σ) r (cmb ω σ1) := by
  refine kMetI.of (by decide +kernel) (Nat.le_of_ble_eq_true rfl) (Or.inl rfl) ?_
  intro p e s m args below meth c Q ls S hR hw hl
  have hl : lv_has ls 2 [(0, .ref (ead E 26)), (1, .int a1)] := hl
  unfold fX5_refused at hF
  refine lv_aload_n S.1 S.2.1 dX5_refused_0 rfl (lv_at hl 0 rfl) ?_
  refine lv_iconst (v := 0) S.1 S.2.1 dX5_refused_1 (by decide) ?_
  refine pf_X5_72 S hw dX5_refused_2 (fun H locs hw => ?_)
  refine lv_iload_n S.1 S.2.1 dX5_refused_5 rfl (lv_at hl 1 rfl) ?_
  obtain ⟨rfl, rfl⟩ := kret hF
  exact hR _ _ _ _ dX5_refused_6 hw (fun h => nomatch h)
set_option maxRecDepth 100000 in
theorem kcX5_refused {p : Program} {l : Launch} {e : Env} {R : Room} {s : State} {m : MethodId} {args : Array Value} {below : List Frame} {meth : Method} {c : Code} {H : Heap} {locs : List Loc} {cells slots : Nat} {Q : State → Prop} {cc : ByteArray} {pc : Nat} {ls : Array Slot} {rest : List Value} {E : kE} {σ ω σ1 : kS} {nL index : Nat} {own : String} {r : Int32} (S : CallFix p m c cc nL s args kBIG own) (hw : kWS E s (cmb ω σ) H locs) (cw : kV own RX5 index yX5_refused cX5_refused 2 (some .int) 1) (hR : 0 + 1 ≤ R.frames ∧ 8 + (2 + 11) + 40 * 0 ≤ R.locals) {a1 : Int32}  (hF : fX5_refused a1 σ = some (r, σ1)) (hls : ls.size = nL) (hW : (rest.map fun v => v.category).sum ≤ 8) (hdg : decode cc pc = .ok (.invokevirtual index, 3)) (kk : ∀ (H1 : Heap) (locs1 : List Loc), kWS E s (cmb ω σ1) H1 locs1 → W p l e R s m args below meth c H1 locs1 cells slots Q (F0 m (pc + 3) ls (.int r :: rest))) (hf : cells ≤ R.cells ∧ slots ≤ R.slots := by exact ⟨Nat.le_of_ble_eq_true rfl, Nat.le_of_ble_eq_true rfl⟩) : W p l e R s m args below meth c H locs cells slots Q (F0 m pc ls (.int a1 :: .ref (ead E 26) :: rest)) := kr_calli (mc := 0) (y := yX5_refused) (b := cX5_refused) (n := 0) (lv := 0) (As := []) (ret := some .int) hw (kr_runV (As := [.int a1]) (q := 26) S hw ((mX5_refused (l := l) (E := E) (ω := ω) hF) H.size) cw hR rfl (by decide) rfl rfl hls _ rfl hW hdg hf) (fun H1 locs1 h _ => kk H1 locs1 h)
set_option maxHeartbeats 4000000 in
set_option maxRecDepth 100000 in
theorem mX5_failed {l : Launch} {E : kE} {ω σ σ1 : kS} {r : Int32} {a1 : Int32}  (hF : fX5_failed a1 σ = some (r, σ1)) : kMetI l yX5_failed cX5_failed 2 (some .int) 0 E [.ref (ead E 26), .int a1] (cmb ω σ) r (cmb ω σ1) := by
  refine kMetI.of (by decide +kernel) (Nat.le_of_ble_eq_true rfl) (Or.inl rfl) ?_
  intro p e s m args below meth c Q ls S hR hw hl
  have hl : lv_has ls 2 [(0, .ref (ead E 26)), (1, .int a1)] := hl
  unfold fX5_failed at hF
  refine lv_aload_n S.1 S.2.1 dX5_failed_0 rfl (lv_at hl 0 rfl) ?_
  refine lv_iload_n S.1 S.2.1 dX5_failed_1 rfl (lv_at hl 1 rfl) ?_
  refine pf_X5_72 S hw dX5_failed_2 (fun H locs hw => ?_)
  refine lv_bipush (v := (-10)) S.1 S.2.1 dX5_failed_5 (by decide) ?_
  refine lv_iload_n S.1 S.2.1 dX5_failed_7 rfl (lv_at hl 1 rfl) ?_
  refine lv_isub S.1 S.2.1 dX5_failed_8 ?_
  obtain ⟨rfl, rfl⟩ := kret hF
  exact hR _ _ _ _ dX5_failed_9 hw (fun h => nomatch h)
set_option maxRecDepth 100000 in
theorem kcX5_failed {p : Program} {l : Launch} {e : Env} {R : Room} {s : State} {m : MethodId} {args : Array Value} {below : List Frame} {meth : Method} {c : Code} {H : Heap} {locs : List Loc} {cells slots : Nat} {Q : State → Prop} {cc : ByteArray} {pc : Nat} {ls : Array Slot} {rest : List Value} {E : kE} {σ ω σ1 : kS} {nL index : Nat} {own : String} {r : Int32} (S : CallFix p m c cc nL s args kBIG own) (hw : kWS E s (cmb ω σ) H locs) (cw : kV own RX5 index yX5_failed cX5_failed 2 (some .int) 1) (hR : 0 + 1 ≤ R.frames ∧ 8 + (2 + 11) + 40 * 0 ≤ R.locals) {a1 : Int32}  (hF : fX5_failed a1 σ = some (r, σ1)) (hls : ls.size = nL) (hW : (rest.map fun v => v.category).sum ≤ 8) (hdg : decode cc pc = .ok (.invokevirtual index, 3)) (kk : ∀ (H1 : Heap) (locs1 : List Loc), kWS E s (cmb ω σ1) H1 locs1 → W p l e R s m args below meth c H1 locs1 cells slots Q (F0 m (pc + 3) ls (.int r :: rest))) (hf : cells ≤ R.cells ∧ slots ≤ R.slots := by exact ⟨Nat.le_of_ble_eq_true rfl, Nat.le_of_ble_eq_true rfl⟩) : W p l e R s m args below meth c H locs cells slots Q (F0 m pc ls (.int a1 :: .ref (ead E 26) :: rest)) := kr_calli (mc := 0) (y := yX5_failed) (b := cX5_failed) (n := 0) (lv := 0) (As := []) (ret := some .int) hw (kr_runV (As := [.int a1]) (q := 26) S hw ((mX5_failed (l := l) (E := E) (ω := ω) hF) H.size) cw hR rfl (by decide) rfl rfl hls _ rfl hW hdg hf) (fun H1 locs1 h _ => kk H1 locs1 h)
set_option maxHeartbeats 4000000 in
set_option maxRecDepth 100000 in
theorem mX5_failedLong {l : Launch} {E : kE} {ω σ σ1 : kS} {r : Int64} {a1 : Int32}  (hF : fX5_failedLong a1 σ = some (r, σ1)) : kMetL l yX5_failedLong cX5_failedLong 2 1 E [.ref (ead E 26), .int a1] (cmb ω σ) r (cmb ω σ1) := by
  refine kMetL.of (by decide +kernel) (Nat.le_of_ble_eq_true rfl) ?_
  intro p e s m args below meth c Q ls S hR hw hl
  have hl : lv_has ls 2 [(0, .ref (ead E 26)), (1, .int a1)] := hl
  unfold fX5_failedLong at hF
  refine lv_aload_n S.1 S.2.1 dX5_failedLong_0 rfl (lv_at hl 0 rfl) ?_
  refine lv_iload_n S.1 S.2.1 dX5_failedLong_1 rfl (lv_at hl 1 rfl) ?_
  refine pf_X5_72 S hw dX5_failedLong_2 (fun H locs hw => ?_)
  obtain ⟨r3, σ2, e1, hF⟩ := kbl_e hF
  refine kcX5_lost S hw cv_X5_76 ⟨Nat.le_of_ble_eq_true rfl, Nat.le_of_ble_eq_true rfl⟩ e1 hl.1 (Nat.le_of_ble_eq_true rfl) dX5_failedLong_5 (fun H locs hw => ?_)
  obtain ⟨rfl, rfl⟩ := kret hF
  exact hR _ _ _ _ dX5_failedLong_8 hw
set_option maxRecDepth 100000 in
theorem kcX5_failedLong {p : Program} {l : Launch} {e : Env} {R : Room} {s : State} {m : MethodId} {args : Array Value} {below : List Frame} {meth : Method} {c : Code} {H : Heap} {locs : List Loc} {cells slots : Nat} {Q : State → Prop} {cc : ByteArray} {pc : Nat} {ls : Array Slot} {rest : List Value} {E : kE} {σ ω σ1 : kS} {nL index : Nat} {own : String} {r : Int64} (S : CallFix p m c cc nL s args kBIG own) (hw : kWS E s (cmb ω σ) H locs) (cw : kV own RX5 index yX5_failedLong cX5_failedLong 2 (some .long) 1) (hR : 1 + 1 ≤ R.frames ∧ 8 + (2 + 11) + 40 * 1 ≤ R.locals) {a1 : Int32}  (hF : fX5_failedLong a1 σ = some (r, σ1)) (hls : ls.size = nL) (hW : (rest.map fun v => v.category).sum ≤ 8) (hdg : decode cc pc = .ok (.invokevirtual index, 3)) (kk : ∀ (H1 : Heap) (locs1 : List Loc), kWS E s (cmb ω σ1) H1 locs1 → W p l e R s m args below meth c H1 locs1 cells slots Q (F0 m (pc + 3) ls (.long r :: rest))) (hf : cells ≤ R.cells ∧ slots ≤ R.slots := by exact ⟨Nat.le_of_ble_eq_true rfl, Nat.le_of_ble_eq_true rfl⟩) : W p l e R s m args below meth c H locs cells slots Q (F0 m pc ls (.int a1 :: .ref (ead E 26) :: rest)) := kr_calll hw (kr_runV (As := [.int a1]) (q := 26) S hw ((mX5_failedLong (l := l) (E := E) (ω := ω) hF) H.size) cw hR rfl (by decide) rfl rfl hls _ rfl hW hdg hf) kk
set_option maxHeartbeats 4000000 in
set_option maxRecDepth 100000 in
theorem mX5_noPerson {l : Launch} {E : kE} {ω σ σ1 : kS} {r : Int32} {a1 : Int32}  (hF : fX5_noPerson a1 σ = some (r, σ1)) : kMetI l yX5_noPerson cX5_noPerson 2 (some .boolean) 1 E [.ref (ead E 26), .int a1] (cmb ω σ) r (cmb ω σ1) := by
  refine kMetI.of (by decide +kernel) (Nat.le_of_ble_eq_true rfl) (Or.inr rfl) ?_
  intro p e s m args below meth c Q ls S hR hw hl
  have hl : lv_has ls 2 [(0, .ref (ead E 26)), (1, .int a1)] := hl
  unfold fX5_noPerson at hF
  refine lv_iload_n S.1 S.2.1 dX5_noPerson_0 rfl (lv_at hl 1 rfl) ?_
  refine lv_i2l S.1 S.2.1 dX5_noPerson_1 rfl ?_
  refine lv_lconst (v := 0) S.1 S.2.1 dX5_noPerson_2 (by decide) ?_
  refine lv_aload_n S.1 S.2.1 dX5_noPerson_3 rfl (lv_at hl 0 rfl) ?_
  refine gf_X5_80 S hw dX5_noPerson_4 ?_
  refine lv_i2l S.1 S.2.1 dX5_noPerson_7 rfl ?_
  refine lv_lconst (v := 1) S.1 S.2.1 dX5_noPerson_8 (by decide) ?_
  refine lv_lsub S.1 S.2.1 dX5_noPerson_9 ?_
  obtain ⟨r3, σ2, e1, hF⟩ := kbi_e hF
  refine kcX5_in S hw cv_X5_83 ⟨Nat.le_of_ble_eq_true rfl, Nat.le_of_ble_eq_true rfl⟩ e1 hl.1 (Nat.le_of_ble_eq_true rfl) dX5_noPerson_10 (fun H locs hw hz4 => ?_)
  refine lv_if_ne (tgt := 20) S.1 S.2.1 dX5_noPerson_13 (by decide) (fun c5 => ?_) (fun c5 => ?_)
  · replace hF := kif hF c5
    refine lv_iconst (v := 0) S.1 S.2.1 dX5_noPerson_20 (by decide) ?_
    obtain ⟨rfl, rfl⟩ := kret hF
    exact hR _ _ _ _ dX5_noPerson_21 hw (fun _ => (Or.inl rfl))
  · replace hF := kit hF c5
    refine lv_iconst (v := 1) S.1 S.2.1 dX5_noPerson_16 (by decide) ?_
    refine lv_goto (tgt := 21) S.1 S.2.1 dX5_noPerson_17 (by decide) ?_
    obtain ⟨rfl, rfl⟩ := kret hF
    exact hR _ _ _ _ dX5_noPerson_21 hw (fun _ => (Or.inr rfl))
set_option maxRecDepth 100000 in
theorem kcX5_noPerson {p : Program} {l : Launch} {e : Env} {R : Room} {s : State} {m : MethodId} {args : Array Value} {below : List Frame} {meth : Method} {c : Code} {H : Heap} {locs : List Loc} {cells slots : Nat} {Q : State → Prop} {cc : ByteArray} {pc : Nat} {ls : Array Slot} {rest : List Value} {E : kE} {σ ω σ1 : kS} {nL index : Nat} {own : String} {r : Int32} (S : CallFix p m c cc nL s args kBIG own) (hw : kWS E s (cmb ω σ) H locs) (cw : kV own RX5 index yX5_noPerson cX5_noPerson 2 (some .boolean) 1) (hR : 1 + 1 ≤ R.frames ∧ 8 + (2 + 11) + 40 * 1 ≤ R.locals) {a1 : Int32}  (hF : fX5_noPerson a1 σ = some (r, σ1)) (hls : ls.size = nL) (hW : (rest.map fun v => v.category).sum ≤ 8) (hdg : decode cc pc = .ok (.invokevirtual index, 3)) (kk : ∀ (H1 : Heap) (locs1 : List Loc), kWS E s (cmb ω σ1) H1 locs1 → (((some .boolean) : Option FieldType) = some .boolean → r = 0 ∨ r = 1) → W p l e R s m args below meth c H1 locs1 cells slots Q (F0 m (pc + 3) ls (.int r :: rest))) (hf : cells ≤ R.cells ∧ slots ≤ R.slots := by exact ⟨Nat.le_of_ble_eq_true rfl, Nat.le_of_ble_eq_true rfl⟩) : W p l e R s m args below meth c H locs cells slots Q (F0 m pc ls (.int a1 :: .ref (ead E 26) :: rest)) := kr_calli (mc := 0) (y := yX5_noPerson) (b := cX5_noPerson) (n := 0) (lv := 0) (As := []) hw (kr_runV (As := [.int a1]) (q := 26) S hw ((mX5_noPerson (l := l) (E := E) (ω := ω) hF) H.size) cw hR rfl (by decide) rfl rfl hls _ rfl hW hdg hf) kk
set_option maxHeartbeats 4000000 in
set_option maxRecDepth 100000 in
theorem mX5_codeAt {l : Launch} {E : kE} {ω σ σ1 : kS} {r : Int32} {a1 : Int32} {a2 : Int32}  (hF : fX5_codeAt a1 a2 σ = some (r, σ1)) : kMetI l yX5_codeAt cX5_codeAt 3 (some .int) 0 E [.ref (ead E 26), .int a1, .int a2] (cmb ω σ) r (cmb ω σ1) := by
  refine kMetI.of (by decide +kernel) (Nat.le_of_ble_eq_true rfl) (Or.inl rfl) ?_
  intro p e s m args below meth c Q ls S hR hw hl
  have hl : lv_has ls 3 [(0, .ref (ead E 26)), (1, .int a1), (2, .int a2)] := hl
  unfold fX5_codeAt at hF
  refine lv_aload_n S.1 S.2.1 dX5_codeAt_0 rfl (lv_at hl 0 rfl) ?_
  refine gf_X5_87 S hw dX5_codeAt_1 ?_
  refine lv_iload_n S.1 S.2.1 dX5_codeAt_4 rfl (lv_at hl 2 rfl) ?_
  refine lv_icmp_ge (tgt := 22) S.1 S.2.1 dX5_codeAt_5 (by decide) (fun c1 => ?_) (fun c1 => ?_)
  · replace hF := kit hF c1
    refine lv_bipush (v := (-9)) S.1 S.2.1 dX5_codeAt_22 (by decide) ?_
    obtain ⟨rfl, rfl⟩ := kret hF
    exact hR _ _ _ _ dX5_codeAt_24 hw (fun h => nomatch h)
  · replace hF := kif hF c1
    refine lv_aload_n S.1 S.2.1 dX5_codeAt_8 rfl (lv_at hl 0 rfl) ?_
    refine gf_X5_64 S hw dX5_codeAt_9 ?_
    refine lv_iload_n S.1 S.2.1 dX5_codeAt_12 rfl (lv_at hl 1 rfl) ?_
    refine lv_aload_n S.1 S.2.1 dX5_codeAt_13 rfl (lv_at hl 0 rfl) ?_
    refine gf_X5_87 S hw dX5_codeAt_14 ?_
    refine lv_iadd S.1 S.2.1 dX5_codeAt_17 ?_
    obtain ⟨hb2, hF⟩ := kin hF
    refine km_iald (q := 19) S hw rfl (Nat.le_of_ble_eq_true rfl) hb2 dX5_codeAt_18 ?_
    refine lv_goto (tgt := 24) S.1 S.2.1 dX5_codeAt_19 (by decide) ?_
    obtain ⟨rfl, rfl⟩ := kret hF
    exact hR _ _ _ _ dX5_codeAt_24 hw (fun h => nomatch h)
set_option maxRecDepth 100000 in
theorem kcX5_codeAt {p : Program} {l : Launch} {e : Env} {R : Room} {s : State} {m : MethodId} {args : Array Value} {below : List Frame} {meth : Method} {c : Code} {H : Heap} {locs : List Loc} {cells slots : Nat} {Q : State → Prop} {cc : ByteArray} {pc : Nat} {ls : Array Slot} {rest : List Value} {E : kE} {σ ω σ1 : kS} {nL index : Nat} {own : String} {r : Int32} (S : CallFix p m c cc nL s args kBIG own) (hw : kWS E s (cmb ω σ) H locs) (cw : kV own RX5 index yX5_codeAt cX5_codeAt 3 (some .int) 2) (hR : 0 + 1 ≤ R.frames ∧ 8 + (3 + 11) + 40 * 0 ≤ R.locals) {a1 : Int32} {a2 : Int32}  (hF : fX5_codeAt a1 a2 σ = some (r, σ1)) (hls : ls.size = nL) (hW : (rest.map fun v => v.category).sum ≤ 8) (hdg : decode cc pc = .ok (.invokevirtual index, 3)) (kk : ∀ (H1 : Heap) (locs1 : List Loc), kWS E s (cmb ω σ1) H1 locs1 → W p l e R s m args below meth c H1 locs1 cells slots Q (F0 m (pc + 3) ls (.int r :: rest))) (hf : cells ≤ R.cells ∧ slots ≤ R.slots := by exact ⟨Nat.le_of_ble_eq_true rfl, Nat.le_of_ble_eq_true rfl⟩) : W p l e R s m args below meth c H locs cells slots Q (F0 m pc ls (.int a2 :: .int a1 :: .ref (ead E 26) :: rest)) := kr_calli (mc := 0) (y := yX5_codeAt) (b := cX5_codeAt) (n := 0) (lv := 0) (As := []) (ret := some .int) hw (kr_runV (As := [.int a1, .int a2]) (q := 26) S hw ((mX5_codeAt (l := l) (E := E) (ω := ω) hF) H.size) cw hR rfl (by decide) rfl rfl hls _ rfl hW hdg hf) (fun H1 locs1 h _ => kk H1 locs1 h)
set_option maxHeartbeats 4000000 in
set_option maxRecDepth 100000 in
theorem wX5_figure_J18 {p : Program} {l : Launch} {e : Env} {s : State} {m : MethodId} {args : Array Value} {below : List Frame} {meth : Method} {c : Code} {Q : State → Prop} {E : kE} {ω σ1 : kS} {r : Int32} (S : CallFix p m c cX5_figure 7 s args kBIG RX5) (hR : kRetI p l e (rml 1) s m args below meth c cX5_figure E Q (some .int) r (cmb ω σ1))  : ∀ (a4 : Int32) (as0 : Int32) (σ : kS) (H : Heap) (locs : List Loc) (ls : Array Slot), fX5_figure_J18 a4 as0 σ = some (r, σ1) → kWS E s (cmb ω σ) H locs → lv_has ls 7 [(0, .ref (ead E 26)), (4, .int a4)] → W p l e (rml 1) s m args below meth c H locs 0 0 Q (F0 m 18 ls [.int as0]) := by
  intro a4 as0 σ H locs ls hF hw hl
  unfold fX5_figure_J18 at hF
  refine lv_istore (lv' := [(5, .int as0), (0, .ref (ead E 26)), (4, .int a4)]) S.1 S.2.1 dX5_figure_18 hl (by decide) rfl (fun ls hl => ?_)
  refine lv_iload S.1 S.2.1 dX5_figure_20 (lv_at hl 0 rfl) ?_
  refine lv_i2l S.1 S.2.1 dX5_figure_22 rfl ?_
  refine lv_lconst (v := 0) S.1 S.2.1 dX5_figure_23 (by decide) ?_
  refine lv_iload S.1 S.2.1 dX5_figure_24 (lv_at hl 2 rfl) ?_
  refine lv_i2l S.1 S.2.1 dX5_figure_26 rfl ?_
  obtain ⟨r7, σ6, e5, hF⟩ := kbi_e hF
  refine kcX5_in S hw cv_X5_83 ⟨Nat.le_of_ble_eq_true rfl, Nat.le_of_ble_eq_true rfl⟩ e5 hl.1 (Nat.le_of_ble_eq_true rfl) dX5_figure_27 (fun H locs hw hz8 => ?_)
  refine lv_istore (lv' := [(6, .int r7), (5, .int as0), (0, .ref (ead E 26)), (4, .int a4)]) S.1 S.2.1 dX5_figure_30 hl (by decide) rfl (fun ls hl => ?_)
  refine lv_aload_n S.1 S.2.1 dX5_figure_32 rfl (lv_at hl 2 rfl) ?_
  refine lv_dup S.1 S.2.1 dX5_figure_33 rfl ?_
  refine gf_X5_87 S hw dX5_figure_34 ?_
  refine lv_iload S.1 S.2.1 dX5_figure_37 (lv_at hl 0 rfl) ?_
  refine lv_if_eq (tgt := 46) S.1 S.2.1 dX5_figure_39 (by decide) (fun c9 => ?_) (fun c9 => ?_)
  · replace hF := kit hF c9
    refine lv_iconst (v := 0) S.1 S.2.1 dX5_figure_46 (by decide) ?_
    refine lv_iadd S.1 S.2.1 dX5_figure_47 ?_
    refine pf_X5_87 S hw dX5_figure_48 (fun H locs hw => ?_)
    refine lv_iload S.1 S.2.1 dX5_figure_51 (lv_at hl 0 rfl) ?_
    refine lv_if_eq (tgt := 61) S.1 S.2.1 dX5_figure_53 (by decide) (fun c10 => ?_) (fun c10 => ?_)
    · replace hF := kit hF c10
      refine lv_bipush (v := (-9)) S.1 S.2.1 dX5_figure_61 (by decide) ?_
      obtain ⟨rfl, rfl⟩ := kret hF
      exact hR _ _ _ _ dX5_figure_63 hw (fun h => nomatch h)
    · replace hF := kif hF c10
      refine lv_iload S.1 S.2.1 dX5_figure_56 (lv_at hl 1 rfl) ?_
      refine lv_goto (tgt := 63) S.1 S.2.1 dX5_figure_58 (by decide) ?_
      obtain ⟨rfl, rfl⟩ := kret hF
      exact hR _ _ _ _ dX5_figure_63 hw (fun h => nomatch h)
  · replace hF := kif hF c9
    refine lv_iconst (v := 1) S.1 S.2.1 dX5_figure_42 (by decide) ?_
    refine lv_goto (tgt := 47) S.1 S.2.1 dX5_figure_43 (by decide) ?_
    refine lv_iadd S.1 S.2.1 dX5_figure_47 ?_
    refine pf_X5_87 S hw dX5_figure_48 (fun H locs hw => ?_)
    refine lv_iload S.1 S.2.1 dX5_figure_51 (lv_at hl 0 rfl) ?_
    refine lv_if_eq (tgt := 61) S.1 S.2.1 dX5_figure_53 (by decide) (fun c11 => ?_) (fun c11 => ?_)
    · replace hF := kit hF c11
      refine lv_bipush (v := (-9)) S.1 S.2.1 dX5_figure_61 (by decide) ?_
      obtain ⟨rfl, rfl⟩ := kret hF
      exact hR _ _ _ _ dX5_figure_63 hw (fun h => nomatch h)
    · replace hF := kif hF c11
      refine lv_iload S.1 S.2.1 dX5_figure_56 (lv_at hl 1 rfl) ?_
      refine lv_goto (tgt := 63) S.1 S.2.1 dX5_figure_58 (by decide) ?_
      obtain ⟨rfl, rfl⟩ := kret hF
      exact hR _ _ _ _ dX5_figure_63 hw (fun h => nomatch h)
set_option maxHeartbeats 4000000 in
set_option maxRecDepth 100000 in
theorem mX5_figure {l : Launch} {E : kE} {ω σ σ1 : kS} {r : Int32} {a1 : Int32} {a2 : Int32} {a3 : Int32} {a4 : Int32}  (hF : fX5_figure a1 a2 a3 a4 σ = some (r, σ1)) : kMetI l yX5_figure cX5_figure 7 (some .int) 1 E [.ref (ead E 26), .int a1, .int a2, .int a3, .int a4] (cmb ω σ) r (cmb ω σ1) := by
  refine kMetI.of (by decide +kernel) (Nat.le_of_ble_eq_true rfl) (Or.inl rfl) ?_
  intro p e s m args below meth c Q ls S hR hw hl
  have hl : lv_has ls 7 [(0, .ref (ead E 26)), (1, .int a1), (2, .int a2), (3, .int a3), (4, .int a4)] := hl
  unfold fX5_figure at hF
  refine lv_iload_n S.1 S.2.1 dX5_figure_0 rfl (lv_at hl 3 rfl) ?_
  refine lv_if_ge (tgt := 9) S.1 S.2.1 dX5_figure_1 (by decide) (fun c1 => ?_) (fun c1 => ?_)
  · replace hF := kit hF c1
    refine lv_aload_n S.1 S.2.1 dX5_figure_9 rfl (lv_at hl 0 rfl) ?_
    refine lv_iload_n S.1 S.2.1 dX5_figure_10 rfl (lv_at hl 1 rfl) ?_
    refine lv_iload_n S.1 S.2.1 dX5_figure_11 rfl (lv_at hl 2 rfl) ?_
    obtain ⟨r4, σ3, e2, hF⟩ := kbi_e hF
    refine kcX5_codeAt S hw cv_X5_90 ⟨Nat.le_of_ble_eq_true rfl, Nat.le_of_ble_eq_true rfl⟩ e2 hl.1 (Nat.le_of_ble_eq_true rfl) dX5_figure_12 (fun H locs hw => ?_)
    refine lv_bipush (v := 48) S.1 S.2.1 dX5_figure_15 (by decide) ?_
    refine lv_isub S.1 S.2.1 dX5_figure_17 ?_
    exact wX5_figure_J18 S hR a4 (r4 - 48) _ _ _ _ hF hw (lv_sub hl [0, 4] rfl)
  · replace hF := kif hF c1
    refine lv_bipush (v := (-9)) S.1 S.2.1 dX5_figure_4 (by decide) ?_
    refine lv_goto (tgt := 18) S.1 S.2.1 dX5_figure_6 (by decide) ?_
    exact wX5_figure_J18 S hR a4 (-9) _ _ _ _ hF hw (lv_sub hl [0, 4] rfl)
set_option maxRecDepth 100000 in
theorem kcX5_figure {p : Program} {l : Launch} {e : Env} {R : Room} {s : State} {m : MethodId} {args : Array Value} {below : List Frame} {meth : Method} {c : Code} {H : Heap} {locs : List Loc} {cells slots : Nat} {Q : State → Prop} {cc : ByteArray} {pc : Nat} {ls : Array Slot} {rest : List Value} {E : kE} {σ ω σ1 : kS} {nL index : Nat} {own : String} {r : Int32} (S : CallFix p m c cc nL s args kBIG own) (hw : kWS E s (cmb ω σ) H locs) (cw : kV own RX5 index yX5_figure cX5_figure 7 (some .int) 4) (hR : 1 + 1 ≤ R.frames ∧ 8 + (7 + 11) + 40 * 1 ≤ R.locals) {a1 : Int32} {a2 : Int32} {a3 : Int32} {a4 : Int32}  (hF : fX5_figure a1 a2 a3 a4 σ = some (r, σ1)) (hls : ls.size = nL) (hW : (rest.map fun v => v.category).sum ≤ 8) (hdg : decode cc pc = .ok (.invokevirtual index, 3)) (kk : ∀ (H1 : Heap) (locs1 : List Loc), kWS E s (cmb ω σ1) H1 locs1 → W p l e R s m args below meth c H1 locs1 cells slots Q (F0 m (pc + 3) ls (.int r :: rest))) (hf : cells ≤ R.cells ∧ slots ≤ R.slots := by exact ⟨Nat.le_of_ble_eq_true rfl, Nat.le_of_ble_eq_true rfl⟩) : W p l e R s m args below meth c H locs cells slots Q (F0 m pc ls (.int a4 :: .int a3 :: .int a2 :: .int a1 :: .ref (ead E 26) :: rest)) := kr_calli (mc := 0) (y := yX5_figure) (b := cX5_figure) (n := 0) (lv := 0) (As := []) (ret := some .int) hw (kr_runV (As := [.int a1, .int a2, .int a3, .int a4]) (q := 26) S hw ((mX5_figure (l := l) (E := E) (ω := ω) hF) H.size) cw hR rfl (by decide) rfl rfl hls _ rfl hW hdg hf) (fun H1 locs1 h _ => kk H1 locs1 h)
set_option maxHeartbeats 4000000 in
set_option maxRecDepth 100000 in
theorem wX5_readsPerson_J133 {p : Program} {l : Launch} {e : Env} {s : State} {m : MethodId} {args : Array Value} {below : List Frame} {meth : Method} {c : Code} {Q : State → Prop} {E : kE} {ω σ1 : kS} {r : Int32} (S : CallFix p m c cX5_readsPerson 7 s args kBIG RX5) (hR : kRetI p l e (rml 2) s m args below meth c cX5_readsPerson E Q (some .boolean) r (cmb ω σ1))  : ∀ (a4 : Int32) (a5 : Int32) (a6 : Int32) (as2 : Int32) (as1 : Int32) (σ : kS) (H : Heap) (locs : List Loc) (ls : Array Slot), fX5_readsPerson_J133 a4 a5 a6 as2 as1 σ = some (r, σ1) → kWS E s (cmb ω σ) H locs → lv_has ls 7 [(0, .ref (ead E 26)), (4, .int a4), (5, .int a5), (6, .int a6)] → W p l e (rml 2) s m args below meth c H locs 0 0 Q (F0 m 133 ls [.int as2, .int as1, .ref (ead E 31)]) := by
  intro a4 a5 a6 as2 as1 σ H locs ls hF hw hl
  unfold fX5_readsPerson_J133 at hF
  obtain ⟨hb23, hF⟩ := kin hF
  refine km_iast (q := 5) S hw rfl (Nat.le_of_ble_eq_true rfl) hb23 dX5_readsPerson_133 (fun H locs hw => ?_)
  refine lv_aload_n S.1 S.2.1 dX5_readsPerson_134 rfl (lv_at hl 0 rfl) ?_
  refine gf_X5_25 S hw dX5_readsPerson_135 ?_
  refine lv_aload_n S.1 S.2.1 dX5_readsPerson_138 rfl (lv_at hl 0 rfl) ?_
  refine gf_X5_94 S hw dX5_readsPerson_139 ?_
  refine lv_iload S.1 S.2.1 dX5_readsPerson_142 (lv_at hl 1 rfl) ?_
  obtain ⟨hb24, hF⟩ := kin hF
  refine km_iast (q := 6) S hw rfl (Nat.le_of_ble_eq_true rfl) hb24 dX5_readsPerson_144 (fun H locs hw => ?_)
  refine lv_aload_n S.1 S.2.1 dX5_readsPerson_145 rfl (lv_at hl 0 rfl) ?_
  refine gf_X5_28 S hw dX5_readsPerson_146 ?_
  refine lv_aload_n S.1 S.2.1 dX5_readsPerson_149 rfl (lv_at hl 0 rfl) ?_
  refine gf_X5_94 S hw dX5_readsPerson_150 ?_
  refine lv_iload S.1 S.2.1 dX5_readsPerson_153 (lv_at hl 2 rfl) ?_
  obtain ⟨hb25, hF⟩ := kin hF
  refine km_iast (q := 7) S hw rfl (Nat.le_of_ble_eq_true rfl) hb25 dX5_readsPerson_155 (fun H locs hw => ?_)
  refine lv_aload_n S.1 S.2.1 dX5_readsPerson_156 rfl (lv_at hl 0 rfl) ?_
  refine gf_X5_31 S hw dX5_readsPerson_157 ?_
  refine lv_aload_n S.1 S.2.1 dX5_readsPerson_160 rfl (lv_at hl 0 rfl) ?_
  refine gf_X5_94 S hw dX5_readsPerson_161 ?_
  refine lv_iload S.1 S.2.1 dX5_readsPerson_164 (lv_at hl 3 rfl) ?_
  obtain ⟨hb26, hF⟩ := kin hF
  refine km_iast (q := 8) S hw rfl (Nat.le_of_ble_eq_true rfl) hb26 dX5_readsPerson_166 (fun H locs hw => ?_)
  refine lv_aload_n S.1 S.2.1 dX5_readsPerson_167 rfl (lv_at hl 0 rfl) ?_
  refine lv_dup S.1 S.2.1 dX5_readsPerson_168 rfl ?_
  refine gf_X5_94 S hw dX5_readsPerson_169 ?_
  refine lv_iconst (v := 1) S.1 S.2.1 dX5_readsPerson_172 (by decide) ?_
  refine lv_iadd S.1 S.2.1 dX5_readsPerson_173 ?_
  refine pf_X5_94 S hw dX5_readsPerson_174 (fun H locs hw => ?_)
  refine lv_iload S.1 S.2.1 dX5_readsPerson_177 (lv_at hl 3 rfl) ?_
  refine lv_if_lt (tgt := 186) S.1 S.2.1 dX5_readsPerson_179 (by decide) (fun c27 => ?_) (fun c27 => ?_)
  · replace hF := kit hF c27
    refine lv_iconst (v := 0) S.1 S.2.1 dX5_readsPerson_186 (by decide) ?_
    obtain ⟨rfl, rfl⟩ := kret hF
    exact hR _ _ _ _ dX5_readsPerson_187 hw (fun _ => (Or.inl rfl))
  · replace hF := kif hF c27
    refine lv_iconst (v := 1) S.1 S.2.1 dX5_readsPerson_182 (by decide) ?_
    refine lv_goto (tgt := 187) S.1 S.2.1 dX5_readsPerson_183 (by decide) ?_
    obtain ⟨rfl, rfl⟩ := kret hF
    exact hR _ _ _ _ dX5_readsPerson_187 hw (fun _ => (Or.inr rfl))
set_option maxHeartbeats 4000000 in
set_option maxRecDepth 100000 in
theorem wX5_readsPerson_J59 {p : Program} {l : Launch} {e : Env} {s : State} {m : MethodId} {args : Array Value} {below : List Frame} {meth : Method} {c : Code} {Q : State → Prop} {E : kE} {ω σ1 : kS} {r : Int32} (S : CallFix p m c cX5_readsPerson 7 s args kBIG RX5) (hR : kRetI p l e (rml 2) s m args below meth c cX5_readsPerson E Q (some .boolean) r (cmb ω σ1))  : ∀ (a1 : Int32) (a2 : Int32) (a3 : Int32) (σ : kS) (H : Heap) (locs : List Loc) (ls : Array Slot), fX5_readsPerson_J59 a1 a2 a3 σ = some (r, σ1) → kWS E s (cmb ω σ) H locs → lv_has ls 7 [(0, .ref (ead E 26)), (1, .int a1), (2, .int a2), (3, .int a3)] → W p l e (rml 2) s m args below meth c H locs 0 0 Q (F0 m 59 ls []) := by
  intro a1 a2 a3 σ H locs ls hF hw hl
  unfold fX5_readsPerson_J59 at hF
  refine lv_aload_n S.1 S.2.1 dX5_readsPerson_59 rfl (lv_at hl 0 rfl) ?_
  refine lv_dup S.1 S.2.1 dX5_readsPerson_60 rfl ?_
  refine gf_X5_87 S hw dX5_readsPerson_61 ?_
  refine lv_iconst (v := 1) S.1 S.2.1 dX5_readsPerson_64 (by decide) ?_
  refine lv_iadd S.1 S.2.1 dX5_readsPerson_65 ?_
  refine pf_X5_87 S hw dX5_readsPerson_66 (fun H locs hw => ?_)
  refine lv_aload_n S.1 S.2.1 dX5_readsPerson_69 rfl (lv_at hl 0 rfl) ?_
  refine lv_iload_n S.1 S.2.1 dX5_readsPerson_70 rfl (lv_at hl 1 rfl) ?_
  refine lv_iload_n S.1 S.2.1 dX5_readsPerson_71 rfl (lv_at hl 2 rfl) ?_
  refine lv_iconst (v := 0) S.1 S.2.1 dX5_readsPerson_72 (by decide) ?_
  refine lv_bipush (v := 7) S.1 S.2.1 dX5_readsPerson_73 (by decide) ?_
  obtain ⟨r14, σ13, e12, hF⟩ := kbi_e hF
  refine kcX5_figure S hw cv_X5_97 ⟨Nat.le_of_ble_eq_true rfl, Nat.le_of_ble_eq_true rfl⟩ e12 hl.1 (Nat.le_of_ble_eq_true rfl) dX5_readsPerson_75 (fun H locs hw => ?_)
  refine lv_istore (lv' := [(4, .int r14), (0, .ref (ead E 26)), (1, .int a1), (2, .int a2), (3, .int a3)]) S.1 S.2.1 dX5_readsPerson_78 hl (by decide) rfl (fun ls hl => ?_)
  refine lv_aload_n S.1 S.2.1 dX5_readsPerson_80 rfl (lv_at hl 1 rfl) ?_
  refine lv_iload_n S.1 S.2.1 dX5_readsPerson_81 rfl (lv_at hl 2 rfl) ?_
  refine lv_iload_n S.1 S.2.1 dX5_readsPerson_82 rfl (lv_at hl 3 rfl) ?_
  refine lv_iload S.1 S.2.1 dX5_readsPerson_83 (lv_at hl 0 rfl) ?_
  refine lv_bipush (v := 7) S.1 S.2.1 dX5_readsPerson_85 (by decide) ?_
  obtain ⟨r17, σ16, e15, hF⟩ := kbi_e hF
  refine kcX5_figure S hw cv_X5_97 ⟨Nat.le_of_ble_eq_true rfl, Nat.le_of_ble_eq_true rfl⟩ e15 hl.1 (Nat.le_of_ble_eq_true rfl) dX5_readsPerson_87 (fun H locs hw => ?_)
  refine lv_istore (lv' := [(5, .int r17), (4, .int r14), (0, .ref (ead E 26)), (1, .int a1), (2, .int a2), (3, .int a3)]) S.1 S.2.1 dX5_readsPerson_90 hl (by decide) rfl (fun ls hl => ?_)
  refine lv_aload_n S.1 S.2.1 dX5_readsPerson_92 rfl (lv_at hl 2 rfl) ?_
  refine lv_iload_n S.1 S.2.1 dX5_readsPerson_93 rfl (lv_at hl 3 rfl) ?_
  refine lv_iload_n S.1 S.2.1 dX5_readsPerson_94 rfl (lv_at hl 4 rfl) ?_
  refine lv_iload S.1 S.2.1 dX5_readsPerson_95 (lv_at hl 0 rfl) ?_
  refine lv_bipush (v := 9) S.1 S.2.1 dX5_readsPerson_97 (by decide) ?_
  obtain ⟨r20, σ19, e18, hF⟩ := kbi_e hF
  refine kcX5_figure S hw cv_X5_97 ⟨Nat.le_of_ble_eq_true rfl, Nat.le_of_ble_eq_true rfl⟩ e18 hl.1 (Nat.le_of_ble_eq_true rfl) dX5_readsPerson_99 (fun H locs hw => ?_)
  refine lv_istore (lv' := [(6, .int r20), (5, .int r17), (4, .int r14), (0, .ref (ead E 26)), (1, .int a1), (2, .int a2), (3, .int a3)]) S.1 S.2.1 dX5_readsPerson_102 hl (by decide) rfl (fun ls hl => ?_)
  refine lv_aload_n S.1 S.2.1 dX5_readsPerson_104 rfl (lv_at hl 3 rfl) ?_
  refine gf_X5_22 S hw dX5_readsPerson_105 ?_
  refine lv_aload_n S.1 S.2.1 dX5_readsPerson_108 rfl (lv_at hl 3 rfl) ?_
  refine gf_X5_94 S hw dX5_readsPerson_109 ?_
  refine lv_iload_n S.1 S.2.1 dX5_readsPerson_112 rfl (lv_at hl 6 rfl) ?_
  refine lv_bipush (v := 112) S.1 S.2.1 dX5_readsPerson_113 (by decide) ?_
  refine lv_icmp_ne (tgt := 122) S.1 S.2.1 dX5_readsPerson_115 (by decide) (fun c21 => ?_) (fun c21 => ?_)
  · replace hF := kif hF c21
    refine lv_iload_n S.1 S.2.1 dX5_readsPerson_122 rfl (lv_at hl 6 rfl) ?_
    refine lv_bipush (v := 114) S.1 S.2.1 dX5_readsPerson_123 (by decide) ?_
    refine lv_icmp_ne (tgt := 132) S.1 S.2.1 dX5_readsPerson_125 (by decide) (fun c22 => ?_) (fun c22 => ?_)
    · replace hF := kif hF c22
      refine lv_iconst (v := 2) S.1 S.2.1 dX5_readsPerson_132 (by decide) ?_
      exact wX5_readsPerson_J133 S hR r14 r17 r20 2 (σ19 0 10) _ _ _ _ hF hw (lv_sub hl [3, 2, 1, 0] rfl)
    · replace hF := kit hF c22
      refine lv_iconst (v := 1) S.1 S.2.1 dX5_readsPerson_128 (by decide) ?_
      refine lv_goto (tgt := 133) S.1 S.2.1 dX5_readsPerson_129 (by decide) ?_
      exact wX5_readsPerson_J133 S hR r14 r17 r20 1 (σ19 0 10) _ _ _ _ hF hw (lv_sub hl [3, 2, 1, 0] rfl)
  · replace hF := kit hF c21
    refine lv_iconst (v := 0) S.1 S.2.1 dX5_readsPerson_118 (by decide) ?_
    refine lv_goto (tgt := 133) S.1 S.2.1 dX5_readsPerson_119 (by decide) ?_
    exact wX5_readsPerson_J133 S hR r14 r17 r20 0 (σ19 0 10) _ _ _ _ hF hw (lv_sub hl [3, 2, 1, 0] rfl)
set_option maxHeartbeats 4000000 in
set_option maxRecDepth 100000 in
theorem mX5_readsPerson {l : Launch} {E : kE} {ω σ σ1 : kS} {r : Int32} {a1 : Int32} {a2 : Int32}  (hF : fX5_readsPerson a1 a2 σ = some (r, σ1)) : kMetI l yX5_readsPerson cX5_readsPerson 7 (some .boolean) 2 E [.ref (ead E 26), .int a1, .int a2] (cmb ω σ) r (cmb ω σ1) := by
  refine kMetI.of (by decide +kernel) (Nat.le_of_ble_eq_true rfl) (Or.inr rfl) ?_
  intro p e s m args below meth c Q ls S hR hw hl
  have hl : lv_has ls 7 [(0, .ref (ead E 26)), (1, .int a1), (2, .int a2)] := hl
  unfold fX5_readsPerson at hF
  refine lv_aload_n S.1 S.2.1 dX5_readsPerson_0 rfl (lv_at hl 0 rfl) ?_
  refine gf_X5_94 S hw dX5_readsPerson_1 ?_
  refine lv_bipush (v := 6) S.1 S.2.1 dX5_readsPerson_4 (by decide) ?_
  refine lv_icmp_eq (tgt := 20) S.1 S.2.1 dX5_readsPerson_6 (by decide) (fun c1 => ?_) (fun c1 => ?_)
  · replace hF := kit hF c1
    refine lv_iconst (v := 0) S.1 S.2.1 dX5_readsPerson_20 (by decide) ?_
    obtain ⟨rfl, rfl⟩ := kret hF
    exact hR _ _ _ _ dX5_readsPerson_21 hw (fun _ => (Or.inl rfl))
  · replace hF := kif hF c1
    refine lv_aload_n S.1 S.2.1 dX5_readsPerson_9 rfl (lv_at hl 0 rfl) ?_
    refine lv_iload_n S.1 S.2.1 dX5_readsPerson_10 rfl (lv_at hl 1 rfl) ?_
    refine lv_iload_n S.1 S.2.1 dX5_readsPerson_11 rfl (lv_at hl 2 rfl) ?_
    obtain ⟨r4, σ3, e2, hF⟩ := kbi_e hF
    refine kcX5_codeAt S hw cv_X5_90 ⟨Nat.le_of_ble_eq_true rfl, Nat.le_of_ble_eq_true rfl⟩ e2 hl.1 (Nat.le_of_ble_eq_true rfl) dX5_readsPerson_12 (fun H locs hw => ?_)
    refine lv_bipush (v := 59) S.1 S.2.1 dX5_readsPerson_15 (by decide) ?_
    refine lv_icmp_eq (tgt := 22) S.1 S.2.1 dX5_readsPerson_17 (by decide) (fun c5 => ?_) (fun c5 => ?_)
    · replace hF := kit hF c5
      refine lv_aload_n S.1 S.2.1 dX5_readsPerson_22 rfl (lv_at hl 0 rfl) ?_
      refine lv_dup S.1 S.2.1 dX5_readsPerson_23 rfl ?_
      refine gf_X5_87 S hw dX5_readsPerson_24 ?_
      refine lv_iconst (v := 1) S.1 S.2.1 dX5_readsPerson_27 (by decide) ?_
      refine lv_iadd S.1 S.2.1 dX5_readsPerson_28 ?_
      refine pf_X5_87 S hw dX5_readsPerson_29 (fun H locs hw => ?_)
      refine lv_aload_n S.1 S.2.1 dX5_readsPerson_32 rfl (lv_at hl 0 rfl) ?_
      refine lv_iload_n S.1 S.2.1 dX5_readsPerson_33 rfl (lv_at hl 1 rfl) ?_
      refine lv_iload_n S.1 S.2.1 dX5_readsPerson_34 rfl (lv_at hl 2 rfl) ?_
      obtain ⟨r8, σ7, e6, hF⟩ := kbi_e hF
      refine kcX5_codeAt S hw cv_X5_90 ⟨Nat.le_of_ble_eq_true rfl, Nat.le_of_ble_eq_true rfl⟩ e6 hl.1 (Nat.le_of_ble_eq_true rfl) dX5_readsPerson_35 (fun H locs hw => ?_)
      refine lv_istore_n (lv' := [(3, .int r8), (0, .ref (ead E 26)), (1, .int a1), (2, .int a2)]) S.1 S.2.1 dX5_readsPerson_38 rfl hl (by decide) rfl (fun ls hl => ?_)
      refine lv_iload_n S.1 S.2.1 dX5_readsPerson_39 rfl (lv_at hl 0 rfl) ?_
      refine lv_bipush (v := 112) S.1 S.2.1 dX5_readsPerson_40 (by decide) ?_
      refine lv_icmp_eq (tgt := 59) S.1 S.2.1 dX5_readsPerson_42 (by decide) (fun c9 => ?_) (fun c9 => ?_)
      · replace hF := kit hF c9
        exact wX5_readsPerson_J59 S hR a1 a2 r8 _ _ _ _ hF hw (lv_sub hl [1, 2, 3, 0] rfl)
      · replace hF := kif hF c9
        refine lv_iload_n S.1 S.2.1 dX5_readsPerson_45 rfl (lv_at hl 0 rfl) ?_
        refine lv_bipush (v := 114) S.1 S.2.1 dX5_readsPerson_46 (by decide) ?_
        refine lv_icmp_eq (tgt := 59) S.1 S.2.1 dX5_readsPerson_48 (by decide) (fun c10 => ?_) (fun c10 => ?_)
        · replace hF := kit hF c10
          exact wX5_readsPerson_J59 S hR a1 a2 r8 _ _ _ _ hF hw (lv_sub hl [1, 2, 3, 0] rfl)
        · replace hF := kif hF c10
          refine lv_iload_n S.1 S.2.1 dX5_readsPerson_51 rfl (lv_at hl 0 rfl) ?_
          refine lv_bipush (v := 107) S.1 S.2.1 dX5_readsPerson_52 (by decide) ?_
          refine lv_icmp_eq (tgt := 59) S.1 S.2.1 dX5_readsPerson_54 (by decide) (fun c11 => ?_) (fun c11 => ?_)
          · replace hF := kit hF c11
            exact wX5_readsPerson_J59 S hR a1 a2 r8 _ _ _ _ hF hw (lv_sub hl [1, 2, 3, 0] rfl)
          · replace hF := kif hF c11
            refine lv_iconst (v := 0) S.1 S.2.1 dX5_readsPerson_57 (by decide) ?_
            obtain ⟨rfl, rfl⟩ := kret hF
            exact hR _ _ _ _ dX5_readsPerson_58 hw (fun _ => (Or.inl rfl))
    · replace hF := kif hF c5
      refine lv_iconst (v := 0) S.1 S.2.1 dX5_readsPerson_20 (by decide) ?_
      obtain ⟨rfl, rfl⟩ := kret hF
      exact hR _ _ _ _ dX5_readsPerson_21 hw (fun _ => (Or.inl rfl))
set_option maxRecDepth 100000 in
theorem kcX5_readsPerson {p : Program} {l : Launch} {e : Env} {R : Room} {s : State} {m : MethodId} {args : Array Value} {below : List Frame} {meth : Method} {c : Code} {H : Heap} {locs : List Loc} {cells slots : Nat} {Q : State → Prop} {cc : ByteArray} {pc : Nat} {ls : Array Slot} {rest : List Value} {E : kE} {σ ω σ1 : kS} {nL index : Nat} {own : String} {r : Int32} (S : CallFix p m c cc nL s args kBIG own) (hw : kWS E s (cmb ω σ) H locs) (cw : kV own RX5 index yX5_readsPerson cX5_readsPerson 7 (some .boolean) 2) (hR : 2 + 1 ≤ R.frames ∧ 8 + (7 + 11) + 40 * 2 ≤ R.locals) {a1 : Int32} {a2 : Int32}  (hF : fX5_readsPerson a1 a2 σ = some (r, σ1)) (hls : ls.size = nL) (hW : (rest.map fun v => v.category).sum ≤ 8) (hdg : decode cc pc = .ok (.invokevirtual index, 3)) (kk : ∀ (H1 : Heap) (locs1 : List Loc), kWS E s (cmb ω σ1) H1 locs1 → (((some .boolean) : Option FieldType) = some .boolean → r = 0 ∨ r = 1) → W p l e R s m args below meth c H1 locs1 cells slots Q (F0 m (pc + 3) ls (.int r :: rest))) (hf : cells ≤ R.cells ∧ slots ≤ R.slots := by exact ⟨Nat.le_of_ble_eq_true rfl, Nat.le_of_ble_eq_true rfl⟩) : W p l e R s m args below meth c H locs cells slots Q (F0 m pc ls (.int a2 :: .int a1 :: .ref (ead E 26) :: rest)) := kr_calli (mc := 0) (y := yX5_readsPerson) (b := cX5_readsPerson) (n := 0) (lv := 0) (As := []) hw (kr_runV (As := [.int a1, .int a2]) (q := 26) S hw ((mX5_readsPerson (l := l) (E := E) (ω := ω) hF) H.size) cw hR rfl (by decide) rfl rfl hls _ rfl hW hdg hf) kk
set_option maxHeartbeats 4000000 in
set_option maxRecDepth 100000 in
theorem wX5_readsMoor_L74 {p : Program} {l : Launch} {e : Env} {s : State} {m : MethodId} {args : Array Value} {below : List Frame} {meth : Method} {c : Code} {Q : State → Prop} {E : kE} {ω σ1 : kS} {r : Int32} (S : CallFix p m c cX5_readsMoor 4 s args kBIG RX5) (hR : kRetI p l e (rml 3) s m args below meth c cX5_readsMoor E Q (some .boolean) r (cmb ω σ1))  : ∀ (n : Nat), ∀ (a1 : Int32) (a2 : Int32) (a3 : Int32) (hz3 : a3 = 0 ∨ a3 = 1) (σ : kS) (H : Heap) (locs : List Loc) (ls : Array Slot), fX5_readsMoor_L74 n a1 a2 a3 σ = some (r, σ1) → kWS E s (cmb ω σ) H locs → lv_has ls 4 [(0, .ref (ead E 26)), (1, .int a1), (2, .int a2), (3, .int a3)] → W p l e (rml 3) s m args below meth c H locs 0 0 Q (F0 m 74 ls []) := by
  intro n
  induction n with
  | zero =>
    intro a1 a2 a3 hz3 σ H locs ls hF hw hl
    exact absurd hF (fun h => nomatch h)
  | succ n ih =>
    intro a1 a2 a3 hz3 σ H locs ls hF hw hl
    rw [fX5_readsMoor_L74] at hF
    refine lv_iload_n S.1 S.2.1 dX5_readsMoor_74 rfl (lv_at hl 3 rfl) ?_
    refine lv_if_eq (tgt := 104) S.1 S.2.1 dX5_readsMoor_75 (by decide) (fun c12 => ?_) (fun c12 => ?_)
    · replace hF := kit hF c12
      refine lv_iload_n S.1 S.2.1 dX5_readsMoor_104 rfl (lv_at hl 3 rfl) ?_
      obtain ⟨rfl, rfl⟩ := kret hF
      exact hR _ _ _ _ dX5_readsMoor_105 hw (fun _ => hz3)
    · replace hF := kif hF c12
      refine lv_aload_n S.1 S.2.1 dX5_readsMoor_78 rfl (lv_at hl 0 rfl) ?_
      refine gf_X5_94 S hw dX5_readsMoor_79 ?_
      refine lv_iconst (v := 2) S.1 S.2.1 dX5_readsMoor_82 (by decide) ?_
      refine lv_icmp_lt (tgt := 94) S.1 S.2.1 dX5_readsMoor_83 (by decide) (fun c13 => ?_) (fun c13 => ?_)
      · replace hF := kit hF c13
        refine lv_aload_n S.1 S.2.1 dX5_readsMoor_94 rfl (lv_at hl 0 rfl) ?_
        refine lv_iload_n S.1 S.2.1 dX5_readsMoor_95 rfl (lv_at hl 1 rfl) ?_
        refine lv_iload_n S.1 S.2.1 dX5_readsMoor_96 rfl (lv_at hl 2 rfl) ?_
        obtain ⟨r16, σ15, e14, hF⟩ := kbi_e hF
        refine kcX5_readsPerson S hw cv_X5_107 ⟨Nat.le_of_ble_eq_true rfl, Nat.le_of_ble_eq_true rfl⟩ e14 hl.1 (Nat.le_of_ble_eq_true rfl) dX5_readsMoor_97 (fun H locs hw hz17 => ?_)
        refine lv_istore_n (lv' := [(3, .int r16), (0, .ref (ead E 26)), (1, .int a1), (2, .int a2)]) S.1 S.2.1 dX5_readsMoor_100 rfl hl (by decide) rfl (fun ls hl => ?_)
        refine lv_goto (tgt := 74) S.1 S.2.1 dX5_readsMoor_101 (by decide) ?_
        exact ih a1 a2 r16 (hz17 rfl) _ _ _ _ hF hw (lv_sub hl [1, 2, 3, 0] rfl)
      · replace hF := kif hF c13
        refine lv_aload_n S.1 S.2.1 dX5_readsMoor_86 rfl (lv_at hl 0 rfl) ?_
        refine gf_X5_87 S hw dX5_readsMoor_87 ?_
        refine lv_iload_n S.1 S.2.1 dX5_readsMoor_90 rfl (lv_at hl 2 rfl) ?_
        refine lv_icmp_ge (tgt := 104) S.1 S.2.1 dX5_readsMoor_91 (by decide) (fun c18 => ?_) (fun c18 => ?_)
        · replace hF := kit hF c18
          refine lv_iload_n S.1 S.2.1 dX5_readsMoor_104 rfl (lv_at hl 3 rfl) ?_
          obtain ⟨rfl, rfl⟩ := kret hF
          exact hR _ _ _ _ dX5_readsMoor_105 hw (fun _ => hz3)
        · replace hF := kif hF c18
          refine lv_aload_n S.1 S.2.1 dX5_readsMoor_94 rfl (lv_at hl 0 rfl) ?_
          refine lv_iload_n S.1 S.2.1 dX5_readsMoor_95 rfl (lv_at hl 1 rfl) ?_
          refine lv_iload_n S.1 S.2.1 dX5_readsMoor_96 rfl (lv_at hl 2 rfl) ?_
          obtain ⟨r21, σ20, e19, hF⟩ := kbi_e hF
          refine kcX5_readsPerson S hw cv_X5_107 ⟨Nat.le_of_ble_eq_true rfl, Nat.le_of_ble_eq_true rfl⟩ e19 hl.1 (Nat.le_of_ble_eq_true rfl) dX5_readsMoor_97 (fun H locs hw hz22 => ?_)
          refine lv_istore_n (lv' := [(3, .int r21), (0, .ref (ead E 26)), (1, .int a1), (2, .int a2)]) S.1 S.2.1 dX5_readsMoor_100 rfl hl (by decide) rfl (fun ls hl => ?_)
          refine lv_goto (tgt := 74) S.1 S.2.1 dX5_readsMoor_101 (by decide) ?_
          exact ih a1 a2 r21 (hz22 rfl) _ _ _ _ hF hw (lv_sub hl [1, 2, 3, 0] rfl)
set_option maxHeartbeats 4000000 in
set_option maxRecDepth 100000 in
theorem mX5_readsMoor {l : Launch} {E : kE} {ω σ σ1 : kS} {r : Int32} {a1 : Int32} {a2 : Int32}  (hF : fX5_readsMoor a1 a2 σ = some (r, σ1)) : kMetI l yX5_readsMoor cX5_readsMoor 4 (some .boolean) 3 E [.ref (ead E 26), .int a1, .int a2] (cmb ω σ) r (cmb ω σ1) := by
  refine kMetI.of (by decide +kernel) (Nat.le_of_ble_eq_true rfl) (Or.inr rfl) ?_
  intro p e s m args below meth c Q ls S hR hw hl
  have hl : lv_has ls 4 [(0, .ref (ead E 26)), (1, .int a1), (2, .int a2)] := hl
  unfold fX5_readsMoor at hF
  refine lv_aload_n S.1 S.2.1 dX5_readsMoor_0 rfl (lv_at hl 0 rfl) ?_
  refine lv_iconst (v := 0) S.1 S.2.1 dX5_readsMoor_1 (by decide) ?_
  refine pf_X5_87 S hw dX5_readsMoor_2 (fun H locs hw => ?_)
  refine lv_aload_n S.1 S.2.1 dX5_readsMoor_5 rfl (lv_at hl 0 rfl) ?_
  refine lv_iconst (v := 0) S.1 S.2.1 dX5_readsMoor_6 (by decide) ?_
  refine pf_X5_94 S hw dX5_readsMoor_7 (fun H locs hw => ?_)
  refine lv_aload_n S.1 S.2.1 dX5_readsMoor_10 rfl (lv_at hl 0 rfl) ?_
  refine lv_iload_n S.1 S.2.1 dX5_readsMoor_11 rfl (lv_at hl 1 rfl) ?_
  refine lv_iload_n S.1 S.2.1 dX5_readsMoor_12 rfl (lv_at hl 2 rfl) ?_
  obtain ⟨r3, σ2, e1, hF⟩ := kbi_e hF
  refine kcX5_codeAt S hw cv_X5_90 ⟨Nat.le_of_ble_eq_true rfl, Nat.le_of_ble_eq_true rfl⟩ e1 hl.1 (Nat.le_of_ble_eq_true rfl) dX5_readsMoor_13 (fun H locs hw => ?_)
  refine lv_bipush (v := 100) S.1 S.2.1 dX5_readsMoor_16 (by decide) ?_
  refine lv_icmp_eq (tgt := 23) S.1 S.2.1 dX5_readsMoor_18 (by decide) (fun c4 => ?_) (fun c4 => ?_)
  · replace hF := kit hF c4
    refine lv_aload_n S.1 S.2.1 dX5_readsMoor_23 rfl (lv_at hl 0 rfl) ?_
    refine lv_dup S.1 S.2.1 dX5_readsMoor_24 rfl ?_
    refine gf_X5_87 S hw dX5_readsMoor_25 ?_
    refine lv_iconst (v := 1) S.1 S.2.1 dX5_readsMoor_28 (by decide) ?_
    refine lv_iadd S.1 S.2.1 dX5_readsMoor_29 ?_
    refine pf_X5_87 S hw dX5_readsMoor_30 (fun H locs hw => ?_)
    refine lv_aload_n S.1 S.2.1 dX5_readsMoor_33 rfl (lv_at hl 0 rfl) ?_
    refine lv_aload_n S.1 S.2.1 dX5_readsMoor_34 rfl (lv_at hl 0 rfl) ?_
    refine lv_iload_n S.1 S.2.1 dX5_readsMoor_35 rfl (lv_at hl 1 rfl) ?_
    refine lv_iload_n S.1 S.2.1 dX5_readsMoor_36 rfl (lv_at hl 2 rfl) ?_
    refine lv_iconst (v := 0) S.1 S.2.1 dX5_readsMoor_37 (by decide) ?_
    refine lv_bipush (v := 9) S.1 S.2.1 dX5_readsMoor_38 (by decide) ?_
    obtain ⟨r7, σ6, e5, hF⟩ := kbi_e hF
    refine kcX5_figure S hw cv_X5_97 ⟨Nat.le_of_ble_eq_true rfl, Nat.le_of_ble_eq_true rfl⟩ e5 hl.1 (Nat.le_of_ble_eq_true rfl) dX5_readsMoor_40 (fun H locs hw => ?_)
    refine pf_X5_101 S hw dX5_readsMoor_43 (fun H locs hw => ?_)
    refine lv_aload_n S.1 S.2.1 dX5_readsMoor_46 rfl (lv_at hl 0 rfl) ?_
    refine lv_aload_n S.1 S.2.1 dX5_readsMoor_47 rfl (lv_at hl 0 rfl) ?_
    refine lv_iload_n S.1 S.2.1 dX5_readsMoor_48 rfl (lv_at hl 1 rfl) ?_
    refine lv_iload_n S.1 S.2.1 dX5_readsMoor_49 rfl (lv_at hl 2 rfl) ?_
    refine lv_aload_n S.1 S.2.1 dX5_readsMoor_50 rfl (lv_at hl 0 rfl) ?_
    refine gf_X5_101 S hw dX5_readsMoor_51 ?_
    refine lv_iconst (v := 3) S.1 S.2.1 dX5_readsMoor_54 (by decide) ?_
    obtain ⟨r10, σ9, e8, hF⟩ := kbi_e hF
    refine kcX5_figure S hw cv_X5_97 ⟨Nat.le_of_ble_eq_true rfl, Nat.le_of_ble_eq_true rfl⟩ e8 hl.1 (Nat.le_of_ble_eq_true rfl) dX5_readsMoor_55 (fun H locs hw => ?_)
    refine pf_X5_104 S hw dX5_readsMoor_58 (fun H locs hw => ?_)
    refine lv_aload_n S.1 S.2.1 dX5_readsMoor_61 rfl (lv_at hl 0 rfl) ?_
    refine gf_X5_104 S hw dX5_readsMoor_62 ?_
    refine lv_if_lt (tgt := 72) S.1 S.2.1 dX5_readsMoor_65 (by decide) (fun c11 => ?_) (fun c11 => ?_)
    · replace hF := kit hF c11
      refine lv_iconst (v := 0) S.1 S.2.1 dX5_readsMoor_72 (by decide) ?_
      refine lv_istore_n (lv' := [(3, .int 0), (0, .ref (ead E 26)), (1, .int a1), (2, .int a2)]) S.1 S.2.1 dX5_readsMoor_73 rfl hl (by decide) rfl (fun ls hl => ?_)
      exact wX5_readsMoor_L74 S hR 1000 a1 a2 0 (Or.inl rfl) _ _ _ _ hF hw (lv_sub hl [1, 2, 3, 0] rfl)
    · replace hF := kif hF c11
      refine lv_iconst (v := 1) S.1 S.2.1 dX5_readsMoor_68 (by decide) ?_
      refine lv_goto (tgt := 73) S.1 S.2.1 dX5_readsMoor_69 (by decide) ?_
      refine lv_istore_n (lv' := [(3, .int 1), (0, .ref (ead E 26)), (1, .int a1), (2, .int a2)]) S.1 S.2.1 dX5_readsMoor_73 rfl hl (by decide) rfl (fun ls hl => ?_)
      exact wX5_readsMoor_L74 S hR 1000 a1 a2 1 (Or.inr rfl) _ _ _ _ hF hw (lv_sub hl [1, 2, 3, 0] rfl)
  · replace hF := kif hF c4
    refine lv_iconst (v := 0) S.1 S.2.1 dX5_readsMoor_21 (by decide) ?_
    obtain ⟨rfl, rfl⟩ := kret hF
    exact hR _ _ _ _ dX5_readsMoor_22 hw (fun _ => (Or.inl rfl))
set_option maxRecDepth 100000 in
theorem kcX5_readsMoor {p : Program} {l : Launch} {e : Env} {R : Room} {s : State} {m : MethodId} {args : Array Value} {below : List Frame} {meth : Method} {c : Code} {H : Heap} {locs : List Loc} {cells slots : Nat} {Q : State → Prop} {cc : ByteArray} {pc : Nat} {ls : Array Slot} {rest : List Value} {E : kE} {σ ω σ1 : kS} {nL index : Nat} {own : String} {r : Int32} (S : CallFix p m c cc nL s args kBIG own) (hw : kWS E s (cmb ω σ) H locs) (cw : kV own RX5 index yX5_readsMoor cX5_readsMoor 4 (some .boolean) 2) (hR : 3 + 1 ≤ R.frames ∧ 8 + (4 + 11) + 40 * 3 ≤ R.locals) {a1 : Int32} {a2 : Int32}  (hF : fX5_readsMoor a1 a2 σ = some (r, σ1)) (hls : ls.size = nL) (hW : (rest.map fun v => v.category).sum ≤ 8) (hdg : decode cc pc = .ok (.invokevirtual index, 3)) (kk : ∀ (H1 : Heap) (locs1 : List Loc), kWS E s (cmb ω σ1) H1 locs1 → (((some .boolean) : Option FieldType) = some .boolean → r = 0 ∨ r = 1) → W p l e R s m args below meth c H1 locs1 cells slots Q (F0 m (pc + 3) ls (.int r :: rest))) (hf : cells ≤ R.cells ∧ slots ≤ R.slots := by exact ⟨Nat.le_of_ble_eq_true rfl, Nat.le_of_ble_eq_true rfl⟩) : W p l e R s m args below meth c H locs cells slots Q (F0 m pc ls (.int a2 :: .int a1 :: .ref (ead E 26) :: rest)) := kr_calli (mc := 0) (y := yX5_readsMoor) (b := cX5_readsMoor) (n := 0) (lv := 0) (As := []) hw (kr_runV (As := [.int a1, .int a2]) (q := 26) S hw ((mX5_readsMoor (l := l) (E := E) (ω := ω) hF) H.size) cw hR rfl (by decide) rfl rfl hls _ rfl hW hdg hf) kk
set_option maxHeartbeats 4000000 in
set_option maxRecDepth 100000 in
theorem mX5_isBeyond {l : Launch} {E : kE} {ω σ σ1 : kS} {r : Int32} {a0 : Int32} {a1 : Int64} {a3 : Int32}  (hF : fX5_isBeyond a0 a1 a3 σ = some (r, σ1)) : kMetI l yX5_isBeyond cX5_isBeyond 4 (some .boolean) 0 E [.int a0, .long a1, .int a3] (cmb ω σ) r (cmb ω σ1) := by
  refine kMetI.of (by decide +kernel) (Nat.le_of_ble_eq_true rfl) (Or.inr rfl) ?_
  intro p e s m args below meth c Q ls S hR hw hl
  have hl : lv_has ls 4 [(0, .int a0), (1, .long a1), (3, .int a3)] := hl
  unfold fX5_isBeyond at hF
  refine lv_iload_n S.1 S.2.1 dX5_isBeyond_0 rfl (lv_at hl 0 rfl) ?_
  refine lv_if_lt (tgt := 20) S.1 S.2.1 dX5_isBeyond_1 (by decide) (fun c1 => ?_) (fun c1 => ?_)
  · replace hF := kit hF c1
    refine lv_iconst (v := 1) S.1 S.2.1 dX5_isBeyond_20 (by decide) ?_
    refine lv_goto (tgt := 25) S.1 S.2.1 dX5_isBeyond_21 (by decide) ?_
    obtain ⟨rfl, rfl⟩ := kret hF
    exact hR _ _ _ _ dX5_isBeyond_25 hw (fun _ => (Or.inr rfl))
  · replace hF := kif hF c1
    refine lv_lload_n S.1 S.2.1 dX5_isBeyond_4 rfl (lv_at hl 1 rfl) ?_
    refine lv_lconst (v := 0) S.1 S.2.1 dX5_isBeyond_5 (by decide) ?_
    refine W.lcmp S.1 S.2.1 dX5_isBeyond_6 ?_
    refine lv_if_lt (tgt := 20) S.1 S.2.1 dX5_isBeyond_7 (by decide) (fun c2 => ?_) (fun c2 => ?_)
    · replace hF := kit hF c2
      refine lv_iconst (v := 1) S.1 S.2.1 dX5_isBeyond_20 (by decide) ?_
      refine lv_goto (tgt := 25) S.1 S.2.1 dX5_isBeyond_21 (by decide) ?_
      obtain ⟨rfl, rfl⟩ := kret hF
      exact hR _ _ _ _ dX5_isBeyond_25 hw (fun _ => (Or.inr rfl))
    · replace hF := kif hF c2
      refine lv_iload_n S.1 S.2.1 dX5_isBeyond_10 rfl (lv_at hl 0 rfl) ?_
      refine lv_i2l S.1 S.2.1 dX5_isBeyond_11 rfl ?_
      refine lv_lload_n S.1 S.2.1 dX5_isBeyond_12 rfl (lv_at hl 1 rfl) ?_
      refine lv_ladd S.1 S.2.1 dX5_isBeyond_13 ?_
      refine lv_iload_n S.1 S.2.1 dX5_isBeyond_14 rfl (lv_at hl 2 rfl) ?_
      refine lv_i2l S.1 S.2.1 dX5_isBeyond_15 rfl ?_
      refine W.lcmp S.1 S.2.1 dX5_isBeyond_16 ?_
      refine lv_if_le (tgt := 24) S.1 S.2.1 dX5_isBeyond_17 (by decide) (fun c3 => ?_) (fun c3 => ?_)
      · replace hF := kit hF c3
        refine lv_iconst (v := 0) S.1 S.2.1 dX5_isBeyond_24 (by decide) ?_
        obtain ⟨rfl, rfl⟩ := kret hF
        exact hR _ _ _ _ dX5_isBeyond_25 hw (fun _ => (Or.inl rfl))
      · replace hF := kif hF c3
        refine lv_iconst (v := 1) S.1 S.2.1 dX5_isBeyond_20 (by decide) ?_
        refine lv_goto (tgt := 25) S.1 S.2.1 dX5_isBeyond_21 (by decide) ?_
        obtain ⟨rfl, rfl⟩ := kret hF
        exact hR _ _ _ _ dX5_isBeyond_25 hw (fun _ => (Or.inr rfl))
set_option maxRecDepth 100000 in
theorem kcX5_isBeyond {p : Program} {l : Launch} {e : Env} {R : Room} {s : State} {m : MethodId} {args : Array Value} {below : List Frame} {meth : Method} {c : Code} {H : Heap} {locs : List Loc} {cells slots : Nat} {Q : State → Prop} {cc : ByteArray} {pc : Nat} {ls : Array Slot} {rest : List Value} {E : kE} {σ ω σ1 : kS} {nL index : Nat} {own : String} {r : Int32} (S : CallFix p m c cc nL s args kBIG own) (hw : kWS E s (cmb ω σ) H locs) (cw : kSt own index yX5_isBeyond cX5_isBeyond 4 (some .boolean) 3) (hR : 0 + 1 ≤ R.frames ∧ 8 + (4 + 11) + 40 * 0 ≤ R.locals) {a0 : Int32} {a1 : Int64} {a3 : Int32}  (hF : fX5_isBeyond a0 a1 a3 σ = some (r, σ1)) (hls : ls.size = nL) (hW : (rest.map fun v => v.category).sum ≤ 8) (hdg : decode cc pc = .ok (.invokestatic index, 3)) (kk : ∀ (H1 : Heap) (locs1 : List Loc), kWS E s (cmb ω σ1) H1 locs1 → (((some .boolean) : Option FieldType) = some .boolean → r = 0 ∨ r = 1) → W p l e R s m args below meth c H1 locs1 cells slots Q (F0 m (pc + 3) ls (.int r :: rest))) (hf : cells ≤ R.cells ∧ slots ≤ R.slots := by exact ⟨Nat.le_of_ble_eq_true rfl, Nat.le_of_ble_eq_true rfl⟩) : W p l e R s m args below meth c H locs cells slots Q (F0 m pc ls (.int a3 :: .long a1 :: .int a0 :: rest)) := kr_calli (mc := 0) (y := yX5_isBeyond) (b := cX5_isBeyond) (n := 0) (lv := 0) (As := []) hw (kr_runS (As := [.int a0, .long a1, .int a3]) S hw ((mX5_isBeyond (l := l) (E := E) (ω := ω) hF) H.size) cw hR rfl hls _ rfl hW hdg hf) kk
set_option maxHeartbeats 4000000 in
set_option maxRecDepth 100000 in
theorem wX5_cellsBarred_J25 {p : Program} {l : Launch} {e : Env} {s : State} {m : MethodId} {args : Array Value} {below : List Frame} {meth : Method} {c : Code} {Q : State → Prop} {E : kE} {ω σ1 : kS} {r : Int32} (S : CallFix p m c cX5_cellsBarred 6 s args kBIG RX5) (hR : kRetI p l e (rml 1) s m args below meth c cX5_cellsBarred E Q (some .int) r (cmb ω σ1))  : ∀ (a1 : Int32) (a3 : Int32) (a4 : Int64) (σ : kS) (H : Heap) (locs : List Loc) (ls : Array Slot), fX5_cellsBarred_J25 a1 a3 a4 σ = some (r, σ1) → kWS E s (cmb ω σ) H locs → lv_has ls 6 [(0, .ref (ead E 26)), (1, .int a1), (3, .int a3), (4, .long a4)] → W p l e (rml 1) s m args below meth c H locs 0 0 Q (F0 m 25 ls []) := by
  intro a1 a3 a4 σ H locs ls hF hw hl
  unfold fX5_cellsBarred_J25 at hF
  refine lv_aload_n S.1 S.2.1 dX5_cellsBarred_25 rfl (lv_at hl 0 rfl) ?_
  refine gf_X5_58 S hw dX5_cellsBarred_26 ?_
  refine lv_iload_n S.1 S.2.1 dX5_cellsBarred_29 rfl (lv_at hl 1 rfl) ?_
  obtain ⟨hb8, hF⟩ := kin hF
  refine km_iald (q := 17) S hw rfl (Nat.le_of_ble_eq_true rfl) hb8 dX5_cellsBarred_30 ?_
  refine lv_if_ge (tgt := 40) S.1 S.2.1 dX5_cellsBarred_31 (by decide) (fun c9 => ?_) (fun c9 => ?_)
  · replace hF := kit hF c9
    refine lv_lload S.1 S.2.1 dX5_cellsBarred_40 (lv_at hl 3 rfl) ?_
    refine lv_lconst (v := 0) S.1 S.2.1 dX5_cellsBarred_42 (by decide) ?_
    refine W.lcmp S.1 S.2.1 dX5_cellsBarred_43 ?_
    refine lv_if_ge (tgt := 53) S.1 S.2.1 dX5_cellsBarred_44 (by decide) (fun c10 => ?_) (fun c10 => ?_)
    · replace hF := kit hF c10
      refine lv_iload_n S.1 S.2.1 dX5_cellsBarred_53 rfl (lv_at hl 2 rfl) ?_
      refine lv_lload S.1 S.2.1 dX5_cellsBarred_54 (lv_at hl 3 rfl) ?_
      refine lv_aload_n S.1 S.2.1 dX5_cellsBarred_56 rfl (lv_at hl 0 rfl) ?_
      refine gf_X5_58 S hw dX5_cellsBarred_57 ?_
      refine lv_iload_n S.1 S.2.1 dX5_cellsBarred_60 rfl (lv_at hl 1 rfl) ?_
      obtain ⟨hb11, hF⟩ := kin hF
      refine km_iald (q := 17) S hw rfl (Nat.le_of_ble_eq_true rfl) hb11 dX5_cellsBarred_61 ?_
      obtain ⟨r14, σ13, e12, hF⟩ := kbi_e hF
      refine kcX5_isBeyond S hw cv_X5_115 ⟨Nat.le_of_ble_eq_true rfl, Nat.le_of_ble_eq_true rfl⟩ e12 hl.1 (Nat.le_of_ble_eq_true rfl) dX5_cellsBarred_62 (fun H locs hw hz15 => ?_)
      refine lv_if_eq (tgt := 76) S.1 S.2.1 dX5_cellsBarred_65 (by decide) (fun c16 => ?_) (fun c16 => ?_)
      · replace hF := kit hF c16
        refine lv_iconst (v := 0) S.1 S.2.1 dX5_cellsBarred_76 (by decide) ?_
        obtain ⟨rfl, rfl⟩ := kret hF
        exact hR _ _ _ _ dX5_cellsBarred_77 hw (fun h => nomatch h)
      · replace hF := kif hF c16
        refine lv_aload_n S.1 S.2.1 dX5_cellsBarred_68 rfl (lv_at hl 0 rfl) ?_
        refine lv_iconst (v := 3) S.1 S.2.1 dX5_cellsBarred_69 (by decide) ?_
        obtain ⟨r19, σ18, e17, hF⟩ := kbi_e hF
        refine kcX5_failed S hw cv_X5_111 ⟨Nat.le_of_ble_eq_true rfl, Nat.le_of_ble_eq_true rfl⟩ e17 hl.1 (Nat.le_of_ble_eq_true rfl) dX5_cellsBarred_70 (fun H locs hw => ?_)
        refine lv_goto (tgt := 77) S.1 S.2.1 dX5_cellsBarred_73 (by decide) ?_
        obtain ⟨rfl, rfl⟩ := kret hF
        exact hR _ _ _ _ dX5_cellsBarred_77 hw (fun h => nomatch h)
    · replace hF := kif hF c10
      refine lv_aload_n S.1 S.2.1 dX5_cellsBarred_47 rfl (lv_at hl 0 rfl) ?_
      refine lv_iconst (v := 4) S.1 S.2.1 dX5_cellsBarred_48 (by decide) ?_
      obtain ⟨r22, σ21, e20, hF⟩ := kbi_e hF
      refine kcX5_failed S hw cv_X5_111 ⟨Nat.le_of_ble_eq_true rfl, Nat.le_of_ble_eq_true rfl⟩ e20 hl.1 (Nat.le_of_ble_eq_true rfl) dX5_cellsBarred_49 (fun H locs hw => ?_)
      obtain ⟨rfl, rfl⟩ := kret hF
      exact hR _ _ _ _ dX5_cellsBarred_52 hw (fun h => nomatch h)
  · replace hF := kif hF c9
    refine lv_aload_n S.1 S.2.1 dX5_cellsBarred_34 rfl (lv_at hl 0 rfl) ?_
    refine lv_iconst (v := 1) S.1 S.2.1 dX5_cellsBarred_35 (by decide) ?_
    obtain ⟨r25, σ24, e23, hF⟩ := kbi_e hF
    refine kcX5_failed S hw cv_X5_111 ⟨Nat.le_of_ble_eq_true rfl, Nat.le_of_ble_eq_true rfl⟩ e23 hl.1 (Nat.le_of_ble_eq_true rfl) dX5_cellsBarred_36 (fun H locs hw => ?_)
    obtain ⟨rfl, rfl⟩ := kret hF
    exact hR _ _ _ _ dX5_cellsBarred_39 hw (fun h => nomatch h)
set_option maxHeartbeats 4000000 in
set_option maxRecDepth 100000 in
theorem mX5_cellsBarred {l : Launch} {E : kE} {ω σ σ1 : kS} {r : Int32} {a1 : Int32} {a2 : Int32} {a3 : Int32} {a4 : Int64}  (hF : fX5_cellsBarred a1 a2 a3 a4 σ = some (r, σ1)) : kMetI l yX5_cellsBarred cX5_cellsBarred 6 (some .int) 1 E [.ref (ead E 26), .int a1, .int a2, .int a3, .long a4] (cmb ω σ) r (cmb ω σ1) := by
  refine kMetI.of (by decide +kernel) (Nat.le_of_ble_eq_true rfl) (Or.inl rfl) ?_
  intro p e s m args below meth c Q ls S hR hw hl
  have hl : lv_has ls 6 [(0, .ref (ead E 26)), (1, .int a1), (2, .int a2), (3, .int a3), (4, .long a4)] := hl
  unfold fX5_cellsBarred at hF
  refine lv_aload_n S.1 S.2.1 dX5_cellsBarred_0 rfl (lv_at hl 0 rfl) ?_
  refine gf_X5_58 S hw dX5_cellsBarred_1 ?_
  refine lv_iload_n S.1 S.2.1 dX5_cellsBarred_4 rfl (lv_at hl 1 rfl) ?_
  obtain ⟨hb1, hF⟩ := kin hF
  refine km_iald (q := 17) S hw rfl (Nat.le_of_ble_eq_true rfl) hb1 dX5_cellsBarred_5 ?_
  refine lv_if_lt (tgt := 25) S.1 S.2.1 dX5_cellsBarred_6 (by decide) (fun c2 => ?_) (fun c2 => ?_)
  · replace hF := kit hF c2
    exact wX5_cellsBarred_J25 S hR a1 a3 a4 _ _ _ _ hF hw (lv_sub hl [0, 1, 3, 4] rfl)
  · replace hF := kif hF c2
    refine lv_aload_n S.1 S.2.1 dX5_cellsBarred_9 rfl (lv_at hl 0 rfl) ?_
    refine gf_X5_61 S hw dX5_cellsBarred_10 ?_
    refine lv_iload_n S.1 S.2.1 dX5_cellsBarred_13 rfl (lv_at hl 1 rfl) ?_
    obtain ⟨hb3, hF⟩ := kin hF
    refine km_iald (q := 18) S hw rfl (Nat.le_of_ble_eq_true rfl) hb3 dX5_cellsBarred_14 ?_
    refine lv_iload_n S.1 S.2.1 dX5_cellsBarred_15 rfl (lv_at hl 2 rfl) ?_
    refine lv_icmp_eq (tgt := 25) S.1 S.2.1 dX5_cellsBarred_16 (by decide) (fun c4 => ?_) (fun c4 => ?_)
    · replace hF := kit hF c4
      exact wX5_cellsBarred_J25 S hR a1 a3 a4 _ _ _ _ hF hw (lv_sub hl [0, 1, 3, 4] rfl)
    · replace hF := kif hF c4
      refine lv_aload_n S.1 S.2.1 dX5_cellsBarred_19 rfl (lv_at hl 0 rfl) ?_
      refine lv_iconst (v := 2) S.1 S.2.1 dX5_cellsBarred_20 (by decide) ?_
      obtain ⟨r7, σ6, e5, hF⟩ := kbi_e hF
      refine kcX5_failed S hw cv_X5_111 ⟨Nat.le_of_ble_eq_true rfl, Nat.le_of_ble_eq_true rfl⟩ e5 hl.1 (Nat.le_of_ble_eq_true rfl) dX5_cellsBarred_21 (fun H locs hw => ?_)
      obtain ⟨rfl, rfl⟩ := kret hF
      exact hR _ _ _ _ dX5_cellsBarred_24 hw (fun h => nomatch h)
set_option maxRecDepth 100000 in
theorem kcX5_cellsBarred {p : Program} {l : Launch} {e : Env} {R : Room} {s : State} {m : MethodId} {args : Array Value} {below : List Frame} {meth : Method} {c : Code} {H : Heap} {locs : List Loc} {cells slots : Nat} {Q : State → Prop} {cc : ByteArray} {pc : Nat} {ls : Array Slot} {rest : List Value} {E : kE} {σ ω σ1 : kS} {nL index : Nat} {own : String} {r : Int32} (S : CallFix p m c cc nL s args kBIG own) (hw : kWS E s (cmb ω σ) H locs) (cw : kV own RX5 index yX5_cellsBarred cX5_cellsBarred 6 (some .int) 4) (hR : 1 + 1 ≤ R.frames ∧ 8 + (6 + 11) + 40 * 1 ≤ R.locals) {a1 : Int32} {a2 : Int32} {a3 : Int32} {a4 : Int64}  (hF : fX5_cellsBarred a1 a2 a3 a4 σ = some (r, σ1)) (hls : ls.size = nL) (hW : (rest.map fun v => v.category).sum ≤ 8) (hdg : decode cc pc = .ok (.invokevirtual index, 3)) (kk : ∀ (H1 : Heap) (locs1 : List Loc), kWS E s (cmb ω σ1) H1 locs1 → W p l e R s m args below meth c H1 locs1 cells slots Q (F0 m (pc + 3) ls (.int r :: rest))) (hf : cells ≤ R.cells ∧ slots ≤ R.slots := by exact ⟨Nat.le_of_ble_eq_true rfl, Nat.le_of_ble_eq_true rfl⟩) : W p l e R s m args below meth c H locs cells slots Q (F0 m pc ls (.long a4 :: .int a3 :: .int a2 :: .int a1 :: .ref (ead E 26) :: rest)) := kr_calli (mc := 0) (y := yX5_cellsBarred) (b := cX5_cellsBarred) (n := 0) (lv := 0) (As := []) (ret := some .int) hw (kr_runV (As := [.int a1, .int a2, .int a3, .long a4]) (q := 26) S hw ((mX5_cellsBarred (l := l) (E := E) (ω := ω) hF) H.size) cw hR rfl (by decide) rfl rfl hls _ rfl hW hdg hf) (fun H1 locs1 h _ => kk H1 locs1 h)
set_option maxHeartbeats 4000000 in
set_option maxRecDepth 100000 in
theorem mX5_noSheet {l : Launch} {E : kE} {ω σ σ1 : kS} {r : Int32} {a0 : Int32}  (hF : fX5_noSheet a0 σ = some (r, σ1)) : kMetI l yX5_noSheet cX5_noSheet 1 (some .boolean) 1 E [.int a0] (cmb ω σ) r (cmb ω σ1) := by
  refine kMetI.of (by decide +kernel) (Nat.le_of_ble_eq_true rfl) (Or.inr rfl) ?_
  intro p e s m args below meth c Q ls S hR hw hl
  have hl : lv_has ls 1 [(0, .int a0)] := hl
  unfold fX5_noSheet at hF
  refine lv_iload_n S.1 S.2.1 dX5_noSheet_0 rfl (lv_at hl 0 rfl) ?_
  refine lv_i2l S.1 S.2.1 dX5_noSheet_1 rfl ?_
  refine lv_lconst (v := 0) S.1 S.2.1 dX5_noSheet_2 (by decide) ?_
  refine lv_ldc2 (v := 3) S.1 S.2.1 S.2.2.2.1 (S.2.2.2.2 _ q3_74) dX5_noSheet_3 ?_
  obtain ⟨r3, σ2, e1, hF⟩ := kbi_e hF
  refine kcX5_in S hw cv_X5_83 ⟨Nat.le_of_ble_eq_true rfl, Nat.le_of_ble_eq_true rfl⟩ e1 hl.1 (Nat.le_of_ble_eq_true rfl) dX5_noSheet_6 (fun H locs hw hz4 => ?_)
  refine lv_if_ne (tgt := 16) S.1 S.2.1 dX5_noSheet_9 (by decide) (fun c5 => ?_) (fun c5 => ?_)
  · replace hF := kif hF c5
    refine lv_iconst (v := 0) S.1 S.2.1 dX5_noSheet_16 (by decide) ?_
    obtain ⟨rfl, rfl⟩ := kret hF
    exact hR _ _ _ _ dX5_noSheet_17 hw (fun _ => (Or.inl rfl))
  · replace hF := kit hF c5
    refine lv_iconst (v := 1) S.1 S.2.1 dX5_noSheet_12 (by decide) ?_
    refine lv_goto (tgt := 17) S.1 S.2.1 dX5_noSheet_13 (by decide) ?_
    obtain ⟨rfl, rfl⟩ := kret hF
    exact hR _ _ _ _ dX5_noSheet_17 hw (fun _ => (Or.inr rfl))
set_option maxRecDepth 100000 in
theorem kcX5_noSheet {p : Program} {l : Launch} {e : Env} {R : Room} {s : State} {m : MethodId} {args : Array Value} {below : List Frame} {meth : Method} {c : Code} {H : Heap} {locs : List Loc} {cells slots : Nat} {Q : State → Prop} {cc : ByteArray} {pc : Nat} {ls : Array Slot} {rest : List Value} {E : kE} {σ ω σ1 : kS} {nL index : Nat} {own : String} {r : Int32} (S : CallFix p m c cc nL s args kBIG own) (hw : kWS E s (cmb ω σ) H locs) (cw : kSt own index yX5_noSheet cX5_noSheet 1 (some .boolean) 1) (hR : 1 + 1 ≤ R.frames ∧ 8 + (1 + 11) + 40 * 1 ≤ R.locals) {a0 : Int32}  (hF : fX5_noSheet a0 σ = some (r, σ1)) (hls : ls.size = nL) (hW : (rest.map fun v => v.category).sum ≤ 8) (hdg : decode cc pc = .ok (.invokestatic index, 3)) (kk : ∀ (H1 : Heap) (locs1 : List Loc), kWS E s (cmb ω σ1) H1 locs1 → (((some .boolean) : Option FieldType) = some .boolean → r = 0 ∨ r = 1) → W p l e R s m args below meth c H1 locs1 cells slots Q (F0 m (pc + 3) ls (.int r :: rest))) (hf : cells ≤ R.cells ∧ slots ≤ R.slots := by exact ⟨Nat.le_of_ble_eq_true rfl, Nat.le_of_ble_eq_true rfl⟩) : W p l e R s m args below meth c H locs cells slots Q (F0 m pc ls (.int a0 :: rest)) := kr_calli (mc := 0) (y := yX5_noSheet) (b := cX5_noSheet) (n := 0) (lv := 0) (As := []) hw (kr_runS (As := [.int a0]) S hw ((mX5_noSheet (l := l) (E := E) (ω := ω) hF) H.size) cw hR rfl hls _ rfl hW hdg hf) kk
set_option maxHeartbeats 4000000 in
set_option maxRecDepth 100000 in
theorem wX5_moor_L111 {p : Program} {l : Launch} {e : Env} {s : State} {m : MethodId} {args : Array Value} {below : List Frame} {meth : Method} {c : Code} {Q : State → Prop} {E : kE} {ω σ1 : kS} {r : Int32} (S : CallFix p m c cX5_moor 7 s args kBIG RX5) (hR : kRetI p l e (rml 4) s m args below meth c cX5_moor E Q (some .int) r (cmb ω σ1))  : ∀ (n : Nat), ∀ (a6 : Int32) (σ : kS) (H : Heap) (locs : List Loc) (ls : Array Slot), fX5_moor_L111 n a6 σ = some (r, σ1) → kWS E s (cmb ω σ) H locs → lv_has ls 7 [(0, .ref (ead E 26)), (6, .int a6)] → W p l e (rml 4) s m args below meth c H locs 0 0 Q (F0 m 111 ls []) := by
  intro n
  induction n with
  | zero =>
    intro a6 σ H locs ls hF hw hl
    exact absurd hF (fun h => nomatch h)
  | succ n ih =>
    intro a6 σ H locs ls hF hw hl
    rw [fX5_moor_L111] at hF
    refine lv_iload S.1 S.2.1 dX5_moor_111 (lv_at hl 1 rfl) ?_
    refine lv_aload_n S.1 S.2.1 dX5_moor_113 rfl (lv_at hl 0 rfl) ?_
    refine gf_X5_80 S hw dX5_moor_114 ?_
    refine lv_icmp_ge (tgt := 182) S.1 S.2.1 dX5_moor_117 (by decide) (fun c29 => ?_) (fun c29 => ?_)
    · replace hF := kit hF c29
      refine lv_aload_n S.1 S.2.1 dX5_moor_182 rfl (lv_at hl 0 rfl) ?_
      refine lv_iconst (v := 0) S.1 S.2.1 dX5_moor_183 (by decide) ?_
      refine pf_X5_144 S hw dX5_moor_184 (fun H locs hw => ?_)
      refine lv_aload_n S.1 S.2.1 dX5_moor_187 rfl (lv_at hl 0 rfl) ?_
      refine lv_aload_n S.1 S.2.1 dX5_moor_188 rfl (lv_at hl 0 rfl) ?_
      refine gf_X5_80 S hw dX5_moor_189 ?_
      obtain ⟨r32, σ31, e30, hF⟩ := kbi_e hF
      refine kcX5_refused S hw cv_X5_123 ⟨Nat.le_of_ble_eq_true rfl, Nat.le_of_ble_eq_true rfl⟩ e30 hl.1 (Nat.le_of_ble_eq_true rfl) dX5_moor_192 (fun H locs hw => ?_)
      obtain ⟨rfl, rfl⟩ := kret hF
      exact hR _ _ _ _ dX5_moor_195 hw (fun h => nomatch h)
    · replace hF := kif hF c29
      refine lv_aload_n S.1 S.2.1 dX5_moor_120 rfl (lv_at hl 0 rfl) ?_
      refine gf_X5_7 S hw dX5_moor_121 ?_
      refine lv_iload S.1 S.2.1 dX5_moor_124 (lv_at hl 1 rfl) ?_
      refine lv_aload_n S.1 S.2.1 dX5_moor_126 rfl (lv_at hl 0 rfl) ?_
      refine gf_X5_22 S hw dX5_moor_127 ?_
      refine lv_iload S.1 S.2.1 dX5_moor_130 (lv_at hl 1 rfl) ?_
      obtain ⟨hb33, hF⟩ := kin hF
      refine km_iald (q := 5) S hw rfl (Nat.le_of_ble_eq_true rfl) hb33 dX5_moor_132 ?_
      obtain ⟨hb34, hF⟩ := kin hF
      refine km_iast (q := 1) S hw rfl (Nat.le_of_ble_eq_true rfl) hb34 dX5_moor_133 (fun H locs hw => ?_)
      refine lv_aload_n S.1 S.2.1 dX5_moor_134 rfl (lv_at hl 0 rfl) ?_
      refine gf_X5_13 S hw dX5_moor_135 ?_
      refine lv_iload S.1 S.2.1 dX5_moor_138 (lv_at hl 1 rfl) ?_
      refine lv_aload_n S.1 S.2.1 dX5_moor_140 rfl (lv_at hl 0 rfl) ?_
      refine gf_X5_25 S hw dX5_moor_141 ?_
      refine lv_iload S.1 S.2.1 dX5_moor_144 (lv_at hl 1 rfl) ?_
      obtain ⟨hb35, hF⟩ := kin hF
      refine km_iald (q := 6) S hw rfl (Nat.le_of_ble_eq_true rfl) hb35 dX5_moor_146 ?_
      obtain ⟨hb36, hF⟩ := kin hF
      refine km_iast (q := 2) S hw rfl (Nat.le_of_ble_eq_true rfl) hb36 dX5_moor_147 (fun H locs hw => ?_)
      refine lv_aload_n S.1 S.2.1 dX5_moor_148 rfl (lv_at hl 0 rfl) ?_
      refine gf_X5_16 S hw dX5_moor_149 ?_
      refine lv_iload S.1 S.2.1 dX5_moor_152 (lv_at hl 1 rfl) ?_
      refine lv_aload_n S.1 S.2.1 dX5_moor_154 rfl (lv_at hl 0 rfl) ?_
      refine gf_X5_28 S hw dX5_moor_155 ?_
      refine lv_iload S.1 S.2.1 dX5_moor_158 (lv_at hl 1 rfl) ?_
      obtain ⟨hb37, hF⟩ := kin hF
      refine km_iald (q := 7) S hw rfl (Nat.le_of_ble_eq_true rfl) hb37 dX5_moor_160 ?_
      obtain ⟨hb38, hF⟩ := kin hF
      refine km_iast (q := 3) S hw rfl (Nat.le_of_ble_eq_true rfl) hb38 dX5_moor_161 (fun H locs hw => ?_)
      refine lv_aload_n S.1 S.2.1 dX5_moor_162 rfl (lv_at hl 0 rfl) ?_
      refine gf_X5_19 S hw dX5_moor_163 ?_
      refine lv_iload S.1 S.2.1 dX5_moor_166 (lv_at hl 1 rfl) ?_
      refine lv_aload_n S.1 S.2.1 dX5_moor_168 rfl (lv_at hl 0 rfl) ?_
      refine gf_X5_31 S hw dX5_moor_169 ?_
      refine lv_iload S.1 S.2.1 dX5_moor_172 (lv_at hl 1 rfl) ?_
      obtain ⟨hb39, hF⟩ := kin hF
      refine km_iald (q := 8) S hw rfl (Nat.le_of_ble_eq_true rfl) hb39 dX5_moor_174 ?_
      obtain ⟨hb40, hF⟩ := kin hF
      refine km_iast (q := 4) S hw rfl (Nat.le_of_ble_eq_true rfl) hb40 dX5_moor_175 (fun H locs hw => ?_)
      obtain ⟨v41, ev41⟩ : ∃ y : Int32, y = a6 + 1 := ⟨_, rfl⟩
      replace hF := klb hF ev41
      refine lv_iinc (v := v41) (lv' := [(6, .int v41), (0, .ref (ead E 26))]) S.1 S.2.1 dX5_moor_176 hl (k := 1) rfl (by rw [ev41]; rfl) (by decide) rfl (fun ls hl => ?_)
      refine lv_goto (tgt := 111) S.1 S.2.1 dX5_moor_179 (by decide) ?_
      exact ih v41 _ _ _ _ hF hw (lv_sub hl [1, 0] rfl)
set_option maxHeartbeats 4000000 in
set_option maxRecDepth 100000 in
theorem mX5_moor {l : Launch} {E : kE} {ω σ σ1 : kS} {r : Int32} {a1 : Int32} {a2 : Int32} {a3 : Int32} {a4 : Int32}  (hF : fX5_moor a1 a2 a3 a4 σ = some (r, σ1)) : kMetI l yX5_moor cX5_moor 7 (some .int) 4 E [.ref (ead E 26), .int a1, .int a2, .int a3, .int a4] (cmb ω σ) r (cmb ω σ1) := by
  refine kMetI.of (by decide +kernel) (Nat.le_of_ble_eq_true rfl) (Or.inl rfl) ?_
  intro p e s m args below meth c Q ls S hR hw hl
  have hl : lv_has ls 7 [(0, .ref (ead E 26)), (1, .int a1), (2, .int a2), (3, .int a3), (4, .int a4)] := hl
  unfold fX5_moor at hF
  refine lv_iload_n S.1 S.2.1 dX5_moor_0 rfl (lv_at hl 1 rfl) ?_
  obtain ⟨r3, σ2, e1, hF⟩ := kbi_e hF
  refine kcX5_noSheet S hw cv_X5_119 ⟨Nat.le_of_ble_eq_true rfl, Nat.le_of_ble_eq_true rfl⟩ e1 hl.1 (Nat.le_of_ble_eq_true rfl) dX5_moor_1 (fun H locs hw hz4 => ?_)
  refine lv_if_eq (tgt := 13) S.1 S.2.1 dX5_moor_4 (by decide) (fun c5 => ?_) (fun c5 => ?_)
  · replace hF := kit hF c5
    refine lv_iload_n S.1 S.2.1 dX5_moor_13 rfl (lv_at hl 2 rfl) ?_
    refine lv_i2l S.1 S.2.1 dX5_moor_14 rfl ?_
    refine lv_lconst (v := 0) S.1 S.2.1 dX5_moor_15 (by decide) ?_
    refine lv_ldc2 (v := 2) S.1 S.2.1 S.2.2.2.1 (S.2.2.2.2 _ q3_82) dX5_moor_16 ?_
    obtain ⟨r8, σ7, e6, hF⟩ := kbi_e hF
    refine kcX5_in S hw cv_X5_83 ⟨Nat.le_of_ble_eq_true rfl, Nat.le_of_ble_eq_true rfl⟩ e6 hl.1 (Nat.le_of_ble_eq_true rfl) dX5_moor_19 (fun H locs hw hz9 => ?_)
    refine lv_if_ne (tgt := 32) S.1 S.2.1 dX5_moor_22 (by decide) (fun c10 => ?_) (fun c10 => ?_)
    · replace hF := kif hF c10
      refine lv_aload_n S.1 S.2.1 dX5_moor_32 rfl (lv_at hl 0 rfl) ?_
      refine lv_iload_n S.1 S.2.1 dX5_moor_33 rfl (lv_at hl 1 rfl) ?_
      refine lv_iload_n S.1 S.2.1 dX5_moor_34 rfl (lv_at hl 2 rfl) ?_
      refine lv_iload_n S.1 S.2.1 dX5_moor_35 rfl (lv_at hl 3 rfl) ?_
      refine lv_iload S.1 S.2.1 dX5_moor_36 (lv_at hl 4 rfl) ?_
      refine lv_i2l S.1 S.2.1 dX5_moor_38 rfl ?_
      obtain ⟨r13, σ12, e11, hF⟩ := kbi_e hF
      refine kcX5_cellsBarred S hw cv_X5_128 ⟨Nat.le_of_ble_eq_true rfl, Nat.le_of_ble_eq_true rfl⟩ e11 hl.1 (Nat.le_of_ble_eq_true rfl) dX5_moor_39 (fun H locs hw => ?_)
      refine lv_istore (lv' := [(5, .int r13), (0, .ref (ead E 26)), (1, .int a1), (2, .int a2), (3, .int a3), (4, .int a4)]) S.1 S.2.1 dX5_moor_42 hl (by decide) rfl (fun ls hl => ?_)
      refine lv_iload S.1 S.2.1 dX5_moor_44 (lv_at hl 0 rfl) ?_
      refine lv_if_ge (tgt := 52) S.1 S.2.1 dX5_moor_46 (by decide) (fun c14 => ?_) (fun c14 => ?_)
      · replace hF := kit hF c14
        refine lv_aload_n S.1 S.2.1 dX5_moor_52 rfl (lv_at hl 1 rfl) ?_
        refine lv_bipush (v := 60) S.1 S.2.1 dX5_moor_53 (by decide) ?_
        refine lv_iload_n S.1 S.2.1 dX5_moor_55 rfl (lv_at hl 2 rfl) ?_
        refine lv_imul S.1 S.2.1 dX5_moor_56 ?_
        refine lv_iload_n S.1 S.2.1 dX5_moor_57 rfl (lv_at hl 4 rfl) ?_
        refine lv_iadd S.1 S.2.1 dX5_moor_58 ?_
        refine lv_iload S.1 S.2.1 dX5_moor_59 (lv_at hl 5 rfl) ?_
        obtain ⟨r17, σ16, e15, hF⟩ := kbi_e hF
        refine kcX5_readsMoor S hw cv_X5_132 ⟨Nat.le_of_ble_eq_true rfl, Nat.le_of_ble_eq_true rfl⟩ e15 hl.1 (Nat.le_of_ble_eq_true rfl) dX5_moor_61 (fun H locs hw hz18 => ?_)
        refine lv_if_ne (tgt := 79) S.1 S.2.1 dX5_moor_64 (by decide) (fun c19 => ?_) (fun c19 => ?_)
        · replace hF := kif hF c19
          refine lv_aload_n S.1 S.2.1 dX5_moor_79 rfl (lv_at hl 1 rfl) ?_
          refine lv_aload_n S.1 S.2.1 dX5_moor_80 rfl (lv_at hl 1 rfl) ?_
          refine gf_X5_94 S hw dX5_moor_81 ?_
          refine pf_X5_80 S hw dX5_moor_84 (fun H locs hw => ?_)
          refine lv_aload_n S.1 S.2.1 dX5_moor_87 rfl (lv_at hl 1 rfl) ?_
          refine lv_aload_n S.1 S.2.1 dX5_moor_88 rfl (lv_at hl 1 rfl) ?_
          refine gf_X5_101 S hw dX5_moor_89 ?_
          refine pf_X5_135 S hw dX5_moor_92 (fun H locs hw => ?_)
          refine lv_aload_n S.1 S.2.1 dX5_moor_95 rfl (lv_at hl 1 rfl) ?_
          refine lv_aload_n S.1 S.2.1 dX5_moor_96 rfl (lv_at hl 1 rfl) ?_
          refine gf_X5_104 S hw dX5_moor_97 ?_
          refine pf_X5_138 S hw dX5_moor_100 (fun H locs hw => ?_)
          refine lv_aload_n S.1 S.2.1 dX5_moor_103 rfl (lv_at hl 1 rfl) ?_
          refine lv_iconst (v := 0) S.1 S.2.1 dX5_moor_104 (by decide) ?_
          refine pf_X5_141 S hw dX5_moor_105 (fun H locs hw => ?_)
          refine lv_iconst (v := 0) S.1 S.2.1 dX5_moor_108 (by decide) ?_
          refine lv_istore (lv' := [(6, .int 0), (5, .int r13), (0, .ref (ead E 26)), (1, .int a1), (2, .int a2), (3, .int a3), (4, .int a4)]) S.1 S.2.1 dX5_moor_109 hl (by decide) rfl (fun ls hl => ?_)
          exact wX5_moor_L111 S hR 1000 0 _ _ _ _ hF hw (lv_sub hl [2, 0] rfl)
        · replace hF := kit hF c19
          refine lv_aload_n S.1 S.2.1 dX5_moor_67 rfl (lv_at hl 1 rfl) ?_
          refine lv_bipush (v := (-100)) S.1 S.2.1 dX5_moor_68 (by decide) ?_
          refine lv_aload_n S.1 S.2.1 dX5_moor_70 rfl (lv_at hl 1 rfl) ?_
          refine gf_X5_87 S hw dX5_moor_71 ?_
          refine lv_isub S.1 S.2.1 dX5_moor_74 ?_
          obtain ⟨r22, σ21, e20, hF⟩ := kbi_e hF
          refine kcX5_refused S hw cv_X5_123 ⟨Nat.le_of_ble_eq_true rfl, Nat.le_of_ble_eq_true rfl⟩ e20 hl.1 (Nat.le_of_ble_eq_true rfl) dX5_moor_75 (fun H locs hw => ?_)
          obtain ⟨rfl, rfl⟩ := kret hF
          exact hR _ _ _ _ dX5_moor_78 hw (fun h => nomatch h)
      · replace hF := kif hF c14
        refine lv_iload S.1 S.2.1 dX5_moor_49 (lv_at hl 0 rfl) ?_
        obtain ⟨rfl, rfl⟩ := kret hF
        exact hR _ _ _ _ dX5_moor_51 hw (fun h => nomatch h)
    · replace hF := kit hF c10
      refine lv_aload_n S.1 S.2.1 dX5_moor_25 rfl (lv_at hl 0 rfl) ?_
      refine lv_bipush (v := (-2)) S.1 S.2.1 dX5_moor_26 (by decide) ?_
      obtain ⟨r25, σ24, e23, hF⟩ := kbi_e hF
      refine kcX5_refused S hw cv_X5_123 ⟨Nat.le_of_ble_eq_true rfl, Nat.le_of_ble_eq_true rfl⟩ e23 hl.1 (Nat.le_of_ble_eq_true rfl) dX5_moor_28 (fun H locs hw => ?_)
      obtain ⟨rfl, rfl⟩ := kret hF
      exact hR _ _ _ _ dX5_moor_31 hw (fun h => nomatch h)
  · replace hF := kif hF c5
    refine lv_aload_n S.1 S.2.1 dX5_moor_7 rfl (lv_at hl 0 rfl) ?_
    refine lv_iconst (v := (-1)) S.1 S.2.1 dX5_moor_8 (by decide) ?_
    obtain ⟨r28, σ27, e26, hF⟩ := kbi_e hF
    refine kcX5_refused S hw cv_X5_123 ⟨Nat.le_of_ble_eq_true rfl, Nat.le_of_ble_eq_true rfl⟩ e26 hl.1 (Nat.le_of_ble_eq_true rfl) dX5_moor_9 (fun H locs hw => ?_)
    obtain ⟨rfl, rfl⟩ := kret hF
    exact hR _ _ _ _ dX5_moor_12 hw (fun h => nomatch h)
set_option maxRecDepth 100000 in
theorem kcX5_moor {p : Program} {l : Launch} {e : Env} {R : Room} {s : State} {m : MethodId} {args : Array Value} {below : List Frame} {meth : Method} {c : Code} {H : Heap} {locs : List Loc} {cells slots : Nat} {Q : State → Prop} {cc : ByteArray} {pc : Nat} {ls : Array Slot} {rest : List Value} {E : kE} {σ ω σ1 : kS} {nL index : Nat} {own : String} {r : Int32} (S : CallFix p m c cc nL s args kBIG own) (hw : kWS E s (cmb ω σ) H locs) (cw : kV own RX5 index yX5_moor cX5_moor 7 (some .int) 4) (hR : 4 + 1 ≤ R.frames ∧ 8 + (7 + 11) + 40 * 4 ≤ R.locals) {a1 : Int32} {a2 : Int32} {a3 : Int32} {a4 : Int32}  (hF : fX5_moor a1 a2 a3 a4 σ = some (r, σ1)) (hls : ls.size = nL) (hW : (rest.map fun v => v.category).sum ≤ 8) (hdg : decode cc pc = .ok (.invokevirtual index, 3)) (kk : ∀ (H1 : Heap) (locs1 : List Loc), kWS E s (cmb ω σ1) H1 locs1 → W p l e R s m args below meth c H1 locs1 cells slots Q (F0 m (pc + 3) ls (.int r :: rest))) (hf : cells ≤ R.cells ∧ slots ≤ R.slots := by exact ⟨Nat.le_of_ble_eq_true rfl, Nat.le_of_ble_eq_true rfl⟩) : W p l e R s m args below meth c H locs cells slots Q (F0 m pc ls (.int a4 :: .int a3 :: .int a2 :: .int a1 :: .ref (ead E 26) :: rest)) := kr_calli (mc := 0) (y := yX5_moor) (b := cX5_moor) (n := 0) (lv := 0) (As := []) (ret := some .int) hw (kr_runV (As := [.int a1, .int a2, .int a3, .int a4]) (q := 26) S hw ((mX5_moor (l := l) (E := E) (ω := ω) hF) H.size) cw hR rfl (by decide) rfl rfl hls _ rfl hW hdg hf) (fun H1 locs1 h _ => kk H1 locs1 h)
