set_option maxHeartbeats 4000000 in
set_option maxRecDepth 100000 in
theorem mX5_scentOf {l : Launch} {E : kE} {ω σ σ1 : kS} {r : Int32} {a1 : Int32}  (hF : fX5_scentOf a1 σ = some (r, σ1)) : kMetI l yX5_scentOf cX5_scentOf 3 (some .int) 1 E [.ref (ead E 26), .int a1] (cmb ω σ) r (cmb ω σ1) := by
  refine kMetI.of (by decide +kernel) (Nat.le_of_ble_eq_true rfl) (Or.inl rfl) ?_
  intro p e s m args below meth c Q ls S hR hw hl
  have hl : lv_has ls 3 [(0, .ref (ead E 26)), (1, .int a1)] := hl
  unfold fX5_scentOf at hF
  refine lv_aload_n S.1 S.2.1 dX5_scentOf_0 rfl (lv_at hl 0 rfl) ?_
  refine gf_X5_13 S hw dX5_scentOf_1 ?_
  refine lv_iload_n S.1 S.2.1 dX5_scentOf_4 rfl (lv_at hl 1 rfl) ?_
  obtain ⟨hb1, hF⟩ := kin hF
  refine km_iald (q := 2) S hw rfl (Nat.le_of_ble_eq_true rfl) hb1 dX5_scentOf_5 ?_
  obtain ⟨r4, σ3, e2, hF⟩ := kbi_e hF
  refine kcX5_bits S hw cv_X5_147 ⟨Nat.le_of_ble_eq_true rfl, Nat.le_of_ble_eq_true rfl⟩ e2 hl.1 (Nat.le_of_ble_eq_true rfl) dX5_scentOf_6 (fun H locs hw => ?_)
  refine lv_istore_n (lv' := [(2, .int r4), (0, .ref (ead E 26)), (1, .int a1)]) S.1 S.2.1 dX5_scentOf_9 rfl hl (by decide) rfl (fun ls hl => ?_)
  refine lv_aload_n S.1 S.2.1 dX5_scentOf_10 rfl (lv_at hl 1 rfl) ?_
  refine gf_X5_7 S hw dX5_scentOf_11 ?_
  refine lv_iload_n S.1 S.2.1 dX5_scentOf_14 rfl (lv_at hl 2 rfl) ?_
  obtain ⟨hb5, hF⟩ := kin hF
  refine km_iald (q := 1) S hw rfl (Nat.le_of_ble_eq_true rfl) hb5 dX5_scentOf_15 ?_
  refine lv_if_ne (tgt := 23) S.1 S.2.1 dX5_scentOf_16 (by decide) (fun c6 => ?_) (fun c6 => ?_)
  · replace hF := kif hF c6
    refine lv_aload_n S.1 S.2.1 dX5_scentOf_23 rfl (lv_at hl 1 rfl) ?_
    refine gf_X5_7 S hw dX5_scentOf_24 ?_
    refine lv_iload_n S.1 S.2.1 dX5_scentOf_27 rfl (lv_at hl 2 rfl) ?_
    obtain ⟨hb7, hF⟩ := kin hF
    refine km_iald (q := 1) S hw rfl (Nat.le_of_ble_eq_true rfl) hb7 dX5_scentOf_28 ?_
    refine lv_iconst (v := 1) S.1 S.2.1 dX5_scentOf_29 (by decide) ?_
    refine lv_icmp_ne (tgt := 39) S.1 S.2.1 dX5_scentOf_30 (by decide) (fun c8 => ?_) (fun c8 => ?_)
    · replace hF := kif hF c8
      refine lv_iconst (v := 2) S.1 S.2.1 dX5_scentOf_39 (by decide) ?_
      refine lv_iload_n S.1 S.2.1 dX5_scentOf_40 rfl (lv_at hl 0 rfl) ?_
      refine lv_imul S.1 S.2.1 dX5_scentOf_41 ?_
      refine lv_iconst (v := 2) S.1 S.2.1 dX5_scentOf_42 (by decide) ?_
      refine lv_iadd S.1 S.2.1 dX5_scentOf_43 ?_
      obtain ⟨rfl, rfl⟩ := kret hF
      exact hR _ _ _ _ dX5_scentOf_44 hw (fun h => nomatch h)
    · replace hF := kit hF c8
      refine lv_iload_n S.1 S.2.1 dX5_scentOf_33 rfl (lv_at hl 0 rfl) ?_
      refine lv_iconst (v := 1) S.1 S.2.1 dX5_scentOf_34 (by decide) ?_
      refine lv_iadd S.1 S.2.1 dX5_scentOf_35 ?_
      refine lv_goto (tgt := 44) S.1 S.2.1 dX5_scentOf_36 (by decide) ?_
      obtain ⟨rfl, rfl⟩ := kret hF
      exact hR _ _ _ _ dX5_scentOf_44 hw (fun h => nomatch h)
  · replace hF := kit hF c6
    refine lv_iload_n S.1 S.2.1 dX5_scentOf_19 rfl (lv_at hl 0 rfl) ?_
    refine lv_goto (tgt := 44) S.1 S.2.1 dX5_scentOf_20 (by decide) ?_
    obtain ⟨rfl, rfl⟩ := kret hF
    exact hR _ _ _ _ dX5_scentOf_44 hw (fun h => nomatch h)
set_option maxRecDepth 100000 in
theorem kcX5_scentOf {p : Program} {l : Launch} {e : Env} {R : Room} {s : State} {m : MethodId} {args : Array Value} {below : List Frame} {meth : Method} {c : Code} {H : Heap} {locs : List Loc} {cells slots : Nat} {Q : State → Prop} {cc : ByteArray} {pc : Nat} {ls : Array Slot} {rest : List Value} {E : kE} {σ ω σ1 : kS} {nL index : Nat} {own : String} {r : Int32} (S : CallFix p m c cc nL s args kBIG own) (hw : kWS E s (cmb ω σ) H locs) (cw : kV own RX5 index yX5_scentOf cX5_scentOf 3 (some .int) 1) (hR : 1 + 1 ≤ R.frames ∧ 8 + (3 + 11) + 40 * 1 ≤ R.locals) {a1 : Int32}  (hF : fX5_scentOf a1 σ = some (r, σ1)) (hls : ls.size = nL) (hW : (rest.map fun v => v.category).sum ≤ 8) (hdg : decode cc pc = .ok (.invokevirtual index, 3)) (kk : ∀ (H1 : Heap) (locs1 : List Loc), kWS E s (cmb ω σ1) H1 locs1 → W p l e R s m args below meth c H1 locs1 cells slots Q (F0 m (pc + 3) ls (.int r :: rest))) (hf : cells ≤ R.cells ∧ slots ≤ R.slots := by exact ⟨Nat.le_of_ble_eq_true rfl, Nat.le_of_ble_eq_true rfl⟩) : W p l e R s m args below meth c H locs cells slots Q (F0 m pc ls (.int a1 :: .ref (ead E 26) :: rest)) := kr_calli (mc := 0) (y := yX5_scentOf) (b := cX5_scentOf) (n := 0) (lv := 0) (As := []) (ret := some .int) hw (kr_runV (As := [.int a1]) (q := 26) S hw ((mX5_scentOf (l := l) (E := E) (ω := ω) hF) H.size) cw hR rfl (by decide) rfl rfl hls _ rfl hW hdg hf) (fun H1 locs1 h _ => kk H1 locs1 h)
set_option maxHeartbeats 4000000 in
set_option maxRecDepth 100000 in
theorem mX5_wayTo {l : Launch} {E : kE} {ω σ σ1 : kS} {r : Int32} {a1 : Int32}  (hF : fX5_wayTo a1 σ = some (r, σ1)) : kMetI l yX5_wayTo cX5_wayTo 2 (some .int) 1 E [.ref (ead E 26), .int a1] (cmb ω σ) r (cmb ω σ1) := by
  refine kMetI.of (by decide +kernel) (Nat.le_of_ble_eq_true rfl) (Or.inl rfl) ?_
  intro p e s m args below meth c Q ls S hR hw hl
  have hl : lv_has ls 2 [(0, .ref (ead E 26)), (1, .int a1)] := hl
  unfold fX5_wayTo at hF
  refine lv_aload_n S.1 S.2.1 dX5_wayTo_0 rfl (lv_at hl 0 rfl) ?_
  refine gf_X5_19 S hw dX5_wayTo_1 ?_
  refine lv_iload_n S.1 S.2.1 dX5_wayTo_4 rfl (lv_at hl 1 rfl) ?_
  obtain ⟨hb1, hF⟩ := kin hF
  refine km_iald (q := 4) S hw rfl (Nat.le_of_ble_eq_true rfl) hb1 dX5_wayTo_5 ?_
  refine lv_aload_n S.1 S.2.1 dX5_wayTo_6 rfl (lv_at hl 0 rfl) ?_
  refine gf_X5_135 S hw dX5_wayTo_7 ?_
  obtain ⟨r4, σ3, e2, hF⟩ := kbi_e hF
  refine kcX5_apart S hw cv_X5_150 ⟨Nat.le_of_ble_eq_true rfl, Nat.le_of_ble_eq_true rfl⟩ e2 hl.1 (Nat.le_of_ble_eq_true rfl) dX5_wayTo_10 (fun H locs hw => ?_)
  obtain ⟨rfl, rfl⟩ := kret hF
  exact hR _ _ _ _ dX5_wayTo_13 hw (fun h => nomatch h)
set_option maxRecDepth 100000 in
theorem kcX5_wayTo {p : Program} {l : Launch} {e : Env} {R : Room} {s : State} {m : MethodId} {args : Array Value} {below : List Frame} {meth : Method} {c : Code} {H : Heap} {locs : List Loc} {cells slots : Nat} {Q : State → Prop} {cc : ByteArray} {pc : Nat} {ls : Array Slot} {rest : List Value} {E : kE} {σ ω σ1 : kS} {nL index : Nat} {own : String} {r : Int32} (S : CallFix p m c cc nL s args kBIG own) (hw : kWS E s (cmb ω σ) H locs) (cw : kV own RX5 index yX5_wayTo cX5_wayTo 2 (some .int) 1) (hR : 1 + 1 ≤ R.frames ∧ 8 + (2 + 11) + 40 * 1 ≤ R.locals) {a1 : Int32}  (hF : fX5_wayTo a1 σ = some (r, σ1)) (hls : ls.size = nL) (hW : (rest.map fun v => v.category).sum ≤ 8) (hdg : decode cc pc = .ok (.invokevirtual index, 3)) (kk : ∀ (H1 : Heap) (locs1 : List Loc), kWS E s (cmb ω σ1) H1 locs1 → W p l e R s m args below meth c H1 locs1 cells slots Q (F0 m (pc + 3) ls (.int r :: rest))) (hf : cells ≤ R.cells ∧ slots ≤ R.slots := by exact ⟨Nat.le_of_ble_eq_true rfl, Nat.le_of_ble_eq_true rfl⟩) : W p l e R s m args below meth c H locs cells slots Q (F0 m pc ls (.int a1 :: .ref (ead E 26) :: rest)) := kr_calli (mc := 0) (y := yX5_wayTo) (b := cX5_wayTo) (n := 0) (lv := 0) (As := []) (ret := some .int) hw (kr_runV (As := [.int a1]) (q := 26) S hw ((mX5_wayTo (l := l) (E := E) (ω := ω) hF) H.size) cw hR rfl (by decide) rfl rfl hls _ rfl hW hdg hf) (fun H1 locs1 h _ => kk H1 locs1 h)
set_option maxHeartbeats 4000000 in
set_option maxRecDepth 100000 in
theorem mX5_isSmelt {l : Launch} {E : kE} {ω σ σ1 : kS} {r : Int32} {a1 : Int32}  (hF : fX5_isSmelt a1 σ = some (r, σ1)) : kMetI l yX5_isSmelt cX5_isSmelt 2 (some .boolean) 2 E [.ref (ead E 26), .int a1] (cmb ω σ) r (cmb ω σ1) := by
  refine kMetI.of (by decide +kernel) (Nat.le_of_ble_eq_true rfl) (Or.inr rfl) ?_
  intro p e s m args below meth c Q ls S hR hw hl
  have hl : lv_has ls 2 [(0, .ref (ead E 26)), (1, .int a1)] := hl
  unfold fX5_isSmelt at hF
  refine lv_aload_n S.1 S.2.1 dX5_isSmelt_0 rfl (lv_at hl 0 rfl) ?_
  refine lv_iload_n S.1 S.2.1 dX5_isSmelt_1 rfl (lv_at hl 1 rfl) ?_
  obtain ⟨r3, σ2, e1, hF⟩ := kbi_e hF
  refine kcX5_wayTo S hw cv_X5_153 ⟨Nat.le_of_ble_eq_true rfl, Nat.le_of_ble_eq_true rfl⟩ e1 hl.1 (Nat.le_of_ble_eq_true rfl) dX5_isSmelt_2 (fun H locs hw => ?_)
  refine lv_aload_n S.1 S.2.1 dX5_isSmelt_5 rfl (lv_at hl 0 rfl) ?_
  refine lv_iload_n S.1 S.2.1 dX5_isSmelt_6 rfl (lv_at hl 1 rfl) ?_
  obtain ⟨r6, σ5, e4, hF⟩ := kbi_e hF
  refine kcX5_scentOf S hw cv_X5_156 ⟨Nat.le_of_ble_eq_true rfl, Nat.le_of_ble_eq_true rfl⟩ e4 hl.1 (Nat.le_of_ble_eq_true rfl) dX5_isSmelt_7 (fun H locs hw => ?_)
  refine lv_icmp_gt (tgt := 17) S.1 S.2.1 dX5_isSmelt_10 (by decide) (fun c7 => ?_) (fun c7 => ?_)
  · replace hF := kit hF c7
    refine lv_iconst (v := 0) S.1 S.2.1 dX5_isSmelt_17 (by decide) ?_
    obtain ⟨rfl, rfl⟩ := kret hF
    exact hR _ _ _ _ dX5_isSmelt_18 hw (fun _ => (Or.inl rfl))
  · replace hF := kif hF c7
    refine lv_iconst (v := 1) S.1 S.2.1 dX5_isSmelt_13 (by decide) ?_
    refine lv_goto (tgt := 18) S.1 S.2.1 dX5_isSmelt_14 (by decide) ?_
    obtain ⟨rfl, rfl⟩ := kret hF
    exact hR _ _ _ _ dX5_isSmelt_18 hw (fun _ => (Or.inr rfl))
set_option maxRecDepth 100000 in
theorem kcX5_isSmelt {p : Program} {l : Launch} {e : Env} {R : Room} {s : State} {m : MethodId} {args : Array Value} {below : List Frame} {meth : Method} {c : Code} {H : Heap} {locs : List Loc} {cells slots : Nat} {Q : State → Prop} {cc : ByteArray} {pc : Nat} {ls : Array Slot} {rest : List Value} {E : kE} {σ ω σ1 : kS} {nL index : Nat} {own : String} {r : Int32} (S : CallFix p m c cc nL s args kBIG own) (hw : kWS E s (cmb ω σ) H locs) (cw : kV own RX5 index yX5_isSmelt cX5_isSmelt 2 (some .boolean) 1) (hR : 2 + 1 ≤ R.frames ∧ 8 + (2 + 11) + 40 * 2 ≤ R.locals) {a1 : Int32}  (hF : fX5_isSmelt a1 σ = some (r, σ1)) (hls : ls.size = nL) (hW : (rest.map fun v => v.category).sum ≤ 8) (hdg : decode cc pc = .ok (.invokevirtual index, 3)) (kk : ∀ (H1 : Heap) (locs1 : List Loc), kWS E s (cmb ω σ1) H1 locs1 → (((some .boolean) : Option FieldType) = some .boolean → r = 0 ∨ r = 1) → W p l e R s m args below meth c H1 locs1 cells slots Q (F0 m (pc + 3) ls (.int r :: rest))) (hf : cells ≤ R.cells ∧ slots ≤ R.slots := by exact ⟨Nat.le_of_ble_eq_true rfl, Nat.le_of_ble_eq_true rfl⟩) : W p l e R s m args below meth c H locs cells slots Q (F0 m pc ls (.int a1 :: .ref (ead E 26) :: rest)) := kr_calli (mc := 0) (y := yX5_isSmelt) (b := cX5_isSmelt) (n := 0) (lv := 0) (As := []) hw (kr_runV (As := [.int a1]) (q := 26) S hw ((mX5_isSmelt (l := l) (E := E) (ω := ω) hF) H.size) cw hR rfl (by decide) rfl rfl hls _ rfl hW hdg hf) kk
set_option maxHeartbeats 4000000 in
set_option maxRecDepth 100000 in
theorem wX5_goesTo_J103 {p : Program} {l : Launch} {e : Env} {s : State} {m : MethodId} {args : Array Value} {below : List Frame} {meth : Method} {c : Code} {Q : State → Prop} {E : kE} {ω σ1 : kS} {r : Int32} (S : CallFix p m c cX5_goesTo 7 s args kBIG RX5) (hR : kRetI p l e (rml 3) s m args below meth c cX5_goesTo E Q (some .int) r (cmb ω σ1)) {k13 : Int32 → Int32 → Int32 → Int32 → kS → Option (Int32 × kS)} (hk13 : ∀ (a1 : Int32) (a2 : Int32) (a3 : Int32) (a4 : Int32) (σ : kS) (H : Heap) (locs : List Loc) (ls : Array Slot), k13 a1 a2 a3 a4 σ = some (r, σ1) → kWS E s (cmb ω σ) H locs → lv_has ls 7 [(0, .ref (ead E 26)), (1, .int a1), (2, .int a2), (3, .int a3), (4, .int a4)] → W p l e (rml 3) s m args below meth c H locs 0 0 Q (F0 m 13 ls [])) : ∀ (a1 : Int32) (a3 : Int32) (a4 : Int32) (a5 : Int32) (as0 : Int32) (σ : kS) (H : Heap) (locs : List Loc) (ls : Array Slot), fX5_goesTo_J103 k13 a1 a3 a4 a5 as0 σ = some (r, σ1) → kWS E s (cmb ω σ) H locs → lv_has ls 7 [(0, .ref (ead E 26)), (1, .int a1), (3, .int a3), (4, .int a4), (5, .int a5)] → W p l e (rml 3) s m args below meth c H locs 0 0 Q (F0 m 103 ls [.int as0]) := by
  intro a1 a3 a4 a5 as0 σ H locs ls hF hw hl
  unfold fX5_goesTo_J103 at hF
  refine lv_istore_n (lv' := [(2, .int as0), (0, .ref (ead E 26)), (1, .int a1), (3, .int a3), (4, .int a4), (5, .int a5)]) S.1 S.2.1 dX5_goesTo_103 rfl hl (by decide) rfl (fun ls hl => ?_)
  refine lv_iload S.1 S.2.1 dX5_goesTo_104 (lv_at hl 5 rfl) ?_
  refine lv_iload_n S.1 S.2.1 dX5_goesTo_106 rfl (lv_at hl 3 rfl) ?_
  refine lv_icmp_ge (tgt := 115) S.1 S.2.1 dX5_goesTo_107 (by decide) (fun c30 => ?_) (fun c30 => ?_)
  · replace hF := kit hF c30
    refine lv_iload_n S.1 S.2.1 dX5_goesTo_115 rfl (lv_at hl 3 rfl) ?_
    refine lv_istore_n (lv' := [(3, .int a3), (2, .int as0), (0, .ref (ead E 26)), (1, .int a1), (4, .int a4), (5, .int a5)]) S.1 S.2.1 dX5_goesTo_116 rfl hl (by decide) rfl (fun ls hl => ?_)
    obtain ⟨v31, ev31⟩ : ∃ y : Int32, y = a4 + 1 := ⟨_, rfl⟩
    replace hF := klb hF ev31
    refine lv_iinc (v := v31) (lv' := [(4, .int v31), (3, .int a3), (2, .int as0), (0, .ref (ead E 26)), (1, .int a1), (5, .int a5)]) S.1 S.2.1 dX5_goesTo_117 hl (k := 4) rfl (by rw [ev31]; rfl) (by decide) rfl (fun ls hl => ?_)
    refine lv_goto (tgt := 13) S.1 S.2.1 dX5_goesTo_120 (by decide) ?_
    exact hk13 a1 as0 a3 v31 _ _ _ _ hF hw (lv_sub hl [3, 4, 2, 1, 0] rfl)
  · replace hF := kif hF c30
    refine lv_iload S.1 S.2.1 dX5_goesTo_110 (lv_at hl 5 rfl) ?_
    refine lv_goto (tgt := 116) S.1 S.2.1 dX5_goesTo_112 (by decide) ?_
    refine lv_istore_n (lv' := [(3, .int a5), (2, .int as0), (0, .ref (ead E 26)), (1, .int a1), (4, .int a4), (5, .int a5)]) S.1 S.2.1 dX5_goesTo_116 rfl hl (by decide) rfl (fun ls hl => ?_)
    obtain ⟨v32, ev32⟩ : ∃ y : Int32, y = a4 + 1 := ⟨_, rfl⟩
    replace hF := klb hF ev32
    refine lv_iinc (v := v32) (lv' := [(4, .int v32), (3, .int a5), (2, .int as0), (0, .ref (ead E 26)), (1, .int a1), (5, .int a5)]) S.1 S.2.1 dX5_goesTo_117 hl (k := 4) rfl (by rw [ev32]; rfl) (by decide) rfl (fun ls hl => ?_)
    refine lv_goto (tgt := 13) S.1 S.2.1 dX5_goesTo_120 (by decide) ?_
    exact hk13 a1 as0 a5 v32 _ _ _ _ hF hw (lv_sub hl [3, 4, 2, 1, 0] rfl)
set_option maxHeartbeats 4000000 in
set_option maxRecDepth 100000 in
theorem wX5_goesTo_J53 {p : Program} {l : Launch} {e : Env} {s : State} {m : MethodId} {args : Array Value} {below : List Frame} {meth : Method} {c : Code} {Q : State → Prop} {E : kE} {ω σ1 : kS} {r : Int32} (S : CallFix p m c cX5_goesTo 7 s args kBIG RX5) (hR : kRetI p l e (rml 3) s m args below meth c cX5_goesTo E Q (some .int) r (cmb ω σ1)) {k13 : Int32 → Int32 → Int32 → Int32 → kS → Option (Int32 × kS)} (hk13 : ∀ (a1 : Int32) (a2 : Int32) (a3 : Int32) (a4 : Int32) (σ : kS) (H : Heap) (locs : List Loc) (ls : Array Slot), k13 a1 a2 a3 a4 σ = some (r, σ1) → kWS E s (cmb ω σ) H locs → lv_has ls 7 [(0, .ref (ead E 26)), (1, .int a1), (2, .int a2), (3, .int a3), (4, .int a4)] → W p l e (rml 3) s m args below meth c H locs 0 0 Q (F0 m 13 ls [])) : ∀ (a1 : Int32) (a2 : Int32) (a3 : Int32) (a4 : Int32) (as0 : Int32) (σ : kS) (H : Heap) (locs : List Loc) (ls : Array Slot), fX5_goesTo_J53 k13 a1 a2 a3 a4 as0 σ = some (r, σ1) → kWS E s (cmb ω σ) H locs → lv_has ls 7 [(0, .ref (ead E 26)), (1, .int a1), (2, .int a2), (3, .int a3), (4, .int a4)] → W p l e (rml 3) s m args below meth c H locs 0 0 Q (F0 m 53 ls [.int as0]) := by
  intro a1 a2 a3 a4 as0 σ H locs ls hF hw hl
  unfold fX5_goesTo_J53 at hF
  refine lv_istore (lv' := [(5, .int as0), (0, .ref (ead E 26)), (1, .int a1), (2, .int a2), (3, .int a3), (4, .int a4)]) S.1 S.2.1 dX5_goesTo_53 hl (by decide) rfl (fun ls hl => ?_)
  refine lv_iload_n S.1 S.2.1 dX5_goesTo_55 rfl (lv_at hl 3 rfl) ?_
  refine lv_if_lt (tgt := 83) S.1 S.2.1 dX5_goesTo_56 (by decide) (fun c13 => ?_) (fun c13 => ?_)
  · replace hF := kit hF c13
    refine lv_iconst (v := 0) S.1 S.2.1 dX5_goesTo_83 (by decide) ?_
    refine lv_istore (lv' := [(6, .int 0), (5, .int as0), (0, .ref (ead E 26)), (1, .int a1), (2, .int a2), (3, .int a3), (4, .int a4)]) S.1 S.2.1 dX5_goesTo_84 hl (by decide) rfl (fun ls hl => ?_)
    refine lv_iload S.1 S.2.1 dX5_goesTo_86 (lv_at hl 1 rfl) ?_
    refine lv_iload_n S.1 S.2.1 dX5_goesTo_88 rfl (lv_at hl 5 rfl) ?_
    refine lv_icmp_lt (tgt := 97) S.1 S.2.1 dX5_goesTo_89 (by decide) (fun c14 => ?_) (fun c14 => ?_)
    · replace hF := kit hF c14
      refine lv_iload S.1 S.2.1 dX5_goesTo_97 (lv_at hl 6 rfl) ?_
      refine lv_goto (tgt := 103) S.1 S.2.1 dX5_goesTo_99 (by decide) ?_
      exact wX5_goesTo_J103 S hR hk13 a1 a3 a4 as0 a4 _ _ _ _ hF hw (lv_sub hl [2, 3, 5, 6, 1] rfl)
    · replace hF := kif hF c14
      refine lv_iload S.1 S.2.1 dX5_goesTo_92 (lv_at hl 0 rfl) ?_
      refine lv_if_eq (tgt := 102) S.1 S.2.1 dX5_goesTo_94 (by decide) (fun c15 => ?_) (fun c15 => ?_)
      · replace hF := kit hF c15
        refine lv_iload_n S.1 S.2.1 dX5_goesTo_102 rfl (lv_at hl 4 rfl) ?_
        exact wX5_goesTo_J103 S hR hk13 a1 a3 a4 as0 a2 _ _ _ _ hF hw (lv_sub hl [2, 3, 5, 6, 1] rfl)
      · replace hF := kif hF c15
        refine lv_iload S.1 S.2.1 dX5_goesTo_97 (lv_at hl 6 rfl) ?_
        refine lv_goto (tgt := 103) S.1 S.2.1 dX5_goesTo_99 (by decide) ?_
        exact wX5_goesTo_J103 S hR hk13 a1 a3 a4 as0 a4 _ _ _ _ hF hw (lv_sub hl [2, 3, 5, 6, 1] rfl)
  · replace hF := kif hF c13
    refine lv_iload S.1 S.2.1 dX5_goesTo_59 (lv_at hl 0 rfl) ?_
    refine lv_iload_n S.1 S.2.1 dX5_goesTo_61 rfl (lv_at hl 4 rfl) ?_
    refine lv_icmp_ne (tgt := 83) S.1 S.2.1 dX5_goesTo_62 (by decide) (fun c16 => ?_) (fun c16 => ?_)
    · replace hF := kif hF c16
      refine lv_iconst (v := 0) S.1 S.2.1 dX5_goesTo_83 (by decide) ?_
      refine lv_istore (lv' := [(6, .int 0), (5, .int as0), (0, .ref (ead E 26)), (1, .int a1), (2, .int a2), (3, .int a3), (4, .int a4)]) S.1 S.2.1 dX5_goesTo_84 hl (by decide) rfl (fun ls hl => ?_)
      refine lv_iload S.1 S.2.1 dX5_goesTo_86 (lv_at hl 1 rfl) ?_
      refine lv_iload_n S.1 S.2.1 dX5_goesTo_88 rfl (lv_at hl 5 rfl) ?_
      refine lv_icmp_lt (tgt := 97) S.1 S.2.1 dX5_goesTo_89 (by decide) (fun c17 => ?_) (fun c17 => ?_)
      · replace hF := kit hF c17
        refine lv_iload S.1 S.2.1 dX5_goesTo_97 (lv_at hl 6 rfl) ?_
        refine lv_goto (tgt := 103) S.1 S.2.1 dX5_goesTo_99 (by decide) ?_
        exact wX5_goesTo_J103 S hR hk13 a1 a3 a4 as0 a4 _ _ _ _ hF hw (lv_sub hl [2, 3, 5, 6, 1] rfl)
      · replace hF := kif hF c17
        refine lv_iload S.1 S.2.1 dX5_goesTo_92 (lv_at hl 0 rfl) ?_
        refine lv_if_eq (tgt := 102) S.1 S.2.1 dX5_goesTo_94 (by decide) (fun c18 => ?_) (fun c18 => ?_)
        · replace hF := kit hF c18
          refine lv_iload_n S.1 S.2.1 dX5_goesTo_102 rfl (lv_at hl 4 rfl) ?_
          exact wX5_goesTo_J103 S hR hk13 a1 a3 a4 as0 a2 _ _ _ _ hF hw (lv_sub hl [2, 3, 5, 6, 1] rfl)
        · replace hF := kif hF c18
          refine lv_iload S.1 S.2.1 dX5_goesTo_97 (lv_at hl 6 rfl) ?_
          refine lv_goto (tgt := 103) S.1 S.2.1 dX5_goesTo_99 (by decide) ?_
          exact wX5_goesTo_J103 S hR hk13 a1 a3 a4 as0 a4 _ _ _ _ hF hw (lv_sub hl [2, 3, 5, 6, 1] rfl)
    · replace hF := kit hF c16
      refine lv_aload_n S.1 S.2.1 dX5_goesTo_65 rfl (lv_at hl 1 rfl) ?_
      refine lv_iload S.1 S.2.1 dX5_goesTo_66 (lv_at hl 5 rfl) ?_
      obtain ⟨r21, σ20, e19, hF⟩ := kbi_e hF
      refine kcX5_wayTo S hw cv_X5_153 ⟨Nat.le_of_ble_eq_true rfl, Nat.le_of_ble_eq_true rfl⟩ e19 hl.1 (Nat.le_of_ble_eq_true rfl) dX5_goesTo_68 (fun H locs hw => ?_)
      refine lv_aload_n S.1 S.2.1 dX5_goesTo_71 rfl (lv_at hl 1 rfl) ?_
      refine lv_iload_n S.1 S.2.1 dX5_goesTo_72 rfl (lv_at hl 3 rfl) ?_
      obtain ⟨r24, σ23, e22, hF⟩ := kbi_e hF
      refine kcX5_wayTo S hw cv_X5_153 ⟨Nat.le_of_ble_eq_true rfl, Nat.le_of_ble_eq_true rfl⟩ e22 hl.1 (Nat.le_of_ble_eq_true rfl) dX5_goesTo_73 (fun H locs hw => ?_)
      refine lv_icmp_ge (tgt := 83) S.1 S.2.1 dX5_goesTo_76 (by decide) (fun c25 => ?_) (fun c25 => ?_)
      · replace hF := kit hF c25
        refine lv_iconst (v := 0) S.1 S.2.1 dX5_goesTo_83 (by decide) ?_
        refine lv_istore (lv' := [(6, .int 0), (5, .int as0), (0, .ref (ead E 26)), (1, .int a1), (2, .int a2), (3, .int a3), (4, .int a4)]) S.1 S.2.1 dX5_goesTo_84 hl (by decide) rfl (fun ls hl => ?_)
        refine lv_iload S.1 S.2.1 dX5_goesTo_86 (lv_at hl 1 rfl) ?_
        refine lv_iload_n S.1 S.2.1 dX5_goesTo_88 rfl (lv_at hl 5 rfl) ?_
        refine lv_icmp_lt (tgt := 97) S.1 S.2.1 dX5_goesTo_89 (by decide) (fun c26 => ?_) (fun c26 => ?_)
        · replace hF := kit hF c26
          refine lv_iload S.1 S.2.1 dX5_goesTo_97 (lv_at hl 6 rfl) ?_
          refine lv_goto (tgt := 103) S.1 S.2.1 dX5_goesTo_99 (by decide) ?_
          exact wX5_goesTo_J103 S hR hk13 a1 a3 a4 as0 a4 _ _ _ _ hF hw (lv_sub hl [2, 3, 5, 6, 1] rfl)
        · replace hF := kif hF c26
          refine lv_iload S.1 S.2.1 dX5_goesTo_92 (lv_at hl 0 rfl) ?_
          refine lv_if_eq (tgt := 102) S.1 S.2.1 dX5_goesTo_94 (by decide) (fun c27 => ?_) (fun c27 => ?_)
          · replace hF := kit hF c27
            refine lv_iload_n S.1 S.2.1 dX5_goesTo_102 rfl (lv_at hl 4 rfl) ?_
            exact wX5_goesTo_J103 S hR hk13 a1 a3 a4 as0 a2 _ _ _ _ hF hw (lv_sub hl [2, 3, 5, 6, 1] rfl)
          · replace hF := kif hF c27
            refine lv_iload S.1 S.2.1 dX5_goesTo_97 (lv_at hl 6 rfl) ?_
            refine lv_goto (tgt := 103) S.1 S.2.1 dX5_goesTo_99 (by decide) ?_
            exact wX5_goesTo_J103 S hR hk13 a1 a3 a4 as0 a4 _ _ _ _ hF hw (lv_sub hl [2, 3, 5, 6, 1] rfl)
      · replace hF := kif hF c25
        refine lv_iconst (v := 1) S.1 S.2.1 dX5_goesTo_79 (by decide) ?_
        refine lv_goto (tgt := 84) S.1 S.2.1 dX5_goesTo_80 (by decide) ?_
        refine lv_istore (lv' := [(6, .int 1), (5, .int as0), (0, .ref (ead E 26)), (1, .int a1), (2, .int a2), (3, .int a3), (4, .int a4)]) S.1 S.2.1 dX5_goesTo_84 hl (by decide) rfl (fun ls hl => ?_)
        refine lv_iload S.1 S.2.1 dX5_goesTo_86 (lv_at hl 1 rfl) ?_
        refine lv_iload_n S.1 S.2.1 dX5_goesTo_88 rfl (lv_at hl 5 rfl) ?_
        refine lv_icmp_lt (tgt := 97) S.1 S.2.1 dX5_goesTo_89 (by decide) (fun c28 => ?_) (fun c28 => ?_)
        · replace hF := kit hF c28
          refine lv_iload S.1 S.2.1 dX5_goesTo_97 (lv_at hl 6 rfl) ?_
          refine lv_goto (tgt := 103) S.1 S.2.1 dX5_goesTo_99 (by decide) ?_
          exact wX5_goesTo_J103 S hR hk13 a1 a3 a4 as0 a4 _ _ _ _ hF hw (lv_sub hl [2, 3, 5, 6, 1] rfl)
        · replace hF := kif hF c28
          refine lv_iload S.1 S.2.1 dX5_goesTo_92 (lv_at hl 0 rfl) ?_
          refine lv_if_eq (tgt := 102) S.1 S.2.1 dX5_goesTo_94 (by decide) (fun c29 => ?_) (fun c29 => ?_)
          · replace hF := kit hF c29
            refine lv_iload_n S.1 S.2.1 dX5_goesTo_102 rfl (lv_at hl 4 rfl) ?_
            exact wX5_goesTo_J103 S hR hk13 a1 a3 a4 as0 a2 _ _ _ _ hF hw (lv_sub hl [2, 3, 5, 6, 1] rfl)
          · replace hF := kif hF c29
            refine lv_iload S.1 S.2.1 dX5_goesTo_97 (lv_at hl 6 rfl) ?_
            refine lv_goto (tgt := 103) S.1 S.2.1 dX5_goesTo_99 (by decide) ?_
            exact wX5_goesTo_J103 S hR hk13 a1 a3 a4 as0 a4 _ _ _ _ hF hw (lv_sub hl [2, 3, 5, 6, 1] rfl)
set_option maxHeartbeats 4000000 in
set_option maxRecDepth 100000 in
theorem wX5_goesTo_L13 {p : Program} {l : Launch} {e : Env} {s : State} {m : MethodId} {args : Array Value} {below : List Frame} {meth : Method} {c : Code} {Q : State → Prop} {E : kE} {ω σ1 : kS} {r : Int32} (S : CallFix p m c cX5_goesTo 7 s args kBIG RX5) (hR : kRetI p l e (rml 3) s m args below meth c cX5_goesTo E Q (some .int) r (cmb ω σ1))  : ∀ (n : Nat), ∀ (a1 : Int32) (a2 : Int32) (a3 : Int32) (a4 : Int32) (σ : kS) (H : Heap) (locs : List Loc) (ls : Array Slot), fX5_goesTo_L13 n a1 a2 a3 a4 σ = some (r, σ1) → kWS E s (cmb ω σ) H locs → lv_has ls 7 [(0, .ref (ead E 26)), (1, .int a1), (2, .int a2), (3, .int a3), (4, .int a4)] → W p l e (rml 3) s m args below meth c H locs 0 0 Q (F0 m 13 ls []) := by
  intro n
  induction n with
  | zero =>
    intro a1 a2 a3 a4 σ H locs ls hF hw hl
    exact absurd hF (fun h => nomatch h)
  | succ n ih =>
    intro a1 a2 a3 a4 σ H locs ls hF hw hl
    rw [fX5_goesTo_L13] at hF
    refine lv_iload S.1 S.2.1 dX5_goesTo_13 (lv_at hl 4 rfl) ?_
    refine lv_aload_n S.1 S.2.1 dX5_goesTo_15 rfl (lv_at hl 0 rfl) ?_
    refine gf_X5_80 S hw dX5_goesTo_16 ?_
    refine lv_icmp_ge (tgt := 123) S.1 S.2.1 dX5_goesTo_19 (by decide) (fun c2 => ?_) (fun c2 => ?_)
    · replace hF := kit hF c2
      refine lv_iload_n S.1 S.2.1 dX5_goesTo_123 rfl (lv_at hl 2 rfl) ?_
      obtain ⟨rfl, rfl⟩ := kret hF
      exact hR _ _ _ _ dX5_goesTo_124 hw (fun h => nomatch h)
    · replace hF := kif hF c2
      refine lv_aload_n S.1 S.2.1 dX5_goesTo_22 rfl (lv_at hl 0 rfl) ?_
      refine lv_iload S.1 S.2.1 dX5_goesTo_23 (lv_at hl 4 rfl) ?_
      obtain ⟨r5, σ4, e3, hF⟩ := kbi_e hF
      refine kcX5_isSmelt S hw cv_X5_159 ⟨Nat.le_of_ble_eq_true rfl, Nat.le_of_ble_eq_true rfl⟩ e3 hl.1 (Nat.le_of_ble_eq_true rfl) dX5_goesTo_25 (fun H locs hw hz6 => ?_)
      refine lv_if_eq (tgt := 51) S.1 S.2.1 dX5_goesTo_28 (by decide) (fun c7 => ?_) (fun c7 => ?_)
      · replace hF := kit hF c7
        refine lv_bipush (v := 9) S.1 S.2.1 dX5_goesTo_51 (by decide) ?_
        exact wX5_goesTo_J53 S hR ih a1 a2 a3 a4 9 _ _ _ _ hF hw (lv_sub hl [0, 1, 2, 3, 4] rfl)
      · replace hF := kif hF c7
        refine lv_aload_n S.1 S.2.1 dX5_goesTo_31 rfl (lv_at hl 0 rfl) ?_
        refine gf_X5_13 S hw dX5_goesTo_32 ?_
        refine lv_iload S.1 S.2.1 dX5_goesTo_35 (lv_at hl 4 rfl) ?_
        obtain ⟨hb8, hF⟩ := kin hF
        refine km_iald (q := 2) S hw rfl (Nat.le_of_ble_eq_true rfl) hb8 dX5_goesTo_37 ?_
        refine lv_aload_n S.1 S.2.1 dX5_goesTo_38 rfl (lv_at hl 0 rfl) ?_
        refine gf_X5_16 S hw dX5_goesTo_39 ?_
        refine lv_iload_n S.1 S.2.1 dX5_goesTo_42 rfl (lv_at hl 1 rfl) ?_
        obtain ⟨hb9, hF⟩ := kin hF
        refine km_iald (q := 3) S hw rfl (Nat.le_of_ble_eq_true rfl) hb9 dX5_goesTo_43 ?_
        refine lv_ixor S.1 S.2.1 dX5_goesTo_44 ?_
        obtain ⟨r12, σ11, e10, hF⟩ := kbi_e hF
        refine kcX5_bits S hw cv_X5_147 ⟨Nat.le_of_ble_eq_true rfl, Nat.le_of_ble_eq_true rfl⟩ e10 hl.1 (Nat.le_of_ble_eq_true rfl) dX5_goesTo_45 (fun H locs hw => ?_)
        refine lv_goto (tgt := 53) S.1 S.2.1 dX5_goesTo_48 (by decide) ?_
        exact wX5_goesTo_J53 S hR ih a1 a2 a3 a4 r12 _ _ _ _ hF hw (lv_sub hl [0, 1, 2, 3, 4] rfl)
set_option maxHeartbeats 4000000 in
set_option maxRecDepth 100000 in
theorem mX5_goesTo {l : Launch} {E : kE} {ω σ σ1 : kS} {r : Int32} {a1 : Int32}  (hF : fX5_goesTo a1 σ = some (r, σ1)) : kMetI l yX5_goesTo cX5_goesTo 7 (some .int) 3 E [.ref (ead E 26), .int a1] (cmb ω σ) r (cmb ω σ1) := by
  refine kMetI.of (by decide +kernel) (Nat.le_of_ble_eq_true rfl) (Or.inl rfl) ?_
  intro p e s m args below meth c Q ls S hR hw hl
  have hl : lv_has ls 7 [(0, .ref (ead E 26)), (1, .int a1)] := hl
  unfold fX5_goesTo at hF
  refine lv_bipush (v := (-9)) S.1 S.2.1 dX5_goesTo_0 (by decide) ?_
  refine lv_istore_n (lv' := [(2, .int (-9)), (0, .ref (ead E 26)), (1, .int a1)]) S.1 S.2.1 dX5_goesTo_2 rfl hl (by decide) rfl (fun ls hl => ?_)
  refine lv_aload_n S.1 S.2.1 dX5_goesTo_3 rfl (lv_at hl 1 rfl) ?_
  refine gf_X5_138 S hw dX5_goesTo_4 ?_
  refine lv_iconst (v := 1) S.1 S.2.1 dX5_goesTo_7 (by decide) ?_
  refine lv_iadd S.1 S.2.1 dX5_goesTo_8 ?_
  refine lv_topi (fun v1 ev1 => ?_)
  replace hF := klb hF ev1
  refine lv_istore_n (lv' := [(3, .int v1), (2, .int (-9)), (0, .ref (ead E 26)), (1, .int a1)]) S.1 S.2.1 dX5_goesTo_9 rfl hl (by decide) rfl (fun ls hl => ?_)
  refine lv_iconst (v := 0) S.1 S.2.1 dX5_goesTo_10 (by decide) ?_
  refine lv_istore (lv' := [(4, .int 0), (3, .int v1), (2, .int (-9)), (0, .ref (ead E 26)), (1, .int a1)]) S.1 S.2.1 dX5_goesTo_11 hl (by decide) rfl (fun ls hl => ?_)
  exact wX5_goesTo_L13 S hR 1000 a1 (-9) v1 0 _ _ _ _ hF hw (lv_sub hl [3, 4, 2, 1, 0] rfl)
set_option maxRecDepth 100000 in
theorem kcX5_goesTo {p : Program} {l : Launch} {e : Env} {R : Room} {s : State} {m : MethodId} {args : Array Value} {below : List Frame} {meth : Method} {c : Code} {H : Heap} {locs : List Loc} {cells slots : Nat} {Q : State → Prop} {cc : ByteArray} {pc : Nat} {ls : Array Slot} {rest : List Value} {E : kE} {σ ω σ1 : kS} {nL index : Nat} {own : String} {r : Int32} (S : CallFix p m c cc nL s args kBIG own) (hw : kWS E s (cmb ω σ) H locs) (cw : kV own RX5 index yX5_goesTo cX5_goesTo 7 (some .int) 1) (hR : 3 + 1 ≤ R.frames ∧ 8 + (7 + 11) + 40 * 3 ≤ R.locals) {a1 : Int32}  (hF : fX5_goesTo a1 σ = some (r, σ1)) (hls : ls.size = nL) (hW : (rest.map fun v => v.category).sum ≤ 8) (hdg : decode cc pc = .ok (.invokevirtual index, 3)) (kk : ∀ (H1 : Heap) (locs1 : List Loc), kWS E s (cmb ω σ1) H1 locs1 → W p l e R s m args below meth c H1 locs1 cells slots Q (F0 m (pc + 3) ls (.int r :: rest))) (hf : cells ≤ R.cells ∧ slots ≤ R.slots := by exact ⟨Nat.le_of_ble_eq_true rfl, Nat.le_of_ble_eq_true rfl⟩) : W p l e R s m args below meth c H locs cells slots Q (F0 m pc ls (.int a1 :: .ref (ead E 26) :: rest)) := kr_calli (mc := 0) (y := yX5_goesTo) (b := cX5_goesTo) (n := 0) (lv := 0) (As := []) (ret := some .int) hw (kr_runV (As := [.int a1]) (q := 26) S hw ((mX5_goesTo (l := l) (E := E) (ω := ω) hF) H.size) cw hR rfl (by decide) rfl rfl hls _ rfl hW hdg hf) (fun H1 locs1 h _ => kk H1 locs1 h)
set_option maxHeartbeats 4000000 in
set_option maxRecDepth 100000 in
theorem mX5_ofPerson {l : Launch} {E : kE} {ω σ σ1 : kS} {r : Int32} {a1 : Int32} {a2 : Int32}  (hF : fX5_ofPerson a1 a2 σ = some (r, σ1)) : kMetI l yX5_ofPerson cX5_ofPerson 3 (some .int) 4 E [.ref (ead E 26), .int a1, .int a2] (cmb ω σ) r (cmb ω σ1) := by
  refine kMetI.of (by decide +kernel) (Nat.le_of_ble_eq_true rfl) (Or.inl rfl) ?_
  intro p e s m args below meth c Q ls S hR hw hl
  have hl : lv_has ls 3 [(0, .ref (ead E 26)), (1, .int a1), (2, .int a2)] := hl
  unfold fX5_ofPerson at hF
  refine lv_aload_n S.1 S.2.1 dX5_ofPerson_0 rfl (lv_at hl 0 rfl) ?_
  refine lv_iload_n S.1 S.2.1 dX5_ofPerson_1 rfl (lv_at hl 1 rfl) ?_
  obtain ⟨r3, σ2, e1, hF⟩ := kbi_e hF
  refine kcX5_noPerson S hw cv_X5_162 ⟨Nat.le_of_ble_eq_true rfl, Nat.le_of_ble_eq_true rfl⟩ e1 hl.1 (Nat.le_of_ble_eq_true rfl) dX5_ofPerson_2 (fun H locs hw hz4 => ?_)
  refine lv_if_eq (tgt := 10) S.1 S.2.1 dX5_ofPerson_5 (by decide) (fun c5 => ?_) (fun c5 => ?_)
  · replace hF := kit hF c5
    refine lv_iload_n S.1 S.2.1 dX5_ofPerson_10 rfl (lv_at hl 2 rfl) ?_
    by_cases c6 : a2 = 0
    · replace hF := kit hF c6
      refine lv_tableIn (tgt := 52) S.1 S.2.1 dX5_ofPerson_11 (by rw [c6]; decide) (by rw [c6]; decide) (by rw [c6]; rfl) (by decide) ?_
      refine lv_aload_n S.1 S.2.1 dX5_ofPerson_52 rfl (lv_at hl 0 rfl) ?_
      refine gf_X5_7 S hw dX5_ofPerson_53 ?_
      refine lv_iload_n S.1 S.2.1 dX5_ofPerson_56 rfl (lv_at hl 1 rfl) ?_
      obtain ⟨hb7, hF⟩ := kin hF
      refine km_iald (q := 1) S hw rfl (Nat.le_of_ble_eq_true rfl) hb7 dX5_ofPerson_57 ?_
      obtain ⟨rfl, rfl⟩ := kret hF
      exact hR _ _ _ _ dX5_ofPerson_58 hw (fun h => nomatch h)
    · replace hF := kif hF c6
      by_cases c8 : a2 = 1
      · replace hF := kit hF c8
        refine lv_tableIn (tgt := 59) S.1 S.2.1 dX5_ofPerson_11 (by rw [c8]; decide) (by rw [c8]; decide) (by rw [c8]; rfl) (by decide) ?_
        refine lv_aload_n S.1 S.2.1 dX5_ofPerson_59 rfl (lv_at hl 0 rfl) ?_
        refine gf_X5_13 S hw dX5_ofPerson_60 ?_
        refine lv_iload_n S.1 S.2.1 dX5_ofPerson_63 rfl (lv_at hl 1 rfl) ?_
        obtain ⟨hb9, hF⟩ := kin hF
        refine km_iald (q := 2) S hw rfl (Nat.le_of_ble_eq_true rfl) hb9 dX5_ofPerson_64 ?_
        obtain ⟨rfl, rfl⟩ := kret hF
        exact hR _ _ _ _ dX5_ofPerson_65 hw (fun h => nomatch h)
      · replace hF := kif hF c8
        by_cases c10 : a2 = 2
        · replace hF := kit hF c10
          refine lv_tableIn (tgt := 66) S.1 S.2.1 dX5_ofPerson_11 (by rw [c10]; decide) (by rw [c10]; decide) (by rw [c10]; rfl) (by decide) ?_
          refine lv_aload_n S.1 S.2.1 dX5_ofPerson_66 rfl (lv_at hl 0 rfl) ?_
          refine gf_X5_16 S hw dX5_ofPerson_67 ?_
          refine lv_iload_n S.1 S.2.1 dX5_ofPerson_70 rfl (lv_at hl 1 rfl) ?_
          obtain ⟨hb11, hF⟩ := kin hF
          refine km_iald (q := 3) S hw rfl (Nat.le_of_ble_eq_true rfl) hb11 dX5_ofPerson_71 ?_
          obtain ⟨rfl, rfl⟩ := kret hF
          exact hR _ _ _ _ dX5_ofPerson_72 hw (fun h => nomatch h)
        · replace hF := kif hF c10
          by_cases c12 : a2 = 3
          · replace hF := kit hF c12
            refine lv_tableIn (tgt := 73) S.1 S.2.1 dX5_ofPerson_11 (by rw [c12]; decide) (by rw [c12]; decide) (by rw [c12]; rfl) (by decide) ?_
            refine lv_aload_n S.1 S.2.1 dX5_ofPerson_73 rfl (lv_at hl 0 rfl) ?_
            refine gf_X5_19 S hw dX5_ofPerson_74 ?_
            refine lv_iload_n S.1 S.2.1 dX5_ofPerson_77 rfl (lv_at hl 1 rfl) ?_
            obtain ⟨hb13, hF⟩ := kin hF
            refine km_iald (q := 4) S hw rfl (Nat.le_of_ble_eq_true rfl) hb13 dX5_ofPerson_78 ?_
            obtain ⟨rfl, rfl⟩ := kret hF
            exact hR _ _ _ _ dX5_ofPerson_79 hw (fun h => nomatch h)
          · replace hF := kif hF c12
            by_cases c14 : a2 = 4
            · replace hF := kit hF c14
              refine lv_tableIn (tgt := 80) S.1 S.2.1 dX5_ofPerson_11 (by rw [c14]; decide) (by rw [c14]; decide) (by rw [c14]; rfl) (by decide) ?_
              refine lv_aload_n S.1 S.2.1 dX5_ofPerson_80 rfl (lv_at hl 0 rfl) ?_
              refine lv_iload_n S.1 S.2.1 dX5_ofPerson_81 rfl (lv_at hl 1 rfl) ?_
              obtain ⟨r17, σ16, e15, hF⟩ := kbi_e hF
              refine kcX5_scentOf S hw cv_X5_156 ⟨Nat.le_of_ble_eq_true rfl, Nat.le_of_ble_eq_true rfl⟩ e15 hl.1 (Nat.le_of_ble_eq_true rfl) dX5_ofPerson_82 (fun H locs hw => ?_)
              obtain ⟨rfl, rfl⟩ := kret hF
              exact hR _ _ _ _ dX5_ofPerson_85 hw (fun h => nomatch h)
            · replace hF := kif hF c14
              by_cases c18 : a2 = 5
              · replace hF := kit hF c18
                refine lv_tableIn (tgt := 86) S.1 S.2.1 dX5_ofPerson_11 (by rw [c18]; decide) (by rw [c18]; decide) (by rw [c18]; rfl) (by decide) ?_
                refine lv_aload_n S.1 S.2.1 dX5_ofPerson_86 rfl (lv_at hl 0 rfl) ?_
                refine lv_iload_n S.1 S.2.1 dX5_ofPerson_87 rfl (lv_at hl 1 rfl) ?_
                obtain ⟨r21, σ20, e19, hF⟩ := kbi_e hF
                refine kcX5_isSmelt S hw cv_X5_159 ⟨Nat.le_of_ble_eq_true rfl, Nat.le_of_ble_eq_true rfl⟩ e19 hl.1 (Nat.le_of_ble_eq_true rfl) dX5_ofPerson_88 (fun H locs hw hz22 => ?_)
                refine lv_if_eq (tgt := 98) S.1 S.2.1 dX5_ofPerson_91 (by decide) (fun c23 => ?_) (fun c23 => ?_)
                · replace hF := kit hF c23
                  refine lv_iconst (v := 0) S.1 S.2.1 dX5_ofPerson_98 (by decide) ?_
                  obtain ⟨rfl, rfl⟩ := kret hF
                  exact hR _ _ _ _ dX5_ofPerson_99 hw (fun h => nomatch h)
                · replace hF := kif hF c23
                  refine lv_iconst (v := 1) S.1 S.2.1 dX5_ofPerson_94 (by decide) ?_
                  refine lv_goto (tgt := 99) S.1 S.2.1 dX5_ofPerson_95 (by decide) ?_
                  obtain ⟨rfl, rfl⟩ := kret hF
                  exact hR _ _ _ _ dX5_ofPerson_99 hw (fun h => nomatch h)
              · replace hF := kif hF c18
                by_cases c24 : a2 = 6
                · replace hF := kit hF c24
                  refine lv_tableIn (tgt := 100) S.1 S.2.1 dX5_ofPerson_11 (by rw [c24]; decide) (by rw [c24]; decide) (by rw [c24]; rfl) (by decide) ?_
                  refine lv_aload_n S.1 S.2.1 dX5_ofPerson_100 rfl (lv_at hl 0 rfl) ?_
                  refine lv_iload_n S.1 S.2.1 dX5_ofPerson_101 rfl (lv_at hl 1 rfl) ?_
                  obtain ⟨r27, σ26, e25, hF⟩ := kbi_e hF
                  refine kcX5_goesTo S hw cv_X5_165 ⟨Nat.le_of_ble_eq_true rfl, Nat.le_of_ble_eq_true rfl⟩ e25 hl.1 (Nat.le_of_ble_eq_true rfl) dX5_ofPerson_102 (fun H locs hw => ?_)
                  obtain ⟨rfl, rfl⟩ := kret hF
                  exact hR _ _ _ _ dX5_ofPerson_105 hw (fun h => nomatch h)
                · replace hF := kif hF c24
                  refine lv_tableOut (tgt := 106) S.1 S.2.1 dX5_ofPerson_11 (ktab7 c6 c8 c10 c12 c14 c18 c24) (by decide) ?_
                  refine lv_bipush (v := (-2)) S.1 S.2.1 dX5_ofPerson_106 (by decide) ?_
                  obtain ⟨rfl, rfl⟩ := kret hF
                  exact hR _ _ _ _ dX5_ofPerson_108 hw (fun h => nomatch h)
  · replace hF := kif hF c5
    refine lv_iconst (v := (-1)) S.1 S.2.1 dX5_ofPerson_8 (by decide) ?_
    obtain ⟨rfl, rfl⟩ := kret hF
    exact hR _ _ _ _ dX5_ofPerson_9 hw (fun h => nomatch h)
set_option maxRecDepth 100000 in
theorem kcX5_ofPerson {p : Program} {l : Launch} {e : Env} {R : Room} {s : State} {m : MethodId} {args : Array Value} {below : List Frame} {meth : Method} {c : Code} {H : Heap} {locs : List Loc} {cells slots : Nat} {Q : State → Prop} {cc : ByteArray} {pc : Nat} {ls : Array Slot} {rest : List Value} {E : kE} {σ ω σ1 : kS} {nL index : Nat} {own : String} {r : Int32} (S : CallFix p m c cc nL s args kBIG own) (hw : kWS E s (cmb ω σ) H locs) (cw : kV own RX5 index yX5_ofPerson cX5_ofPerson 3 (some .int) 2) (hR : 4 + 1 ≤ R.frames ∧ 8 + (3 + 11) + 40 * 4 ≤ R.locals) {a1 : Int32} {a2 : Int32}  (hF : fX5_ofPerson a1 a2 σ = some (r, σ1)) (hls : ls.size = nL) (hW : (rest.map fun v => v.category).sum ≤ 8) (hdg : decode cc pc = .ok (.invokevirtual index, 3)) (kk : ∀ (H1 : Heap) (locs1 : List Loc), kWS E s (cmb ω σ1) H1 locs1 → W p l e R s m args below meth c H1 locs1 cells slots Q (F0 m (pc + 3) ls (.int r :: rest))) (hf : cells ≤ R.cells ∧ slots ≤ R.slots := by exact ⟨Nat.le_of_ble_eq_true rfl, Nat.le_of_ble_eq_true rfl⟩) : W p l e R s m args below meth c H locs cells slots Q (F0 m pc ls (.int a2 :: .int a1 :: .ref (ead E 26) :: rest)) := kr_calli (mc := 0) (y := yX5_ofPerson) (b := cX5_ofPerson) (n := 0) (lv := 0) (As := []) (ret := some .int) hw (kr_runV (As := [.int a1, .int a2]) (q := 26) S hw ((mX5_ofPerson (l := l) (E := E) (ω := ω) hF) H.size) cw hR rfl (by decide) rfl rfl hls _ rfl hW hdg hf) (fun H1 locs1 h _ => kk H1 locs1 h)
set_option maxHeartbeats 4000000 in
set_option maxRecDepth 100000 in
theorem mX5_post {l : Launch} {E : kE} {ω σ σ1 : kS} {r : Int32} {a1 : Int32}  (hF : fX5_post a1 σ = some (r, σ1)) : kMetI l yX5_post cX5_post 3 (some .int) 1 E [.ref (ead E 26), .int a1] (cmb ω σ) r (cmb ω σ1) := by
  refine kMetI.of (by decide +kernel) (Nat.le_of_ble_eq_true rfl) (Or.inl rfl) ?_
  intro p e s m args below meth c Q ls S hR hw hl
  have hl : lv_has ls 3 [(0, .ref (ead E 26)), (1, .int a1)] := hl
  unfold fX5_post at hF
  refine lv_aload_n S.1 S.2.1 dX5_post_0 rfl (lv_at hl 0 rfl) ?_
  refine gf_X5_80 S hw dX5_post_1 ?_
  refine lv_if_ne (tgt := 10) S.1 S.2.1 dX5_post_4 (by decide) (fun c1 => ?_) (fun c1 => ?_)
  · replace hF := kif hF c1
    refine lv_iload_n S.1 S.2.1 dX5_post_10 rfl (lv_at hl 1 rfl) ?_
    refine lv_i2l S.1 S.2.1 dX5_post_11 rfl ?_
    refine lv_lconst (v := 0) S.1 S.2.1 dX5_post_12 (by decide) ?_
    refine lv_ldc2 (v := 9) S.1 S.2.1 S.2.2.2.1 (S.2.2.2.2 _ q3_144) dX5_post_13 ?_
    obtain ⟨r4, σ3, e2, hF⟩ := kbi_e hF
    refine kcX5_in S hw cv_X5_83 ⟨Nat.le_of_ble_eq_true rfl, Nat.le_of_ble_eq_true rfl⟩ e2 hl.1 (Nat.le_of_ble_eq_true rfl) dX5_post_16 (fun H locs hw hz5 => ?_)
    refine lv_if_ne (tgt := 25) S.1 S.2.1 dX5_post_19 (by decide) (fun c6 => ?_) (fun c6 => ?_)
    · replace hF := kif hF c6
      refine lv_aload_n S.1 S.2.1 dX5_post_25 rfl (lv_at hl 0 rfl) ?_
      refine gf_X5_135 S hw dX5_post_26 ?_
      refine lv_topi (fun v7 ev7 => ?_)
      replace hF := klb hF ev7
      refine lv_istore_n (lv' := [(2, .int v7), (0, .ref (ead E 26)), (1, .int a1)]) S.1 S.2.1 dX5_post_29 rfl hl (by decide) rfl (fun ls hl => ?_)
      refine lv_aload_n S.1 S.2.1 dX5_post_30 rfl (lv_at hl 1 rfl) ?_
      refine lv_iload_n S.1 S.2.1 dX5_post_31 rfl (lv_at hl 2 rfl) ?_
      refine pf_X5_135 S hw dX5_post_32 (fun H locs hw => ?_)
      refine lv_iload_n S.1 S.2.1 dX5_post_35 rfl (lv_at hl 0 rfl) ?_
      obtain ⟨rfl, rfl⟩ := kret hF
      exact hR _ _ _ _ dX5_post_36 hw (fun h => nomatch h)
    · replace hF := kit hF c6
      refine lv_bipush (v := (-2)) S.1 S.2.1 dX5_post_22 (by decide) ?_
      obtain ⟨rfl, rfl⟩ := kret hF
      exact hR _ _ _ _ dX5_post_24 hw (fun h => nomatch h)
  · replace hF := kit hF c1
    refine lv_bipush (v := (-3)) S.1 S.2.1 dX5_post_7 (by decide) ?_
    obtain ⟨rfl, rfl⟩ := kret hF
    exact hR _ _ _ _ dX5_post_9 hw (fun h => nomatch h)
set_option maxRecDepth 100000 in
theorem kcX5_post {p : Program} {l : Launch} {e : Env} {R : Room} {s : State} {m : MethodId} {args : Array Value} {below : List Frame} {meth : Method} {c : Code} {H : Heap} {locs : List Loc} {cells slots : Nat} {Q : State → Prop} {cc : ByteArray} {pc : Nat} {ls : Array Slot} {rest : List Value} {E : kE} {σ ω σ1 : kS} {nL index : Nat} {own : String} {r : Int32} (S : CallFix p m c cc nL s args kBIG own) (hw : kWS E s (cmb ω σ) H locs) (cw : kV own RX5 index yX5_post cX5_post 3 (some .int) 1) (hR : 1 + 1 ≤ R.frames ∧ 8 + (3 + 11) + 40 * 1 ≤ R.locals) {a1 : Int32}  (hF : fX5_post a1 σ = some (r, σ1)) (hls : ls.size = nL) (hW : (rest.map fun v => v.category).sum ≤ 8) (hdg : decode cc pc = .ok (.invokevirtual index, 3)) (kk : ∀ (H1 : Heap) (locs1 : List Loc), kWS E s (cmb ω σ1) H1 locs1 → W p l e R s m args below meth c H1 locs1 cells slots Q (F0 m (pc + 3) ls (.int r :: rest))) (hf : cells ≤ R.cells ∧ slots ≤ R.slots := by exact ⟨Nat.le_of_ble_eq_true rfl, Nat.le_of_ble_eq_true rfl⟩) : W p l e R s m args below meth c H locs cells slots Q (F0 m pc ls (.int a1 :: .ref (ead E 26) :: rest)) := kr_calli (mc := 0) (y := yX5_post) (b := cX5_post) (n := 0) (lv := 0) (As := []) (ret := some .int) hw (kr_runV (As := [.int a1]) (q := 26) S hw ((mX5_post (l := l) (E := E) (ω := ω) hF) H.size) cw hR rfl (by decide) rfl rfl hls _ rfl hW hdg hf) (fun H1 locs1 h _ => kk H1 locs1 h)
set_option maxHeartbeats 4000000 in
set_option maxRecDepth 100000 in
theorem mX5_lax {l : Launch} {E : kE} {ω σ σ1 : kS} {r : Int32} {a1 : Int32}  (hF : fX5_lax a1 σ = some (r, σ1)) : kMetI l yX5_lax cX5_lax 3 (some .int) 1 E [.ref (ead E 26), .int a1] (cmb ω σ) r (cmb ω σ1) := by
  refine kMetI.of (by decide +kernel) (Nat.le_of_ble_eq_true rfl) (Or.inl rfl) ?_
  intro p e s m args below meth c Q ls S hR hw hl
  have hl : lv_has ls 3 [(0, .ref (ead E 26)), (1, .int a1)] := hl
  unfold fX5_lax at hF
  refine lv_aload_n S.1 S.2.1 dX5_lax_0 rfl (lv_at hl 0 rfl) ?_
  refine gf_X5_80 S hw dX5_lax_1 ?_
  refine lv_if_ne (tgt := 10) S.1 S.2.1 dX5_lax_4 (by decide) (fun c1 => ?_) (fun c1 => ?_)
  · replace hF := kif hF c1
    refine lv_iload_n S.1 S.2.1 dX5_lax_10 rfl (lv_at hl 1 rfl) ?_
    refine lv_i2l S.1 S.2.1 dX5_lax_11 rfl ?_
    refine lv_lconst (v := 0) S.1 S.2.1 dX5_lax_12 (by decide) ?_
    refine lv_ldc2 (v := 3) S.1 S.2.1 S.2.2.2.1 (S.2.2.2.2 _ q3_74) dX5_lax_13 ?_
    obtain ⟨r4, σ3, e2, hF⟩ := kbi_e hF
    refine kcX5_in S hw cv_X5_83 ⟨Nat.le_of_ble_eq_true rfl, Nat.le_of_ble_eq_true rfl⟩ e2 hl.1 (Nat.le_of_ble_eq_true rfl) dX5_lax_16 (fun H locs hw hz5 => ?_)
    refine lv_if_ne (tgt := 25) S.1 S.2.1 dX5_lax_19 (by decide) (fun c6 => ?_) (fun c6 => ?_)
    · replace hF := kif hF c6
      refine lv_aload_n S.1 S.2.1 dX5_lax_25 rfl (lv_at hl 0 rfl) ?_
      refine gf_X5_138 S hw dX5_lax_26 ?_
      refine lv_topi (fun v7 ev7 => ?_)
      replace hF := klb hF ev7
      refine lv_istore_n (lv' := [(2, .int v7), (0, .ref (ead E 26)), (1, .int a1)]) S.1 S.2.1 dX5_lax_29 rfl hl (by decide) rfl (fun ls hl => ?_)
      refine lv_aload_n S.1 S.2.1 dX5_lax_30 rfl (lv_at hl 1 rfl) ?_
      refine lv_iload_n S.1 S.2.1 dX5_lax_31 rfl (lv_at hl 2 rfl) ?_
      refine pf_X5_138 S hw dX5_lax_32 (fun H locs hw => ?_)
      refine lv_iload_n S.1 S.2.1 dX5_lax_35 rfl (lv_at hl 0 rfl) ?_
      obtain ⟨rfl, rfl⟩ := kret hF
      exact hR _ _ _ _ dX5_lax_36 hw (fun h => nomatch h)
    · replace hF := kit hF c6
      refine lv_bipush (v := (-2)) S.1 S.2.1 dX5_lax_22 (by decide) ?_
      obtain ⟨rfl, rfl⟩ := kret hF
      exact hR _ _ _ _ dX5_lax_24 hw (fun h => nomatch h)
  · replace hF := kit hF c1
    refine lv_bipush (v := (-3)) S.1 S.2.1 dX5_lax_7 (by decide) ?_
    obtain ⟨rfl, rfl⟩ := kret hF
    exact hR _ _ _ _ dX5_lax_9 hw (fun h => nomatch h)
set_option maxRecDepth 100000 in
theorem kcX5_lax {p : Program} {l : Launch} {e : Env} {R : Room} {s : State} {m : MethodId} {args : Array Value} {below : List Frame} {meth : Method} {c : Code} {H : Heap} {locs : List Loc} {cells slots : Nat} {Q : State → Prop} {cc : ByteArray} {pc : Nat} {ls : Array Slot} {rest : List Value} {E : kE} {σ ω σ1 : kS} {nL index : Nat} {own : String} {r : Int32} (S : CallFix p m c cc nL s args kBIG own) (hw : kWS E s (cmb ω σ) H locs) (cw : kV own RX5 index yX5_lax cX5_lax 3 (some .int) 1) (hR : 1 + 1 ≤ R.frames ∧ 8 + (3 + 11) + 40 * 1 ≤ R.locals) {a1 : Int32}  (hF : fX5_lax a1 σ = some (r, σ1)) (hls : ls.size = nL) (hW : (rest.map fun v => v.category).sum ≤ 8) (hdg : decode cc pc = .ok (.invokevirtual index, 3)) (kk : ∀ (H1 : Heap) (locs1 : List Loc), kWS E s (cmb ω σ1) H1 locs1 → W p l e R s m args below meth c H1 locs1 cells slots Q (F0 m (pc + 3) ls (.int r :: rest))) (hf : cells ≤ R.cells ∧ slots ≤ R.slots := by exact ⟨Nat.le_of_ble_eq_true rfl, Nat.le_of_ble_eq_true rfl⟩) : W p l e R s m args below meth c H locs cells slots Q (F0 m pc ls (.int a1 :: .ref (ead E 26) :: rest)) := kr_calli (mc := 0) (y := yX5_lax) (b := cX5_lax) (n := 0) (lv := 0) (As := []) (ret := some .int) hw (kr_runV (As := [.int a1]) (q := 26) S hw ((mX5_lax (l := l) (E := E) (ω := ω) hF) H.size) cw hR rfl (by decide) rfl rfl hls _ rfl hW hdg hf) (fun H1 locs1 h _ => kk H1 locs1 h)
set_option maxHeartbeats 4000000 in
set_option maxRecDepth 100000 in
theorem mX5_bathe {l : Launch} {E : kE} {ω σ σ1 : kS} {r : Int32} {a1 : Int32} {a2 : Int32}  (hF : fX5_bathe a1 a2 σ = some (r, σ1)) : kMetI l yX5_bathe cX5_bathe 4 (some .int) 2 E [.ref (ead E 26), .int a1, .int a2] (cmb ω σ) r (cmb ω σ1) := by
  refine kMetI.of (by decide +kernel) (Nat.le_of_ble_eq_true rfl) (Or.inl rfl) ?_
  intro p e s m args below meth c Q ls S hR hw hl
  have hl : lv_has ls 4 [(0, .ref (ead E 26)), (1, .int a1), (2, .int a2)] := hl
  unfold fX5_bathe at hF
  refine lv_aload_n S.1 S.2.1 dX5_bathe_0 rfl (lv_at hl 0 rfl) ?_
  refine lv_iload_n S.1 S.2.1 dX5_bathe_1 rfl (lv_at hl 1 rfl) ?_
  obtain ⟨r3, σ2, e1, hF⟩ := kbi_e hF
  refine kcX5_noPerson S hw cv_X5_162 ⟨Nat.le_of_ble_eq_true rfl, Nat.le_of_ble_eq_true rfl⟩ e1 hl.1 (Nat.le_of_ble_eq_true rfl) dX5_bathe_2 (fun H locs hw hz4 => ?_)
  refine lv_if_eq (tgt := 10) S.1 S.2.1 dX5_bathe_5 (by decide) (fun c5 => ?_) (fun c5 => ?_)
  · replace hF := kit hF c5
    refine lv_iload_n S.1 S.2.1 dX5_bathe_10 rfl (lv_at hl 2 rfl) ?_
    refine lv_i2l S.1 S.2.1 dX5_bathe_11 rfl ?_
    refine lv_lconst (v := 0) S.1 S.2.1 dX5_bathe_12 (by decide) ?_
    refine lv_ldc2 (v := 7) S.1 S.2.1 S.2.2.2.1 (S.2.2.2.2 _ q3_153) dX5_bathe_13 ?_
    obtain ⟨r8, σ7, e6, hF⟩ := kbi_e hF
    refine kcX5_in S hw cv_X5_83 ⟨Nat.le_of_ble_eq_true rfl, Nat.le_of_ble_eq_true rfl⟩ e6 hl.1 (Nat.le_of_ble_eq_true rfl) dX5_bathe_16 (fun H locs hw hz9 => ?_)
    refine lv_if_ne (tgt := 25) S.1 S.2.1 dX5_bathe_19 (by decide) (fun c10 => ?_) (fun c10 => ?_)
    · replace hF := kif hF c10
      refine lv_aload_n S.1 S.2.1 dX5_bathe_25 rfl (lv_at hl 0 rfl) ?_
      refine gf_X5_13 S hw dX5_bathe_26 ?_
      refine lv_iload_n S.1 S.2.1 dX5_bathe_29 rfl (lv_at hl 1 rfl) ?_
      obtain ⟨hb11, hF⟩ := kin hF
      refine km_iald (q := 2) S hw rfl (Nat.le_of_ble_eq_true rfl) hb11 dX5_bathe_30 ?_
      refine lv_topi (fun v12 ev12 => ?_)
      replace hF := klb hF ev12
      refine lv_istore_n (lv' := [(3, .int v12), (0, .ref (ead E 26)), (1, .int a1), (2, .int a2)]) S.1 S.2.1 dX5_bathe_31 rfl hl (by decide) rfl (fun ls hl => ?_)
      refine lv_aload_n S.1 S.2.1 dX5_bathe_32 rfl (lv_at hl 1 rfl) ?_
      refine gf_X5_13 S hw dX5_bathe_33 ?_
      refine lv_iload_n S.1 S.2.1 dX5_bathe_36 rfl (lv_at hl 2 rfl) ?_
      refine lv_iload_n S.1 S.2.1 dX5_bathe_37 rfl (lv_at hl 3 rfl) ?_
      obtain ⟨hb13, hF⟩ := kin hF
      refine km_iast (q := 2) S hw rfl (Nat.le_of_ble_eq_true rfl) hb13 dX5_bathe_38 (fun H locs hw => ?_)
      refine lv_iload_n S.1 S.2.1 dX5_bathe_39 rfl (lv_at hl 0 rfl) ?_
      obtain ⟨rfl, rfl⟩ := kret hF
      exact hR _ _ _ _ dX5_bathe_40 hw (fun h => nomatch h)
    · replace hF := kit hF c10
      refine lv_bipush (v := (-2)) S.1 S.2.1 dX5_bathe_22 (by decide) ?_
      obtain ⟨rfl, rfl⟩ := kret hF
      exact hR _ _ _ _ dX5_bathe_24 hw (fun h => nomatch h)
  · replace hF := kif hF c5
    refine lv_iconst (v := (-1)) S.1 S.2.1 dX5_bathe_8 (by decide) ?_
    obtain ⟨rfl, rfl⟩ := kret hF
    exact hR _ _ _ _ dX5_bathe_9 hw (fun h => nomatch h)
set_option maxRecDepth 100000 in
theorem kcX5_bathe {p : Program} {l : Launch} {e : Env} {R : Room} {s : State} {m : MethodId} {args : Array Value} {below : List Frame} {meth : Method} {c : Code} {H : Heap} {locs : List Loc} {cells slots : Nat} {Q : State → Prop} {cc : ByteArray} {pc : Nat} {ls : Array Slot} {rest : List Value} {E : kE} {σ ω σ1 : kS} {nL index : Nat} {own : String} {r : Int32} (S : CallFix p m c cc nL s args kBIG own) (hw : kWS E s (cmb ω σ) H locs) (cw : kV own RX5 index yX5_bathe cX5_bathe 4 (some .int) 2) (hR : 2 + 1 ≤ R.frames ∧ 8 + (4 + 11) + 40 * 2 ≤ R.locals) {a1 : Int32} {a2 : Int32}  (hF : fX5_bathe a1 a2 σ = some (r, σ1)) (hls : ls.size = nL) (hW : (rest.map fun v => v.category).sum ≤ 8) (hdg : decode cc pc = .ok (.invokevirtual index, 3)) (kk : ∀ (H1 : Heap) (locs1 : List Loc), kWS E s (cmb ω σ1) H1 locs1 → W p l e R s m args below meth c H1 locs1 cells slots Q (F0 m (pc + 3) ls (.int r :: rest))) (hf : cells ≤ R.cells ∧ slots ≤ R.slots := by exact ⟨Nat.le_of_ble_eq_true rfl, Nat.le_of_ble_eq_true rfl⟩) : W p l e R s m args below meth c H locs cells slots Q (F0 m pc ls (.int a2 :: .int a1 :: .ref (ead E 26) :: rest)) := kr_calli (mc := 0) (y := yX5_bathe) (b := cX5_bathe) (n := 0) (lv := 0) (As := []) (ret := some .int) hw (kr_runV (As := [.int a1, .int a2]) (q := 26) S hw ((mX5_bathe (l := l) (E := E) (ω := ω) hF) H.size) cw hR rfl (by decide) rfl rfl hls _ rfl hW hdg hf) (fun H1 locs1 h _ => kk H1 locs1 h)
set_option maxHeartbeats 4000000 in
set_option maxRecDepth 100000 in
theorem mX5_moves {l : Launch} {E : kE} {ω σ σ1 : kS} {r : Int32} {a1 : Int32} {a2 : Int32}  (hF : fX5_moves a1 a2 σ = some (r, σ1)) : kMetI l yX5_moves cX5_moves 4 (some .int) 2 E [.ref (ead E 26), .int a1, .int a2] (cmb ω σ) r (cmb ω σ1) := by
  refine kMetI.of (by decide +kernel) (Nat.le_of_ble_eq_true rfl) (Or.inl rfl) ?_
  intro p e s m args below meth c Q ls S hR hw hl
  have hl : lv_has ls 4 [(0, .ref (ead E 26)), (1, .int a1), (2, .int a2)] := hl
  unfold fX5_moves at hF
  refine lv_aload_n S.1 S.2.1 dX5_moves_0 rfl (lv_at hl 0 rfl) ?_
  refine lv_iload_n S.1 S.2.1 dX5_moves_1 rfl (lv_at hl 1 rfl) ?_
  obtain ⟨r3, σ2, e1, hF⟩ := kbi_e hF
  refine kcX5_noPerson S hw cv_X5_162 ⟨Nat.le_of_ble_eq_true rfl, Nat.le_of_ble_eq_true rfl⟩ e1 hl.1 (Nat.le_of_ble_eq_true rfl) dX5_moves_2 (fun H locs hw hz4 => ?_)
  refine lv_if_eq (tgt := 10) S.1 S.2.1 dX5_moves_5 (by decide) (fun c5 => ?_) (fun c5 => ?_)
  · replace hF := kit hF c5
    refine lv_iload_n S.1 S.2.1 dX5_moves_10 rfl (lv_at hl 2 rfl) ?_
    refine lv_i2l S.1 S.2.1 dX5_moves_11 rfl ?_
    refine lv_lconst (v := 0) S.1 S.2.1 dX5_moves_12 (by decide) ?_
    refine lv_ldc2 (v := 9) S.1 S.2.1 S.2.2.2.1 (S.2.2.2.2 _ q3_144) dX5_moves_13 ?_
    obtain ⟨r8, σ7, e6, hF⟩ := kbi_e hF
    refine kcX5_in S hw cv_X5_83 ⟨Nat.le_of_ble_eq_true rfl, Nat.le_of_ble_eq_true rfl⟩ e6 hl.1 (Nat.le_of_ble_eq_true rfl) dX5_moves_16 (fun H locs hw hz9 => ?_)
    refine lv_if_ne (tgt := 25) S.1 S.2.1 dX5_moves_19 (by decide) (fun c10 => ?_) (fun c10 => ?_)
    · replace hF := kif hF c10
      refine lv_aload_n S.1 S.2.1 dX5_moves_25 rfl (lv_at hl 0 rfl) ?_
      refine gf_X5_19 S hw dX5_moves_26 ?_
      refine lv_iload_n S.1 S.2.1 dX5_moves_29 rfl (lv_at hl 1 rfl) ?_
      obtain ⟨hb11, hF⟩ := kin hF
      refine km_iald (q := 4) S hw rfl (Nat.le_of_ble_eq_true rfl) hb11 dX5_moves_30 ?_
      refine lv_topi (fun v12 ev12 => ?_)
      replace hF := klb hF ev12
      refine lv_istore_n (lv' := [(3, .int v12), (0, .ref (ead E 26)), (1, .int a1), (2, .int a2)]) S.1 S.2.1 dX5_moves_31 rfl hl (by decide) rfl (fun ls hl => ?_)
      refine lv_aload_n S.1 S.2.1 dX5_moves_32 rfl (lv_at hl 1 rfl) ?_
      refine gf_X5_19 S hw dX5_moves_33 ?_
      refine lv_iload_n S.1 S.2.1 dX5_moves_36 rfl (lv_at hl 2 rfl) ?_
      refine lv_iload_n S.1 S.2.1 dX5_moves_37 rfl (lv_at hl 3 rfl) ?_
      obtain ⟨hb13, hF⟩ := kin hF
      refine km_iast (q := 4) S hw rfl (Nat.le_of_ble_eq_true rfl) hb13 dX5_moves_38 (fun H locs hw => ?_)
      refine lv_iload_n S.1 S.2.1 dX5_moves_39 rfl (lv_at hl 0 rfl) ?_
      obtain ⟨rfl, rfl⟩ := kret hF
      exact hR _ _ _ _ dX5_moves_40 hw (fun h => nomatch h)
    · replace hF := kit hF c10
      refine lv_bipush (v := (-2)) S.1 S.2.1 dX5_moves_22 (by decide) ?_
      obtain ⟨rfl, rfl⟩ := kret hF
      exact hR _ _ _ _ dX5_moves_24 hw (fun h => nomatch h)
  · replace hF := kif hF c5
    refine lv_iconst (v := (-1)) S.1 S.2.1 dX5_moves_8 (by decide) ?_
    obtain ⟨rfl, rfl⟩ := kret hF
    exact hR _ _ _ _ dX5_moves_9 hw (fun h => nomatch h)
set_option maxRecDepth 100000 in
theorem kcX5_moves {p : Program} {l : Launch} {e : Env} {R : Room} {s : State} {m : MethodId} {args : Array Value} {below : List Frame} {meth : Method} {c : Code} {H : Heap} {locs : List Loc} {cells slots : Nat} {Q : State → Prop} {cc : ByteArray} {pc : Nat} {ls : Array Slot} {rest : List Value} {E : kE} {σ ω σ1 : kS} {nL index : Nat} {own : String} {r : Int32} (S : CallFix p m c cc nL s args kBIG own) (hw : kWS E s (cmb ω σ) H locs) (cw : kV own RX5 index yX5_moves cX5_moves 4 (some .int) 2) (hR : 2 + 1 ≤ R.frames ∧ 8 + (4 + 11) + 40 * 2 ≤ R.locals) {a1 : Int32} {a2 : Int32}  (hF : fX5_moves a1 a2 σ = some (r, σ1)) (hls : ls.size = nL) (hW : (rest.map fun v => v.category).sum ≤ 8) (hdg : decode cc pc = .ok (.invokevirtual index, 3)) (kk : ∀ (H1 : Heap) (locs1 : List Loc), kWS E s (cmb ω σ1) H1 locs1 → W p l e R s m args below meth c H1 locs1 cells slots Q (F0 m (pc + 3) ls (.int r :: rest))) (hf : cells ≤ R.cells ∧ slots ≤ R.slots := by exact ⟨Nat.le_of_ble_eq_true rfl, Nat.le_of_ble_eq_true rfl⟩) : W p l e R s m args below meth c H locs cells slots Q (F0 m pc ls (.int a2 :: .int a1 :: .ref (ead E 26) :: rest)) := kr_calli (mc := 0) (y := yX5_moves) (b := cX5_moves) (n := 0) (lv := 0) (As := []) (ret := some .int) hw (kr_runV (As := [.int a1, .int a2]) (q := 26) S hw ((mX5_moves (l := l) (E := E) (ω := ω) hF) H.size) cw hR rfl (by decide) rfl rfl hls _ rfl hW hdg hf) (fun H1 locs1 h _ => kk H1 locs1 h)
set_option maxHeartbeats 4000000 in
set_option maxRecDepth 100000 in
theorem mX5_sent {l : Launch} {E : kE} {ω σ σ1 : kS} {r : Int32} {a1 : Int32}  (hF : fX5_sent a1 σ = some (r, σ1)) : kMetI l yX5_sent cX5_sent 3 (some .int) 4 E [.ref (ead E 26), .int a1] (cmb ω σ) r (cmb ω σ1) := by
  refine kMetI.of (by decide +kernel) (Nat.le_of_ble_eq_true rfl) (Or.inl rfl) ?_
  intro p e s m args below meth c Q ls S hR hw hl
  have hl : lv_has ls 3 [(0, .ref (ead E 26)), (1, .int a1)] := hl
  unfold fX5_sent at hF
  refine lv_aload_n S.1 S.2.1 dX5_sent_0 rfl (lv_at hl 0 rfl) ?_
  refine lv_iload_n S.1 S.2.1 dX5_sent_1 rfl (lv_at hl 1 rfl) ?_
  obtain ⟨r3, σ2, e1, hF⟩ := kbi_e hF
  refine kcX5_goesTo S hw cv_X5_165 ⟨Nat.le_of_ble_eq_true rfl, Nat.le_of_ble_eq_true rfl⟩ e1 hl.1 (Nat.le_of_ble_eq_true rfl) dX5_sent_2 (fun H locs hw => ?_)
  refine lv_istore_n (lv' := [(2, .int r3), (0, .ref (ead E 26)), (1, .int a1)]) S.1 S.2.1 dX5_sent_5 rfl hl (by decide) rfl (fun ls hl => ?_)
  refine lv_iload_n S.1 S.2.1 dX5_sent_6 rfl (lv_at hl 0 rfl) ?_
  refine lv_if_lt (tgt := 22) S.1 S.2.1 dX5_sent_7 (by decide) (fun c4 => ?_) (fun c4 => ?_)
  · replace hF := kit hF c4
    refine lv_iload_n S.1 S.2.1 dX5_sent_22 rfl (lv_at hl 0 rfl) ?_
    obtain ⟨rfl, rfl⟩ := kret hF
    exact hR _ _ _ _ dX5_sent_23 hw (fun h => nomatch h)
  · replace hF := kif hF c4
    refine lv_aload_n S.1 S.2.1 dX5_sent_10 rfl (lv_at hl 1 rfl) ?_
    refine gf_X5_16 S hw dX5_sent_11 ?_
    refine lv_iload_n S.1 S.2.1 dX5_sent_14 rfl (lv_at hl 0 rfl) ?_
    refine lv_aload_n S.1 S.2.1 dX5_sent_15 rfl (lv_at hl 1 rfl) ?_
    refine gf_X5_13 S hw dX5_sent_16 ?_
    refine lv_iload_n S.1 S.2.1 dX5_sent_19 rfl (lv_at hl 0 rfl) ?_
    obtain ⟨hb5, hF⟩ := kin hF
    refine km_iald (q := 2) S hw rfl (Nat.le_of_ble_eq_true rfl) hb5 dX5_sent_20 ?_
    obtain ⟨hb6, hF⟩ := kin hF
    refine km_iast (q := 3) S hw rfl (Nat.le_of_ble_eq_true rfl) hb6 dX5_sent_21 (fun H locs hw => ?_)
    refine lv_iload_n S.1 S.2.1 dX5_sent_22 rfl (lv_at hl 0 rfl) ?_
    obtain ⟨rfl, rfl⟩ := kret hF
    exact hR _ _ _ _ dX5_sent_23 hw (fun h => nomatch h)
set_option maxRecDepth 100000 in
theorem kcX5_sent {p : Program} {l : Launch} {e : Env} {R : Room} {s : State} {m : MethodId} {args : Array Value} {below : List Frame} {meth : Method} {c : Code} {H : Heap} {locs : List Loc} {cells slots : Nat} {Q : State → Prop} {cc : ByteArray} {pc : Nat} {ls : Array Slot} {rest : List Value} {E : kE} {σ ω σ1 : kS} {nL index : Nat} {own : String} {r : Int32} (S : CallFix p m c cc nL s args kBIG own) (hw : kWS E s (cmb ω σ) H locs) (cw : kV own RX5 index yX5_sent cX5_sent 3 (some .int) 1) (hR : 4 + 1 ≤ R.frames ∧ 8 + (3 + 11) + 40 * 4 ≤ R.locals) {a1 : Int32}  (hF : fX5_sent a1 σ = some (r, σ1)) (hls : ls.size = nL) (hW : (rest.map fun v => v.category).sum ≤ 8) (hdg : decode cc pc = .ok (.invokevirtual index, 3)) (kk : ∀ (H1 : Heap) (locs1 : List Loc), kWS E s (cmb ω σ1) H1 locs1 → W p l e R s m args below meth c H1 locs1 cells slots Q (F0 m (pc + 3) ls (.int r :: rest))) (hf : cells ≤ R.cells ∧ slots ≤ R.slots := by exact ⟨Nat.le_of_ble_eq_true rfl, Nat.le_of_ble_eq_true rfl⟩) : W p l e R s m args below meth c H locs cells slots Q (F0 m pc ls (.int a1 :: .ref (ead E 26) :: rest)) := kr_calli (mc := 0) (y := yX5_sent) (b := cX5_sent) (n := 0) (lv := 0) (As := []) (ret := some .int) hw (kr_runV (As := [.int a1]) (q := 26) S hw ((mX5_sent (l := l) (E := E) (ω := ω) hF) H.size) cw hR rfl (by decide) rfl rfl hls _ rfl hW hdg hf) (fun H1 locs1 h _ => kk H1 locs1 h)
set_option maxHeartbeats 4000000 in
set_option maxRecDepth 100000 in
theorem mX5_send {l : Launch} {E : kE} {ω σ σ1 : kS} {r : Int32} {a1 : Int32}  (hF : fX5_send a1 σ = some (r, σ1)) : kMetI l yX5_send cX5_send 2 (some .int) 5 E [.ref (ead E 26), .int a1] (cmb ω σ) r (cmb ω σ1) := by
  refine kMetI.of (by decide +kernel) (Nat.le_of_ble_eq_true rfl) (Or.inl rfl) ?_
  intro p e s m args below meth c Q ls S hR hw hl
  have hl : lv_has ls 2 [(0, .ref (ead E 26)), (1, .int a1)] := hl
  unfold fX5_send at hF
  refine lv_aload_n S.1 S.2.1 dX5_send_0 rfl (lv_at hl 0 rfl) ?_
  refine lv_iload_n S.1 S.2.1 dX5_send_1 rfl (lv_at hl 1 rfl) ?_
  obtain ⟨r3, σ2, e1, hF⟩ := kbi_e hF
  refine kcX5_noPerson S hw cv_X5_162 ⟨Nat.le_of_ble_eq_true rfl, Nat.le_of_ble_eq_true rfl⟩ e1 hl.1 (Nat.le_of_ble_eq_true rfl) dX5_send_2 (fun H locs hw hz4 => ?_)
  refine lv_if_eq (tgt := 10) S.1 S.2.1 dX5_send_5 (by decide) (fun c5 => ?_) (fun c5 => ?_)
  · replace hF := kit hF c5
    refine lv_aload_n S.1 S.2.1 dX5_send_10 rfl (lv_at hl 0 rfl) ?_
    refine lv_dup S.1 S.2.1 dX5_send_11 rfl ?_
    refine gf_X5_141 S hw dX5_send_12 ?_
    refine lv_iconst (v := 1) S.1 S.2.1 dX5_send_15 (by decide) ?_
    refine lv_iadd S.1 S.2.1 dX5_send_16 ?_
    refine pf_X5_141 S hw dX5_send_17 (fun H locs hw => ?_)
    refine lv_aload_n S.1 S.2.1 dX5_send_20 rfl (lv_at hl 0 rfl) ?_
    refine lv_iload_n S.1 S.2.1 dX5_send_21 rfl (lv_at hl 1 rfl) ?_
    obtain ⟨r8, σ7, e6, hF⟩ := kbi_e hF
    refine kcX5_sent S hw cv_X5_174 ⟨Nat.le_of_ble_eq_true rfl, Nat.le_of_ble_eq_true rfl⟩ e6 hl.1 (Nat.le_of_ble_eq_true rfl) dX5_send_22 (fun H locs hw => ?_)
    obtain ⟨rfl, rfl⟩ := kret hF
    exact hR _ _ _ _ dX5_send_25 hw (fun h => nomatch h)
  · replace hF := kif hF c5
    refine lv_iconst (v := (-1)) S.1 S.2.1 dX5_send_8 (by decide) ?_
    obtain ⟨rfl, rfl⟩ := kret hF
    exact hR _ _ _ _ dX5_send_9 hw (fun h => nomatch h)
set_option maxRecDepth 100000 in
theorem kcX5_send {p : Program} {l : Launch} {e : Env} {R : Room} {s : State} {m : MethodId} {args : Array Value} {below : List Frame} {meth : Method} {c : Code} {H : Heap} {locs : List Loc} {cells slots : Nat} {Q : State → Prop} {cc : ByteArray} {pc : Nat} {ls : Array Slot} {rest : List Value} {E : kE} {σ ω σ1 : kS} {nL index : Nat} {own : String} {r : Int32} (S : CallFix p m c cc nL s args kBIG own) (hw : kWS E s (cmb ω σ) H locs) (cw : kV own RX5 index yX5_send cX5_send 2 (some .int) 1) (hR : 5 + 1 ≤ R.frames ∧ 8 + (2 + 11) + 40 * 5 ≤ R.locals) {a1 : Int32}  (hF : fX5_send a1 σ = some (r, σ1)) (hls : ls.size = nL) (hW : (rest.map fun v => v.category).sum ≤ 8) (hdg : decode cc pc = .ok (.invokevirtual index, 3)) (kk : ∀ (H1 : Heap) (locs1 : List Loc), kWS E s (cmb ω σ1) H1 locs1 → W p l e R s m args below meth c H1 locs1 cells slots Q (F0 m (pc + 3) ls (.int r :: rest))) (hf : cells ≤ R.cells ∧ slots ≤ R.slots := by exact ⟨Nat.le_of_ble_eq_true rfl, Nat.le_of_ble_eq_true rfl⟩) : W p l e R s m args below meth c H locs cells slots Q (F0 m pc ls (.int a1 :: .ref (ead E 26) :: rest)) := kr_calli (mc := 0) (y := yX5_send) (b := cX5_send) (n := 0) (lv := 0) (As := []) (ret := some .int) hw (kr_runV (As := [.int a1]) (q := 26) S hw ((mX5_send (l := l) (E := E) (ω := ω) hF) H.size) cw hR rfl (by decide) rfl rfl hls _ rfl hW hdg hf) (fun H1 locs1 h _ => kk H1 locs1 h)
set_option maxHeartbeats 4000000 in
set_option maxRecDepth 100000 in
theorem wX5_comes_J63 {p : Program} {l : Launch} {e : Env} {s : State} {m : MethodId} {args : Array Value} {below : List Frame} {meth : Method} {c : Code} {Q : State → Prop} {E : kE} {ω σ1 : kS} {r : Int32} (S : CallFix p m c cX5_comes 6 s args kBIG RX5) (hR : kRetI p l e (rml 4) s m args below meth c cX5_comes E Q (some .int) r (cmb ω σ1)) {k30 : Int32 → Int32 → Int32 → Int32 → kS → Option (Int32 × kS)} (hk30 : ∀ (a1 : Int32) (a2 : Int32) (a3 : Int32) (a4 : Int32) (σ : kS) (H : Heap) (locs : List Loc) (ls : Array Slot), k30 a1 a2 a3 a4 σ = some (r, σ1) → kWS E s (cmb ω σ) H locs → lv_has ls 6 [(0, .ref (ead E 26)), (1, .int a1), (2, .int a2), (3, .int a3), (4, .int a4)] → W p l e (rml 4) s m args below meth c H locs 0 0 Q (F0 m 30 ls [])) : ∀ (a1 : Int32) (a3 : Int32) (a4 : Int32) (a5 : Int32) (as1 : Int32) (as0 : Int32) (σ : kS) (H : Heap) (locs : List Loc) (ls : Array Slot), fX5_comes_J63 k30 a1 a3 a4 a5 as1 as0 σ = some (r, σ1) → kWS E s (cmb ω σ) H locs → lv_has ls 6 [(0, .ref (ead E 26)), (1, .int a1), (3, .int a3), (4, .int a4), (5, .int a5)] → W p l e (rml 4) s m args below meth c H locs 0 0 Q (F0 m 63 ls [.int as1, .int as0]) := by
  intro a1 a3 a4 a5 as1 as0 σ H locs ls hF hw hl
  unfold fX5_comes_J63 at hF
  refine lv_ior S.1 S.2.1 dX5_comes_63 ?_
  refine lv_topi (fun v13 ev13 => ?_)
  replace hF := klb hF ev13
  refine lv_istore_n (lv' := [(2, .int v13), (0, .ref (ead E 26)), (1, .int a1), (3, .int a3), (4, .int a4), (5, .int a5)]) S.1 S.2.1 dX5_comes_64 rfl hl (by decide) rfl (fun ls hl => ?_)
  refine lv_iload_n S.1 S.2.1 dX5_comes_65 rfl (lv_at hl 3 rfl) ?_
  refine lv_iload S.1 S.2.1 dX5_comes_66 (lv_at hl 5 rfl) ?_
  refine lv_if_ge (tgt := 75) S.1 S.2.1 dX5_comes_68 (by decide) (fun c14 => ?_) (fun c14 => ?_)
  · replace hF := kit hF c14
    refine lv_iconst (v := 1) S.1 S.2.1 dX5_comes_75 (by decide) ?_
    refine lv_iload S.1 S.2.1 dX5_comes_76 (lv_at hl 5 rfl) ?_
    refine lv_ishl S.1 S.2.1 dX5_comes_78 ?_
    refine lv_ior S.1 S.2.1 dX5_comes_79 ?_
    refine lv_topi (fun v15 ev15 => ?_)
    replace hF := klb hF ev15
    refine lv_istore_n (lv' := [(3, .int v15), (2, .int v13), (0, .ref (ead E 26)), (1, .int a1), (4, .int a4), (5, .int a5)]) S.1 S.2.1 dX5_comes_80 rfl hl (by decide) rfl (fun ls hl => ?_)
    obtain ⟨v16, ev16⟩ : ∃ y : Int32, y = a4 + 1 := ⟨_, rfl⟩
    replace hF := klb hF ev16
    refine lv_iinc (v := v16) (lv' := [(4, .int v16), (3, .int v15), (2, .int v13), (0, .ref (ead E 26)), (1, .int a1), (5, .int a5)]) S.1 S.2.1 dX5_comes_81 hl (k := 4) rfl (by rw [ev16]; rfl) (by decide) rfl (fun ls hl => ?_)
    refine lv_goto (tgt := 30) S.1 S.2.1 dX5_comes_84 (by decide) ?_
    exact hk30 a1 v13 v15 v16 _ _ _ _ hF hw (lv_sub hl [3, 4, 2, 1, 0] rfl)
  · replace hF := kif hF c14
    refine lv_iconst (v := 0) S.1 S.2.1 dX5_comes_71 (by decide) ?_
    refine lv_goto (tgt := 79) S.1 S.2.1 dX5_comes_72 (by decide) ?_
    refine lv_ior S.1 S.2.1 dX5_comes_79 ?_
    refine lv_topi (fun v17 ev17 => ?_)
    replace hF := klb hF ev17
    refine lv_istore_n (lv' := [(3, .int v17), (2, .int v13), (0, .ref (ead E 26)), (1, .int a1), (4, .int a4), (5, .int a5)]) S.1 S.2.1 dX5_comes_80 rfl hl (by decide) rfl (fun ls hl => ?_)
    obtain ⟨v18, ev18⟩ : ∃ y : Int32, y = a4 + 1 := ⟨_, rfl⟩
    replace hF := klb hF ev18
    refine lv_iinc (v := v18) (lv' := [(4, .int v18), (3, .int v17), (2, .int v13), (0, .ref (ead E 26)), (1, .int a1), (5, .int a5)]) S.1 S.2.1 dX5_comes_81 hl (k := 4) rfl (by rw [ev18]; rfl) (by decide) rfl (fun ls hl => ?_)
    refine lv_goto (tgt := 30) S.1 S.2.1 dX5_comes_84 (by decide) ?_
    exact hk30 a1 v13 v17 v18 _ _ _ _ hF hw (lv_sub hl [3, 4, 2, 1, 0] rfl)
set_option maxHeartbeats 4000000 in
set_option maxRecDepth 100000 in
theorem wX5_comes_L30 {p : Program} {l : Launch} {e : Env} {s : State} {m : MethodId} {args : Array Value} {below : List Frame} {meth : Method} {c : Code} {Q : State → Prop} {E : kE} {ω σ1 : kS} {r : Int32} (S : CallFix p m c cX5_comes 6 s args kBIG RX5) (hR : kRetI p l e (rml 4) s m args below meth c cX5_comes E Q (some .int) r (cmb ω σ1))  : ∀ (n : Nat), ∀ (a1 : Int32) (a2 : Int32) (a3 : Int32) (a4 : Int32) (σ : kS) (H : Heap) (locs : List Loc) (ls : Array Slot), fX5_comes_L30 n a1 a2 a3 a4 σ = some (r, σ1) → kWS E s (cmb ω σ) H locs → lv_has ls 6 [(0, .ref (ead E 26)), (1, .int a1), (2, .int a2), (3, .int a3), (4, .int a4)] → W p l e (rml 4) s m args below meth c H locs 0 0 Q (F0 m 30 ls []) := by
  intro n
  induction n with
  | zero =>
    intro a1 a2 a3 a4 σ H locs ls hF hw hl
    exact absurd hF (fun h => nomatch h)
  | succ n ih =>
    intro a1 a2 a3 a4 σ H locs ls hF hw hl
    rw [fX5_comes_L30] at hF
    refine lv_iload S.1 S.2.1 dX5_comes_30 (lv_at hl 4 rfl) ?_
    refine lv_aload_n S.1 S.2.1 dX5_comes_32 rfl (lv_at hl 0 rfl) ?_
    refine gf_X5_80 S hw dX5_comes_33 ?_
    refine lv_icmp_ge (tgt := 87) S.1 S.2.1 dX5_comes_36 (by decide) (fun c7 => ?_) (fun c7 => ?_)
    · replace hF := kit hF c7
      refine lv_iload_n S.1 S.2.1 dX5_comes_87 rfl (lv_at hl 1 rfl) ?_
      refine lv_if_ne (tgt := 95) S.1 S.2.1 dX5_comes_88 (by decide) (fun c8 => ?_) (fun c8 => ?_)
      · replace hF := kif hF c8
        refine lv_iload_n S.1 S.2.1 dX5_comes_95 rfl (lv_at hl 3 rfl) ?_
        obtain ⟨rfl, rfl⟩ := kret hF
        exact hR _ _ _ _ dX5_comes_96 hw (fun h => nomatch h)
      · replace hF := kit hF c8
        refine lv_iload_n S.1 S.2.1 dX5_comes_91 rfl (lv_at hl 2 rfl) ?_
        refine lv_goto (tgt := 96) S.1 S.2.1 dX5_comes_92 (by decide) ?_
        obtain ⟨rfl, rfl⟩ := kret hF
        exact hR _ _ _ _ dX5_comes_96 hw (fun h => nomatch h)
    · replace hF := kif hF c7
      refine lv_aload_n S.1 S.2.1 dX5_comes_39 rfl (lv_at hl 0 rfl) ?_
      refine lv_iload S.1 S.2.1 dX5_comes_40 (lv_at hl 4 rfl) ?_
      obtain ⟨r11, σ10, e9, hF⟩ := kbi_e hF
      refine kcX5_goesTo S hw cv_X5_165 ⟨Nat.le_of_ble_eq_true rfl, Nat.le_of_ble_eq_true rfl⟩ e9 hl.1 (Nat.le_of_ble_eq_true rfl) dX5_comes_42 (fun H locs hw => ?_)
      refine lv_istore (lv' := [(5, .int r11), (0, .ref (ead E 26)), (1, .int a1), (2, .int a2), (3, .int a3), (4, .int a4)]) S.1 S.2.1 dX5_comes_45 hl (by decide) rfl (fun ls hl => ?_)
      refine lv_iload_n S.1 S.2.1 dX5_comes_47 rfl (lv_at hl 3 rfl) ?_
      refine lv_iload S.1 S.2.1 dX5_comes_48 (lv_at hl 0 rfl) ?_
      refine lv_iload S.1 S.2.1 dX5_comes_50 (lv_at hl 5 rfl) ?_
      refine lv_icmp_ne (tgt := 62) S.1 S.2.1 dX5_comes_52 (by decide) (fun c12 => ?_) (fun c12 => ?_)
      · replace hF := kif hF c12
        refine lv_iconst (v := 0) S.1 S.2.1 dX5_comes_62 (by decide) ?_
        exact wX5_comes_J63 S hR ih a1 a3 a4 r11 0 a2 _ _ _ _ hF hw (lv_sub hl [1, 2, 4, 5, 0] rfl)
      · replace hF := kit hF c12
        refine lv_iconst (v := 1) S.1 S.2.1 dX5_comes_55 (by decide) ?_
        refine lv_iload S.1 S.2.1 dX5_comes_56 (lv_at hl 5 rfl) ?_
        refine lv_ishl S.1 S.2.1 dX5_comes_58 ?_
        refine lv_goto (tgt := 63) S.1 S.2.1 dX5_comes_59 (by decide) ?_
        exact wX5_comes_J63 S hR ih a1 a3 a4 r11 ((1 : Int32) <<< (a4 &&& 31)) a2 _ _ _ _ hF hw (lv_sub hl [1, 2, 4, 5, 0] rfl)
set_option maxHeartbeats 4000000 in
set_option maxRecDepth 100000 in
theorem mX5_comes {l : Launch} {E : kE} {ω σ σ1 : kS} {r : Int32} {a1 : Int32}  (hF : fX5_comes a1 σ = some (r, σ1)) : kMetI l yX5_comes cX5_comes 6 (some .int) 4 E [.ref (ead E 26), .int a1] (cmb ω σ) r (cmb ω σ1) := by
  refine kMetI.of (by decide +kernel) (Nat.le_of_ble_eq_true rfl) (Or.inl rfl) ?_
  intro p e s m args below meth c Q ls S hR hw hl
  have hl : lv_has ls 6 [(0, .ref (ead E 26)), (1, .int a1)] := hl
  unfold fX5_comes at hF
  refine lv_aload_n S.1 S.2.1 dX5_comes_0 rfl (lv_at hl 0 rfl) ?_
  refine gf_X5_80 S hw dX5_comes_1 ?_
  refine lv_if_ne (tgt := 10) S.1 S.2.1 dX5_comes_4 (by decide) (fun c1 => ?_) (fun c1 => ?_)
  · replace hF := kif hF c1
    refine lv_iload_n S.1 S.2.1 dX5_comes_10 rfl (lv_at hl 1 rfl) ?_
    refine lv_i2l S.1 S.2.1 dX5_comes_11 rfl ?_
    refine lv_lconst (v := 0) S.1 S.2.1 dX5_comes_12 (by decide) ?_
    refine lv_lconst (v := 1) S.1 S.2.1 dX5_comes_13 (by decide) ?_
    obtain ⟨r4, σ3, e2, hF⟩ := kbi_e hF
    refine kcX5_in S hw cv_X5_83 ⟨Nat.le_of_ble_eq_true rfl, Nat.le_of_ble_eq_true rfl⟩ e2 hl.1 (Nat.le_of_ble_eq_true rfl) dX5_comes_14 (fun H locs hw hz5 => ?_)
    refine lv_if_ne (tgt := 23) S.1 S.2.1 dX5_comes_17 (by decide) (fun c6 => ?_) (fun c6 => ?_)
    · replace hF := kif hF c6
      refine lv_iconst (v := 0) S.1 S.2.1 dX5_comes_23 (by decide) ?_
      refine lv_istore_n (lv' := [(2, .int 0), (0, .ref (ead E 26)), (1, .int a1)]) S.1 S.2.1 dX5_comes_24 rfl hl (by decide) rfl (fun ls hl => ?_)
      refine lv_iconst (v := 0) S.1 S.2.1 dX5_comes_25 (by decide) ?_
      refine lv_istore_n (lv' := [(3, .int 0), (2, .int 0), (0, .ref (ead E 26)), (1, .int a1)]) S.1 S.2.1 dX5_comes_26 rfl hl (by decide) rfl (fun ls hl => ?_)
      refine lv_iconst (v := 0) S.1 S.2.1 dX5_comes_27 (by decide) ?_
      refine lv_istore (lv' := [(4, .int 0), (3, .int 0), (2, .int 0), (0, .ref (ead E 26)), (1, .int a1)]) S.1 S.2.1 dX5_comes_28 hl (by decide) rfl (fun ls hl => ?_)
      exact wX5_comes_L30 S hR 1000 a1 0 0 0 _ _ _ _ hF hw (lv_sub hl [3, 4, 2, 1, 0] rfl)
    · replace hF := kit hF c6
      refine lv_bipush (v := (-2)) S.1 S.2.1 dX5_comes_20 (by decide) ?_
      obtain ⟨rfl, rfl⟩ := kret hF
      exact hR _ _ _ _ dX5_comes_22 hw (fun h => nomatch h)
  · replace hF := kit hF c1
    refine lv_bipush (v := (-3)) S.1 S.2.1 dX5_comes_7 (by decide) ?_
    obtain ⟨rfl, rfl⟩ := kret hF
    exact hR _ _ _ _ dX5_comes_9 hw (fun h => nomatch h)
set_option maxRecDepth 100000 in
theorem kcX5_comes {p : Program} {l : Launch} {e : Env} {R : Room} {s : State} {m : MethodId} {args : Array Value} {below : List Frame} {meth : Method} {c : Code} {H : Heap} {locs : List Loc} {cells slots : Nat} {Q : State → Prop} {cc : ByteArray} {pc : Nat} {ls : Array Slot} {rest : List Value} {E : kE} {σ ω σ1 : kS} {nL index : Nat} {own : String} {r : Int32} (S : CallFix p m c cc nL s args kBIG own) (hw : kWS E s (cmb ω σ) H locs) (cw : kV own RX5 index yX5_comes cX5_comes 6 (some .int) 1) (hR : 4 + 1 ≤ R.frames ∧ 8 + (6 + 11) + 40 * 4 ≤ R.locals) {a1 : Int32}  (hF : fX5_comes a1 σ = some (r, σ1)) (hls : ls.size = nL) (hW : (rest.map fun v => v.category).sum ≤ 8) (hdg : decode cc pc = .ok (.invokevirtual index, 3)) (kk : ∀ (H1 : Heap) (locs1 : List Loc), kWS E s (cmb ω σ1) H1 locs1 → W p l e R s m args below meth c H1 locs1 cells slots Q (F0 m (pc + 3) ls (.int r :: rest))) (hf : cells ≤ R.cells ∧ slots ≤ R.slots := by exact ⟨Nat.le_of_ble_eq_true rfl, Nat.le_of_ble_eq_true rfl⟩) : W p l e R s m args below meth c H locs cells slots Q (F0 m pc ls (.int a1 :: .ref (ead E 26) :: rest)) := kr_calli (mc := 0) (y := yX5_comes) (b := cX5_comes) (n := 0) (lv := 0) (As := []) (ret := some .int) hw (kr_runV (As := [.int a1]) (q := 26) S hw ((mX5_comes (l := l) (E := E) (ω := ω) hF) H.size) cw hR rfl (by decide) rfl rfl hls _ rfl hW hdg hf) (fun H1 locs1 h _ => kk H1 locs1 h)
set_option maxHeartbeats 4000000 in
set_option maxRecDepth 100000 in
theorem wX5_keepAll_L2 {p : Program} {l : Launch} {e : Env} {s : State} {m : MethodId} {args : Array Value} {below : List Frame} {meth : Method} {c : Code} {Q : State → Prop} {E : kE} {ω σ1 : kS} (S : CallFix p m c cX5_keepAll 2 s args kBIG RX5) (hR : kRetV p l e (rml 0) s m args below meth c cX5_keepAll E Q (cmb ω σ1))  : ∀ (n : Nat), ∀ (a1 : Int32) (σ : kS) (H : Heap) (locs : List Loc) (ls : Array Slot), fX5_keepAll_L2 n a1 σ = some σ1 → kWS E s (cmb ω σ) H locs → lv_has ls 2 [(0, .ref (ead E 26)), (1, .int a1)] → W p l e (rml 0) s m args below meth c H locs 0 0 Q (F0 m 2 ls []) := by
  intro n
  induction n with
  | zero =>
    intro a1 σ H locs ls hF hw hl
    exact absurd hF (fun h => nomatch h)
  | succ n ih =>
    intro a1 σ H locs ls hF hw hl
    rw [fX5_keepAll_L2] at hF
    refine lv_iload_n S.1 S.2.1 dX5_keepAll_2 rfl (lv_at hl 1 rfl) ?_
    refine lv_aload_n S.1 S.2.1 dX5_keepAll_3 rfl (lv_at hl 0 rfl) ?_
    refine gf_X5_80 S hw dX5_keepAll_4 ?_
    refine lv_icmp_ge (tgt := 52) S.1 S.2.1 dX5_keepAll_7 (by decide) (fun c1 => ?_) (fun c1 => ?_)
    · replace hF := kit hF c1
      cases kre hF
      exact hR _ _ _ _ dX5_keepAll_52 hw
    · replace hF := kif hF c1
      refine lv_aload_n S.1 S.2.1 dX5_keepAll_10 rfl (lv_at hl 0 rfl) ?_
      refine gf_X5_34 S hw dX5_keepAll_11 ?_
      refine lv_iload_n S.1 S.2.1 dX5_keepAll_14 rfl (lv_at hl 1 rfl) ?_
      refine lv_aload_n S.1 S.2.1 dX5_keepAll_15 rfl (lv_at hl 0 rfl) ?_
      refine gf_X5_13 S hw dX5_keepAll_16 ?_
      refine lv_iload_n S.1 S.2.1 dX5_keepAll_19 rfl (lv_at hl 1 rfl) ?_
      obtain ⟨hb2, hF⟩ := kin hF
      refine km_iald (q := 2) S hw rfl (Nat.le_of_ble_eq_true rfl) hb2 dX5_keepAll_20 ?_
      obtain ⟨hb3, hF⟩ := kin hF
      refine km_iast (q := 9) S hw rfl (Nat.le_of_ble_eq_true rfl) hb3 dX5_keepAll_21 (fun H locs hw => ?_)
      refine lv_aload_n S.1 S.2.1 dX5_keepAll_22 rfl (lv_at hl 0 rfl) ?_
      refine gf_X5_37 S hw dX5_keepAll_23 ?_
      refine lv_iload_n S.1 S.2.1 dX5_keepAll_26 rfl (lv_at hl 1 rfl) ?_
      refine lv_aload_n S.1 S.2.1 dX5_keepAll_27 rfl (lv_at hl 0 rfl) ?_
      refine gf_X5_16 S hw dX5_keepAll_28 ?_
      refine lv_iload_n S.1 S.2.1 dX5_keepAll_31 rfl (lv_at hl 1 rfl) ?_
      obtain ⟨hb4, hF⟩ := kin hF
      refine km_iald (q := 3) S hw rfl (Nat.le_of_ble_eq_true rfl) hb4 dX5_keepAll_32 ?_
      obtain ⟨hb5, hF⟩ := kin hF
      refine km_iast (q := 10) S hw rfl (Nat.le_of_ble_eq_true rfl) hb5 dX5_keepAll_33 (fun H locs hw => ?_)
      refine lv_aload_n S.1 S.2.1 dX5_keepAll_34 rfl (lv_at hl 0 rfl) ?_
      refine gf_X5_40 S hw dX5_keepAll_35 ?_
      refine lv_iload_n S.1 S.2.1 dX5_keepAll_38 rfl (lv_at hl 1 rfl) ?_
      refine lv_aload_n S.1 S.2.1 dX5_keepAll_39 rfl (lv_at hl 0 rfl) ?_
      refine gf_X5_19 S hw dX5_keepAll_40 ?_
      refine lv_iload_n S.1 S.2.1 dX5_keepAll_43 rfl (lv_at hl 1 rfl) ?_
      obtain ⟨hb6, hF⟩ := kin hF
      refine km_iald (q := 4) S hw rfl (Nat.le_of_ble_eq_true rfl) hb6 dX5_keepAll_44 ?_
      obtain ⟨hb7, hF⟩ := kin hF
      refine km_iast (q := 11) S hw rfl (Nat.le_of_ble_eq_true rfl) hb7 dX5_keepAll_45 (fun H locs hw => ?_)
      obtain ⟨v8, ev8⟩ : ∃ y : Int32, y = a1 + 1 := ⟨_, rfl⟩
      replace hF := klb hF ev8
      refine lv_iinc (v := v8) (lv' := [(1, .int v8), (0, .ref (ead E 26))]) S.1 S.2.1 dX5_keepAll_46 hl (k := 1) rfl (by rw [ev8]; rfl) (by decide) rfl (fun ls hl => ?_)
      refine lv_goto (tgt := 2) S.1 S.2.1 dX5_keepAll_49 (by decide) ?_
      exact ih v8 _ _ _ _ hF hw (lv_sub hl [1, 0] rfl)
set_option maxHeartbeats 4000000 in
set_option maxRecDepth 100000 in
theorem mX5_keepAll {l : Launch} {E : kE} {ω σ σ1 : kS}   (hF : fX5_keepAll σ = some σ1) : kMetV l yX5_keepAll cX5_keepAll 2 0 E [.ref (ead E 26)] (cmb ω σ) (cmb ω σ1) := by
  refine kMetV.of (by decide +kernel) (Nat.le_of_ble_eq_true rfl) ?_
  intro p e s m args below meth c Q ls S hR hw hl
  have hl : lv_has ls 2 [(0, .ref (ead E 26))] := hl
  unfold fX5_keepAll at hF
  refine lv_iconst (v := 0) S.1 S.2.1 dX5_keepAll_0 (by decide) ?_
  refine lv_istore_n (lv' := [(1, .int 0), (0, .ref (ead E 26))]) S.1 S.2.1 dX5_keepAll_1 rfl hl (by decide) rfl (fun ls hl => ?_)
  exact wX5_keepAll_L2 S hR 1000 0 _ _ _ _ hF hw (lv_sub hl [1, 0] rfl)
set_option maxRecDepth 100000 in
theorem kcX5_keepAll {p : Program} {l : Launch} {e : Env} {R : Room} {s : State} {m : MethodId} {args : Array Value} {below : List Frame} {meth : Method} {c : Code} {H : Heap} {locs : List Loc} {cells slots : Nat} {Q : State → Prop} {cc : ByteArray} {pc : Nat} {ls : Array Slot} {rest : List Value} {E : kE} {σ ω σ1 : kS} {nL index : Nat} {own : String} (S : CallFix p m c cc nL s args kBIG own) (hw : kWS E s (cmb ω σ) H locs) (cw : kV own RX5 index yX5_keepAll cX5_keepAll 2 none 0) (hR : 0 + 1 ≤ R.frames ∧ 8 + (2 + 11) + 40 * 0 ≤ R.locals)   (hF : fX5_keepAll σ = some σ1) (hls : ls.size = nL) (hW : (rest.map fun v => v.category).sum ≤ 8) (hdg : decode cc pc = .ok (.invokevirtual index, 3)) (kk : ∀ (H1 : Heap) (locs1 : List Loc), kWS E s (cmb ω σ1) H1 locs1 → W p l e R s m args below meth c H1 locs1 cells slots Q (F0 m (pc + 3) ls rest)) (hf : cells ≤ R.cells ∧ slots ≤ R.slots := by exact ⟨Nat.le_of_ble_eq_true rfl, Nat.le_of_ble_eq_true rfl⟩) : W p l e R s m args below meth c H locs cells slots Q (F0 m pc ls (.ref (ead E 26) :: rest)) := kr_callv hw (kr_runV (As := []) (q := 26) S hw ((mX5_keepAll (l := l) (E := E) (ω := ω) hF) H.size) cw hR rfl (by decide) rfl rfl hls _ rfl hW hdg hf) kk
set_option maxHeartbeats 4000000 in
set_option maxRecDepth 100000 in
theorem wX5_bringBack_L2 {p : Program} {l : Launch} {e : Env} {s : State} {m : MethodId} {args : Array Value} {below : List Frame} {meth : Method} {c : Code} {Q : State → Prop} {E : kE} {ω σ1 : kS} (S : CallFix p m c cX5_bringBack 2 s args kBIG RX5) (hR : kRetV p l e (rml 0) s m args below meth c cX5_bringBack E Q (cmb ω σ1))  : ∀ (n : Nat), ∀ (a1 : Int32) (σ : kS) (H : Heap) (locs : List Loc) (ls : Array Slot), fX5_bringBack_L2 n a1 σ = some σ1 → kWS E s (cmb ω σ) H locs → lv_has ls 2 [(0, .ref (ead E 26)), (1, .int a1)] → W p l e (rml 0) s m args below meth c H locs 0 0 Q (F0 m 2 ls []) := by
  intro n
  induction n with
  | zero =>
    intro a1 σ H locs ls hF hw hl
    exact absurd hF (fun h => nomatch h)
  | succ n ih =>
    intro a1 σ H locs ls hF hw hl
    rw [fX5_bringBack_L2] at hF
    refine lv_iload_n S.1 S.2.1 dX5_bringBack_2 rfl (lv_at hl 1 rfl) ?_
    refine lv_aload_n S.1 S.2.1 dX5_bringBack_3 rfl (lv_at hl 0 rfl) ?_
    refine gf_X5_80 S hw dX5_bringBack_4 ?_
    refine lv_icmp_ge (tgt := 52) S.1 S.2.1 dX5_bringBack_7 (by decide) (fun c1 => ?_) (fun c1 => ?_)
    · replace hF := kit hF c1
      cases kre hF
      exact hR _ _ _ _ dX5_bringBack_52 hw
    · replace hF := kif hF c1
      refine lv_aload_n S.1 S.2.1 dX5_bringBack_10 rfl (lv_at hl 0 rfl) ?_
      refine gf_X5_13 S hw dX5_bringBack_11 ?_
      refine lv_iload_n S.1 S.2.1 dX5_bringBack_14 rfl (lv_at hl 1 rfl) ?_
      refine lv_aload_n S.1 S.2.1 dX5_bringBack_15 rfl (lv_at hl 0 rfl) ?_
      refine gf_X5_34 S hw dX5_bringBack_16 ?_
      refine lv_iload_n S.1 S.2.1 dX5_bringBack_19 rfl (lv_at hl 1 rfl) ?_
      obtain ⟨hb2, hF⟩ := kin hF
      refine km_iald (q := 9) S hw rfl (Nat.le_of_ble_eq_true rfl) hb2 dX5_bringBack_20 ?_
      obtain ⟨hb3, hF⟩ := kin hF
      refine km_iast (q := 2) S hw rfl (Nat.le_of_ble_eq_true rfl) hb3 dX5_bringBack_21 (fun H locs hw => ?_)
      refine lv_aload_n S.1 S.2.1 dX5_bringBack_22 rfl (lv_at hl 0 rfl) ?_
      refine gf_X5_16 S hw dX5_bringBack_23 ?_
      refine lv_iload_n S.1 S.2.1 dX5_bringBack_26 rfl (lv_at hl 1 rfl) ?_
      refine lv_aload_n S.1 S.2.1 dX5_bringBack_27 rfl (lv_at hl 0 rfl) ?_
      refine gf_X5_37 S hw dX5_bringBack_28 ?_
      refine lv_iload_n S.1 S.2.1 dX5_bringBack_31 rfl (lv_at hl 1 rfl) ?_
      obtain ⟨hb4, hF⟩ := kin hF
      refine km_iald (q := 10) S hw rfl (Nat.le_of_ble_eq_true rfl) hb4 dX5_bringBack_32 ?_
      obtain ⟨hb5, hF⟩ := kin hF
      refine km_iast (q := 3) S hw rfl (Nat.le_of_ble_eq_true rfl) hb5 dX5_bringBack_33 (fun H locs hw => ?_)
      refine lv_aload_n S.1 S.2.1 dX5_bringBack_34 rfl (lv_at hl 0 rfl) ?_
      refine gf_X5_19 S hw dX5_bringBack_35 ?_
      refine lv_iload_n S.1 S.2.1 dX5_bringBack_38 rfl (lv_at hl 1 rfl) ?_
      refine lv_aload_n S.1 S.2.1 dX5_bringBack_39 rfl (lv_at hl 0 rfl) ?_
      refine gf_X5_40 S hw dX5_bringBack_40 ?_
      refine lv_iload_n S.1 S.2.1 dX5_bringBack_43 rfl (lv_at hl 1 rfl) ?_
      obtain ⟨hb6, hF⟩ := kin hF
      refine km_iald (q := 11) S hw rfl (Nat.le_of_ble_eq_true rfl) hb6 dX5_bringBack_44 ?_
      obtain ⟨hb7, hF⟩ := kin hF
      refine km_iast (q := 4) S hw rfl (Nat.le_of_ble_eq_true rfl) hb7 dX5_bringBack_45 (fun H locs hw => ?_)
      obtain ⟨v8, ev8⟩ : ∃ y : Int32, y = a1 + 1 := ⟨_, rfl⟩
      replace hF := klb hF ev8
      refine lv_iinc (v := v8) (lv' := [(1, .int v8), (0, .ref (ead E 26))]) S.1 S.2.1 dX5_bringBack_46 hl (k := 1) rfl (by rw [ev8]; rfl) (by decide) rfl (fun ls hl => ?_)
      refine lv_goto (tgt := 2) S.1 S.2.1 dX5_bringBack_49 (by decide) ?_
      exact ih v8 _ _ _ _ hF hw (lv_sub hl [1, 0] rfl)
set_option maxHeartbeats 4000000 in
set_option maxRecDepth 100000 in
theorem mX5_bringBack {l : Launch} {E : kE} {ω σ σ1 : kS}   (hF : fX5_bringBack σ = some σ1) : kMetV l yX5_bringBack cX5_bringBack 2 0 E [.ref (ead E 26)] (cmb ω σ) (cmb ω σ1) := by
  refine kMetV.of (by decide +kernel) (Nat.le_of_ble_eq_true rfl) ?_
  intro p e s m args below meth c Q ls S hR hw hl
  have hl : lv_has ls 2 [(0, .ref (ead E 26))] := hl
  unfold fX5_bringBack at hF
  refine lv_iconst (v := 0) S.1 S.2.1 dX5_bringBack_0 (by decide) ?_
  refine lv_istore_n (lv' := [(1, .int 0), (0, .ref (ead E 26))]) S.1 S.2.1 dX5_bringBack_1 rfl hl (by decide) rfl (fun ls hl => ?_)
  exact wX5_bringBack_L2 S hR 1000 0 _ _ _ _ hF hw (lv_sub hl [1, 0] rfl)
set_option maxRecDepth 100000 in
theorem kcX5_bringBack {p : Program} {l : Launch} {e : Env} {R : Room} {s : State} {m : MethodId} {args : Array Value} {below : List Frame} {meth : Method} {c : Code} {H : Heap} {locs : List Loc} {cells slots : Nat} {Q : State → Prop} {cc : ByteArray} {pc : Nat} {ls : Array Slot} {rest : List Value} {E : kE} {σ ω σ1 : kS} {nL index : Nat} {own : String} (S : CallFix p m c cc nL s args kBIG own) (hw : kWS E s (cmb ω σ) H locs) (cw : kV own RX5 index yX5_bringBack cX5_bringBack 2 none 0) (hR : 0 + 1 ≤ R.frames ∧ 8 + (2 + 11) + 40 * 0 ≤ R.locals)   (hF : fX5_bringBack σ = some σ1) (hls : ls.size = nL) (hW : (rest.map fun v => v.category).sum ≤ 8) (hdg : decode cc pc = .ok (.invokevirtual index, 3)) (kk : ∀ (H1 : Heap) (locs1 : List Loc), kWS E s (cmb ω σ1) H1 locs1 → W p l e R s m args below meth c H1 locs1 cells slots Q (F0 m (pc + 3) ls rest)) (hf : cells ≤ R.cells ∧ slots ≤ R.slots := by exact ⟨Nat.le_of_ble_eq_true rfl, Nat.le_of_ble_eq_true rfl⟩) : W p l e R s m args below meth c H locs cells slots Q (F0 m pc ls (.ref (ead E 26) :: rest)) := kr_callv hw (kr_runV (As := []) (q := 26) S hw ((mX5_bringBack (l := l) (E := E) (ω := ω) hF) H.size) cw hR rfl (by decide) rfl rfl hls _ rfl hW hdg hf) kk
set_option maxHeartbeats 4000000 in
set_option maxRecDepth 100000 in
theorem wX5_pairsBarred_J52 {p : Program} {l : Launch} {e : Env} {s : State} {m : MethodId} {args : Array Value} {below : List Frame} {meth : Method} {c : Code} {Q : State → Prop} {E : kE} {ω σ1 : kS} {r : Int32} (S : CallFix p m c cX5_pairsBarred 5 s args kBIG RX5) (hR : kRetI p l e (rml 2) s m args below meth c cX5_pairsBarred E Q (some .int) r (cmb ω σ1)) {k2 : Int32 → Int32 → Int32 → kS → Option (Int32 × kS)} (hk2 : ∀ (a1 : Int32) (a2 : Int32) (a3 : Int32) (σ : kS) (H : Heap) (locs : List Loc) (ls : Array Slot), k2 a1 a2 a3 σ = some (r, σ1) → kWS E s (cmb ω σ) H locs → lv_has ls 5 [(0, .ref (ead E 26)), (1, .int a1), (2, .int a2), (3, .int a3)] → W p l e (rml 2) s m args below meth c H locs 0 0 Q (F0 m 2 ls [])) : ∀ (a1 : Int32) (a2 : Int32) (a3 : Int32) (σ : kS) (H : Heap) (locs : List Loc) (ls : Array Slot), fX5_pairsBarred_J52 k2 a1 a2 a3 σ = some (r, σ1) → kWS E s (cmb ω σ) H locs → lv_has ls 5 [(0, .ref (ead E 26)), (1, .int a1), (2, .int a2), (3, .int a3)] → W p l e (rml 2) s m args below meth c H locs 0 0 Q (F0 m 52 ls []) := by
  intro a1 a2 a3 σ H locs ls hF hw hl
  unfold fX5_pairsBarred_J52 at hF
  refine lv_aload_n S.1 S.2.1 dX5_pairsBarred_52 rfl (lv_at hl 0 rfl) ?_
  refine lv_aload_n S.1 S.2.1 dX5_pairsBarred_53 rfl (lv_at hl 0 rfl) ?_
  refine gf_X5_64 S hw dX5_pairsBarred_54 ?_
  refine lv_iload_n S.1 S.2.1 dX5_pairsBarred_57 rfl (lv_at hl 1 rfl) ?_
  refine lv_iconst (v := 2) S.1 S.2.1 dX5_pairsBarred_58 (by decide) ?_
  refine lv_iload_n S.1 S.2.1 dX5_pairsBarred_59 rfl (lv_at hl 3 rfl) ?_
  refine lv_imul S.1 S.2.1 dX5_pairsBarred_60 ?_
  refine lv_iadd S.1 S.2.1 dX5_pairsBarred_61 ?_
  obtain ⟨hb14, hF⟩ := kin hF
  refine km_iald (q := 19) S hw rfl (Nat.le_of_ble_eq_true rfl) hb14 dX5_pairsBarred_62 ?_
  obtain ⟨r17, σ16, e15, hF⟩ := kbi_e hF
  refine kcX5_noPerson S hw cv_X5_162 ⟨Nat.le_of_ble_eq_true rfl, Nat.le_of_ble_eq_true rfl⟩ e15 hl.1 (Nat.le_of_ble_eq_true rfl) dX5_pairsBarred_63 (fun H locs hw hz18 => ?_)
  refine lv_if_eq (tgt := 71) S.1 S.2.1 dX5_pairsBarred_66 (by decide) (fun c19 => ?_) (fun c19 => ?_)
  · replace hF := kit hF c19
    obtain ⟨v20, ev20⟩ : ∃ y : Int32, y = a3 + 1 := ⟨_, rfl⟩
    replace hF := klb hF ev20
    refine lv_iinc (v := v20) (lv' := [(3, .int v20), (0, .ref (ead E 26)), (1, .int a1), (2, .int a2)]) S.1 S.2.1 dX5_pairsBarred_71 hl (k := 3) rfl (by rw [ev20]; rfl) (by decide) rfl (fun ls hl => ?_)
    refine lv_goto (tgt := 2) S.1 S.2.1 dX5_pairsBarred_74 (by decide) ?_
    exact hk2 a1 a2 v20 _ _ _ _ hF hw (lv_sub hl [1, 2, 3, 0] rfl)
  · replace hF := kif hF c19
    refine lv_iconst (v := (-1)) S.1 S.2.1 dX5_pairsBarred_69 (by decide) ?_
    obtain ⟨rfl, rfl⟩ := kret hF
    exact hR _ _ _ _ dX5_pairsBarred_70 hw (fun h => nomatch h)
set_option maxHeartbeats 4000000 in
set_option maxRecDepth 100000 in
theorem wX5_pairsBarred_L2 {p : Program} {l : Launch} {e : Env} {s : State} {m : MethodId} {args : Array Value} {below : List Frame} {meth : Method} {c : Code} {Q : State → Prop} {E : kE} {ω σ1 : kS} {r : Int32} (S : CallFix p m c cX5_pairsBarred 5 s args kBIG RX5) (hR : kRetI p l e (rml 2) s m args below meth c cX5_pairsBarred E Q (some .int) r (cmb ω σ1))  : ∀ (n : Nat), ∀ (a1 : Int32) (a2 : Int32) (a3 : Int32) (σ : kS) (H : Heap) (locs : List Loc) (ls : Array Slot), fX5_pairsBarred_L2 n a1 a2 a3 σ = some (r, σ1) → kWS E s (cmb ω σ) H locs → lv_has ls 5 [(0, .ref (ead E 26)), (1, .int a1), (2, .int a2), (3, .int a3)] → W p l e (rml 2) s m args below meth c H locs 0 0 Q (F0 m 2 ls []) := by
  intro n
  induction n with
  | zero =>
    intro a1 a2 a3 σ H locs ls hF hw hl
    exact absurd hF (fun h => nomatch h)
  | succ n ih =>
    intro a1 a2 a3 σ H locs ls hF hw hl
    rw [fX5_pairsBarred_L2] at hF
    refine lv_iload_n S.1 S.2.1 dX5_pairsBarred_2 rfl (lv_at hl 3 rfl) ?_
    refine lv_iload_n S.1 S.2.1 dX5_pairsBarred_3 rfl (lv_at hl 2 rfl) ?_
    refine lv_icmp_ge (tgt := 77) S.1 S.2.1 dX5_pairsBarred_4 (by decide) (fun c1 => ?_) (fun c1 => ?_)
    · replace hF := kit hF c1
      refine lv_iconst (v := 0) S.1 S.2.1 dX5_pairsBarred_77 (by decide) ?_
      obtain ⟨rfl, rfl⟩ := kret hF
      exact hR _ _ _ _ dX5_pairsBarred_78 hw (fun h => nomatch h)
    · replace hF := kif hF c1
      refine lv_aload_n S.1 S.2.1 dX5_pairsBarred_7 rfl (lv_at hl 0 rfl) ?_
      refine gf_X5_64 S hw dX5_pairsBarred_8 ?_
      refine lv_iload_n S.1 S.2.1 dX5_pairsBarred_11 rfl (lv_at hl 1 rfl) ?_
      refine lv_iconst (v := 2) S.1 S.2.1 dX5_pairsBarred_12 (by decide) ?_
      refine lv_iload_n S.1 S.2.1 dX5_pairsBarred_13 rfl (lv_at hl 3 rfl) ?_
      refine lv_imul S.1 S.2.1 dX5_pairsBarred_14 ?_
      refine lv_iadd S.1 S.2.1 dX5_pairsBarred_15 ?_
      refine lv_iconst (v := 1) S.1 S.2.1 dX5_pairsBarred_16 (by decide) ?_
      refine lv_iadd S.1 S.2.1 dX5_pairsBarred_17 ?_
      obtain ⟨hb2, hF⟩ := kin hF
      refine km_iald (q := 19) S hw rfl (Nat.le_of_ble_eq_true rfl) hb2 dX5_pairsBarred_18 ?_
      refine lv_topi (fun v3 ev3 => ?_)
      replace hF := klb hF ev3
      refine lv_istore (lv' := [(4, .int v3), (0, .ref (ead E 26)), (1, .int a1), (2, .int a2), (3, .int a3)]) S.1 S.2.1 dX5_pairsBarred_19 hl (by decide) rfl (fun ls hl => ?_)
      refine lv_iload S.1 S.2.1 dX5_pairsBarred_21 (lv_at hl 0 rfl) ?_
      refine lv_i2l S.1 S.2.1 dX5_pairsBarred_23 rfl ?_
      refine lv_lconst (v := 0) S.1 S.2.1 dX5_pairsBarred_24 (by decide) ?_
      refine lv_ldc2 (v := 8) S.1 S.2.1 S.2.2.2.1 (S.2.2.2.2 _ q3_181) dX5_pairsBarred_25 ?_
      obtain ⟨r6, σ5, e4, hF⟩ := kbi_e hF
      refine kcX5_in S hw cv_X5_83 ⟨Nat.le_of_ble_eq_true rfl, Nat.le_of_ble_eq_true rfl⟩ e4 hl.1 (Nat.le_of_ble_eq_true rfl) dX5_pairsBarred_28 (fun H locs hw hz7 => ?_)
      refine lv_if_ne (tgt := 52) S.1 S.2.1 dX5_pairsBarred_31 (by decide) (fun c8 => ?_) (fun c8 => ?_)
      · replace hF := kif hF c8
        exact wX5_pairsBarred_J52 S hR ih a1 a2 a3 _ _ _ _ hF hw (lv_sub hl [1, 2, 3, 4] rfl)
      · replace hF := kit hF c8
        refine lv_iload S.1 S.2.1 dX5_pairsBarred_34 (lv_at hl 0 rfl) ?_
        refine lv_i2l S.1 S.2.1 dX5_pairsBarred_36 rfl ?_
        refine lv_ldc2 (v := 10) S.1 S.2.1 S.2.2.2.1 (S.2.2.2.2 _ q3_175) dX5_pairsBarred_37 ?_
        refine lv_ldc2 (v := 19) S.1 S.2.1 S.2.2.2.1 (S.2.2.2.2 _ q3_182) dX5_pairsBarred_40 ?_
        obtain ⟨r11, σ10, e9, hF⟩ := kbi_e hF
        refine kcX5_in S hw cv_X5_83 ⟨Nat.le_of_ble_eq_true rfl, Nat.le_of_ble_eq_true rfl⟩ e9 hl.1 (Nat.le_of_ble_eq_true rfl) dX5_pairsBarred_43 (fun H locs hw hz12 => ?_)
        refine lv_if_ne (tgt := 52) S.1 S.2.1 dX5_pairsBarred_46 (by decide) (fun c13 => ?_) (fun c13 => ?_)
        · replace hF := kif hF c13
          exact wX5_pairsBarred_J52 S hR ih a1 a2 a3 _ _ _ _ hF hw (lv_sub hl [1, 2, 3, 4] rfl)
        · replace hF := kit hF c13
          refine lv_bipush (v := (-2)) S.1 S.2.1 dX5_pairsBarred_49 (by decide) ?_
          obtain ⟨rfl, rfl⟩ := kret hF
          exact hR _ _ _ _ dX5_pairsBarred_51 hw (fun h => nomatch h)
set_option maxHeartbeats 4000000 in
set_option maxRecDepth 100000 in
theorem mX5_pairsBarred {l : Launch} {E : kE} {ω σ σ1 : kS} {r : Int32} {a1 : Int32} {a2 : Int32}  (hF : fX5_pairsBarred a1 a2 σ = some (r, σ1)) : kMetI l yX5_pairsBarred cX5_pairsBarred 5 (some .int) 2 E [.ref (ead E 26), .int a1, .int a2] (cmb ω σ) r (cmb ω σ1) := by
  refine kMetI.of (by decide +kernel) (Nat.le_of_ble_eq_true rfl) (Or.inl rfl) ?_
  intro p e s m args below meth c Q ls S hR hw hl
  have hl : lv_has ls 5 [(0, .ref (ead E 26)), (1, .int a1), (2, .int a2)] := hl
  unfold fX5_pairsBarred at hF
  refine lv_iconst (v := 0) S.1 S.2.1 dX5_pairsBarred_0 (by decide) ?_
  refine lv_istore_n (lv' := [(3, .int 0), (0, .ref (ead E 26)), (1, .int a1), (2, .int a2)]) S.1 S.2.1 dX5_pairsBarred_1 rfl hl (by decide) rfl (fun ls hl => ?_)
  exact wX5_pairsBarred_L2 S hR 1000 a1 a2 0 _ _ _ _ hF hw (lv_sub hl [1, 2, 3, 0] rfl)
set_option maxRecDepth 100000 in
theorem kcX5_pairsBarred {p : Program} {l : Launch} {e : Env} {R : Room} {s : State} {m : MethodId} {args : Array Value} {below : List Frame} {meth : Method} {c : Code} {H : Heap} {locs : List Loc} {cells slots : Nat} {Q : State → Prop} {cc : ByteArray} {pc : Nat} {ls : Array Slot} {rest : List Value} {E : kE} {σ ω σ1 : kS} {nL index : Nat} {own : String} {r : Int32} (S : CallFix p m c cc nL s args kBIG own) (hw : kWS E s (cmb ω σ) H locs) (cw : kV own RX5 index yX5_pairsBarred cX5_pairsBarred 5 (some .int) 2) (hR : 2 + 1 ≤ R.frames ∧ 8 + (5 + 11) + 40 * 2 ≤ R.locals) {a1 : Int32} {a2 : Int32}  (hF : fX5_pairsBarred a1 a2 σ = some (r, σ1)) (hls : ls.size = nL) (hW : (rest.map fun v => v.category).sum ≤ 8) (hdg : decode cc pc = .ok (.invokevirtual index, 3)) (kk : ∀ (H1 : Heap) (locs1 : List Loc), kWS E s (cmb ω σ1) H1 locs1 → W p l e R s m args below meth c H1 locs1 cells slots Q (F0 m (pc + 3) ls (.int r :: rest))) (hf : cells ≤ R.cells ∧ slots ≤ R.slots := by exact ⟨Nat.le_of_ble_eq_true rfl, Nat.le_of_ble_eq_true rfl⟩) : W p l e R s m args below meth c H locs cells slots Q (F0 m pc ls (.int a2 :: .int a1 :: .ref (ead E 26) :: rest)) := kr_calli (mc := 0) (y := yX5_pairsBarred) (b := cX5_pairsBarred) (n := 0) (lv := 0) (As := []) (ret := some .int) hw (kr_runV (As := [.int a1, .int a2]) (q := 26) S hw ((mX5_pairsBarred (l := l) (E := E) (ω := ω) hF) H.size) cw hR rfl (by decide) rfl rfl hls _ rfl hW hdg hf) (fun H1 locs1 h _ => kk H1 locs1 h)
set_option maxHeartbeats 4000000 in
set_option maxRecDepth 100000 in
theorem wX5_roundBy_J118 {p : Program} {l : Launch} {e : Env} {s : State} {m : MethodId} {args : Array Value} {below : List Frame} {meth : Method} {c : Code} {Q : State → Prop} {E : kE} {ω σ1 : kS} {r : Int32} (S : CallFix p m c cX5_roundBy 12 s args kBIG RX5) (hR : kRetI p l e (rml 5) s m args below meth c cX5_roundBy E Q (some .int) r (cmb ω σ1)) {k16 : Int32 → Int32 → Int32 → Int32 → Int32 → Int32 → Int32 → Int32 → kS → Option (Int32 × kS)} (hk16 : ∀ (a1 : Int32) (a2 : Int32) (a3 : Int32) (a4 : Int32) (a5 : Int32) (a6 : Int32) (a7 : Int32) (a8 : Int32) (σ : kS) (H : Heap) (locs : List Loc) (ls : Array Slot), k16 a1 a2 a3 a4 a5 a6 a7 a8 σ = some (r, σ1) → kWS E s (cmb ω σ) H locs → lv_has ls 12 [(0, .ref (ead E 26)), (1, .int a1), (2, .int a2), (3, .int a3), (4, .int a4), (5, .int a5), (6, .int a6), (7, .int a7), (8, .int a8)] → W p l e (rml 5) s m args below meth c H locs 0 0 Q (F0 m 16 ls [])) : ∀ (a1 : Int32) (a2 : Int32) (a3 : Int32) (a4 : Int32) (a5 : Int32) (a7 : Int32) (a8 : Int32) (a11 : Int32) (as1 : Int32) (as0 : Int32) (σ : kS) (H : Heap) (locs : List Loc) (ls : Array Slot), fX5_roundBy_J118 k16 a1 a2 a3 a4 a5 a7 a8 a11 as1 as0 σ = some (r, σ1) → kWS E s (cmb ω σ) H locs → lv_has ls 12 [(0, .ref (ead E 26)), (1, .int a1), (2, .int a2), (3, .int a3), (4, .int a4), (5, .int a5), (7, .int a7), (8, .int a8), (11, .int a11)] → W p l e (rml 5) s m args below meth c H locs 0 0 Q (F0 m 118 ls [.int as1, .int as0]) := by
  intro a1 a2 a3 a4 a5 a7 a8 a11 as1 as0 σ H locs ls hF hw hl
  unfold fX5_roundBy_J118 at hF
  refine lv_ior S.1 S.2.1 dX5_roundBy_118 ?_
  refine lv_topi (fun v32 ev32 => ?_)
  replace hF := klb hF ev32
  refine lv_istore (lv' := [(6, .int v32), (0, .ref (ead E 26)), (1, .int a1), (2, .int a2), (3, .int a3), (4, .int a4), (5, .int a5), (7, .int a7), (8, .int a8), (11, .int a11)]) S.1 S.2.1 dX5_roundBy_119 hl (by decide) rfl (fun ls hl => ?_)
  refine lv_iload S.1 S.2.1 dX5_roundBy_121 (lv_at hl 7 rfl) ?_
  refine lv_iload S.1 S.2.1 dX5_roundBy_123 (lv_at hl 9 rfl) ?_
  refine lv_if_ge (tgt := 132) S.1 S.2.1 dX5_roundBy_125 (by decide) (fun c33 => ?_) (fun c33 => ?_)
  · replace hF := kit hF c33
    refine lv_iconst (v := 0) S.1 S.2.1 dX5_roundBy_132 (by decide) ?_
    refine lv_iadd S.1 S.2.1 dX5_roundBy_133 ?_
    refine lv_topi (fun v34 ev34 => ?_)
    replace hF := klb hF ev34
    refine lv_istore (lv' := [(7, .int v34), (6, .int v32), (0, .ref (ead E 26)), (1, .int a1), (2, .int a2), (3, .int a3), (4, .int a4), (5, .int a5), (8, .int a8), (11, .int a11)]) S.1 S.2.1 dX5_roundBy_134 hl (by decide) rfl (fun ls hl => ?_)
    refine lv_goto (tgt := 170) S.1 S.2.1 dX5_roundBy_136 (by decide) ?_
    obtain ⟨v35, ev35⟩ : ∃ y : Int32, y = a8 + 1 := ⟨_, rfl⟩
    replace hF := klb hF ev35
    refine lv_iinc (v := v35) (lv' := [(8, .int v35), (7, .int v34), (6, .int v32), (0, .ref (ead E 26)), (1, .int a1), (2, .int a2), (3, .int a3), (4, .int a4), (5, .int a5), (11, .int a11)]) S.1 S.2.1 dX5_roundBy_170 hl (k := 8) rfl (by rw [ev35]; rfl) (by decide) rfl (fun ls hl => ?_)
    refine lv_goto (tgt := 16) S.1 S.2.1 dX5_roundBy_173 (by decide) ?_
    exact hk16 a1 a2 a3 a4 a5 v32 v34 v35 _ _ _ _ hF hw (lv_sub hl [3, 4, 5, 6, 7, 8, 2, 1, 0] rfl)
  · replace hF := kif hF c33
    refine lv_iconst (v := 1) S.1 S.2.1 dX5_roundBy_128 (by decide) ?_
    refine lv_goto (tgt := 133) S.1 S.2.1 dX5_roundBy_129 (by decide) ?_
    refine lv_iadd S.1 S.2.1 dX5_roundBy_133 ?_
    refine lv_topi (fun v36 ev36 => ?_)
    replace hF := klb hF ev36
    refine lv_istore (lv' := [(7, .int v36), (6, .int v32), (0, .ref (ead E 26)), (1, .int a1), (2, .int a2), (3, .int a3), (4, .int a4), (5, .int a5), (8, .int a8), (11, .int a11)]) S.1 S.2.1 dX5_roundBy_134 hl (by decide) rfl (fun ls hl => ?_)
    refine lv_goto (tgt := 170) S.1 S.2.1 dX5_roundBy_136 (by decide) ?_
    obtain ⟨v37, ev37⟩ : ∃ y : Int32, y = a8 + 1 := ⟨_, rfl⟩
    replace hF := klb hF ev37
    refine lv_iinc (v := v37) (lv' := [(8, .int v37), (7, .int v36), (6, .int v32), (0, .ref (ead E 26)), (1, .int a1), (2, .int a2), (3, .int a3), (4, .int a4), (5, .int a5), (11, .int a11)]) S.1 S.2.1 dX5_roundBy_170 hl (k := 8) rfl (by rw [ev37]; rfl) (by decide) rfl (fun ls hl => ?_)
    refine lv_goto (tgt := 16) S.1 S.2.1 dX5_roundBy_173 (by decide) ?_
    exact hk16 a1 a2 a3 a4 a5 v32 v36 v37 _ _ _ _ hF hw (lv_sub hl [3, 4, 5, 6, 7, 8, 2, 1, 0] rfl)
set_option maxHeartbeats 4000000 in
set_option maxRecDepth 100000 in
theorem wX5_roundBy_J79 {p : Program} {l : Launch} {e : Env} {s : State} {m : MethodId} {args : Array Value} {below : List Frame} {meth : Method} {c : Code} {Q : State → Prop} {E : kE} {ω σ1 : kS} {r : Int32} (S : CallFix p m c cX5_roundBy 12 s args kBIG RX5) (hR : kRetI p l e (rml 5) s m args below meth c cX5_roundBy E Q (some .int) r (cmb ω σ1)) {k16 : Int32 → Int32 → Int32 → Int32 → Int32 → Int32 → Int32 → Int32 → kS → Option (Int32 × kS)} (hk16 : ∀ (a1 : Int32) (a2 : Int32) (a3 : Int32) (a4 : Int32) (a5 : Int32) (a6 : Int32) (a7 : Int32) (a8 : Int32) (σ : kS) (H : Heap) (locs : List Loc) (ls : Array Slot), k16 a1 a2 a3 a4 a5 a6 a7 a8 σ = some (r, σ1) → kWS E s (cmb ω σ) H locs → lv_has ls 12 [(0, .ref (ead E 26)), (1, .int a1), (2, .int a2), (3, .int a3), (4, .int a4), (5, .int a5), (6, .int a6), (7, .int a7), (8, .int a8)] → W p l e (rml 5) s m args below meth c H locs 0 0 Q (F0 m 16 ls [])) : ∀ (a1 : Int32) (a2 : Int32) (a3 : Int32) (a5 : Int32) (a6 : Int32) (a7 : Int32) (a8 : Int32) (a9 : Int32) (a11 : Int32) (as1 : Int32) (as0 : Int32) (σ : kS) (H : Heap) (locs : List Loc) (ls : Array Slot), fX5_roundBy_J79 k16 a1 a2 a3 a5 a6 a7 a8 a9 a11 as1 as0 σ = some (r, σ1) → kWS E s (cmb ω σ) H locs → lv_has ls 12 [(0, .ref (ead E 26)), (1, .int a1), (2, .int a2), (3, .int a3), (5, .int a5), (6, .int a6), (7, .int a7), (8, .int a8), (9, .int a9), (11, .int a11)] → W p l e (rml 5) s m args below meth c H locs 0 0 Q (F0 m 79 ls [.int as1, .int as0]) := by
  intro a1 a2 a3 a5 a6 a7 a8 a9 a11 as1 as0 σ H locs ls hF hw hl
  unfold fX5_roundBy_J79 at hF
  refine lv_iadd S.1 S.2.1 dX5_roundBy_79 ?_
  refine lv_topi (fun v26 ev26 => ?_)
  replace hF := klb hF ev26
  refine lv_istore (lv' := [(4, .int v26), (0, .ref (ead E 26)), (1, .int a1), (2, .int a2), (3, .int a3), (5, .int a5), (6, .int a6), (7, .int a7), (8, .int a8), (9, .int a9), (11, .int a11)]) S.1 S.2.1 dX5_roundBy_80 hl (by decide) rfl (fun ls hl => ?_)
  refine lv_iload S.1 S.2.1 dX5_roundBy_82 (lv_at hl 5 rfl) ?_
  refine lv_if_ge (tgt := 99) S.1 S.2.1 dX5_roundBy_84 (by decide) (fun c27 => ?_) (fun c27 => ?_)
  · replace hF := kit hF c27
    refine lv_iload S.1 S.2.1 dX5_roundBy_99 (lv_at hl 5 rfl) ?_
    refine lv_istore (lv' := [(5, .int a5), (4, .int v26), (0, .ref (ead E 26)), (1, .int a1), (2, .int a2), (3, .int a3), (6, .int a6), (7, .int a7), (8, .int a8), (9, .int a9), (11, .int a11)]) S.1 S.2.1 dX5_roundBy_101 hl (by decide) rfl (fun ls hl => ?_)
    refine lv_iload S.1 S.2.1 dX5_roundBy_103 (lv_at hl 6 rfl) ?_
    refine lv_iload S.1 S.2.1 dX5_roundBy_105 (lv_at hl 10 rfl) ?_
    refine lv_if_ge (tgt := 114) S.1 S.2.1 dX5_roundBy_107 (by decide) (fun c28 => ?_) (fun c28 => ?_)
    · replace hF := kit hF c28
      refine lv_iconst (v := 1) S.1 S.2.1 dX5_roundBy_114 (by decide) ?_
      refine lv_iload S.1 S.2.1 dX5_roundBy_115 (lv_at hl 10 rfl) ?_
      refine lv_ishl S.1 S.2.1 dX5_roundBy_117 ?_
      exact wX5_roundBy_J118 S hR hk16 a1 a2 a3 v26 a5 a7 a8 a11 ((1 : Int32) <<< (a11 &&& 31)) a6 _ _ _ _ hF hw (lv_sub hl [2, 3, 4, 5, 1, 0, 7, 8, 10] rfl)
    · replace hF := kif hF c28
      refine lv_iconst (v := 0) S.1 S.2.1 dX5_roundBy_110 (by decide) ?_
      refine lv_goto (tgt := 118) S.1 S.2.1 dX5_roundBy_111 (by decide) ?_
      exact wX5_roundBy_J118 S hR hk16 a1 a2 a3 v26 a5 a7 a8 a11 0 a6 _ _ _ _ hF hw (lv_sub hl [2, 3, 4, 5, 1, 0, 7, 8, 10] rfl)
  · replace hF := kif hF c27
    refine lv_iload S.1 S.2.1 dX5_roundBy_87 (lv_at hl 10 rfl) ?_
    refine lv_iload S.1 S.2.1 dX5_roundBy_89 (lv_at hl 9 rfl) ?_
    refine lv_icmp_eq (tgt := 99) S.1 S.2.1 dX5_roundBy_91 (by decide) (fun c29 => ?_) (fun c29 => ?_)
    · replace hF := kit hF c29
      refine lv_iload S.1 S.2.1 dX5_roundBy_99 (lv_at hl 5 rfl) ?_
      refine lv_istore (lv' := [(5, .int a5), (4, .int v26), (0, .ref (ead E 26)), (1, .int a1), (2, .int a2), (3, .int a3), (6, .int a6), (7, .int a7), (8, .int a8), (9, .int a9), (11, .int a11)]) S.1 S.2.1 dX5_roundBy_101 hl (by decide) rfl (fun ls hl => ?_)
      refine lv_iload S.1 S.2.1 dX5_roundBy_103 (lv_at hl 6 rfl) ?_
      refine lv_iload S.1 S.2.1 dX5_roundBy_105 (lv_at hl 10 rfl) ?_
      refine lv_if_ge (tgt := 114) S.1 S.2.1 dX5_roundBy_107 (by decide) (fun c30 => ?_) (fun c30 => ?_)
      · replace hF := kit hF c30
        refine lv_iconst (v := 1) S.1 S.2.1 dX5_roundBy_114 (by decide) ?_
        refine lv_iload S.1 S.2.1 dX5_roundBy_115 (lv_at hl 10 rfl) ?_
        refine lv_ishl S.1 S.2.1 dX5_roundBy_117 ?_
        exact wX5_roundBy_J118 S hR hk16 a1 a2 a3 v26 a5 a7 a8 a11 ((1 : Int32) <<< (a11 &&& 31)) a6 _ _ _ _ hF hw (lv_sub hl [2, 3, 4, 5, 1, 0, 7, 8, 10] rfl)
      · replace hF := kif hF c30
        refine lv_iconst (v := 0) S.1 S.2.1 dX5_roundBy_110 (by decide) ?_
        refine lv_goto (tgt := 118) S.1 S.2.1 dX5_roundBy_111 (by decide) ?_
        exact wX5_roundBy_J118 S hR hk16 a1 a2 a3 v26 a5 a7 a8 a11 0 a6 _ _ _ _ hF hw (lv_sub hl [2, 3, 4, 5, 1, 0, 7, 8, 10] rfl)
    · replace hF := kif hF c29
      refine lv_iload S.1 S.2.1 dX5_roundBy_94 (lv_at hl 8 rfl) ?_
      refine lv_goto (tgt := 101) S.1 S.2.1 dX5_roundBy_96 (by decide) ?_
      refine lv_istore (lv' := [(5, .int a8), (4, .int v26), (0, .ref (ead E 26)), (1, .int a1), (2, .int a2), (3, .int a3), (6, .int a6), (7, .int a7), (8, .int a8), (9, .int a9), (11, .int a11)]) S.1 S.2.1 dX5_roundBy_101 hl (by decide) rfl (fun ls hl => ?_)
      refine lv_iload S.1 S.2.1 dX5_roundBy_103 (lv_at hl 6 rfl) ?_
      refine lv_iload S.1 S.2.1 dX5_roundBy_105 (lv_at hl 10 rfl) ?_
      refine lv_if_ge (tgt := 114) S.1 S.2.1 dX5_roundBy_107 (by decide) (fun c31 => ?_) (fun c31 => ?_)
      · replace hF := kit hF c31
        refine lv_iconst (v := 1) S.1 S.2.1 dX5_roundBy_114 (by decide) ?_
        refine lv_iload S.1 S.2.1 dX5_roundBy_115 (lv_at hl 10 rfl) ?_
        refine lv_ishl S.1 S.2.1 dX5_roundBy_117 ?_
        exact wX5_roundBy_J118 S hR hk16 a1 a2 a3 v26 a8 a7 a8 a11 ((1 : Int32) <<< (a11 &&& 31)) a6 _ _ _ _ hF hw (lv_sub hl [2, 3, 4, 5, 1, 0, 7, 8, 10] rfl)
      · replace hF := kif hF c31
        refine lv_iconst (v := 0) S.1 S.2.1 dX5_roundBy_110 (by decide) ?_
        refine lv_goto (tgt := 118) S.1 S.2.1 dX5_roundBy_111 (by decide) ?_
        exact wX5_roundBy_J118 S hR hk16 a1 a2 a3 v26 a8 a7 a8 a11 0 a6 _ _ _ _ hF hw (lv_sub hl [2, 3, 4, 5, 1, 0, 7, 8, 10] rfl)
set_option maxHeartbeats 4000000 in
set_option maxRecDepth 100000 in
theorem wX5_roundBy_L16 {p : Program} {l : Launch} {e : Env} {s : State} {m : MethodId} {args : Array Value} {below : List Frame} {meth : Method} {c : Code} {Q : State → Prop} {E : kE} {ω σ1 : kS} {r : Int32} (S : CallFix p m c cX5_roundBy 12 s args kBIG RX5) (hR : kRetI p l e (rml 5) s m args below meth c cX5_roundBy E Q (some .int) r (cmb ω σ1))  : ∀ (n : Nat), ∀ (a1 : Int32) (a2 : Int32) (a3 : Int32) (a4 : Int32) (a5 : Int32) (a6 : Int32) (a7 : Int32) (a8 : Int32) (σ : kS) (H : Heap) (locs : List Loc) (ls : Array Slot), fX5_roundBy_L16 n a1 a2 a3 a4 a5 a6 a7 a8 σ = some (r, σ1) → kWS E s (cmb ω σ) H locs → lv_has ls 12 [(0, .ref (ead E 26)), (1, .int a1), (2, .int a2), (3, .int a3), (4, .int a4), (5, .int a5), (6, .int a6), (7, .int a7), (8, .int a8)] → W p l e (rml 5) s m args below meth c H locs 0 0 Q (F0 m 16 ls []) := by
  intro n
  induction n with
  | zero =>
    intro a1 a2 a3 a4 a5 a6 a7 a8 σ H locs ls hF hw hl
    exact absurd hF (fun h => nomatch h)
  | succ n ih =>
    intro a1 a2 a3 a4 a5 a6 a7 a8 σ H locs ls hF hw hl
    rw [fX5_roundBy_L16] at hF
    refine lv_iload S.1 S.2.1 dX5_roundBy_16 (lv_at hl 8 rfl) ?_
    refine lv_iload_n S.1 S.2.1 dX5_roundBy_18 rfl (lv_at hl 2 rfl) ?_
    refine lv_icmp_ge (tgt := 176) S.1 S.2.1 dX5_roundBy_19 (by decide) (fun c1 => ?_) (fun c1 => ?_)
    · replace hF := kit hF c1
      refine lv_iload_n S.1 S.2.1 dX5_roundBy_176 rfl (lv_at hl 3 rfl) ?_
      refine lv_bipush (v := 10) S.1 S.2.1 dX5_roundBy_177 (by decide) ?_
      refine lv_icmp_lt (tgt := 208) S.1 S.2.1 dX5_roundBy_179 (by decide) (fun c2 => ?_) (fun c2 => ?_)
      · replace hF := kit hF c2
        refine lv_iload_n S.1 S.2.1 dX5_roundBy_208 rfl (lv_at hl 3 rfl) ?_
        refine lv_if_ne (tgt := 217) S.1 S.2.1 dX5_roundBy_209 (by decide) (fun c3 => ?_) (fun c3 => ?_)
        · replace hF := kif hF c3
          refine lv_iload_n S.1 S.2.1 dX5_roundBy_217 rfl (lv_at hl 3 rfl) ?_
          refine lv_iconst (v := 1) S.1 S.2.1 dX5_roundBy_218 (by decide) ?_
          refine lv_icmp_ne (tgt := 227) S.1 S.2.1 dX5_roundBy_219 (by decide) (fun c4 => ?_) (fun c4 => ?_)
          · replace hF := kif hF c4
            refine lv_iload_n S.1 S.2.1 dX5_roundBy_227 rfl (lv_at hl 3 rfl) ?_
            refine lv_iconst (v := 2) S.1 S.2.1 dX5_roundBy_228 (by decide) ?_
            refine lv_icmp_ne (tgt := 237) S.1 S.2.1 dX5_roundBy_229 (by decide) (fun c5 => ?_) (fun c5 => ?_)
            · replace hF := kif hF c5
              refine lv_iload S.1 S.2.1 dX5_roundBy_237 (lv_at hl 7 rfl) ?_
              obtain ⟨rfl, rfl⟩ := kret hF
              exact hR _ _ _ _ dX5_roundBy_239 hw (fun h => nomatch h)
            · replace hF := kit hF c5
              refine lv_iload S.1 S.2.1 dX5_roundBy_232 (lv_at hl 6 rfl) ?_
              refine lv_goto (tgt := 239) S.1 S.2.1 dX5_roundBy_234 (by decide) ?_
              obtain ⟨rfl, rfl⟩ := kret hF
              exact hR _ _ _ _ dX5_roundBy_239 hw (fun h => nomatch h)
          · replace hF := kit hF c4
            refine lv_iload S.1 S.2.1 dX5_roundBy_222 (lv_at hl 5 rfl) ?_
            refine lv_goto (tgt := 239) S.1 S.2.1 dX5_roundBy_224 (by decide) ?_
            obtain ⟨rfl, rfl⟩ := kret hF
            exact hR _ _ _ _ dX5_roundBy_239 hw (fun h => nomatch h)
        · replace hF := kit hF c3
          refine lv_iload S.1 S.2.1 dX5_roundBy_212 (lv_at hl 4 rfl) ?_
          refine lv_goto (tgt := 239) S.1 S.2.1 dX5_roundBy_214 (by decide) ?_
          obtain ⟨rfl, rfl⟩ := kret hF
          exact hR _ _ _ _ dX5_roundBy_239 hw (fun h => nomatch h)
      · replace hF := kif hF c2
        refine lv_aload_n S.1 S.2.1 dX5_roundBy_182 rfl (lv_at hl 0 rfl) ?_
        refine lv_iload_n S.1 S.2.1 dX5_roundBy_183 rfl (lv_at hl 3 rfl) ?_
        refine lv_bipush (v := 10) S.1 S.2.1 dX5_roundBy_184 (by decide) ?_
        refine lv_isub S.1 S.2.1 dX5_roundBy_186 ?_
        obtain ⟨r8, σ7, e6, hF⟩ := kbi_e hF
        refine kcX5_noPerson S hw cv_X5_162 ⟨Nat.le_of_ble_eq_true rfl, Nat.le_of_ble_eq_true rfl⟩ e6 hl.1 (Nat.le_of_ble_eq_true rfl) dX5_roundBy_187 (fun H locs hw hz9 => ?_)
        refine lv_if_eq (tgt := 198) S.1 S.2.1 dX5_roundBy_190 (by decide) (fun c10 => ?_) (fun c10 => ?_)
        · replace hF := kit hF c10
          refine lv_aload_n S.1 S.2.1 dX5_roundBy_198 rfl (lv_at hl 0 rfl) ?_
          refine gf_X5_16 S hw dX5_roundBy_199 ?_
          refine lv_iload_n S.1 S.2.1 dX5_roundBy_202 rfl (lv_at hl 3 rfl) ?_
          refine lv_bipush (v := 10) S.1 S.2.1 dX5_roundBy_203 (by decide) ?_
          refine lv_isub S.1 S.2.1 dX5_roundBy_205 ?_
          obtain ⟨hb11, hF⟩ := kin hF
          refine km_iald (q := 3) S hw rfl (Nat.le_of_ble_eq_true rfl) hb11 dX5_roundBy_206 ?_
          obtain ⟨rfl, rfl⟩ := kret hF
          exact hR _ _ _ _ dX5_roundBy_207 hw (fun h => nomatch h)
        · replace hF := kif hF c10
          refine lv_bipush (v := (-9)) S.1 S.2.1 dX5_roundBy_193 (by decide) ?_
          refine lv_goto (tgt := 207) S.1 S.2.1 dX5_roundBy_195 (by decide) ?_
          obtain ⟨rfl, rfl⟩ := kret hF
          exact hR _ _ _ _ dX5_roundBy_207 hw (fun h => nomatch h)
    · replace hF := kif hF c1
      refine lv_aload_n S.1 S.2.1 dX5_roundBy_22 rfl (lv_at hl 0 rfl) ?_
      refine gf_X5_64 S hw dX5_roundBy_23 ?_
      refine lv_iload_n S.1 S.2.1 dX5_roundBy_26 rfl (lv_at hl 1 rfl) ?_
      refine lv_iconst (v := 2) S.1 S.2.1 dX5_roundBy_27 (by decide) ?_
      refine lv_iload S.1 S.2.1 dX5_roundBy_28 (lv_at hl 8 rfl) ?_
      refine lv_imul S.1 S.2.1 dX5_roundBy_30 ?_
      refine lv_iadd S.1 S.2.1 dX5_roundBy_31 ?_
      obtain ⟨hb12, hF⟩ := kin hF
      refine km_iald (q := 19) S hw rfl (Nat.le_of_ble_eq_true rfl) hb12 dX5_roundBy_32 ?_
      refine lv_topi (fun v13 ev13 => ?_)
      replace hF := klb hF ev13
      refine lv_istore (lv' := [(9, .int v13), (0, .ref (ead E 26)), (1, .int a1), (2, .int a2), (3, .int a3), (4, .int a4), (5, .int a5), (6, .int a6), (7, .int a7), (8, .int a8)]) S.1 S.2.1 dX5_roundBy_33 hl (by decide) rfl (fun ls hl => ?_)
      refine lv_aload_n S.1 S.2.1 dX5_roundBy_35 rfl (lv_at hl 1 rfl) ?_
      refine gf_X5_64 S hw dX5_roundBy_36 ?_
      refine lv_iload_n S.1 S.2.1 dX5_roundBy_39 rfl (lv_at hl 2 rfl) ?_
      refine lv_iconst (v := 2) S.1 S.2.1 dX5_roundBy_40 (by decide) ?_
      refine lv_iload S.1 S.2.1 dX5_roundBy_41 (lv_at hl 9 rfl) ?_
      refine lv_imul S.1 S.2.1 dX5_roundBy_43 ?_
      refine lv_iadd S.1 S.2.1 dX5_roundBy_44 ?_
      refine lv_iconst (v := 1) S.1 S.2.1 dX5_roundBy_45 (by decide) ?_
      refine lv_iadd S.1 S.2.1 dX5_roundBy_46 ?_
      obtain ⟨hb14, hF⟩ := kin hF
      refine km_iald (q := 19) S hw rfl (Nat.le_of_ble_eq_true rfl) hb14 dX5_roundBy_47 ?_
      refine lv_topi (fun v15 ev15 => ?_)
      replace hF := klb hF ev15
      refine lv_istore (lv' := [(10, .int v15), (9, .int v13), (0, .ref (ead E 26)), (1, .int a1), (2, .int a2), (3, .int a3), (4, .int a4), (5, .int a5), (6, .int a6), (7, .int a7), (8, .int a8)]) S.1 S.2.1 dX5_roundBy_48 hl (by decide) rfl (fun ls hl => ?_)
      refine lv_iload S.1 S.2.1 dX5_roundBy_50 (lv_at hl 0 rfl) ?_
      refine lv_bipush (v := 8) S.1 S.2.1 dX5_roundBy_52 (by decide) ?_
      refine lv_icmp_ne (tgt := 139) S.1 S.2.1 dX5_roundBy_54 (by decide) (fun c16 => ?_) (fun c16 => ?_)
      · replace hF := kif hF c16
        refine lv_iload S.1 S.2.1 dX5_roundBy_139 (lv_at hl 0 rfl) ?_
        refine lv_bipush (v := 8) S.1 S.2.1 dX5_roundBy_141 (by decide) ?_
        refine lv_icmp_ge (tgt := 158) S.1 S.2.1 dX5_roundBy_143 (by decide) (fun c17 => ?_) (fun c17 => ?_)
        · replace hF := kit hF c17
          refine lv_aload_n S.1 S.2.1 dX5_roundBy_158 rfl (lv_at hl 2 rfl) ?_
          refine gf_X5_19 S hw dX5_roundBy_159 ?_
          refine lv_iload S.1 S.2.1 dX5_roundBy_162 (lv_at hl 1 rfl) ?_
          refine lv_iload S.1 S.2.1 dX5_roundBy_164 (lv_at hl 0 rfl) ?_
          refine lv_bipush (v := 10) S.1 S.2.1 dX5_roundBy_166 (by decide) ?_
          refine lv_isub S.1 S.2.1 dX5_roundBy_168 ?_
          obtain ⟨hb18, hF⟩ := kin hF
          refine km_iast (q := 4) S hw rfl (Nat.le_of_ble_eq_true rfl) hb18 dX5_roundBy_169 (fun H locs hw => ?_)
          obtain ⟨v19, ev19⟩ : ∃ y : Int32, y = a8 + 1 := ⟨_, rfl⟩
          replace hF := klb hF ev19
          refine lv_iinc (v := v19) (lv' := [(8, .int v19), (10, .int v15), (9, .int v13), (0, .ref (ead E 26)), (1, .int a1), (2, .int a2), (3, .int a3), (4, .int a4), (5, .int a5), (6, .int a6), (7, .int a7)]) S.1 S.2.1 dX5_roundBy_170 hl (k := 10) rfl (by rw [ev19]; rfl) (by decide) rfl (fun ls hl => ?_)
          refine lv_goto (tgt := 16) S.1 S.2.1 dX5_roundBy_173 (by decide) ?_
          exact ih a1 a2 a3 a4 a5 a6 a7 v19 _ _ _ _ hF hw (lv_sub hl [3, 4, 5, 6, 7, 8, 9, 10, 0] rfl)
        · replace hF := kif hF c17
          refine lv_aload_n S.1 S.2.1 dX5_roundBy_146 rfl (lv_at hl 2 rfl) ?_
          refine gf_X5_13 S hw dX5_roundBy_147 ?_
          refine lv_iload S.1 S.2.1 dX5_roundBy_150 (lv_at hl 1 rfl) ?_
          refine lv_iload S.1 S.2.1 dX5_roundBy_152 (lv_at hl 0 rfl) ?_
          obtain ⟨hb20, hF⟩ := kin hF
          refine km_iast (q := 2) S hw rfl (Nat.le_of_ble_eq_true rfl) hb20 dX5_roundBy_154 (fun H locs hw => ?_)
          refine lv_goto (tgt := 170) S.1 S.2.1 dX5_roundBy_155 (by decide) ?_
          obtain ⟨v21, ev21⟩ : ∃ y : Int32, y = a8 + 1 := ⟨_, rfl⟩
          replace hF := klb hF ev21
          refine lv_iinc (v := v21) (lv' := [(8, .int v21), (10, .int v15), (9, .int v13), (0, .ref (ead E 26)), (1, .int a1), (2, .int a2), (3, .int a3), (4, .int a4), (5, .int a5), (6, .int a6), (7, .int a7)]) S.1 S.2.1 dX5_roundBy_170 hl (k := 10) rfl (by rw [ev21]; rfl) (by decide) rfl (fun ls hl => ?_)
          refine lv_goto (tgt := 16) S.1 S.2.1 dX5_roundBy_173 (by decide) ?_
          exact ih a1 a2 a3 a4 a5 a6 a7 v21 _ _ _ _ hF hw (lv_sub hl [3, 4, 5, 6, 7, 8, 9, 10, 0] rfl)
      · replace hF := kit hF c16
        refine lv_aload_n S.1 S.2.1 dX5_roundBy_57 rfl (lv_at hl 2 rfl) ?_
        refine lv_iload S.1 S.2.1 dX5_roundBy_58 (lv_at hl 1 rfl) ?_
        obtain ⟨r24, σ23, e22, hF⟩ := kbi_e hF
        refine kcX5_sent S hw cv_X5_174 ⟨Nat.le_of_ble_eq_true rfl, Nat.le_of_ble_eq_true rfl⟩ e22 hl.1 (Nat.le_of_ble_eq_true rfl) dX5_roundBy_60 (fun H locs hw => ?_)
        refine lv_istore (lv' := [(11, .int r24), (10, .int v15), (9, .int v13), (0, .ref (ead E 26)), (1, .int a1), (2, .int a2), (3, .int a3), (4, .int a4), (5, .int a5), (6, .int a6), (7, .int a7), (8, .int a8)]) S.1 S.2.1 dX5_roundBy_63 hl (by decide) rfl (fun ls hl => ?_)
        refine lv_iload S.1 S.2.1 dX5_roundBy_65 (lv_at hl 7 rfl) ?_
        refine lv_iload S.1 S.2.1 dX5_roundBy_67 (lv_at hl 0 rfl) ?_
        refine lv_iload S.1 S.2.1 dX5_roundBy_69 (lv_at hl 2 rfl) ?_
        refine lv_icmp_ne (tgt := 78) S.1 S.2.1 dX5_roundBy_71 (by decide) (fun c25 => ?_) (fun c25 => ?_)
        · replace hF := kif hF c25
          refine lv_iconst (v := 0) S.1 S.2.1 dX5_roundBy_78 (by decide) ?_
          exact wX5_roundBy_J79 S hR ih a1 a2 a3 a5 a6 a7 a8 v13 r24 0 a4 _ _ _ _ hF hw (lv_sub hl [3, 4, 5, 6, 8, 9, 10, 11, 2, 0] rfl)
        · replace hF := kit hF c25
          refine lv_iconst (v := 1) S.1 S.2.1 dX5_roundBy_74 (by decide) ?_
          refine lv_goto (tgt := 79) S.1 S.2.1 dX5_roundBy_75 (by decide) ?_
          exact wX5_roundBy_J79 S hR ih a1 a2 a3 a5 a6 a7 a8 v13 r24 1 a4 _ _ _ _ hF hw (lv_sub hl [3, 4, 5, 6, 8, 9, 10, 11, 2, 0] rfl)
set_option maxHeartbeats 4000000 in
set_option maxRecDepth 100000 in
theorem mX5_roundBy {l : Launch} {E : kE} {ω σ σ1 : kS} {r : Int32} {a1 : Int32} {a2 : Int32} {a3 : Int32}  (hF : fX5_roundBy a1 a2 a3 σ = some (r, σ1)) : kMetI l yX5_roundBy cX5_roundBy 12 (some .int) 5 E [.ref (ead E 26), .int a1, .int a2, .int a3] (cmb ω σ) r (cmb ω σ1) := by
  refine kMetI.of (by decide +kernel) (Nat.le_of_ble_eq_true rfl) (Or.inl rfl) ?_
  intro p e s m args below meth c Q ls S hR hw hl
  have hl : lv_has ls 12 [(0, .ref (ead E 26)), (1, .int a1), (2, .int a2), (3, .int a3)] := hl
  unfold fX5_roundBy at hF
  refine lv_iconst (v := 0) S.1 S.2.1 dX5_roundBy_0 (by decide) ?_
  refine lv_istore (lv' := [(4, .int 0), (0, .ref (ead E 26)), (1, .int a1), (2, .int a2), (3, .int a3)]) S.1 S.2.1 dX5_roundBy_1 hl (by decide) rfl (fun ls hl => ?_)
  refine lv_bipush (v := (-9)) S.1 S.2.1 dX5_roundBy_3 (by decide) ?_
  refine lv_istore (lv' := [(5, .int (-9)), (4, .int 0), (0, .ref (ead E 26)), (1, .int a1), (2, .int a2), (3, .int a3)]) S.1 S.2.1 dX5_roundBy_5 hl (by decide) rfl (fun ls hl => ?_)
  refine lv_iconst (v := 0) S.1 S.2.1 dX5_roundBy_7 (by decide) ?_
  refine lv_istore (lv' := [(6, .int 0), (5, .int (-9)), (4, .int 0), (0, .ref (ead E 26)), (1, .int a1), (2, .int a2), (3, .int a3)]) S.1 S.2.1 dX5_roundBy_8 hl (by decide) rfl (fun ls hl => ?_)
  refine lv_iconst (v := 0) S.1 S.2.1 dX5_roundBy_10 (by decide) ?_
  refine lv_istore (lv' := [(7, .int 0), (6, .int 0), (5, .int (-9)), (4, .int 0), (0, .ref (ead E 26)), (1, .int a1), (2, .int a2), (3, .int a3)]) S.1 S.2.1 dX5_roundBy_11 hl (by decide) rfl (fun ls hl => ?_)
  refine lv_iconst (v := 0) S.1 S.2.1 dX5_roundBy_13 (by decide) ?_
  refine lv_istore (lv' := [(8, .int 0), (7, .int 0), (6, .int 0), (5, .int (-9)), (4, .int 0), (0, .ref (ead E 26)), (1, .int a1), (2, .int a2), (3, .int a3)]) S.1 S.2.1 dX5_roundBy_14 hl (by decide) rfl (fun ls hl => ?_)
  exact wX5_roundBy_L16 S hR 1000 a1 a2 a3 0 (-9) 0 0 0 _ _ _ _ hF hw (lv_sub hl [5, 6, 7, 8, 4, 3, 2, 1, 0] rfl)
set_option maxRecDepth 100000 in
theorem kcX5_roundBy {p : Program} {l : Launch} {e : Env} {R : Room} {s : State} {m : MethodId} {args : Array Value} {below : List Frame} {meth : Method} {c : Code} {H : Heap} {locs : List Loc} {cells slots : Nat} {Q : State → Prop} {cc : ByteArray} {pc : Nat} {ls : Array Slot} {rest : List Value} {E : kE} {σ ω σ1 : kS} {nL index : Nat} {own : String} {r : Int32} (S : CallFix p m c cc nL s args kBIG own) (hw : kWS E s (cmb ω σ) H locs) (cw : kV own RX5 index yX5_roundBy cX5_roundBy 12 (some .int) 3) (hR : 5 + 1 ≤ R.frames ∧ 8 + (12 + 11) + 40 * 5 ≤ R.locals) {a1 : Int32} {a2 : Int32} {a3 : Int32}  (hF : fX5_roundBy a1 a2 a3 σ = some (r, σ1)) (hls : ls.size = nL) (hW : (rest.map fun v => v.category).sum ≤ 8) (hdg : decode cc pc = .ok (.invokevirtual index, 3)) (kk : ∀ (H1 : Heap) (locs1 : List Loc), kWS E s (cmb ω σ1) H1 locs1 → W p l e R s m args below meth c H1 locs1 cells slots Q (F0 m (pc + 3) ls (.int r :: rest))) (hf : cells ≤ R.cells ∧ slots ≤ R.slots := by exact ⟨Nat.le_of_ble_eq_true rfl, Nat.le_of_ble_eq_true rfl⟩) : W p l e R s m args below meth c H locs cells slots Q (F0 m pc ls (.int a3 :: .int a2 :: .int a1 :: .ref (ead E 26) :: rest)) := kr_calli (mc := 0) (y := yX5_roundBy) (b := cX5_roundBy) (n := 0) (lv := 0) (As := []) (ret := some .int) hw (kr_runV (As := [.int a1, .int a2, .int a3]) (q := 26) S hw ((mX5_roundBy (l := l) (E := E) (ω := ω) hF) H.size) cw hR rfl (by decide) rfl rfl hls _ rfl hW hdg hf) (fun H1 locs1 h _ => kk H1 locs1 h)
