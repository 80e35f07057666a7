set_option maxHeartbeats 4000000 in
set_option maxRecDepth 100000 in
theorem wX5_reading_J24 {p : Program} {l : Launch} {e : Env} {s : State} {m : MethodId} {args : Array Value} {below : List Frame} {meth : Method} {c : Code} {Q : State → Prop} {E : kE} {ω σ1 : kS} {r : Int32} (S : CallFix p m c cX5_reading 3 s args kBIG RX5) (hR : kRetI p l e (rml 2) s m args below meth c cX5_reading E Q (some .int) r (cmb ω σ1))  : ∀ (a1 : Int32) (a2 : Int32) (σ : kS) (H : Heap) (locs : List Loc) (ls : Array Slot), fX5_reading_J24 a1 a2 σ = some (r, σ1) → kWS E s (cmb ω σ) H locs → lv_has ls 3 [(0, .ref (ead E 26)), (1, .int a1), (2, .int a2)] → W p l e (rml 2) s m args below meth c H locs 0 0 Q (F0 m 24 ls []) := by
  intro a1 a2 σ H locs ls hF hw hl
  unfold fX5_reading_J24 at hF
  refine lv_aload_n S.1 S.2.1 dX5_reading_24 rfl (lv_at hl 0 rfl) ?_
  refine gf_X5_144 S hw dX5_reading_25 ?_
  refine lv_bipush (v := 8) S.1 S.2.1 dX5_reading_28 (by decide) ?_
  refine lv_icmp_ne (tgt := 36) S.1 S.2.1 dX5_reading_30 (by decide) (fun c12 => ?_) (fun c12 => ?_)
  · replace hF := kif hF c12
    refine lv_aload_n S.1 S.2.1 dX5_reading_36 rfl (lv_at hl 0 rfl) ?_
    refine gf_X5_52 S hw dX5_reading_37 ?_
    refine lv_aload_n S.1 S.2.1 dX5_reading_40 rfl (lv_at hl 0 rfl) ?_
    refine gf_X5_144 S hw dX5_reading_41 ?_
    refine lv_iload_n S.1 S.2.1 dX5_reading_44 rfl (lv_at hl 1 rfl) ?_
    obtain ⟨hb13, hF⟩ := kin hF
    refine km_iast (q := 15) S hw rfl (Nat.le_of_ble_eq_true rfl) hb13 dX5_reading_45 (fun H locs hw => ?_)
    refine lv_aload_n S.1 S.2.1 dX5_reading_46 rfl (lv_at hl 0 rfl) ?_
    refine gf_X5_55 S hw dX5_reading_47 ?_
    refine lv_aload_n S.1 S.2.1 dX5_reading_50 rfl (lv_at hl 0 rfl) ?_
    refine gf_X5_144 S hw dX5_reading_51 ?_
    refine lv_iload_n S.1 S.2.1 dX5_reading_54 rfl (lv_at hl 2 rfl) ?_
    obtain ⟨hb14, hF⟩ := kin hF
    refine km_iast (q := 16) S hw rfl (Nat.le_of_ble_eq_true rfl) hb14 dX5_reading_55 (fun H locs hw => ?_)
    refine lv_aload_n S.1 S.2.1 dX5_reading_56 rfl (lv_at hl 0 rfl) ?_
    refine lv_dup S.1 S.2.1 dX5_reading_57 rfl ?_
    refine gf_X5_144 S hw dX5_reading_58 ?_
    refine lv_iconst (v := 1) S.1 S.2.1 dX5_reading_61 (by decide) ?_
    refine lv_iadd S.1 S.2.1 dX5_reading_62 ?_
    refine pf_X5_144 S hw dX5_reading_63 (fun H locs hw => ?_)
    refine lv_aload_n S.1 S.2.1 dX5_reading_66 rfl (lv_at hl 0 rfl) ?_
    refine gf_X5_144 S hw dX5_reading_67 ?_
    refine lv_iconst (v := 1) S.1 S.2.1 dX5_reading_70 (by decide) ?_
    refine lv_isub S.1 S.2.1 dX5_reading_71 ?_
    obtain ⟨rfl, rfl⟩ := kret hF
    exact hR _ _ _ _ dX5_reading_72 hw (fun h => nomatch h)
  · replace hF := kit hF c12
    refine lv_bipush (v := (-4)) S.1 S.2.1 dX5_reading_33 (by decide) ?_
    obtain ⟨rfl, rfl⟩ := kret hF
    exact hR _ _ _ _ dX5_reading_35 hw (fun h => nomatch h)
set_option maxHeartbeats 4000000 in
set_option maxRecDepth 100000 in
theorem mX5_reading {l : Launch} {E : kE} {ω σ σ1 : kS} {r : Int32} {a1 : Int32} {a2 : Int32}  (hF : fX5_reading a1 a2 σ = some (r, σ1)) : kMetI l yX5_reading cX5_reading 3 (some .int) 2 E [.ref (ead E 26), .int a1, .int a2] (cmb ω σ) r (cmb ω σ1) := by
  refine kMetI.of (by decide +kernel) (Nat.le_of_ble_eq_true rfl) (Or.inl rfl) ?_
  intro p e s m args below meth c Q ls S hR hw hl
  have hl : lv_has ls 3 [(0, .ref (ead E 26)), (1, .int a1), (2, .int a2)] := hl
  unfold fX5_reading at hF
  refine lv_aload_n S.1 S.2.1 dX5_reading_0 rfl (lv_at hl 0 rfl) ?_
  refine lv_iload_n S.1 S.2.1 dX5_reading_1 rfl (lv_at hl 1 rfl) ?_
  obtain ⟨r3, σ2, e1, hF⟩ := kbi_e hF
  refine kcX5_noPerson S hw cv_X5_162 ⟨Nat.le_of_ble_eq_true rfl, Nat.le_of_ble_eq_true rfl⟩ e1 hl.1 (Nat.le_of_ble_eq_true rfl) dX5_reading_2 (fun H locs hw hz4 => ?_)
  refine lv_if_ne (tgt := 22) S.1 S.2.1 dX5_reading_5 (by decide) (fun c5 => ?_) (fun c5 => ?_)
  · replace hF := kif hF c5
    refine lv_iconst (v := (-1)) S.1 S.2.1 dX5_reading_22 (by decide) ?_
    obtain ⟨rfl, rfl⟩ := kret hF
    exact hR _ _ _ _ dX5_reading_23 hw (fun h => nomatch h)
  · replace hF := kit hF c5
    refine lv_aload_n S.1 S.2.1 dX5_reading_8 rfl (lv_at hl 0 rfl) ?_
    refine lv_iload_n S.1 S.2.1 dX5_reading_9 rfl (lv_at hl 2 rfl) ?_
    obtain ⟨r8, σ7, e6, hF⟩ := kbi_e hF
    refine kcX5_noPerson S hw cv_X5_162 ⟨Nat.le_of_ble_eq_true rfl, Nat.le_of_ble_eq_true rfl⟩ e6 hl.1 (Nat.le_of_ble_eq_true rfl) dX5_reading_10 (fun H locs hw hz9 => ?_)
    refine lv_if_eq (tgt := 24) S.1 S.2.1 dX5_reading_13 (by decide) (fun c10 => ?_) (fun c10 => ?_)
    · replace hF := kit hF c10
      exact wX5_reading_J24 S hR a1 a2 _ _ _ _ hF hw (lv_sub hl [0, 1, 2] rfl)
    · replace hF := kif hF c10
      refine lv_iload_n S.1 S.2.1 dX5_reading_16 rfl (lv_at hl 2 rfl) ?_
      refine lv_bipush (v := (-9)) S.1 S.2.1 dX5_reading_17 (by decide) ?_
      refine lv_icmp_eq (tgt := 24) S.1 S.2.1 dX5_reading_19 (by decide) (fun c11 => ?_) (fun c11 => ?_)
      · replace hF := kit hF c11
        exact wX5_reading_J24 S hR a1 a2 _ _ _ _ hF hw (lv_sub hl [0, 1, 2] rfl)
      · replace hF := kif hF c11
        refine lv_iconst (v := (-1)) S.1 S.2.1 dX5_reading_22 (by decide) ?_
        obtain ⟨rfl, rfl⟩ := kret hF
        exact hR _ _ _ _ dX5_reading_23 hw (fun h => nomatch h)
set_option maxRecDepth 100000 in
theorem kcX5_reading {p : Program} {l : Launch} {e : Env} {R : Room} {s : State} {m : MethodId} {args : Array Value} {below : List Frame} {meth : Method} {c : Code} {H : Heap} {locs : List Loc} {cells slots : Nat} {Q : State → Prop} {cc : ByteArray} {pc : Nat} {ls : Array Slot} {rest : List Value} {E : kE} {σ ω σ1 : kS} {nL index : Nat} {own : String} {r : Int32} (S : CallFix p m c cc nL s args kBIG own) (hw : kWS E s (cmb ω σ) H locs) (cw : kV own RX5 index yX5_reading cX5_reading 3 (some .int) 2) (hR : 2 + 1 ≤ R.frames ∧ 8 + (3 + 11) + 40 * 2 ≤ R.locals) {a1 : Int32} {a2 : Int32}  (hF : fX5_reading a1 a2 σ = some (r, σ1)) (hls : ls.size = nL) (hW : (rest.map fun v => v.category).sum ≤ 8) (hdg : decode cc pc = .ok (.invokevirtual index, 3)) (kk : ∀ (H1 : Heap) (locs1 : List Loc), kWS E s (cmb ω σ1) H1 locs1 → W p l e R s m args below meth c H1 locs1 cells slots Q (F0 m (pc + 3) ls (.int r :: rest))) (hf : cells ≤ R.cells ∧ slots ≤ R.slots := by exact ⟨Nat.le_of_ble_eq_true rfl, Nat.le_of_ble_eq_true rfl⟩) : W p l e R s m args below meth c H locs cells slots Q (F0 m pc ls (.int a2 :: .int a1 :: .ref (ead E 26) :: rest)) := kr_calli (mc := 0) (y := yX5_reading) (b := cX5_reading) (n := 0) (lv := 0) (As := []) (ret := some .int) hw (kr_runV (As := [.int a1, .int a2]) (q := 26) S hw ((mX5_reading (l := l) (E := E) (ω := ω) hF) H.size) cw hR rfl (by decide) rfl rfl hls _ rfl hW hdg hf) (fun H1 locs1 h _ => kk H1 locs1 h)
set_option maxHeartbeats 4000000 in
set_option maxRecDepth 100000 in
theorem mX5_back {l : Launch} {E : kE} {ω σ σ1 : kS} {r : Int32} {a1 : Int32}  (hF : fX5_back a1 σ = some (r, σ1)) : kMetI l yX5_back cX5_back 2 (some .int) 1 E [.ref (ead E 26), .int a1] (cmb ω σ) r (cmb ω σ1) := by
  refine kMetI.of (by decide +kernel) (Nat.le_of_ble_eq_true rfl) (Or.inl rfl) ?_
  intro p e s m args below meth c Q ls S hR hw hl
  have hl : lv_has ls 2 [(0, .ref (ead E 26)), (1, .int a1)] := hl
  unfold fX5_back at hF
  refine lv_iload_n S.1 S.2.1 dX5_back_0 rfl (lv_at hl 1 rfl) ?_
  refine lv_i2l S.1 S.2.1 dX5_back_1 rfl ?_
  refine lv_lconst (v := 0) S.1 S.2.1 dX5_back_2 (by decide) ?_
  refine lv_aload_n S.1 S.2.1 dX5_back_3 rfl (lv_at hl 0 rfl) ?_
  refine gf_X5_144 S hw dX5_back_4 ?_
  refine lv_i2l S.1 S.2.1 dX5_back_7 rfl ?_
  obtain ⟨r3, σ2, e1, hF⟩ := kbi_e hF
  refine kcX5_in S hw cv_X5_83 ⟨Nat.le_of_ble_eq_true rfl, Nat.le_of_ble_eq_true rfl⟩ e1 hl.1 (Nat.le_of_ble_eq_true rfl) dX5_back_8 (fun H locs hw hz4 => ?_)
  refine lv_if_ne (tgt := 17) S.1 S.2.1 dX5_back_11 (by decide) (fun c5 => ?_) (fun c5 => ?_)
  · replace hF := kif hF c5
    refine lv_aload_n S.1 S.2.1 dX5_back_17 rfl (lv_at hl 0 rfl) ?_
    refine lv_dup S.1 S.2.1 dX5_back_18 rfl ?_
    refine gf_X5_144 S hw dX5_back_19 ?_
    refine lv_iload_n S.1 S.2.1 dX5_back_22 rfl (lv_at hl 1 rfl) ?_
    refine lv_isub S.1 S.2.1 dX5_back_23 ?_
    refine pf_X5_144 S hw dX5_back_24 (fun H locs hw => ?_)
    refine lv_aload_n S.1 S.2.1 dX5_back_27 rfl (lv_at hl 0 rfl) ?_
    refine gf_X5_144 S hw dX5_back_28 ?_
    obtain ⟨rfl, rfl⟩ := kret hF
    exact hR _ _ _ _ dX5_back_31 hw (fun h => nomatch h)
  · replace hF := kit hF c5
    refine lv_bipush (v := (-2)) S.1 S.2.1 dX5_back_14 (by decide) ?_
    obtain ⟨rfl, rfl⟩ := kret hF
    exact hR _ _ _ _ dX5_back_16 hw (fun h => nomatch h)
set_option maxRecDepth 100000 in
theorem kcX5_back {p : Program} {l : Launch} {e : Env} {R : Room} {s : State} {m : MethodId} {args : Array Value} {below : List Frame} {meth : Method} {c : Code} {H : Heap} {locs : List Loc} {cells slots : Nat} {Q : State → Prop} {cc : ByteArray} {pc : Nat} {ls : Array Slot} {rest : List Value} {E : kE} {σ ω σ1 : kS} {nL index : Nat} {own : String} {r : Int32} (S : CallFix p m c cc nL s args kBIG own) (hw : kWS E s (cmb ω σ) H locs) (cw : kV own RX5 index yX5_back cX5_back 2 (some .int) 1) (hR : 1 + 1 ≤ R.frames ∧ 8 + (2 + 11) + 40 * 1 ≤ R.locals) {a1 : Int32}  (hF : fX5_back a1 σ = some (r, σ1)) (hls : ls.size = nL) (hW : (rest.map fun v => v.category).sum ≤ 8) (hdg : decode cc pc = .ok (.invokevirtual index, 3)) (kk : ∀ (H1 : Heap) (locs1 : List Loc), kWS E s (cmb ω σ1) H1 locs1 → W p l e R s m args below meth c H1 locs1 cells slots Q (F0 m (pc + 3) ls (.int r :: rest))) (hf : cells ≤ R.cells ∧ slots ≤ R.slots := by exact ⟨Nat.le_of_ble_eq_true rfl, Nat.le_of_ble_eq_true rfl⟩) : W p l e R s m args below meth c H locs cells slots Q (F0 m pc ls (.int a1 :: .ref (ead E 26) :: rest)) := kr_calli (mc := 0) (y := yX5_back) (b := cX5_back) (n := 0) (lv := 0) (As := []) (ret := some .int) hw (kr_runV (As := [.int a1]) (q := 26) S hw ((mX5_back (l := l) (E := E) (ω := ω) hF) H.size) cw hR rfl (by decide) rfl rfl hls _ rfl hW hdg hf) (fun H1 locs1 h _ => kk H1 locs1 h)
set_option maxHeartbeats 4000000 in
set_option maxRecDepth 100000 in
theorem wX5_areSo_L4 {p : Program} {l : Launch} {e : Env} {s : State} {m : MethodId} {args : Array Value} {below : List Frame} {meth : Method} {c : Code} {Q : State → Prop} {E : kE} {ω σ1 : kS} {r : Int32} (S : CallFix p m c cX5_areSo 3 s args kBIG RX5) (hR : kRetI p l e (rml 4) s m args below meth c cX5_areSo E Q (some .boolean) r (cmb ω σ1))  : ∀ (n : Nat), ∀ (a1 : Int32) (a2 : Int32) (hz1 : a1 = 0 ∨ a1 = 1) (σ : kS) (H : Heap) (locs : List Loc) (ls : Array Slot), fX5_areSo_L4 n a1 a2 σ = some (r, σ1) → kWS E s (cmb ω σ) H locs → lv_has ls 3 [(0, .ref (ead E 26)), (1, .int a1), (2, .int a2)] → W p l e (rml 4) s m args below meth c H locs 0 0 Q (F0 m 4 ls []) := by
  intro n
  induction n with
  | zero =>
    intro a1 a2 hz1 σ H locs ls hF hw hl
    exact absurd hF (fun h => nomatch h)
  | succ n ih =>
    intro a1 a2 hz1 σ H locs ls hF hw hl
    rw [fX5_areSo_L4] at hF
    refine lv_iload_n S.1 S.2.1 dX5_areSo_4 rfl (lv_at hl 2 rfl) ?_
    refine lv_aload_n S.1 S.2.1 dX5_areSo_5 rfl (lv_at hl 0 rfl) ?_
    refine gf_X5_144 S hw dX5_areSo_6 ?_
    refine lv_icmp_ge (tgt := 47) S.1 S.2.1 dX5_areSo_9 (by decide) (fun c1 => ?_) (fun c1 => ?_)
    · replace hF := kit hF c1
      refine lv_iload_n S.1 S.2.1 dX5_areSo_47 rfl (lv_at hl 1 rfl) ?_
      obtain ⟨rfl, rfl⟩ := kret hF
      exact hR _ _ _ _ dX5_areSo_48 hw (fun _ => hz1)
    · replace hF := kif hF c1
      refine lv_iload_n S.1 S.2.1 dX5_areSo_12 rfl (lv_at hl 1 rfl) ?_
      refine lv_if_eq (tgt := 39) S.1 S.2.1 dX5_areSo_13 (by decide) (fun c2 => ?_) (fun c2 => ?_)
      · replace hF := kit hF c2
        refine lv_iconst (v := 0) S.1 S.2.1 dX5_areSo_39 (by decide) ?_
        refine lv_istore_n (lv' := [(1, .int 0), (0, .ref (ead E 26)), (2, .int a2)]) S.1 S.2.1 dX5_areSo_40 rfl hl (by decide) rfl (fun ls hl => ?_)
        obtain ⟨v3, ev3⟩ : ∃ y : Int32, y = a2 + 1 := ⟨_, rfl⟩
        replace hF := klb hF ev3
        refine lv_iinc (v := v3) (lv' := [(2, .int v3), (1, .int 0), (0, .ref (ead E 26))]) S.1 S.2.1 dX5_areSo_41 hl (k := 2) rfl (by rw [ev3]; rfl) (by decide) rfl (fun ls hl => ?_)
        refine lv_goto (tgt := 4) S.1 S.2.1 dX5_areSo_44 (by decide) ?_
        exact ih 0 v3 (Or.inl rfl) _ _ _ _ hF hw (lv_sub hl [2, 1, 0] rfl)
      · replace hF := kif hF c2
        refine lv_aload_n S.1 S.2.1 dX5_areSo_16 rfl (lv_at hl 0 rfl) ?_
        refine lv_aload_n S.1 S.2.1 dX5_areSo_17 rfl (lv_at hl 0 rfl) ?_
        refine gf_X5_52 S hw dX5_areSo_18 ?_
        refine lv_iload_n S.1 S.2.1 dX5_areSo_21 rfl (lv_at hl 2 rfl) ?_
        obtain ⟨hb4, hF⟩ := kin hF
        refine km_iald (q := 15) S hw rfl (Nat.le_of_ble_eq_true rfl) hb4 dX5_areSo_22 ?_
        obtain ⟨r7, σ6, e5, hF⟩ := kbi_e hF
        refine kcX5_goesTo S hw cv_X5_165 ⟨Nat.le_of_ble_eq_true rfl, Nat.le_of_ble_eq_true rfl⟩ e5 hl.1 (Nat.le_of_ble_eq_true rfl) dX5_areSo_23 (fun H locs hw => ?_)
        refine lv_aload_n S.1 S.2.1 dX5_areSo_26 rfl (lv_at hl 0 rfl) ?_
        refine gf_X5_55 S hw dX5_areSo_27 ?_
        refine lv_iload_n S.1 S.2.1 dX5_areSo_30 rfl (lv_at hl 2 rfl) ?_
        obtain ⟨hb8, hF⟩ := kin hF
        refine km_iald (q := 16) S hw rfl (Nat.le_of_ble_eq_true rfl) hb8 dX5_areSo_31 ?_
        refine lv_icmp_ne (tgt := 39) S.1 S.2.1 dX5_areSo_32 (by decide) (fun c9 => ?_) (fun c9 => ?_)
        · replace hF := kif hF c9
          refine lv_iconst (v := 0) S.1 S.2.1 dX5_areSo_39 (by decide) ?_
          refine lv_istore_n (lv' := [(1, .int 0), (0, .ref (ead E 26)), (2, .int a2)]) S.1 S.2.1 dX5_areSo_40 rfl hl (by decide) rfl (fun ls hl => ?_)
          obtain ⟨v10, ev10⟩ : ∃ y : Int32, y = a2 + 1 := ⟨_, rfl⟩
          replace hF := klb hF ev10
          refine lv_iinc (v := v10) (lv' := [(2, .int v10), (1, .int 0), (0, .ref (ead E 26))]) S.1 S.2.1 dX5_areSo_41 hl (k := 2) rfl (by rw [ev10]; rfl) (by decide) rfl (fun ls hl => ?_)
          refine lv_goto (tgt := 4) S.1 S.2.1 dX5_areSo_44 (by decide) ?_
          exact ih 0 v10 (Or.inl rfl) _ _ _ _ hF hw (lv_sub hl [2, 1, 0] rfl)
        · replace hF := kit hF c9
          refine lv_iconst (v := 1) S.1 S.2.1 dX5_areSo_35 (by decide) ?_
          refine lv_goto (tgt := 40) S.1 S.2.1 dX5_areSo_36 (by decide) ?_
          refine lv_istore_n (lv' := [(1, .int 1), (0, .ref (ead E 26)), (2, .int a2)]) S.1 S.2.1 dX5_areSo_40 rfl hl (by decide) rfl (fun ls hl => ?_)
          obtain ⟨v11, ev11⟩ : ∃ y : Int32, y = a2 + 1 := ⟨_, rfl⟩
          replace hF := klb hF ev11
          refine lv_iinc (v := v11) (lv' := [(2, .int v11), (1, .int 1), (0, .ref (ead E 26))]) S.1 S.2.1 dX5_areSo_41 hl (k := 2) rfl (by rw [ev11]; rfl) (by decide) rfl (fun ls hl => ?_)
          refine lv_goto (tgt := 4) S.1 S.2.1 dX5_areSo_44 (by decide) ?_
          exact ih 1 v11 (Or.inr rfl) _ _ _ _ hF hw (lv_sub hl [2, 1, 0] rfl)
set_option maxHeartbeats 4000000 in
set_option maxRecDepth 100000 in
theorem mX5_areSo {l : Launch} {E : kE} {ω σ σ1 : kS} {r : Int32}   (hF : fX5_areSo σ = some (r, σ1)) : kMetI l yX5_areSo cX5_areSo 3 (some .boolean) 4 E [.ref (ead E 26)] (cmb ω σ) r (cmb ω σ1) := by
  refine kMetI.of (by decide +kernel) (Nat.le_of_ble_eq_true rfl) (Or.inr rfl) ?_
  intro p e s m args below meth c Q ls S hR hw hl
  have hl : lv_has ls 3 [(0, .ref (ead E 26))] := hl
  unfold fX5_areSo at hF
  refine lv_iconst (v := 1) S.1 S.2.1 dX5_areSo_0 (by decide) ?_
  refine lv_istore_n (lv' := [(1, .int 1), (0, .ref (ead E 26))]) S.1 S.2.1 dX5_areSo_1 rfl hl (by decide) rfl (fun ls hl => ?_)
  refine lv_iconst (v := 0) S.1 S.2.1 dX5_areSo_2 (by decide) ?_
  refine lv_istore_n (lv' := [(2, .int 0), (1, .int 1), (0, .ref (ead E 26))]) S.1 S.2.1 dX5_areSo_3 rfl hl (by decide) rfl (fun ls hl => ?_)
  exact wX5_areSo_L4 S hR 1000 1 0 (Or.inr rfl) _ _ _ _ hF hw (lv_sub hl [2, 1, 0] rfl)
set_option maxRecDepth 100000 in
theorem kcX5_areSo {p : Program} {l : Launch} {e : Env} {R : Room} {s : State} {m : MethodId} {args : Array Value} {below : List Frame} {meth : Method} {c : Code} {H : Heap} {locs : List Loc} {cells slots : Nat} {Q : State → Prop} {cc : ByteArray} {pc : Nat} {ls : Array Slot} {rest : List Value} {E : kE} {σ ω σ1 : kS} {nL index : Nat} {own : String} {r : Int32} (S : CallFix p m c cc nL s args kBIG own) (hw : kWS E s (cmb ω σ) H locs) (cw : kV own RX5 index yX5_areSo cX5_areSo 3 (some .boolean) 0) (hR : 4 + 1 ≤ R.frames ∧ 8 + (3 + 11) + 40 * 4 ≤ R.locals)   (hF : fX5_areSo σ = some (r, σ1)) (hls : ls.size = nL) (hW : (rest.map fun v => v.category).sum ≤ 8) (hdg : decode cc pc = .ok (.invokevirtual index, 3)) (kk : ∀ (H1 : Heap) (locs1 : List Loc), kWS E s (cmb ω σ1) H1 locs1 → (((some .boolean) : Option FieldType) = some .boolean → r = 0 ∨ r = 1) → W p l e R s m args below meth c H1 locs1 cells slots Q (F0 m (pc + 3) ls (.int r :: rest))) (hf : cells ≤ R.cells ∧ slots ≤ R.slots := by exact ⟨Nat.le_of_ble_eq_true rfl, Nat.le_of_ble_eq_true rfl⟩) : W p l e R s m args below meth c H locs cells slots Q (F0 m pc ls (.ref (ead E 26) :: rest)) := kr_calli (mc := 0) (y := yX5_areSo) (b := cX5_areSo) (n := 0) (lv := 0) (As := []) hw (kr_runV (As := []) (q := 26) S hw ((mX5_areSo (l := l) (E := E) (ω := ω) hF) H.size) cw hR rfl (by decide) rfl rfl hls _ rfl hW hdg hf) kk
set_option maxHeartbeats 4000000 in
set_option maxRecDepth 100000 in
theorem wX5_smells_L22 {p : Program} {l : Launch} {e : Env} {s : State} {m : MethodId} {args : Array Value} {below : List Frame} {meth : Method} {c : Code} {Q : State → Prop} {E : kE} {ω σ1 : kS} {r : Int32} (S : CallFix p m c cX5_smells 5 s args kBIG RX5) (hR : kRetI p l e (rml 5) s m args below meth c cX5_smells E Q (some .int) r (cmb ω σ1))  : ∀ (n : Nat), ∀ (a1 : Int32) (a2 : Int32) (a3 : Int32) (a4 : Int32) (σ : kS) (H : Heap) (locs : List Loc) (ls : Array Slot), fX5_smells_L22 n a1 a2 a3 a4 σ = some (r, σ1) → kWS E s (cmb ω σ) H locs → lv_has ls 5 [(0, .ref (ead E 26)), (1, .int a1), (2, .int a2), (3, .int a3), (4, .int a4)] → W p l e (rml 5) s m args below meth c H locs 0 0 Q (F0 m 22 ls []) := by
  intro n
  induction n with
  | zero =>
    intro a1 a2 a3 a4 σ H locs ls hF hw hl
    exact absurd hF (fun h => nomatch h)
  | succ n ih =>
    intro a1 a2 a3 a4 σ H locs ls hF hw hl
    rw [fX5_smells_L22] at hF
    refine lv_iload S.1 S.2.1 dX5_smells_22 (lv_at hl 4 rfl) ?_
    refine lv_bipush (v := 8) S.1 S.2.1 dX5_smells_24 (by decide) ?_
    refine lv_icmp_ge (tgt := 61) S.1 S.2.1 dX5_smells_26 (by decide) (fun c8 => ?_) (fun c8 => ?_)
    · replace hF := kit hF c8
      refine lv_aload_n S.1 S.2.1 dX5_smells_61 rfl (lv_at hl 0 rfl) ?_
      refine gf_X5_13 S hw dX5_smells_62 ?_
      refine lv_iload_n S.1 S.2.1 dX5_smells_65 rfl (lv_at hl 1 rfl) ?_
      refine lv_iload_n S.1 S.2.1 dX5_smells_66 rfl (lv_at hl 2 rfl) ?_
      obtain ⟨hb9, hF⟩ := kin hF
      refine km_iast (q := 2) S hw rfl (Nat.le_of_ble_eq_true rfl) hb9 dX5_smells_67 (fun H locs hw => ?_)
      refine lv_iload_n S.1 S.2.1 dX5_smells_68 rfl (lv_at hl 3 rfl) ?_
      obtain ⟨rfl, rfl⟩ := kret hF
      exact hR _ _ _ _ dX5_smells_69 hw (fun h => nomatch h)
    · replace hF := kif hF c8
      refine lv_aload_n S.1 S.2.1 dX5_smells_29 rfl (lv_at hl 0 rfl) ?_
      refine gf_X5_13 S hw dX5_smells_30 ?_
      refine lv_iload_n S.1 S.2.1 dX5_smells_33 rfl (lv_at hl 1 rfl) ?_
      refine lv_iload S.1 S.2.1 dX5_smells_34 (lv_at hl 4 rfl) ?_
      obtain ⟨hb10, hF⟩ := kin hF
      refine km_iast (q := 2) S hw rfl (Nat.le_of_ble_eq_true rfl) hb10 dX5_smells_36 (fun H locs hw => ?_)
      refine lv_iload_n S.1 S.2.1 dX5_smells_37 rfl (lv_at hl 3 rfl) ?_
      refine lv_aload_n S.1 S.2.1 dX5_smells_38 rfl (lv_at hl 0 rfl) ?_
      obtain ⟨r13, σ12, e11, hF⟩ := kbi_e hF
      refine kcX5_areSo S hw cv_X5_232 ⟨Nat.le_of_ble_eq_true rfl, Nat.le_of_ble_eq_true rfl⟩ e11 hl.1 (Nat.le_of_ble_eq_true rfl) dX5_smells_39 (fun H locs hw hz14 => ?_)
      refine lv_if_eq (tgt := 52) S.1 S.2.1 dX5_smells_42 (by decide) (fun c15 => ?_) (fun c15 => ?_)
      · replace hF := kit hF c15
        refine lv_iconst (v := 0) S.1 S.2.1 dX5_smells_52 (by decide) ?_
        refine lv_ior S.1 S.2.1 dX5_smells_53 ?_
        refine lv_topi (fun v16 ev16 => ?_)
        replace hF := klb hF ev16
        refine lv_istore_n (lv' := [(3, .int v16), (0, .ref (ead E 26)), (1, .int a1), (2, .int a2), (4, .int a4)]) S.1 S.2.1 dX5_smells_54 rfl hl (by decide) rfl (fun ls hl => ?_)
        obtain ⟨v17, ev17⟩ : ∃ y : Int32, y = a4 + 1 := ⟨_, rfl⟩
        replace hF := klb hF ev17
        refine lv_iinc (v := v17) (lv' := [(4, .int v17), (3, .int v16), (0, .ref (ead E 26)), (1, .int a1), (2, .int a2)]) S.1 S.2.1 dX5_smells_55 hl (k := 4) rfl (by rw [ev17]; rfl) (by decide) rfl (fun ls hl => ?_)
        refine lv_goto (tgt := 22) S.1 S.2.1 dX5_smells_58 (by decide) ?_
        exact ih a1 a2 v16 v17 _ _ _ _ hF hw (lv_sub hl [2, 3, 4, 1, 0] rfl)
      · replace hF := kif hF c15
        refine lv_iconst (v := 1) S.1 S.2.1 dX5_smells_45 (by decide) ?_
        refine lv_iload S.1 S.2.1 dX5_smells_46 (lv_at hl 4 rfl) ?_
        refine lv_ishl S.1 S.2.1 dX5_smells_48 ?_
        refine lv_goto (tgt := 53) S.1 S.2.1 dX5_smells_49 (by decide) ?_
        refine lv_ior S.1 S.2.1 dX5_smells_53 ?_
        refine lv_topi (fun v18 ev18 => ?_)
        replace hF := klb hF ev18
        refine lv_istore_n (lv' := [(3, .int v18), (0, .ref (ead E 26)), (1, .int a1), (2, .int a2), (4, .int a4)]) S.1 S.2.1 dX5_smells_54 rfl hl (by decide) rfl (fun ls hl => ?_)
        obtain ⟨v19, ev19⟩ : ∃ y : Int32, y = a4 + 1 := ⟨_, rfl⟩
        replace hF := klb hF ev19
        refine lv_iinc (v := v19) (lv' := [(4, .int v19), (3, .int v18), (0, .ref (ead E 26)), (1, .int a1), (2, .int a2)]) S.1 S.2.1 dX5_smells_55 hl (k := 4) rfl (by rw [ev19]; rfl) (by decide) rfl (fun ls hl => ?_)
        refine lv_goto (tgt := 22) S.1 S.2.1 dX5_smells_58 (by decide) ?_
        exact ih a1 a2 v18 v19 _ _ _ _ hF hw (lv_sub hl [2, 3, 4, 1, 0] rfl)
set_option maxHeartbeats 4000000 in
set_option maxRecDepth 100000 in
theorem mX5_smells {l : Launch} {E : kE} {ω σ σ1 : kS} {r : Int32} {a1 : Int32}  (hF : fX5_smells a1 σ = some (r, σ1)) : kMetI l yX5_smells cX5_smells 5 (some .int) 5 E [.ref (ead E 26), .int a1] (cmb ω σ) r (cmb ω σ1) := by
  refine kMetI.of (by decide +kernel) (Nat.le_of_ble_eq_true rfl) (Or.inl rfl) ?_
  intro p e s m args below meth c Q ls S hR hw hl
  have hl : lv_has ls 5 [(0, .ref (ead E 26)), (1, .int a1)] := hl
  unfold fX5_smells at hF
  refine lv_aload_n S.1 S.2.1 dX5_smells_0 rfl (lv_at hl 0 rfl) ?_
  refine lv_iload_n S.1 S.2.1 dX5_smells_1 rfl (lv_at hl 1 rfl) ?_
  obtain ⟨r3, σ2, e1, hF⟩ := kbi_e hF
  refine kcX5_noPerson S hw cv_X5_162 ⟨Nat.le_of_ble_eq_true rfl, Nat.le_of_ble_eq_true rfl⟩ e1 hl.1 (Nat.le_of_ble_eq_true rfl) dX5_smells_2 (fun H locs hw hz4 => ?_)
  refine lv_if_eq (tgt := 10) S.1 S.2.1 dX5_smells_5 (by decide) (fun c5 => ?_) (fun c5 => ?_)
  · replace hF := kit hF c5
    refine lv_aload_n S.1 S.2.1 dX5_smells_10 rfl (lv_at hl 0 rfl) ?_
    refine gf_X5_13 S hw dX5_smells_11 ?_
    refine lv_iload_n S.1 S.2.1 dX5_smells_14 rfl (lv_at hl 1 rfl) ?_
    obtain ⟨hb6, hF⟩ := kin hF
    refine km_iald (q := 2) S hw rfl (Nat.le_of_ble_eq_true rfl) hb6 dX5_smells_15 ?_
    refine lv_topi (fun v7 ev7 => ?_)
    replace hF := klb hF ev7
    refine lv_istore_n (lv' := [(2, .int v7), (0, .ref (ead E 26)), (1, .int a1)]) S.1 S.2.1 dX5_smells_16 rfl hl (by decide) rfl (fun ls hl => ?_)
    refine lv_iconst (v := 0) S.1 S.2.1 dX5_smells_17 (by decide) ?_
    refine lv_istore_n (lv' := [(3, .int 0), (2, .int v7), (0, .ref (ead E 26)), (1, .int a1)]) S.1 S.2.1 dX5_smells_18 rfl hl (by decide) rfl (fun ls hl => ?_)
    refine lv_iconst (v := 0) S.1 S.2.1 dX5_smells_19 (by decide) ?_
    refine lv_istore (lv' := [(4, .int 0), (3, .int 0), (2, .int v7), (0, .ref (ead E 26)), (1, .int a1)]) S.1 S.2.1 dX5_smells_20 hl (by decide) rfl (fun ls hl => ?_)
    exact wX5_smells_L22 S hR 1000 a1 v7 0 0 _ _ _ _ hF hw (lv_sub hl [3, 4, 2, 1, 0] rfl)
  · replace hF := kif hF c5
    refine lv_iconst (v := (-1)) S.1 S.2.1 dX5_smells_8 (by decide) ?_
    obtain ⟨rfl, rfl⟩ := kret hF
    exact hR _ _ _ _ dX5_smells_9 hw (fun h => nomatch h)
set_option maxRecDepth 100000 in
theorem kcX5_smells {p : Program} {l : Launch} {e : Env} {R : Room} {s : State} {m : MethodId} {args : Array Value} {below : List Frame} {meth : Method} {c : Code} {H : Heap} {locs : List Loc} {cells slots : Nat} {Q : State → Prop} {cc : ByteArray} {pc : Nat} {ls : Array Slot} {rest : List Value} {E : kE} {σ ω σ1 : kS} {nL index : Nat} {own : String} {r : Int32} (S : CallFix p m c cc nL s args kBIG own) (hw : kWS E s (cmb ω σ) H locs) (cw : kV own RX5 index yX5_smells cX5_smells 5 (some .int) 1) (hR : 5 + 1 ≤ R.frames ∧ 8 + (5 + 11) + 40 * 5 ≤ R.locals) {a1 : Int32}  (hF : fX5_smells a1 σ = some (r, σ1)) (hls : ls.size = nL) (hW : (rest.map fun v => v.category).sum ≤ 8) (hdg : decode cc pc = .ok (.invokevirtual index, 3)) (kk : ∀ (H1 : Heap) (locs1 : List Loc), kWS E s (cmb ω σ1) H1 locs1 → W p l e R s m args below meth c H1 locs1 cells slots Q (F0 m (pc + 3) ls (.int r :: rest))) (hf : cells ≤ R.cells ∧ slots ≤ R.slots := by exact ⟨Nat.le_of_ble_eq_true rfl, Nat.le_of_ble_eq_true rfl⟩) : W p l e R s m args below meth c H locs cells slots Q (F0 m pc ls (.int a1 :: .ref (ead E 26) :: rest)) := kr_calli (mc := 0) (y := yX5_smells) (b := cX5_smells) (n := 0) (lv := 0) (As := []) (ret := some .int) hw (kr_runV (As := [.int a1]) (q := 26) S hw ((mX5_smells (l := l) (E := E) (ω := ω) hF) H.size) cw hR rfl (by decide) rfl rfl hls _ rfl hW hdg hf) (fun H1 locs1 h _ => kk H1 locs1 h)
set_option maxHeartbeats 4000000 in
set_option maxRecDepth 100000 in
theorem wX5_pasts_L22 {p : Program} {l : Launch} {e : Env} {s : State} {m : MethodId} {args : Array Value} {below : List Frame} {meth : Method} {c : Code} {Q : State → Prop} {E : kE} {ω σ1 : kS} {r : Int32} (S : CallFix p m c cX5_pasts 5 s args kBIG RX5) (hR : kRetI p l e (rml 5) s m args below meth c cX5_pasts E Q (some .int) r (cmb ω σ1))  : ∀ (n : Nat), ∀ (a1 : Int32) (a2 : Int32) (a3 : Int32) (a4 : Int32) (σ : kS) (H : Heap) (locs : List Loc) (ls : Array Slot), fX5_pasts_L22 n a1 a2 a3 a4 σ = some (r, σ1) → kWS E s (cmb ω σ) H locs → lv_has ls 5 [(0, .ref (ead E 26)), (1, .int a1), (2, .int a2), (3, .int a3), (4, .int a4)] → W p l e (rml 5) s m args below meth c H locs 0 0 Q (F0 m 22 ls []) := by
  intro n
  induction n with
  | zero =>
    intro a1 a2 a3 a4 σ H locs ls hF hw hl
    exact absurd hF (fun h => nomatch h)
  | succ n ih =>
    intro a1 a2 a3 a4 σ H locs ls hF hw hl
    rw [fX5_pasts_L22] at hF
    refine lv_iload S.1 S.2.1 dX5_pasts_22 (lv_at hl 4 rfl) ?_
    refine lv_bipush (v := 8) S.1 S.2.1 dX5_pasts_24 (by decide) ?_
    refine lv_icmp_ge (tgt := 61) S.1 S.2.1 dX5_pasts_26 (by decide) (fun c8 => ?_) (fun c8 => ?_)
    · replace hF := kit hF c8
      refine lv_aload_n S.1 S.2.1 dX5_pasts_61 rfl (lv_at hl 0 rfl) ?_
      refine gf_X5_16 S hw dX5_pasts_62 ?_
      refine lv_iload_n S.1 S.2.1 dX5_pasts_65 rfl (lv_at hl 1 rfl) ?_
      refine lv_iload_n S.1 S.2.1 dX5_pasts_66 rfl (lv_at hl 2 rfl) ?_
      obtain ⟨hb9, hF⟩ := kin hF
      refine km_iast (q := 3) S hw rfl (Nat.le_of_ble_eq_true rfl) hb9 dX5_pasts_67 (fun H locs hw => ?_)
      refine lv_iload_n S.1 S.2.1 dX5_pasts_68 rfl (lv_at hl 3 rfl) ?_
      obtain ⟨rfl, rfl⟩ := kret hF
      exact hR _ _ _ _ dX5_pasts_69 hw (fun h => nomatch h)
    · replace hF := kif hF c8
      refine lv_aload_n S.1 S.2.1 dX5_pasts_29 rfl (lv_at hl 0 rfl) ?_
      refine gf_X5_16 S hw dX5_pasts_30 ?_
      refine lv_iload_n S.1 S.2.1 dX5_pasts_33 rfl (lv_at hl 1 rfl) ?_
      refine lv_iload S.1 S.2.1 dX5_pasts_34 (lv_at hl 4 rfl) ?_
      obtain ⟨hb10, hF⟩ := kin hF
      refine km_iast (q := 3) S hw rfl (Nat.le_of_ble_eq_true rfl) hb10 dX5_pasts_36 (fun H locs hw => ?_)
      refine lv_iload_n S.1 S.2.1 dX5_pasts_37 rfl (lv_at hl 3 rfl) ?_
      refine lv_aload_n S.1 S.2.1 dX5_pasts_38 rfl (lv_at hl 0 rfl) ?_
      obtain ⟨r13, σ12, e11, hF⟩ := kbi_e hF
      refine kcX5_areSo S hw cv_X5_232 ⟨Nat.le_of_ble_eq_true rfl, Nat.le_of_ble_eq_true rfl⟩ e11 hl.1 (Nat.le_of_ble_eq_true rfl) dX5_pasts_39 (fun H locs hw hz14 => ?_)
      refine lv_if_eq (tgt := 52) S.1 S.2.1 dX5_pasts_42 (by decide) (fun c15 => ?_) (fun c15 => ?_)
      · replace hF := kit hF c15
        refine lv_iconst (v := 0) S.1 S.2.1 dX5_pasts_52 (by decide) ?_
        refine lv_ior S.1 S.2.1 dX5_pasts_53 ?_
        refine lv_topi (fun v16 ev16 => ?_)
        replace hF := klb hF ev16
        refine lv_istore_n (lv' := [(3, .int v16), (0, .ref (ead E 26)), (1, .int a1), (2, .int a2), (4, .int a4)]) S.1 S.2.1 dX5_pasts_54 rfl hl (by decide) rfl (fun ls hl => ?_)
        obtain ⟨v17, ev17⟩ : ∃ y : Int32, y = a4 + 1 := ⟨_, rfl⟩
        replace hF := klb hF ev17
        refine lv_iinc (v := v17) (lv' := [(4, .int v17), (3, .int v16), (0, .ref (ead E 26)), (1, .int a1), (2, .int a2)]) S.1 S.2.1 dX5_pasts_55 hl (k := 4) rfl (by rw [ev17]; rfl) (by decide) rfl (fun ls hl => ?_)
        refine lv_goto (tgt := 22) S.1 S.2.1 dX5_pasts_58 (by decide) ?_
        exact ih a1 a2 v16 v17 _ _ _ _ hF hw (lv_sub hl [2, 3, 4, 1, 0] rfl)
      · replace hF := kif hF c15
        refine lv_iconst (v := 1) S.1 S.2.1 dX5_pasts_45 (by decide) ?_
        refine lv_iload S.1 S.2.1 dX5_pasts_46 (lv_at hl 4 rfl) ?_
        refine lv_ishl S.1 S.2.1 dX5_pasts_48 ?_
        refine lv_goto (tgt := 53) S.1 S.2.1 dX5_pasts_49 (by decide) ?_
        refine lv_ior S.1 S.2.1 dX5_pasts_53 ?_
        refine lv_topi (fun v18 ev18 => ?_)
        replace hF := klb hF ev18
        refine lv_istore_n (lv' := [(3, .int v18), (0, .ref (ead E 26)), (1, .int a1), (2, .int a2), (4, .int a4)]) S.1 S.2.1 dX5_pasts_54 rfl hl (by decide) rfl (fun ls hl => ?_)
        obtain ⟨v19, ev19⟩ : ∃ y : Int32, y = a4 + 1 := ⟨_, rfl⟩
        replace hF := klb hF ev19
        refine lv_iinc (v := v19) (lv' := [(4, .int v19), (3, .int v18), (0, .ref (ead E 26)), (1, .int a1), (2, .int a2)]) S.1 S.2.1 dX5_pasts_55 hl (k := 4) rfl (by rw [ev19]; rfl) (by decide) rfl (fun ls hl => ?_)
        refine lv_goto (tgt := 22) S.1 S.2.1 dX5_pasts_58 (by decide) ?_
        exact ih a1 a2 v18 v19 _ _ _ _ hF hw (lv_sub hl [2, 3, 4, 1, 0] rfl)
set_option maxHeartbeats 4000000 in
set_option maxRecDepth 100000 in
theorem mX5_pasts {l : Launch} {E : kE} {ω σ σ1 : kS} {r : Int32} {a1 : Int32}  (hF : fX5_pasts a1 σ = some (r, σ1)) : kMetI l yX5_pasts cX5_pasts 5 (some .int) 5 E [.ref (ead E 26), .int a1] (cmb ω σ) r (cmb ω σ1) := by
  refine kMetI.of (by decide +kernel) (Nat.le_of_ble_eq_true rfl) (Or.inl rfl) ?_
  intro p e s m args below meth c Q ls S hR hw hl
  have hl : lv_has ls 5 [(0, .ref (ead E 26)), (1, .int a1)] := hl
  unfold fX5_pasts at hF
  refine lv_aload_n S.1 S.2.1 dX5_pasts_0 rfl (lv_at hl 0 rfl) ?_
  refine lv_iload_n S.1 S.2.1 dX5_pasts_1 rfl (lv_at hl 1 rfl) ?_
  obtain ⟨r3, σ2, e1, hF⟩ := kbi_e hF
  refine kcX5_noPerson S hw cv_X5_162 ⟨Nat.le_of_ble_eq_true rfl, Nat.le_of_ble_eq_true rfl⟩ e1 hl.1 (Nat.le_of_ble_eq_true rfl) dX5_pasts_2 (fun H locs hw hz4 => ?_)
  refine lv_if_eq (tgt := 10) S.1 S.2.1 dX5_pasts_5 (by decide) (fun c5 => ?_) (fun c5 => ?_)
  · replace hF := kit hF c5
    refine lv_aload_n S.1 S.2.1 dX5_pasts_10 rfl (lv_at hl 0 rfl) ?_
    refine gf_X5_16 S hw dX5_pasts_11 ?_
    refine lv_iload_n S.1 S.2.1 dX5_pasts_14 rfl (lv_at hl 1 rfl) ?_
    obtain ⟨hb6, hF⟩ := kin hF
    refine km_iald (q := 3) S hw rfl (Nat.le_of_ble_eq_true rfl) hb6 dX5_pasts_15 ?_
    refine lv_topi (fun v7 ev7 => ?_)
    replace hF := klb hF ev7
    refine lv_istore_n (lv' := [(2, .int v7), (0, .ref (ead E 26)), (1, .int a1)]) S.1 S.2.1 dX5_pasts_16 rfl hl (by decide) rfl (fun ls hl => ?_)
    refine lv_iconst (v := 0) S.1 S.2.1 dX5_pasts_17 (by decide) ?_
    refine lv_istore_n (lv' := [(3, .int 0), (2, .int v7), (0, .ref (ead E 26)), (1, .int a1)]) S.1 S.2.1 dX5_pasts_18 rfl hl (by decide) rfl (fun ls hl => ?_)
    refine lv_iconst (v := 0) S.1 S.2.1 dX5_pasts_19 (by decide) ?_
    refine lv_istore (lv' := [(4, .int 0), (3, .int 0), (2, .int v7), (0, .ref (ead E 26)), (1, .int a1)]) S.1 S.2.1 dX5_pasts_20 hl (by decide) rfl (fun ls hl => ?_)
    exact wX5_pasts_L22 S hR 1000 a1 v7 0 0 _ _ _ _ hF hw (lv_sub hl [3, 4, 2, 1, 0] rfl)
  · replace hF := kif hF c5
    refine lv_iconst (v := (-1)) S.1 S.2.1 dX5_pasts_8 (by decide) ?_
    obtain ⟨rfl, rfl⟩ := kret hF
    exact hR _ _ _ _ dX5_pasts_9 hw (fun h => nomatch h)
set_option maxRecDepth 100000 in
theorem kcX5_pasts {p : Program} {l : Launch} {e : Env} {R : Room} {s : State} {m : MethodId} {args : Array Value} {below : List Frame} {meth : Method} {c : Code} {H : Heap} {locs : List Loc} {cells slots : Nat} {Q : State → Prop} {cc : ByteArray} {pc : Nat} {ls : Array Slot} {rest : List Value} {E : kE} {σ ω σ1 : kS} {nL index : Nat} {own : String} {r : Int32} (S : CallFix p m c cc nL s args kBIG own) (hw : kWS E s (cmb ω σ) H locs) (cw : kV own RX5 index yX5_pasts cX5_pasts 5 (some .int) 1) (hR : 5 + 1 ≤ R.frames ∧ 8 + (5 + 11) + 40 * 5 ≤ R.locals) {a1 : Int32}  (hF : fX5_pasts a1 σ = some (r, σ1)) (hls : ls.size = nL) (hW : (rest.map fun v => v.category).sum ≤ 8) (hdg : decode cc pc = .ok (.invokevirtual index, 3)) (kk : ∀ (H1 : Heap) (locs1 : List Loc), kWS E s (cmb ω σ1) H1 locs1 → W p l e R s m args below meth c H1 locs1 cells slots Q (F0 m (pc + 3) ls (.int r :: rest))) (hf : cells ≤ R.cells ∧ slots ≤ R.slots := by exact ⟨Nat.le_of_ble_eq_true rfl, Nat.le_of_ble_eq_true rfl⟩) : W p l e R s m args below meth c H locs cells slots Q (F0 m pc ls (.int a1 :: .ref (ead E 26) :: rest)) := kr_calli (mc := 0) (y := yX5_pasts) (b := cX5_pasts) (n := 0) (lv := 0) (As := []) (ret := some .int) hw (kr_runV (As := [.int a1]) (q := 26) S hw ((mX5_pasts (l := l) (E := E) (ω := ω) hF) H.size) cw hR rfl (by decide) rfl rfl hls _ rfl hW hdg hf) (fun H1 locs1 h _ => kk H1 locs1 h)
set_option maxHeartbeats 4000000 in
set_option maxRecDepth 100000 in
theorem wX5_kinds_L22 {p : Program} {l : Launch} {e : Env} {s : State} {m : MethodId} {args : Array Value} {below : List Frame} {meth : Method} {c : Code} {Q : State → Prop} {E : kE} {ω σ1 : kS} {r : Int32} (S : CallFix p m c cX5_kinds 5 s args kBIG RX5) (hR : kRetI p l e (rml 5) s m args below meth c cX5_kinds E Q (some .int) r (cmb ω σ1))  : ∀ (n : Nat), ∀ (a1 : Int32) (a2 : Int32) (a3 : Int32) (a4 : Int32) (σ : kS) (H : Heap) (locs : List Loc) (ls : Array Slot), fX5_kinds_L22 n a1 a2 a3 a4 σ = some (r, σ1) → kWS E s (cmb ω σ) H locs → lv_has ls 5 [(0, .ref (ead E 26)), (1, .int a1), (2, .int a2), (3, .int a3), (4, .int a4)] → W p l e (rml 5) s m args below meth c H locs 0 0 Q (F0 m 22 ls []) := by
  intro n
  induction n with
  | zero =>
    intro a1 a2 a3 a4 σ H locs ls hF hw hl
    exact absurd hF (fun h => nomatch h)
  | succ n ih =>
    intro a1 a2 a3 a4 σ H locs ls hF hw hl
    rw [fX5_kinds_L22] at hF
    refine lv_iload S.1 S.2.1 dX5_kinds_22 (lv_at hl 4 rfl) ?_
    refine lv_iconst (v := 3) S.1 S.2.1 dX5_kinds_24 (by decide) ?_
    refine lv_icmp_ge (tgt := 60) S.1 S.2.1 dX5_kinds_25 (by decide) (fun c8 => ?_) (fun c8 => ?_)
    · replace hF := kit hF c8
      refine lv_aload_n S.1 S.2.1 dX5_kinds_60 rfl (lv_at hl 0 rfl) ?_
      refine gf_X5_7 S hw dX5_kinds_61 ?_
      refine lv_iload_n S.1 S.2.1 dX5_kinds_64 rfl (lv_at hl 1 rfl) ?_
      refine lv_iload_n S.1 S.2.1 dX5_kinds_65 rfl (lv_at hl 2 rfl) ?_
      obtain ⟨hb9, hF⟩ := kin hF
      refine km_iast (q := 1) S hw rfl (Nat.le_of_ble_eq_true rfl) hb9 dX5_kinds_66 (fun H locs hw => ?_)
      refine lv_iload_n S.1 S.2.1 dX5_kinds_67 rfl (lv_at hl 3 rfl) ?_
      obtain ⟨rfl, rfl⟩ := kret hF
      exact hR _ _ _ _ dX5_kinds_68 hw (fun h => nomatch h)
    · replace hF := kif hF c8
      refine lv_aload_n S.1 S.2.1 dX5_kinds_28 rfl (lv_at hl 0 rfl) ?_
      refine gf_X5_7 S hw dX5_kinds_29 ?_
      refine lv_iload_n S.1 S.2.1 dX5_kinds_32 rfl (lv_at hl 1 rfl) ?_
      refine lv_iload S.1 S.2.1 dX5_kinds_33 (lv_at hl 4 rfl) ?_
      obtain ⟨hb10, hF⟩ := kin hF
      refine km_iast (q := 1) S hw rfl (Nat.le_of_ble_eq_true rfl) hb10 dX5_kinds_35 (fun H locs hw => ?_)
      refine lv_iload_n S.1 S.2.1 dX5_kinds_36 rfl (lv_at hl 3 rfl) ?_
      refine lv_aload_n S.1 S.2.1 dX5_kinds_37 rfl (lv_at hl 0 rfl) ?_
      obtain ⟨r13, σ12, e11, hF⟩ := kbi_e hF
      refine kcX5_areSo S hw cv_X5_232 ⟨Nat.le_of_ble_eq_true rfl, Nat.le_of_ble_eq_true rfl⟩ e11 hl.1 (Nat.le_of_ble_eq_true rfl) dX5_kinds_38 (fun H locs hw hz14 => ?_)
      refine lv_if_eq (tgt := 51) S.1 S.2.1 dX5_kinds_41 (by decide) (fun c15 => ?_) (fun c15 => ?_)
      · replace hF := kit hF c15
        refine lv_iconst (v := 0) S.1 S.2.1 dX5_kinds_51 (by decide) ?_
        refine lv_ior S.1 S.2.1 dX5_kinds_52 ?_
        refine lv_topi (fun v16 ev16 => ?_)
        replace hF := klb hF ev16
        refine lv_istore_n (lv' := [(3, .int v16), (0, .ref (ead E 26)), (1, .int a1), (2, .int a2), (4, .int a4)]) S.1 S.2.1 dX5_kinds_53 rfl hl (by decide) rfl (fun ls hl => ?_)
        obtain ⟨v17, ev17⟩ : ∃ y : Int32, y = a4 + 1 := ⟨_, rfl⟩
        replace hF := klb hF ev17
        refine lv_iinc (v := v17) (lv' := [(4, .int v17), (3, .int v16), (0, .ref (ead E 26)), (1, .int a1), (2, .int a2)]) S.1 S.2.1 dX5_kinds_54 hl (k := 4) rfl (by rw [ev17]; rfl) (by decide) rfl (fun ls hl => ?_)
        refine lv_goto (tgt := 22) S.1 S.2.1 dX5_kinds_57 (by decide) ?_
        exact ih a1 a2 v16 v17 _ _ _ _ hF hw (lv_sub hl [2, 3, 4, 1, 0] rfl)
      · replace hF := kif hF c15
        refine lv_iconst (v := 1) S.1 S.2.1 dX5_kinds_44 (by decide) ?_
        refine lv_iload S.1 S.2.1 dX5_kinds_45 (lv_at hl 4 rfl) ?_
        refine lv_ishl S.1 S.2.1 dX5_kinds_47 ?_
        refine lv_goto (tgt := 52) S.1 S.2.1 dX5_kinds_48 (by decide) ?_
        refine lv_ior S.1 S.2.1 dX5_kinds_52 ?_
        refine lv_topi (fun v18 ev18 => ?_)
        replace hF := klb hF ev18
        refine lv_istore_n (lv' := [(3, .int v18), (0, .ref (ead E 26)), (1, .int a1), (2, .int a2), (4, .int a4)]) S.1 S.2.1 dX5_kinds_53 rfl hl (by decide) rfl (fun ls hl => ?_)
        obtain ⟨v19, ev19⟩ : ∃ y : Int32, y = a4 + 1 := ⟨_, rfl⟩
        replace hF := klb hF ev19
        refine lv_iinc (v := v19) (lv' := [(4, .int v19), (3, .int v18), (0, .ref (ead E 26)), (1, .int a1), (2, .int a2)]) S.1 S.2.1 dX5_kinds_54 hl (k := 4) rfl (by rw [ev19]; rfl) (by decide) rfl (fun ls hl => ?_)
        refine lv_goto (tgt := 22) S.1 S.2.1 dX5_kinds_57 (by decide) ?_
        exact ih a1 a2 v18 v19 _ _ _ _ hF hw (lv_sub hl [2, 3, 4, 1, 0] rfl)
set_option maxHeartbeats 4000000 in
set_option maxRecDepth 100000 in
theorem mX5_kinds {l : Launch} {E : kE} {ω σ σ1 : kS} {r : Int32} {a1 : Int32}  (hF : fX5_kinds a1 σ = some (r, σ1)) : kMetI l yX5_kinds cX5_kinds 5 (some .int) 5 E [.ref (ead E 26), .int a1] (cmb ω σ) r (cmb ω σ1) := by
  refine kMetI.of (by decide +kernel) (Nat.le_of_ble_eq_true rfl) (Or.inl rfl) ?_
  intro p e s m args below meth c Q ls S hR hw hl
  have hl : lv_has ls 5 [(0, .ref (ead E 26)), (1, .int a1)] := hl
  unfold fX5_kinds at hF
  refine lv_aload_n S.1 S.2.1 dX5_kinds_0 rfl (lv_at hl 0 rfl) ?_
  refine lv_iload_n S.1 S.2.1 dX5_kinds_1 rfl (lv_at hl 1 rfl) ?_
  obtain ⟨r3, σ2, e1, hF⟩ := kbi_e hF
  refine kcX5_noPerson S hw cv_X5_162 ⟨Nat.le_of_ble_eq_true rfl, Nat.le_of_ble_eq_true rfl⟩ e1 hl.1 (Nat.le_of_ble_eq_true rfl) dX5_kinds_2 (fun H locs hw hz4 => ?_)
  refine lv_if_eq (tgt := 10) S.1 S.2.1 dX5_kinds_5 (by decide) (fun c5 => ?_) (fun c5 => ?_)
  · replace hF := kit hF c5
    refine lv_aload_n S.1 S.2.1 dX5_kinds_10 rfl (lv_at hl 0 rfl) ?_
    refine gf_X5_7 S hw dX5_kinds_11 ?_
    refine lv_iload_n S.1 S.2.1 dX5_kinds_14 rfl (lv_at hl 1 rfl) ?_
    obtain ⟨hb6, hF⟩ := kin hF
    refine km_iald (q := 1) S hw rfl (Nat.le_of_ble_eq_true rfl) hb6 dX5_kinds_15 ?_
    refine lv_topi (fun v7 ev7 => ?_)
    replace hF := klb hF ev7
    refine lv_istore_n (lv' := [(2, .int v7), (0, .ref (ead E 26)), (1, .int a1)]) S.1 S.2.1 dX5_kinds_16 rfl hl (by decide) rfl (fun ls hl => ?_)
    refine lv_iconst (v := 0) S.1 S.2.1 dX5_kinds_17 (by decide) ?_
    refine lv_istore_n (lv' := [(3, .int 0), (2, .int v7), (0, .ref (ead E 26)), (1, .int a1)]) S.1 S.2.1 dX5_kinds_18 rfl hl (by decide) rfl (fun ls hl => ?_)
    refine lv_iconst (v := 0) S.1 S.2.1 dX5_kinds_19 (by decide) ?_
    refine lv_istore (lv' := [(4, .int 0), (3, .int 0), (2, .int v7), (0, .ref (ead E 26)), (1, .int a1)]) S.1 S.2.1 dX5_kinds_20 hl (by decide) rfl (fun ls hl => ?_)
    exact wX5_kinds_L22 S hR 1000 a1 v7 0 0 _ _ _ _ hF hw (lv_sub hl [3, 4, 2, 1, 0] rfl)
  · replace hF := kif hF c5
    refine lv_iconst (v := (-1)) S.1 S.2.1 dX5_kinds_8 (by decide) ?_
    obtain ⟨rfl, rfl⟩ := kret hF
    exact hR _ _ _ _ dX5_kinds_9 hw (fun h => nomatch h)
set_option maxRecDepth 100000 in
theorem kcX5_kinds {p : Program} {l : Launch} {e : Env} {R : Room} {s : State} {m : MethodId} {args : Array Value} {below : List Frame} {meth : Method} {c : Code} {H : Heap} {locs : List Loc} {cells slots : Nat} {Q : State → Prop} {cc : ByteArray} {pc : Nat} {ls : Array Slot} {rest : List Value} {E : kE} {σ ω σ1 : kS} {nL index : Nat} {own : String} {r : Int32} (S : CallFix p m c cc nL s args kBIG own) (hw : kWS E s (cmb ω σ) H locs) (cw : kV own RX5 index yX5_kinds cX5_kinds 5 (some .int) 1) (hR : 5 + 1 ≤ R.frames ∧ 8 + (5 + 11) + 40 * 5 ≤ R.locals) {a1 : Int32}  (hF : fX5_kinds a1 σ = some (r, σ1)) (hls : ls.size = nL) (hW : (rest.map fun v => v.category).sum ≤ 8) (hdg : decode cc pc = .ok (.invokevirtual index, 3)) (kk : ∀ (H1 : Heap) (locs1 : List Loc), kWS E s (cmb ω σ1) H1 locs1 → W p l e R s m args below meth c H1 locs1 cells slots Q (F0 m (pc + 3) ls (.int r :: rest))) (hf : cells ≤ R.cells ∧ slots ≤ R.slots := by exact ⟨Nat.le_of_ble_eq_true rfl, Nat.le_of_ble_eq_true rfl⟩) : W p l e R s m args below meth c H locs cells slots Q (F0 m pc ls (.int a1 :: .ref (ead E 26) :: rest)) := kr_calli (mc := 0) (y := yX5_kinds) (b := cX5_kinds) (n := 0) (lv := 0) (As := []) (ret := some .int) hw (kr_runV (As := [.int a1]) (q := 26) S hw ((mX5_kinds (l := l) (E := E) (ω := ω) hF) H.size) cw hR rfl (by decide) rfl rfl hls _ rfl hW hdg hf) (fun H1 locs1 h _ => kk H1 locs1 h)
set_option maxHeartbeats 4000000 in
set_option maxRecDepth 100000 in
theorem wX5_odds_L35 {p : Program} {l : Launch} {e : Env} {s : State} {m : MethodId} {args : Array Value} {below : List Frame} {meth : Method} {c : Code} {Q : State → Prop} {E : kE} {ω σ1 : kS} {r : Int64} (S : CallFix p m c cX5_odds 7 s args kBIG RX5) (hR : kRetL p l e (rml 4) s m args below meth c cX5_odds E Q r (cmb ω σ1))  : ∀ (n : Nat), ∀ (a1 : Int32) (a2 : Int32) (a3 : Int32) (a4 : Int64) (a6 : Int32) (σ : kS) (H : Heap) (locs : List Loc) (ls : Array Slot), fX5_odds_L35 n a1 a2 a3 a4 a6 σ = some (r, σ1) → kWS E s (cmb ω σ) H locs → lv_has ls 7 [(0, .ref (ead E 26)), (1, .int a1), (2, .int a2), (3, .int a3), (4, .long a4), (6, .int a6)] → W p l e (rml 4) s m args below meth c H locs 0 0 Q (F0 m 35 ls []) := by
  intro n
  induction n with
  | zero =>
    intro a1 a2 a3 a4 a6 σ H locs ls hF hw hl
    exact absurd hF (fun h => nomatch h)
  | succ n ih =>
    intro a1 a2 a3 a4 a6 σ H locs ls hF hw hl
    rw [fX5_odds_L35] at hF
    refine lv_iload S.1 S.2.1 dX5_odds_35 (lv_at hl 5 rfl) ?_
    refine lv_bipush (v := 8) S.1 S.2.1 dX5_odds_37 (by decide) ?_
    refine lv_icmp_ge (tgt := 75) S.1 S.2.1 dX5_odds_39 (by decide) (fun c19 => ?_) (fun c19 => ?_)
    · replace hF := kit hF c19
      refine lv_aload_n S.1 S.2.1 dX5_odds_75 rfl (lv_at hl 0 rfl) ?_
      refine gf_X5_13 S hw dX5_odds_76 ?_
      refine lv_iload_n S.1 S.2.1 dX5_odds_79 rfl (lv_at hl 1 rfl) ?_
      refine lv_iload_n S.1 S.2.1 dX5_odds_80 rfl (lv_at hl 3 rfl) ?_
      obtain ⟨hb20, hF⟩ := kin hF
      refine km_iast (q := 2) S hw rfl (Nat.le_of_ble_eq_true rfl) hb20 dX5_odds_81 (fun H locs hw => ?_)
      refine lv_lload S.1 S.2.1 dX5_odds_82 (lv_at hl 4 rfl) ?_
      refine lv_ldc2 (v := 8) S.1 S.2.1 S.2.2.2.1 (S.2.2.2.2 _ q3_181) dX5_odds_84 ?_
      refine lv_iload_n S.1 S.2.1 dX5_odds_87 rfl (lv_at hl 2 rfl) ?_
      obtain ⟨r23, σ22, e21, hF⟩ := kbl_e hF
      refine kcX5_share S hw cv_X5_235 ⟨Nat.le_of_ble_eq_true rfl, Nat.le_of_ble_eq_true rfl⟩ e21 hl.1 (Nat.le_of_ble_eq_true rfl) dX5_odds_88 (fun H locs hw => ?_)
      obtain ⟨rfl, rfl⟩ := kret hF
      exact hR _ _ _ _ dX5_odds_91 hw
    · replace hF := kif hF c19
      refine lv_aload_n S.1 S.2.1 dX5_odds_42 rfl (lv_at hl 0 rfl) ?_
      refine gf_X5_13 S hw dX5_odds_43 ?_
      refine lv_iload_n S.1 S.2.1 dX5_odds_46 rfl (lv_at hl 1 rfl) ?_
      refine lv_iload S.1 S.2.1 dX5_odds_47 (lv_at hl 5 rfl) ?_
      obtain ⟨hb24, hF⟩ := kin hF
      refine km_iast (q := 2) S hw rfl (Nat.le_of_ble_eq_true rfl) hb24 dX5_odds_49 (fun H locs hw => ?_)
      refine lv_lload S.1 S.2.1 dX5_odds_50 (lv_at hl 4 rfl) ?_
      refine lv_aload_n S.1 S.2.1 dX5_odds_52 rfl (lv_at hl 0 rfl) ?_
      refine lv_iload_n S.1 S.2.1 dX5_odds_53 rfl (lv_at hl 1 rfl) ?_
      obtain ⟨r27, σ26, e25, hF⟩ := kbi_e hF
      refine kcX5_goesTo S hw cv_X5_165 ⟨Nat.le_of_ble_eq_true rfl, Nat.le_of_ble_eq_true rfl⟩ e25 hl.1 (Nat.le_of_ble_eq_true rfl) dX5_odds_54 (fun H locs hw => ?_)
      refine lv_iload_n S.1 S.2.1 dX5_odds_57 rfl (lv_at hl 1 rfl) ?_
      refine lv_icmp_ne (tgt := 65) S.1 S.2.1 dX5_odds_58 (by decide) (fun c28 => ?_) (fun c28 => ?_)
      · replace hF := kif hF c28
        refine lv_lconst (v := 0) S.1 S.2.1 dX5_odds_65 (by decide) ?_
        refine lv_ladd S.1 S.2.1 dX5_odds_66 ?_
        refine lv_topl (fun v29 ev29 => ?_)
        replace hF := klb hF ev29
        refine lv_lstore (lv' := [(4, .long v29), (0, .ref (ead E 26)), (1, .int a1), (2, .int a2), (3, .int a3), (6, .int a6)]) S.1 S.2.1 dX5_odds_67 hl (by decide) rfl (fun ls hl => ?_)
        obtain ⟨v30, ev30⟩ : ∃ y : Int32, y = a6 + 1 := ⟨_, rfl⟩
        replace hF := klb hF ev30
        refine lv_iinc (v := v30) (lv' := [(6, .int v30), (4, .long v29), (0, .ref (ead E 26)), (1, .int a1), (2, .int a2), (3, .int a3)]) S.1 S.2.1 dX5_odds_69 hl (k := 5) rfl (by rw [ev30]; rfl) (by decide) rfl (fun ls hl => ?_)
        refine lv_goto (tgt := 35) S.1 S.2.1 dX5_odds_72 (by decide) ?_
        exact ih a1 a2 a3 v29 v30 _ _ _ _ hF hw (lv_sub hl [2, 3, 4, 5, 1, 0] rfl)
      · replace hF := kit hF c28
        refine lv_lconst (v := 1) S.1 S.2.1 dX5_odds_61 (by decide) ?_
        refine lv_goto (tgt := 66) S.1 S.2.1 dX5_odds_62 (by decide) ?_
        refine lv_ladd S.1 S.2.1 dX5_odds_66 ?_
        refine lv_topl (fun v31 ev31 => ?_)
        replace hF := klb hF ev31
        refine lv_lstore (lv' := [(4, .long v31), (0, .ref (ead E 26)), (1, .int a1), (2, .int a2), (3, .int a3), (6, .int a6)]) S.1 S.2.1 dX5_odds_67 hl (by decide) rfl (fun ls hl => ?_)
        obtain ⟨v32, ev32⟩ : ∃ y : Int32, y = a6 + 1 := ⟨_, rfl⟩
        replace hF := klb hF ev32
        refine lv_iinc (v := v32) (lv' := [(6, .int v32), (4, .long v31), (0, .ref (ead E 26)), (1, .int a1), (2, .int a2), (3, .int a3)]) S.1 S.2.1 dX5_odds_69 hl (k := 5) rfl (by rw [ev32]; rfl) (by decide) rfl (fun ls hl => ?_)
        refine lv_goto (tgt := 35) S.1 S.2.1 dX5_odds_72 (by decide) ?_
        exact ih a1 a2 a3 v31 v32 _ _ _ _ hF hw (lv_sub hl [2, 3, 4, 5, 1, 0] rfl)
set_option maxHeartbeats 4000000 in
set_option maxRecDepth 100000 in
theorem mX5_odds {l : Launch} {E : kE} {ω σ σ1 : kS} {r : Int64} {a1 : Int32} {a2 : Int32}  (hF : fX5_odds a1 a2 σ = some (r, σ1)) : kMetL l yX5_odds cX5_odds 7 4 E [.ref (ead E 26), .int a1, .int a2] (cmb ω σ) r (cmb ω σ1) := by
  refine kMetL.of (by decide +kernel) (Nat.le_of_ble_eq_true rfl) ?_
  intro p e s m args below meth c Q ls S hR hw hl
  have hl : lv_has ls 7 [(0, .ref (ead E 26)), (1, .int a1), (2, .int a2)] := hl
  unfold fX5_odds at hF
  refine lv_aload_n S.1 S.2.1 dX5_odds_0 rfl (lv_at hl 0 rfl) ?_
  refine lv_iload_n S.1 S.2.1 dX5_odds_1 rfl (lv_at hl 1 rfl) ?_
  obtain ⟨r3, σ2, e1, hF⟩ := kbi_e hF
  refine kcX5_noPerson S hw cv_X5_162 ⟨Nat.le_of_ble_eq_true rfl, Nat.le_of_ble_eq_true rfl⟩ e1 hl.1 (Nat.le_of_ble_eq_true rfl) dX5_odds_2 (fun H locs hw hz4 => ?_)
  refine lv_if_ne (tgt := 18) S.1 S.2.1 dX5_odds_5 (by decide) (fun c5 => ?_) (fun c5 => ?_)
  · replace hF := kif hF c5
    obtain ⟨r8, σ7, e6, hF⟩ := kbl_e hF
    refine kcX5_lost S hw cv_X5_76 ⟨Nat.le_of_ble_eq_true rfl, Nat.le_of_ble_eq_true rfl⟩ e6 hl.1 (Nat.le_of_ble_eq_true rfl) dX5_odds_18 (fun H locs hw => ?_)
    obtain ⟨rfl, rfl⟩ := kret hF
    exact hR _ _ _ _ dX5_odds_21 hw
  · replace hF := kit hF c5
    refine lv_iload_n S.1 S.2.1 dX5_odds_8 rfl (lv_at hl 2 rfl) ?_
    refine lv_i2l S.1 S.2.1 dX5_odds_9 rfl ?_
    refine lv_lconst (v := 0) S.1 S.2.1 dX5_odds_10 (by decide) ?_
    refine lv_lconst (v := 1) S.1 S.2.1 dX5_odds_11 (by decide) ?_
    obtain ⟨r11, σ10, e9, hF⟩ := kbi_e hF
    refine kcX5_in S hw cv_X5_83 ⟨Nat.le_of_ble_eq_true rfl, Nat.le_of_ble_eq_true rfl⟩ e9 hl.1 (Nat.le_of_ble_eq_true rfl) dX5_odds_12 (fun H locs hw hz12 => ?_)
    refine lv_if_ne (tgt := 22) S.1 S.2.1 dX5_odds_15 (by decide) (fun c13 => ?_) (fun c13 => ?_)
    · replace hF := kif hF c13
      refine lv_aload_n S.1 S.2.1 dX5_odds_22 rfl (lv_at hl 0 rfl) ?_
      refine gf_X5_13 S hw dX5_odds_23 ?_
      refine lv_iload_n S.1 S.2.1 dX5_odds_26 rfl (lv_at hl 1 rfl) ?_
      obtain ⟨hb14, hF⟩ := kin hF
      refine km_iald (q := 2) S hw rfl (Nat.le_of_ble_eq_true rfl) hb14 dX5_odds_27 ?_
      refine lv_topi (fun v15 ev15 => ?_)
      replace hF := klb hF ev15
      refine lv_istore_n (lv' := [(3, .int v15), (0, .ref (ead E 26)), (1, .int a1), (2, .int a2)]) S.1 S.2.1 dX5_odds_28 rfl hl (by decide) rfl (fun ls hl => ?_)
      refine lv_lconst (v := 0) S.1 S.2.1 dX5_odds_29 (by decide) ?_
      refine lv_lstore (lv' := [(4, .long 0), (3, .int v15), (0, .ref (ead E 26)), (1, .int a1), (2, .int a2)]) S.1 S.2.1 dX5_odds_30 hl (by decide) rfl (fun ls hl => ?_)
      refine lv_iconst (v := 0) S.1 S.2.1 dX5_odds_32 (by decide) ?_
      refine lv_istore (lv' := [(6, .int 0), (4, .long 0), (3, .int v15), (0, .ref (ead E 26)), (1, .int a1), (2, .int a2)]) S.1 S.2.1 dX5_odds_33 hl (by decide) rfl (fun ls hl => ?_)
      exact wX5_odds_L35 S hR 1000 a1 a2 v15 0 0 _ _ _ _ hF hw (lv_sub hl [3, 4, 5, 2, 1, 0] rfl)
    · replace hF := kit hF c13
      obtain ⟨r18, σ17, e16, hF⟩ := kbl_e hF
      refine kcX5_lost S hw cv_X5_76 ⟨Nat.le_of_ble_eq_true rfl, Nat.le_of_ble_eq_true rfl⟩ e16 hl.1 (Nat.le_of_ble_eq_true rfl) dX5_odds_18 (fun H locs hw => ?_)
      obtain ⟨rfl, rfl⟩ := kret hF
      exact hR _ _ _ _ dX5_odds_21 hw
set_option maxRecDepth 100000 in
theorem kcX5_odds {p : Program} {l : Launch} {e : Env} {R : Room} {s : State} {m : MethodId} {args : Array Value} {below : List Frame} {meth : Method} {c : Code} {H : Heap} {locs : List Loc} {cells slots : Nat} {Q : State → Prop} {cc : ByteArray} {pc : Nat} {ls : Array Slot} {rest : List Value} {E : kE} {σ ω σ1 : kS} {nL index : Nat} {own : String} {r : Int64} (S : CallFix p m c cc nL s args kBIG own) (hw : kWS E s (cmb ω σ) H locs) (cw : kV own RX5 index yX5_odds cX5_odds 7 (some .long) 2) (hR : 4 + 1 ≤ R.frames ∧ 8 + (7 + 11) + 40 * 4 ≤ R.locals) {a1 : Int32} {a2 : Int32}  (hF : fX5_odds a1 a2 σ = some (r, σ1)) (hls : ls.size = nL) (hW : (rest.map fun v => v.category).sum ≤ 8) (hdg : decode cc pc = .ok (.invokevirtual index, 3)) (kk : ∀ (H1 : Heap) (locs1 : List Loc), kWS E s (cmb ω σ1) H1 locs1 → W p l e R s m args below meth c H1 locs1 cells slots Q (F0 m (pc + 3) ls (.long r :: rest))) (hf : cells ≤ R.cells ∧ slots ≤ R.slots := by exact ⟨Nat.le_of_ble_eq_true rfl, Nat.le_of_ble_eq_true rfl⟩) : W p l e R s m args below meth c H locs cells slots Q (F0 m pc ls (.int a2 :: .int a1 :: .ref (ead E 26) :: rest)) := kr_calll hw (kr_runV (As := [.int a1, .int a2]) (q := 26) S hw ((mX5_odds (l := l) (E := E) (ω := ω) hF) H.size) cw hR rfl (by decide) rfl rfl hls _ rfl hW hdg hf) kk
set_option maxHeartbeats 4000000 in
set_option maxRecDepth 100000 in
theorem wX5_sheet_L65 {p : Program} {l : Launch} {e : Env} {s : State} {m : MethodId} {args : Array Value} {below : List Frame} {meth : Method} {c : Code} {Q : State → Prop} {E : kE} {ω σ1 : kS} {r : Int32} (S : CallFix p m c cX5_sheet 5 s args kBIG RX5) (hR : kRetI p l e (rml 2) s m args below meth c cX5_sheet E Q (some .int) r (cmb ω σ1))  : ∀ (n : Nat), ∀ (a1 : Int32) (a3 : Int32) (a4 : Int32) (σ : kS) (H : Heap) (locs : List Loc) (ls : Array Slot), fX5_sheet_L65 n a1 a3 a4 σ = some (r, σ1) → kWS E s (cmb ω σ) H locs → lv_has ls 5 [(0, .ref (ead E 26)), (1, .int a1), (3, .int a3), (4, .int a4)] → W p l e (rml 2) s m args below meth c H locs 0 0 Q (F0 m 65 ls []) := by
  intro n
  induction n with
  | zero =>
    intro a1 a3 a4 σ H locs ls hF hw hl
    exact absurd hF (fun h => nomatch h)
  | succ n ih =>
    intro a1 a3 a4 σ H locs ls hF hw hl
    rw [fX5_sheet_L65] at hF
    refine lv_iload S.1 S.2.1 dX5_sheet_65 (lv_at hl 3 rfl) ?_
    refine lv_iload_n S.1 S.2.1 dX5_sheet_67 rfl (lv_at hl 2 rfl) ?_
    refine lv_icmp_ge (tgt := 90) S.1 S.2.1 dX5_sheet_68 (by decide) (fun c27 => ?_) (fun c27 => ?_)
    · replace hF := kit hF c27
      refine lv_aload_n S.1 S.2.1 dX5_sheet_90 rfl (lv_at hl 0 rfl) ?_
      refine lv_iconst (v := 1) S.1 S.2.1 dX5_sheet_91 (by decide) ?_
      obtain ⟨r30, σ29, e28, hF⟩ := kbi_e hF
      refine kcX5_refused S hw cv_X5_123 ⟨Nat.le_of_ble_eq_true rfl, Nat.le_of_ble_eq_true rfl⟩ e28 hl.1 (Nat.le_of_ble_eq_true rfl) dX5_sheet_92 (fun H locs hw => ?_)
      obtain ⟨rfl, rfl⟩ := kret hF
      exact hR _ _ _ _ dX5_sheet_95 hw (fun h => nomatch h)
    · replace hF := kif hF c27
      refine lv_aload_n S.1 S.2.1 dX5_sheet_71 rfl (lv_at hl 0 rfl) ?_
      refine gf_X5_64 S hw dX5_sheet_72 ?_
      refine lv_bipush (v := 60) S.1 S.2.1 dX5_sheet_75 (by decide) ?_
      refine lv_iload_n S.1 S.2.1 dX5_sheet_77 rfl (lv_at hl 1 rfl) ?_
      refine lv_imul S.1 S.2.1 dX5_sheet_78 ?_
      refine lv_iload S.1 S.2.1 dX5_sheet_79 (lv_at hl 3 rfl) ?_
      refine lv_iadd S.1 S.2.1 dX5_sheet_81 ?_
      refine lv_iconst (v := 0) S.1 S.2.1 dX5_sheet_82 (by decide) ?_
      obtain ⟨hb31, hF⟩ := kin hF
      refine km_iast (q := 19) S hw rfl (Nat.le_of_ble_eq_true rfl) hb31 dX5_sheet_83 (fun H locs hw => ?_)
      obtain ⟨v32, ev32⟩ : ∃ y : Int32, y = a4 + 1 := ⟨_, rfl⟩
      replace hF := klb hF ev32
      refine lv_iinc (v := v32) (lv' := [(4, .int v32), (0, .ref (ead E 26)), (1, .int a1), (3, .int a3)]) S.1 S.2.1 dX5_sheet_84 hl (k := 3) rfl (by rw [ev32]; rfl) (by decide) rfl (fun ls hl => ?_)
      refine lv_goto (tgt := 65) S.1 S.2.1 dX5_sheet_87 (by decide) ?_
      exact ih a1 a3 v32 _ _ _ _ hF hw (lv_sub hl [1, 2, 3, 0] rfl)
set_option maxHeartbeats 4000000 in
set_option maxRecDepth 100000 in
theorem mX5_sheet {l : Launch} {E : kE} {ω σ σ1 : kS} {r : Int32} {a1 : Int32} {a2 : Int32} {a3 : Int32}  (hF : fX5_sheet a1 a2 a3 σ = some (r, σ1)) : kMetI l yX5_sheet cX5_sheet 5 (some .int) 2 E [.ref (ead E 26), .int a1, .int a2, .int a3] (cmb ω σ) r (cmb ω σ1) := by
  refine kMetI.of (by decide +kernel) (Nat.le_of_ble_eq_true rfl) (Or.inl rfl) ?_
  intro p e s m args below meth c Q ls S hR hw hl
  have hl : lv_has ls 5 [(0, .ref (ead E 26)), (1, .int a1), (2, .int a2), (3, .int a3)] := hl
  unfold fX5_sheet at hF
  refine lv_iload_n S.1 S.2.1 dX5_sheet_0 rfl (lv_at hl 1 rfl) ?_
  obtain ⟨r3, σ2, e1, hF⟩ := kbi_e hF
  refine kcX5_noSheet S hw cv_X5_119 ⟨Nat.le_of_ble_eq_true rfl, Nat.le_of_ble_eq_true rfl⟩ e1 hl.1 (Nat.le_of_ble_eq_true rfl) dX5_sheet_1 (fun H locs hw hz4 => ?_)
  refine lv_if_eq (tgt := 13) S.1 S.2.1 dX5_sheet_4 (by decide) (fun c5 => ?_) (fun c5 => ?_)
  · replace hF := kit hF c5
    refine lv_iload_n S.1 S.2.1 dX5_sheet_13 rfl (lv_at hl 2 rfl) ?_
    refine lv_i2l S.1 S.2.1 dX5_sheet_14 rfl ?_
    refine lv_lconst (v := 0) S.1 S.2.1 dX5_sheet_15 (by decide) ?_
    refine lv_ldc2 (v := 2) S.1 S.2.1 S.2.2.2.1 (S.2.2.2.2 _ q3_82) dX5_sheet_16 ?_
    obtain ⟨r8, σ7, e6, hF⟩ := kbi_e hF
    refine kcX5_in S hw cv_X5_83 ⟨Nat.le_of_ble_eq_true rfl, Nat.le_of_ble_eq_true rfl⟩ e6 hl.1 (Nat.le_of_ble_eq_true rfl) dX5_sheet_19 (fun H locs hw hz9 => ?_)
    refine lv_if_eq (tgt := 31) S.1 S.2.1 dX5_sheet_22 (by decide) (fun c10 => ?_) (fun c10 => ?_)
    · replace hF := kit hF c10
      refine lv_aload_n S.1 S.2.1 dX5_sheet_31 rfl (lv_at hl 0 rfl) ?_
      refine lv_bipush (v := (-2)) S.1 S.2.1 dX5_sheet_32 (by decide) ?_
      obtain ⟨r13, σ12, e11, hF⟩ := kbi_e hF
      refine kcX5_refused S hw cv_X5_123 ⟨Nat.le_of_ble_eq_true rfl, Nat.le_of_ble_eq_true rfl⟩ e11 hl.1 (Nat.le_of_ble_eq_true rfl) dX5_sheet_34 (fun H locs hw => ?_)
      obtain ⟨rfl, rfl⟩ := kret hF
      exact hR _ _ _ _ dX5_sheet_37 hw (fun h => nomatch h)
    · replace hF := kif hF c10
      refine lv_iload_n S.1 S.2.1 dX5_sheet_25 rfl (lv_at hl 3 rfl) ?_
      refine lv_bipush (v := 60) S.1 S.2.1 dX5_sheet_26 (by decide) ?_
      refine lv_icmp_le (tgt := 38) S.1 S.2.1 dX5_sheet_28 (by decide) (fun c14 => ?_) (fun c14 => ?_)
      · replace hF := kit hF c14
        refine lv_iload_n S.1 S.2.1 dX5_sheet_38 rfl (lv_at hl 3 rfl) ?_
        refine lv_if_ge (tgt := 48) S.1 S.2.1 dX5_sheet_39 (by decide) (fun c15 => ?_) (fun c15 => ?_)
        · replace hF := kit hF c15
          refine lv_aload_n S.1 S.2.1 dX5_sheet_48 rfl (lv_at hl 0 rfl) ?_
          refine gf_X5_58 S hw dX5_sheet_49 ?_
          refine lv_iload_n S.1 S.2.1 dX5_sheet_52 rfl (lv_at hl 1 rfl) ?_
          refine lv_iload_n S.1 S.2.1 dX5_sheet_53 rfl (lv_at hl 3 rfl) ?_
          obtain ⟨hb16, hF⟩ := kin hF
          refine km_iast (q := 17) S hw rfl (Nat.le_of_ble_eq_true rfl) hb16 dX5_sheet_54 (fun H locs hw => ?_)
          refine lv_aload_n S.1 S.2.1 dX5_sheet_55 rfl (lv_at hl 0 rfl) ?_
          refine gf_X5_61 S hw dX5_sheet_56 ?_
          refine lv_iload_n S.1 S.2.1 dX5_sheet_59 rfl (lv_at hl 1 rfl) ?_
          refine lv_iload_n S.1 S.2.1 dX5_sheet_60 rfl (lv_at hl 2 rfl) ?_
          obtain ⟨hb17, hF⟩ := kin hF
          refine km_iast (q := 18) S hw rfl (Nat.le_of_ble_eq_true rfl) hb17 dX5_sheet_61 (fun H locs hw => ?_)
          refine lv_iconst (v := 0) S.1 S.2.1 dX5_sheet_62 (by decide) ?_
          refine lv_istore (lv' := [(4, .int 0), (0, .ref (ead E 26)), (1, .int a1), (2, .int a2), (3, .int a3)]) S.1 S.2.1 dX5_sheet_63 hl (by decide) rfl (fun ls hl => ?_)
          exact wX5_sheet_L65 S hR 1000 a1 a3 0 _ _ _ _ hF hw (lv_sub hl [1, 2, 4, 0] rfl)
        · replace hF := kif hF c15
          refine lv_aload_n S.1 S.2.1 dX5_sheet_42 rfl (lv_at hl 0 rfl) ?_
          refine lv_iconst (v := 4) S.1 S.2.1 dX5_sheet_43 (by decide) ?_
          obtain ⟨r20, σ19, e18, hF⟩ := kbi_e hF
          refine kcX5_failed S hw cv_X5_111 ⟨Nat.le_of_ble_eq_true rfl, Nat.le_of_ble_eq_true rfl⟩ e18 hl.1 (Nat.le_of_ble_eq_true rfl) dX5_sheet_44 (fun H locs hw => ?_)
          obtain ⟨rfl, rfl⟩ := kret hF
          exact hR _ _ _ _ dX5_sheet_47 hw (fun h => nomatch h)
      · replace hF := kif hF c14
        refine lv_aload_n S.1 S.2.1 dX5_sheet_31 rfl (lv_at hl 0 rfl) ?_
        refine lv_bipush (v := (-2)) S.1 S.2.1 dX5_sheet_32 (by decide) ?_
        obtain ⟨r23, σ22, e21, hF⟩ := kbi_e hF
        refine kcX5_refused S hw cv_X5_123 ⟨Nat.le_of_ble_eq_true rfl, Nat.le_of_ble_eq_true rfl⟩ e21 hl.1 (Nat.le_of_ble_eq_true rfl) dX5_sheet_34 (fun H locs hw => ?_)
        obtain ⟨rfl, rfl⟩ := kret hF
        exact hR _ _ _ _ dX5_sheet_37 hw (fun h => nomatch h)
  · replace hF := kif hF c5
    refine lv_aload_n S.1 S.2.1 dX5_sheet_7 rfl (lv_at hl 0 rfl) ?_
    refine lv_iconst (v := (-1)) S.1 S.2.1 dX5_sheet_8 (by decide) ?_
    obtain ⟨r26, σ25, e24, hF⟩ := kbi_e hF
    refine kcX5_refused S hw cv_X5_123 ⟨Nat.le_of_ble_eq_true rfl, Nat.le_of_ble_eq_true rfl⟩ e24 hl.1 (Nat.le_of_ble_eq_true rfl) dX5_sheet_9 (fun H locs hw => ?_)
    obtain ⟨rfl, rfl⟩ := kret hF
    exact hR _ _ _ _ dX5_sheet_12 hw (fun h => nomatch h)
set_option maxRecDepth 100000 in
theorem kcX5_sheet {p : Program} {l : Launch} {e : Env} {R : Room} {s : State} {m : MethodId} {args : Array Value} {below : List Frame} {meth : Method} {c : Code} {H : Heap} {locs : List Loc} {cells slots : Nat} {Q : State → Prop} {cc : ByteArray} {pc : Nat} {ls : Array Slot} {rest : List Value} {E : kE} {σ ω σ1 : kS} {nL index : Nat} {own : String} {r : Int32} (S : CallFix p m c cc nL s args kBIG own) (hw : kWS E s (cmb ω σ) H locs) (cw : kV own RX5 index yX5_sheet cX5_sheet 5 (some .int) 3) (hR : 2 + 1 ≤ R.frames ∧ 8 + (5 + 11) + 40 * 2 ≤ R.locals) {a1 : Int32} {a2 : Int32} {a3 : Int32}  (hF : fX5_sheet a1 a2 a3 σ = some (r, σ1)) (hls : ls.size = nL) (hW : (rest.map fun v => v.category).sum ≤ 8) (hdg : decode cc pc = .ok (.invokevirtual index, 3)) (kk : ∀ (H1 : Heap) (locs1 : List Loc), kWS E s (cmb ω σ1) H1 locs1 → W p l e R s m args below meth c H1 locs1 cells slots Q (F0 m (pc + 3) ls (.int r :: rest))) (hf : cells ≤ R.cells ∧ slots ≤ R.slots := by exact ⟨Nat.le_of_ble_eq_true rfl, Nat.le_of_ble_eq_true rfl⟩) : W p l e R s m args below meth c H locs cells slots Q (F0 m pc ls (.int a3 :: .int a2 :: .int a1 :: .ref (ead E 26) :: rest)) := kr_calli (mc := 0) (y := yX5_sheet) (b := cX5_sheet) (n := 0) (lv := 0) (As := []) (ret := some .int) hw (kr_runV (As := [.int a1, .int a2, .int a3]) (q := 26) S hw ((mX5_sheet (l := l) (E := E) (ω := ω) hF) H.size) cw hR rfl (by decide) rfl rfl hls _ rfl hW hdg hf) (fun H1 locs1 h _ => kk H1 locs1 h)
set_option maxHeartbeats 4000000 in
set_option maxRecDepth 100000 in
theorem mX5_lose {l : Launch} {E : kE} {ω σ σ1 : kS} {r : Int32} {a1 : Int32}  (hF : fX5_lose a1 σ = some (r, σ1)) : kMetI l yX5_lose cX5_lose 3 (some .int) 2 E [.ref (ead E 26), .int a1] (cmb ω σ) r (cmb ω σ1) := by
  refine kMetI.of (by decide +kernel) (Nat.le_of_ble_eq_true rfl) (Or.inl rfl) ?_
  intro p e s m args below meth c Q ls S hR hw hl
  have hl : lv_has ls 3 [(0, .ref (ead E 26)), (1, .int a1)] := hl
  unfold fX5_lose at hF
  refine lv_iload_n S.1 S.2.1 dX5_lose_0 rfl (lv_at hl 1 rfl) ?_
  obtain ⟨r3, σ2, e1, hF⟩ := kbi_e hF
  refine kcX5_noSheet S hw cv_X5_119 ⟨Nat.le_of_ble_eq_true rfl, Nat.le_of_ble_eq_true rfl⟩ e1 hl.1 (Nat.le_of_ble_eq_true rfl) dX5_lose_1 (fun H locs hw hz4 => ?_)
  refine lv_if_eq (tgt := 9) S.1 S.2.1 dX5_lose_4 (by decide) (fun c5 => ?_) (fun c5 => ?_)
  · replace hF := kit hF c5
    refine lv_aload_n S.1 S.2.1 dX5_lose_9 rfl (lv_at hl 0 rfl) ?_
    refine gf_X5_58 S hw dX5_lose_10 ?_
    refine lv_iload_n S.1 S.2.1 dX5_lose_13 rfl (lv_at hl 1 rfl) ?_
    obtain ⟨hb6, hF⟩ := kin hF
    refine km_iald (q := 17) S hw rfl (Nat.le_of_ble_eq_true rfl) hb6 dX5_lose_14 ?_
    refine lv_if_ge (tgt := 22) S.1 S.2.1 dX5_lose_15 (by decide) (fun c7 => ?_) (fun c7 => ?_)
    · replace hF := kit hF c7
      refine lv_iconst (v := 1) S.1 S.2.1 dX5_lose_22 (by decide) ?_
      refine lv_istore_n (lv' := [(2, .int 1), (0, .ref (ead E 26)), (1, .int a1)]) S.1 S.2.1 dX5_lose_23 rfl hl (by decide) rfl (fun ls hl => ?_)
      refine lv_aload_n S.1 S.2.1 dX5_lose_24 rfl (lv_at hl 1 rfl) ?_
      refine gf_X5_58 S hw dX5_lose_25 ?_
      refine lv_iload_n S.1 S.2.1 dX5_lose_28 rfl (lv_at hl 2 rfl) ?_
      refine lv_iconst (v := (-1)) S.1 S.2.1 dX5_lose_29 (by decide) ?_
      obtain ⟨hb8, hF⟩ := kin hF
      refine km_iast (q := 17) S hw rfl (Nat.le_of_ble_eq_true rfl) hb8 dX5_lose_30 (fun H locs hw => ?_)
      refine lv_iload_n S.1 S.2.1 dX5_lose_31 rfl (lv_at hl 0 rfl) ?_
      obtain ⟨rfl, rfl⟩ := kret hF
      exact hR _ _ _ _ dX5_lose_32 hw (fun h => nomatch h)
    · replace hF := kif hF c7
      refine lv_iconst (v := 0) S.1 S.2.1 dX5_lose_18 (by decide) ?_
      refine lv_goto (tgt := 23) S.1 S.2.1 dX5_lose_19 (by decide) ?_
      refine lv_istore_n (lv' := [(2, .int 0), (0, .ref (ead E 26)), (1, .int a1)]) S.1 S.2.1 dX5_lose_23 rfl hl (by decide) rfl (fun ls hl => ?_)
      refine lv_aload_n S.1 S.2.1 dX5_lose_24 rfl (lv_at hl 1 rfl) ?_
      refine gf_X5_58 S hw dX5_lose_25 ?_
      refine lv_iload_n S.1 S.2.1 dX5_lose_28 rfl (lv_at hl 2 rfl) ?_
      refine lv_iconst (v := (-1)) S.1 S.2.1 dX5_lose_29 (by decide) ?_
      obtain ⟨hb9, hF⟩ := kin hF
      refine km_iast (q := 17) S hw rfl (Nat.le_of_ble_eq_true rfl) hb9 dX5_lose_30 (fun H locs hw => ?_)
      refine lv_iload_n S.1 S.2.1 dX5_lose_31 rfl (lv_at hl 0 rfl) ?_
      obtain ⟨rfl, rfl⟩ := kret hF
      exact hR _ _ _ _ dX5_lose_32 hw (fun h => nomatch h)
  · replace hF := kif hF c5
    refine lv_iconst (v := (-1)) S.1 S.2.1 dX5_lose_7 (by decide) ?_
    obtain ⟨rfl, rfl⟩ := kret hF
    exact hR _ _ _ _ dX5_lose_8 hw (fun h => nomatch h)
set_option maxRecDepth 100000 in
theorem kcX5_lose {p : Program} {l : Launch} {e : Env} {R : Room} {s : State} {m : MethodId} {args : Array Value} {below : List Frame} {meth : Method} {c : Code} {H : Heap} {locs : List Loc} {cells slots : Nat} {Q : State → Prop} {cc : ByteArray} {pc : Nat} {ls : Array Slot} {rest : List Value} {E : kE} {σ ω σ1 : kS} {nL index : Nat} {own : String} {r : Int32} (S : CallFix p m c cc nL s args kBIG own) (hw : kWS E s (cmb ω σ) H locs) (cw : kV own RX5 index yX5_lose cX5_lose 3 (some .int) 1) (hR : 2 + 1 ≤ R.frames ∧ 8 + (3 + 11) + 40 * 2 ≤ R.locals) {a1 : Int32}  (hF : fX5_lose a1 σ = some (r, σ1)) (hls : ls.size = nL) (hW : (rest.map fun v => v.category).sum ≤ 8) (hdg : decode cc pc = .ok (.invokevirtual index, 3)) (kk : ∀ (H1 : Heap) (locs1 : List Loc), kWS E s (cmb ω σ1) H1 locs1 → W p l e R s m args below meth c H1 locs1 cells slots Q (F0 m (pc + 3) ls (.int r :: rest))) (hf : cells ≤ R.cells ∧ slots ≤ R.slots := by exact ⟨Nat.le_of_ble_eq_true rfl, Nat.le_of_ble_eq_true rfl⟩) : W p l e R s m args below meth c H locs cells slots Q (F0 m pc ls (.int a1 :: .ref (ead E 26) :: rest)) := kr_calli (mc := 0) (y := yX5_lose) (b := cX5_lose) (n := 0) (lv := 0) (As := []) (ret := some .int) hw (kr_runV (As := [.int a1]) (q := 26) S hw ((mX5_lose (l := l) (E := E) (ω := ω) hF) H.size) cw hR rfl (by decide) rfl rfl hls _ rfl hW hdg hf) (fun H1 locs1 h _ => kk H1 locs1 h)
set_option maxHeartbeats 4000000 in
set_option maxRecDepth 100000 in
theorem mX5_noCell {l : Launch} {E : kE} {ω σ σ1 : kS} {r : Int32} {a1 : Int32} {a2 : Int32}  (hF : fX5_noCell a1 a2 σ = some (r, σ1)) : kMetI l yX5_noCell cX5_noCell 3 (some .int) 1 E [.ref (ead E 26), .int a1, .int a2] (cmb ω σ) r (cmb ω σ1) := by
  refine kMetI.of (by decide +kernel) (Nat.le_of_ble_eq_true rfl) (Or.inl rfl) ?_
  intro p e s m args below meth c Q ls S hR hw hl
  have hl : lv_has ls 3 [(0, .ref (ead E 26)), (1, .int a1), (2, .int a2)] := hl
  unfold fX5_noCell at hF
  refine lv_aload_n S.1 S.2.1 dX5_noCell_0 rfl (lv_at hl 0 rfl) ?_
  refine gf_X5_58 S hw dX5_noCell_1 ?_
  refine lv_iload_n S.1 S.2.1 dX5_noCell_4 rfl (lv_at hl 1 rfl) ?_
  obtain ⟨hb1, hF⟩ := kin hF
  refine km_iald (q := 17) S hw rfl (Nat.le_of_ble_eq_true rfl) hb1 dX5_noCell_5 ?_
  refine lv_if_ge (tgt := 13) S.1 S.2.1 dX5_noCell_6 (by decide) (fun c2 => ?_) (fun c2 => ?_)
  · replace hF := kit hF c2
    refine lv_iload_n S.1 S.2.1 dX5_noCell_13 rfl (lv_at hl 2 rfl) ?_
    refine lv_i2l S.1 S.2.1 dX5_noCell_14 rfl ?_
    refine lv_lconst (v := 0) S.1 S.2.1 dX5_noCell_15 (by decide) ?_
    refine lv_aload_n S.1 S.2.1 dX5_noCell_16 rfl (lv_at hl 0 rfl) ?_
    refine gf_X5_58 S hw dX5_noCell_17 ?_
    refine lv_iload_n S.1 S.2.1 dX5_noCell_20 rfl (lv_at hl 1 rfl) ?_
    obtain ⟨hb3, hF⟩ := kin hF
    refine km_iald (q := 17) S hw rfl (Nat.le_of_ble_eq_true rfl) hb3 dX5_noCell_21 ?_
    refine lv_i2l S.1 S.2.1 dX5_noCell_22 rfl ?_
    refine lv_lconst (v := 1) S.1 S.2.1 dX5_noCell_23 (by decide) ?_
    refine lv_lsub S.1 S.2.1 dX5_noCell_24 ?_
    obtain ⟨r6, σ5, e4, hF⟩ := kbi_e hF
    refine kcX5_in S hw cv_X5_83 ⟨Nat.le_of_ble_eq_true rfl, Nat.le_of_ble_eq_true rfl⟩ e4 hl.1 (Nat.le_of_ble_eq_true rfl) dX5_noCell_25 (fun H locs hw hz7 => ?_)
    refine lv_if_eq (tgt := 35) S.1 S.2.1 dX5_noCell_28 (by decide) (fun c8 => ?_) (fun c8 => ?_)
    · replace hF := kit hF c8
      refine lv_iconst (v := 3) S.1 S.2.1 dX5_noCell_35 (by decide) ?_
      obtain ⟨rfl, rfl⟩ := kret hF
      exact hR _ _ _ _ dX5_noCell_36 hw (fun h => nomatch h)
    · replace hF := kif hF c8
      refine lv_iconst (v := 0) S.1 S.2.1 dX5_noCell_31 (by decide) ?_
      refine lv_goto (tgt := 36) S.1 S.2.1 dX5_noCell_32 (by decide) ?_
      obtain ⟨rfl, rfl⟩ := kret hF
      exact hR _ _ _ _ dX5_noCell_36 hw (fun h => nomatch h)
  · replace hF := kif hF c2
    refine lv_iconst (v := 1) S.1 S.2.1 dX5_noCell_9 (by decide) ?_
    refine lv_goto (tgt := 36) S.1 S.2.1 dX5_noCell_10 (by decide) ?_
    obtain ⟨rfl, rfl⟩ := kret hF
    exact hR _ _ _ _ dX5_noCell_36 hw (fun h => nomatch h)
set_option maxRecDepth 100000 in
theorem kcX5_noCell {p : Program} {l : Launch} {e : Env} {R : Room} {s : State} {m : MethodId} {args : Array Value} {below : List Frame} {meth : Method} {c : Code} {H : Heap} {locs : List Loc} {cells slots : Nat} {Q : State → Prop} {cc : ByteArray} {pc : Nat} {ls : Array Slot} {rest : List Value} {E : kE} {σ ω σ1 : kS} {nL index : Nat} {own : String} {r : Int32} (S : CallFix p m c cc nL s args kBIG own) (hw : kWS E s (cmb ω σ) H locs) (cw : kV own RX5 index yX5_noCell cX5_noCell 3 (some .int) 2) (hR : 1 + 1 ≤ R.frames ∧ 8 + (3 + 11) + 40 * 1 ≤ R.locals) {a1 : Int32} {a2 : Int32}  (hF : fX5_noCell a1 a2 σ = some (r, σ1)) (hls : ls.size = nL) (hW : (rest.map fun v => v.category).sum ≤ 8) (hdg : decode cc pc = .ok (.invokevirtual index, 3)) (kk : ∀ (H1 : Heap) (locs1 : List Loc), kWS E s (cmb ω σ1) H1 locs1 → W p l e R s m args below meth c H1 locs1 cells slots Q (F0 m (pc + 3) ls (.int r :: rest))) (hf : cells ≤ R.cells ∧ slots ≤ R.slots := by exact ⟨Nat.le_of_ble_eq_true rfl, Nat.le_of_ble_eq_true rfl⟩) : W p l e R s m args below meth c H locs cells slots Q (F0 m pc ls (.int a2 :: .int a1 :: .ref (ead E 26) :: rest)) := kr_calli (mc := 0) (y := yX5_noCell) (b := cX5_noCell) (n := 0) (lv := 0) (As := []) (ret := some .int) hw (kr_runV (As := [.int a1, .int a2]) (q := 26) S hw ((mX5_noCell (l := l) (E := E) (ω := ω) hF) H.size) cw hR rfl (by decide) rfl rfl hls _ rfl hW hdg hf) (fun H1 locs1 h _ => kk H1 locs1 h)
set_option maxHeartbeats 4000000 in
set_option maxRecDepth 100000 in
theorem mX5_put {l : Launch} {E : kE} {ω σ σ1 : kS} {r : Int32} {a1 : Int32} {a2 : Int32} {a3 : Int32}  (hF : fX5_put a1 a2 a3 σ = some (r, σ1)) : kMetI l yX5_put cX5_put 4 (some .int) 2 E [.ref (ead E 26), .int a1, .int a2, .int a3] (cmb ω σ) r (cmb ω σ1) := by
  refine kMetI.of (by decide +kernel) (Nat.le_of_ble_eq_true rfl) (Or.inl rfl) ?_
  intro p e s m args below meth c Q ls S hR hw hl
  have hl : lv_has ls 4 [(0, .ref (ead E 26)), (1, .int a1), (2, .int a2), (3, .int a3)] := hl
  unfold fX5_put at hF
  refine lv_iload_n S.1 S.2.1 dX5_put_0 rfl (lv_at hl 1 rfl) ?_
  obtain ⟨r3, σ2, e1, hF⟩ := kbi_e hF
  refine kcX5_noSheet S hw cv_X5_119 ⟨Nat.le_of_ble_eq_true rfl, Nat.le_of_ble_eq_true rfl⟩ e1 hl.1 (Nat.le_of_ble_eq_true rfl) dX5_put_1 (fun H locs hw hz4 => ?_)
  refine lv_if_eq (tgt := 13) S.1 S.2.1 dX5_put_4 (by decide) (fun c5 => ?_) (fun c5 => ?_)
  · replace hF := kit hF c5
    refine lv_aload_n S.1 S.2.1 dX5_put_13 rfl (lv_at hl 0 rfl) ?_
    refine lv_iload_n S.1 S.2.1 dX5_put_14 rfl (lv_at hl 1 rfl) ?_
    refine lv_iload_n S.1 S.2.1 dX5_put_15 rfl (lv_at hl 2 rfl) ?_
    obtain ⟨r8, σ7, e6, hF⟩ := kbi_e hF
    refine kcX5_noCell S hw cv_X5_239 ⟨Nat.le_of_ble_eq_true rfl, Nat.le_of_ble_eq_true rfl⟩ e6 hl.1 (Nat.le_of_ble_eq_true rfl) dX5_put_16 (fun H locs hw => ?_)
    refine lv_if_le (tgt := 33) S.1 S.2.1 dX5_put_19 (by decide) (fun c9 => ?_) (fun c9 => ?_)
    · replace hF := kit hF c9
      refine lv_aload_n S.1 S.2.1 dX5_put_33 rfl (lv_at hl 0 rfl) ?_
      refine gf_X5_64 S hw dX5_put_34 ?_
      refine lv_bipush (v := 60) S.1 S.2.1 dX5_put_37 (by decide) ?_
      refine lv_iload_n S.1 S.2.1 dX5_put_39 rfl (lv_at hl 1 rfl) ?_
      refine lv_imul S.1 S.2.1 dX5_put_40 ?_
      refine lv_iload_n S.1 S.2.1 dX5_put_41 rfl (lv_at hl 2 rfl) ?_
      refine lv_iadd S.1 S.2.1 dX5_put_42 ?_
      refine lv_aload_n S.1 S.2.1 dX5_put_43 rfl (lv_at hl 0 rfl) ?_
      refine gf_X5_61 S hw dX5_put_44 ?_
      refine lv_iload_n S.1 S.2.1 dX5_put_47 rfl (lv_at hl 1 rfl) ?_
      obtain ⟨hb10, hF⟩ := kin hF
      refine km_iald (q := 18) S hw rfl (Nat.le_of_ble_eq_true rfl) hb10 dX5_put_48 ?_
      refine lv_if_ne (tgt := 57) S.1 S.2.1 dX5_put_49 (by decide) (fun c11 => ?_) (fun c11 => ?_)
      · replace hF := kif hF c11
        refine lv_aload_n S.1 S.2.1 dX5_put_57 rfl (lv_at hl 0 rfl) ?_
        refine gf_X5_61 S hw dX5_put_58 ?_
        refine lv_iload_n S.1 S.2.1 dX5_put_61 rfl (lv_at hl 1 rfl) ?_
        obtain ⟨hb12, hF⟩ := kin hF
        refine km_iald (q := 18) S hw rfl (Nat.le_of_ble_eq_true rfl) hb12 dX5_put_62 ?_
        refine lv_iconst (v := 1) S.1 S.2.1 dX5_put_63 (by decide) ?_
        refine lv_icmp_ne (tgt := 72) S.1 S.2.1 dX5_put_64 (by decide) (fun c13 => ?_) (fun c13 => ?_)
        · replace hF := kif hF c13
          refine lv_iload_n S.1 S.2.1 dX5_put_72 rfl (lv_at hl 3 rfl) ?_
          obtain ⟨hb14, hF⟩ := kin hF
          refine km_iast (q := 19) S hw rfl (Nat.le_of_ble_eq_true rfl) hb14 dX5_put_73 (fun H locs hw => ?_)
          refine lv_aload_n S.1 S.2.1 dX5_put_74 rfl (lv_at hl 0 rfl) ?_
          refine lv_iconst (v := 1) S.1 S.2.1 dX5_put_75 (by decide) ?_
          obtain ⟨r17, σ16, e15, hF⟩ := kbi_e hF
          refine kcX5_refused S hw cv_X5_123 ⟨Nat.le_of_ble_eq_true rfl, Nat.le_of_ble_eq_true rfl⟩ e15 hl.1 (Nat.le_of_ble_eq_true rfl) dX5_put_76 (fun H locs hw => ?_)
          obtain ⟨rfl, rfl⟩ := kret hF
          exact hR _ _ _ _ dX5_put_79 hw (fun h => nomatch h)
        · replace hF := kit hF c13
          refine lv_iload_n S.1 S.2.1 dX5_put_67 rfl (lv_at hl 3 rfl) ?_
          refine lv_i2s S.1 S.2.1 dX5_put_68 rfl ?_
          refine lv_goto (tgt := 73) S.1 S.2.1 dX5_put_69 (by decide) ?_
          obtain ⟨hb18, hF⟩ := kin hF
          refine km_iast (q := 19) S hw rfl (Nat.le_of_ble_eq_true rfl) hb18 dX5_put_73 (fun H locs hw => ?_)
          refine lv_aload_n S.1 S.2.1 dX5_put_74 rfl (lv_at hl 0 rfl) ?_
          refine lv_iconst (v := 1) S.1 S.2.1 dX5_put_75 (by decide) ?_
          obtain ⟨r21, σ20, e19, hF⟩ := kbi_e hF
          refine kcX5_refused S hw cv_X5_123 ⟨Nat.le_of_ble_eq_true rfl, Nat.le_of_ble_eq_true rfl⟩ e19 hl.1 (Nat.le_of_ble_eq_true rfl) dX5_put_76 (fun H locs hw => ?_)
          obtain ⟨rfl, rfl⟩ := kret hF
          exact hR _ _ _ _ dX5_put_79 hw (fun h => nomatch h)
      · replace hF := kit hF c11
        refine lv_iload_n S.1 S.2.1 dX5_put_52 rfl (lv_at hl 3 rfl) ?_
        refine lv_i2b S.1 S.2.1 dX5_put_53 rfl ?_
        refine lv_goto (tgt := 73) S.1 S.2.1 dX5_put_54 (by decide) ?_
        obtain ⟨hb22, hF⟩ := kin hF
        refine km_iast (q := 19) S hw rfl (Nat.le_of_ble_eq_true rfl) hb22 dX5_put_73 (fun H locs hw => ?_)
        refine lv_aload_n S.1 S.2.1 dX5_put_74 rfl (lv_at hl 0 rfl) ?_
        refine lv_iconst (v := 1) S.1 S.2.1 dX5_put_75 (by decide) ?_
        obtain ⟨r25, σ24, e23, hF⟩ := kbi_e hF
        refine kcX5_refused S hw cv_X5_123 ⟨Nat.le_of_ble_eq_true rfl, Nat.le_of_ble_eq_true rfl⟩ e23 hl.1 (Nat.le_of_ble_eq_true rfl) dX5_put_76 (fun H locs hw => ?_)
        obtain ⟨rfl, rfl⟩ := kret hF
        exact hR _ _ _ _ dX5_put_79 hw (fun h => nomatch h)
    · replace hF := kif hF c9
      refine lv_aload_n S.1 S.2.1 dX5_put_22 rfl (lv_at hl 0 rfl) ?_
      refine lv_aload_n S.1 S.2.1 dX5_put_23 rfl (lv_at hl 0 rfl) ?_
      refine lv_iload_n S.1 S.2.1 dX5_put_24 rfl (lv_at hl 1 rfl) ?_
      refine lv_iload_n S.1 S.2.1 dX5_put_25 rfl (lv_at hl 2 rfl) ?_
      obtain ⟨r28, σ27, e26, hF⟩ := kbi_e hF
      refine kcX5_noCell S hw cv_X5_239 ⟨Nat.le_of_ble_eq_true rfl, Nat.le_of_ble_eq_true rfl⟩ e26 hl.1 (Nat.le_of_ble_eq_true rfl) dX5_put_26 (fun H locs hw => ?_)
      obtain ⟨r31, σ30, e29, hF⟩ := kbi_e hF
      refine kcX5_failed S hw cv_X5_111 ⟨Nat.le_of_ble_eq_true rfl, Nat.le_of_ble_eq_true rfl⟩ e29 hl.1 (Nat.le_of_ble_eq_true rfl) dX5_put_29 (fun H locs hw => ?_)
      obtain ⟨rfl, rfl⟩ := kret hF
      exact hR _ _ _ _ dX5_put_32 hw (fun h => nomatch h)
  · replace hF := kif hF c5
    refine lv_aload_n S.1 S.2.1 dX5_put_7 rfl (lv_at hl 0 rfl) ?_
    refine lv_iconst (v := (-1)) S.1 S.2.1 dX5_put_8 (by decide) ?_
    obtain ⟨r34, σ33, e32, hF⟩ := kbi_e hF
    refine kcX5_refused S hw cv_X5_123 ⟨Nat.le_of_ble_eq_true rfl, Nat.le_of_ble_eq_true rfl⟩ e32 hl.1 (Nat.le_of_ble_eq_true rfl) dX5_put_9 (fun H locs hw => ?_)
    obtain ⟨rfl, rfl⟩ := kret hF
    exact hR _ _ _ _ dX5_put_12 hw (fun h => nomatch h)
set_option maxRecDepth 100000 in
theorem kcX5_put {p : Program} {l : Launch} {e : Env} {R : Room} {s : State} {m : MethodId} {args : Array Value} {below : List Frame} {meth : Method} {c : Code} {H : Heap} {locs : List Loc} {cells slots : Nat} {Q : State → Prop} {cc : ByteArray} {pc : Nat} {ls : Array Slot} {rest : List Value} {E : kE} {σ ω σ1 : kS} {nL index : Nat} {own : String} {r : Int32} (S : CallFix p m c cc nL s args kBIG own) (hw : kWS E s (cmb ω σ) H locs) (cw : kV own RX5 index yX5_put cX5_put 4 (some .int) 3) (hR : 2 + 1 ≤ R.frames ∧ 8 + (4 + 11) + 40 * 2 ≤ R.locals) {a1 : Int32} {a2 : Int32} {a3 : Int32}  (hF : fX5_put a1 a2 a3 σ = some (r, σ1)) (hls : ls.size = nL) (hW : (rest.map fun v => v.category).sum ≤ 8) (hdg : decode cc pc = .ok (.invokevirtual index, 3)) (kk : ∀ (H1 : Heap) (locs1 : List Loc), kWS E s (cmb ω σ1) H1 locs1 → W p l e R s m args below meth c H1 locs1 cells slots Q (F0 m (pc + 3) ls (.int r :: rest))) (hf : cells ≤ R.cells ∧ slots ≤ R.slots := by exact ⟨Nat.le_of_ble_eq_true rfl, Nat.le_of_ble_eq_true rfl⟩) : W p l e R s m args below meth c H locs cells slots Q (F0 m pc ls (.int a3 :: .int a2 :: .int a1 :: .ref (ead E 26) :: rest)) := kr_calli (mc := 0) (y := yX5_put) (b := cX5_put) (n := 0) (lv := 0) (As := []) (ret := some .int) hw (kr_runV (As := [.int a1, .int a2, .int a3]) (q := 26) S hw ((mX5_put (l := l) (E := E) (ω := ω) hF) H.size) cw hR rfl (by decide) rfl rfl hls _ rfl hW hdg hf) (fun H1 locs1 h _ => kk H1 locs1 h)
set_option maxHeartbeats 4000000 in
set_option maxRecDepth 100000 in
theorem wX5_cell_J53 {p : Program} {l : Launch} {e : Env} {s : State} {m : MethodId} {args : Array Value} {below : List Frame} {meth : Method} {c : Code} {Q : State → Prop} {E : kE} {ω σ1 : kS} {r : Int64} (S : CallFix p m c cX5_cell 4 s args kBIG RX5) (hR : kRetL p l e (rml 2) s m args below meth c cX5_cell E Q r (cmb ω σ1))  : ∀ (a1 : Int32) (a2 : Int32) (σ : kS) (H : Heap) (locs : List Loc) (ls : Array Slot), fX5_cell_J53 a1 a2 σ = some (r, σ1) → kWS E s (cmb ω σ) H locs → lv_has ls 4 [(0, .ref (ead E 26)), (1, .int a1), (2, .int a2)] → W p l e (rml 2) s m args below meth c H locs 0 0 Q (F0 m 53 ls []) := by
  intro a1 a2 σ H locs ls hF hw hl
  unfold fX5_cell_J53 at hF
  refine lv_aload_n S.1 S.2.1 dX5_cell_53 rfl (lv_at hl 0 rfl) ?_
  refine lv_iload_n S.1 S.2.1 dX5_cell_54 rfl (lv_at hl 1 rfl) ?_
  refine lv_iload_n S.1 S.2.1 dX5_cell_55 rfl (lv_at hl 2 rfl) ?_
  obtain ⟨r26, σ25, e24, hF⟩ := kbi_e hF
  refine kcX5_noCell S hw cv_X5_239 ⟨Nat.le_of_ble_eq_true rfl, Nat.le_of_ble_eq_true rfl⟩ e24 hl.1 (Nat.le_of_ble_eq_true rfl) dX5_cell_56 (fun H locs hw => ?_)
  refine lv_if_le (tgt := 75) S.1 S.2.1 dX5_cell_59 (by decide) (fun c27 => ?_) (fun c27 => ?_)
  · replace hF := kit hF c27
    refine lv_aload_n S.1 S.2.1 dX5_cell_75 rfl (lv_at hl 0 rfl) ?_
    refine gf_X5_64 S hw dX5_cell_76 ?_
    refine lv_bipush (v := 60) S.1 S.2.1 dX5_cell_79 (by decide) ?_
    refine lv_iload_n S.1 S.2.1 dX5_cell_81 rfl (lv_at hl 1 rfl) ?_
    refine lv_imul S.1 S.2.1 dX5_cell_82 ?_
    refine lv_iload_n S.1 S.2.1 dX5_cell_83 rfl (lv_at hl 2 rfl) ?_
    refine lv_iadd S.1 S.2.1 dX5_cell_84 ?_
    obtain ⟨hb28, hF⟩ := kin hF
    refine km_iald (q := 19) S hw rfl (Nat.le_of_ble_eq_true rfl) hb28 dX5_cell_85 ?_
    refine lv_i2l S.1 S.2.1 dX5_cell_86 rfl ?_
    obtain ⟨rfl, rfl⟩ := kret hF
    exact hR _ _ _ _ dX5_cell_87 hw
  · replace hF := kif hF c27
    refine lv_aload_n S.1 S.2.1 dX5_cell_62 rfl (lv_at hl 0 rfl) ?_
    refine lv_aload_n S.1 S.2.1 dX5_cell_63 rfl (lv_at hl 0 rfl) ?_
    refine lv_iload_n S.1 S.2.1 dX5_cell_64 rfl (lv_at hl 1 rfl) ?_
    refine lv_iload_n S.1 S.2.1 dX5_cell_65 rfl (lv_at hl 2 rfl) ?_
    obtain ⟨r31, σ30, e29, hF⟩ := kbi_e hF
    refine kcX5_noCell S hw cv_X5_239 ⟨Nat.le_of_ble_eq_true rfl, Nat.le_of_ble_eq_true rfl⟩ e29 hl.1 (Nat.le_of_ble_eq_true rfl) dX5_cell_66 (fun H locs hw => ?_)
    obtain ⟨r34, σ33, e32, hF⟩ := kbl_e hF
    refine kcX5_failedLong S hw cv_X5_242 ⟨Nat.le_of_ble_eq_true rfl, Nat.le_of_ble_eq_true rfl⟩ e32 hl.1 (Nat.le_of_ble_eq_true rfl) dX5_cell_69 (fun H locs hw => ?_)
    refine lv_goto (tgt := 87) S.1 S.2.1 dX5_cell_72 (by decide) ?_
    obtain ⟨rfl, rfl⟩ := kret hF
    exact hR _ _ _ _ dX5_cell_87 hw
set_option maxHeartbeats 4000000 in
set_option maxRecDepth 100000 in
theorem mX5_cell {l : Launch} {E : kE} {ω σ σ1 : kS} {r : Int64} {a1 : Int32} {a2 : Int32} {a3 : Int32}  (hF : fX5_cell a1 a2 a3 σ = some (r, σ1)) : kMetL l yX5_cell cX5_cell 4 2 E [.ref (ead E 26), .int a1, .int a2, .int a3] (cmb ω σ) r (cmb ω σ1) := by
  refine kMetL.of (by decide +kernel) (Nat.le_of_ble_eq_true rfl) ?_
  intro p e s m args below meth c Q ls S hR hw hl
  have hl : lv_has ls 4 [(0, .ref (ead E 26)), (1, .int a1), (2, .int a2), (3, .int a3)] := hl
  unfold fX5_cell at hF
  refine lv_aload_n S.1 S.2.1 dX5_cell_0 rfl (lv_at hl 0 rfl) ?_
  refine lv_iconst (v := 0) S.1 S.2.1 dX5_cell_1 (by decide) ?_
  refine pf_X5_72 S hw dX5_cell_2 (fun H locs hw => ?_)
  refine lv_iload_n S.1 S.2.1 dX5_cell_5 rfl (lv_at hl 1 rfl) ?_
  obtain ⟨r3, σ2, e1, hF⟩ := kbi_e hF
  refine kcX5_noSheet S hw cv_X5_119 ⟨Nat.le_of_ble_eq_true rfl, Nat.le_of_ble_eq_true rfl⟩ e1 hl.1 (Nat.le_of_ble_eq_true rfl) dX5_cell_6 (fun H locs hw hz4 => ?_)
  refine lv_if_ne (tgt := 24) S.1 S.2.1 dX5_cell_9 (by decide) (fun c5 => ?_) (fun c5 => ?_)
  · replace hF := kif hF c5
    obtain ⟨r8, σ7, e6, hF⟩ := kbl_e hF
    refine kcX5_lost S hw cv_X5_76 ⟨Nat.le_of_ble_eq_true rfl, Nat.le_of_ble_eq_true rfl⟩ e6 hl.1 (Nat.le_of_ble_eq_true rfl) dX5_cell_24 (fun H locs hw => ?_)
    obtain ⟨rfl, rfl⟩ := kret hF
    exact hR _ _ _ _ dX5_cell_27 hw
  · replace hF := kit hF c5
    refine lv_iload_n S.1 S.2.1 dX5_cell_12 rfl (lv_at hl 3 rfl) ?_
    refine lv_i2l S.1 S.2.1 dX5_cell_13 rfl ?_
    refine lv_lconst (v := 0) S.1 S.2.1 dX5_cell_14 (by decide) ?_
    refine lv_ldc2 (v := 2) S.1 S.2.1 S.2.2.2.1 (S.2.2.2.2 _ q3_82) dX5_cell_15 ?_
    obtain ⟨r11, σ10, e9, hF⟩ := kbi_e hF
    refine kcX5_in S hw cv_X5_83 ⟨Nat.le_of_ble_eq_true rfl, Nat.le_of_ble_eq_true rfl⟩ e9 hl.1 (Nat.le_of_ble_eq_true rfl) dX5_cell_18 (fun H locs hw hz12 => ?_)
    refine lv_if_ne (tgt := 28) S.1 S.2.1 dX5_cell_21 (by decide) (fun c13 => ?_) (fun c13 => ?_)
    · replace hF := kif hF c13
      refine lv_aload_n S.1 S.2.1 dX5_cell_28 rfl (lv_at hl 0 rfl) ?_
      refine gf_X5_58 S hw dX5_cell_29 ?_
      refine lv_iload_n S.1 S.2.1 dX5_cell_32 rfl (lv_at hl 1 rfl) ?_
      obtain ⟨hb14, hF⟩ := kin hF
      refine km_iald (q := 17) S hw rfl (Nat.le_of_ble_eq_true rfl) hb14 dX5_cell_33 ?_
      refine lv_if_lt (tgt := 53) S.1 S.2.1 dX5_cell_34 (by decide) (fun c15 => ?_) (fun c15 => ?_)
      · replace hF := kit hF c15
        exact wX5_cell_J53 S hR a1 a2 _ _ _ _ hF hw (lv_sub hl [0, 1, 2] rfl)
      · replace hF := kif hF c15
        refine lv_aload_n S.1 S.2.1 dX5_cell_37 rfl (lv_at hl 0 rfl) ?_
        refine gf_X5_61 S hw dX5_cell_38 ?_
        refine lv_iload_n S.1 S.2.1 dX5_cell_41 rfl (lv_at hl 1 rfl) ?_
        obtain ⟨hb16, hF⟩ := kin hF
        refine km_iald (q := 18) S hw rfl (Nat.le_of_ble_eq_true rfl) hb16 dX5_cell_42 ?_
        refine lv_iload_n S.1 S.2.1 dX5_cell_43 rfl (lv_at hl 3 rfl) ?_
        refine lv_icmp_eq (tgt := 53) S.1 S.2.1 dX5_cell_44 (by decide) (fun c17 => ?_) (fun c17 => ?_)
        · replace hF := kit hF c17
          exact wX5_cell_J53 S hR a1 a2 _ _ _ _ hF hw (lv_sub hl [0, 1, 2] rfl)
        · replace hF := kif hF c17
          refine lv_aload_n S.1 S.2.1 dX5_cell_47 rfl (lv_at hl 0 rfl) ?_
          refine lv_iconst (v := 2) S.1 S.2.1 dX5_cell_48 (by decide) ?_
          obtain ⟨r20, σ19, e18, hF⟩ := kbl_e hF
          refine kcX5_failedLong S hw cv_X5_242 ⟨Nat.le_of_ble_eq_true rfl, Nat.le_of_ble_eq_true rfl⟩ e18 hl.1 (Nat.le_of_ble_eq_true rfl) dX5_cell_49 (fun H locs hw => ?_)
          obtain ⟨rfl, rfl⟩ := kret hF
          exact hR _ _ _ _ dX5_cell_52 hw
    · replace hF := kit hF c13
      obtain ⟨r23, σ22, e21, hF⟩ := kbl_e hF
      refine kcX5_lost S hw cv_X5_76 ⟨Nat.le_of_ble_eq_true rfl, Nat.le_of_ble_eq_true rfl⟩ e21 hl.1 (Nat.le_of_ble_eq_true rfl) dX5_cell_24 (fun H locs hw => ?_)
      obtain ⟨rfl, rfl⟩ := kret hF
      exact hR _ _ _ _ dX5_cell_27 hw
set_option maxRecDepth 100000 in
theorem kcX5_cell {p : Program} {l : Launch} {e : Env} {R : Room} {s : State} {m : MethodId} {args : Array Value} {below : List Frame} {meth : Method} {c : Code} {H : Heap} {locs : List Loc} {cells slots : Nat} {Q : State → Prop} {cc : ByteArray} {pc : Nat} {ls : Array Slot} {rest : List Value} {E : kE} {σ ω σ1 : kS} {nL index : Nat} {own : String} {r : Int64} (S : CallFix p m c cc nL s args kBIG own) (hw : kWS E s (cmb ω σ) H locs) (cw : kV own RX5 index yX5_cell cX5_cell 4 (some .long) 3) (hR : 2 + 1 ≤ R.frames ∧ 8 + (4 + 11) + 40 * 2 ≤ R.locals) {a1 : Int32} {a2 : Int32} {a3 : Int32}  (hF : fX5_cell a1 a2 a3 σ = some (r, σ1)) (hls : ls.size = nL) (hW : (rest.map fun v => v.category).sum ≤ 8) (hdg : decode cc pc = .ok (.invokevirtual index, 3)) (kk : ∀ (H1 : Heap) (locs1 : List Loc), kWS E s (cmb ω σ1) H1 locs1 → W p l e R s m args below meth c H1 locs1 cells slots Q (F0 m (pc + 3) ls (.long r :: rest))) (hf : cells ≤ R.cells ∧ slots ≤ R.slots := by exact ⟨Nat.le_of_ble_eq_true rfl, Nat.le_of_ble_eq_true rfl⟩) : W p l e R s m args below meth c H locs cells slots Q (F0 m pc ls (.int a3 :: .int a2 :: .int a1 :: .ref (ead E 26) :: rest)) := kr_calll hw (kr_runV (As := [.int a1, .int a2, .int a3]) (q := 26) S hw ((mX5_cell (l := l) (E := E) (ω := ω) hF) H.size) cw hR rfl (by decide) rfl rfl hls _ rfl hW hdg hf) kk
set_option maxHeartbeats 4000000 in
set_option maxRecDepth 100000 in
theorem wX5_copy_L144 {p : Program} {l : Launch} {e : Env} {s : State} {m : MethodId} {args : Array Value} {below : List Frame} {meth : Method} {c : Code} {Q : State → Prop} {E : kE} {ω σ1 : kS} {r : Int32} (S : CallFix p m c cX5_copy 7 s args kBIG RX5) (hR : kRetI p l e (rml 2) s m args below meth c cX5_copy E Q (some .int) r (cmb ω σ1))  : ∀ (n : Nat), ∀ (a3 : Int32) (a4 : Int32) (a5 : Int32) (a6 : Int32) (σ : kS) (H : Heap) (locs : List Loc) (ls : Array Slot), fX5_copy_L144 n a3 a4 a5 a6 σ = some (r, σ1) → kWS E s (cmb ω σ) H locs → lv_has ls 7 [(0, .ref (ead E 26)), (3, .int a3), (4, .int a4), (5, .int a5), (6, .int a6)] → W p l e (rml 2) s m args below meth c H locs 0 0 Q (F0 m 144 ls []) := by
  intro n
  induction n with
  | zero =>
    intro a3 a4 a5 a6 σ H locs ls hF hw hl
    exact absurd hF (fun h => nomatch h)
  | succ n ih =>
    intro a3 a4 a5 a6 σ H locs ls hF hw hl
    rw [fX5_copy_L144] at hF
    refine lv_iload S.1 S.2.1 dX5_copy_144 (lv_at hl 4 rfl) ?_
    refine lv_iload S.1 S.2.1 dX5_copy_146 (lv_at hl 3 rfl) ?_
    refine lv_icmp_ge (tgt := 179) S.1 S.2.1 dX5_copy_148 (by decide) (fun c55 => ?_) (fun c55 => ?_)
    · replace hF := kit hF c55
      refine lv_aload_n S.1 S.2.1 dX5_copy_179 rfl (lv_at hl 0 rfl) ?_
      refine lv_iload S.1 S.2.1 dX5_copy_180 (lv_at hl 3 rfl) ?_
      obtain ⟨r58, σ57, e56, hF⟩ := kbi_e hF
      refine kcX5_refused S hw cv_X5_123 ⟨Nat.le_of_ble_eq_true rfl, Nat.le_of_ble_eq_true rfl⟩ e56 hl.1 (Nat.le_of_ble_eq_true rfl) dX5_copy_182 (fun H locs hw => ?_)
      obtain ⟨rfl, rfl⟩ := kret hF
      exact hR _ _ _ _ dX5_copy_185 hw (fun h => nomatch h)
    · replace hF := kif hF c55
      refine lv_aload_n S.1 S.2.1 dX5_copy_151 rfl (lv_at hl 0 rfl) ?_
      refine gf_X5_64 S hw dX5_copy_152 ?_
      refine lv_bipush (v := 60) S.1 S.2.1 dX5_copy_155 (by decide) ?_
      refine lv_iload_n S.1 S.2.1 dX5_copy_157 rfl (lv_at hl 1 rfl) ?_
      refine lv_imul S.1 S.2.1 dX5_copy_158 ?_
      refine lv_iload S.1 S.2.1 dX5_copy_159 (lv_at hl 2 rfl) ?_
      refine lv_iadd S.1 S.2.1 dX5_copy_161 ?_
      refine lv_iload S.1 S.2.1 dX5_copy_162 (lv_at hl 4 rfl) ?_
      refine lv_iadd S.1 S.2.1 dX5_copy_164 ?_
      refine lv_aload_n S.1 S.2.1 dX5_copy_165 rfl (lv_at hl 0 rfl) ?_
      refine gf_X5_67 S hw dX5_copy_166 ?_
      refine lv_iload S.1 S.2.1 dX5_copy_169 (lv_at hl 4 rfl) ?_
      obtain ⟨hb59, hF⟩ := kin hF
      refine km_iald (q := 20) S hw rfl (Nat.le_of_ble_eq_true rfl) hb59 dX5_copy_171 ?_
      obtain ⟨hb60, hF⟩ := kin hF
      refine km_iast (q := 19) S hw rfl (Nat.le_of_ble_eq_true rfl) hb60 dX5_copy_172 (fun H locs hw => ?_)
      obtain ⟨v61, ev61⟩ : ∃ y : Int32, y = a6 + 1 := ⟨_, rfl⟩
      replace hF := klb hF ev61
      refine lv_iinc (v := v61) (lv' := [(6, .int v61), (0, .ref (ead E 26)), (3, .int a3), (4, .int a4), (5, .int a5)]) S.1 S.2.1 dX5_copy_173 hl (k := 4) rfl (by rw [ev61]; rfl) (by decide) rfl (fun ls hl => ?_)
      refine lv_goto (tgt := 144) S.1 S.2.1 dX5_copy_176 (by decide) ?_
      exact ih a3 a4 a5 v61 _ _ _ _ hF hw (lv_sub hl [1, 2, 3, 4, 0] rfl)
set_option maxHeartbeats 4000000 in
set_option maxRecDepth 100000 in
theorem wX5_copy_L107 {p : Program} {l : Launch} {e : Env} {s : State} {m : MethodId} {args : Array Value} {below : List Frame} {meth : Method} {c : Code} {Q : State → Prop} {E : kE} {ω σ1 : kS} {r : Int32} (S : CallFix p m c cX5_copy 7 s args kBIG RX5) (hR : kRetI p l e (rml 2) s m args below meth c cX5_copy E Q (some .int) r (cmb ω σ1))  : ∀ (n : Nat), ∀ (a1 : Int32) (a2 : Int32) (a3 : Int32) (a4 : Int32) (a5 : Int32) (a6 : Int32) (σ : kS) (H : Heap) (locs : List Loc) (ls : Array Slot), fX5_copy_L107 n a1 a2 a3 a4 a5 a6 σ = some (r, σ1) → kWS E s (cmb ω σ) H locs → lv_has ls 7 [(0, .ref (ead E 26)), (1, .int a1), (2, .int a2), (3, .int a3), (4, .int a4), (5, .int a5), (6, .int a6)] → W p l e (rml 2) s m args below meth c H locs 0 0 Q (F0 m 107 ls []) := by
  intro n
  induction n with
  | zero =>
    intro a1 a2 a3 a4 a5 a6 σ H locs ls hF hw hl
    exact absurd hF (fun h => nomatch h)
  | succ n ih =>
    intro a1 a2 a3 a4 a5 a6 σ H locs ls hF hw hl
    rw [fX5_copy_L107] at hF
    refine lv_iload S.1 S.2.1 dX5_copy_107 (lv_at hl 6 rfl) ?_
    refine lv_iload S.1 S.2.1 dX5_copy_109 (lv_at hl 5 rfl) ?_
    refine lv_icmp_ge (tgt := 141) S.1 S.2.1 dX5_copy_111 (by decide) (fun c51 => ?_) (fun c51 => ?_)
    · replace hF := kit hF c51
      refine lv_iconst (v := 0) S.1 S.2.1 dX5_copy_141 (by decide) ?_
      refine lv_istore (lv' := [(6, .int 0), (0, .ref (ead E 26)), (1, .int a1), (2, .int a2), (3, .int a3), (4, .int a4), (5, .int a5)]) S.1 S.2.1 dX5_copy_142 hl (by decide) rfl (fun ls hl => ?_)
      exact wX5_copy_L144 S hR 1000 a3 a4 a5 0 _ _ _ _ hF hw (lv_sub hl [1, 4, 5, 6, 0] rfl)
    · replace hF := kif hF c51
      refine lv_aload_n S.1 S.2.1 dX5_copy_114 rfl (lv_at hl 0 rfl) ?_
      refine gf_X5_67 S hw dX5_copy_115 ?_
      refine lv_iload S.1 S.2.1 dX5_copy_118 (lv_at hl 6 rfl) ?_
      refine lv_aload_n S.1 S.2.1 dX5_copy_120 rfl (lv_at hl 0 rfl) ?_
      refine gf_X5_64 S hw dX5_copy_121 ?_
      refine lv_bipush (v := 60) S.1 S.2.1 dX5_copy_124 (by decide) ?_
      refine lv_iload_n S.1 S.2.1 dX5_copy_126 rfl (lv_at hl 1 rfl) ?_
      refine lv_imul S.1 S.2.1 dX5_copy_127 ?_
      refine lv_iload_n S.1 S.2.1 dX5_copy_128 rfl (lv_at hl 2 rfl) ?_
      refine lv_iadd S.1 S.2.1 dX5_copy_129 ?_
      refine lv_iload S.1 S.2.1 dX5_copy_130 (lv_at hl 6 rfl) ?_
      refine lv_iadd S.1 S.2.1 dX5_copy_132 ?_
      obtain ⟨hb52, hF⟩ := kin hF
      refine km_iald (q := 19) S hw rfl (Nat.le_of_ble_eq_true rfl) hb52 dX5_copy_133 ?_
      obtain ⟨hb53, hF⟩ := kin hF
      refine km_iast (q := 20) S hw rfl (Nat.le_of_ble_eq_true rfl) hb53 dX5_copy_134 (fun H locs hw => ?_)
      obtain ⟨v54, ev54⟩ : ∃ y : Int32, y = a6 + 1 := ⟨_, rfl⟩
      replace hF := klb hF ev54
      refine lv_iinc (v := v54) (lv' := [(6, .int v54), (0, .ref (ead E 26)), (1, .int a1), (2, .int a2), (3, .int a3), (4, .int a4), (5, .int a5)]) S.1 S.2.1 dX5_copy_135 hl (k := 6) rfl (by rw [ev54]; rfl) (by decide) rfl (fun ls hl => ?_)
      refine lv_goto (tgt := 107) S.1 S.2.1 dX5_copy_138 (by decide) ?_
      exact ih a1 a2 a3 a4 a5 v54 _ _ _ _ hF hw (lv_sub hl [1, 2, 3, 4, 5, 6, 0] rfl)
set_option maxHeartbeats 4000000 in
set_option maxRecDepth 100000 in
theorem mX5_copy {l : Launch} {E : kE} {ω σ σ1 : kS} {r : Int32} {a1 : Int32} {a2 : Int32} {a3 : Int32} {a4 : Int32} {a5 : Int32}  (hF : fX5_copy a1 a2 a3 a4 a5 σ = some (r, σ1)) : kMetI l yX5_copy cX5_copy 7 (some .int) 2 E [.ref (ead E 26), .int a1, .int a2, .int a3, .int a4, .int a5] (cmb ω σ) r (cmb ω σ1) := by
  refine kMetI.of (by decide +kernel) (Nat.le_of_ble_eq_true rfl) (Or.inl rfl) ?_
  intro p e s m args below meth c Q ls S hR hw hl
  have hl : lv_has ls 7 [(0, .ref (ead E 26)), (1, .int a1), (2, .int a2), (3, .int a3), (4, .int a4), (5, .int a5)] := hl
  unfold fX5_copy at hF
  refine lv_iload_n S.1 S.2.1 dX5_copy_0 rfl (lv_at hl 1 rfl) ?_
  obtain ⟨r3, σ2, e1, hF⟩ := kbi_e hF
  refine kcX5_noSheet S hw cv_X5_119 ⟨Nat.le_of_ble_eq_true rfl, Nat.le_of_ble_eq_true rfl⟩ e1 hl.1 (Nat.le_of_ble_eq_true rfl) dX5_copy_1 (fun H locs hw hz4 => ?_)
  refine lv_if_ne (tgt := 14) S.1 S.2.1 dX5_copy_4 (by decide) (fun c5 => ?_) (fun c5 => ?_)
  · replace hF := kif hF c5
    refine lv_aload_n S.1 S.2.1 dX5_copy_14 rfl (lv_at hl 0 rfl) ?_
    refine lv_iconst (v := (-1)) S.1 S.2.1 dX5_copy_15 (by decide) ?_
    obtain ⟨r8, σ7, e6, hF⟩ := kbi_e hF
    refine kcX5_refused S hw cv_X5_123 ⟨Nat.le_of_ble_eq_true rfl, Nat.le_of_ble_eq_true rfl⟩ e6 hl.1 (Nat.le_of_ble_eq_true rfl) dX5_copy_16 (fun H locs hw => ?_)
    obtain ⟨rfl, rfl⟩ := kret hF
    exact hR _ _ _ _ dX5_copy_19 hw (fun h => nomatch h)
  · replace hF := kit hF c5
    refine lv_iload_n S.1 S.2.1 dX5_copy_7 rfl (lv_at hl 3 rfl) ?_
    obtain ⟨r11, σ10, e9, hF⟩ := kbi_e hF
    refine kcX5_noSheet S hw cv_X5_119 ⟨Nat.le_of_ble_eq_true rfl, Nat.le_of_ble_eq_true rfl⟩ e9 hl.1 (Nat.le_of_ble_eq_true rfl) dX5_copy_8 (fun H locs hw hz12 => ?_)
    refine lv_if_eq (tgt := 20) S.1 S.2.1 dX5_copy_11 (by decide) (fun c13 => ?_) (fun c13 => ?_)
    · replace hF := kit hF c13
      refine lv_aload_n S.1 S.2.1 dX5_copy_20 rfl (lv_at hl 0 rfl) ?_
      refine gf_X5_58 S hw dX5_copy_21 ?_
      refine lv_iload_n S.1 S.2.1 dX5_copy_24 rfl (lv_at hl 1 rfl) ?_
      obtain ⟨hb14, hF⟩ := kin hF
      refine km_iald (q := 17) S hw rfl (Nat.le_of_ble_eq_true rfl) hb14 dX5_copy_25 ?_
      refine lv_if_lt (tgt := 38) S.1 S.2.1 dX5_copy_26 (by decide) (fun c15 => ?_) (fun c15 => ?_)
      · replace hF := kit hF c15
        refine lv_aload_n S.1 S.2.1 dX5_copy_38 rfl (lv_at hl 0 rfl) ?_
        refine lv_iconst (v := 1) S.1 S.2.1 dX5_copy_39 (by decide) ?_
        obtain ⟨r18, σ17, e16, hF⟩ := kbi_e hF
        refine kcX5_failed S hw cv_X5_111 ⟨Nat.le_of_ble_eq_true rfl, Nat.le_of_ble_eq_true rfl⟩ e16 hl.1 (Nat.le_of_ble_eq_true rfl) dX5_copy_40 (fun H locs hw => ?_)
        obtain ⟨rfl, rfl⟩ := kret hF
        exact hR _ _ _ _ dX5_copy_43 hw (fun h => nomatch h)
      · replace hF := kif hF c15
        refine lv_aload_n S.1 S.2.1 dX5_copy_29 rfl (lv_at hl 0 rfl) ?_
        refine gf_X5_58 S hw dX5_copy_30 ?_
        refine lv_iload_n S.1 S.2.1 dX5_copy_33 rfl (lv_at hl 3 rfl) ?_
        obtain ⟨hb19, hF⟩ := kin hF
        refine km_iald (q := 17) S hw rfl (Nat.le_of_ble_eq_true rfl) hb19 dX5_copy_34 ?_
        refine lv_if_ge (tgt := 44) S.1 S.2.1 dX5_copy_35 (by decide) (fun c20 => ?_) (fun c20 => ?_)
        · replace hF := kit hF c20
          refine lv_aload_n S.1 S.2.1 dX5_copy_44 rfl (lv_at hl 0 rfl) ?_
          refine gf_X5_61 S hw dX5_copy_45 ?_
          refine lv_iload_n S.1 S.2.1 dX5_copy_48 rfl (lv_at hl 1 rfl) ?_
          obtain ⟨hb21, hF⟩ := kin hF
          refine km_iald (q := 18) S hw rfl (Nat.le_of_ble_eq_true rfl) hb21 dX5_copy_49 ?_
          refine lv_aload_n S.1 S.2.1 dX5_copy_50 rfl (lv_at hl 0 rfl) ?_
          refine gf_X5_61 S hw dX5_copy_51 ?_
          refine lv_iload_n S.1 S.2.1 dX5_copy_54 rfl (lv_at hl 3 rfl) ?_
          obtain ⟨hb22, hF⟩ := kin hF
          refine km_iald (q := 18) S hw rfl (Nat.le_of_ble_eq_true rfl) hb22 dX5_copy_55 ?_
          refine lv_icmp_eq (tgt := 65) S.1 S.2.1 dX5_copy_56 (by decide) (fun c23 => ?_) (fun c23 => ?_)
          · replace hF := kit hF c23
            refine lv_iload_n S.1 S.2.1 dX5_copy_65 rfl (lv_at hl 2 rfl) ?_
            refine lv_iload S.1 S.2.1 dX5_copy_66 (lv_at hl 5 rfl) ?_
            refine lv_i2l S.1 S.2.1 dX5_copy_68 rfl ?_
            refine lv_aload_n S.1 S.2.1 dX5_copy_69 rfl (lv_at hl 0 rfl) ?_
            refine gf_X5_58 S hw dX5_copy_70 ?_
            refine lv_iload_n S.1 S.2.1 dX5_copy_73 rfl (lv_at hl 1 rfl) ?_
            obtain ⟨hb24, hF⟩ := kin hF
            refine km_iald (q := 17) S hw rfl (Nat.le_of_ble_eq_true rfl) hb24 dX5_copy_74 ?_
            obtain ⟨r27, σ26, e25, hF⟩ := kbi_e hF
            refine kcX5_isBeyond S hw cv_X5_115 ⟨Nat.le_of_ble_eq_true rfl, Nat.le_of_ble_eq_true rfl⟩ e25 hl.1 (Nat.le_of_ble_eq_true rfl) dX5_copy_75 (fun H locs hw hz28 => ?_)
            refine lv_if_ne (tgt := 98) S.1 S.2.1 dX5_copy_78 (by decide) (fun c29 => ?_) (fun c29 => ?_)
            · replace hF := kif hF c29
              refine lv_aload_n S.1 S.2.1 dX5_copy_98 rfl (lv_at hl 0 rfl) ?_
              refine lv_iconst (v := 3) S.1 S.2.1 dX5_copy_99 (by decide) ?_
              obtain ⟨r32, σ31, e30, hF⟩ := kbi_e hF
              refine kcX5_failed S hw cv_X5_111 ⟨Nat.le_of_ble_eq_true rfl, Nat.le_of_ble_eq_true rfl⟩ e30 hl.1 (Nat.le_of_ble_eq_true rfl) dX5_copy_100 (fun H locs hw => ?_)
              obtain ⟨rfl, rfl⟩ := kret hF
              exact hR _ _ _ _ dX5_copy_103 hw (fun h => nomatch h)
            · replace hF := kit hF c29
              refine lv_iload S.1 S.2.1 dX5_copy_81 (lv_at hl 4 rfl) ?_
              refine lv_iload S.1 S.2.1 dX5_copy_83 (lv_at hl 5 rfl) ?_
              refine lv_i2l S.1 S.2.1 dX5_copy_85 rfl ?_
              refine lv_aload_n S.1 S.2.1 dX5_copy_86 rfl (lv_at hl 0 rfl) ?_
              refine gf_X5_58 S hw dX5_copy_87 ?_
              refine lv_iload_n S.1 S.2.1 dX5_copy_90 rfl (lv_at hl 3 rfl) ?_
              obtain ⟨hb33, hF⟩ := kin hF
              refine km_iald (q := 17) S hw rfl (Nat.le_of_ble_eq_true rfl) hb33 dX5_copy_91 ?_
              obtain ⟨r36, σ35, e34, hF⟩ := kbi_e hF
              refine kcX5_isBeyond S hw cv_X5_115 ⟨Nat.le_of_ble_eq_true rfl, Nat.le_of_ble_eq_true rfl⟩ e34 hl.1 (Nat.le_of_ble_eq_true rfl) dX5_copy_92 (fun H locs hw hz37 => ?_)
              refine lv_if_eq (tgt := 104) S.1 S.2.1 dX5_copy_95 (by decide) (fun c38 => ?_) (fun c38 => ?_)
              · replace hF := kit hF c38
                refine lv_iconst (v := 0) S.1 S.2.1 dX5_copy_104 (by decide) ?_
                refine lv_istore (lv' := [(6, .int 0), (0, .ref (ead E 26)), (1, .int a1), (2, .int a2), (3, .int a3), (4, .int a4), (5, .int a5)]) S.1 S.2.1 dX5_copy_105 hl (by decide) rfl (fun ls hl => ?_)
                exact wX5_copy_L107 S hR 1000 a1 a2 a3 a4 a5 0 _ _ _ _ hF hw (lv_sub hl [1, 2, 3, 4, 5, 6, 0] rfl)
              · replace hF := kif hF c38
                refine lv_aload_n S.1 S.2.1 dX5_copy_98 rfl (lv_at hl 0 rfl) ?_
                refine lv_iconst (v := 3) S.1 S.2.1 dX5_copy_99 (by decide) ?_
                obtain ⟨r41, σ40, e39, hF⟩ := kbi_e hF
                refine kcX5_failed S hw cv_X5_111 ⟨Nat.le_of_ble_eq_true rfl, Nat.le_of_ble_eq_true rfl⟩ e39 hl.1 (Nat.le_of_ble_eq_true rfl) dX5_copy_100 (fun H locs hw => ?_)
                obtain ⟨rfl, rfl⟩ := kret hF
                exact hR _ _ _ _ dX5_copy_103 hw (fun h => nomatch h)
          · replace hF := kif hF c23
            refine lv_aload_n S.1 S.2.1 dX5_copy_59 rfl (lv_at hl 0 rfl) ?_
            refine lv_iconst (v := 2) S.1 S.2.1 dX5_copy_60 (by decide) ?_
            obtain ⟨r44, σ43, e42, hF⟩ := kbi_e hF
            refine kcX5_failed S hw cv_X5_111 ⟨Nat.le_of_ble_eq_true rfl, Nat.le_of_ble_eq_true rfl⟩ e42 hl.1 (Nat.le_of_ble_eq_true rfl) dX5_copy_61 (fun H locs hw => ?_)
            obtain ⟨rfl, rfl⟩ := kret hF
            exact hR _ _ _ _ dX5_copy_64 hw (fun h => nomatch h)
        · replace hF := kif hF c20
          refine lv_aload_n S.1 S.2.1 dX5_copy_38 rfl (lv_at hl 0 rfl) ?_
          refine lv_iconst (v := 1) S.1 S.2.1 dX5_copy_39 (by decide) ?_
          obtain ⟨r47, σ46, e45, hF⟩ := kbi_e hF
          refine kcX5_failed S hw cv_X5_111 ⟨Nat.le_of_ble_eq_true rfl, Nat.le_of_ble_eq_true rfl⟩ e45 hl.1 (Nat.le_of_ble_eq_true rfl) dX5_copy_40 (fun H locs hw => ?_)
          obtain ⟨rfl, rfl⟩ := kret hF
          exact hR _ _ _ _ dX5_copy_43 hw (fun h => nomatch h)
    · replace hF := kif hF c13
      refine lv_aload_n S.1 S.2.1 dX5_copy_14 rfl (lv_at hl 0 rfl) ?_
      refine lv_iconst (v := (-1)) S.1 S.2.1 dX5_copy_15 (by decide) ?_
      obtain ⟨r50, σ49, e48, hF⟩ := kbi_e hF
      refine kcX5_refused S hw cv_X5_123 ⟨Nat.le_of_ble_eq_true rfl, Nat.le_of_ble_eq_true rfl⟩ e48 hl.1 (Nat.le_of_ble_eq_true rfl) dX5_copy_16 (fun H locs hw => ?_)
      obtain ⟨rfl, rfl⟩ := kret hF
      exact hR _ _ _ _ dX5_copy_19 hw (fun h => nomatch h)
set_option maxRecDepth 100000 in
theorem kcX5_copy {p : Program} {l : Launch} {e : Env} {R : Room} {s : State} {m : MethodId} {args : Array Value} {below : List Frame} {meth : Method} {c : Code} {H : Heap} {locs : List Loc} {cells slots : Nat} {Q : State → Prop} {cc : ByteArray} {pc : Nat} {ls : Array Slot} {rest : List Value} {E : kE} {σ ω σ1 : kS} {nL index : Nat} {own : String} {r : Int32} (S : CallFix p m c cc nL s args kBIG own) (hw : kWS E s (cmb ω σ) H locs) (cw : kV own RX5 index yX5_copy cX5_copy 7 (some .int) 5) (hR : 2 + 1 ≤ R.frames ∧ 8 + (7 + 11) + 40 * 2 ≤ R.locals) {a1 : Int32} {a2 : Int32} {a3 : Int32} {a4 : Int32} {a5 : Int32}  (hF : fX5_copy a1 a2 a3 a4 a5 σ = some (r, σ1)) (hls : ls.size = nL) (hW : (rest.map fun v => v.category).sum ≤ 8) (hdg : decode cc pc = .ok (.invokevirtual index, 3)) (kk : ∀ (H1 : Heap) (locs1 : List Loc), kWS E s (cmb ω σ1) H1 locs1 → W p l e R s m args below meth c H1 locs1 cells slots Q (F0 m (pc + 3) ls (.int r :: rest))) (hf : cells ≤ R.cells ∧ slots ≤ R.slots := by exact ⟨Nat.le_of_ble_eq_true rfl, Nat.le_of_ble_eq_true rfl⟩) : W p l e R s m args below meth c H locs cells slots Q (F0 m pc ls (.int a5 :: .int a4 :: .int a3 :: .int a2 :: .int a1 :: .ref (ead E 26) :: rest)) := kr_calli (mc := 0) (y := yX5_copy) (b := cX5_copy) (n := 0) (lv := 0) (As := []) (ret := some .int) hw (kr_runV (As := [.int a1, .int a2, .int a3, .int a4, .int a5]) (q := 26) S hw ((mX5_copy (l := l) (E := E) (ω := ω) hF) H.size) cw hR rfl (by decide) rfl rfl hls _ rfl hW hdg hf) (fun H1 locs1 h _ => kk H1 locs1 h)
set_option maxHeartbeats 4000000 in
set_option maxRecDepth 100000 in
theorem mX5_traced {l : Launch} {E : kE} {ω σ σ1 : kS} {a1 : Int32}  (hF : fX5_traced a1 σ = some σ1) : kMetV l yX5_traced cX5_traced 2 0 E [.ref (ead E 26), .int a1] (cmb ω σ) (cmb ω σ1) := by
  refine kMetV.of (by decide +kernel) (Nat.le_of_ble_eq_true rfl) ?_
  intro p e s m args below meth c Q ls S hR hw hl
  have hl : lv_has ls 2 [(0, .ref (ead E 26)), (1, .int a1)] := hl
  unfold fX5_traced at hF
  refine lv_aload_n S.1 S.2.1 dX5_traced_0 rfl (lv_at hl 0 rfl) ?_
  refine lv_bipush (v := 31) S.1 S.2.1 dX5_traced_1 (by decide) ?_
  refine lv_aload_n S.1 S.2.1 dX5_traced_3 rfl (lv_at hl 0 rfl) ?_
  refine gf_X5_246 S hw dX5_traced_4 ?_
  refine lv_imul S.1 S.2.1 dX5_traced_7 ?_
  refine lv_iload_n S.1 S.2.1 dX5_traced_8 rfl (lv_at hl 1 rfl) ?_
  refine lv_iadd S.1 S.2.1 dX5_traced_9 ?_
  refine pf_X5_246 S hw dX5_traced_10 (fun H locs hw => ?_)
  cases kre hF
  exact hR _ _ _ _ dX5_traced_13 hw
set_option maxRecDepth 100000 in
theorem kcX5_traced {p : Program} {l : Launch} {e : Env} {R : Room} {s : State} {m : MethodId} {args : Array Value} {below : List Frame} {meth : Method} {c : Code} {H : Heap} {locs : List Loc} {cells slots : Nat} {Q : State → Prop} {cc : ByteArray} {pc : Nat} {ls : Array Slot} {rest : List Value} {E : kE} {σ ω σ1 : kS} {nL index : Nat} {own : String} (S : CallFix p m c cc nL s args kBIG own) (hw : kWS E s (cmb ω σ) H locs) (cw : kV own RX5 index yX5_traced cX5_traced 2 none 1) (hR : 0 + 1 ≤ R.frames ∧ 8 + (2 + 11) + 40 * 0 ≤ R.locals) {a1 : Int32}  (hF : fX5_traced a1 σ = some σ1) (hls : ls.size = nL) (hW : (rest.map fun v => v.category).sum ≤ 8) (hdg : decode cc pc = .ok (.invokevirtual index, 3)) (kk : ∀ (H1 : Heap) (locs1 : List Loc), kWS E s (cmb ω σ1) H1 locs1 → W p l e R s m args below meth c H1 locs1 cells slots Q (F0 m (pc + 3) ls rest)) (hf : cells ≤ R.cells ∧ slots ≤ R.slots := by exact ⟨Nat.le_of_ble_eq_true rfl, Nat.le_of_ble_eq_true rfl⟩) : W p l e R s m args below meth c H locs cells slots Q (F0 m pc ls (.int a1 :: .ref (ead E 26) :: rest)) := kr_callv hw (kr_runV (As := [.int a1]) (q := 26) S hw ((mX5_traced (l := l) (E := E) (ω := ω) hF) H.size) cw hR rfl (by decide) rfl rfl hls _ rfl hW hdg hf) kk
set_option maxHeartbeats 4000000 in
set_option maxRecDepth 100000 in
theorem wX5_tell_J51 {p : Program} {l : Launch} {e : Env} {s : State} {m : MethodId} {args : Array Value} {below : List Frame} {meth : Method} {c : Code} {Q : State → Prop} {E : kE} {ω σ1 : kS} {r : Int32} (S : CallFix p m c cX5_tell 4 s args kBIG RX5) (hR : kRetI p l e (rml 2) s m args below meth c cX5_tell E Q (some .int) r (cmb ω σ1))  : ∀ (a1 : Int32) (a2 : Int32) (σ : kS) (H : Heap) (locs : List Loc) (ls : Array Slot), fX5_tell_J51 a1 a2 σ = some (r, σ1) → kWS E s (cmb ω σ) H locs → lv_has ls 4 [(0, .ref (ead E 26)), (1, .int a1), (2, .int a2)] → W p l e (rml 2) s m args below meth c H locs 0 0 Q (F0 m 51 ls []) := by
  intro a1 a2 σ H locs ls hF hw hl
  unfold fX5_tell_J51 at hF
  refine lv_aload_n S.1 S.2.1 dX5_tell_51 rfl (lv_at hl 0 rfl) ?_
  refine gf_X5_13 S hw dX5_tell_52 ?_
  refine lv_iload_n S.1 S.2.1 dX5_tell_55 rfl (lv_at hl 1 rfl) ?_
  obtain ⟨hb24, hF⟩ := kin hF
  refine km_iald (q := 2) S hw rfl (Nat.le_of_ble_eq_true rfl) hb24 dX5_tell_56 ?_
  refine lv_topi (fun v25 ev25 => ?_)
  replace hF := klb hF ev25
  refine lv_istore_n (lv' := [(3, .int v25), (0, .ref (ead E 26)), (1, .int a1), (2, .int a2)]) S.1 S.2.1 dX5_tell_57 rfl hl (by decide) rfl (fun ls hl => ?_)
  refine lv_iload_n S.1 S.2.1 dX5_tell_58 rfl (lv_at hl 3 rfl) ?_
  refine lv_if_ne (tgt := 66) S.1 S.2.1 dX5_tell_59 (by decide) (fun c26 => ?_) (fun c26 => ?_)
  · replace hF := kif hF c26
    refine lv_iload_n S.1 S.2.1 dX5_tell_66 rfl (lv_at hl 3 rfl) ?_
    refine lv_iconst (v := 1) S.1 S.2.1 dX5_tell_67 (by decide) ?_
    refine lv_icmp_ne (tgt := 78) S.1 S.2.1 dX5_tell_68 (by decide) (fun c27 => ?_) (fun c27 => ?_)
    · replace hF := kif hF c27
      refine lv_iconst (v := 2) S.1 S.2.1 dX5_tell_78 (by decide) ?_
      refine lv_iload_n S.1 S.2.1 dX5_tell_79 rfl (lv_at hl 0 rfl) ?_
      refine lv_imul S.1 S.2.1 dX5_tell_80 ?_
      refine lv_bipush (v := 100) S.1 S.2.1 dX5_tell_81 (by decide) ?_
      refine lv_iadd S.1 S.2.1 dX5_tell_83 ?_
      obtain ⟨rfl, rfl⟩ := kret hF
      exact hR _ _ _ _ dX5_tell_84 hw (fun h => nomatch h)
    · replace hF := kit hF c27
      refine lv_iload_n S.1 S.2.1 dX5_tell_71 rfl (lv_at hl 0 rfl) ?_
      refine lv_bipush (v := 100) S.1 S.2.1 dX5_tell_72 (by decide) ?_
      refine lv_iadd S.1 S.2.1 dX5_tell_74 ?_
      refine lv_goto (tgt := 84) S.1 S.2.1 dX5_tell_75 (by decide) ?_
      obtain ⟨rfl, rfl⟩ := kret hF
      exact hR _ _ _ _ dX5_tell_84 hw (fun h => nomatch h)
  · replace hF := kit hF c26
    refine lv_iload_n S.1 S.2.1 dX5_tell_62 rfl (lv_at hl 0 rfl) ?_
    refine lv_goto (tgt := 84) S.1 S.2.1 dX5_tell_63 (by decide) ?_
    obtain ⟨rfl, rfl⟩ := kret hF
    exact hR _ _ _ _ dX5_tell_84 hw (fun h => nomatch h)
set_option maxHeartbeats 4000000 in
set_option maxRecDepth 100000 in
theorem wX5_tell_J27 {p : Program} {l : Launch} {e : Env} {s : State} {m : MethodId} {args : Array Value} {below : List Frame} {meth : Method} {c : Code} {Q : State → Prop} {E : kE} {ω σ1 : kS} {r : Int32} (S : CallFix p m c cX5_tell 4 s args kBIG RX5) (hR : kRetI p l e (rml 2) s m args below meth c cX5_tell E Q (some .int) r (cmb ω σ1))  : ∀ (a1 : Int32) (a2 : Int32) (σ : kS) (H : Heap) (locs : List Loc) (ls : Array Slot), fX5_tell_J27 a1 a2 σ = some (r, σ1) → kWS E s (cmb ω σ) H locs → lv_has ls 4 [(0, .ref (ead E 26)), (1, .int a1), (2, .int a2)] → W p l e (rml 2) s m args below meth c H locs 0 0 Q (F0 m 27 ls []) := by
  intro a1 a2 σ H locs ls hF hw hl
  unfold fX5_tell_J27 at hF
  refine lv_iload_n S.1 S.2.1 dX5_tell_27 rfl (lv_at hl 2 rfl) ?_
  refine lv_if_le (tgt := 36) S.1 S.2.1 dX5_tell_28 (by decide) (fun c11 => ?_) (fun c11 => ?_)
  · replace hF := kit hF c11
    refine lv_aload_n S.1 S.2.1 dX5_tell_36 rfl (lv_at hl 0 rfl) ?_
    refine lv_iconst (v := 1) S.1 S.2.1 dX5_tell_37 (by decide) ?_
    obtain ⟨σ13, e12, hF⟩ := kbv_e hF
    refine kcX5_traced S hw cv_X5_249 ⟨Nat.le_of_ble_eq_true rfl, Nat.le_of_ble_eq_true rfl⟩ e12 hl.1 (Nat.le_of_ble_eq_true rfl) dX5_tell_38 (fun H locs hw => ?_)
    refine lv_iload_n S.1 S.2.1 dX5_tell_41 rfl (lv_at hl 2 rfl) ?_
    refine lv_iconst (v := 2) S.1 S.2.1 dX5_tell_42 (by decide) ?_
    refine lv_icmp_ne (tgt := 51) S.1 S.2.1 dX5_tell_43 (by decide) (fun c14 => ?_) (fun c14 => ?_)
    · replace hF := kif hF c14
      exact wX5_tell_J51 S hR a1 a2 _ _ _ _ hF hw (lv_sub hl [0, 1, 2] rfl)
    · replace hF := kit hF c14
      refine lv_aload_n S.1 S.2.1 dX5_tell_46 rfl (lv_at hl 0 rfl) ?_
      refine lv_iconst (v := 1) S.1 S.2.1 dX5_tell_47 (by decide) ?_
      obtain ⟨σ16, e15, hF⟩ := kbv_e hF
      refine kcX5_traced S hw cv_X5_249 ⟨Nat.le_of_ble_eq_true rfl, Nat.le_of_ble_eq_true rfl⟩ e15 hl.1 (Nat.le_of_ble_eq_true rfl) dX5_tell_48 (fun H locs hw => ?_)
      exact wX5_tell_J51 S hR a1 a2 _ _ _ _ hF hw (lv_sub hl [0, 1, 2] rfl)
  · replace hF := kif hF c11
    refine lv_aload_n S.1 S.2.1 dX5_tell_31 rfl (lv_at hl 0 rfl) ?_
    refine lv_iconst (v := 2) S.1 S.2.1 dX5_tell_32 (by decide) ?_
    obtain ⟨σ18, e17, hF⟩ := kbv_e hF
    refine kcX5_traced S hw cv_X5_249 ⟨Nat.le_of_ble_eq_true rfl, Nat.le_of_ble_eq_true rfl⟩ e17 hl.1 (Nat.le_of_ble_eq_true rfl) dX5_tell_33 (fun H locs hw => ?_)
    refine lv_aload_n S.1 S.2.1 dX5_tell_36 rfl (lv_at hl 0 rfl) ?_
    refine lv_iconst (v := 1) S.1 S.2.1 dX5_tell_37 (by decide) ?_
    obtain ⟨σ20, e19, hF⟩ := kbv_e hF
    refine kcX5_traced S hw cv_X5_249 ⟨Nat.le_of_ble_eq_true rfl, Nat.le_of_ble_eq_true rfl⟩ e19 hl.1 (Nat.le_of_ble_eq_true rfl) dX5_tell_38 (fun H locs hw => ?_)
    refine lv_iload_n S.1 S.2.1 dX5_tell_41 rfl (lv_at hl 2 rfl) ?_
    refine lv_iconst (v := 2) S.1 S.2.1 dX5_tell_42 (by decide) ?_
    refine lv_icmp_ne (tgt := 51) S.1 S.2.1 dX5_tell_43 (by decide) (fun c21 => ?_) (fun c21 => ?_)
    · replace hF := kif hF c21
      exact wX5_tell_J51 S hR a1 a2 _ _ _ _ hF hw (lv_sub hl [0, 1, 2] rfl)
    · replace hF := kit hF c21
      refine lv_aload_n S.1 S.2.1 dX5_tell_46 rfl (lv_at hl 0 rfl) ?_
      refine lv_iconst (v := 1) S.1 S.2.1 dX5_tell_47 (by decide) ?_
      obtain ⟨σ23, e22, hF⟩ := kbv_e hF
      refine kcX5_traced S hw cv_X5_249 ⟨Nat.le_of_ble_eq_true rfl, Nat.le_of_ble_eq_true rfl⟩ e22 hl.1 (Nat.le_of_ble_eq_true rfl) dX5_tell_48 (fun H locs hw => ?_)
      exact wX5_tell_J51 S hR a1 a2 _ _ _ _ hF hw (lv_sub hl [0, 1, 2] rfl)
set_option maxHeartbeats 4000000 in
set_option maxRecDepth 100000 in
theorem mX5_tell {l : Launch} {E : kE} {ω σ σ1 : kS} {r : Int32} {a1 : Int32}  (hF : fX5_tell a1 σ = some (r, σ1)) : kMetI l yX5_tell cX5_tell 4 (some .int) 2 E [.ref (ead E 26), .int a1] (cmb ω σ) r (cmb ω σ1) := by
  refine kMetI.of (by decide +kernel) (Nat.le_of_ble_eq_true rfl) (Or.inl rfl) ?_
  intro p e s m args below meth c Q ls S hR hw hl
  have hl : lv_has ls 4 [(0, .ref (ead E 26)), (1, .int a1)] := hl
  unfold fX5_tell at hF
  refine lv_aload_n S.1 S.2.1 dX5_tell_0 rfl (lv_at hl 0 rfl) ?_
  refine lv_iload_n S.1 S.2.1 dX5_tell_1 rfl (lv_at hl 1 rfl) ?_
  obtain ⟨r3, σ2, e1, hF⟩ := kbi_e hF
  refine kcX5_noPerson S hw cv_X5_162 ⟨Nat.le_of_ble_eq_true rfl, Nat.le_of_ble_eq_true rfl⟩ e1 hl.1 (Nat.le_of_ble_eq_true rfl) dX5_tell_2 (fun H locs hw hz4 => ?_)
  refine lv_if_eq (tgt := 10) S.1 S.2.1 dX5_tell_5 (by decide) (fun c5 => ?_) (fun c5 => ?_)
  · replace hF := kit hF c5
    refine lv_aload_n S.1 S.2.1 dX5_tell_10 rfl (lv_at hl 0 rfl) ?_
    refine gf_X5_7 S hw dX5_tell_11 ?_
    refine lv_iload_n S.1 S.2.1 dX5_tell_14 rfl (lv_at hl 1 rfl) ?_
    obtain ⟨hb6, hF⟩ := kin hF
    refine km_iald (q := 1) S hw rfl (Nat.le_of_ble_eq_true rfl) hb6 dX5_tell_15 ?_
    refine lv_topi (fun v7 ev7 => ?_)
    replace hF := klb hF ev7
    refine lv_istore_n (lv' := [(2, .int v7), (0, .ref (ead E 26)), (1, .int a1)]) S.1 S.2.1 dX5_tell_16 rfl hl (by decide) rfl (fun ls hl => ?_)
    refine lv_iload_n S.1 S.2.1 dX5_tell_17 rfl (lv_at hl 0 rfl) ?_
    refine lv_iconst (v := 2) S.1 S.2.1 dX5_tell_18 (by decide) ?_
    refine lv_icmp_ne (tgt := 27) S.1 S.2.1 dX5_tell_19 (by decide) (fun c8 => ?_) (fun c8 => ?_)
    · replace hF := kif hF c8
      exact wX5_tell_J27 S hR a1 v7 _ _ _ _ hF hw (lv_sub hl [1, 2, 0] rfl)
    · replace hF := kit hF c8
      refine lv_aload_n S.1 S.2.1 dX5_tell_22 rfl (lv_at hl 1 rfl) ?_
      refine lv_iconst (v := 3) S.1 S.2.1 dX5_tell_23 (by decide) ?_
      obtain ⟨σ10, e9, hF⟩ := kbv_e hF
      refine kcX5_traced S hw cv_X5_249 ⟨Nat.le_of_ble_eq_true rfl, Nat.le_of_ble_eq_true rfl⟩ e9 hl.1 (Nat.le_of_ble_eq_true rfl) dX5_tell_24 (fun H locs hw => ?_)
      exact wX5_tell_J27 S hR a1 v7 _ _ _ _ hF hw (lv_sub hl [1, 2, 0] rfl)
  · replace hF := kif hF c5
    refine lv_iconst (v := (-1)) S.1 S.2.1 dX5_tell_8 (by decide) ?_
    obtain ⟨rfl, rfl⟩ := kret hF
    exact hR _ _ _ _ dX5_tell_9 hw (fun h => nomatch h)
set_option maxRecDepth 100000 in
theorem kcX5_tell {p : Program} {l : Launch} {e : Env} {R : Room} {s : State} {m : MethodId} {args : Array Value} {below : List Frame} {meth : Method} {c : Code} {H : Heap} {locs : List Loc} {cells slots : Nat} {Q : State → Prop} {cc : ByteArray} {pc : Nat} {ls : Array Slot} {rest : List Value} {E : kE} {σ ω σ1 : kS} {nL index : Nat} {own : String} {r : Int32} (S : CallFix p m c cc nL s args kBIG own) (hw : kWS E s (cmb ω σ) H locs) (cw : kV own RX5 index yX5_tell cX5_tell 4 (some .int) 1) (hR : 2 + 1 ≤ R.frames ∧ 8 + (4 + 11) + 40 * 2 ≤ R.locals) {a1 : Int32}  (hF : fX5_tell a1 σ = some (r, σ1)) (hls : ls.size = nL) (hW : (rest.map fun v => v.category).sum ≤ 8) (hdg : decode cc pc = .ok (.invokevirtual index, 3)) (kk : ∀ (H1 : Heap) (locs1 : List Loc), kWS E s (cmb ω σ1) H1 locs1 → W p l e R s m args below meth c H1 locs1 cells slots Q (F0 m (pc + 3) ls (.int r :: rest))) (hf : cells ≤ R.cells ∧ slots ≤ R.slots := by exact ⟨Nat.le_of_ble_eq_true rfl, Nat.le_of_ble_eq_true rfl⟩) : W p l e R s m args below meth c H locs cells slots Q (F0 m pc ls (.int a1 :: .ref (ead E 26) :: rest)) := kr_calli (mc := 0) (y := yX5_tell) (b := cX5_tell) (n := 0) (lv := 0) (As := []) (ret := some .int) hw (kr_runV (As := [.int a1]) (q := 26) S hw ((mX5_tell (l := l) (E := E) (ω := ω) hF) H.size) cw hR rfl (by decide) rfl rfl hls _ rfl hW hdg hf) (fun H1 locs1 h _ => kk H1 locs1 h)
