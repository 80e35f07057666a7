set_option maxHeartbeats 4000000 in
set_option maxRecDepth 100000 in
theorem wX4_stepToNextRow_L73 {p : Program} {l : Launch} {e : Env} {s : State} {m : MethodId} {args : Array Value} {below : List Frame} {meth : Method} {c : Code} {Q : State → Prop} {E : kE} {ω σ1 : kS} {r : Int32} (S : CallFix p m c cX4_stepToNextRow 6 s args kBIG RX4) (hR : kRetI p l e (rml 1) s m args below meth c cX4_stepToNextRow E Q (some .boolean) r (cmb σ1 ω))  : ∀ (n : Nat), ∀ (q0 : Nat) (a4 : Int32) (a5 : Int32) (hq0 : xA q0 6) (σ : kS) (H : Heap) (locs : List Loc) (ls : Array Slot), fX4_stepToNextRow_L73 n q0 a4 a5 σ = some (r, σ1) → kWS E s (cmb σ ω) H locs → lv_has ls 6 [(0, .ref (ead E q0)), (4, .int a4), (5, .int a5)] → W p l e (rml 1) s m args below meth c H locs 0 0 Q (F0 m 73 ls []) := by
  intro n
  induction n with
  | zero =>
    intro q0 a4 a5 hq0 σ H locs ls hF hw hl
    exact absurd hF (fun h => nomatch h)
  | succ n ih =>
    intro q0 a4 a5 hq0 σ H locs ls hF hw hl
    rw [fX4_stepToNextRow_L73] at hF
    refine lv_iload S.1 S.2.1 dX4_stepToNextRow_73 (lv_at hl 1 rfl) ?_
    refine lv_iload S.1 S.2.1 dX4_stepToNextRow_75 (lv_at hl 2 rfl) ?_
    refine lv_icmp_ge (tgt := 97) S.1 S.2.1 dX4_stepToNextRow_77 (by decide) (fun c24 => ?_) (fun c24 => ?_)
    · replace hF := kit hF c24
      refine lv_iconst (v := 1) S.1 S.2.1 dX4_stepToNextRow_97 (by decide) ?_
      obtain ⟨rfl, rfl⟩ := kret hF
      exact hR _ _ _ _ dX4_stepToNextRow_98 hw (fun _ => (Or.inr rfl))
    · replace hF := kif hF c24
      refine lv_aload_n S.1 S.2.1 dX4_stepToNextRow_80 rfl (lv_at hl 0 rfl) ?_
      refine lv_iload S.1 S.2.1 dX4_stepToNextRow_81 (lv_at hl 1 rfl) ?_
      refine lv_iload S.1 S.2.1 dX4_stepToNextRow_83 (lv_at hl 2 rfl) ?_
      obtain ⟨σ26, e25, hF⟩ := kbv_e hF
      refine kcX4_swap S hw cv_X4_248 ⟨Nat.le_of_ble_eq_true rfl, Nat.le_of_ble_eq_true rfl⟩ hq0 e25 hl.1 (Nat.le_of_ble_eq_true rfl) dX4_stepToNextRow_85 (fun H locs hw => ?_)
      obtain ⟨v27, ev27⟩ : ∃ y : Int32, y = a4 + 1 := ⟨_, rfl⟩
      replace hF := klb hF ev27
      refine lv_iinc (v := v27) (lv' := [(4, .int v27), (0, .ref (ead E q0)), (5, .int a5)]) S.1 S.2.1 dX4_stepToNextRow_88 hl (k := 1) rfl (by rw [ev27]; rfl) (by decide) rfl (fun ls hl => ?_)
      obtain ⟨v28, ev28⟩ : ∃ y : Int32, y = a5 + (-1) := ⟨_, rfl⟩
      replace hF := klb hF ev28
      refine lv_iinc (v := v28) (lv' := [(5, .int v28), (4, .int v27), (0, .ref (ead E q0))]) S.1 S.2.1 dX4_stepToNextRow_91 hl (k := 2) rfl (by rw [ev28]; rfl) (by decide) rfl (fun ls hl => ?_)
      refine lv_goto (tgt := 73) S.1 S.2.1 dX4_stepToNextRow_94 (by decide) ?_
      exact ih q0 v27 v28 hq0 _ _ _ _ hF hw (lv_sub hl [2, 1, 0] rfl)
set_option maxHeartbeats 4000000 in
set_option maxRecDepth 100000 in
theorem wX4_stepToNextRow_L35 {p : Program} {l : Launch} {e : Env} {s : State} {m : MethodId} {args : Array Value} {below : List Frame} {meth : Method} {c : Code} {Q : State → Prop} {E : kE} {ω σ1 : kS} {r : Int32} (S : CallFix p m c cX4_stepToNextRow 6 s args kBIG RX4) (hR : kRetI p l e (rml 1) s m args below meth c cX4_stepToNextRow E Q (some .boolean) r (cmb σ1 ω))  : ∀ (n : Nat), ∀ (q0 : Nat) (a1 : Int32) (a2 : Int32) (a3 : Int32) (hq0 : xA q0 6) (σ : kS) (H : Heap) (locs : List Loc) (ls : Array Slot), fX4_stepToNextRow_L35 n q0 a1 a2 a3 σ = some (r, σ1) → kWS E s (cmb σ ω) H locs → lv_has ls 6 [(0, .ref (ead E q0)), (1, .int a1), (2, .int a2), (3, .int a3)] → W p l e (rml 1) s m args below meth c H locs 0 0 Q (F0 m 35 ls []) := by
  intro n
  induction n with
  | zero =>
    intro q0 a1 a2 a3 hq0 σ H locs ls hF hw hl
    exact absurd hF (fun h => nomatch h)
  | succ n ih =>
    intro q0 a1 a2 a3 hq0 σ H locs ls hF hw hl
    rw [fX4_stepToNextRow_L35] at hF
    refine lv_iload_n S.1 S.2.1 dX4_stepToNextRow_35 rfl (lv_at hl 3 rfl) ?_
    refine lv_iload_n S.1 S.2.1 dX4_stepToNextRow_36 rfl (lv_at hl 2 rfl) ?_
    refine lv_iconst (v := 1) S.1 S.2.1 dX4_stepToNextRow_37 (by decide) ?_
    refine lv_iadd S.1 S.2.1 dX4_stepToNextRow_38 ?_
    refine lv_icmp_le (tgt := 57) S.1 S.2.1 dX4_stepToNextRow_39 (by decide) (fun c11 => ?_) (fun c11 => ?_)
    · replace hF := kit hF c11
      refine lv_aload_n S.1 S.2.1 dX4_stepToNextRow_57 rfl (lv_at hl 0 rfl) ?_
      refine lv_iload_n S.1 S.2.1 dX4_stepToNextRow_58 rfl (lv_at hl 2 rfl) ?_
      refine lv_iload_n S.1 S.2.1 dX4_stepToNextRow_59 rfl (lv_at hl 3 rfl) ?_
      obtain ⟨σ13, e12, hF⟩ := kbv_e hF
      refine kcX4_swap S hw cv_X4_248 ⟨Nat.le_of_ble_eq_true rfl, Nat.le_of_ble_eq_true rfl⟩ hq0 e12 hl.1 (Nat.le_of_ble_eq_true rfl) dX4_stepToNextRow_60 (fun H locs hw => ?_)
      refine lv_iload_n S.1 S.2.1 dX4_stepToNextRow_63 rfl (lv_at hl 2 rfl) ?_
      refine lv_iconst (v := 1) S.1 S.2.1 dX4_stepToNextRow_64 (by decide) ?_
      refine lv_iadd S.1 S.2.1 dX4_stepToNextRow_65 ?_
      refine lv_topi (fun v14 ev14 => ?_)
      replace hF := klb hF ev14
      refine lv_istore (lv' := [(4, .int v14), (0, .ref (ead E q0)), (1, .int a1), (2, .int a2), (3, .int a3)]) S.1 S.2.1 dX4_stepToNextRow_66 hl (by decide) rfl (fun ls hl => ?_)
      refine lv_iload_n S.1 S.2.1 dX4_stepToNextRow_68 rfl (lv_at hl 2 rfl) ?_
      refine lv_iconst (v := 1) S.1 S.2.1 dX4_stepToNextRow_69 (by decide) ?_
      refine lv_isub S.1 S.2.1 dX4_stepToNextRow_70 ?_
      refine lv_topi (fun v15 ev15 => ?_)
      replace hF := klb hF ev15
      refine lv_istore (lv' := [(5, .int v15), (4, .int v14), (0, .ref (ead E q0)), (1, .int a1), (2, .int a2), (3, .int a3)]) S.1 S.2.1 dX4_stepToNextRow_71 hl (by decide) rfl (fun ls hl => ?_)
      exact wX4_stepToNextRow_L73 S hR 1000 q0 v14 v15 hq0 _ _ _ _ hF hw (lv_sub hl [2, 1, 0] rfl)
    · replace hF := kif hF c11
      refine lv_aload_n S.1 S.2.1 dX4_stepToNextRow_42 rfl (lv_at hl 0 rfl) ?_
      refine lv_iload_n S.1 S.2.1 dX4_stepToNextRow_43 rfl (lv_at hl 3 rfl) ?_
      obtain ⟨hb16, hF⟩ := kin hF
      refine kx_iald (q := q0) S hw hq0.1 hq0.2 hb16 dX4_stepToNextRow_44 ?_
      refine lv_aload_n S.1 S.2.1 dX4_stepToNextRow_45 rfl (lv_at hl 0 rfl) ?_
      refine lv_iload_n S.1 S.2.1 dX4_stepToNextRow_46 rfl (lv_at hl 2 rfl) ?_
      obtain ⟨hb17, hF⟩ := kin hF
      refine kx_iald (q := q0) S hw hq0.1 hq0.2 hb17 dX4_stepToNextRow_47 ?_
      refine lv_icmp_ge (tgt := 57) S.1 S.2.1 dX4_stepToNextRow_48 (by decide) (fun c18 => ?_) (fun c18 => ?_)
      · replace hF := kit hF c18
        refine lv_aload_n S.1 S.2.1 dX4_stepToNextRow_57 rfl (lv_at hl 0 rfl) ?_
        refine lv_iload_n S.1 S.2.1 dX4_stepToNextRow_58 rfl (lv_at hl 2 rfl) ?_
        refine lv_iload_n S.1 S.2.1 dX4_stepToNextRow_59 rfl (lv_at hl 3 rfl) ?_
        obtain ⟨σ20, e19, hF⟩ := kbv_e hF
        refine kcX4_swap S hw cv_X4_248 ⟨Nat.le_of_ble_eq_true rfl, Nat.le_of_ble_eq_true rfl⟩ hq0 e19 hl.1 (Nat.le_of_ble_eq_true rfl) dX4_stepToNextRow_60 (fun H locs hw => ?_)
        refine lv_iload_n S.1 S.2.1 dX4_stepToNextRow_63 rfl (lv_at hl 2 rfl) ?_
        refine lv_iconst (v := 1) S.1 S.2.1 dX4_stepToNextRow_64 (by decide) ?_
        refine lv_iadd S.1 S.2.1 dX4_stepToNextRow_65 ?_
        refine lv_topi (fun v21 ev21 => ?_)
        replace hF := klb hF ev21
        refine lv_istore (lv' := [(4, .int v21), (0, .ref (ead E q0)), (1, .int a1), (2, .int a2), (3, .int a3)]) S.1 S.2.1 dX4_stepToNextRow_66 hl (by decide) rfl (fun ls hl => ?_)
        refine lv_iload_n S.1 S.2.1 dX4_stepToNextRow_68 rfl (lv_at hl 2 rfl) ?_
        refine lv_iconst (v := 1) S.1 S.2.1 dX4_stepToNextRow_69 (by decide) ?_
        refine lv_isub S.1 S.2.1 dX4_stepToNextRow_70 ?_
        refine lv_topi (fun v22 ev22 => ?_)
        replace hF := klb hF ev22
        refine lv_istore (lv' := [(5, .int v22), (4, .int v21), (0, .ref (ead E q0)), (1, .int a1), (2, .int a2), (3, .int a3)]) S.1 S.2.1 dX4_stepToNextRow_71 hl (by decide) rfl (fun ls hl => ?_)
        exact wX4_stepToNextRow_L73 S hR 1000 q0 v21 v22 hq0 _ _ _ _ hF hw (lv_sub hl [2, 1, 0] rfl)
      · replace hF := kif hF c18
        obtain ⟨v23, ev23⟩ : ∃ y : Int32, y = a3 + (-1) := ⟨_, rfl⟩
        replace hF := klb hF ev23
        refine lv_iinc (v := v23) (lv' := [(3, .int v23), (0, .ref (ead E q0)), (1, .int a1), (2, .int a2)]) S.1 S.2.1 dX4_stepToNextRow_51 hl (k := 3) rfl (by rw [ev23]; rfl) (by decide) rfl (fun ls hl => ?_)
        refine lv_goto (tgt := 35) S.1 S.2.1 dX4_stepToNextRow_54 (by decide) ?_
        exact ih q0 a1 a2 v23 hq0 _ _ _ _ hF hw (lv_sub hl [1, 2, 3, 0] rfl)
set_option maxHeartbeats 4000000 in
set_option maxRecDepth 100000 in
theorem wX4_stepToNextRow_L4 {p : Program} {l : Launch} {e : Env} {s : State} {m : MethodId} {args : Array Value} {below : List Frame} {meth : Method} {c : Code} {Q : State → Prop} {E : kE} {ω σ1 : kS} {r : Int32} (S : CallFix p m c cX4_stepToNextRow 6 s args kBIG RX4) (hR : kRetI p l e (rml 1) s m args below meth c cX4_stepToNextRow E Q (some .boolean) r (cmb σ1 ω))  : ∀ (n : Nat), ∀ (q0 : Nat) (a1 : Int32) (a2 : Int32) (hq0 : xA q0 6) (σ : kS) (H : Heap) (locs : List Loc) (ls : Array Slot), fX4_stepToNextRow_L4 n q0 a1 a2 σ = some (r, σ1) → kWS E s (cmb σ ω) H locs → lv_has ls 6 [(0, .ref (ead E q0)), (1, .int a1), (2, .int a2)] → W p l e (rml 1) s m args below meth c H locs 0 0 Q (F0 m 4 ls []) := by
  intro n
  induction n with
  | zero =>
    intro q0 a1 a2 hq0 σ H locs ls hF hw hl
    exact absurd hF (fun h => nomatch h)
  | succ n ih =>
    intro q0 a1 a2 hq0 σ H locs ls hF hw hl
    rw [fX4_stepToNextRow_L4] at hF
    refine lv_iload_n S.1 S.2.1 dX4_stepToNextRow_4 rfl (lv_at hl 2 rfl) ?_
    refine lv_if_lt (tgt := 25) S.1 S.2.1 dX4_stepToNextRow_5 (by decide) (fun c2 => ?_) (fun c2 => ?_)
    · replace hF := kit hF c2
      refine lv_iload_n S.1 S.2.1 dX4_stepToNextRow_25 rfl (lv_at hl 2 rfl) ?_
      refine lv_if_ge (tgt := 31) S.1 S.2.1 dX4_stepToNextRow_26 (by decide) (fun c3 => ?_) (fun c3 => ?_)
      · replace hF := kit hF c3
        refine lv_iload_n S.1 S.2.1 dX4_stepToNextRow_31 rfl (lv_at hl 1 rfl) ?_
        refine lv_iconst (v := 1) S.1 S.2.1 dX4_stepToNextRow_32 (by decide) ?_
        refine lv_isub S.1 S.2.1 dX4_stepToNextRow_33 ?_
        refine lv_topi (fun v4 ev4 => ?_)
        replace hF := klb hF ev4
        refine lv_istore_n (lv' := [(3, .int v4), (0, .ref (ead E q0)), (1, .int a1), (2, .int a2)]) S.1 S.2.1 dX4_stepToNextRow_34 rfl hl (by decide) rfl (fun ls hl => ?_)
        exact wX4_stepToNextRow_L35 S hR 1000 q0 a1 a2 v4 hq0 _ _ _ _ hF hw (lv_sub hl [1, 2, 3, 0] rfl)
      · replace hF := kif hF c3
        refine lv_iconst (v := 0) S.1 S.2.1 dX4_stepToNextRow_29 (by decide) ?_
        obtain ⟨rfl, rfl⟩ := kret hF
        exact hR _ _ _ _ dX4_stepToNextRow_30 hw (fun _ => (Or.inl rfl))
    · replace hF := kif hF c2
      refine lv_aload_n S.1 S.2.1 dX4_stepToNextRow_8 rfl (lv_at hl 0 rfl) ?_
      refine lv_iload_n S.1 S.2.1 dX4_stepToNextRow_9 rfl (lv_at hl 2 rfl) ?_
      obtain ⟨hb5, hF⟩ := kin hF
      refine kx_iald (q := q0) S hw hq0.1 hq0.2 hb5 dX4_stepToNextRow_10 ?_
      refine lv_aload_n S.1 S.2.1 dX4_stepToNextRow_11 rfl (lv_at hl 0 rfl) ?_
      refine lv_iload_n S.1 S.2.1 dX4_stepToNextRow_12 rfl (lv_at hl 2 rfl) ?_
      refine lv_iconst (v := 1) S.1 S.2.1 dX4_stepToNextRow_13 (by decide) ?_
      refine lv_iadd S.1 S.2.1 dX4_stepToNextRow_14 ?_
      obtain ⟨hb6, hF⟩ := kin hF
      refine kx_iald (q := q0) S hw hq0.1 hq0.2 hb6 dX4_stepToNextRow_15 ?_
      refine lv_icmp_le (tgt := 25) S.1 S.2.1 dX4_stepToNextRow_16 (by decide) (fun c7 => ?_) (fun c7 => ?_)
      · replace hF := kit hF c7
        refine lv_iload_n S.1 S.2.1 dX4_stepToNextRow_25 rfl (lv_at hl 2 rfl) ?_
        refine lv_if_ge (tgt := 31) S.1 S.2.1 dX4_stepToNextRow_26 (by decide) (fun c8 => ?_) (fun c8 => ?_)
        · replace hF := kit hF c8
          refine lv_iload_n S.1 S.2.1 dX4_stepToNextRow_31 rfl (lv_at hl 1 rfl) ?_
          refine lv_iconst (v := 1) S.1 S.2.1 dX4_stepToNextRow_32 (by decide) ?_
          refine lv_isub S.1 S.2.1 dX4_stepToNextRow_33 ?_
          refine lv_topi (fun v9 ev9 => ?_)
          replace hF := klb hF ev9
          refine lv_istore_n (lv' := [(3, .int v9), (0, .ref (ead E q0)), (1, .int a1), (2, .int a2)]) S.1 S.2.1 dX4_stepToNextRow_34 rfl hl (by decide) rfl (fun ls hl => ?_)
          exact wX4_stepToNextRow_L35 S hR 1000 q0 a1 a2 v9 hq0 _ _ _ _ hF hw (lv_sub hl [1, 2, 3, 0] rfl)
        · replace hF := kif hF c8
          refine lv_iconst (v := 0) S.1 S.2.1 dX4_stepToNextRow_29 (by decide) ?_
          obtain ⟨rfl, rfl⟩ := kret hF
          exact hR _ _ _ _ dX4_stepToNextRow_30 hw (fun _ => (Or.inl rfl))
      · replace hF := kif hF c7
        obtain ⟨v10, ev10⟩ : ∃ y : Int32, y = a2 + (-1) := ⟨_, rfl⟩
        replace hF := klb hF ev10
        refine lv_iinc (v := v10) (lv' := [(2, .int v10), (0, .ref (ead E q0)), (1, .int a1)]) S.1 S.2.1 dX4_stepToNextRow_19 hl (k := 2) rfl (by rw [ev10]; rfl) (by decide) rfl (fun ls hl => ?_)
        refine lv_goto (tgt := 4) S.1 S.2.1 dX4_stepToNextRow_22 (by decide) ?_
        exact ih q0 a1 v10 hq0 _ _ _ _ hF hw (lv_sub hl [1, 2, 0] rfl)
set_option maxHeartbeats 4000000 in
set_option maxRecDepth 100000 in
theorem mX4_stepToNextRow {l : Launch} {E : kE} {ω σ σ1 : kS} {r : Int32} {q0 : Nat} {a1 : Int32} (hq0 : xA q0 6) (hF : fX4_stepToNextRow q0 a1 σ = some (r, σ1)) : kMetI l yX4_stepToNextRow cX4_stepToNextRow 6 (some .boolean) 1 E [.ref (ead E q0), .int a1] (cmb σ ω) r (cmb σ1 ω) := by
  refine kMetI.of (by decide +kernel) (Nat.le_of_ble_eq_true rfl) (Or.inr rfl) ?_
  intro p e s m args below meth c Q ls S hR hw hl
  have hl : lv_has ls 6 [(0, .ref (ead E q0)), (1, .int a1)] := hl
  unfold fX4_stepToNextRow at hF
  refine lv_iload_n S.1 S.2.1 dX4_stepToNextRow_0 rfl (lv_at hl 1 rfl) ?_
  refine lv_iconst (v := 2) S.1 S.2.1 dX4_stepToNextRow_1 (by decide) ?_
  refine lv_isub S.1 S.2.1 dX4_stepToNextRow_2 ?_
  refine lv_topi (fun v1 ev1 => ?_)
  replace hF := klb hF ev1
  refine lv_istore_n (lv' := [(2, .int v1), (0, .ref (ead E q0)), (1, .int a1)]) S.1 S.2.1 dX4_stepToNextRow_3 rfl hl (by decide) rfl (fun ls hl => ?_)
  exact wX4_stepToNextRow_L4 S hR 1000 q0 a1 v1 hq0 _ _ _ _ hF hw (lv_sub hl [1, 2, 0] rfl)
set_option maxRecDepth 100000 in
theorem kcX4_stepToNextRow {p : Program} {l : Launch} {e : Env} {R : Room} {s : State} {m : MethodId} {args : Array Value} {below : List Frame} {meth : Method} {c : Code} {H : Heap} {locs : List Loc} {cells slots : Nat} {Q : State → Prop} {cc : ByteArray} {pc : Nat} {ls : Array Slot} {rest : List Value} {E : kE} {σ ω σ1 : kS} {nL index : Nat} {own : String} {r : Int32} (S : CallFix p m c cc nL s args kBIG own) (hw : kWS E s (cmb σ ω) H locs) (cw : kSt own index yX4_stepToNextRow cX4_stepToNextRow 6 (some .boolean) 2) (hR : 1 + 1 ≤ R.frames ∧ 8 + (6 + 11) + 40 * 1 ≤ R.locals) {q0 : Nat} {a1 : Int32} (hq0 : xA q0 6) (hF : fX4_stepToNextRow q0 a1 σ = some (r, σ1)) (hls : ls.size = nL) (hW : (rest.map fun v => v.category).sum ≤ 8) (hdg : decode cc pc = .ok (.invokestatic index, 3)) (kk : ∀ (H1 : Heap) (locs1 : List Loc), kWS E s (cmb σ1 ω) H1 locs1 → (((some .boolean) : Option FieldType) = some .boolean → r = 0 ∨ r = 1) → W p l e R s m args below meth c H1 locs1 cells slots Q (F0 m (pc + 3) ls (.int r :: rest))) (hf : cells ≤ R.cells ∧ slots ≤ R.slots := by exact ⟨Nat.le_of_ble_eq_true rfl, Nat.le_of_ble_eq_true rfl⟩) : W p l e R s m args below meth c H locs cells slots Q (F0 m pc ls (.int a1 :: .ref (ead E q0) :: rest)) := kr_calli (mc := 0) (y := yX4_stepToNextRow) (b := cX4_stepToNextRow) (n := 0) (lv := 0) (As := []) hw (kr_runS (As := [.ref (ead E q0), .int a1]) S hw ((mX4_stepToNextRow (l := l) (E := E) (ω := ω) hq0 hF) H.size) cw hR rfl hls _ rfl hW hdg hf) kk
set_option maxHeartbeats 4000000 in
set_option maxRecDepth 100000 in
theorem wX4_findBestOrder_L44 {p : Program} {l : Launch} {e : Env} {s : State} {m : MethodId} {args : Array Value} {below : List Frame} {meth : Method} {c : Code} {Q : State → Prop} {E : kE} {ω σ1 : kS} {r : Int32} (S : CallFix p m c cX4_findBestOrder 4 s args kBIG RX4) (hR : kRetI p l e (rml 3) s m args below meth c cX4_findBestOrder E Q (some .int) r (cmb σ1 ω))  : ∀ (n : Nat), ∀ (a1 : Int32) (a2 : Int32) (σ : kS) (H : Heap) (locs : List Loc) (ls : Array Slot), fX4_findBestOrder_L44 n a1 a2 σ = some (r, σ1) → kWS E s (cmb σ ω) H locs → lv_has ls 4 [(0, .ref (ead E 0)), (1, .int a1), (2, .int a2)] → W p l e (rml 3) s m args below meth c H locs 0 0 Q (F0 m 44 ls []) := by
  intro n
  induction n with
  | zero =>
    intro a1 a2 σ H locs ls hF hw hl
    exact absurd hF (fun h => nomatch h)
  | succ n ih =>
    intro a1 a2 σ H locs ls hF hw hl
    rw [fX4_findBestOrder_L44] at hF
    refine lv_iload_n S.1 S.2.1 dX4_findBestOrder_44 rfl (lv_at hl 2 rfl) ?_
    refine lv_sipush (v := 720) S.1 S.2.1 dX4_findBestOrder_45 (by decide) ?_
    refine lv_icmp_ge (tgt := 115) S.1 S.2.1 dX4_findBestOrder_48 (by decide) (fun c8 => ?_) (fun c8 => ?_)
    · replace hF := kit hF c8
      refine lv_iload_n S.1 S.2.1 dX4_findBestOrder_115 rfl (lv_at hl 1 rfl) ?_
      obtain ⟨rfl, rfl⟩ := kret hF
      exact hR _ _ _ _ dX4_findBestOrder_116 hw (fun h => nomatch h)
    · replace hF := kif hF c8
      refine lv_iload_n S.1 S.2.1 dX4_findBestOrder_51 rfl (lv_at hl 1 rfl) ?_
      refine lv_aload_n S.1 S.2.1 dX4_findBestOrder_52 rfl (lv_at hl 0 rfl) ?_
      refine gf_X4_12 (q := 0) S hw rfl (Nat.le_of_ble_eq_true rfl) rfl dX4_findBestOrder_53 ?_
      refine gf_X4_92 (q := 1) S hw rfl (Nat.le_of_ble_eq_true rfl) rfl dX4_findBestOrder_56 ?_
      refine lv_icmp_ge (tgt := 115) S.1 S.2.1 dX4_findBestOrder_59 (by decide) (fun c9 => ?_) (fun c9 => ?_)
      · replace hF := kit hF c9
        refine lv_iload_n S.1 S.2.1 dX4_findBestOrder_115 rfl (lv_at hl 1 rfl) ?_
        obtain ⟨rfl, rfl⟩ := kret hF
        exact hR _ _ _ _ dX4_findBestOrder_116 hw (fun h => nomatch h)
      · replace hF := kif hF c9
        refine lv_aload_n S.1 S.2.1 dX4_findBestOrder_62 rfl (lv_at hl 0 rfl) ?_
        obtain ⟨r12, σ11, e10, hF⟩ := kbi_e hF
        refine kcX4_comingInTriedOrder S hw cv_X4_237 ⟨Nat.le_of_ble_eq_true rfl, Nat.le_of_ble_eq_true rfl⟩ e10 hl.1 (Nat.le_of_ble_eq_true rfl) dX4_findBestOrder_63 (fun H locs hw => ?_)
        refine lv_istore_n (lv' := [(3, .int r12), (0, .ref (ead E 0)), (1, .int a1), (2, .int a2)]) S.1 S.2.1 dX4_findBestOrder_66 rfl hl (by decide) rfl (fun ls hl => ?_)
        refine lv_iload_n S.1 S.2.1 dX4_findBestOrder_67 rfl (lv_at hl 0 rfl) ?_
        refine lv_iload_n S.1 S.2.1 dX4_findBestOrder_68 rfl (lv_at hl 2 rfl) ?_
        refine lv_icmp_le (tgt := 89) S.1 S.2.1 dX4_findBestOrder_69 (by decide) (fun c13 => ?_) (fun c13 => ?_)
        · replace hF := kit hF c13
          refine lv_aload_n S.1 S.2.1 dX4_findBestOrder_89 rfl (lv_at hl 1 rfl) ?_
          refine gf_X4_45 (q := 0) S hw rfl (Nat.le_of_ble_eq_true rfl) rfl dX4_findBestOrder_90 ?_
          refine lv_aload_n S.1 S.2.1 dX4_findBestOrder_93 rfl (lv_at hl 1 rfl) ?_
          refine gf_X4_12 (q := 0) S hw rfl (Nat.le_of_ble_eq_true rfl) rfl dX4_findBestOrder_94 ?_
          refine gf_X4_92 (q := 1) S hw rfl (Nat.le_of_ble_eq_true rfl) rfl dX4_findBestOrder_97 ?_
          obtain ⟨r16, σ15, e14, hF⟩ := kbi_e hF
          refine kcX4_stepToNextRow S hw cv_X4_240 ⟨Nat.le_of_ble_eq_true rfl, Nat.le_of_ble_eq_true rfl⟩ (⟨rfl, Nat.le_of_ble_eq_true rfl⟩ : xA 24 6) e14 hl.1 (Nat.le_of_ble_eq_true rfl) dX4_findBestOrder_100 (fun H locs hw hz17 => ?_)
          refine lv_if_ne (tgt := 109) S.1 S.2.1 dX4_findBestOrder_103 (by decide) (fun c18 => ?_) (fun c18 => ?_)
          · replace hF := kif hF c18
            obtain ⟨v19, ev19⟩ : ∃ y : Int32, y = a2 + 1 := ⟨_, rfl⟩
            replace hF := klb hF ev19
            refine lv_iinc (v := v19) (lv' := [(2, .int v19), (3, .int r12), (0, .ref (ead E 0)), (1, .int a1)]) S.1 S.2.1 dX4_findBestOrder_109 hl (k := 3) rfl (by rw [ev19]; rfl) (by decide) rfl (fun ls hl => ?_)
            refine lv_goto (tgt := 44) S.1 S.2.1 dX4_findBestOrder_112 (by decide) ?_
            exact ih a1 v19 _ _ _ _ hF hw (lv_sub hl [2, 3, 0] rfl)
          · replace hF := kit hF c18
            refine lv_goto (tgt := 115) S.1 S.2.1 dX4_findBestOrder_106 (by decide) ?_
            refine lv_iload_n S.1 S.2.1 dX4_findBestOrder_115 rfl (lv_at hl 2 rfl) ?_
            obtain ⟨rfl, rfl⟩ := kret hF
            exact hR _ _ _ _ dX4_findBestOrder_116 hw (fun h => nomatch h)
        · replace hF := kif hF c13
          refine lv_iload_n S.1 S.2.1 dX4_findBestOrder_72 rfl (lv_at hl 0 rfl) ?_
          refine lv_istore_n (lv' := [(1, .int r12), (3, .int r12), (0, .ref (ead E 0)), (2, .int a2)]) S.1 S.2.1 dX4_findBestOrder_73 rfl hl (by decide) rfl (fun ls hl => ?_)
          refine lv_aload_n S.1 S.2.1 dX4_findBestOrder_74 rfl (lv_at hl 2 rfl) ?_
          refine gf_X4_45 (q := 0) S hw rfl (Nat.le_of_ble_eq_true rfl) rfl dX4_findBestOrder_75 ?_
          refine lv_iconst (v := 0) S.1 S.2.1 dX4_findBestOrder_78 (by decide) ?_
          refine lv_aload_n S.1 S.2.1 dX4_findBestOrder_79 rfl (lv_at hl 2 rfl) ?_
          refine gf_X4_48 (q := 0) S hw rfl (Nat.le_of_ble_eq_true rfl) rfl dX4_findBestOrder_80 ?_
          refine lv_iconst (v := 0) S.1 S.2.1 dX4_findBestOrder_83 (by decide) ?_
          refine lv_bipush (v := 6) S.1 S.2.1 dX4_findBestOrder_84 (by decide) ?_
          obtain ⟨hb20, hF⟩ := kin hF
          refine kx_copy S hw (S.2.2.1.trans hl.1.symm) q2_87 (⟨rfl, Nat.le_of_ble_eq_true rfl⟩ : xA 24 6) (⟨rfl, Nat.le_of_ble_eq_true rfl⟩ : xA 25 6) hb20 (Nat.le_of_ble_eq_true rfl) (Nat.le_of_ble_eq_true rfl) dX4_findBestOrder_86 (fun H locs hw => ?_)
          refine lv_aload_n S.1 S.2.1 dX4_findBestOrder_89 rfl (lv_at hl 2 rfl) ?_
          refine gf_X4_45 (q := 0) S hw rfl (Nat.le_of_ble_eq_true rfl) rfl dX4_findBestOrder_90 ?_
          refine lv_aload_n S.1 S.2.1 dX4_findBestOrder_93 rfl (lv_at hl 2 rfl) ?_
          refine gf_X4_12 (q := 0) S hw rfl (Nat.le_of_ble_eq_true rfl) rfl dX4_findBestOrder_94 ?_
          refine gf_X4_92 (q := 1) S hw rfl (Nat.le_of_ble_eq_true rfl) rfl dX4_findBestOrder_97 ?_
          obtain ⟨r23, σ22, e21, hF⟩ := kbi_e hF
          refine kcX4_stepToNextRow S hw cv_X4_240 ⟨Nat.le_of_ble_eq_true rfl, Nat.le_of_ble_eq_true rfl⟩ (⟨rfl, Nat.le_of_ble_eq_true rfl⟩ : xA 24 6) e21 hl.1 (Nat.le_of_ble_eq_true rfl) dX4_findBestOrder_100 (fun H locs hw hz24 => ?_)
          refine lv_if_ne (tgt := 109) S.1 S.2.1 dX4_findBestOrder_103 (by decide) (fun c25 => ?_) (fun c25 => ?_)
          · replace hF := kif hF c25
            obtain ⟨v26, ev26⟩ : ∃ y : Int32, y = a2 + 1 := ⟨_, rfl⟩
            replace hF := klb hF ev26
            refine lv_iinc (v := v26) (lv' := [(2, .int v26), (1, .int r12), (3, .int r12), (0, .ref (ead E 0))]) S.1 S.2.1 dX4_findBestOrder_109 hl (k := 3) rfl (by rw [ev26]; rfl) (by decide) rfl (fun ls hl => ?_)
            refine lv_goto (tgt := 44) S.1 S.2.1 dX4_findBestOrder_112 (by decide) ?_
            exact ih r12 v26 _ _ _ _ hF hw (lv_sub hl [3, 1, 0] rfl)
          · replace hF := kit hF c25
            refine lv_goto (tgt := 115) S.1 S.2.1 dX4_findBestOrder_106 (by decide) ?_
            refine lv_iload_n S.1 S.2.1 dX4_findBestOrder_115 rfl (lv_at hl 0 rfl) ?_
            obtain ⟨rfl, rfl⟩ := kret hF
            exact hR _ _ _ _ dX4_findBestOrder_116 hw (fun h => nomatch h)
set_option maxHeartbeats 4000000 in
set_option maxRecDepth 100000 in
theorem wX4_findBestOrder_L2 {p : Program} {l : Launch} {e : Env} {s : State} {m : MethodId} {args : Array Value} {below : List Frame} {meth : Method} {c : Code} {Q : State → Prop} {E : kE} {ω σ1 : kS} {r : Int32} (S : CallFix p m c cX4_findBestOrder 4 s args kBIG RX4) (hR : kRetI p l e (rml 3) s m args below meth c cX4_findBestOrder E Q (some .int) r (cmb σ1 ω))  : ∀ (n : Nat), ∀ (a1 : Int32) (σ : kS) (H : Heap) (locs : List Loc) (ls : Array Slot), fX4_findBestOrder_L2 n a1 σ = some (r, σ1) → kWS E s (cmb σ ω) H locs → lv_has ls 4 [(0, .ref (ead E 0)), (1, .int a1)] → W p l e (rml 3) s m args below meth c H locs 0 0 Q (F0 m 2 ls []) := by
  intro n
  induction n with
  | zero =>
    intro a1 σ H locs ls hF hw hl
    exact absurd hF (fun h => nomatch h)
  | succ n ih =>
    intro a1 σ H locs ls hF hw hl
    rw [fX4_findBestOrder_L2] at hF
    refine lv_iload_n S.1 S.2.1 dX4_findBestOrder_2 rfl (lv_at hl 1 rfl) ?_
    refine lv_aload_n S.1 S.2.1 dX4_findBestOrder_3 rfl (lv_at hl 0 rfl) ?_
    refine gf_X4_12 (q := 0) S hw rfl (Nat.le_of_ble_eq_true rfl) rfl dX4_findBestOrder_4 ?_
    refine gf_X4_92 (q := 1) S hw rfl (Nat.le_of_ble_eq_true rfl) rfl dX4_findBestOrder_7 ?_
    refine lv_icmp_ge (tgt := 40) S.1 S.2.1 dX4_findBestOrder_10 (by decide) (fun c1 => ?_) (fun c1 => ?_)
    · replace hF := kit hF c1
      refine lv_iconst (v := (-1)) S.1 S.2.1 dX4_findBestOrder_40 (by decide) ?_
      refine lv_istore_n (lv' := [(1, .int (-1)), (0, .ref (ead E 0))]) S.1 S.2.1 dX4_findBestOrder_41 rfl hl (by decide) rfl (fun ls hl => ?_)
      refine lv_iconst (v := 0) S.1 S.2.1 dX4_findBestOrder_42 (by decide) ?_
      refine lv_istore_n (lv' := [(2, .int 0), (1, .int (-1)), (0, .ref (ead E 0))]) S.1 S.2.1 dX4_findBestOrder_43 rfl hl (by decide) rfl (fun ls hl => ?_)
      exact wX4_findBestOrder_L44 S hR 1000 (-1) 0 _ _ _ _ hF hw (lv_sub hl [2, 1, 0] rfl)
    · replace hF := kif hF c1
      refine lv_aload_n S.1 S.2.1 dX4_findBestOrder_13 rfl (lv_at hl 0 rfl) ?_
      refine gf_X4_45 (q := 0) S hw rfl (Nat.le_of_ble_eq_true rfl) rfl dX4_findBestOrder_14 ?_
      refine lv_iload_n S.1 S.2.1 dX4_findBestOrder_17 rfl (lv_at hl 1 rfl) ?_
      refine lv_iload_n S.1 S.2.1 dX4_findBestOrder_18 rfl (lv_at hl 1 rfl) ?_
      obtain ⟨hb2, hF⟩ := kin hF
      refine kx_iast (q := 24) S hw rfl (Nat.le_of_ble_eq_true rfl) hb2 dX4_findBestOrder_19 (fun H locs hw => ?_)
      refine lv_aload_n S.1 S.2.1 dX4_findBestOrder_20 rfl (lv_at hl 0 rfl) ?_
      refine gf_X4_42 (q := 0) S hw rfl (Nat.le_of_ble_eq_true rfl) rfl dX4_findBestOrder_21 ?_
      refine lv_iload_n S.1 S.2.1 dX4_findBestOrder_24 rfl (lv_at hl 1 rfl) ?_
      refine lv_aload_n S.1 S.2.1 dX4_findBestOrder_25 rfl (lv_at hl 0 rfl) ?_
      refine gf_X4_12 (q := 0) S hw rfl (Nat.le_of_ble_eq_true rfl) rfl dX4_findBestOrder_26 ?_
      refine lv_iload_n S.1 S.2.1 dX4_findBestOrder_29 rfl (lv_at hl 1 rfl) ?_
      obtain ⟨r5, σ4, e3, hF⟩ := kbi_e hF
      refine kcX0_goesTo S hw cv_X4_116 ⟨Nat.le_of_ble_eq_true rfl, Nat.le_of_ble_eq_true rfl⟩ isM_1 e3 hl.1 (Nat.le_of_ble_eq_true rfl) dX4_findBestOrder_30 (fun H locs hw => ?_)
      obtain ⟨hb6, hF⟩ := kin hF
      refine kx_iast (q := 23) S hw rfl (Nat.le_of_ble_eq_true rfl) hb6 dX4_findBestOrder_33 (fun H locs hw => ?_)
      obtain ⟨v7, ev7⟩ : ∃ y : Int32, y = a1 + 1 := ⟨_, rfl⟩
      replace hF := klb hF ev7
      refine lv_iinc (v := v7) (lv' := [(1, .int v7), (0, .ref (ead E 0))]) S.1 S.2.1 dX4_findBestOrder_34 hl (k := 1) rfl (by rw [ev7]; rfl) (by decide) rfl (fun ls hl => ?_)
      refine lv_goto (tgt := 2) S.1 S.2.1 dX4_findBestOrder_37 (by decide) ?_
      exact ih v7 _ _ _ _ hF hw (lv_sub hl [1, 0] rfl)
set_option maxHeartbeats 4000000 in
set_option maxRecDepth 100000 in
theorem mX4_findBestOrder {l : Launch} {E : kE} {ω σ σ1 : kS} {r : Int32}   (hF : fX4_findBestOrder σ = some (r, σ1)) : kMetI l yX4_findBestOrder cX4_findBestOrder 4 (some .int) 3 E [.ref (ead E 0)] (cmb σ ω) r (cmb σ1 ω) := by
  refine kMetI.of (by decide +kernel) (Nat.le_of_ble_eq_true rfl) (Or.inl rfl) ?_
  intro p e s m args below meth c Q ls S hR hw hl
  have hl : lv_has ls 4 [(0, .ref (ead E 0))] := hl
  unfold fX4_findBestOrder at hF
  refine lv_iconst (v := 0) S.1 S.2.1 dX4_findBestOrder_0 (by decide) ?_
  refine lv_istore_n (lv' := [(1, .int 0), (0, .ref (ead E 0))]) S.1 S.2.1 dX4_findBestOrder_1 rfl hl (by decide) rfl (fun ls hl => ?_)
  exact wX4_findBestOrder_L2 S hR 1000 0 _ _ _ _ hF hw (lv_sub hl [1, 0] rfl)
set_option maxRecDepth 100000 in
theorem kcX4_findBestOrder {p : Program} {l : Launch} {e : Env} {R : Room} {s : State} {m : MethodId} {args : Array Value} {below : List Frame} {meth : Method} {c : Code} {H : Heap} {locs : List Loc} {cells slots : Nat} {Q : State → Prop} {cc : ByteArray} {pc : Nat} {ls : Array Slot} {rest : List Value} {E : kE} {σ ω σ1 : kS} {nL index : Nat} {own : String} {r : Int32} (S : CallFix p m c cc nL s args kBIG own) (hw : kWS E s (cmb σ ω) H locs) (cw : kV own RX4 index yX4_findBestOrder cX4_findBestOrder 4 (some .int) 0) (hR : 3 + 1 ≤ R.frames ∧ 8 + (4 + 11) + 40 * 3 ≤ R.locals)   (hF : fX4_findBestOrder σ = some (r, σ1)) (hls : ls.size = nL) (hW : (rest.map fun v => v.category).sum ≤ 8) (hdg : decode cc pc = .ok (.invokevirtual index, 3)) (kk : ∀ (H1 : Heap) (locs1 : List Loc), kWS E s (cmb σ1 ω) H1 locs1 → W p l e R s m args below meth c H1 locs1 cells slots Q (F0 m (pc + 3) ls (.int r :: rest))) (hf : cells ≤ R.cells ∧ slots ≤ R.slots := by exact ⟨Nat.le_of_ble_eq_true rfl, Nat.le_of_ble_eq_true rfl⟩) : W p l e R s m args below meth c H locs cells slots Q (F0 m pc ls (.ref (ead E 0) :: rest)) := kr_calli (mc := 0) (y := yX4_findBestOrder) (b := cX4_findBestOrder) (n := 0) (lv := 0) (As := []) (ret := some .int) hw (kr_runV (As := []) (q := 0) S hw ((mX4_findBestOrder (l := l) (E := E) (ω := ω) hF) H.size) cw hR rfl (by decide) rfl rfl hls _ rfl hW hdg hf) (fun H1 locs1 h _ => kk H1 locs1 h)
set_option maxHeartbeats 4000000 in
set_option maxRecDepth 100000 in
theorem mX4_order {l : Launch} {E : kE} {ω σ σ1 : kS} {r : Int32} {a1 : Int32}  (hF : fX4_order a1 σ = some (r, σ1)) : kMetI l yX4_order cX4_order 3 (some .int) 4 E [.ref (ead E 0), .int a1] (cmb σ ω) r (cmb σ1 ω) := by
  refine kMetI.of (by decide +kernel) (Nat.le_of_ble_eq_true rfl) (Or.inl rfl) ?_
  intro p e s m args below meth c Q ls S hR hw hl
  have hl : lv_has ls 3 [(0, .ref (ead E 0)), (1, .int a1)] := hl
  unfold fX4_order at hF
  refine lv_aload_n S.1 S.2.1 dX4_order_0 rfl (lv_at hl 0 rfl) ?_
  obtain ⟨r3, σ2, e1, hF⟩ := kbi_e hF
  refine kcX4_hasNoMoor S hw cv_X4_119 ⟨Nat.le_of_ble_eq_true rfl, Nat.le_of_ble_eq_true rfl⟩ e1 hl.1 (Nat.le_of_ble_eq_true rfl) dX4_order_1 (fun H locs hw hz4 => ?_)
  refine lv_if_eq (tgt := 10) S.1 S.2.1 dX4_order_4 (by decide) (fun c5 => ?_) (fun c5 => ?_)
  · replace hF := kit hF c5
    refine lv_iload_n S.1 S.2.1 dX4_order_10 rfl (lv_at hl 1 rfl) ?_
    refine lv_iconst (v := (-1)) S.1 S.2.1 dX4_order_11 (by decide) ?_
    refine lv_icmp_lt (tgt := 21) S.1 S.2.1 dX4_order_12 (by decide) (fun c6 => ?_) (fun c6 => ?_)
    · replace hF := kit hF c6
      refine lv_bipush (v := (-2)) S.1 S.2.1 dX4_order_21 (by decide) ?_
      obtain ⟨rfl, rfl⟩ := kret hF
      exact hR _ _ _ _ dX4_order_23 hw (fun h => nomatch h)
    · replace hF := kif hF c6
      refine lv_iload_n S.1 S.2.1 dX4_order_15 rfl (lv_at hl 1 rfl) ?_
      refine lv_bipush (v := 6) S.1 S.2.1 dX4_order_16 (by decide) ?_
      refine lv_icmp_lt (tgt := 24) S.1 S.2.1 dX4_order_18 (by decide) (fun c7 => ?_) (fun c7 => ?_)
      · replace hF := kit hF c7
        refine lv_iload_n S.1 S.2.1 dX4_order_24 rfl (lv_at hl 1 rfl) ?_
        refine lv_aload_n S.1 S.2.1 dX4_order_25 rfl (lv_at hl 0 rfl) ?_
        refine gf_X4_12 (q := 0) S hw rfl (Nat.le_of_ble_eq_true rfl) rfl dX4_order_26 ?_
        refine gf_X4_92 (q := 1) S hw rfl (Nat.le_of_ble_eq_true rfl) rfl dX4_order_29 ?_
        refine lv_icmp_lt (tgt := 38) S.1 S.2.1 dX4_order_32 (by decide) (fun c8 => ?_) (fun c8 => ?_)
        · replace hF := kit hF c8
          refine lv_aload_n S.1 S.2.1 dX4_order_38 rfl (lv_at hl 0 rfl) ?_
          obtain ⟨r11, σ10, e9, hF⟩ := kbi_e hF
          refine kcX4_findBestOrder S hw cv_X4_165 ⟨Nat.le_of_ble_eq_true rfl, Nat.le_of_ble_eq_true rfl⟩ e9 hl.1 (Nat.le_of_ble_eq_true rfl) dX4_order_39 (fun H locs hw => ?_)
          refine lv_istore_n (lv' := [(2, .int r11), (0, .ref (ead E 0)), (1, .int a1)]) S.1 S.2.1 dX4_order_42 rfl hl (by decide) rfl (fun ls hl => ?_)
          refine lv_iload_n S.1 S.2.1 dX4_order_43 rfl (lv_at hl 2 rfl) ?_
          refine lv_if_ge (tgt := 51) S.1 S.2.1 dX4_order_44 (by decide) (fun c12 => ?_) (fun c12 => ?_)
          · replace hF := kit hF c12
            refine lv_aload_n S.1 S.2.1 dX4_order_51 rfl (lv_at hl 1 rfl) ?_
            refine gf_X4_48 (q := 0) S hw rfl (Nat.le_of_ble_eq_true rfl) rfl dX4_order_52 ?_
            refine lv_iload_n S.1 S.2.1 dX4_order_55 rfl (lv_at hl 2 rfl) ?_
            obtain ⟨hb13, hF⟩ := kin hF
            refine kx_iald (q := 25) S hw rfl (Nat.le_of_ble_eq_true rfl) hb13 dX4_order_56 ?_
            obtain ⟨rfl, rfl⟩ := kret hF
            exact hR _ _ _ _ dX4_order_57 hw (fun h => nomatch h)
          · replace hF := kif hF c12
            refine lv_iload_n S.1 S.2.1 dX4_order_47 rfl (lv_at hl 0 rfl) ?_
            refine lv_goto (tgt := 57) S.1 S.2.1 dX4_order_48 (by decide) ?_
            obtain ⟨rfl, rfl⟩ := kret hF
            exact hR _ _ _ _ dX4_order_57 hw (fun h => nomatch h)
        · replace hF := kif hF c8
          refine lv_bipush (v := (-9)) S.1 S.2.1 dX4_order_35 (by decide) ?_
          obtain ⟨rfl, rfl⟩ := kret hF
          exact hR _ _ _ _ dX4_order_37 hw (fun h => nomatch h)
      · replace hF := kif hF c7
        refine lv_bipush (v := (-2)) S.1 S.2.1 dX4_order_21 (by decide) ?_
        obtain ⟨rfl, rfl⟩ := kret hF
        exact hR _ _ _ _ dX4_order_23 hw (fun h => nomatch h)
  · replace hF := kif hF c5
    refine lv_bipush (v := (-3)) S.1 S.2.1 dX4_order_7 (by decide) ?_
    obtain ⟨rfl, rfl⟩ := kret hF
    exact hR _ _ _ _ dX4_order_9 hw (fun h => nomatch h)
set_option maxRecDepth 100000 in
theorem kcX4_order {p : Program} {l : Launch} {e : Env} {R : Room} {s : State} {m : MethodId} {args : Array Value} {below : List Frame} {meth : Method} {c : Code} {H : Heap} {locs : List Loc} {cells slots : Nat} {Q : State → Prop} {cc : ByteArray} {pc : Nat} {ls : Array Slot} {rest : List Value} {E : kE} {σ ω σ1 : kS} {nL index : Nat} {own : String} {r : Int32} (S : CallFix p m c cc nL s args kBIG own) (hw : kWS E s (cmb σ ω) H locs) (cw : kV own RX4 index yX4_order cX4_order 3 (some .int) 1) (hR : 4 + 1 ≤ R.frames ∧ 8 + (3 + 11) + 40 * 4 ≤ R.locals) {a1 : Int32}  (hF : fX4_order a1 σ = some (r, σ1)) (hls : ls.size = nL) (hW : (rest.map fun v => v.category).sum ≤ 8) (hdg : decode cc pc = .ok (.invokevirtual index, 3)) (kk : ∀ (H1 : Heap) (locs1 : List Loc), kWS E s (cmb σ1 ω) H1 locs1 → W p l e R s m args below meth c H1 locs1 cells slots Q (F0 m (pc + 3) ls (.int r :: rest))) (hf : cells ≤ R.cells ∧ slots ≤ R.slots := by exact ⟨Nat.le_of_ble_eq_true rfl, Nat.le_of_ble_eq_true rfl⟩) : W p l e R s m args below meth c H locs cells slots Q (F0 m pc ls (.int a1 :: .ref (ead E 0) :: rest)) := kr_calli (mc := 0) (y := yX4_order) (b := cX4_order) (n := 0) (lv := 0) (As := []) (ret := some .int) hw (kr_runV (As := [.int a1]) (q := 0) S hw ((mX4_order (l := l) (E := E) (ω := ω) hF) H.size) cw hR rfl (by decide) rfl rfl hls _ rfl hW hdg hf) (fun H1 locs1 h _ => kk H1 locs1 h)
set_option maxHeartbeats 4000000 in
set_option maxRecDepth 100000 in
theorem mX4_ahead {l : Launch} {E : kE} {ω σ σ1 : kS} {r : Int32} {a1 : Int32}  (hF : fX4_ahead a1 σ = some (r, σ1)) : kMetI l yX4_ahead cX4_ahead 2 (some .int) 4 E [.ref (ead E 0), .int a1] (cmb σ ω) r (cmb σ1 ω) := by
  refine kMetI.of (by decide +kernel) (Nat.le_of_ble_eq_true rfl) (Or.inl rfl) ?_
  intro p e s m args below meth c Q ls S hR hw hl
  have hl : lv_has ls 2 [(0, .ref (ead E 0)), (1, .int a1)] := hl
  unfold fX4_ahead at hF
  refine lv_aload_n S.1 S.2.1 dX4_ahead_0 rfl (lv_at hl 0 rfl) ?_
  refine lv_iload_n S.1 S.2.1 dX4_ahead_1 rfl (lv_at hl 1 rfl) ?_
  obtain ⟨r3, σ2, e1, hF⟩ := kbi_e hF
  refine kcX4_isPerson S hw cv_X4_95 ⟨Nat.le_of_ble_eq_true rfl, Nat.le_of_ble_eq_true rfl⟩ e1 hl.1 (Nat.le_of_ble_eq_true rfl) dX4_ahead_2 (fun H locs hw hz4 => ?_)
  refine lv_if_ne (tgt := 10) S.1 S.2.1 dX4_ahead_5 (by decide) (fun c5 => ?_) (fun c5 => ?_)
  · replace hF := kif hF c5
    refine lv_aload_n S.1 S.2.1 dX4_ahead_10 rfl (lv_at hl 0 rfl) ?_
    refine gf_X4_12 (q := 0) S hw rfl (Nat.le_of_ble_eq_true rfl) rfl dX4_ahead_11 ?_
    refine lv_iload_n S.1 S.2.1 dX4_ahead_14 rfl (lv_at hl 1 rfl) ?_
    obtain ⟨r8, σ7, e6, hF⟩ := kbi_e hF
    refine kcX0_goesTo S hw cv_X4_116 ⟨Nat.le_of_ble_eq_true rfl, Nat.le_of_ble_eq_true rfl⟩ isM_1 e6 hl.1 (Nat.le_of_ble_eq_true rfl) dX4_ahead_15 (fun H locs hw => ?_)
    refine lv_iload_n S.1 S.2.1 dX4_ahead_18 rfl (lv_at hl 1 rfl) ?_
    refine lv_icmp_ne (tgt := 24) S.1 S.2.1 dX4_ahead_19 (by decide) (fun c9 => ?_) (fun c9 => ?_)
    · replace hF := kif hF c9
      refine lv_aload_n S.1 S.2.1 dX4_ahead_24 rfl (lv_at hl 0 rfl) ?_
      refine gf_X4_12 (q := 0) S hw rfl (Nat.le_of_ble_eq_true rfl) rfl dX4_ahead_25 ?_
      obtain ⟨r12, σ11, e10, hF⟩ := kbi_e hF
      refine kcX0_whoGetOne S hw cv_X4_140 ⟨Nat.le_of_ble_eq_true rfl, Nat.le_of_ble_eq_true rfl⟩ isM_1 e10 hl.1 (Nat.le_of_ble_eq_true rfl) dX4_ahead_28 (fun H locs hw => ?_)
      refine lv_iload_n S.1 S.2.1 dX4_ahead_31 rfl (lv_at hl 1 rfl) ?_
      obtain ⟨r15, σ14, e13, hF⟩ := kbi_e hF
      refine kcX4_contains S hw cv_X4_168 ⟨Nat.le_of_ble_eq_true rfl, Nat.le_of_ble_eq_true rfl⟩ e13 hl.1 (Nat.le_of_ble_eq_true rfl) dX4_ahead_32 (fun H locs hw hz16 => ?_)
      refine lv_if_eq (tgt := 42) S.1 S.2.1 dX4_ahead_35 (by decide) (fun c17 => ?_) (fun c17 => ?_)
      · replace hF := kit hF c17
        refine lv_bipush (v := (-9)) S.1 S.2.1 dX4_ahead_42 (by decide) ?_
        obtain ⟨rfl, rfl⟩ := kret hF
        exact hR _ _ _ _ dX4_ahead_44 hw (fun h => nomatch h)
      · replace hF := kif hF c17
        refine lv_iconst (v := 1) S.1 S.2.1 dX4_ahead_38 (by decide) ?_
        refine lv_goto (tgt := 44) S.1 S.2.1 dX4_ahead_39 (by decide) ?_
        obtain ⟨rfl, rfl⟩ := kret hF
        exact hR _ _ _ _ dX4_ahead_44 hw (fun h => nomatch h)
    · replace hF := kit hF c9
      refine lv_iconst (v := 0) S.1 S.2.1 dX4_ahead_22 (by decide) ?_
      obtain ⟨rfl, rfl⟩ := kret hF
      exact hR _ _ _ _ dX4_ahead_23 hw (fun h => nomatch h)
  · replace hF := kit hF c5
    refine lv_iconst (v := (-1)) S.1 S.2.1 dX4_ahead_8 (by decide) ?_
    obtain ⟨rfl, rfl⟩ := kret hF
    exact hR _ _ _ _ dX4_ahead_9 hw (fun h => nomatch h)
set_option maxRecDepth 100000 in
theorem kcX4_ahead {p : Program} {l : Launch} {e : Env} {R : Room} {s : State} {m : MethodId} {args : Array Value} {below : List Frame} {meth : Method} {c : Code} {H : Heap} {locs : List Loc} {cells slots : Nat} {Q : State → Prop} {cc : ByteArray} {pc : Nat} {ls : Array Slot} {rest : List Value} {E : kE} {σ ω σ1 : kS} {nL index : Nat} {own : String} {r : Int32} (S : CallFix p m c cc nL s args kBIG own) (hw : kWS E s (cmb σ ω) H locs) (cw : kV own RX4 index yX4_ahead cX4_ahead 2 (some .int) 1) (hR : 4 + 1 ≤ R.frames ∧ 8 + (2 + 11) + 40 * 4 ≤ R.locals) {a1 : Int32}  (hF : fX4_ahead a1 σ = some (r, σ1)) (hls : ls.size = nL) (hW : (rest.map fun v => v.category).sum ≤ 8) (hdg : decode cc pc = .ok (.invokevirtual index, 3)) (kk : ∀ (H1 : Heap) (locs1 : List Loc), kWS E s (cmb σ1 ω) H1 locs1 → W p l e R s m args below meth c H1 locs1 cells slots Q (F0 m (pc + 3) ls (.int r :: rest))) (hf : cells ≤ R.cells ∧ slots ≤ R.slots := by exact ⟨Nat.le_of_ble_eq_true rfl, Nat.le_of_ble_eq_true rfl⟩) : W p l e R s m args below meth c H locs cells slots Q (F0 m pc ls (.int a1 :: .ref (ead E 0) :: rest)) := kr_calli (mc := 0) (y := yX4_ahead) (b := cX4_ahead) (n := 0) (lv := 0) (As := []) (ret := some .int) hw (kr_runV (As := [.int a1]) (q := 0) S hw ((mX4_ahead (l := l) (E := E) (ω := ω) hF) H.size) cw hR rfl (by decide) rfl rfl hls _ rfl hW hdg hf) (fun H1 locs1 h _ => kk H1 locs1 h)
set_option maxHeartbeats 4000000 in
set_option maxRecDepth 100000 in
theorem wX4_reading_J26 {p : Program} {l : Launch} {e : Env} {s : State} {m : MethodId} {args : Array Value} {below : List Frame} {meth : Method} {c : Code} {Q : State → Prop} {E : kE} {ω σ1 : kS} {r : Int32} (S : CallFix p m c cX4_reading 3 s args kBIG RX4) (hR : kRetI p l e (rml 2) s m args below meth c cX4_reading E Q (some .int) r (cmb σ1 ω))  : ∀ (a1 : Int32) (a2 : Int32) (σ : kS) (H : Heap) (locs : List Loc) (ls : Array Slot), fX4_reading_J26 a1 a2 σ = some (r, σ1) → kWS E s (cmb σ ω) H locs → lv_has ls 3 [(0, .ref (ead E 0)), (1, .int a1), (2, .int a2)] → W p l e (rml 2) s m args below meth c H locs 0 0 Q (F0 m 26 ls []) := by
  intro a1 a2 σ H locs ls hF hw hl
  unfold fX4_reading_J26 at hF
  refine lv_aload_n S.1 S.2.1 dX4_reading_26 rfl (lv_at hl 0 rfl) ?_
  refine gf_X4_86 (q := 0) S hw rfl (Nat.le_of_ble_eq_true rfl) rfl dX4_reading_27 ?_
  refine lv_bipush (v := 8) S.1 S.2.1 dX4_reading_30 (by decide) ?_
  refine lv_icmp_lt (tgt := 38) S.1 S.2.1 dX4_reading_32 (by decide) (fun c12 => ?_) (fun c12 => ?_)
  · replace hF := kit hF c12
    refine lv_aload_n S.1 S.2.1 dX4_reading_38 rfl (lv_at hl 0 rfl) ?_
    refine gf_X4_35 (q := 0) S hw rfl (Nat.le_of_ble_eq_true rfl) rfl dX4_reading_39 ?_
    refine lv_aload_n S.1 S.2.1 dX4_reading_42 rfl (lv_at hl 0 rfl) ?_
    refine gf_X4_86 (q := 0) S hw rfl (Nat.le_of_ble_eq_true rfl) rfl dX4_reading_43 ?_
    refine lv_iload_n S.1 S.2.1 dX4_reading_46 rfl (lv_at hl 1 rfl) ?_
    obtain ⟨hb13, hF⟩ := kin hF
    refine kx_iast (q := 21) S hw rfl (Nat.le_of_ble_eq_true rfl) hb13 dX4_reading_47 (fun H locs hw => ?_)
    refine lv_aload_n S.1 S.2.1 dX4_reading_48 rfl (lv_at hl 0 rfl) ?_
    refine gf_X4_39 (q := 0) S hw rfl (Nat.le_of_ble_eq_true rfl) rfl dX4_reading_49 ?_
    refine lv_aload_n S.1 S.2.1 dX4_reading_52 rfl (lv_at hl 0 rfl) ?_
    refine gf_X4_86 (q := 0) S hw rfl (Nat.le_of_ble_eq_true rfl) rfl dX4_reading_53 ?_
    refine lv_iload_n S.1 S.2.1 dX4_reading_56 rfl (lv_at hl 2 rfl) ?_
    obtain ⟨hb14, hF⟩ := kin hF
    refine kx_iast (q := 22) S hw rfl (Nat.le_of_ble_eq_true rfl) hb14 dX4_reading_57 (fun H locs hw => ?_)
    refine lv_aload_n S.1 S.2.1 dX4_reading_58 rfl (lv_at hl 0 rfl) ?_
    refine lv_dup S.1 S.2.1 dX4_reading_59 rfl ?_
    refine gf_X4_86 (q := 0) S hw rfl (Nat.le_of_ble_eq_true rfl) rfl dX4_reading_60 ?_
    refine lv_iconst (v := 1) S.1 S.2.1 dX4_reading_63 (by decide) ?_
    refine lv_iadd S.1 S.2.1 dX4_reading_64 ?_
    refine pf_X4_86 (q := 0) S hw rfl (Nat.le_of_ble_eq_true rfl) rfl dX4_reading_65 (fun H locs hw => ?_)
    refine lv_aload_n S.1 S.2.1 dX4_reading_68 rfl (lv_at hl 0 rfl) ?_
    refine gf_X4_86 (q := 0) S hw rfl (Nat.le_of_ble_eq_true rfl) rfl dX4_reading_69 ?_
    refine lv_iconst (v := 1) S.1 S.2.1 dX4_reading_72 (by decide) ?_
    refine lv_isub S.1 S.2.1 dX4_reading_73 ?_
    obtain ⟨rfl, rfl⟩ := kret hF
    exact hR _ _ _ _ dX4_reading_74 hw (fun h => nomatch h)
  · replace hF := kif hF c12
    refine lv_bipush (v := (-4)) S.1 S.2.1 dX4_reading_35 (by decide) ?_
    obtain ⟨rfl, rfl⟩ := kret hF
    exact hR _ _ _ _ dX4_reading_37 hw (fun h => nomatch h)
set_option maxHeartbeats 4000000 in
set_option maxRecDepth 100000 in
theorem mX4_reading {l : Launch} {E : kE} {ω σ σ1 : kS} {r : Int32} {a1 : Int32} {a2 : Int32}  (hF : fX4_reading a1 a2 σ = some (r, σ1)) : kMetI l yX4_reading cX4_reading 3 (some .int) 2 E [.ref (ead E 0), .int a1, .int a2] (cmb σ ω) r (cmb σ1 ω) := by
  refine kMetI.of (by decide +kernel) (Nat.le_of_ble_eq_true rfl) (Or.inl rfl) ?_
  intro p e s m args below meth c Q ls S hR hw hl
  have hl : lv_has ls 3 [(0, .ref (ead E 0)), (1, .int a1), (2, .int a2)] := hl
  unfold fX4_reading at hF
  refine lv_aload_n S.1 S.2.1 dX4_reading_0 rfl (lv_at hl 0 rfl) ?_
  refine lv_iload_n S.1 S.2.1 dX4_reading_1 rfl (lv_at hl 1 rfl) ?_
  obtain ⟨r3, σ2, e1, hF⟩ := kbi_e hF
  refine kcX4_isPerson S hw cv_X4_95 ⟨Nat.le_of_ble_eq_true rfl, Nat.le_of_ble_eq_true rfl⟩ e1 hl.1 (Nat.le_of_ble_eq_true rfl) dX4_reading_2 (fun H locs hw hz4 => ?_)
  refine lv_if_ne (tgt := 10) S.1 S.2.1 dX4_reading_5 (by decide) (fun c5 => ?_) (fun c5 => ?_)
  · replace hF := kif hF c5
    refine lv_aload_n S.1 S.2.1 dX4_reading_10 rfl (lv_at hl 0 rfl) ?_
    refine lv_iload_n S.1 S.2.1 dX4_reading_11 rfl (lv_at hl 2 rfl) ?_
    obtain ⟨r8, σ7, e6, hF⟩ := kbi_e hF
    refine kcX4_isPerson S hw cv_X4_95 ⟨Nat.le_of_ble_eq_true rfl, Nat.le_of_ble_eq_true rfl⟩ e6 hl.1 (Nat.le_of_ble_eq_true rfl) dX4_reading_12 (fun H locs hw hz9 => ?_)
    refine lv_if_ne (tgt := 26) S.1 S.2.1 dX4_reading_15 (by decide) (fun c10 => ?_) (fun c10 => ?_)
    · replace hF := kif hF c10
      exact wX4_reading_J26 S hR a1 a2 _ _ _ _ hF hw (lv_sub hl [0, 1, 2] rfl)
    · replace hF := kit hF c10
      refine lv_iload_n S.1 S.2.1 dX4_reading_18 rfl (lv_at hl 2 rfl) ?_
      refine lv_bipush (v := (-9)) S.1 S.2.1 dX4_reading_19 (by decide) ?_
      refine lv_icmp_eq (tgt := 26) S.1 S.2.1 dX4_reading_21 (by decide) (fun c11 => ?_) (fun c11 => ?_)
      · replace hF := kit hF c11
        exact wX4_reading_J26 S hR a1 a2 _ _ _ _ hF hw (lv_sub hl [0, 1, 2] rfl)
      · replace hF := kif hF c11
        refine lv_iconst (v := (-1)) S.1 S.2.1 dX4_reading_24 (by decide) ?_
        obtain ⟨rfl, rfl⟩ := kret hF
        exact hR _ _ _ _ dX4_reading_25 hw (fun h => nomatch h)
  · replace hF := kit hF c5
    refine lv_iconst (v := (-1)) S.1 S.2.1 dX4_reading_8 (by decide) ?_
    obtain ⟨rfl, rfl⟩ := kret hF
    exact hR _ _ _ _ dX4_reading_9 hw (fun h => nomatch h)
set_option maxRecDepth 100000 in
theorem kcX4_reading {p : Program} {l : Launch} {e : Env} {R : Room} {s : State} {m : MethodId} {args : Array Value} {below : List Frame} {meth : Method} {c : Code} {H : Heap} {locs : List Loc} {cells slots : Nat} {Q : State → Prop} {cc : ByteArray} {pc : Nat} {ls : Array Slot} {rest : List Value} {E : kE} {σ ω σ1 : kS} {nL index : Nat} {own : String} {r : Int32} (S : CallFix p m c cc nL s args kBIG own) (hw : kWS E s (cmb σ ω) H locs) (cw : kV own RX4 index yX4_reading cX4_reading 3 (some .int) 2) (hR : 2 + 1 ≤ R.frames ∧ 8 + (3 + 11) + 40 * 2 ≤ R.locals) {a1 : Int32} {a2 : Int32}  (hF : fX4_reading a1 a2 σ = some (r, σ1)) (hls : ls.size = nL) (hW : (rest.map fun v => v.category).sum ≤ 8) (hdg : decode cc pc = .ok (.invokevirtual index, 3)) (kk : ∀ (H1 : Heap) (locs1 : List Loc), kWS E s (cmb σ1 ω) H1 locs1 → W p l e R s m args below meth c H1 locs1 cells slots Q (F0 m (pc + 3) ls (.int r :: rest))) (hf : cells ≤ R.cells ∧ slots ≤ R.slots := by exact ⟨Nat.le_of_ble_eq_true rfl, Nat.le_of_ble_eq_true rfl⟩) : W p l e R s m args below meth c H locs cells slots Q (F0 m pc ls (.int a2 :: .int a1 :: .ref (ead E 0) :: rest)) := kr_calli (mc := 0) (y := yX4_reading) (b := cX4_reading) (n := 0) (lv := 0) (As := []) (ret := some .int) hw (kr_runV (As := [.int a1, .int a2]) (q := 0) S hw ((mX4_reading (l := l) (E := E) (ω := ω) hF) H.size) cw hR rfl (by decide) rfl rfl hls _ rfl hW hdg hf) (fun H1 locs1 h _ => kk H1 locs1 h)
set_option maxHeartbeats 4000000 in
set_option maxRecDepth 100000 in
theorem mX4_back {l : Launch} {E : kE} {ω σ σ1 : kS} {r : Int32} {a1 : Int32}  (hF : fX4_back a1 σ = some (r, σ1)) : kMetI l yX4_back cX4_back 2 (some .int) 0 E [.ref (ead E 0), .int a1] (cmb σ ω) r (cmb σ1 ω) := by
  refine kMetI.of (by decide +kernel) (Nat.le_of_ble_eq_true rfl) (Or.inl rfl) ?_
  intro p e s m args below meth c Q ls S hR hw hl
  have hl : lv_has ls 2 [(0, .ref (ead E 0)), (1, .int a1)] := hl
  unfold fX4_back at hF
  refine lv_iload_n S.1 S.2.1 dX4_back_0 rfl (lv_at hl 1 rfl) ?_
  refine lv_if_lt (tgt := 12) S.1 S.2.1 dX4_back_1 (by decide) (fun c1 => ?_) (fun c1 => ?_)
  · replace hF := kit hF c1
    refine lv_bipush (v := (-2)) S.1 S.2.1 dX4_back_12 (by decide) ?_
    obtain ⟨rfl, rfl⟩ := kret hF
    exact hR _ _ _ _ dX4_back_14 hw (fun h => nomatch h)
  · replace hF := kif hF c1
    refine lv_iload_n S.1 S.2.1 dX4_back_4 rfl (lv_at hl 1 rfl) ?_
    refine lv_aload_n S.1 S.2.1 dX4_back_5 rfl (lv_at hl 0 rfl) ?_
    refine gf_X4_86 (q := 0) S hw rfl (Nat.le_of_ble_eq_true rfl) rfl dX4_back_6 ?_
    refine lv_icmp_le (tgt := 15) S.1 S.2.1 dX4_back_9 (by decide) (fun c2 => ?_) (fun c2 => ?_)
    · replace hF := kit hF c2
      refine lv_aload_n S.1 S.2.1 dX4_back_15 rfl (lv_at hl 0 rfl) ?_
      refine lv_dup S.1 S.2.1 dX4_back_16 rfl ?_
      refine gf_X4_86 (q := 0) S hw rfl (Nat.le_of_ble_eq_true rfl) rfl dX4_back_17 ?_
      refine lv_iload_n S.1 S.2.1 dX4_back_20 rfl (lv_at hl 1 rfl) ?_
      refine lv_isub S.1 S.2.1 dX4_back_21 ?_
      refine pf_X4_86 (q := 0) S hw rfl (Nat.le_of_ble_eq_true rfl) rfl dX4_back_22 (fun H locs hw => ?_)
      refine lv_aload_n S.1 S.2.1 dX4_back_25 rfl (lv_at hl 0 rfl) ?_
      refine gf_X4_86 (q := 0) S hw rfl (Nat.le_of_ble_eq_true rfl) rfl dX4_back_26 ?_
      obtain ⟨rfl, rfl⟩ := kret hF
      exact hR _ _ _ _ dX4_back_29 hw (fun h => nomatch h)
    · replace hF := kif hF c2
      refine lv_bipush (v := (-2)) S.1 S.2.1 dX4_back_12 (by decide) ?_
      obtain ⟨rfl, rfl⟩ := kret hF
      exact hR _ _ _ _ dX4_back_14 hw (fun h => nomatch h)
set_option maxRecDepth 100000 in
theorem kcX4_back {p : Program} {l : Launch} {e : Env} {R : Room} {s : State} {m : MethodId} {args : Array Value} {below : List Frame} {meth : Method} {c : Code} {H : Heap} {locs : List Loc} {cells slots : Nat} {Q : State → Prop} {cc : ByteArray} {pc : Nat} {ls : Array Slot} {rest : List Value} {E : kE} {σ ω σ1 : kS} {nL index : Nat} {own : String} {r : Int32} (S : CallFix p m c cc nL s args kBIG own) (hw : kWS E s (cmb σ ω) H locs) (cw : kV own RX4 index yX4_back cX4_back 2 (some .int) 1) (hR : 0 + 1 ≤ R.frames ∧ 8 + (2 + 11) + 40 * 0 ≤ R.locals) {a1 : Int32}  (hF : fX4_back a1 σ = some (r, σ1)) (hls : ls.size = nL) (hW : (rest.map fun v => v.category).sum ≤ 8) (hdg : decode cc pc = .ok (.invokevirtual index, 3)) (kk : ∀ (H1 : Heap) (locs1 : List Loc), kWS E s (cmb σ1 ω) H1 locs1 → W p l e R s m args below meth c H1 locs1 cells slots Q (F0 m (pc + 3) ls (.int r :: rest))) (hf : cells ≤ R.cells ∧ slots ≤ R.slots := by exact ⟨Nat.le_of_ble_eq_true rfl, Nat.le_of_ble_eq_true rfl⟩) : W p l e R s m args below meth c H locs cells slots Q (F0 m pc ls (.int a1 :: .ref (ead E 0) :: rest)) := kr_calli (mc := 0) (y := yX4_back) (b := cX4_back) (n := 0) (lv := 0) (As := []) (ret := some .int) hw (kr_runV (As := [.int a1]) (q := 0) S hw ((mX4_back (l := l) (E := E) (ω := ω) hF) H.size) cw hR rfl (by decide) rfl rfl hls _ rfl hW hdg hf) (fun H1 locs1 h _ => kk H1 locs1 h)
set_option maxHeartbeats 4000000 in
set_option maxRecDepth 100000 in
theorem wX4_readingsHoldInDraft_L2 {p : Program} {l : Launch} {e : Env} {s : State} {m : MethodId} {args : Array Value} {below : List Frame} {meth : Method} {c : Code} {Q : State → Prop} {E : kE} {ω σ1 : kS} {r : Int32} (S : CallFix p m c cX4_readingsHoldInDraft 2 s args kBIG RX4) (hR : kRetI p l e (rml 3) s m args below meth c cX4_readingsHoldInDraft E Q (some .boolean) r (cmb σ1 ω))  : ∀ (n : Nat), ∀ (a1 : Int32) (σ : kS) (H : Heap) (locs : List Loc) (ls : Array Slot), fX4_readingsHoldInDraft_L2 n a1 σ = some (r, σ1) → kWS E s (cmb σ ω) H locs → lv_has ls 2 [(0, .ref (ead E 0)), (1, .int a1)] → W p l e (rml 3) s m args below meth c H locs 0 0 Q (F0 m 2 ls []) := by
  intro n
  induction n with
  | zero =>
    intro a1 σ H locs ls hF hw hl
    exact absurd hF (fun h => nomatch h)
  | succ n ih =>
    intro a1 σ H locs ls hF hw hl
    rw [fX4_readingsHoldInDraft_L2] at hF
    refine lv_iload_n S.1 S.2.1 dX4_readingsHoldInDraft_2 rfl (lv_at hl 1 rfl) ?_
    refine lv_aload_n S.1 S.2.1 dX4_readingsHoldInDraft_3 rfl (lv_at hl 0 rfl) ?_
    refine gf_X4_86 (q := 0) S hw rfl (Nat.le_of_ble_eq_true rfl) rfl dX4_readingsHoldInDraft_4 ?_
    refine lv_icmp_ge (tgt := 40) S.1 S.2.1 dX4_readingsHoldInDraft_7 (by decide) (fun c1 => ?_) (fun c1 => ?_)
    · replace hF := kit hF c1
      refine lv_iconst (v := 1) S.1 S.2.1 dX4_readingsHoldInDraft_40 (by decide) ?_
      obtain ⟨rfl, rfl⟩ := kret hF
      exact hR _ _ _ _ dX4_readingsHoldInDraft_41 hw (fun _ => (Or.inr rfl))
    · replace hF := kif hF c1
      refine lv_aload_n S.1 S.2.1 dX4_readingsHoldInDraft_10 rfl (lv_at hl 0 rfl) ?_
      refine gf_X4_18 (q := 0) S hw rfl (Nat.le_of_ble_eq_true rfl) rfl dX4_readingsHoldInDraft_11 ?_
      refine lv_aload_n S.1 S.2.1 dX4_readingsHoldInDraft_14 rfl (lv_at hl 0 rfl) ?_
      refine gf_X4_35 (q := 0) S hw rfl (Nat.le_of_ble_eq_true rfl) rfl dX4_readingsHoldInDraft_15 ?_
      refine lv_iload_n S.1 S.2.1 dX4_readingsHoldInDraft_18 rfl (lv_at hl 1 rfl) ?_
      obtain ⟨hb2, hF⟩ := kin hF
      refine kx_iald (q := 21) S hw rfl (Nat.le_of_ble_eq_true rfl) hb2 dX4_readingsHoldInDraft_19 ?_
      obtain ⟨r5, σ4, e3, hF⟩ := kbi_e hF
      refine kcX0_goesTo S hw cv_X4_116 ⟨Nat.le_of_ble_eq_true rfl, Nat.le_of_ble_eq_true rfl⟩ isM_6 e3 hl.1 (Nat.le_of_ble_eq_true rfl) dX4_readingsHoldInDraft_20 (fun H locs hw => ?_)
      refine lv_aload_n S.1 S.2.1 dX4_readingsHoldInDraft_23 rfl (lv_at hl 0 rfl) ?_
      refine gf_X4_39 (q := 0) S hw rfl (Nat.le_of_ble_eq_true rfl) rfl dX4_readingsHoldInDraft_24 ?_
      refine lv_iload_n S.1 S.2.1 dX4_readingsHoldInDraft_27 rfl (lv_at hl 1 rfl) ?_
      obtain ⟨hb6, hF⟩ := kin hF
      refine kx_iald (q := 22) S hw rfl (Nat.le_of_ble_eq_true rfl) hb6 dX4_readingsHoldInDraft_28 ?_
      refine lv_icmp_eq (tgt := 34) S.1 S.2.1 dX4_readingsHoldInDraft_29 (by decide) (fun c7 => ?_) (fun c7 => ?_)
      · replace hF := kit hF c7
        obtain ⟨v8, ev8⟩ : ∃ y : Int32, y = a1 + 1 := ⟨_, rfl⟩
        replace hF := klb hF ev8
        refine lv_iinc (v := v8) (lv' := [(1, .int v8), (0, .ref (ead E 0))]) S.1 S.2.1 dX4_readingsHoldInDraft_34 hl (k := 1) rfl (by rw [ev8]; rfl) (by decide) rfl (fun ls hl => ?_)
        refine lv_goto (tgt := 2) S.1 S.2.1 dX4_readingsHoldInDraft_37 (by decide) ?_
        exact ih v8 _ _ _ _ hF hw (lv_sub hl [1, 0] rfl)
      · replace hF := kif hF c7
        refine lv_iconst (v := 0) S.1 S.2.1 dX4_readingsHoldInDraft_32 (by decide) ?_
        obtain ⟨rfl, rfl⟩ := kret hF
        exact hR _ _ _ _ dX4_readingsHoldInDraft_33 hw (fun _ => (Or.inl rfl))
set_option maxHeartbeats 4000000 in
set_option maxRecDepth 100000 in
theorem mX4_readingsHoldInDraft {l : Launch} {E : kE} {ω σ σ1 : kS} {r : Int32}   (hF : fX4_readingsHoldInDraft σ = some (r, σ1)) : kMetI l yX4_readingsHoldInDraft cX4_readingsHoldInDraft 2 (some .boolean) 3 E [.ref (ead E 0)] (cmb σ ω) r (cmb σ1 ω) := by
  refine kMetI.of (by decide +kernel) (Nat.le_of_ble_eq_true rfl) (Or.inr rfl) ?_
  intro p e s m args below meth c Q ls S hR hw hl
  have hl : lv_has ls 2 [(0, .ref (ead E 0))] := hl
  unfold fX4_readingsHoldInDraft at hF
  refine lv_iconst (v := 0) S.1 S.2.1 dX4_readingsHoldInDraft_0 (by decide) ?_
  refine lv_istore_n (lv' := [(1, .int 0), (0, .ref (ead E 0))]) S.1 S.2.1 dX4_readingsHoldInDraft_1 rfl hl (by decide) rfl (fun ls hl => ?_)
  exact wX4_readingsHoldInDraft_L2 S hR 1000 0 _ _ _ _ hF hw (lv_sub hl [1, 0] rfl)
set_option maxRecDepth 100000 in
theorem kcX4_readingsHoldInDraft {p : Program} {l : Launch} {e : Env} {R : Room} {s : State} {m : MethodId} {args : Array Value} {below : List Frame} {meth : Method} {c : Code} {H : Heap} {locs : List Loc} {cells slots : Nat} {Q : State → Prop} {cc : ByteArray} {pc : Nat} {ls : Array Slot} {rest : List Value} {E : kE} {σ ω σ1 : kS} {nL index : Nat} {own : String} {r : Int32} (S : CallFix p m c cc nL s args kBIG own) (hw : kWS E s (cmb σ ω) H locs) (cw : kV own RX4 index yX4_readingsHoldInDraft cX4_readingsHoldInDraft 2 (some .boolean) 0) (hR : 3 + 1 ≤ R.frames ∧ 8 + (2 + 11) + 40 * 3 ≤ R.locals)   (hF : fX4_readingsHoldInDraft σ = some (r, σ1)) (hls : ls.size = nL) (hW : (rest.map fun v => v.category).sum ≤ 8) (hdg : decode cc pc = .ok (.invokevirtual index, 3)) (kk : ∀ (H1 : Heap) (locs1 : List Loc), kWS E s (cmb σ1 ω) H1 locs1 → (((some .boolean) : Option FieldType) = some .boolean → r = 0 ∨ r = 1) → W p l e R s m args below meth c H1 locs1 cells slots Q (F0 m (pc + 3) ls (.int r :: rest))) (hf : cells ≤ R.cells ∧ slots ≤ R.slots := by exact ⟨Nat.le_of_ble_eq_true rfl, Nat.le_of_ble_eq_true rfl⟩) : W p l e R s m args below meth c H locs cells slots Q (F0 m pc ls (.ref (ead E 0) :: rest)) := kr_calli (mc := 0) (y := yX4_readingsHoldInDraft) (b := cX4_readingsHoldInDraft) (n := 0) (lv := 0) (As := []) hw (kr_runV (As := []) (q := 0) S hw ((mX4_readingsHoldInDraft (l := l) (E := E) (ω := ω) hF) H.size) cw hR rfl (by decide) rfl rfl hls _ rfl hW hdg hf) kk
set_option maxHeartbeats 4000000 in
set_option maxRecDepth 100000 in
theorem wX4_bySuchReadings_L27 {p : Program} {l : Launch} {e : Env} {s : State} {m : MethodId} {args : Array Value} {below : List Frame} {meth : Method} {c : Code} {Q : State → Prop} {E : kE} {ω σ1 : kS} {r : Int32} (S : CallFix p m c cX4_bySuchReadings 6 s args kBIG RX4) (hR : kRetI p l e (rml 4) s m args below meth c cX4_bySuchReadings E Q (some .int) r (cmb σ1 ω))  : ∀ (n : Nat), ∀ (q1 : Nat) (a2 : Int32) (a3 : Int32) (a4 : Int32) (a5 : Int32) (hq1 : xA q1 6) (σ : kS) (H : Heap) (locs : List Loc) (ls : Array Slot), fX4_bySuchReadings_L27 n q1 a2 a3 a4 a5 σ = some (r, σ1) → kWS E s (cmb σ ω) H locs → lv_has ls 6 [(0, .ref (ead E 0)), (1, .ref (ead E q1)), (2, .int a2), (3, .int a3), (4, .int a4), (5, .int a5)] → W p l e (rml 4) s m args below meth c H locs 0 0 Q (F0 m 27 ls []) := by
  intro n
  induction n with
  | zero =>
    intro q1 a2 a3 a4 a5 hq1 σ H locs ls hF hw hl
    exact absurd hF (fun h => nomatch h)
  | succ n ih =>
    intro q1 a2 a3 a4 a5 hq1 σ H locs ls hF hw hl
    rw [fX4_bySuchReadings_L27] at hF
    refine lv_iload S.1 S.2.1 dX4_bySuchReadings_27 (lv_at hl 5 rfl) ?_
    refine lv_iload_n S.1 S.2.1 dX4_bySuchReadings_29 rfl (lv_at hl 3 rfl) ?_
    refine lv_icmp_ge (tgt := 60) S.1 S.2.1 dX4_bySuchReadings_30 (by decide) (fun c8 => ?_) (fun c8 => ?_)
    · replace hF := kit hF c8
      refine lv_iload S.1 S.2.1 dX4_bySuchReadings_60 (lv_at hl 4 rfl) ?_
      obtain ⟨rfl, rfl⟩ := kret hF
      exact hR _ _ _ _ dX4_bySuchReadings_62 hw (fun h => nomatch h)
    · replace hF := kif hF c8
      refine lv_aload_n S.1 S.2.1 dX4_bySuchReadings_33 rfl (lv_at hl 1 rfl) ?_
      refine lv_iload_n S.1 S.2.1 dX4_bySuchReadings_34 rfl (lv_at hl 2 rfl) ?_
      refine lv_iload S.1 S.2.1 dX4_bySuchReadings_35 (lv_at hl 5 rfl) ?_
      obtain ⟨hb9, hF⟩ := kin hF
      refine kx_iast (q := q1) S hw hq1.1 hq1.2 hb9 dX4_bySuchReadings_37 (fun H locs hw => ?_)
      refine lv_aload_n S.1 S.2.1 dX4_bySuchReadings_38 rfl (lv_at hl 0 rfl) ?_
      obtain ⟨r12, σ11, e10, hF⟩ := kbi_e hF
      refine kcX4_readingsHoldInDraft S hw cv_X4_251 ⟨Nat.le_of_ble_eq_true rfl, Nat.le_of_ble_eq_true rfl⟩ e10 hl.1 (Nat.le_of_ble_eq_true rfl) dX4_bySuchReadings_39 (fun H locs hw hz13 => ?_)
      refine lv_if_eq (tgt := 54) S.1 S.2.1 dX4_bySuchReadings_42 (by decide) (fun c14 => ?_) (fun c14 => ?_)
      · replace hF := kit hF c14
        obtain ⟨v15, ev15⟩ : ∃ y : Int32, y = a5 + 1 := ⟨_, rfl⟩
        replace hF := klb hF ev15
        refine lv_iinc (v := v15) (lv' := [(5, .int v15), (0, .ref (ead E 0)), (1, .ref (ead E q1)), (2, .int a2), (3, .int a3), (4, .int a4)]) S.1 S.2.1 dX4_bySuchReadings_54 hl (k := 5) rfl (by rw [ev15]; rfl) (by decide) rfl (fun ls hl => ?_)
        refine lv_goto (tgt := 27) S.1 S.2.1 dX4_bySuchReadings_57 (by decide) ?_
        exact ih q1 a2 a3 a4 v15 hq1 _ _ _ _ hF hw (lv_sub hl [1, 2, 3, 4, 5, 0] rfl)
      · replace hF := kif hF c14
        refine lv_iload S.1 S.2.1 dX4_bySuchReadings_45 (lv_at hl 4 rfl) ?_
        refine lv_iconst (v := 1) S.1 S.2.1 dX4_bySuchReadings_47 (by decide) ?_
        refine lv_iload S.1 S.2.1 dX4_bySuchReadings_48 (lv_at hl 5 rfl) ?_
        refine lv_ishl S.1 S.2.1 dX4_bySuchReadings_50 ?_
        refine lv_ior S.1 S.2.1 dX4_bySuchReadings_51 ?_
        refine lv_topi (fun v16 ev16 => ?_)
        replace hF := klb hF ev16
        refine lv_istore (lv' := [(4, .int v16), (0, .ref (ead E 0)), (1, .ref (ead E q1)), (2, .int a2), (3, .int a3), (5, .int a5)]) S.1 S.2.1 dX4_bySuchReadings_52 hl (by decide) rfl (fun ls hl => ?_)
        obtain ⟨v17, ev17⟩ : ∃ y : Int32, y = a5 + 1 := ⟨_, rfl⟩
        replace hF := klb hF ev17
        refine lv_iinc (v := v17) (lv' := [(5, .int v17), (4, .int v16), (0, .ref (ead E 0)), (1, .ref (ead E q1)), (2, .int a2), (3, .int a3)]) S.1 S.2.1 dX4_bySuchReadings_54 hl (k := 5) rfl (by rw [ev17]; rfl) (by decide) rfl (fun ls hl => ?_)
        refine lv_goto (tgt := 27) S.1 S.2.1 dX4_bySuchReadings_57 (by decide) ?_
        exact ih q1 a2 a3 v16 v17 hq1 _ _ _ _ hF hw (lv_sub hl [2, 3, 4, 5, 1, 0] rfl)
set_option maxHeartbeats 4000000 in
set_option maxRecDepth 100000 in
theorem mX4_bySuchReadings {l : Launch} {E : kE} {ω σ σ1 : kS} {r : Int32} {q1 : Nat} {a2 : Int32} {a3 : Int32} (hq1 : xA q1 6) (hF : fX4_bySuchReadings q1 a2 a3 σ = some (r, σ1)) : kMetI l yX4_bySuchReadings cX4_bySuchReadings 6 (some .int) 4 E [.ref (ead E 0), .ref (ead E q1), .int a2, .int a3] (cmb σ ω) r (cmb σ1 ω) := by
  refine kMetI.of (by decide +kernel) (Nat.le_of_ble_eq_true rfl) (Or.inl rfl) ?_
  intro p e s m args below meth c Q ls S hR hw hl
  have hl : lv_has ls 6 [(0, .ref (ead E 0)), (1, .ref (ead E q1)), (2, .int a2), (3, .int a3)] := hl
  unfold fX4_bySuchReadings at hF
  refine lv_aload_n S.1 S.2.1 dX4_bySuchReadings_0 rfl (lv_at hl 0 rfl) ?_
  refine lv_iload_n S.1 S.2.1 dX4_bySuchReadings_1 rfl (lv_at hl 2 rfl) ?_
  obtain ⟨r3, σ2, e1, hF⟩ := kbi_e hF
  refine kcX4_isPerson S hw cv_X4_95 ⟨Nat.le_of_ble_eq_true rfl, Nat.le_of_ble_eq_true rfl⟩ e1 hl.1 (Nat.le_of_ble_eq_true rfl) dX4_bySuchReadings_2 (fun H locs hw hz4 => ?_)
  refine lv_if_ne (tgt := 10) S.1 S.2.1 dX4_bySuchReadings_5 (by decide) (fun c5 => ?_) (fun c5 => ?_)
  · replace hF := kif hF c5
    refine lv_aload_n S.1 S.2.1 dX4_bySuchReadings_10 rfl (lv_at hl 0 rfl) ?_
    refine gf_X4_18 (q := 0) S hw rfl (Nat.le_of_ble_eq_true rfl) rfl dX4_bySuchReadings_11 ?_
    refine lv_aload_n S.1 S.2.1 dX4_bySuchReadings_14 rfl (lv_at hl 0 rfl) ?_
    refine gf_X4_12 (q := 0) S hw rfl (Nat.le_of_ble_eq_true rfl) rfl dX4_bySuchReadings_15 ?_
    obtain ⟨σ7, e6, hF⟩ := kbv_e hF
    refine kcX0_become S hw cv_X4_156 ⟨Nat.le_of_ble_eq_true rfl, Nat.le_of_ble_eq_true rfl⟩ isM_6 isM_1 e6 hl.1 (Nat.le_of_ble_eq_true rfl) dX4_bySuchReadings_18 (fun H locs hw => ?_)
    refine lv_iconst (v := 0) S.1 S.2.1 dX4_bySuchReadings_21 (by decide) ?_
    refine lv_istore (lv' := [(4, .int 0), (0, .ref (ead E 0)), (1, .ref (ead E q1)), (2, .int a2), (3, .int a3)]) S.1 S.2.1 dX4_bySuchReadings_22 hl (by decide) rfl (fun ls hl => ?_)
    refine lv_iconst (v := 0) S.1 S.2.1 dX4_bySuchReadings_24 (by decide) ?_
    refine lv_istore (lv' := [(5, .int 0), (4, .int 0), (0, .ref (ead E 0)), (1, .ref (ead E q1)), (2, .int a2), (3, .int a3)]) S.1 S.2.1 dX4_bySuchReadings_25 hl (by decide) rfl (fun ls hl => ?_)
    exact wX4_bySuchReadings_L27 S hR 1000 q1 a2 a3 0 0 hq1 _ _ _ _ hF hw (lv_sub hl [2, 3, 4, 5, 1, 0] rfl)
  · replace hF := kit hF c5
    refine lv_iconst (v := (-1)) S.1 S.2.1 dX4_bySuchReadings_8 (by decide) ?_
    obtain ⟨rfl, rfl⟩ := kret hF
    exact hR _ _ _ _ dX4_bySuchReadings_9 hw (fun h => nomatch h)
set_option maxRecDepth 100000 in
theorem kcX4_bySuchReadings {p : Program} {l : Launch} {e : Env} {R : Room} {s : State} {m : MethodId} {args : Array Value} {below : List Frame} {meth : Method} {c : Code} {H : Heap} {locs : List Loc} {cells slots : Nat} {Q : State → Prop} {cc : ByteArray} {pc : Nat} {ls : Array Slot} {rest : List Value} {E : kE} {σ ω σ1 : kS} {nL index : Nat} {own : String} {r : Int32} (S : CallFix p m c cc nL s args kBIG own) (hw : kWS E s (cmb σ ω) H locs) (cw : kV own RX4 index yX4_bySuchReadings cX4_bySuchReadings 6 (some .int) 3) (hR : 4 + 1 ≤ R.frames ∧ 8 + (6 + 11) + 40 * 4 ≤ R.locals) {q1 : Nat} {a2 : Int32} {a3 : Int32} (hq1 : xA q1 6) (hF : fX4_bySuchReadings q1 a2 a3 σ = some (r, σ1)) (hls : ls.size = nL) (hW : (rest.map fun v => v.category).sum ≤ 8) (hdg : decode cc pc = .ok (.invokevirtual index, 3)) (kk : ∀ (H1 : Heap) (locs1 : List Loc), kWS E s (cmb σ1 ω) H1 locs1 → W p l e R s m args below meth c H1 locs1 cells slots Q (F0 m (pc + 3) ls (.int r :: rest))) (hf : cells ≤ R.cells ∧ slots ≤ R.slots := by exact ⟨Nat.le_of_ble_eq_true rfl, Nat.le_of_ble_eq_true rfl⟩) : W p l e R s m args below meth c H locs cells slots Q (F0 m pc ls (.int a3 :: .int a2 :: .ref (ead E q1) :: .ref (ead E 0) :: rest)) := kr_calli (mc := 0) (y := yX4_bySuchReadings) (b := cX4_bySuchReadings) (n := 0) (lv := 0) (As := []) (ret := some .int) hw (kr_runV (As := [.ref (ead E q1), .int a2, .int a3]) (q := 0) S hw ((mX4_bySuchReadings (l := l) (E := E) (ω := ω) hq1 hF) H.size) cw hR rfl (by decide) rfl rfl hls _ rfl hW hdg hf) (fun H1 locs1 h _ => kk H1 locs1 h)
set_option maxHeartbeats 4000000 in
set_option maxRecDepth 100000 in
theorem mX4_smells {l : Launch} {E : kE} {ω σ σ1 : kS} {r : Int32} {a1 : Int32}  (hF : fX4_smells a1 σ = some (r, σ1)) : kMetI l yX4_smells cX4_smells 2 (some .int) 5 E [.ref (ead E 0), .int a1] (cmb σ ω) r (cmb σ1 ω) := by
  refine kMetI.of (by decide +kernel) (Nat.le_of_ble_eq_true rfl) (Or.inl rfl) ?_
  intro p e s m args below meth c Q ls S hR hw hl
  have hl : lv_has ls 2 [(0, .ref (ead E 0)), (1, .int a1)] := hl
  unfold fX4_smells at hF
  refine lv_aload_n S.1 S.2.1 dX4_smells_0 rfl (lv_at hl 0 rfl) ?_
  refine lv_aload_n S.1 S.2.1 dX4_smells_1 rfl (lv_at hl 0 rfl) ?_
  refine gf_X4_18 (q := 0) S hw rfl (Nat.le_of_ble_eq_true rfl) rfl dX4_smells_2 ?_
  refine gf_X4_101 (q := 6) S hw rfl (Nat.le_of_ble_eq_true rfl) rfl dX4_smells_5 ?_
  refine lv_iload_n S.1 S.2.1 dX4_smells_8 rfl (lv_at hl 1 rfl) ?_
  refine lv_bipush (v := 8) S.1 S.2.1 dX4_smells_9 (by decide) ?_
  obtain ⟨r3, σ2, e1, hF⟩ := kbi_e hF
  refine kcX4_bySuchReadings S hw cv_X4_171 ⟨Nat.le_of_ble_eq_true rfl, Nat.le_of_ble_eq_true rfl⟩ (⟨rfl, Nat.le_of_ble_eq_true rfl⟩ : xA 8 6) e1 hl.1 (Nat.le_of_ble_eq_true rfl) dX4_smells_11 (fun H locs hw => ?_)
  obtain ⟨rfl, rfl⟩ := kret hF
  exact hR _ _ _ _ dX4_smells_14 hw (fun h => nomatch h)
set_option maxRecDepth 100000 in
theorem kcX4_smells {p : Program} {l : Launch} {e : Env} {R : Room} {s : State} {m : MethodId} {args : Array Value} {below : List Frame} {meth : Method} {c : Code} {H : Heap} {locs : List Loc} {cells slots : Nat} {Q : State → Prop} {cc : ByteArray} {pc : Nat} {ls : Array Slot} {rest : List Value} {E : kE} {σ ω σ1 : kS} {nL index : Nat} {own : String} {r : Int32} (S : CallFix p m c cc nL s args kBIG own) (hw : kWS E s (cmb σ ω) H locs) (cw : kV own RX4 index yX4_smells cX4_smells 2 (some .int) 1) (hR : 5 + 1 ≤ R.frames ∧ 8 + (2 + 11) + 40 * 5 ≤ R.locals) {a1 : Int32}  (hF : fX4_smells a1 σ = some (r, σ1)) (hls : ls.size = nL) (hW : (rest.map fun v => v.category).sum ≤ 8) (hdg : decode cc pc = .ok (.invokevirtual index, 3)) (kk : ∀ (H1 : Heap) (locs1 : List Loc), kWS E s (cmb σ1 ω) H1 locs1 → W p l e R s m args below meth c H1 locs1 cells slots Q (F0 m (pc + 3) ls (.int r :: rest))) (hf : cells ≤ R.cells ∧ slots ≤ R.slots := by exact ⟨Nat.le_of_ble_eq_true rfl, Nat.le_of_ble_eq_true rfl⟩) : W p l e R s m args below meth c H locs cells slots Q (F0 m pc ls (.int a1 :: .ref (ead E 0) :: rest)) := kr_calli (mc := 0) (y := yX4_smells) (b := cX4_smells) (n := 0) (lv := 0) (As := []) (ret := some .int) hw (kr_runV (As := [.int a1]) (q := 0) S hw ((mX4_smells (l := l) (E := E) (ω := ω) hF) H.size) cw hR rfl (by decide) rfl rfl hls _ rfl hW hdg hf) (fun H1 locs1 h _ => kk H1 locs1 h)
set_option maxHeartbeats 4000000 in
set_option maxRecDepth 100000 in
theorem mX4_pasts {l : Launch} {E : kE} {ω σ σ1 : kS} {r : Int32} {a1 : Int32}  (hF : fX4_pasts a1 σ = some (r, σ1)) : kMetI l yX4_pasts cX4_pasts 2 (some .int) 5 E [.ref (ead E 0), .int a1] (cmb σ ω) r (cmb σ1 ω) := by
  refine kMetI.of (by decide +kernel) (Nat.le_of_ble_eq_true rfl) (Or.inl rfl) ?_
  intro p e s m args below meth c Q ls S hR hw hl
  have hl : lv_has ls 2 [(0, .ref (ead E 0)), (1, .int a1)] := hl
  unfold fX4_pasts at hF
  refine lv_aload_n S.1 S.2.1 dX4_pasts_0 rfl (lv_at hl 0 rfl) ?_
  refine lv_aload_n S.1 S.2.1 dX4_pasts_1 rfl (lv_at hl 0 rfl) ?_
  refine gf_X4_18 (q := 0) S hw rfl (Nat.le_of_ble_eq_true rfl) rfl dX4_pasts_2 ?_
  refine gf_X4_104 (q := 6) S hw rfl (Nat.le_of_ble_eq_true rfl) rfl dX4_pasts_5 ?_
  refine lv_iload_n S.1 S.2.1 dX4_pasts_8 rfl (lv_at hl 1 rfl) ?_
  refine lv_bipush (v := 8) S.1 S.2.1 dX4_pasts_9 (by decide) ?_
  obtain ⟨r3, σ2, e1, hF⟩ := kbi_e hF
  refine kcX4_bySuchReadings S hw cv_X4_171 ⟨Nat.le_of_ble_eq_true rfl, Nat.le_of_ble_eq_true rfl⟩ (⟨rfl, Nat.le_of_ble_eq_true rfl⟩ : xA 9 6) e1 hl.1 (Nat.le_of_ble_eq_true rfl) dX4_pasts_11 (fun H locs hw => ?_)
  obtain ⟨rfl, rfl⟩ := kret hF
  exact hR _ _ _ _ dX4_pasts_14 hw (fun h => nomatch h)
set_option maxRecDepth 100000 in
theorem kcX4_pasts {p : Program} {l : Launch} {e : Env} {R : Room} {s : State} {m : MethodId} {args : Array Value} {below : List Frame} {meth : Method} {c : Code} {H : Heap} {locs : List Loc} {cells slots : Nat} {Q : State → Prop} {cc : ByteArray} {pc : Nat} {ls : Array Slot} {rest : List Value} {E : kE} {σ ω σ1 : kS} {nL index : Nat} {own : String} {r : Int32} (S : CallFix p m c cc nL s args kBIG own) (hw : kWS E s (cmb σ ω) H locs) (cw : kV own RX4 index yX4_pasts cX4_pasts 2 (some .int) 1) (hR : 5 + 1 ≤ R.frames ∧ 8 + (2 + 11) + 40 * 5 ≤ R.locals) {a1 : Int32}  (hF : fX4_pasts a1 σ = some (r, σ1)) (hls : ls.size = nL) (hW : (rest.map fun v => v.category).sum ≤ 8) (hdg : decode cc pc = .ok (.invokevirtual index, 3)) (kk : ∀ (H1 : Heap) (locs1 : List Loc), kWS E s (cmb σ1 ω) H1 locs1 → W p l e R s m args below meth c H1 locs1 cells slots Q (F0 m (pc + 3) ls (.int r :: rest))) (hf : cells ≤ R.cells ∧ slots ≤ R.slots := by exact ⟨Nat.le_of_ble_eq_true rfl, Nat.le_of_ble_eq_true rfl⟩) : W p l e R s m args below meth c H locs cells slots Q (F0 m pc ls (.int a1 :: .ref (ead E 0) :: rest)) := kr_calli (mc := 0) (y := yX4_pasts) (b := cX4_pasts) (n := 0) (lv := 0) (As := []) (ret := some .int) hw (kr_runV (As := [.int a1]) (q := 0) S hw ((mX4_pasts (l := l) (E := E) (ω := ω) hF) H.size) cw hR rfl (by decide) rfl rfl hls _ rfl hW hdg hf) (fun H1 locs1 h _ => kk H1 locs1 h)
set_option maxHeartbeats 4000000 in
set_option maxRecDepth 100000 in
theorem mX4_kinds {l : Launch} {E : kE} {ω σ σ1 : kS} {r : Int32} {a1 : Int32}  (hF : fX4_kinds a1 σ = some (r, σ1)) : kMetI l yX4_kinds cX4_kinds 2 (some .int) 5 E [.ref (ead E 0), .int a1] (cmb σ ω) r (cmb σ1 ω) := by
  refine kMetI.of (by decide +kernel) (Nat.le_of_ble_eq_true rfl) (Or.inl rfl) ?_
  intro p e s m args below meth c Q ls S hR hw hl
  have hl : lv_has ls 2 [(0, .ref (ead E 0)), (1, .int a1)] := hl
  unfold fX4_kinds at hF
  refine lv_aload_n S.1 S.2.1 dX4_kinds_0 rfl (lv_at hl 0 rfl) ?_
  refine lv_aload_n S.1 S.2.1 dX4_kinds_1 rfl (lv_at hl 0 rfl) ?_
  refine gf_X4_18 (q := 0) S hw rfl (Nat.le_of_ble_eq_true rfl) rfl dX4_kinds_2 ?_
  refine gf_X4_98 (q := 6) S hw rfl (Nat.le_of_ble_eq_true rfl) rfl dX4_kinds_5 ?_
  refine lv_iload_n S.1 S.2.1 dX4_kinds_8 rfl (lv_at hl 1 rfl) ?_
  refine lv_iconst (v := 3) S.1 S.2.1 dX4_kinds_9 (by decide) ?_
  obtain ⟨r3, σ2, e1, hF⟩ := kbi_e hF
  refine kcX4_bySuchReadings S hw cv_X4_171 ⟨Nat.le_of_ble_eq_true rfl, Nat.le_of_ble_eq_true rfl⟩ (⟨rfl, Nat.le_of_ble_eq_true rfl⟩ : xA 7 6) e1 hl.1 (Nat.le_of_ble_eq_true rfl) dX4_kinds_10 (fun H locs hw => ?_)
  obtain ⟨rfl, rfl⟩ := kret hF
  exact hR _ _ _ _ dX4_kinds_13 hw (fun h => nomatch h)
set_option maxRecDepth 100000 in
theorem kcX4_kinds {p : Program} {l : Launch} {e : Env} {R : Room} {s : State} {m : MethodId} {args : Array Value} {below : List Frame} {meth : Method} {c : Code} {H : Heap} {locs : List Loc} {cells slots : Nat} {Q : State → Prop} {cc : ByteArray} {pc : Nat} {ls : Array Slot} {rest : List Value} {E : kE} {σ ω σ1 : kS} {nL index : Nat} {own : String} {r : Int32} (S : CallFix p m c cc nL s args kBIG own) (hw : kWS E s (cmb σ ω) H locs) (cw : kV own RX4 index yX4_kinds cX4_kinds 2 (some .int) 1) (hR : 5 + 1 ≤ R.frames ∧ 8 + (2 + 11) + 40 * 5 ≤ R.locals) {a1 : Int32}  (hF : fX4_kinds a1 σ = some (r, σ1)) (hls : ls.size = nL) (hW : (rest.map fun v => v.category).sum ≤ 8) (hdg : decode cc pc = .ok (.invokevirtual index, 3)) (kk : ∀ (H1 : Heap) (locs1 : List Loc), kWS E s (cmb σ1 ω) H1 locs1 → W p l e R s m args below meth c H1 locs1 cells slots Q (F0 m (pc + 3) ls (.int r :: rest))) (hf : cells ≤ R.cells ∧ slots ≤ R.slots := by exact ⟨Nat.le_of_ble_eq_true rfl, Nat.le_of_ble_eq_true rfl⟩) : W p l e R s m args below meth c H locs cells slots Q (F0 m pc ls (.int a1 :: .ref (ead E 0) :: rest)) := kr_calli (mc := 0) (y := yX4_kinds) (b := cX4_kinds) (n := 0) (lv := 0) (As := []) (ret := some .int) hw (kr_runV (As := [.int a1]) (q := 0) S hw ((mX4_kinds (l := l) (E := E) (ω := ω) hF) H.size) cw hR rfl (by decide) rfl rfl hls _ rfl hW hdg hf) (fun H1 locs1 h _ => kk H1 locs1 h)
set_option maxHeartbeats 4000000 in
set_option maxRecDepth 100000 in
theorem wX4_smellsByWhichItComes_L15 {p : Program} {l : Launch} {e : Env} {s : State} {m : MethodId} {args : Array Value} {below : List Frame} {meth : Method} {c : Code} {Q : State → Prop} {E : kE} {ω σ1 : kS} {r : Int32} (S : CallFix p m c cX4_smellsByWhichItComes 4 s args kBIG RX4) (hR : kRetI p l e (rml 3) s m args below meth c cX4_smellsByWhichItComes E Q (some .int) r (cmb σ1 ω))  : ∀ (n : Nat), ∀ (a1 : Int32) (a2 : Int32) (a3 : Int32) (σ : kS) (H : Heap) (locs : List Loc) (ls : Array Slot), fX4_smellsByWhichItComes_L15 n a1 a2 a3 σ = some (r, σ1) → kWS E s (cmb σ ω) H locs → lv_has ls 4 [(0, .ref (ead E 0)), (1, .int a1), (2, .int a2), (3, .int a3)] → W p l e (rml 3) s m args below meth c H locs 0 0 Q (F0 m 15 ls []) := by
  intro n
  induction n with
  | zero =>
    intro a1 a2 a3 σ H locs ls hF hw hl
    exact absurd hF (fun h => nomatch h)
  | succ n ih =>
    intro a1 a2 a3 σ H locs ls hF hw hl
    rw [fX4_smellsByWhichItComes_L15] at hF
    refine lv_iload_n S.1 S.2.1 dX4_smellsByWhichItComes_15 rfl (lv_at hl 3 rfl) ?_
    refine lv_bipush (v := 8) S.1 S.2.1 dX4_smellsByWhichItComes_16 (by decide) ?_
    refine lv_icmp_ge (tgt := 52) S.1 S.2.1 dX4_smellsByWhichItComes_18 (by decide) (fun c3 => ?_) (fun c3 => ?_)
    · replace hF := kit hF c3
      refine lv_iload_n S.1 S.2.1 dX4_smellsByWhichItComes_52 rfl (lv_at hl 2 rfl) ?_
      obtain ⟨rfl, rfl⟩ := kret hF
      exact hR _ _ _ _ dX4_smellsByWhichItComes_53 hw (fun h => nomatch h)
    · replace hF := kif hF c3
      refine lv_aload_n S.1 S.2.1 dX4_smellsByWhichItComes_21 rfl (lv_at hl 0 rfl) ?_
      refine gf_X4_18 (q := 0) S hw rfl (Nat.le_of_ble_eq_true rfl) rfl dX4_smellsByWhichItComes_22 ?_
      refine gf_X4_101 (q := 6) S hw rfl (Nat.le_of_ble_eq_true rfl) rfl dX4_smellsByWhichItComes_25 ?_
      refine lv_iload_n S.1 S.2.1 dX4_smellsByWhichItComes_28 rfl (lv_at hl 1 rfl) ?_
      refine lv_iload_n S.1 S.2.1 dX4_smellsByWhichItComes_29 rfl (lv_at hl 3 rfl) ?_
      obtain ⟨hb4, hF⟩ := kin hF
      refine kx_iast (q := 8) S hw rfl (Nat.le_of_ble_eq_true rfl) hb4 dX4_smellsByWhichItComes_30 (fun H locs hw => ?_)
      refine lv_aload_n S.1 S.2.1 dX4_smellsByWhichItComes_31 rfl (lv_at hl 0 rfl) ?_
      refine gf_X4_18 (q := 0) S hw rfl (Nat.le_of_ble_eq_true rfl) rfl dX4_smellsByWhichItComes_32 ?_
      refine lv_iload_n S.1 S.2.1 dX4_smellsByWhichItComes_35 rfl (lv_at hl 1 rfl) ?_
      obtain ⟨r7, σ6, e5, hF⟩ := kbi_e hF
      refine kcX0_goesTo S hw cv_X4_116 ⟨Nat.le_of_ble_eq_true rfl, Nat.le_of_ble_eq_true rfl⟩ isM_6 e5 hl.1 (Nat.le_of_ble_eq_true rfl) dX4_smellsByWhichItComes_36 (fun H locs hw => ?_)
      refine lv_iload_n S.1 S.2.1 dX4_smellsByWhichItComes_39 rfl (lv_at hl 1 rfl) ?_
      refine lv_icmp_ne (tgt := 46) S.1 S.2.1 dX4_smellsByWhichItComes_40 (by decide) (fun c8 => ?_) (fun c8 => ?_)
      · replace hF := kif hF c8
        obtain ⟨v9, ev9⟩ : ∃ y : Int32, y = a3 + 1 := ⟨_, rfl⟩
        replace hF := klb hF ev9
        refine lv_iinc (v := v9) (lv' := [(3, .int v9), (0, .ref (ead E 0)), (1, .int a1), (2, .int a2)]) S.1 S.2.1 dX4_smellsByWhichItComes_46 hl (k := 3) rfl (by rw [ev9]; rfl) (by decide) rfl (fun ls hl => ?_)
        refine lv_goto (tgt := 15) S.1 S.2.1 dX4_smellsByWhichItComes_49 (by decide) ?_
        exact ih a1 a2 v9 _ _ _ _ hF hw (lv_sub hl [1, 2, 3, 0] rfl)
      · replace hF := kit hF c8
        obtain ⟨v10, ev10⟩ : ∃ y : Int32, y = a2 + 1 := ⟨_, rfl⟩
        replace hF := klb hF ev10
        refine lv_iinc (v := v10) (lv' := [(2, .int v10), (0, .ref (ead E 0)), (1, .int a1), (3, .int a3)]) S.1 S.2.1 dX4_smellsByWhichItComes_43 hl (k := 2) rfl (by rw [ev10]; rfl) (by decide) rfl (fun ls hl => ?_)
        obtain ⟨v11, ev11⟩ : ∃ y : Int32, y = a3 + 1 := ⟨_, rfl⟩
        replace hF := klb hF ev11
        refine lv_iinc (v := v11) (lv' := [(3, .int v11), (2, .int v10), (0, .ref (ead E 0)), (1, .int a1)]) S.1 S.2.1 dX4_smellsByWhichItComes_46 hl (k := 3) rfl (by rw [ev11]; rfl) (by decide) rfl (fun ls hl => ?_)
        refine lv_goto (tgt := 15) S.1 S.2.1 dX4_smellsByWhichItComes_49 (by decide) ?_
        exact ih a1 v10 v11 _ _ _ _ hF hw (lv_sub hl [2, 3, 1, 0] rfl)
set_option maxHeartbeats 4000000 in
set_option maxRecDepth 100000 in
theorem mX4_smellsByWhichItComes {l : Launch} {E : kE} {ω σ σ1 : kS} {r : Int32} {a1 : Int32}  (hF : fX4_smellsByWhichItComes a1 σ = some (r, σ1)) : kMetI l yX4_smellsByWhichItComes cX4_smellsByWhichItComes 4 (some .int) 3 E [.ref (ead E 0), .int a1] (cmb σ ω) r (cmb σ1 ω) := by
  refine kMetI.of (by decide +kernel) (Nat.le_of_ble_eq_true rfl) (Or.inl rfl) ?_
  intro p e s m args below meth c Q ls S hR hw hl
  have hl : lv_has ls 4 [(0, .ref (ead E 0)), (1, .int a1)] := hl
  unfold fX4_smellsByWhichItComes at hF
  refine lv_aload_n S.1 S.2.1 dX4_smellsByWhichItComes_0 rfl (lv_at hl 0 rfl) ?_
  refine gf_X4_18 (q := 0) S hw rfl (Nat.le_of_ble_eq_true rfl) rfl dX4_smellsByWhichItComes_1 ?_
  refine lv_aload_n S.1 S.2.1 dX4_smellsByWhichItComes_4 rfl (lv_at hl 0 rfl) ?_
  refine gf_X4_12 (q := 0) S hw rfl (Nat.le_of_ble_eq_true rfl) rfl dX4_smellsByWhichItComes_5 ?_
  obtain ⟨σ2, e1, hF⟩ := kbv_e hF
  refine kcX0_become S hw cv_X4_156 ⟨Nat.le_of_ble_eq_true rfl, Nat.le_of_ble_eq_true rfl⟩ isM_6 isM_1 e1 hl.1 (Nat.le_of_ble_eq_true rfl) dX4_smellsByWhichItComes_8 (fun H locs hw => ?_)
  refine lv_iconst (v := 0) S.1 S.2.1 dX4_smellsByWhichItComes_11 (by decide) ?_
  refine lv_istore_n (lv' := [(2, .int 0), (0, .ref (ead E 0)), (1, .int a1)]) S.1 S.2.1 dX4_smellsByWhichItComes_12 rfl hl (by decide) rfl (fun ls hl => ?_)
  refine lv_iconst (v := 0) S.1 S.2.1 dX4_smellsByWhichItComes_13 (by decide) ?_
  refine lv_istore_n (lv' := [(3, .int 0), (2, .int 0), (0, .ref (ead E 0)), (1, .int a1)]) S.1 S.2.1 dX4_smellsByWhichItComes_14 rfl hl (by decide) rfl (fun ls hl => ?_)
  exact wX4_smellsByWhichItComes_L15 S hR 1000 a1 0 0 _ _ _ _ hF hw (lv_sub hl [2, 3, 1, 0] rfl)
set_option maxRecDepth 100000 in
theorem kcX4_smellsByWhichItComes {p : Program} {l : Launch} {e : Env} {R : Room} {s : State} {m : MethodId} {args : Array Value} {below : List Frame} {meth : Method} {c : Code} {H : Heap} {locs : List Loc} {cells slots : Nat} {Q : State → Prop} {cc : ByteArray} {pc : Nat} {ls : Array Slot} {rest : List Value} {E : kE} {σ ω σ1 : kS} {nL index : Nat} {own : String} {r : Int32} (S : CallFix p m c cc nL s args kBIG own) (hw : kWS E s (cmb σ ω) H locs) (cw : kV own RX4 index yX4_smellsByWhichItComes cX4_smellsByWhichItComes 4 (some .int) 1) (hR : 3 + 1 ≤ R.frames ∧ 8 + (4 + 11) + 40 * 3 ≤ R.locals) {a1 : Int32}  (hF : fX4_smellsByWhichItComes a1 σ = some (r, σ1)) (hls : ls.size = nL) (hW : (rest.map fun v => v.category).sum ≤ 8) (hdg : decode cc pc = .ok (.invokevirtual index, 3)) (kk : ∀ (H1 : Heap) (locs1 : List Loc), kWS E s (cmb σ1 ω) H1 locs1 → W p l e R s m args below meth c H1 locs1 cells slots Q (F0 m (pc + 3) ls (.int r :: rest))) (hf : cells ≤ R.cells ∧ slots ≤ R.slots := by exact ⟨Nat.le_of_ble_eq_true rfl, Nat.le_of_ble_eq_true rfl⟩) : W p l e R s m args below meth c H locs cells slots Q (F0 m pc ls (.int a1 :: .ref (ead E 0) :: rest)) := kr_calli (mc := 0) (y := yX4_smellsByWhichItComes) (b := cX4_smellsByWhichItComes) (n := 0) (lv := 0) (As := []) (ret := some .int) hw (kr_runV (As := [.int a1]) (q := 0) S hw ((mX4_smellsByWhichItComes (l := l) (E := E) (ω := ω) hF) H.size) cw hR rfl (by decide) rfl rfl hls _ rfl hW hdg hf) (fun H1 locs1 h _ => kk H1 locs1 h)
set_option maxHeartbeats 4000000 in
set_option maxRecDepth 100000 in
theorem wX4_odds_L30 {p : Program} {l : Launch} {e : Env} {s : State} {m : MethodId} {args : Array Value} {below : List Frame} {meth : Method} {c : Code} {Q : State → Prop} {E : kE} {ω σ1 : kS} {r : Int64} (S : CallFix p m c cX4_odds 5 s args kBIG RX4) (hR : kRetL p l e (rml 4) s m args below meth c cX4_odds E Q r (cmb σ1 ω))  : ∀ (n : Nat), ∀ (a2 : Int32) (a3 : Int32) (a4 : Int32) (σ : kS) (H : Heap) (locs : List Loc) (ls : Array Slot), fX4_odds_L30 n a2 a3 a4 σ = some (r, σ1) → kWS E s (cmb σ ω) H locs → lv_has ls 5 [(2, .int a2), (3, .int a3), (4, .int a4)] → W p l e (rml 4) s m args below meth c H locs 0 0 Q (F0 m 30 ls []) := by
  intro n
  induction n with
  | zero =>
    intro a2 a3 a4 σ H locs ls hF hw hl
    exact absurd hF (fun h => nomatch h)
  | succ n ih =>
    intro a2 a3 a4 σ H locs ls hF hw hl
    rw [fX4_odds_L30] at hF
    refine lv_iload S.1 S.2.1 dX4_odds_30 (lv_at hl 2 rfl) ?_
    refine lv_iconst (v := 1) S.1 S.2.1 dX4_odds_32 (by decide) ?_
    refine lv_icmp_le (tgt := 55) S.1 S.2.1 dX4_odds_33 (by decide) (fun c14 => ?_) (fun c14 => ?_)
    · replace hF := kit hF c14
      refine lv_iload_n S.1 S.2.1 dX4_odds_55 rfl (lv_at hl 0 rfl) ?_
      refine lv_if_ne (tgt := 64) S.1 S.2.1 dX4_odds_56 (by decide) (fun c15 => ?_) (fun c15 => ?_)
      · replace hF := kif hF c15
        refine lv_iload S.1 S.2.1 dX4_odds_64 (lv_at hl 2 rfl) ?_
        refine lv_i2l S.1 S.2.1 dX4_odds_66 rfl ?_
        obtain ⟨rfl, rfl⟩ := kret hF
        exact hR _ _ _ _ dX4_odds_67 hw
      · replace hF := kit hF c15
        refine lv_iload_n S.1 S.2.1 dX4_odds_59 rfl (lv_at hl 1 rfl) ?_
        refine lv_i2l S.1 S.2.1 dX4_odds_60 rfl ?_
        refine lv_goto (tgt := 67) S.1 S.2.1 dX4_odds_61 (by decide) ?_
        obtain ⟨rfl, rfl⟩ := kret hF
        exact hR _ _ _ _ dX4_odds_67 hw
    · replace hF := kif hF c14
      refine lv_iload_n S.1 S.2.1 dX4_odds_36 rfl (lv_at hl 1 rfl) ?_
      refine lv_iconst (v := 2) S.1 S.2.1 dX4_odds_37 (by decide) ?_
      refine lv_irem S.1 S.2.1 dX4_odds_38 (by decide) ?_
      refine lv_if_ne (tgt := 55) S.1 S.2.1 dX4_odds_39 (by decide) (fun c16 => ?_) (fun c16 => ?_)
      · replace hF := kif hF c16
        refine lv_iload_n S.1 S.2.1 dX4_odds_55 rfl (lv_at hl 0 rfl) ?_
        refine lv_if_ne (tgt := 64) S.1 S.2.1 dX4_odds_56 (by decide) (fun c17 => ?_) (fun c17 => ?_)
        · replace hF := kif hF c17
          refine lv_iload S.1 S.2.1 dX4_odds_64 (lv_at hl 2 rfl) ?_
          refine lv_i2l S.1 S.2.1 dX4_odds_66 rfl ?_
          obtain ⟨rfl, rfl⟩ := kret hF
          exact hR _ _ _ _ dX4_odds_67 hw
        · replace hF := kit hF c17
          refine lv_iload_n S.1 S.2.1 dX4_odds_59 rfl (lv_at hl 1 rfl) ?_
          refine lv_i2l S.1 S.2.1 dX4_odds_60 rfl ?_
          refine lv_goto (tgt := 67) S.1 S.2.1 dX4_odds_61 (by decide) ?_
          obtain ⟨rfl, rfl⟩ := kret hF
          exact hR _ _ _ _ dX4_odds_67 hw
      · replace hF := kit hF c16
        refine lv_iload_n S.1 S.2.1 dX4_odds_42 rfl (lv_at hl 1 rfl) ?_
        refine lv_iconst (v := 2) S.1 S.2.1 dX4_odds_43 (by decide) ?_
        refine lv_idiv S.1 S.2.1 dX4_odds_44 (by decide) ?_
        refine lv_topi (fun v18 ev18 => ?_)
        replace hF := klb hF ev18
        refine lv_istore_n (lv' := [(3, .int v18), (2, .int a2), (4, .int a4)]) S.1 S.2.1 dX4_odds_45 rfl hl (by decide) rfl (fun ls hl => ?_)
        refine lv_iload S.1 S.2.1 dX4_odds_46 (lv_at hl 2 rfl) ?_
        refine lv_iconst (v := 2) S.1 S.2.1 dX4_odds_48 (by decide) ?_
        refine lv_idiv S.1 S.2.1 dX4_odds_49 (by decide) ?_
        refine lv_topi (fun v19 ev19 => ?_)
        replace hF := klb hF ev19
        refine lv_istore (lv' := [(4, .int v19), (3, .int v18), (2, .int a2)]) S.1 S.2.1 dX4_odds_50 hl (by decide) rfl (fun ls hl => ?_)
        refine lv_goto (tgt := 30) S.1 S.2.1 dX4_odds_52 (by decide) ?_
        exact ih a2 v18 v19 _ _ _ _ hF hw (lv_sub hl [2, 1, 0] rfl)
set_option maxHeartbeats 4000000 in
set_option maxRecDepth 100000 in
theorem mX4_odds {l : Launch} {E : kE} {ω σ σ1 : kS} {r : Int64} {a1 : Int32} {a2 : Int32}  (hF : fX4_odds a1 a2 σ = some (r, σ1)) : kMetL l yX4_odds cX4_odds 5 4 E [.ref (ead E 0), .int a1, .int a2] (cmb σ ω) r (cmb σ1 ω) := by
  refine kMetL.of (by decide +kernel) (Nat.le_of_ble_eq_true rfl) ?_
  intro p e s m args below meth c Q ls S hR hw hl
  have hl : lv_has ls 5 [(0, .ref (ead E 0)), (1, .int a1), (2, .int a2)] := hl
  unfold fX4_odds at hF
  refine lv_aload_n S.1 S.2.1 dX4_odds_0 rfl (lv_at hl 0 rfl) ?_
  refine lv_iload_n S.1 S.2.1 dX4_odds_1 rfl (lv_at hl 1 rfl) ?_
  obtain ⟨r3, σ2, e1, hF⟩ := kbi_e hF
  refine kcX4_isPerson S hw cv_X4_95 ⟨Nat.le_of_ble_eq_true rfl, Nat.le_of_ble_eq_true rfl⟩ e1 hl.1 (Nat.le_of_ble_eq_true rfl) dX4_odds_2 (fun H locs hw hz4 => ?_)
  refine lv_if_eq (tgt := 16) S.1 S.2.1 dX4_odds_5 (by decide) (fun c5 => ?_) (fun c5 => ?_)
  · replace hF := kit hF c5
    refine lv_ldc2 (v := (-9223372036854775808)) S.1 S.2.1 S.2.2.2.1 (S.2.2.2.2 _ q2_130) dX4_odds_16 ?_
    obtain ⟨rfl, rfl⟩ := kret hF
    exact hR _ _ _ _ dX4_odds_19 hw
  · replace hF := kif hF c5
    refine lv_iload_n S.1 S.2.1 dX4_odds_8 rfl (lv_at hl 2 rfl) ?_
    refine lv_iconst (v := 2) S.1 S.2.1 dX4_odds_9 (by decide) ?_
    obtain ⟨r8, σ7, e6, hF⟩ := kbi_e hF
    refine kcX4_isBelow S hw cv_X4_59 ⟨Nat.le_of_ble_eq_true rfl, Nat.le_of_ble_eq_true rfl⟩ e6 hl.1 (Nat.le_of_ble_eq_true rfl) dX4_odds_10 (fun H locs hw hz9 => ?_)
    refine lv_if_ne (tgt := 20) S.1 S.2.1 dX4_odds_13 (by decide) (fun c10 => ?_) (fun c10 => ?_)
    · replace hF := kif hF c10
      refine lv_aload_n S.1 S.2.1 dX4_odds_20 rfl (lv_at hl 0 rfl) ?_
      refine lv_iload_n S.1 S.2.1 dX4_odds_21 rfl (lv_at hl 1 rfl) ?_
      obtain ⟨r13, σ12, e11, hF⟩ := kbi_e hF
      refine kcX4_smellsByWhichItComes S hw cv_X4_176 ⟨Nat.le_of_ble_eq_true rfl, Nat.le_of_ble_eq_true rfl⟩ e11 hl.1 (Nat.le_of_ble_eq_true rfl) dX4_odds_22 (fun H locs hw => ?_)
      refine lv_istore_n (lv' := [(3, .int r13), (0, .ref (ead E 0)), (1, .int a1), (2, .int a2)]) S.1 S.2.1 dX4_odds_25 rfl hl (by decide) rfl (fun ls hl => ?_)
      refine lv_bipush (v := 8) S.1 S.2.1 dX4_odds_26 (by decide) ?_
      refine lv_istore (lv' := [(4, .int 8), (3, .int r13), (0, .ref (ead E 0)), (1, .int a1), (2, .int a2)]) S.1 S.2.1 dX4_odds_28 hl (by decide) rfl (fun ls hl => ?_)
      exact wX4_odds_L30 S hR 1000 a2 r13 8 _ _ _ _ hF hw (lv_sub hl [4, 1, 0] rfl)
    · replace hF := kit hF c10
      refine lv_ldc2 (v := (-9223372036854775808)) S.1 S.2.1 S.2.2.2.1 (S.2.2.2.2 _ q2_130) dX4_odds_16 ?_
      obtain ⟨rfl, rfl⟩ := kret hF
      exact hR _ _ _ _ dX4_odds_19 hw
set_option maxRecDepth 100000 in
theorem kcX4_odds {p : Program} {l : Launch} {e : Env} {R : Room} {s : State} {m : MethodId} {args : Array Value} {below : List Frame} {meth : Method} {c : Code} {H : Heap} {locs : List Loc} {cells slots : Nat} {Q : State → Prop} {cc : ByteArray} {pc : Nat} {ls : Array Slot} {rest : List Value} {E : kE} {σ ω σ1 : kS} {nL index : Nat} {own : String} {r : Int64} (S : CallFix p m c cc nL s args kBIG own) (hw : kWS E s (cmb σ ω) H locs) (cw : kV own RX4 index yX4_odds cX4_odds 5 (some .long) 2) (hR : 4 + 1 ≤ R.frames ∧ 8 + (5 + 11) + 40 * 4 ≤ R.locals) {a1 : Int32} {a2 : Int32}  (hF : fX4_odds a1 a2 σ = some (r, σ1)) (hls : ls.size = nL) (hW : (rest.map fun v => v.category).sum ≤ 8) (hdg : decode cc pc = .ok (.invokevirtual index, 3)) (kk : ∀ (H1 : Heap) (locs1 : List Loc), kWS E s (cmb σ1 ω) H1 locs1 → W p l e R s m args below meth c H1 locs1 cells slots Q (F0 m (pc + 3) ls (.long r :: rest))) (hf : cells ≤ R.cells ∧ slots ≤ R.slots := by exact ⟨Nat.le_of_ble_eq_true rfl, Nat.le_of_ble_eq_true rfl⟩) : W p l e R s m args below meth c H locs cells slots Q (F0 m pc ls (.int a2 :: .int a1 :: .ref (ead E 0) :: rest)) := kr_calll hw (kr_runV (As := [.int a1, .int a2]) (q := 0) S hw ((mX4_odds (l := l) (E := E) (ω := ω) hF) H.size) cw hR rfl (by decide) rfl rfl hls _ rfl hW hdg hf) kk
set_option maxHeartbeats 4000000 in
set_option maxRecDepth 100000 in
theorem mX4_sheet {l : Launch} {E : kE} {ω σ σ1 : kS} {r : Int32} {a1 : Int32} {a2 : Int32} {a3 : Int32}  (hF : fX4_sheet a1 a2 a3 σ = some (r, σ1)) : kMetI l yX4_sheet cX4_sheet 4 (some .int) 2 E [.ref (ead E 0), .int a1, .int a2, .int a3] (cmb σ ω) r (cmb σ1 ω) := by
  refine kMetI.of (by decide +kernel) (Nat.le_of_ble_eq_true rfl) (Or.inl rfl) ?_
  intro p e s m args below meth c Q ls S hR hw hl
  have hl : lv_has ls 4 [(0, .ref (ead E 0)), (1, .int a1), (2, .int a2), (3, .int a3)] := hl
  unfold fX4_sheet at hF
  refine lv_aload_n S.1 S.2.1 dX4_sheet_0 rfl (lv_at hl 0 rfl) ?_
  refine lv_iconst (v := 0) S.1 S.2.1 dX4_sheet_1 (by decide) ?_
  refine pf_X4_51 (q := 0) S hw rfl (Nat.le_of_ble_eq_true rfl) rfl dX4_sheet_2 (fun H locs hw => ?_)
  refine lv_iload_n S.1 S.2.1 dX4_sheet_5 rfl (lv_at hl 1 rfl) ?_
  obtain ⟨r3, σ2, e1, hF⟩ := kbi_e hF
  refine kcX4_isSheet S hw cv_X4_55 ⟨Nat.le_of_ble_eq_true rfl, Nat.le_of_ble_eq_true rfl⟩ e1 hl.1 (Nat.le_of_ble_eq_true rfl) dX4_sheet_6 (fun H locs hw hz4 => ?_)
  refine lv_if_ne (tgt := 14) S.1 S.2.1 dX4_sheet_9 (by decide) (fun c5 => ?_) (fun c5 => ?_)
  · replace hF := kif hF c5
    refine lv_iload_n S.1 S.2.1 dX4_sheet_14 rfl (lv_at hl 2 rfl) ?_
    refine lv_iconst (v := 3) S.1 S.2.1 dX4_sheet_15 (by decide) ?_
    obtain ⟨r8, σ7, e6, hF⟩ := kbi_e hF
    refine kcX4_isBelow S hw cv_X4_59 ⟨Nat.le_of_ble_eq_true rfl, Nat.le_of_ble_eq_true rfl⟩ e6 hl.1 (Nat.le_of_ble_eq_true rfl) dX4_sheet_16 (fun H locs hw hz9 => ?_)
    refine lv_if_eq (tgt := 28) S.1 S.2.1 dX4_sheet_19 (by decide) (fun c10 => ?_) (fun c10 => ?_)
    · replace hF := kit hF c10
      refine lv_bipush (v := (-2)) S.1 S.2.1 dX4_sheet_28 (by decide) ?_
      obtain ⟨rfl, rfl⟩ := kret hF
      exact hR _ _ _ _ dX4_sheet_30 hw (fun h => nomatch h)
    · replace hF := kif hF c10
      refine lv_iload_n S.1 S.2.1 dX4_sheet_22 rfl (lv_at hl 3 rfl) ?_
      refine lv_bipush (v := 60) S.1 S.2.1 dX4_sheet_23 (by decide) ?_
      refine lv_icmp_le (tgt := 31) S.1 S.2.1 dX4_sheet_25 (by decide) (fun c11 => ?_) (fun c11 => ?_)
      · replace hF := kit hF c11
        refine lv_iload_n S.1 S.2.1 dX4_sheet_31 rfl (lv_at hl 3 rfl) ?_
        refine lv_if_ge (tgt := 41) S.1 S.2.1 dX4_sheet_32 (by decide) (fun c12 => ?_) (fun c12 => ?_)
        · replace hF := kit hF c12
          refine lv_aload_n S.1 S.2.1 dX4_sheet_41 rfl (lv_at hl 0 rfl) ?_
          refine gf_X4_23 (q := 0) S hw rfl (Nat.le_of_ble_eq_true rfl) rfl dX4_sheet_42 ?_
          refine lv_iload_n S.1 S.2.1 dX4_sheet_45 rfl (lv_at hl 1 rfl) ?_
          obtain ⟨hb13, hF⟩ := kin hF
          have hs14 := isSh_k _ (inb_lt hb13)
          refine kr_aald S hw hb13 dX4_sheet_46 ?_
          refine lv_iload_n S.1 S.2.1 dX4_sheet_47 rfl (lv_at hl 2 rfl) ?_
          refine lv_iload_n S.1 S.2.1 dX4_sheet_48 rfl (lv_at hl 3 rfl) ?_
          obtain ⟨σ16, e15, hF⟩ := kbv_e hF
          refine kcX1_begin S hw cv_X4_179 ⟨Nat.le_of_ble_eq_true rfl, Nat.le_of_ble_eq_true rfl⟩ hs14 e15 hl.1 (Nat.le_of_ble_eq_true rfl) dX4_sheet_49 (fun H locs hw => ?_)
          refine lv_iconst (v := 1) S.1 S.2.1 dX4_sheet_52 (by decide) ?_
          obtain ⟨rfl, rfl⟩ := kret hF
          exact hR _ _ _ _ dX4_sheet_53 hw (fun h => nomatch h)
        · replace hF := kif hF c12
          refine lv_aload_n S.1 S.2.1 dX4_sheet_35 rfl (lv_at hl 0 rfl) ?_
          refine lv_iconst (v := 4) S.1 S.2.1 dX4_sheet_36 (by decide) ?_
          obtain ⟨r19, σ18, e17, hF⟩ := kbi_e hF
          refine kcX4_faulted S hw cv_X4_70 ⟨Nat.le_of_ble_eq_true rfl, Nat.le_of_ble_eq_true rfl⟩ e17 hl.1 (Nat.le_of_ble_eq_true rfl) dX4_sheet_37 (fun H locs hw => ?_)
          obtain ⟨rfl, rfl⟩ := kret hF
          exact hR _ _ _ _ dX4_sheet_40 hw (fun h => nomatch h)
      · replace hF := kif hF c11
        refine lv_bipush (v := (-2)) S.1 S.2.1 dX4_sheet_28 (by decide) ?_
        obtain ⟨rfl, rfl⟩ := kret hF
        exact hR _ _ _ _ dX4_sheet_30 hw (fun h => nomatch h)
  · replace hF := kit hF c5
    refine lv_iconst (v := (-1)) S.1 S.2.1 dX4_sheet_12 (by decide) ?_
    obtain ⟨rfl, rfl⟩ := kret hF
    exact hR _ _ _ _ dX4_sheet_13 hw (fun h => nomatch h)
set_option maxRecDepth 100000 in
theorem kcX4_sheet {p : Program} {l : Launch} {e : Env} {R : Room} {s : State} {m : MethodId} {args : Array Value} {below : List Frame} {meth : Method} {c : Code} {H : Heap} {locs : List Loc} {cells slots : Nat} {Q : State → Prop} {cc : ByteArray} {pc : Nat} {ls : Array Slot} {rest : List Value} {E : kE} {σ ω σ1 : kS} {nL index : Nat} {own : String} {r : Int32} (S : CallFix p m c cc nL s args kBIG own) (hw : kWS E s (cmb σ ω) H locs) (cw : kV own RX4 index yX4_sheet cX4_sheet 4 (some .int) 3) (hR : 2 + 1 ≤ R.frames ∧ 8 + (4 + 11) + 40 * 2 ≤ R.locals) {a1 : Int32} {a2 : Int32} {a3 : Int32}  (hF : fX4_sheet a1 a2 a3 σ = some (r, σ1)) (hls : ls.size = nL) (hW : (rest.map fun v => v.category).sum ≤ 8) (hdg : decode cc pc = .ok (.invokevirtual index, 3)) (kk : ∀ (H1 : Heap) (locs1 : List Loc), kWS E s (cmb σ1 ω) H1 locs1 → W p l e R s m args below meth c H1 locs1 cells slots Q (F0 m (pc + 3) ls (.int r :: rest))) (hf : cells ≤ R.cells ∧ slots ≤ R.slots := by exact ⟨Nat.le_of_ble_eq_true rfl, Nat.le_of_ble_eq_true rfl⟩) : W p l e R s m args below meth c H locs cells slots Q (F0 m pc ls (.int a3 :: .int a2 :: .int a1 :: .ref (ead E 0) :: rest)) := kr_calli (mc := 0) (y := yX4_sheet) (b := cX4_sheet) (n := 0) (lv := 0) (As := []) (ret := some .int) hw (kr_runV (As := [.int a1, .int a2, .int a3]) (q := 0) S hw ((mX4_sheet (l := l) (E := E) (ω := ω) hF) H.size) cw hR rfl (by decide) rfl rfl hls _ rfl hW hdg hf) (fun H1 locs1 h _ => kk H1 locs1 h)
set_option maxHeartbeats 4000000 in
set_option maxRecDepth 100000 in
theorem mX4_lose {l : Launch} {E : kE} {ω σ σ1 : kS} {r : Int32} {a1 : Int32}  (hF : fX4_lose a1 σ = some (r, σ1)) : kMetI l yX4_lose cX4_lose 3 (some .int) 2 E [.ref (ead E 0), .int a1] (cmb σ ω) r (cmb σ1 ω) := by
  refine kMetI.of (by decide +kernel) (Nat.le_of_ble_eq_true rfl) (Or.inl rfl) ?_
  intro p e s m args below meth c Q ls S hR hw hl
  have hl : lv_has ls 3 [(0, .ref (ead E 0)), (1, .int a1)] := hl
  unfold fX4_lose at hF
  refine lv_iload_n S.1 S.2.1 dX4_lose_0 rfl (lv_at hl 1 rfl) ?_
  obtain ⟨r3, σ2, e1, hF⟩ := kbi_e hF
  refine kcX4_isSheet S hw cv_X4_55 ⟨Nat.le_of_ble_eq_true rfl, Nat.le_of_ble_eq_true rfl⟩ e1 hl.1 (Nat.le_of_ble_eq_true rfl) dX4_lose_1 (fun H locs hw hz4 => ?_)
  refine lv_if_ne (tgt := 9) S.1 S.2.1 dX4_lose_4 (by decide) (fun c5 => ?_) (fun c5 => ?_)
  · replace hF := kif hF c5
    refine lv_aload_n S.1 S.2.1 dX4_lose_9 rfl (lv_at hl 0 rfl) ?_
    refine gf_X4_23 (q := 0) S hw rfl (Nat.le_of_ble_eq_true rfl) rfl dX4_lose_10 ?_
    refine lv_iload_n S.1 S.2.1 dX4_lose_13 rfl (lv_at hl 1 rfl) ?_
    obtain ⟨hb6, hF⟩ := kin hF
    have hs7 := isSh_k _ (inb_lt hb6)
    refine kr_aald S hw hb6 dX4_lose_14 ?_
    refine gf_X4_183 S hw hs7.1 hs7.2.1 rfl dX4_lose_15 ?_
    refine lv_topi (fun v8 ev8 => ?_)
    replace hF := klb hF ev8
    refine lv_istore_n (lv' := [(2, .int v8), (0, .ref (ead E 0)), (1, .int a1)]) S.1 S.2.1 dX4_lose_18 rfl hl (by decide) rfl (fun ls hl => ?_)
    refine lv_aload_n S.1 S.2.1 dX4_lose_19 rfl (lv_at hl 1 rfl) ?_
    refine gf_X4_23 (q := 0) S hw rfl (Nat.le_of_ble_eq_true rfl) rfl dX4_lose_20 ?_
    refine lv_iload_n S.1 S.2.1 dX4_lose_23 rfl (lv_at hl 2 rfl) ?_
    obtain ⟨hb9, hF⟩ := kin hF
    have hs10 := isSh_k _ (inb_lt hb9)
    refine kr_aald S hw hb9 dX4_lose_24 ?_
    refine lv_iconst (v := 0) S.1 S.2.1 dX4_lose_25 (by decide) ?_
    refine pf_X4_183 S hw hs10.1 hs10.2.1 rfl rfl rfl dX4_lose_26 (fun H locs hw => ?_)
    refine lv_iload_n S.1 S.2.1 dX4_lose_29 rfl (lv_at hl 0 rfl) ?_
    refine lv_if_eq (tgt := 37) S.1 S.2.1 dX4_lose_30 (by decide) (fun c11 => ?_) (fun c11 => ?_)
    · replace hF := kit hF c11
      refine lv_iconst (v := 0) S.1 S.2.1 dX4_lose_37 (by decide) ?_
      obtain ⟨rfl, rfl⟩ := kret hF
      exact hR _ _ _ _ dX4_lose_38 hw (fun h => nomatch h)
    · replace hF := kif hF c11
      refine lv_iconst (v := 1) S.1 S.2.1 dX4_lose_33 (by decide) ?_
      refine lv_goto (tgt := 38) S.1 S.2.1 dX4_lose_34 (by decide) ?_
      obtain ⟨rfl, rfl⟩ := kret hF
      exact hR _ _ _ _ dX4_lose_38 hw (fun h => nomatch h)
  · replace hF := kit hF c5
    refine lv_iconst (v := (-1)) S.1 S.2.1 dX4_lose_7 (by decide) ?_
    obtain ⟨rfl, rfl⟩ := kret hF
    exact hR _ _ _ _ dX4_lose_8 hw (fun h => nomatch h)
set_option maxRecDepth 100000 in
theorem kcX4_lose {p : Program} {l : Launch} {e : Env} {R : Room} {s : State} {m : MethodId} {args : Array Value} {below : List Frame} {meth : Method} {c : Code} {H : Heap} {locs : List Loc} {cells slots : Nat} {Q : State → Prop} {cc : ByteArray} {pc : Nat} {ls : Array Slot} {rest : List Value} {E : kE} {σ ω σ1 : kS} {nL index : Nat} {own : String} {r : Int32} (S : CallFix p m c cc nL s args kBIG own) (hw : kWS E s (cmb σ ω) H locs) (cw : kV own RX4 index yX4_lose cX4_lose 3 (some .int) 1) (hR : 2 + 1 ≤ R.frames ∧ 8 + (3 + 11) + 40 * 2 ≤ R.locals) {a1 : Int32}  (hF : fX4_lose a1 σ = some (r, σ1)) (hls : ls.size = nL) (hW : (rest.map fun v => v.category).sum ≤ 8) (hdg : decode cc pc = .ok (.invokevirtual index, 3)) (kk : ∀ (H1 : Heap) (locs1 : List Loc), kWS E s (cmb σ1 ω) H1 locs1 → W p l e R s m args below meth c H1 locs1 cells slots Q (F0 m (pc + 3) ls (.int r :: rest))) (hf : cells ≤ R.cells ∧ slots ≤ R.slots := by exact ⟨Nat.le_of_ble_eq_true rfl, Nat.le_of_ble_eq_true rfl⟩) : W p l e R s m args below meth c H locs cells slots Q (F0 m pc ls (.int a1 :: .ref (ead E 0) :: rest)) := kr_calli (mc := 0) (y := yX4_lose) (b := cX4_lose) (n := 0) (lv := 0) (As := []) (ret := some .int) hw (kr_runV (As := [.int a1]) (q := 0) S hw ((mX4_lose (l := l) (E := E) (ω := ω) hF) H.size) cw hR rfl (by decide) rfl rfl hls _ rfl hW hdg hf) (fun H1 locs1 h _ => kk H1 locs1 h)
set_option maxHeartbeats 4000000 in
set_option maxRecDepth 100000 in
theorem mX4_put {l : Launch} {E : kE} {ω σ σ1 : kS} {r : Int32} {a1 : Int32} {a2 : Int32} {a3 : Int32}  (hF : fX4_put a1 a2 a3 σ = some (r, σ1)) : kMetI l yX4_put cX4_put 5 (some .int) 2 E [.ref (ead E 0), .int a1, .int a2, .int a3] (cmb σ ω) r (cmb σ1 ω) := by
  refine kMetI.of (by decide +kernel) (Nat.le_of_ble_eq_true rfl) (Or.inl rfl) ?_
  intro p e s m args below meth c Q ls S hR hw hl
  have hl : lv_has ls 5 [(0, .ref (ead E 0)), (1, .int a1), (2, .int a2), (3, .int a3)] := hl
  unfold fX4_put at hF
  refine lv_aload_n S.1 S.2.1 dX4_put_0 rfl (lv_at hl 0 rfl) ?_
  refine lv_iconst (v := 0) S.1 S.2.1 dX4_put_1 (by decide) ?_
  refine pf_X4_51 (q := 0) S hw rfl (Nat.le_of_ble_eq_true rfl) rfl dX4_put_2 (fun H locs hw => ?_)
  refine lv_iload_n S.1 S.2.1 dX4_put_5 rfl (lv_at hl 1 rfl) ?_
  obtain ⟨r3, σ2, e1, hF⟩ := kbi_e hF
  refine kcX4_isSheet S hw cv_X4_55 ⟨Nat.le_of_ble_eq_true rfl, Nat.le_of_ble_eq_true rfl⟩ e1 hl.1 (Nat.le_of_ble_eq_true rfl) dX4_put_6 (fun H locs hw hz4 => ?_)
  refine lv_if_ne (tgt := 14) S.1 S.2.1 dX4_put_9 (by decide) (fun c5 => ?_) (fun c5 => ?_)
  · replace hF := kif hF c5
    refine lv_aload_n S.1 S.2.1 dX4_put_14 rfl (lv_at hl 0 rfl) ?_
    refine gf_X4_23 (q := 0) S hw rfl (Nat.le_of_ble_eq_true rfl) rfl dX4_put_15 ?_
    refine lv_iload_n S.1 S.2.1 dX4_put_18 rfl (lv_at hl 1 rfl) ?_
    obtain ⟨hb6, hF⟩ := kin hF
    have hs7 := isSh_k _ (inb_lt hb6)
    refine kr_aald S hw hb6 dX4_put_19 ?_
    refine lv_astore (lv' := [(4, .ref (ead E (12 + Int32.toNatClampNeg a1))), (0, .ref (ead E 0)), (1, .int a1), (2, .int a2), (3, .int a3)]) S.1 S.2.1 dX4_put_20 hl (by decide) rfl (fun ls hl => ?_)
    refine lv_aload S.1 S.2.1 dX4_put_22 (lv_at hl 0 rfl) ?_
    refine gf_X4_183 S hw hs7.1 hs7.2.1 rfl dX4_put_24 ?_
    refine lv_if_ne (tgt := 36) S.1 S.2.1 dX4_put_27 (by decide) (fun c8 => ?_) (fun c8 => ?_)
    · replace hF := kif hF c8
      refine lv_aload S.1 S.2.1 dX4_put_36 (lv_at hl 0 rfl) ?_
      refine lv_iload_n S.1 S.2.1 dX4_put_38 rfl (lv_at hl 3 rfl) ?_
      obtain ⟨r11, σ10, e9, hF⟩ := kbi_e hF
      refine kcX1_hasCell S hw cv_X4_187 ⟨Nat.le_of_ble_eq_true rfl, Nat.le_of_ble_eq_true rfl⟩ hs7 e9 hl.1 (Nat.le_of_ble_eq_true rfl) dX4_put_39 (fun H locs hw hz12 => ?_)
      refine lv_if_ne (tgt := 51) S.1 S.2.1 dX4_put_42 (by decide) (fun c13 => ?_) (fun c13 => ?_)
      · replace hF := kif hF c13
        refine lv_aload S.1 S.2.1 dX4_put_51 (lv_at hl 0 rfl) ?_
        refine lv_iload_n S.1 S.2.1 dX4_put_53 rfl (lv_at hl 3 rfl) ?_
        refine lv_iload_n S.1 S.2.1 dX4_put_54 rfl (lv_at hl 4 rfl) ?_
        obtain ⟨σ15, e14, hF⟩ := kbv_e hF
        refine kcX1_write S hw cv_X4_190 ⟨Nat.le_of_ble_eq_true rfl, Nat.le_of_ble_eq_true rfl⟩ hs7 e14 hl.1 (Nat.le_of_ble_eq_true rfl) dX4_put_55 (fun H locs hw => ?_)
        refine lv_iconst (v := 1) S.1 S.2.1 dX4_put_58 (by decide) ?_
        obtain ⟨rfl, rfl⟩ := kret hF
        exact hR _ _ _ _ dX4_put_59 hw (fun h => nomatch h)
      · replace hF := kit hF c13
        refine lv_aload_n S.1 S.2.1 dX4_put_45 rfl (lv_at hl 1 rfl) ?_
        refine lv_iconst (v := 3) S.1 S.2.1 dX4_put_46 (by decide) ?_
        obtain ⟨r18, σ17, e16, hF⟩ := kbi_e hF
        refine kcX4_faulted S hw cv_X4_70 ⟨Nat.le_of_ble_eq_true rfl, Nat.le_of_ble_eq_true rfl⟩ e16 hl.1 (Nat.le_of_ble_eq_true rfl) dX4_put_47 (fun H locs hw => ?_)
        obtain ⟨rfl, rfl⟩ := kret hF
        exact hR _ _ _ _ dX4_put_50 hw (fun h => nomatch h)
    · replace hF := kit hF c8
      refine lv_aload_n S.1 S.2.1 dX4_put_30 rfl (lv_at hl 1 rfl) ?_
      refine lv_iconst (v := 1) S.1 S.2.1 dX4_put_31 (by decide) ?_
      obtain ⟨r21, σ20, e19, hF⟩ := kbi_e hF
      refine kcX4_faulted S hw cv_X4_70 ⟨Nat.le_of_ble_eq_true rfl, Nat.le_of_ble_eq_true rfl⟩ e19 hl.1 (Nat.le_of_ble_eq_true rfl) dX4_put_32 (fun H locs hw => ?_)
      obtain ⟨rfl, rfl⟩ := kret hF
      exact hR _ _ _ _ dX4_put_35 hw (fun h => nomatch h)
  · replace hF := kit hF c5
    refine lv_iconst (v := (-1)) S.1 S.2.1 dX4_put_12 (by decide) ?_
    obtain ⟨rfl, rfl⟩ := kret hF
    exact hR _ _ _ _ dX4_put_13 hw (fun h => nomatch h)
set_option maxRecDepth 100000 in
theorem kcX4_put {p : Program} {l : Launch} {e : Env} {R : Room} {s : State} {m : MethodId} {args : Array Value} {below : List Frame} {meth : Method} {c : Code} {H : Heap} {locs : List Loc} {cells slots : Nat} {Q : State → Prop} {cc : ByteArray} {pc : Nat} {ls : Array Slot} {rest : List Value} {E : kE} {σ ω σ1 : kS} {nL index : Nat} {own : String} {r : Int32} (S : CallFix p m c cc nL s args kBIG own) (hw : kWS E s (cmb σ ω) H locs) (cw : kV own RX4 index yX4_put cX4_put 5 (some .int) 3) (hR : 2 + 1 ≤ R.frames ∧ 8 + (5 + 11) + 40 * 2 ≤ R.locals) {a1 : Int32} {a2 : Int32} {a3 : Int32}  (hF : fX4_put a1 a2 a3 σ = some (r, σ1)) (hls : ls.size = nL) (hW : (rest.map fun v => v.category).sum ≤ 8) (hdg : decode cc pc = .ok (.invokevirtual index, 3)) (kk : ∀ (H1 : Heap) (locs1 : List Loc), kWS E s (cmb σ1 ω) H1 locs1 → W p l e R s m args below meth c H1 locs1 cells slots Q (F0 m (pc + 3) ls (.int r :: rest))) (hf : cells ≤ R.cells ∧ slots ≤ R.slots := by exact ⟨Nat.le_of_ble_eq_true rfl, Nat.le_of_ble_eq_true rfl⟩) : W p l e R s m args below meth c H locs cells slots Q (F0 m pc ls (.int a3 :: .int a2 :: .int a1 :: .ref (ead E 0) :: rest)) := kr_calli (mc := 0) (y := yX4_put) (b := cX4_put) (n := 0) (lv := 0) (As := []) (ret := some .int) hw (kr_runV (As := [.int a1, .int a2, .int a3]) (q := 0) S hw ((mX4_put (l := l) (E := E) (ω := ω) hF) H.size) cw hR rfl (by decide) rfl rfl hls _ rfl hW hdg hf) (fun H1 locs1 h _ => kk H1 locs1 h)
set_option maxHeartbeats 4000000 in
set_option maxRecDepth 100000 in
theorem mX4_cell {l : Launch} {E : kE} {ω σ σ1 : kS} {r : Int64} {a1 : Int32} {a2 : Int32} {a3 : Int32}  (hF : fX4_cell a1 a2 a3 σ = some (r, σ1)) : kMetL l yX4_cell cX4_cell 5 2 E [.ref (ead E 0), .int a1, .int a2, .int a3] (cmb σ ω) r (cmb σ1 ω) := by
  refine kMetL.of (by decide +kernel) (Nat.le_of_ble_eq_true rfl) ?_
  intro p e s m args below meth c Q ls S hR hw hl
  have hl : lv_has ls 5 [(0, .ref (ead E 0)), (1, .int a1), (2, .int a2), (3, .int a3)] := hl
  unfold fX4_cell at hF
  refine lv_aload_n S.1 S.2.1 dX4_cell_0 rfl (lv_at hl 0 rfl) ?_
  refine lv_iconst (v := 0) S.1 S.2.1 dX4_cell_1 (by decide) ?_
  refine pf_X4_51 (q := 0) S hw rfl (Nat.le_of_ble_eq_true rfl) rfl dX4_cell_2 (fun H locs hw => ?_)
  refine lv_iload_n S.1 S.2.1 dX4_cell_5 rfl (lv_at hl 1 rfl) ?_
  obtain ⟨r3, σ2, e1, hF⟩ := kbi_e hF
  refine kcX4_isSheet S hw cv_X4_55 ⟨Nat.le_of_ble_eq_true rfl, Nat.le_of_ble_eq_true rfl⟩ e1 hl.1 (Nat.le_of_ble_eq_true rfl) dX4_cell_6 (fun H locs hw hz4 => ?_)
  refine lv_if_eq (tgt := 20) S.1 S.2.1 dX4_cell_9 (by decide) (fun c5 => ?_) (fun c5 => ?_)
  · replace hF := kit hF c5
    refine lv_ldc2 (v := (-9223372036854775808)) S.1 S.2.1 S.2.2.2.1 (S.2.2.2.2 _ q2_130) dX4_cell_20 ?_
    obtain ⟨rfl, rfl⟩ := kret hF
    exact hR _ _ _ _ dX4_cell_23 hw
  · replace hF := kif hF c5
    refine lv_iload_n S.1 S.2.1 dX4_cell_12 rfl (lv_at hl 3 rfl) ?_
    refine lv_iconst (v := 3) S.1 S.2.1 dX4_cell_13 (by decide) ?_
    obtain ⟨r8, σ7, e6, hF⟩ := kbi_e hF
    refine kcX4_isBelow S hw cv_X4_59 ⟨Nat.le_of_ble_eq_true rfl, Nat.le_of_ble_eq_true rfl⟩ e6 hl.1 (Nat.le_of_ble_eq_true rfl) dX4_cell_14 (fun H locs hw hz9 => ?_)
    refine lv_if_ne (tgt := 24) S.1 S.2.1 dX4_cell_17 (by decide) (fun c10 => ?_) (fun c10 => ?_)
    · replace hF := kif hF c10
      refine lv_aload_n S.1 S.2.1 dX4_cell_24 rfl (lv_at hl 0 rfl) ?_
      refine gf_X4_23 (q := 0) S hw rfl (Nat.le_of_ble_eq_true rfl) rfl dX4_cell_25 ?_
      refine lv_iload_n S.1 S.2.1 dX4_cell_28 rfl (lv_at hl 1 rfl) ?_
      obtain ⟨hb11, hF⟩ := kin hF
      have hs12 := isSh_k _ (inb_lt hb11)
      refine kr_aald S hw hb11 dX4_cell_29 ?_
      refine lv_astore (lv' := [(4, .ref (ead E (12 + Int32.toNatClampNeg a1))), (0, .ref (ead E 0)), (1, .int a1), (2, .int a2), (3, .int a3)]) S.1 S.2.1 dX4_cell_30 hl (by decide) rfl (fun ls hl => ?_)
      refine lv_aload_n S.1 S.2.1 dX4_cell_32 rfl (lv_at hl 1 rfl) ?_
      refine lv_aload S.1 S.2.1 dX4_cell_33 (lv_at hl 0 rfl) ?_
      refine lv_iload_n S.1 S.2.1 dX4_cell_35 rfl (lv_at hl 4 rfl) ?_
      obtain ⟨r15, σ14, e13, hF⟩ := kbi_e hF
      refine kcX1_faultAs S hw cv_X4_63 ⟨Nat.le_of_ble_eq_true rfl, Nat.le_of_ble_eq_true rfl⟩ hs12 e13 hl.1 (Nat.le_of_ble_eq_true rfl) dX4_cell_36 (fun H locs hw => ?_)
      refine pf_X4_51 (q := 0) S hw rfl (Nat.le_of_ble_eq_true rfl) rfl dX4_cell_39 (fun H locs hw => ?_)
      refine lv_aload_n S.1 S.2.1 dX4_cell_42 rfl (lv_at hl 1 rfl) ?_
      refine gf_X4_51 (q := 0) S hw rfl (Nat.le_of_ble_eq_true rfl) rfl dX4_cell_43 ?_
      refine lv_if_ne (tgt := 63) S.1 S.2.1 dX4_cell_46 (by decide) (fun c16 => ?_) (fun c16 => ?_)
      · replace hF := kif hF c16
        refine lv_aload_n S.1 S.2.1 dX4_cell_63 rfl (lv_at hl 1 rfl) ?_
        refine gf_X4_51 (q := 0) S hw rfl (Nat.le_of_ble_eq_true rfl) rfl dX4_cell_64 ?_
        refine lv_if_ne (tgt := 81) S.1 S.2.1 dX4_cell_67 (by decide) (fun c17 => ?_) (fun c17 => ?_)
        · replace hF := kif hF c17
          refine lv_ldc2 (v := (-9223372036854775808)) S.1 S.2.1 S.2.2.2.1 (S.2.2.2.2 _ q2_130) dX4_cell_81 ?_
          obtain ⟨rfl, rfl⟩ := kret hF
          exact hR _ _ _ _ dX4_cell_84 hw
        · replace hF := kit hF c17
          refine lv_aload S.1 S.2.1 dX4_cell_70 (lv_at hl 0 rfl) ?_
          refine gf_X4_73 S hw hs12.1 hs12.2.1 rfl dX4_cell_72 ?_
          refine lv_iload_n S.1 S.2.1 dX4_cell_75 rfl (lv_at hl 3 rfl) ?_
          obtain ⟨hb18, hF⟩ := kin hF
          refine kx_iald (q := 12 + Int32.toNatClampNeg a1 + 4) S hw hs12.2.2.1 hs12.2.2.2 hb18 dX4_cell_76 ?_
          refine lv_i2l S.1 S.2.1 dX4_cell_77 rfl ?_
          refine lv_goto (tgt := 84) S.1 S.2.1 dX4_cell_78 (by decide) ?_
          obtain ⟨rfl, rfl⟩ := kret hF
          exact hR _ _ _ _ dX4_cell_84 hw
      · replace hF := kit hF c16
        refine lv_aload S.1 S.2.1 dX4_cell_49 (lv_at hl 0 rfl) ?_
        refine lv_iload_n S.1 S.2.1 dX4_cell_51 rfl (lv_at hl 3 rfl) ?_
        obtain ⟨r21, σ20, e19, hF⟩ := kbi_e hF
        refine kcX1_hasCell S hw cv_X4_187 ⟨Nat.le_of_ble_eq_true rfl, Nat.le_of_ble_eq_true rfl⟩ hs12 e19 hl.1 (Nat.le_of_ble_eq_true rfl) dX4_cell_52 (fun H locs hw hz22 => ?_)
        refine lv_if_ne (tgt := 63) S.1 S.2.1 dX4_cell_55 (by decide) (fun c23 => ?_) (fun c23 => ?_)
        · replace hF := kif hF c23
          refine lv_aload_n S.1 S.2.1 dX4_cell_63 rfl (lv_at hl 1 rfl) ?_
          refine gf_X4_51 (q := 0) S hw rfl (Nat.le_of_ble_eq_true rfl) rfl dX4_cell_64 ?_
          refine lv_if_ne (tgt := 81) S.1 S.2.1 dX4_cell_67 (by decide) (fun c24 => ?_) (fun c24 => ?_)
          · replace hF := kif hF c24
            refine lv_ldc2 (v := (-9223372036854775808)) S.1 S.2.1 S.2.2.2.1 (S.2.2.2.2 _ q2_130) dX4_cell_81 ?_
            obtain ⟨rfl, rfl⟩ := kret hF
            exact hR _ _ _ _ dX4_cell_84 hw
          · replace hF := kit hF c24
            refine lv_aload S.1 S.2.1 dX4_cell_70 (lv_at hl 0 rfl) ?_
            refine gf_X4_73 S hw hs12.1 hs12.2.1 rfl dX4_cell_72 ?_
            refine lv_iload_n S.1 S.2.1 dX4_cell_75 rfl (lv_at hl 3 rfl) ?_
            obtain ⟨hb25, hF⟩ := kin hF
            refine kx_iald (q := 12 + Int32.toNatClampNeg a1 + 4) S hw hs12.2.2.1 hs12.2.2.2 hb25 dX4_cell_76 ?_
            refine lv_i2l S.1 S.2.1 dX4_cell_77 rfl ?_
            refine lv_goto (tgt := 84) S.1 S.2.1 dX4_cell_78 (by decide) ?_
            obtain ⟨rfl, rfl⟩ := kret hF
            exact hR _ _ _ _ dX4_cell_84 hw
        · replace hF := kit hF c23
          refine lv_aload_n S.1 S.2.1 dX4_cell_58 rfl (lv_at hl 1 rfl) ?_
          refine lv_iconst (v := 3) S.1 S.2.1 dX4_cell_59 (by decide) ?_
          refine pf_X4_51 (q := 0) S hw rfl (Nat.le_of_ble_eq_true rfl) rfl dX4_cell_60 (fun H locs hw => ?_)
          refine lv_aload_n S.1 S.2.1 dX4_cell_63 rfl (lv_at hl 1 rfl) ?_
          refine gf_X4_51 (q := 0) S hw rfl (Nat.le_of_ble_eq_true rfl) rfl dX4_cell_64 ?_
          refine lv_if_ne (tgt := 81) S.1 S.2.1 dX4_cell_67 (by decide) (fun c26 => ?_) (fun c26 => ?_)
          · replace hF := kif hF c26
            refine lv_ldc2 (v := (-9223372036854775808)) S.1 S.2.1 S.2.2.2.1 (S.2.2.2.2 _ q2_130) dX4_cell_81 ?_
            obtain ⟨rfl, rfl⟩ := kret hF
            exact hR _ _ _ _ dX4_cell_84 hw
          · replace hF := kit hF c26
            refine lv_aload S.1 S.2.1 dX4_cell_70 (lv_at hl 0 rfl) ?_
            refine gf_X4_73 S hw hs12.1 hs12.2.1 rfl dX4_cell_72 ?_
            refine lv_iload_n S.1 S.2.1 dX4_cell_75 rfl (lv_at hl 3 rfl) ?_
            obtain ⟨hb27, hF⟩ := kin hF
            refine kx_iald (q := 12 + Int32.toNatClampNeg a1 + 4) S hw hs12.2.2.1 hs12.2.2.2 hb27 dX4_cell_76 ?_
            refine lv_i2l S.1 S.2.1 dX4_cell_77 rfl ?_
            refine lv_goto (tgt := 84) S.1 S.2.1 dX4_cell_78 (by decide) ?_
            obtain ⟨rfl, rfl⟩ := kret hF
            exact hR _ _ _ _ dX4_cell_84 hw
    · replace hF := kit hF c10
      refine lv_ldc2 (v := (-9223372036854775808)) S.1 S.2.1 S.2.2.2.1 (S.2.2.2.2 _ q2_130) dX4_cell_20 ?_
      obtain ⟨rfl, rfl⟩ := kret hF
      exact hR _ _ _ _ dX4_cell_23 hw
set_option maxRecDepth 100000 in
theorem kcX4_cell {p : Program} {l : Launch} {e : Env} {R : Room} {s : State} {m : MethodId} {args : Array Value} {below : List Frame} {meth : Method} {c : Code} {H : Heap} {locs : List Loc} {cells slots : Nat} {Q : State → Prop} {cc : ByteArray} {pc : Nat} {ls : Array Slot} {rest : List Value} {E : kE} {σ ω σ1 : kS} {nL index : Nat} {own : String} {r : Int64} (S : CallFix p m c cc nL s args kBIG own) (hw : kWS E s (cmb σ ω) H locs) (cw : kV own RX4 index yX4_cell cX4_cell 5 (some .long) 3) (hR : 2 + 1 ≤ R.frames ∧ 8 + (5 + 11) + 40 * 2 ≤ R.locals) {a1 : Int32} {a2 : Int32} {a3 : Int32}  (hF : fX4_cell a1 a2 a3 σ = some (r, σ1)) (hls : ls.size = nL) (hW : (rest.map fun v => v.category).sum ≤ 8) (hdg : decode cc pc = .ok (.invokevirtual index, 3)) (kk : ∀ (H1 : Heap) (locs1 : List Loc), kWS E s (cmb σ1 ω) H1 locs1 → W p l e R s m args below meth c H1 locs1 cells slots Q (F0 m (pc + 3) ls (.long r :: rest))) (hf : cells ≤ R.cells ∧ slots ≤ R.slots := by exact ⟨Nat.le_of_ble_eq_true rfl, Nat.le_of_ble_eq_true rfl⟩) : W p l e R s m args below meth c H locs cells slots Q (F0 m pc ls (.int a3 :: .int a2 :: .int a1 :: .ref (ead E 0) :: rest)) := kr_calll hw (kr_runV (As := [.int a1, .int a2, .int a3]) (q := 0) S hw ((mX4_cell (l := l) (E := E) (ω := ω) hF) H.size) cw hR rfl (by decide) rfl rfl hls _ rfl hW hdg hf) kk
set_option maxHeartbeats 4000000 in
set_option maxRecDepth 100000 in
theorem mX4_copy {l : Launch} {E : kE} {ω σ σ1 : kS} {r : Int32} {a1 : Int32} {a2 : Int32} {a3 : Int32} {a4 : Int32} {a5 : Int32}  (hF : fX4_copy a1 a2 a3 a4 a5 σ = some (r, σ1)) : kMetI l yX4_copy cX4_copy 8 (some .int) 2 E [.ref (ead E 0), .int a1, .int a2, .int a3, .int a4, .int a5] (cmb σ ω) r (cmb σ1 ω) := by
  refine kMetI.of (by decide +kernel) (Nat.le_of_ble_eq_true rfl) (Or.inl rfl) ?_
  intro p e s m args below meth c Q ls S hR hw hl
  have hl : lv_has ls 8 [(0, .ref (ead E 0)), (1, .int a1), (2, .int a2), (3, .int a3), (4, .int a4), (5, .int a5)] := hl
  unfold fX4_copy at hF
  refine lv_aload_n S.1 S.2.1 dX4_copy_0 rfl (lv_at hl 0 rfl) ?_
  refine lv_iconst (v := 0) S.1 S.2.1 dX4_copy_1 (by decide) ?_
  refine pf_X4_51 (q := 0) S hw rfl (Nat.le_of_ble_eq_true rfl) rfl dX4_copy_2 (fun H locs hw => ?_)
  refine lv_iload_n S.1 S.2.1 dX4_copy_5 rfl (lv_at hl 1 rfl) ?_
  obtain ⟨r3, σ2, e1, hF⟩ := kbi_e hF
  refine kcX4_isSheet S hw cv_X4_55 ⟨Nat.le_of_ble_eq_true rfl, Nat.le_of_ble_eq_true rfl⟩ e1 hl.1 (Nat.le_of_ble_eq_true rfl) dX4_copy_6 (fun H locs hw hz4 => ?_)
  refine lv_if_eq (tgt := 19) S.1 S.2.1 dX4_copy_9 (by decide) (fun c5 => ?_) (fun c5 => ?_)
  · replace hF := kit hF c5
    refine lv_iconst (v := (-1)) S.1 S.2.1 dX4_copy_19 (by decide) ?_
    obtain ⟨rfl, rfl⟩ := kret hF
    exact hR _ _ _ _ dX4_copy_20 hw (fun h => nomatch h)
  · replace hF := kif hF c5
    refine lv_iload_n S.1 S.2.1 dX4_copy_12 rfl (lv_at hl 3 rfl) ?_
    obtain ⟨r8, σ7, e6, hF⟩ := kbi_e hF
    refine kcX4_isSheet S hw cv_X4_55 ⟨Nat.le_of_ble_eq_true rfl, Nat.le_of_ble_eq_true rfl⟩ e6 hl.1 (Nat.le_of_ble_eq_true rfl) dX4_copy_13 (fun H locs hw hz9 => ?_)
    refine lv_if_ne (tgt := 21) S.1 S.2.1 dX4_copy_16 (by decide) (fun c10 => ?_) (fun c10 => ?_)
    · replace hF := kif hF c10
      refine lv_aload_n S.1 S.2.1 dX4_copy_21 rfl (lv_at hl 0 rfl) ?_
      refine gf_X4_23 (q := 0) S hw rfl (Nat.le_of_ble_eq_true rfl) rfl dX4_copy_22 ?_
      refine lv_iload_n S.1 S.2.1 dX4_copy_25 rfl (lv_at hl 1 rfl) ?_
      obtain ⟨hb11, hF⟩ := kin hF
      have hs12 := isSh_k _ (inb_lt hb11)
      refine kr_aald S hw hb11 dX4_copy_26 ?_
      refine lv_astore (lv' := [(6, .ref (ead E (12 + Int32.toNatClampNeg a1))), (0, .ref (ead E 0)), (1, .int a1), (2, .int a2), (3, .int a3), (4, .int a4), (5, .int a5)]) S.1 S.2.1 dX4_copy_27 hl (by decide) rfl (fun ls hl => ?_)
      refine lv_aload_n S.1 S.2.1 dX4_copy_29 rfl (lv_at hl 1 rfl) ?_
      refine gf_X4_23 (q := 0) S hw rfl (Nat.le_of_ble_eq_true rfl) rfl dX4_copy_30 ?_
      refine lv_iload_n S.1 S.2.1 dX4_copy_33 rfl (lv_at hl 4 rfl) ?_
      obtain ⟨hb13, hF⟩ := kin hF
      have hs14 := isSh_k _ (inb_lt hb13)
      refine kr_aald S hw hb13 dX4_copy_34 ?_
      refine lv_astore (lv' := [(7, .ref (ead E (12 + Int32.toNatClampNeg a3))), (6, .ref (ead E (12 + Int32.toNatClampNeg a1))), (0, .ref (ead E 0)), (1, .int a1), (2, .int a2), (3, .int a3), (4, .int a4), (5, .int a5)]) S.1 S.2.1 dX4_copy_35 hl (by decide) rfl (fun ls hl => ?_)
      refine lv_aload S.1 S.2.1 dX4_copy_37 (lv_at hl 1 rfl) ?_
      refine gf_X4_183 S hw hs12.1 hs12.2.1 rfl dX4_copy_39 ?_
      refine lv_if_eq (tgt := 53) S.1 S.2.1 dX4_copy_42 (by decide) (fun c15 => ?_) (fun c15 => ?_)
      · replace hF := kit hF c15
        refine lv_aload_n S.1 S.2.1 dX4_copy_53 rfl (lv_at hl 2 rfl) ?_
        refine lv_iconst (v := 1) S.1 S.2.1 dX4_copy_54 (by decide) ?_
        obtain ⟨r18, σ17, e16, hF⟩ := kbi_e hF
        refine kcX4_faulted S hw cv_X4_70 ⟨Nat.le_of_ble_eq_true rfl, Nat.le_of_ble_eq_true rfl⟩ e16 hl.1 (Nat.le_of_ble_eq_true rfl) dX4_copy_55 (fun H locs hw => ?_)
        obtain ⟨rfl, rfl⟩ := kret hF
        exact hR _ _ _ _ dX4_copy_58 hw (fun h => nomatch h)
      · replace hF := kif hF c15
        refine lv_aload S.1 S.2.1 dX4_copy_45 (lv_at hl 0 rfl) ?_
        refine gf_X4_183 S hw hs14.1 hs14.2.1 rfl dX4_copy_47 ?_
        refine lv_if_ne (tgt := 59) S.1 S.2.1 dX4_copy_50 (by decide) (fun c19 => ?_) (fun c19 => ?_)
        · replace hF := kif hF c19
          refine lv_aload S.1 S.2.1 dX4_copy_59 (lv_at hl 1 rfl) ?_
          refine gf_X4_193 S hw hs12.1 hs12.2.1 rfl dX4_copy_61 ?_
          refine lv_aload S.1 S.2.1 dX4_copy_64 (lv_at hl 0 rfl) ?_
          refine gf_X4_193 S hw hs14.1 hs14.2.1 rfl dX4_copy_66 ?_
          refine lv_icmp_eq (tgt := 78) S.1 S.2.1 dX4_copy_69 (by decide) (fun c20 => ?_) (fun c20 => ?_)
          · replace hF := kit hF c20
            refine lv_aload S.1 S.2.1 dX4_copy_78 (lv_at hl 1 rfl) ?_
            refine lv_iload_n S.1 S.2.1 dX4_copy_80 rfl (lv_at hl 4 rfl) ?_
            refine lv_iload S.1 S.2.1 dX4_copy_81 (lv_at hl 7 rfl) ?_
            obtain ⟨r23, σ22, e21, hF⟩ := kbi_e hF
            refine kcX1_spans S hw cv_X4_67 ⟨Nat.le_of_ble_eq_true rfl, Nat.le_of_ble_eq_true rfl⟩ hs12 e21 hl.1 (Nat.le_of_ble_eq_true rfl) dX4_copy_83 (fun H locs hw hz24 => ?_)
            refine lv_if_eq (tgt := 101) S.1 S.2.1 dX4_copy_86 (by decide) (fun c25 => ?_) (fun c25 => ?_)
            · replace hF := kit hF c25
              refine lv_aload_n S.1 S.2.1 dX4_copy_101 rfl (lv_at hl 2 rfl) ?_
              refine lv_iconst (v := 3) S.1 S.2.1 dX4_copy_102 (by decide) ?_
              obtain ⟨r28, σ27, e26, hF⟩ := kbi_e hF
              refine kcX4_faulted S hw cv_X4_70 ⟨Nat.le_of_ble_eq_true rfl, Nat.le_of_ble_eq_true rfl⟩ e26 hl.1 (Nat.le_of_ble_eq_true rfl) dX4_copy_103 (fun H locs hw => ?_)
              obtain ⟨rfl, rfl⟩ := kret hF
              exact hR _ _ _ _ dX4_copy_106 hw (fun h => nomatch h)
            · replace hF := kif hF c25
              refine lv_aload S.1 S.2.1 dX4_copy_89 (lv_at hl 0 rfl) ?_
              refine lv_iload S.1 S.2.1 dX4_copy_91 (lv_at hl 6 rfl) ?_
              refine lv_iload S.1 S.2.1 dX4_copy_93 (lv_at hl 7 rfl) ?_
              obtain ⟨r31, σ30, e29, hF⟩ := kbi_e hF
              refine kcX1_spans S hw cv_X4_67 ⟨Nat.le_of_ble_eq_true rfl, Nat.le_of_ble_eq_true rfl⟩ hs14 e29 hl.1 (Nat.le_of_ble_eq_true rfl) dX4_copy_95 (fun H locs hw hz32 => ?_)
              refine lv_if_ne (tgt := 107) S.1 S.2.1 dX4_copy_98 (by decide) (fun c33 => ?_) (fun c33 => ?_)
              · replace hF := kif hF c33
                refine lv_aload S.1 S.2.1 dX4_copy_107 (lv_at hl 1 rfl) ?_
                refine gf_X4_73 S hw hs12.1 hs12.2.1 rfl dX4_copy_109 ?_
                refine lv_iload_n S.1 S.2.1 dX4_copy_112 rfl (lv_at hl 4 rfl) ?_
                refine lv_aload S.1 S.2.1 dX4_copy_113 (lv_at hl 0 rfl) ?_
                refine gf_X4_73 S hw hs14.1 hs14.2.1 rfl dX4_copy_115 ?_
                refine lv_iload S.1 S.2.1 dX4_copy_118 (lv_at hl 6 rfl) ?_
                refine lv_iload S.1 S.2.1 dX4_copy_120 (lv_at hl 7 rfl) ?_
                obtain ⟨hb34, hF⟩ := kin hF
                refine kx_copy S hw (S.2.2.1.trans hl.1.symm) q2_87 hs12.2.2 hs14.2.2 hb34 (Nat.le_of_ble_eq_true rfl) (Nat.le_of_ble_eq_true rfl) dX4_copy_122 (fun H locs hw => ?_)
                refine lv_iload S.1 S.2.1 dX4_copy_125 (lv_at hl 7 rfl) ?_
                obtain ⟨rfl, rfl⟩ := kret hF
                exact hR _ _ _ _ dX4_copy_127 hw (fun h => nomatch h)
              · replace hF := kit hF c33
                refine lv_aload_n S.1 S.2.1 dX4_copy_101 rfl (lv_at hl 2 rfl) ?_
                refine lv_iconst (v := 3) S.1 S.2.1 dX4_copy_102 (by decide) ?_
                obtain ⟨r37, σ36, e35, hF⟩ := kbi_e hF
                refine kcX4_faulted S hw cv_X4_70 ⟨Nat.le_of_ble_eq_true rfl, Nat.le_of_ble_eq_true rfl⟩ e35 hl.1 (Nat.le_of_ble_eq_true rfl) dX4_copy_103 (fun H locs hw => ?_)
                obtain ⟨rfl, rfl⟩ := kret hF
                exact hR _ _ _ _ dX4_copy_106 hw (fun h => nomatch h)
          · replace hF := kif hF c20
            refine lv_aload_n S.1 S.2.1 dX4_copy_72 rfl (lv_at hl 2 rfl) ?_
            refine lv_iconst (v := 2) S.1 S.2.1 dX4_copy_73 (by decide) ?_
            obtain ⟨r40, σ39, e38, hF⟩ := kbi_e hF
            refine kcX4_faulted S hw cv_X4_70 ⟨Nat.le_of_ble_eq_true rfl, Nat.le_of_ble_eq_true rfl⟩ e38 hl.1 (Nat.le_of_ble_eq_true rfl) dX4_copy_74 (fun H locs hw => ?_)
            obtain ⟨rfl, rfl⟩ := kret hF
            exact hR _ _ _ _ dX4_copy_77 hw (fun h => nomatch h)
        · replace hF := kit hF c19
          refine lv_aload_n S.1 S.2.1 dX4_copy_53 rfl (lv_at hl 2 rfl) ?_
          refine lv_iconst (v := 1) S.1 S.2.1 dX4_copy_54 (by decide) ?_
          obtain ⟨r43, σ42, e41, hF⟩ := kbi_e hF
          refine kcX4_faulted S hw cv_X4_70 ⟨Nat.le_of_ble_eq_true rfl, Nat.le_of_ble_eq_true rfl⟩ e41 hl.1 (Nat.le_of_ble_eq_true rfl) dX4_copy_55 (fun H locs hw => ?_)
          obtain ⟨rfl, rfl⟩ := kret hF
          exact hR _ _ _ _ dX4_copy_58 hw (fun h => nomatch h)
    · replace hF := kit hF c10
      refine lv_iconst (v := (-1)) S.1 S.2.1 dX4_copy_19 (by decide) ?_
      obtain ⟨rfl, rfl⟩ := kret hF
      exact hR _ _ _ _ dX4_copy_20 hw (fun h => nomatch h)
set_option maxRecDepth 100000 in
theorem kcX4_copy {p : Program} {l : Launch} {e : Env} {R : Room} {s : State} {m : MethodId} {args : Array Value} {below : List Frame} {meth : Method} {c : Code} {H : Heap} {locs : List Loc} {cells slots : Nat} {Q : State → Prop} {cc : ByteArray} {pc : Nat} {ls : Array Slot} {rest : List Value} {E : kE} {σ ω σ1 : kS} {nL index : Nat} {own : String} {r : Int32} (S : CallFix p m c cc nL s args kBIG own) (hw : kWS E s (cmb σ ω) H locs) (cw : kV own RX4 index yX4_copy cX4_copy 8 (some .int) 5) (hR : 2 + 1 ≤ R.frames ∧ 8 + (8 + 11) + 40 * 2 ≤ R.locals) {a1 : Int32} {a2 : Int32} {a3 : Int32} {a4 : Int32} {a5 : Int32}  (hF : fX4_copy a1 a2 a3 a4 a5 σ = some (r, σ1)) (hls : ls.size = nL) (hW : (rest.map fun v => v.category).sum ≤ 8) (hdg : decode cc pc = .ok (.invokevirtual index, 3)) (kk : ∀ (H1 : Heap) (locs1 : List Loc), kWS E s (cmb σ1 ω) H1 locs1 → W p l e R s m args below meth c H1 locs1 cells slots Q (F0 m (pc + 3) ls (.int r :: rest))) (hf : cells ≤ R.cells ∧ slots ≤ R.slots := by exact ⟨Nat.le_of_ble_eq_true rfl, Nat.le_of_ble_eq_true rfl⟩) : W p l e R s m args below meth c H locs cells slots Q (F0 m pc ls (.int a5 :: .int a4 :: .int a3 :: .int a2 :: .int a1 :: .ref (ead E 0) :: rest)) := kr_calli (mc := 0) (y := yX4_copy) (b := cX4_copy) (n := 0) (lv := 0) (As := []) (ret := some .int) hw (kr_runV (As := [.int a1, .int a2, .int a3, .int a4, .int a5]) (q := 0) S hw ((mX4_copy (l := l) (E := E) (ω := ω) hF) H.size) cw hR rfl (by decide) rfl rfl hls _ rfl hW hdg hf) (fun H1 locs1 h _ => kk H1 locs1 h)
