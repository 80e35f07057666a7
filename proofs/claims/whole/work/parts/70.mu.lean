theorem kept_back2 {P : Nat} (hP : P ≤ 6) {τ τk τ2 : kS} (h : τ 0 1 = nI P) (k1 : ∀ q, q < 9 ∨ 11 < q → τk q = τ q) (k2 : ∀ p, p < P → τk 9 p = τ 2 p ∧ τk 10 p = τ 3 p ∧ τk 11 p = τ 4 p) (s : ∀ q j, (q ≤ 11 ∨ 15 ≤ q) → ¬ (2 ≤ q ∧ q ≤ 4 ∧ j < P) → τ2 q j = τk q j) : ∃ τ', fX5_bringBack τ2 = some τ' ∧ (∀ q, q < 9 ∨ 15 ≤ q → τ' q = τ q) ∧ (∀ q, 5 ≤ q → τ' q = τ2 q) := by
  have e0 : τ2 0 1 = nI P := by rw [s 0 1 (by omega) (by omega), k1 0 (by omega)]; exact h
  obtain ⟨t', f1, f2, f3, f4⟩ := bring_back hP τ2 e0
  refine ⟨t', f1, fun q hq => ?_, fun q hq => f2 q (by omega)⟩
  by_cases c : 2 ≤ q ∧ q ≤ 4
  · funext p
    by_cases d : p < P
    · obtain ⟨a1, a2, a3⟩ := f3 p d
      obtain ⟨b1, b2, b3⟩ := k2 p d
      rcases (show q = 2 ∨ q = 3 ∨ q = 4 by omega) with rfl | rfl | rfl
      · rw [a1, s 9 p (by omega) (by omega), b1]
      · rw [a2, s 10 p (by omega) (by omega), b2]
      · rw [a3, s 11 p (by omega) (by omega), b3]
    · rw [f4 q p (by omega), s q p (by omega) (by omega), k1 q (by omega)]
  · funext p
    rw [f2 q (by omega), s q p (by omega) (by omega), k1 q (by omega)]
theorem spreadsL {A : kN} {many : Nat} (ok : okA A) (hmany : many ≤ 6) : ∀ (m s f : Nat) (τ : kS), s + m = 64 → m < f → BA A τ → Inv A (many + 1) τ → ∃ τ', fX5_spreads_L2 f (nI many) (nI s) τ = some τ' ∧ sameF (A 0 2) τ τ' ∧ Inv A (many + 1) τ' ∧ Mono τ τ' ∧ (s = 0 → many = 0 → ∀ p, p < A 0 2 → ∀ q, go A p = some q → τ' 14 (2 ^ q) = nI 1) := by
  have o := ok.2.2.1
  intro m
  induction m with
  | zero =>
    intro s f τ hs hf h hI
    obtain ⟨f, rfl⟩ : ∃ j, f = j + 1 := ⟨f - 1, by omega⟩
    have hs' : s = 64 := by omega
    subst hs'
    rw [fX5_spreads_L2, if_pos (show (64 : Int32) ≤ nI 64 by decide)]
    exact ⟨τ, rfl, fun _ _ _ _ => rfl, hI, fun _ _ _ => rfl, fun z => by omega⟩
  | succ m ih =>
    intro s f τ hs hf h hI
    obtain ⟨f, rfl⟩ : ∃ j, f = j + 1 := ⟨f - 1, by omega⟩
    have c : ¬ (64 : Int32) ≤ nI s := fun z => by have := (nI_leI (a := 64) (b := s) (by omega) (by omega)).mp z; omega
    rw [fX5_spreads_L2, if_neg c]
    obtain ⟨t1, a1, a2, a3, a4, a5⟩ := spreadL (s := s) ok (by omega) hmany (fX5_spreads_L2 f) (A 0 2) 0 1000 τ (by omega) (by omega) h hI
    have a1 : fX5_spreads_L10 (fX5_spreads_L2 f) 1000 (nI many) (nI s) 0 τ = _ := a1
    obtain ⟨t2, b1, b2, b3, b4, -⟩ := ih (s + 1) f t1 (by omega) (by omega) (BA_fr h a2) a3
    refine ⟨t2, a1.trans b1, sameF_tr a2 b2, b3, Mono_tr a4 b4, fun z1 z2 p hp q hq => ?_⟩
    have a6 := a5 z1 z2 p (by omega) hp q hq
    have hq6 : q < 6 := by have := go_lt hq; omega
    rw [b4 (2 ^ q) (pow_64 q hq6).2 (by rw [a6]; decide), a6]
theorem Inv_up {A : kN} {D : Nat} {τ : kS} (h : Inv A D τ) : Inv A (D + 1) τ := ⟨h.1, fun s h1 h2 => (h.2 s h1 h2).imp id (fun ⟨d, a, b, c, e⟩ => ⟨d, a, by omega, c, e⟩)⟩
theorem manyL {A : kN} (ok : okA A) (a : Int32) : ∀ (m many f : Nat) (τ : kS), many + m = 7 → m < f → BA A τ → Inv A many τ → ∃ τ', fX5_ahead_L46 f a (nI many) τ = fX5_ahead_L68 1000 a (-9) 0 τ' ∧ sameF (A 0 2) τ τ' ∧ Inv A 7 τ' ∧ Mono τ τ' ∧ (many = 0 → ∀ p, p < A 0 2 → ∀ q, go A p = some q → τ' 14 (2 ^ q) = nI 1) := by
  have o := ok.2.2.1
  intro m
  induction m with
  | zero =>
    intro many f τ hs hf h hI
    obtain ⟨f, rfl⟩ : ∃ j, f = j + 1 := ⟨f - 1, by omega⟩
    have hs' : many = 7 := by omega
    subst hs'
    rw [fX5_ahead_L46, if_pos (show (7 : Int32) ≤ nI 7 by decide)]
    exact ⟨τ, rfl, fun _ _ _ _ => rfl, hI, fun _ _ _ => rfl, fun z => by omega⟩
  | succ m ih =>
    intro many f τ hs hf h hI
    obtain ⟨f, rfl⟩ : ∃ j, f = j + 1 := ⟨f - 1, by omega⟩
    have c : ¬ (7 : Int32) ≤ nI many := fun z => by have := (nI_leI (a := 7) (b := many) (by omega) (by omega)).mp z; omega
    obtain ⟨t1, a1, a2, a3, a4, a5⟩ := spreadsL (many := many) ok (by omega) 64 0 1000 τ (by omega) (by omega) h (Inv_up hI)
    have a1 : fX5_spreads (nI many) τ = some t1 := a1
    rw [fX5_ahead_L46, if_neg c, a1, kbv_s, klet_e, nI_1]
    obtain ⟨t2, b1, b2, b3, b4, -⟩ := ih (many + 1) f t1 (by omega) (by omega) (BA_fr h a2) a3
    refine ⟨t2, b1, sameF_tr a2 b2, b3, Mono_tr a4 b4, fun z p hp q hq => ?_⟩
    have a6 := a5 rfl z p hp q hq
    have hq6 : q < 6 := by have := go_lt hq; omega
    rw [b4 (2 ^ q) (pow_64 q hq6).2 (by rw [a6]; decide), a6]
theorem initL (a : Int32) : ∀ (m s f : Nat) (τ : kS), s + m = 64 → m < f → ∃ τ', fX5_ahead_L16 f a (nI s) τ = fX5_ahead_L46 1000 a 0 τ' ∧ (∀ q, q ≠ 14 → τ' q = τ q) ∧ (∀ j, j < s → τ' 14 j = τ 14 j) ∧ (∀ j, s ≤ j → j < 64 → τ' 14 j = if j = 0 then nI 0 else -9) := by
  intro m
  induction m with
  | zero =>
    intro s f τ hs hf
    obtain ⟨f, rfl⟩ : ∃ j, f = j + 1 := ⟨f - 1, by omega⟩
    have hs' : s = 64 := by omega
    subst hs'
    rw [fX5_ahead_L16, if_pos (show (64 : Int32) ≤ nI 64 by decide)]
    exact ⟨τ, rfl, fun _ _ => rfl, fun _ _ => rfl, fun j h1 h2 => by omega⟩
  | succ m ih =>
    intro s f τ hs hf
    obtain ⟨f, rfl⟩ : ∃ j, f = j + 1 := ⟨f - 1, by omega⟩
    have c : ¬ (64 : Int32) ≤ nI s := fun z => by have := (nI_leI (a := 64) (b := s) (by omega) (by omega)).mp z; omega
    have hi : inb (nI s) 64 := inb_lit (by omega) (by decide)
    have e : (nI s).toNatClampNeg = s := nI_clamp (by omega)
    rw [fX5_ahead_L16, if_neg c]
    have fin : ∀ v : Int32, v = (if s = 0 then nI 0 else -9) → ∃ τ', fX5_ahead_L16 f a (nI (s + 1)) (kup τ 14 s v) = fX5_ahead_L46 1000 a 0 τ' ∧ (∀ q, q ≠ 14 → τ' q = τ q) ∧ (∀ j, j < s → τ' 14 j = τ 14 j) ∧ (∀ j, s ≤ j → j < 64 → τ' 14 j = if j = 0 then nI 0 else -9) := by
      intro v hv
      obtain ⟨t', h1, h2, h3, h4⟩ := ih (s + 1) f (kup τ 14 s v) (by omega) (by omega)
      refine ⟨t', h1, fun q hq => by rw [h2 q hq, kup_ne hq], fun j hj => by rw [h3 j (by omega), kup_k (by omega)], fun j h5 h6 => ?_⟩
      by_cases d : j = s
      · subst d
        rw [h3 j (by omega), kup_at, hv]
      · exact h4 j (by omega) h6
    by_cases d : s = 0
    · rw [if_pos (show nI s = 0 by rw [d]; rfl), if_pos hi, klet_e, nI_1, e]
      exact fin _ (by rw [if_pos d]; rfl)
    · rw [if_neg (nI_ne0 (by omega) (by omega)), if_pos hi, klet_e, nI_1, e]
      exact fin _ (by rw [if_neg d])
def aFv (b1 b2 : Bool) (p s : Nat) : Int32 := if b1 = true then (if s = 0 then -9 else 0) else if b2 = true then (if s ≤ 2 ^ p then -9 else 1) else -9
theorem aFv_same {b1 b2 : Bool} {p s : Nat} (h1 : b1 = true → s ≠ 0) (h2 : b2 = true → s ≠ 2 ^ p) : aFv b1 b2 p (s + 1) = aFv b1 b2 p s := by
  cases b1 with
  | true =>
    have := h1 rfl
    show (if s + 1 = 0 then -9 else 0) = (if s = 0 then -9 else 0)
    rw [if_neg (by omega), if_neg this]
  | false =>
    cases b2 with
    | true =>
      have := h2 rfl
      show (if s + 1 ≤ 2 ^ p then -9 else 1) = (if s ≤ 2 ^ p then -9 else 1)
      by_cases z3 : s ≤ 2 ^ p
      · rw [if_pos z3, if_pos (by omega)]
      · rw [if_neg z3, if_neg (by omega)]
    | false => rfl
theorem aheadL {A : kN} {p : Nat} {b2 : Bool} (ok : okA A) (hp : p < A 0 2) (hb : b2 = true ↔ gets A p) : ∀ (m s f : Nat) (τ : kS), s + m = 64 → m < f → BA A τ → Inv A 7 τ → (gets A p → τ 14 (2 ^ p) = nI 1) → ∃ τ', fX5_ahead_L68 f (nI p) (aFv (decide (go A p = some p)) b2 p s) (nI s) τ = (kbv (fX5_bringBack τ') fun σ20 => some (aFv (decide (go A p = some p)) b2 p 64, σ20)) ∧ sameF (A 0 2) τ τ' := by
  have o := ok.2.2.1
  intro m
  induction m with
  | zero =>
    intro s f τ hs hf h hI h2
    obtain ⟨f, rfl⟩ : ∃ j, f = j + 1 := ⟨f - 1, by omega⟩
    have hs' : s = 64 := by omega
    subst hs'
    rw [fX5_ahead_L68, if_pos (show (64 : Int32) ≤ nI 64 by decide)]
    exact ⟨τ, rfl, fun _ _ _ _ => rfl⟩
  | succ m ih =>
    intro s f τ hs hf h hI h2
    obtain ⟨f, rfl⟩ : ∃ j, f = j + 1 := ⟨f - 1, by omega⟩
    have c : ¬ (64 : Int32) ≤ nI s := fun z => by have := (nI_leI (a := 64) (b := s) (by omega) (by omega)).mp z; omega
    have hs64 : s < 64 := by omega
    have hi : inb (nI s) 64 := inb_lit (by omega) (by decide)
    have e : (nI s).toNatClampNeg = s := nI_clamp (by omega)
    have pp := pow_64 p (by omega)
    obtain ⟨t1, a1, a2, a3, a4⟩ := as_met ok hs64 h
    have e14 : t1 14 (nI s).toNatClampNeg = τ 14 s := by rw [e, a3]
    have nx := ih (s + 1) f t1 (by omega) (by omega) (BA_fr h a2) (Inv_14 hI a3) (fun z => by rw [a3]; exact h2 z)
    obtain ⟨t2, n1, n2⟩ := nx
    have same : aFv (decide (go A p = some p)) b2 p (s + 1) = aFv (decide (go A p = some p)) b2 p s → ∃ τ', fX5_ahead_J102 (fX5_ahead_L68 f) (nI p) (aFv (decide (go A p = some p)) b2 p s) (nI s) 0 t1 = (kbv (fX5_bringBack τ') fun σ20 => some (aFv (decide (go A p = some p)) b2 p 64, σ20)) ∧ sameF (A 0 2) τ τ' := by
      intro hF
      unfold fX5_ahead_J102
      rw [if_pos rfl, klet_e, nI_1, ← hF]
      exact ⟨t2, n1, sameF_tr a2 n2⟩
    rw [fX5_ahead_L68, if_neg c, a1, kbv_s, if_pos hi, e14]
    by_cases g : τ 14 s < 0
    · rw [if_pos g]
      refine same ?_
      have s0 : s ≠ 0 := fun z => by rw [z, hI.1] at g; exact absurd g (by decide)
      exact aFv_same (fun _ => s0) (fun z2 z => by
        rw [z, h2 (hb.mp z2)] at g
        exact absurd g (by decide))
    · rw [if_neg g]
      have hsub := Inv_sub hI hs64 (Int32.not_lt.mp g)
      rw [m_goes a4 (ok_mA _ ok) (by simpa [mA] using hp), kbi_s, go_mA ok hp hsub]
      have hk : enc (if bS s p = true then some p else go A p) = nI p ↔ (if bS s p = true then some p else go A p) = some p := by
        refine enc_inj (t := some p) (fun b hb2 => ?_) (fun b hb2 => by cases hb2; omega)
        by_cases z : bS s p = true
        · rw [if_pos z] at hb2; cases hb2; omega
        · rw [if_neg z] at hb2; have := go_lt hb2; omega
      by_cases gg : (if bS s p = true then some p else go A p) = some p
      · rw [if_pos (hk.mpr gg)]
        have upd1 : ∀ v : Int32, τ 14 s = v → v = aFv (decide (go A p = some p)) b2 p (s + 1) → (aFv (decide (go A p = some p)) b2 p s < 0 ∨ (¬ aFv (decide (go A p = some p)) b2 p s < 0 ∧ ¬ aFv (decide (go A p = some p)) b2 p s ≤ v)) → ∃ τ', fX5_ahead_J102 (fX5_ahead_L68 f) (nI p) (aFv (decide (go A p = some p)) b2 p s) (nI s) 1 t1 = (kbv (fX5_bringBack τ') fun σ20 => some (aFv (decide (go A p = some p)) b2 p 64, σ20)) ∧ sameF (A 0 2) τ τ' := by
          intro v hv hF hor
          unfold fX5_ahead_J102
          rw [if_neg one_ne]
          rcases hor with z | ⟨z1, z2⟩
          · rw [if_pos z, if_pos hi, klet_e, klet_e, nI_1, e14, hv, hF]
            exact ⟨t2, n1, sameF_tr a2 n2⟩
          · rw [if_neg z1, if_pos hi, if_neg (by rw [e14, hv]; exact z2), if_pos hi, klet_e, klet_e, nI_1, e14, hv, hF]
            exact ⟨t2, n1, sameF_tr a2 n2⟩
        have keep : aFv (decide (go A p = some p)) b2 p (s + 1) = aFv (decide (go A p = some p)) b2 p s → ¬ aFv (decide (go A p = some p)) b2 p s < 0 → aFv (decide (go A p = some p)) b2 p s ≤ τ 14 s → ∃ τ', fX5_ahead_J102 (fX5_ahead_L68 f) (nI p) (aFv (decide (go A p = some p)) b2 p s) (nI s) 1 t1 = (kbv (fX5_bringBack τ') fun σ20 => some (aFv (decide (go A p = some p)) b2 p 64, σ20)) ∧ sameF (A 0 2) τ τ' := by
          intro hF z1 z2
          unfold fX5_ahead_J102
          rw [if_neg one_ne, if_neg z1, if_pos hi, if_pos (by rw [e14]; exact z2), klet_e, nI_1, ← hF]
          exact ⟨t2, n1, sameF_tr a2 n2⟩
        by_cases b1 : go A p = some p
        · have d1 : decide (go A p = some p) = true := decide_eq_true b1
          by_cases s0 : s = 0
          · refine upd1 0 (by rw [s0]; exact hI.1) ?_ (Or.inl ?_)
            · unfold aFv; rw [d1, if_pos rfl, if_neg (by omega)]
            · unfold aFv; rw [d1, if_pos rfl, if_pos s0]; decide
          · have F0 : aFv (decide (go A p = some p)) b2 p s = 0 := by unfold aFv; rw [d1, if_pos rfl, if_neg s0]
            refine keep ?_ ?_ ?_
            · rw [F0]; unfold aFv; rw [d1, if_pos rfl, if_neg (by omega)]
            · rw [F0]; decide
            · rw [F0]; exact Int32.not_lt.mp g
        · have d1 : decide (go A p = some p) = false := decide_eq_false b1
          have hbit : bS s p = true := by
            by_cases z : bS s p = true
            · exact z
            · rw [if_neg z] at gg; exact absurd gg b1
          have hge := bS_ge hbit
          have hgt := hsub p hbit
          have d2 : b2 = true := hb.mpr hgt
          have s0 : 0 < s := by omega
          obtain ⟨dv, v1, v2, v3, -⟩ : ∃ d, 1 ≤ d ∧ d ≤ 7 ∧ τ 14 s = nI d ∧ subW A s := by
            rcases hI.2 s s0 hs64 with z | z
            · rw [z] at g; exact absurd (by decide) g
            · exact z
          by_cases sp : s = 2 ^ p
          · refine upd1 1 ?_ ?_ (Or.inl ?_)
            · rw [sp]; exact h2 hgt
            · unfold aFv; rw [d1, d2, if_neg (by decide), if_pos rfl, if_neg (by omega)]
            · unfold aFv; rw [d1, d2, if_neg (by decide), if_pos rfl, if_pos (by omega)]; decide
          · have F1 : aFv (decide (go A p = some p)) b2 p s = 1 := by unfold aFv; rw [d1, d2, if_neg (by decide), if_pos rfl, if_neg (by omega)]
            refine keep ?_ ?_ ?_
            · rw [F1]; unfold aFv; rw [d1, d2, if_neg (by decide), if_pos rfl, if_neg (by omega)]
            · rw [F1]; decide
            · rw [F1, v3]; exact (nI_leI (a := 1) (b := dv) (by omega) (by omega)).mpr v1
      · rw [if_neg (fun z => gg (hk.mp z))]
        refine same ?_
        have b1 : ¬ go A p = some p := fun z => gg (by split <;> first | rfl | exact z)
        have hbit : ¬ bS s p = true := fun z => gg (by rw [if_pos z])
        have sp : s ≠ 2 ^ p := fun z => hbit (by rw [z]; exact bS_pow p (by omega))
        exact aFv_same (fun z => absurd (of_decide_eq_true z) b1) (fun _ => sp)
theorem c_ahead (a : Int32) : RI (fX4_ahead a) (fX5_ahead a) := by
  intro σ τ h
  have ⟨A, hA⟩ := h
  obtain ⟨ok, hx, hm, hs, hr, hc⟩ := id hA
  have o := ok.2.2.1
  unfold fX4_ahead fX5_ahead
  rcases p_cases hx hm ok a with ⟨p, hp, rfl, e1, e2⟩ | ⟨_, e1, e2⟩
  · have hp6 : p < 6 := by omega
    obtain ⟨t1, k1, k2, k3⟩ := keep_all o τ hm.1.2.2
    obtain ⟨t2, i1, i2, -, i4⟩ := initL (nI p) 64 0 1000 t1 (by omega) (by omega)
    have i1 : fX5_ahead_L16 1000 (nI p) 0 t1 = _ := i1
    have hB : BA A t2 := by
      refine ⟨⟨?_, ?_, ?_⟩, fun x hx2 => ?_⟩
      · rw [i2 0 (by omega), k2 0 (by omega)]; exact hm.1.2.2
      · rw [i2 0 (by omega), k2 0 (by omega)]; exact hm.1.1
      · rw [i2 0 (by omega), k2 0 (by omega)]; exact hm.1.2.1
      · obtain ⟨m1, m2, m3, m4⟩ := hm.2 x hx2
        obtain ⟨c1, c2, c3⟩ := k3 x hx2
        rw [i2 1 (by omega), i2 2 (by omega), i2 4 (by omega), i2 9 (by omega), i2 10 (by omega), k2 1 (by omega), k2 2 (by omega), k2 4 (by omega), c1, c2]
        exact ⟨m1, m2, m4, m2, m3⟩
    have hI : Inv A 0 t2 := ⟨by rw [i4 0 (by omega) (by omega), if_pos rfl], fun s h1 h2 => Or.inl (by rw [i4 s (by omega) h2, if_neg (by omega)])⟩
    obtain ⟨t3, j1, j2, j3, j4, j5⟩ := manyL ok (nI p) 7 0 1000 t2 (by omega) (by omega) hB hI
    have j1 : fX5_ahead_L46 1000 (nI p) 0 t2 = _ := j1
    have hb := gets_b ok (p := p) hp6
    obtain ⟨t4, l1, l2⟩ := aheadL ok hp hb 64 0 1000 t3 (by omega) (by omega) (BA_fr hB j2) j3 (fun ⟨p', z1, z2⟩ => j5 rfl p' z1 p z2)
    have F0 : aFv (decide (go A p = some p)) (bS (gtN A (A 0 2)) p) p 0 = -9 := by
      unfold aFv
      rw [if_pos rfl, if_pos (Nat.zero_le _)]
      split
      · rfl
      · split <;> rfl
    rw [F0] at l1
    have l1 : fX5_ahead_L68 1000 (nI p) (-9) 0 t3 = _ := l1
    obtain ⟨t5, q1, q2, -⟩ := kept_back2 o hm.1.2.2 k2 k3 (τ2 := t4) (fun q j h1 h2 => by
      rw [l2 q j (by omega) (by omega), j2 q j (by omega) (by omega), i2 q (by omega)])
    rw [e1, kbi_s, if_neg one_ne, e2, kbi_s, if_pos rfl, k1, kbv_s, i1, j1, l1, q1, kbv_s, x_goes hx ok hp, kbi_s, x_getters hx ok, kbi_s, gtS_N ok, x_contains (gtN_64 ok _) hp6, kbi_s]
    have key : RA A σ t5 := RA_same hA sameX_rf ⟨fun j hj => by rw [q2 0 (by omega)], fun q h1 h2 => by rw [q2 q (by omega)], fun q h1 h2 k _ => by rw [q2 q (by omega)]⟩
    have hk := enc_k (A := A) (p := p) ok hp
    by_cases b1 : go A p = some p
    · rw [if_pos (hk.mpr b1)]
      refine ⟨_, _, _, rfl, ?_, A, key⟩
      unfold aFv
      rw [decide_eq_true b1, if_pos rfl, if_neg (by decide)]
    · rw [if_neg (fun z => b1 (hk.mp z))]
      by_cases b2 : bS (gtN A (A 0 2)) p = true
      · rw [if_pos b2, if_neg one_ne]
        refine ⟨_, _, _, rfl, ?_, A, key⟩
        have := (pow_64 p hp6).2
        unfold aFv
        rw [decide_eq_false b1, b2, if_neg (by decide), if_pos rfl, if_neg (by omega)]
      · rw [if_neg b2, if_pos rfl]
        refine ⟨_, _, _, rfl, ?_, A, key⟩
        unfold aFv
        rw [decide_eq_false b1, if_neg (by decide), if_neg b2]
  · rw [e1, kbi_s, if_pos rfl, e2, kbi_s, if_neg one_ne]
    exact ⟨_, _, _, rfl, rfl, h⟩
