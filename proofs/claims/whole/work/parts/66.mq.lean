/-! ROUNDS: kept and brought back; the call -/
theorem keepL {P : Nat} (hP : P ≤ 6) : ∀ (m x f : Nat) (τ : kS), x + m = P → m < f → τ 0 1 = nI P → ∃ τ', fX5_keepAll_L2 f (nI x) τ = some τ' ∧ (∀ q, q < 9 ∨ 11 < q → τ' q = τ q) ∧ (∀ p, x ≤ p → p < P → τ' 9 p = τ 2 p ∧ τ' 10 p = τ 3 p ∧ τ' 11 p = τ 4 p) ∧ (∀ q p, p < x → τ' q p = τ q p) := by
  intro m
  induction m with
  | zero =>
    intro x f τ hx hf h
    obtain ⟨f, rfl⟩ : ∃ j, f = j + 1 := ⟨f - 1, by omega⟩
    rw [fX5_keepAll_L2, if_pos (by rw [h, nI_leI (by omega) (by omega)]; omega)]
    exact ⟨τ, rfl, fun _ _ => rfl, fun p h1 h2 => by omega, fun _ _ _ => rfl⟩
  | succ m ih =>
    intro x f τ hx hf h
    obtain ⟨f, rfl⟩ : ∃ j, f = j + 1 := ⟨f - 1, by omega⟩
    have hi : inb (nI x) 6 := inb_lit (by omega) (by decide)
    have e : (nI x).toNatClampNeg = x := nI_clamp (by omega)
    rw [fX5_keepAll_L2, if_neg (by rw [h, nI_leI (by omega) (by omega)]; omega), if_pos hi, if_pos hi, if_pos hi, if_pos hi, if_pos hi, if_pos hi, klet_e, nI_1, e]
    obtain ⟨t', h1, h2, h3, h4⟩ := ih (x + 1) f (kup (kup (kup τ 9 x (τ 2 x)) 10 x ((kup τ 9 x (τ 2 x)) 3 x)) 11 x ((kup (kup τ 9 x (τ 2 x)) 10 x ((kup τ 9 x (τ 2 x)) 3 x)) 4 x)) (by omega) (by omega) (by simpa [kup] using h)
    refine ⟨t', h1, fun q hq => ?_, fun p a b => ?_, fun q p a => ?_⟩
    · rw [h2 q hq, kup_ne (by omega), kup_ne (by omega), kup_ne (by omega)]
    · by_cases d : p = x
      · subst d
        rw [h4 9 p (by omega), h4 10 p (by omega), h4 11 p (by omega)]
        simp [kup]
      · obtain ⟨a1, a2, a3⟩ := h3 p (by omega) b
        rw [a1, a2, a3]
        simp [kup]
    · have d : ¬ p = x := by omega
      rw [h4 q p (by omega)]
      simp [kup, d]
theorem keep_all {P : Nat} (hP : P ≤ 6) (τ : kS) (h : τ 0 1 = nI P) : ∃ τ', fX5_keepAll τ = some τ' ∧ (∀ q, q < 9 ∨ 11 < q → τ' q = τ q) ∧ (∀ p, p < P → τ' 9 p = τ 2 p ∧ τ' 10 p = τ 3 p ∧ τ' 11 p = τ 4 p) := by
  obtain ⟨t', h1, h2, h3, -⟩ := keepL hP P 0 1000 τ (by omega) (by omega) h
  exact ⟨t', h1, h2, fun p hp => h3 p (by omega) hp⟩
theorem bringL {P : Nat} (hP : P ≤ 6) : ∀ (m x f : Nat) (τ : kS), x + m = P → m < f → τ 0 1 = nI P → ∃ τ', fX5_bringBack_L2 f (nI x) τ = some τ' ∧ (∀ q, q < 2 ∨ 4 < q → τ' q = τ q) ∧ (∀ p, x ≤ p → p < P → τ' 2 p = τ 9 p ∧ τ' 3 p = τ 10 p ∧ τ' 4 p = τ 11 p) ∧ (∀ q p, p < x ∨ P ≤ p → τ' q p = τ q p) := by
  intro m
  induction m with
  | zero =>
    intro x f τ hx hf h
    obtain ⟨f, rfl⟩ : ∃ j, f = j + 1 := ⟨f - 1, by omega⟩
    rw [fX5_bringBack_L2, if_pos (by rw [h, nI_leI (by omega) (by omega)]; omega)]
    exact ⟨τ, rfl, fun _ _ => rfl, fun p h1 h2 => by omega, fun _ _ _ => rfl⟩
  | succ m ih =>
    intro x f τ hx hf h
    obtain ⟨f, rfl⟩ : ∃ j, f = j + 1 := ⟨f - 1, by omega⟩
    have hi : inb (nI x) 6 := inb_lit (by omega) (by decide)
    have e : (nI x).toNatClampNeg = x := nI_clamp (by omega)
    rw [fX5_bringBack_L2, if_neg (by rw [h, nI_leI (by omega) (by omega)]; omega), if_pos hi, if_pos hi, if_pos hi, if_pos hi, if_pos hi, if_pos hi, klet_e, nI_1, e]
    obtain ⟨t', h1, h2, h3, h4⟩ := ih (x + 1) f (kup (kup (kup τ 2 x (τ 9 x)) 3 x ((kup τ 2 x (τ 9 x)) 10 x)) 4 x ((kup (kup τ 2 x (τ 9 x)) 3 x ((kup τ 2 x (τ 9 x)) 10 x)) 11 x)) (by omega) (by omega) (by simpa [kup] using h)
    refine ⟨t', h1, fun q hq => ?_, fun p a b => ?_, fun q p a => ?_⟩
    · rw [h2 q hq, kup_ne (by omega), kup_ne (by omega), kup_ne (by omega)]
    · by_cases d : p = x
      · subst d
        rw [h4 2 p (by omega), h4 3 p (by omega), h4 4 p (by omega)]
        simp [kup]
      · obtain ⟨a1, a2, a3⟩ := h3 p (by omega) b
        rw [a1, a2, a3]
        simp [kup]
    · have d : ¬ p = x := by omega
      rw [h4 q p (by omega)]
      simp [kup, d]
theorem bring_back {P : Nat} (hP : P ≤ 6) (τ : kS) (h : τ 0 1 = nI P) : ∃ τ', fX5_bringBack τ = some τ' ∧ (∀ q, q < 2 ∨ 4 < q → τ' q = τ q) ∧ (∀ p, p < P → τ' 2 p = τ 9 p ∧ τ' 3 p = τ 10 p ∧ τ' 4 p = τ 11 p) ∧ (∀ q p, P ≤ p → τ' q p = τ q p) := by
  obtain ⟨t', h1, h2, h3, h4⟩ := bringL hP P 0 1000 τ (by omega) (by omega) h
  exact ⟨t', h1, h2, fun p hp => h3 p (by omega) hp, fun q p hp => h4 q p (Or.inr hp)⟩
/-- kept, changed in SMELL, WAS, PLACE alone, and brought back: the same -/
theorem kept_back {P : Nat} (hP : P ≤ 6) {τ τk τ2 : kS} (h : τ 0 1 = nI P) (k1 : ∀ q, q < 9 ∨ 11 < q → τk q = τ q) (k2 : ∀ p, p < P → τk 9 p = τ 2 p ∧ τk 10 p = τ 3 p ∧ τk 11 p = τ 4 p) (s : sameP P τk τ2) : ∃ τ', fX5_bringBack τ2 = some τ' ∧ (∀ q, q < 9 ∨ 11 < q → τ' q = τ q) := by
  have e0 : τ2 0 1 = nI P := by rw [s 0 1 (by omega), k1 0 (by omega)]; exact h
  obtain ⟨t', f1, f2, f3, f4⟩ := bring_back hP τ2 e0
  refine ⟨t', f1, fun q hq => ?_⟩
  by_cases c : 2 ≤ q ∧ q ≤ 4
  · funext p
    by_cases d : p < P
    · obtain ⟨a1, a2, a3⟩ := f3 p d
      obtain ⟨b1, b2, b3⟩ := k2 p d
      rcases (show q = 2 ∨ q = 3 ∨ q = 4 by omega) with rfl | rfl | rfl
      · rw [a1, s 9 p (by omega), b1]
      · rw [a2, s 10 p (by omega), b2]
      · rw [a3, s 11 p (by omega), b3]
    · rw [f4 q p (by omega), s q p (by omega), k1 q hq]
  · funext p
    rw [f2 q (by omega), s q p (by omega), k1 q hq]
theorem what_cases (v : Int32) (σ τ : kS) : (∃ a, (a ≤ 3 ∨ (10 ≤ a ∧ a ≤ 15)) ∧ v = nI a ∧ fX4_isOfRound v σ = some (1, σ) ∧ ((fX5_in v.toInt64 0 3 τ = some (1, τ)) ∨ (fX5_in v.toInt64 0 3 τ = some (0, τ) ∧ fX5_in v.toInt64 10 15 τ = some (1, τ)))) ∨ (fX4_isOfRound v σ = some (0, σ) ∧ fX5_in v.toInt64 0 3 τ = some (0, τ) ∧ fX5_in v.toInt64 10 15 τ = some (0, τ)) := by
  unfold fX4_isOfRound
  rcases rng_cases v 4 (by decide) with ⟨a, ha, rfl⟩ | h
  · refine Or.inl ⟨a, Or.inl (by omega), rfl, ?_, Or.inl (m_in1 a 0 3 (by omega) (by decide) _ 0 3 rfl rfl)⟩
    rw [x_below1 4 ha (by decide) _ 4 rfl, kbi_s, if_neg one_ne]
  · have e1 := x_below0 4 h (by decide) σ 4 rfl
    have e2 := m_in0 v 0 3 (by omega) (by decide) (by decide) τ 0 3 rfl rfl
    rw [e1, kbi_s, if_pos rfl]
    rcases rng_cases (v - 10) 6 (by decide) with ⟨a, ha, hv⟩ | h2
    · have hv2 : v = nI (a + 10) := by
        have : v - 10 + 10 = nI a + 10 := by rw [hv]
        rw [Int32.sub_add_cancel] at this
        rw [this]
        exact nI_add a 10
      subst hv2
      refine Or.inl ⟨a + 10, Or.inr (by omega), rfl, ?_, Or.inr ⟨e2, m_in1 (a + 10) 10 15 (by omega) (by decide) _ 10 15 rfl rfl⟩⟩
      rw [hv, x_below1 6 ha (by decide) _ 6 rfl, kbi_s, if_neg one_ne]
    · refine Or.inr ⟨?_, e2, m_in0 v 10 15 ?_ (by decide) (by decide) _ 10 15 rfl rfl⟩
      · rw [x_below0 6 h2 (by decide) _ 6 rfl, kbi_s, if_pos rfl]
      · by_cases c : 10 ≤ v.toInt ∧ v.toInt ≤ 15
        · have hv : v = nI v.toInt.toNat := by
            apply Int32.toInt_inj.mp
            rw [nI_toInt (by omega)]
            omega
          rw [hv, show (10 : Int32) = nI 10 from rfl, pk_sub (by omega), nI_toInt (by omega)] at h2
          omega
        · omega
theorem x_shift {σ : kS} {B : kN} (h : rX 6 σ B) : rX 1 (fun q => σ (q + 5)) B := h
/-- what a round's call answers, on both sides -/
theorem of_round {A B : kN} {a n : Nat} {base : Int32} {σ τ : kS} (ha : a ≤ 3 ∨ (10 ≤ a ∧ a ≤ 15)) (hx : rX 1 σ A) (hm : rM τ B) (ok : okA A) (okB : okA B) (hP : B 0 2 = A 0 2) (h6 : rX 6 σ B) : ∃ r, fX4_ofRound (nI a) σ = some (r, σ) ∧ fX5_roundBy_L16 1 base (nI n) (nI a) (σ 20 0) (σ 20 1) (σ 20 2) (σ 20 3) (nI n) τ = some (r, τ) := by
  have o := ok.2.2.1
  have lt : ∀ b, b < 2 ^ 31 → (nI a = nI b ↔ a = b) := fun b hb => nI_eq (by omega) hb
  unfold fX4_ofRound
  rw [fX5_roundBy_L16, if_pos (Int32.le_refl _)]
  by_cases c0 : a = 0
  · rw [if_pos (show nI a = 0 from (lt 0 (by decide)).mpr c0), if_pos (show nI a < 10 from (nI_ltI (a := a) (b := 10) (by omega) (by omega)).mpr (by omega)), if_pos (show nI a = 0 from (lt 0 (by decide)).mpr c0)]
    exact ⟨_, rfl, rfl⟩
  have d0 : ¬ nI a = 0 := fun z => c0 ((lt 0 (by decide)).mp z)
  by_cases c1 : a = 1
  · rw [if_neg d0, if_pos (show nI a = 1 from (lt 1 (by decide)).mpr c1), if_pos (show nI a < 10 from (nI_ltI (a := a) (b := 10) (by omega) (by omega)).mpr (by omega)), if_neg d0, if_pos (show nI a = 1 from (lt 1 (by decide)).mpr c1)]
    exact ⟨_, rfl, rfl⟩
  have d1 : ¬ nI a = 1 := fun z => c1 ((lt 1 (by decide)).mp z)
  by_cases c2 : a = 2
  · rw [if_neg d0, if_neg d1, if_pos (show nI a = 2 from (lt 2 (by decide)).mpr c2), if_pos (show nI a < 10 from (nI_ltI (a := a) (b := 10) (by omega) (by omega)).mpr (by omega)), if_neg d0, if_neg d1, if_pos (show nI a = 2 from (lt 2 (by decide)).mpr c2)]
    exact ⟨_, rfl, rfl⟩
  have d2 : ¬ nI a = 2 := fun z => c2 ((lt 2 (by decide)).mp z)
  by_cases c3 : a = 3
  · rw [if_neg d0, if_neg d1, if_neg d2, if_pos (show nI a = 3 from (lt 3 (by decide)).mpr c3), if_pos (show nI a < 10 from (nI_ltI (a := a) (b := 10) (by omega) (by omega)).mpr (by omega)), if_neg d0, if_neg d1, if_neg d2]
    exact ⟨_, rfl, rfl⟩
  have d3 : ¬ nI a = 3 := fun z => c3 ((lt 3 (by decide)).mp z)
  rw [if_neg d0, if_neg d1, if_neg d2, if_neg d3, if_neg (show ¬ nI a < 10 from fun z => by have := (nI_ltI (a := a) (b := 10) (by omega) (by omega)).mp z; omega)]
  have ea : nI a - 10 = nI (a - 10) := pk_sub (a := a) (b := 10) (by omega)
  rw [ea]
  have o2 : B 0 2 ≤ 6 := okB.2.2.1
  have xp : ∀ p, p < 6 → fX4_isPerson (nI p) σ = some (if p < A 0 2 then 1 else 0, σ) := by
    intro p hp
    unfold fX4_isPerson
    rw [hx.1.2.2]
    by_cases c : p < A 0 2
    · rw [x_below_in c (by omega), kbi_s, if_pos c]
    · rw [x_below_out (by omega) (by rw [nI_toInt (by omega)]; omega), kbi_s, if_neg c]
  have mp : ∀ p, p < 6 → fX5_noPerson (nI p) τ = some (if p < A 0 2 then 0 else 1, τ) := by
    intro p hp
    by_cases c : p < A 0 2
    · rw [(p_yes (σ := fun q => σ (q + 5)) (A := B) (p := p) (x_shift h6) hm okB (by omega)).2, if_pos c]
    · rw [(p_no (σ := fun q => σ (q + 5)) (A := B) (x := nI p) (x_shift h6) hm okB (by rw [nI_toInt (by omega)]; omega)).2, if_neg c]
  rw [xp (a - 10) (by omega), mp (a - 10) (by omega), kbi_s, kbi_s]
  by_cases c : a - 10 < A 0 2
  · have hi : inb (nI (a - 10)) 6 := inb_lit (by omega) (by decide)
    have e : (nI (a - 10)).toNatClampNeg = a - 10 := nI_clamp (by omega)
    rw [if_pos c, if_pos c, if_neg one_ne, if_pos hi, if_pos rfl, if_pos hi, e]
    refine ⟨_, rfl, ?_⟩
    rw [(hm.2 (a - 10) (by omega)).2.2.1, show σ 9 (a - 10) = nI (B 3 (a - 10)) from (h6.2 (a - 10) (by omega)).2.2.1]
  · rw [if_neg c, if_neg c, if_pos rfl, if_neg one_ne]
    exact ⟨_, rfl, rfl⟩
