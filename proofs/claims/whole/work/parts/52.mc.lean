/-! THE RELATION between the class's half of the state and the reference's -/
def rS (σ τ : kS) : Prop := ∀ k, k < 4 → (σ (12 + k) 0 = 0 ∧ τ 17 k = -1) ∨ (σ (12 + k) 0 = 1 ∧ ∃ n l, n ≤ 60 ∧ l < 3 ∧ σ (12 + k) 2 = nI n ∧ τ 17 k = nI n ∧ σ (12 + k) 1 = nI l ∧ τ 18 k = nI l ∧ ∀ i, i < n → σ (12 + k + 4) i = τ 19 (60 * k + i))
def rR (P : Nat) (σ τ : kS) : Prop := ∃ n, n ≤ 8 ∧ σ 0 9 = nI n ∧ τ 0 23 = nI n ∧ ∀ k, k < n → ∃ (a : Nat) (t : Option Nat), a < P ∧ (∀ b, t = some b → b < P) ∧ σ 21 k = nI a ∧ τ 15 k = nI a ∧ σ 22 k = enc t ∧ τ 16 k = enc t
def rC (σ τ : kS) : Prop := σ 0 10 = τ 0 4 ∧ σ 0 11 = τ 0 30 ∧ σ 0 12 = τ 0 0
def RA (A : kN) (σ τ : kS) : Prop := okA A ∧ rX 1 σ A ∧ rM τ A ∧ rS σ τ ∧ rR (A 0 2) σ τ ∧ rC σ τ
def RR (σ τ : kS) : Prop := ∃ A, RA A σ τ
/-- a call's two answers are one, and the relation holds behind it -/
def RI (fx fm : kS → Option (Int32 × kS)) : Prop := ∀ σ τ, RR σ τ → ∃ (r : Int32) (σ' τ' : kS), fx σ = some (r, σ') ∧ fm τ = some (r, τ') ∧ RR σ' τ'
def RIL (fx fm : kS → Option (Int64 × kS)) : Prop := ∀ σ τ, RR σ τ → ∃ (r : Int64) (σ' τ' : kS), fx σ = some (r, σ') ∧ fm τ = some (r, τ') ∧ RR σ' τ'
theorem lgc_lt (x y : Int64) : lg_cmp x y < 0 ↔ x < y := by
  unfold lg_cmp
  by_cases h : x > y
  · rw [if_pos h]
    exact ⟨fun z => absurd z (by decide), fun z => absurd z (Int64.lt_asymm h)⟩
  · rw [if_neg h]
    by_cases h2 : x = y
    · rw [if_pos h2]
      exact ⟨fun z => absurd z (by decide), fun z => absurd z (by rw [h2]; exact Int64.lt_irrefl)⟩
    · rw [if_neg h2]
      exact ⟨fun _ => Int64.lt_of_le_of_ne (Int64.not_lt.mp h) h2, fun _ => by decide⟩
theorem lgc_gt (x y : Int64) : 0 < lg_cmp x y ↔ y < x := by
  unfold lg_cmp
  by_cases h : x > y
  · rw [if_pos h]
    exact ⟨fun _ => h, fun _ => by decide⟩
  · rw [if_neg h]
    by_cases h2 : x = y
    · rw [if_pos h2]
      exact ⟨fun z => absurd z (by decide), fun z => absurd z h⟩
    · rw [if_neg h2]
      exact ⟨fun z => absurd z (by decide), fun z => absurd z h⟩
theorem m_in (a lo hi : Int64) (τ : kS) : fX5_in a lo hi τ = some (if lo ≤ a ∧ a ≤ hi then 1 else 0, τ) := by
  unfold fX5_in
  by_cases h : a < lo
  · rw [if_pos ((lgc_lt _ _).mpr h), if_neg (fun z => absurd h (Int64.not_lt.mpr z.1))]
  · rw [if_neg (fun z => h ((lgc_lt _ _).mp z))]
    by_cases h2 : hi < a
    · rw [if_pos ((lgc_gt _ _).mpr h2), if_neg (fun z => absurd h2 (Int64.not_lt.mpr z.2))]
    · rw [if_neg (fun z => h2 ((lgc_gt _ _).mp z)), if_pos ⟨Int64.not_lt.mp h, Int64.not_lt.mp h2⟩]
theorem i64_le (x : Int32) {K : Nat} (hK : K < 2 ^ 31) : x.toInt64 ≤ lN K ↔ x.toInt ≤ K := by
  rw [Int64.le_iff_toInt_le, Int32.toInt_toInt64, lN_toInt hK]
theorem i64_ge (x : Int32) {K : Nat} (hK : K < 2 ^ 31) : lN K ≤ x.toInt64 ↔ (K : Int) ≤ x.toInt := by
  rw [Int64.le_iff_toInt_le, Int32.toInt_toInt64, lN_toInt hK]
/-- a number is one of lo .. K, or it isn't -/
theorem m_rng (x : Int32) (lo K : Nat) (hK : K < 2 ^ 31) (hl : lo < 2 ^ 31) (τ : kS) : (∃ k, lo ≤ k ∧ k ≤ K ∧ x = nI k ∧ fX5_in x.toInt64 (lN lo) (lN K) τ = some (1, τ)) ∨ ((x.toInt < lo ∨ (K : Int) < x.toInt) ∧ fX5_in x.toInt64 (lN lo) (lN K) τ = some (0, τ)) := by
  rw [m_in]
  by_cases h : lN lo ≤ x.toInt64 ∧ x.toInt64 ≤ lN K
  · rw [if_pos h]
    rw [i64_ge x hl, i64_le x hK] at h
    refine Or.inl ⟨x.toInt.toNat, by omega, by omega, ?_, rfl⟩
    apply Int32.toInt_inj.mp
    rw [nI_toInt (by omega)]
    omega
  · rw [if_neg h]
    rw [i64_ge x hl, i64_le x hK] at h
    exact Or.inr ⟨by omega, rfl⟩
theorem x_below_in {k n : Nat} (h : k < n) (hn : n < 2 ^ 31) (σ : kS) : fX4_isBelow (nI k) (nI n) σ = some (1, σ) := by
  unfold fX4_isBelow
  rw [if_neg (nI_pos (by omega)), if_neg (by rw [nI_leI (by omega) (by omega)]; omega)]
theorem x_below_out {x : Int32} {n : Nat} (hn : n < 2 ^ 31) (h : x.toInt < 0 ∨ (n : Int) ≤ x.toInt) (σ : kS) : fX4_isBelow x (nI n) σ = some (0, σ) := by
  unfold fX4_isBelow
  by_cases c : x < 0
  · rw [if_pos c]
  · rw [if_neg c]
    rw [Int32.lt_iff_toInt_lt, show (0 : Int32).toInt = 0 from rfl] at c
    rw [if_pos (by rw [Int32.le_iff_toInt_le, nI_toInt hn]; omega)]
theorem rng_cases (x : Int32) (n : Nat) (hn : n < 2 ^ 31) : (∃ k, k < n ∧ x = nI k) ∨ (x.toInt < 0 ∨ (n : Int) ≤ x.toInt) := by
  by_cases h : 0 ≤ x.toInt ∧ x.toInt < n
  · refine Or.inl ⟨x.toInt.toNat, by omega, ?_⟩
    apply Int32.toInt_inj.mp
    rw [nI_toInt (by omega)]
    omega
  · exact Or.inr (by omega)
theorem m_in_in {k lo K : Nat} (h1 : lo ≤ k) (h2 : k ≤ K) (hK : K < 2 ^ 31) (τ : kS) : fX5_in (nI k).toInt64 (lN lo) (lN K) τ = some (1, τ) := by
  rw [m_in, if_pos]
  rw [i64_ge _ (by omega), i64_le _ hK, nI_toInt (by omega)]
  omega
theorem m_in_out {x : Int32} {lo K : Nat} (h : x.toInt < lo ∨ (K : Int) < x.toInt) (hl : lo < 2 ^ 31) (hK : K < 2 ^ 31) (τ : kS) : fX5_in x.toInt64 (lN lo) (lN K) τ = some (0, τ) := by
  rw [m_in, if_neg]
  rw [i64_ge _ hl, i64_le _ hK]
  omega
theorem lit_lN (n : Nat) : (@OfNat.ofNat Int64 n _) = lN n := rfl
/-- who is a PERSON, on both sides -/
theorem p_yes {A : kN} {σ τ : kS} {p : Nat} (hx : rX 1 σ A) (hm : rM τ A) (ok : okA A) (hp : p < A 0 2) : fX4_isPerson (nI p) σ = some (1, σ) ∧ fX5_noPerson (nI p) τ = some (0, τ) := by
  have o := ok.2.2.1
  constructor
  · unfold fX4_isPerson
    rw [hx.1.2.2, x_below_in hp (by omega), kbi_s]
  · have e1 : ∀ P : Nat, P ≤ 6 → ((nI P).toInt64 - 1).toInt = (P : Int) - 1 := by decide
    have e : fX5_in (nI p).toInt64 (0 : Int64) ((τ 0 1).toInt64 - 1) τ = some (1, τ) := by
      rw [hm.1.2.2, m_in, if_pos]
      rw [Int64.le_iff_toInt_le, Int64.le_iff_toInt_le, Int32.toInt_toInt64, show (0 : Int64).toInt = 0 from rfl, e1 _ o, nI_toInt (by omega)]
      omega
    unfold fX5_noPerson
    rw [e, kbi_s, if_neg (by decide)]
theorem p_no {A : kN} {σ τ : kS} {x : Int32} (hx : rX 1 σ A) (hm : rM τ A) (ok : okA A) (h : x.toInt < 0 ∨ (A 0 2 : Int) ≤ x.toInt) : fX4_isPerson x σ = some (0, σ) ∧ fX5_noPerson x τ = some (1, τ) := by
  have o := ok.2.2.1
  constructor
  · unfold fX4_isPerson
    rw [hx.1.2.2, x_below_out (by omega) h, kbi_s]
  · have e1 : ∀ P : Nat, P ≤ 6 → ((nI P).toInt64 - 1).toInt = (P : Int) - 1 := by decide
    have e : fX5_in x.toInt64 (0 : Int64) ((τ 0 1).toInt64 - 1) τ = some (0, τ) := by
      rw [hm.1.2.2, m_in, if_neg]
      rw [Int64.le_iff_toInt_le, Int64.le_iff_toInt_le, Int32.toInt_toInt64, show (0 : Int64).toInt = 0 from rfl, e1 _ o]
      omega
    unfold fX5_noPerson
    rw [e, kbi_s, if_pos rfl]
theorem p_cases {A : kN} {σ τ : kS} (hx : rX 1 σ A) (hm : rM τ A) (ok : okA A) (x : Int32) : (∃ p, p < A 0 2 ∧ x = nI p ∧ fX4_isPerson x σ = some (1, σ) ∧ fX5_noPerson x τ = some (0, τ)) ∨ ((x.toInt < 0 ∨ (A 0 2 : Int) ≤ x.toInt) ∧ fX4_isPerson x σ = some (0, σ) ∧ fX5_noPerson x τ = some (1, τ)) := by
  rcases rng_cases x (A 0 2) (by have := ok.2.2.1; omega) with ⟨p, hp, rfl⟩ | h
  · obtain ⟨a, b⟩ := p_yes hx hm ok hp
    exact Or.inl ⟨p, hp, rfl, a, b⟩
  · obtain ⟨a, b⟩ := p_no hx hm ok h
    exact Or.inr ⟨h, a, b⟩
theorem x_nomoor {A : kN} {σ : kS} (hx : rX 1 σ A) (ok : okA A) : fX4_hasNoMoor σ = some (if A 0 2 = 0 then 1 else 0, σ) := by
  have o := ok.2.2.1
  unfold fX4_hasNoMoor
  rw [hx.1.2.2]
  by_cases c : A 0 2 = 0
  · rw [if_pos c, c, if_pos (show nI 0 = 0 from rfl)]
  · rw [if_neg c, if_neg (nI_ne0 (by omega) (by omega))]
theorem m_nomoor {A : kN} {τ : kS} (hm : rM τ A) (ok : okA A) : τ 0 1 = 0 ↔ A 0 2 = 0 := by
  have o := ok.2.2.1
  rw [hm.1.2.2, show (0 : Int32) = nI 0 from rfl, nI_eq (by omega) (by omega)]
-- kup at known cells
theorem kup_at {ρ : kS} {q k : Nat} {x : Int32} : kup ρ q k x q k = x := by simp [kup]
theorem kup_q {ρ : kS} {q k q' j : Nat} {x : Int32} (h : q' ≠ q) : kup ρ q k x q' j = ρ q' j := by simp [kup, h]
theorem kup_k {ρ : kS} {q k q' j : Nat} {x : Int32} (h : j ≠ k) : kup ρ q k x q' j = ρ q' j := by simp [kup, h]
