theorem kup_kup {ρ : kS} {q k : Nat} {x y : Int32} : kup (kup ρ q k x) q k y = kup ρ q k y := by
  funext q' j
  simp only [kup]
  split <;> rfl
theorem c_as (a v : Int32) : RI (fX4_as a v) (fX5_as a v) := by
  intro σ τ h
  have ⟨A, hA⟩ := h
  have hA0 := RA_0x hA 0
  have hA2 := RA_0x hA 2
  obtain ⟨ok, hx, hm, -⟩ := id hA
  have hx0 := hA0.2.1
  have o := ok.2.2.1
  have er : ∀ x : Int32, fX5_refused x τ = some (x, kup τ 0 0 0) := fun x => rfl
  have ef : fX5_failed 2 τ = some ((-10) - 2, kup τ 0 0 2) := rfl
  have eg : fX4_faulted 2 (kup σ 0 12 0) = some ((-10) - 2, kup σ 0 12 2) := by unfold fX4_faulted; rw [kup_kup]
  unfold fX4_as fX5_as
  rcases p_cases hx0 hm ok a with ⟨p, hp, rfl, e1, e2⟩ | ⟨_, e1, e2⟩
  · have hi : inb (nI p) 6 := inb_lit (by omega) (by decide)
    have e : (nI p).toNatClampNeg = p := nI_clamp (by omega)
    have q1 := (ok.2.2.2 p hp).1
    rcases rng_cases v 3 (by decide) with ⟨k, hk, rfl⟩ | hk
    · simp only [e1, e2, kbi_s, one_z, ↓reduceIte, x_below1 3 hk (by decide) _ 3 rfl, m_in1 k 0 2 (by omega) (by decide) _ 0 2 rfl rfl, if_pos hi, e, (hx0.2 p hp).1, (hm.2 p hp).1, er, ef, eg]
      by_cases c : A 1 p < k
      · have c1 : nI (A 1 p) < nI k := (nI_ltI (by omega) (by omega)).mpr c
        have c2 : ¬ nI k ≤ nI (A 1 p) := Int32.not_le.mpr c1
        simp only [if_pos c1, if_neg c2]
        exact ⟨_, _, _, rfl, rfl, A, hA2⟩
      · have c1 : ¬ nI (A 1 p) < nI k := fun z => c ((nI_ltI (by omega) (by omega)).mp z)
        have c2 : nI k ≤ nI (A 1 p) := Int32.not_lt.mp c1
        simp only [if_neg c1, if_pos c2]
        exact ⟨_, _, _, rfl, rfl, A, hA0⟩
    · simp only [e1, e2, kbi_s, one_z, ↓reduceIte, x_below0 3 hk (by decide) _ 3 rfl, m_in0 v 0 2 (by omega) (by decide) (by decide) _ 0 2 rfl rfl, er]
      exact ⟨_, _, _, rfl, rfl, A, hA0⟩
  · simp only [e1, e2, kbi_s, one_z, ↓reduceIte, er]
    exact ⟨_, _, _, rfl, rfl, A, hA0⟩
theorem z01 : ((0 : Int32) = 0) = True := eq_true rfl
theorem c_tell (a : Int32) : RI (fX4_tell a) (fX5_tell a) := by
  intro σ τ h
  have ⟨A, hA⟩ := h
  obtain ⟨ok, hx, hm, hs, hr, hc⟩ := id hA
  have o := ok.2.2.1
  unfold fX4_tell fX5_tell
  rcases p_cases hx hm ok a with ⟨p, hp, rfl, e1, e2⟩ | ⟨_, e1, e2⟩
  · have hi : inb (nI p) 6 := inb_lit (by omega) (by decide)
    have e : (nI p).toNatClampNeg = p := nI_clamp (by omega)
    obtain ⟨q1, q2, q3, q4⟩ := ok.2.2.2 p hp
    have ex : ∀ (x : Int32) (σ : kS), fX4_begins x σ = some (kup σ 0 11 (31 * (σ 0 11) + x)) := fun x σ => rfl
    have em : ∀ (x : Int32) (τ : kS), fX5_traced x τ = some (kup τ 0 30 (31 * (τ 0 30) + x)) := fun x τ => rfl
    have et1 : ∀ (x : Int32) (τ : kS), kup τ 0 30 x 1 = τ 1 := fun x τ => by funext j; exact kup_q (by decide)
    have et2 : ∀ (x : Int32) (τ : kS), kup τ 0 30 x 2 = τ 2 := fun x τ => by funext j; exact kup_q (by decide)
    have es2 : ∀ (x : Int32) (τ : kS), kup τ 0 11 x 2 = τ 2 := fun x τ => by funext j; exact kup_q (by decide)
    have es3 : ∀ (x : Int32) (τ : kS), kup τ 0 11 x 3 = τ 3 := fun x τ => by funext j; exact kup_q (by decide)
    simp only [fX4_toldByReeking, fX4_toldByRank, fX4_toldByPlain, fX5_tell_J27, fX5_tell_J51, e1, e2, kbi_s, klet_e, one_z, ↓reduceIte, if_pos hi, e, ex, em, kbv_s, et1, et2, es2, es3, (hx.2 p hp).1, (hm.2 p hp).1, (hx.2 p hp).2.1, (hm.2 p hp).2.1, kup_kup, kup_at]
    rcases (show A 1 p = 0 ∨ A 1 p = 1 ∨ A 1 p = 2 by omega) with z | z | z
    · have g1 : ¬ nI 0 = 1 := by decide
      have g3 : nI 0 ≤ 0 := by decide
      have g4 : nI 0 = 0 := rfl
      simp only [z, n20, ↓reduceIte, if_neg g1, if_pos g3, if_pos g4, hc.2.1]
      exact ⟨_, _, _, rfl, rfl, A, RA_0 hA 11 30 _ (by omega)⟩
    · have g1 : nI 1 = 1 := rfl
      have g3 : ¬ nI 1 ≤ 0 := by decide
      have g4 : ¬ nI 1 = 0 := by decide
      simp only [z, n21, ↓reduceIte, if_pos g1, if_neg g3, if_neg g4, hc.2.1]
      exact ⟨_, _, _, rfl, rfl, A, RA_0 hA 11 30 _ (by omega)⟩
    · have g1 : ¬ nI 2 = 1 := by decide
      have g3 : ¬ nI 2 ≤ 0 := by decide
      have g4 : ¬ nI 2 = 0 := by decide
      have g5 : ∀ k, k < 8 → nI k + 100 + nI k = 2 * nI k + 100 := by decide
      simp only [z, n22, ↓reduceIte, if_neg g1, if_neg g3, if_neg g4, hc.2.1, g5 _ q2]
      exact ⟨_, _, _, rfl, rfl, A, RA_0 hA 11 30 _ (by omega)⟩
  · simp only [e1, e2, kbi_s, one_z, ↓reduceIte]
    exact ⟨_, _, _, rfl, rfl, h⟩
theorem c_back (a : Int32) : RI (fX4_back a) (fX5_back a) := by
  intro σ τ h
  have ⟨A, hA⟩ := h
  obtain ⟨ok, hx, hm, hs, ⟨n, hn, r1, r2, r3⟩, hc⟩ := id hA
  have o := ok.2.2.1
  unfold fX4_back fX5_back
  rcases rng_cases a (n + 1) (by omega) with ⟨k, hk, rfl⟩ | hk
  · have c1 : ¬ nI k < 0 := nI_pos (by omega)
    have c2 : nI k ≤ nI n := (nI_leI (by omega) (by omega)).mpr (by omega)
    simp only [r1, r2, if_neg c1, if_pos c2, m_in1 k 0 n (by omega) (by omega) _ 0 (nI n).toInt64 rfl (nI_l (by omega)), kbi_s, one_z, ↓reduceIte, kup_at, pk_sub (show k ≤ n by omega)]
    refine ⟨_, _, _, rfl, rfl, A, ok, rX_fr hx (fun q a b => by funext j; exact kup_q (by omega)), rM_fr hm (kup_k (by omega)) (kup_k (by omega)) (kup_k (by omega)) (fun q a b k _ => kup_q (by omega)), rS_fr hs (fun r a b => by funext j; exact kup_q (by omega)) (fun r a b => by funext j; exact kup_q (by omega)), ⟨n - k, by omega, kup_at, kup_at, fun i hi => ?_⟩, hc⟩
    obtain ⟨x, t, y⟩ := r3 i (by omega)
    exact ⟨x, t, y⟩
  · have e0 : fX5_in a.toInt64 0 (τ 0 23).toInt64 τ = some (0, τ) := by
      rw [r2]
      exact m_in0 a 0 n (by omega) (by omega) (by omega) _ 0 (nI n).toInt64 rfl (nI_l (by omega))
    simp only [e0, kbi_s, ↓reduceIte]
    by_cases c1 : a < 0
    · simp only [if_pos c1]
      exact ⟨_, _, _, rfl, rfl, h⟩
    · have c2 : ¬ a ≤ σ 0 9 := by
        rw [r1, Int32.le_iff_toInt_le, nI_toInt (by omega)]
        rw [Int32.lt_iff_toInt_lt, show (0 : Int32).toInt = 0 from rfl] at c1
        omega
      simp only [if_neg c1, if_neg c2]
      exact ⟨_, _, _, rfl, rfl, h⟩
theorem r_add {A : kN} {σ τ : kS} (hA : RA A σ τ) {p : Nat} (hp : p < A 0 2) (t : Option Nat) (ht : ∀ b, t = some b → b < A 0 2) : ∃ (r : Int32) (σ' τ' : kS), fX4_reading_J26 (nI p) (enc t) σ = some (r, σ') ∧ fX5_reading_J24 (nI p) (enc t) τ = some (r, τ') ∧ RA A σ' τ' := by
  obtain ⟨ok, hx, hm, hs, ⟨n, hn, r1, r2, r3⟩, hc⟩ := id hA
  unfold fX4_reading_J26 fX5_reading_J24
  by_cases c : n = 8
  · subst c
    have c1 : ¬ nI 8 < 8 := by decide
    have c2 : nI 8 = 8 := rfl
    simp only [r1, r2, if_neg c1, if_pos c2]
    exact ⟨_, _, _, rfl, rfl, hA⟩
  · have c1 : nI n < 8 := (nI_ltI (a := n) (b := 8) (by omega) (by omega)).mpr (by omega)
    have c2 : ¬ nI n = 8 := fun z => c ((nI_eq (a := n) (b := 8) (by omega) (by omega)).mp z)
    have hi : inb (nI n) 8 := inb_lit (by omega) (by decide)
    have e : (nI n).toNatClampNeg = n := nI_clamp (by omega)
    have g1 : ∀ (x : Int32) (k : Nat) (ρ : kS), kup ρ 21 k x 0 9 = ρ 0 9 := fun x k ρ => kup_q (by decide)
    have g2 : ∀ (x : Int32) (k : Nat) (ρ : kS), kup ρ 22 k x 0 9 = ρ 0 9 := fun x k ρ => kup_q (by decide)
    have g3 : ∀ (x : Int32) (k : Nat) (ρ : kS), kup ρ 15 k x 0 23 = ρ 0 23 := fun x k ρ => kup_q (by decide)
    have g4 : ∀ (x : Int32) (k : Nat) (ρ : kS), kup ρ 16 k x 0 23 = ρ 0 23 := fun x k ρ => kup_q (by decide)
    simp only [r1, r2, g1, g2, g3, g4, if_pos c1, if_neg c2, if_pos hi, e, kup_at, nI_1]
    refine ⟨_, _, _, rfl, rfl, ok, rX_fr hx (fun q a b => by funext j; rw [kup_q (by omega), kup_q (by omega), kup_q (by omega)]), rM_fr hm ?_ ?_ ?_ ?_, rS_fr hs (fun r a b => by funext j; rw [kup_q (by omega), kup_q (by omega), kup_q (by omega)]) (fun r a b => by funext j; rw [kup_q (by omega), kup_q (by omega), kup_q (by omega)]), ⟨n + 1, by omega, kup_at, kup_at, fun i hi => ?_⟩, ?_⟩
    · rw [kup_k (by omega), kup_q (by omega), kup_q (by omega)]
    · rw [kup_k (by omega), kup_q (by omega), kup_q (by omega)]
    · rw [kup_k (by omega), kup_q (by omega), kup_q (by omega)]
    · intro q a b k _
      rw [kup_q (by omega), kup_q (by omega), kup_q (by omega)]
    · by_cases d : i = n
      · subst d
        exact ⟨p, t, hp, ht, by simp [kup], by simp [kup], by simp [kup], by simp [kup]⟩
      · obtain ⟨x, u, y1, y2, y3, y4, y5, y6⟩ := r3 i (by omega)
        exact ⟨x, u, y1, y2, by simp [kup, d, y3], by simp [kup, d, y4], by simp [kup, d, y5], by simp [kup, d, y6]⟩
    · exact hc
theorem c_reading (a v : Int32) : RI (fX4_reading a v) (fX5_reading a v) := by
  intro σ τ h
  have ⟨A, hA⟩ := h
  obtain ⟨ok, hx, hm, -⟩ := id hA
  have o := ok.2.2.1
  unfold fX4_reading fX5_reading
  rcases p_cases hx hm ok a with ⟨p, hp, rfl, e1, e2⟩ | ⟨_, e1, e2⟩
  · rcases p_cases hx hm ok v with ⟨q, hq, rfl, e3, e4⟩ | ⟨hv, e3, e4⟩
    · simp only [e1, e2, e3, e4, kbi_s, one_z, ↓reduceIte]
      obtain ⟨r, s1, t1, h1, h2, h3⟩ := r_add hA hp (some q) (fun b hb => by cases hb; exact hq)
      exact ⟨r, s1, t1, h1, h2, A, h3⟩
    · simp only [e1, e2, e3, e4, kbi_s, one_z, ↓reduceIte]
      by_cases c : v = -9
      · subst c
        obtain ⟨r, s1, t1, h1, h2, h3⟩ := r_add hA hp none (fun b hb => by cases hb)
        simp only [↓reduceIte]
        exact ⟨r, s1, t1, h1, h2, A, h3⟩
      · simp only [if_neg c]
        exact ⟨_, _, _, rfl, rfl, h⟩
  · simp only [e1, e2, kbi_s, one_z, ↓reduceIte]
    exact ⟨_, _, _, rfl, rfl, h⟩
