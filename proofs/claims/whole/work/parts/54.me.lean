/-! one number of one PERSON changed; the calls that do that; readings; bodies that tell -/
theorem rX_up {b q p v : Nat} {σ : kS} {A : kN} (h : rX b σ A) (h1 : 1 ≤ q) (h4 : q ≤ 4) : rX b (kup σ (b + q) p (nI v)) (nup A q p v) := by
  have hq : ¬ (0 = q) := by omega
  have hb : ¬ (b = b + q) := by omega
  have e02 : nup A q p v 0 2 = A 0 2 := by simp [nup, hq]
  refine ⟨⟨?_, ?_, ?_⟩, fun k hk => ?_⟩
  · simp only [kup, nup, hq, hb, false_and, if_false]; exact h.1.1
  · simp only [kup, nup, hq, hb, false_and, if_false]; exact h.1.2.1
  · simp only [kup, nup, hq, hb, false_and, if_false]; exact h.1.2.2
  · rw [e02] at hk
    obtain ⟨k1, k2, k3, k4⟩ := h.2 k hk
    have g : ∀ i, i ≤ 4 → 1 ≤ i → σ (b + i) k = nI (A i k) → kup σ (b + q) p (nI v) (b + i) k = nI (nup A q p v i k) := by
      intro i _ _ hi
      by_cases c : i = q
      · subst c
        by_cases d : k = p
        · simp [kup, nup, d]
        · simp only [kup, nup, d, and_false, if_false]; exact hi
      · have c2 : ¬ (b + i = b + q) := by omega
        simp only [kup, nup, c, c2, false_and, if_false]; exact hi
    exact ⟨g 1 (by omega) (by omega) k1, g 2 (by omega) (by omega) k2, g 3 (by omega) (by omega) k3, g 4 (by omega) (by omega) k4⟩
theorem rM_up {q p v : Nat} {τ : kS} {A : kN} (h : rM τ A) (h1 : 1 ≤ q) (h4 : q ≤ 4) : rM (kup τ q p (nI v)) (nup A q p v) := by
  have hq : ¬ (0 = q) := by omega
  have e02 : nup A q p v 0 2 = A 0 2 := by simp [nup, hq]
  refine ⟨⟨?_, ?_, ?_⟩, fun k hk => ?_⟩
  · simp only [kup, nup, hq, false_and, if_false]; exact h.1.1
  · simp only [kup, nup, hq, false_and, if_false]; exact h.1.2.1
  · simp only [kup, nup, hq, false_and, if_false]; exact h.1.2.2
  · rw [e02] at hk
    obtain ⟨k1, k2, k3, k4⟩ := h.2 k hk
    have g : ∀ i, i ≤ 4 → 1 ≤ i → τ i k = nI (A i k) → kup τ q p (nI v) i k = nI (nup A q p v i k) := by
      intro i _ _ hi
      by_cases c : i = q
      · subst c
        by_cases d : k = p
        · simp [kup, nup, d]
        · simp only [kup, nup, d, and_false, if_false]; exact hi
      · simp only [kup, nup, c, false_and, if_false]; exact hi
    exact ⟨g 1 (by omega) (by omega) k1, g 2 (by omega) (by omega) k2, g 3 (by omega) (by omega) k3, g 4 (by omega) (by omega) k4⟩
theorem nup_02 {A : kN} {q p v : Nat} (h1 : 1 ≤ q) : nup A q p v 0 2 = A 0 2 := by
  have hq : ¬ (0 = q) := by omega
  simp [nup, hq]
theorem ok_up {A : kN} {q p v : Nat} (ok : okA A) (h1 : 1 ≤ q) (hv : (q = 1 → v < 3) ∧ (q = 2 → v < 8) ∧ (q = 3 → v < 8) ∧ (q = 4 → v < 10)) : okA (nup A q p v) := by
  have hq : ¬ (0 = q) := by omega
  obtain ⟨o1, o2, o3, o4⟩ := ok
  have e : ∀ j, nup A q p v 0 j = A 0 j := by intro j; simp [nup, hq]
  refine ⟨by rw [e]; exact o1, by rw [e]; exact o2, by rw [e]; exact o3, fun k hk => ?_⟩
  rw [e] at hk
  obtain ⟨a, b, c, d⟩ := o4 k hk
  refine ⟨?_, ?_, ?_, ?_⟩ <;> unfold nup <;> split
  · rename_i z; exact hv.1 z.1.symm
  · exact a
  · rename_i z; exact hv.2.1 z.1.symm
  · exact b
  · rename_i z; exact hv.2.2.1 z.1.symm
  · exact c
  · rename_i z; exact hv.2.2.2 z.1.symm
  · exact d
theorem RA_up {A : kN} {σ τ : kS} {q p v : Nat} (h : RA A σ τ) (h1 : 1 ≤ q) (h4 : q ≤ 4) (hv : (q = 1 → v < 3) ∧ (q = 2 → v < 8) ∧ (q = 3 → v < 8) ∧ (q = 4 → v < 10)) : RA (nup A q p v) (kup σ (1 + q) p (nI v)) (kup τ q p (nI v)) := by
  obtain ⟨ok, hx, hm, hs, hr, hc⟩ := h
  refine ⟨ok_up ok h1 hv, rX_up hx h1 h4, rM_up hm h1 h4, rS_fr hs (fun r a b => by funext j; exact kup_q (by omega)) (fun r a b => by funext j; exact kup_q (by omega)), ?_, ?_⟩
  · rw [nup_02 h1]
    exact rR_fr hr (kup_q (by omega)) (kup_q (by omega)) (by funext j; exact kup_q (by omega)) (by funext j; exact kup_q (by omega)) (by funext j; exact kup_q (by omega)) (by funext j; exact kup_q (by omega))
  · refine ⟨?_, ?_, ?_⟩ <;> rw [kup_q (by omega), kup_q (by omega)]
    · exact hc.1
    · exact hc.2.1
    · exact hc.2.2
theorem one_z : ((1 : Int32) = 0) = False := eq_false (by decide)
theorem x_below1 {k : Nat} (n : Nat) (h : k < n) (hn : n < 2 ^ 31) (σ : kS) (m : Int32) (hm : m = nI n) : fX4_isBelow (nI k) m σ = some (1, σ) := by rw [hm]; exact x_below_in h hn σ
theorem x_below0 {x : Int32} (n : Nat) (h : x.toInt < 0 ∨ (n : Int) ≤ x.toInt) (hn : n < 2 ^ 31) (σ : kS) (m : Int32) (hm : m = nI n) : fX4_isBelow x m σ = some (0, σ) := by rw [hm]; exact x_below_out hn h σ
theorem m_in1 (k lo K : Nat) (h : lo ≤ k ∧ k ≤ K) (hK : K < 2 ^ 31) (τ : kS) (a b : Int64) (ha : a = lN lo) (hb : b = lN K) : fX5_in (nI k).toInt64 a b τ = some (1, τ) := by rw [ha, hb]; exact m_in_in h.1 h.2 hK τ
theorem m_in0 (x : Int32) (lo K : Nat) (h : x.toInt < lo ∨ (K : Int) < x.toInt) (hl : lo < 2 ^ 31) (hK : K < 2 ^ 31) (τ : kS) (a b : Int64) (ha : a = lN lo) (hb : b = lN K) : fX5_in x.toInt64 a b τ = some (0, τ) := by rw [ha, hb]; exact m_in_out h hl hK τ
theorem c_bathe (a v : Int32) : RI (fX4_bathe a v) (fX5_bathe a v) := by
  intro σ τ h
  have ⟨A, hA⟩ := h
  obtain ⟨ok, hx, hm, hs, hr, hc⟩ := id hA
  have o := ok.2.2.1
  unfold fX4_bathe fX4_becomes fX5_bathe
  rcases p_cases hx hm ok a with ⟨p, hp, rfl, e1, e2⟩ | ⟨_, e1, e2⟩
  · have hi : inb (nI p) 6 := inb_lit (by omega) (by decide)
    have e : (nI p).toNatClampNeg = p := nI_clamp (by omega)
    rcases rng_cases v 8 (by decide) with ⟨k, hk, rfl⟩ | hk
    · simp only [e1, e2, kbi_s, one_z, ↓reduceIte, x_below1 8 hk (by decide) _ 8 rfl, m_in1 k 0 7 (by omega) (by decide) _ 0 7 rfl rfl, if_pos hi, klet_e, e, (hx.2 p hp).2.1, (hm.2 p hp).2.1]
      exact ⟨_, _, _, rfl, rfl, _, RA_up (q := 2) hA (by omega) (by omega) (by omega)⟩
    · simp only [e1, e2, kbi_s, one_z, ↓reduceIte, x_below0 8 hk (by decide) _ 8 rfl, m_in0 v 0 7 (by omega) (by decide) (by decide) _ 0 7 rfl rfl]
      exact ⟨_, _, _, rfl, rfl, h⟩
  · simp only [e1, e2, kbi_s, one_z, ↓reduceIte]
    exact ⟨_, _, _, rfl, rfl, h⟩
theorem c_moves (a v : Int32) : RI (fX4_moves a v) (fX5_moves a v) := by
  intro σ τ h
  have ⟨A, hA⟩ := h
  obtain ⟨ok, hx, hm, hs, hr, hc⟩ := id hA
  have o := ok.2.2.1
  unfold fX4_moves fX4_becomes fX5_moves
  rcases p_cases hx hm ok a with ⟨p, hp, rfl, e1, e2⟩ | ⟨_, e1, e2⟩
  · have hi : inb (nI p) 6 := inb_lit (by omega) (by decide)
    have e : (nI p).toNatClampNeg = p := nI_clamp (by omega)
    rcases rng_cases v 10 (by decide) with ⟨k, hk, rfl⟩ | hk
    · simp only [e1, e2, kbi_s, one_z, ↓reduceIte, x_below1 10 hk (by decide) _ 10 rfl, m_in1 k 0 9 (by omega) (by decide) _ 0 9 rfl rfl, if_pos hi, klet_e, e, (hx.2 p hp).2.2.2, (hm.2 p hp).2.2.2]
      exact ⟨_, _, _, rfl, rfl, _, RA_up (q := 4) hA (by omega) (by omega) (by omega)⟩
    · simp only [e1, e2, kbi_s, one_z, ↓reduceIte, x_below0 10 hk (by decide) _ 10 rfl, m_in0 v 0 9 (by omega) (by decide) (by decide) _ 0 9 rfl rfl]
      exact ⟨_, _, _, rfl, rfl, h⟩
  · simp only [e1, e2, kbi_s, one_z, ↓reduceIte]
    exact ⟨_, _, _, rfl, rfl, h⟩
/-- trace, fault, letters changed alike -/
theorem RA_0 {A : kN} {σ τ : kS} (h : RA A σ τ) (j i : Nat) (x : Int32) (hji : (j = 10 ∧ i = 4) ∨ (j = 11 ∧ i = 30) ∨ (j = 12 ∧ i = 0)) : RA A (kup σ 0 j x) (kup τ 0 i x) := by
  obtain ⟨ok, hx, hm, hs, hr, hc⟩ := h
  refine ⟨ok, rX_fr hx (fun q a b => by funext k; exact kup_q (by omega)), rM_fr hm (kup_k (by omega)) (kup_k (by omega)) (kup_k (by omega)) (fun q a b k _ => kup_q (by omega)), rS_fr hs (fun r a b => by funext j; exact kup_q (by omega)) (fun r a b => by funext j; exact kup_q (by omega)), rR_fr hr (kup_k (by omega)) (kup_k (by omega)) (by funext j; exact kup_q (by omega)) (by funext j; exact kup_q (by omega)) (by funext j; exact kup_q (by omega)) (by funext j; exact kup_q (by omega)), ?_⟩
  obtain ⟨c1, c2, c3⟩ := hc
  rcases hji with ⟨rfl, rfl⟩ | ⟨rfl, rfl⟩ | ⟨rfl, rfl⟩ <;> refine ⟨?_, ?_, ?_⟩ <;> simp [kup, c1, c2, c3]
theorem RA_0x {A : kN} {σ τ : kS} (h : RA A σ τ) (x : Int32) : RA A (kup σ 0 12 x) (kup τ 0 0 x) := RA_0 h 12 0 x (by omega)
theorem n20 : (nI 0 = 2) = False := eq_false (by decide)
theorem n21 : (nI 1 = 2) = False := eq_false (by decide)
theorem n22 : (nI 2 = 2) = True := eq_true rfl
theorem c_whistle (a : Int32) : RI (fX4_whistle a) (fX5_whistle a) := by
  intro σ τ h
  have ⟨A, hA⟩ := h
  obtain ⟨ok, hx, hm, hs, hr, hc⟩ := id hA
  have o := ok.2.2.1
  unfold fX4_whistle fX5_whistle
  rcases p_cases hx hm ok a with ⟨p, hp, rfl, e1, e2⟩ | ⟨_, e1, e2⟩
  · have hi : inb (nI p) 6 := inb_lit (by omega) (by decide)
    have e : (nI p).toNatClampNeg = p := nI_clamp (by omega)
    have q1 := (ok.2.2.2 p hp).1
    have ex : ∀ x : Int32, fX4_begins x σ = some (kup σ 0 11 (31 * (σ 0 11) + x)) := fun x => rfl
    have em : ∀ x : Int32, fX5_traced x τ = some (kup τ 0 30 (31 * (τ 0 30) + x)) := fun x => rfl
    have et : ∀ (x : Int32) (τ : kS), kup τ 0 30 x 1 = τ 1 := fun x τ => by funext j; exact kup_q (by decide)
    simp only [e1, e2, kbi_s, one_z, ↓reduceIte, if_pos hi, e, ex, em, kbv_s, et, (hx.2 p hp).1, (hm.2 p hp).1]
    rcases (show A 1 p = 0 ∨ A 1 p = 1 ∨ A 1 p = 2 by omega) with z | z | z <;> simp only [z, n20, n21, n22, ↓reduceIte, hc.2.1]
    · exact ⟨_, _, _, rfl, rfl, A, RA_0 hA 11 30 _ (by omega)⟩
    · exact ⟨_, _, _, rfl, rfl, A, RA_0 hA 11 30 _ (by omega)⟩
    · exact ⟨_, _, _, rfl, rfl, A, RA_0 hA 11 30 _ (by omega)⟩
  · simp only [e1, e2, kbi_s, one_z, ↓reduceIte]
    exact ⟨_, _, _, rfl, rfl, h⟩
