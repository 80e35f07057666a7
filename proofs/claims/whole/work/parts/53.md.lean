/-! FRAMES of the relation, and the plain calls -/
theorem rX_fr {b : Nat} {σ σ' : kS} {A : kN} (h : rX b σ A) (e : ∀ q, b ≤ q → q ≤ b + 4 → σ' q = σ q) : rX b σ' A := by
  obtain ⟨⟨h1, h2, h3⟩, h4⟩ := h
  have e0 := e b (by omega) (by omega)
  refine ⟨⟨by rw [e0]; exact h1, by rw [e0]; exact h2, by rw [e0]; exact h3⟩, fun k hk => ?_⟩
  rw [e (b + 1) (by omega) (by omega), e (b + 2) (by omega) (by omega), e (b + 3) (by omega) (by omega), e (b + 4) (by omega) (by omega)]
  exact h4 k hk
theorem rM_fr {τ τ' : kS} {A : kN} (h : rM τ A) (e1 : τ' 0 1 = τ 0 1) (e2 : τ' 0 2 = τ 0 2) (e3 : τ' 0 3 = τ 0 3) (e : ∀ q, 1 ≤ q → q ≤ 4 → ∀ k, k < A 0 2 → τ' q k = τ q k) : rM τ' A := by
  obtain ⟨⟨h1, h2, h3⟩, h4⟩ := h
  refine ⟨⟨by rw [e2]; exact h1, by rw [e3]; exact h2, by rw [e1]; exact h3⟩, fun k hk => ?_⟩
  rw [e 1 (by omega) (by omega) k hk, e 2 (by omega) (by omega) k hk, e 3 (by omega) (by omega) k hk, e 4 (by omega) (by omega) k hk]
  exact h4 k hk
theorem rS_fr {σ σ' τ τ' : kS} (h : rS σ τ) (e : ∀ q, 12 ≤ q → q ≤ 19 → σ' q = σ q) (f : ∀ q, 17 ≤ q → q ≤ 19 → τ' q = τ q) : rS σ' τ' := by
  intro k hk
  rw [e (12 + k) (by omega) (by omega), e (12 + k + 4) (by omega) (by omega), f 17 (by omega) (by omega), f 18 (by omega) (by omega), f 19 (by omega) (by omega)]
  exact h k hk
theorem rR_fr {P : Nat} {σ σ' τ τ' : kS} (h : rR P σ τ) (e9 : σ' 0 9 = σ 0 9) (f9 : τ' 0 23 = τ 0 23) (e1 : σ' 21 = σ 21) (e2 : σ' 22 = σ 22) (f1 : τ' 15 = τ 15) (f2 : τ' 16 = τ 16) : rR P σ' τ' := by
  unfold rR
  rw [e9, f9, e1, e2, f1, f2]
  exact h
def sameX (σ σ' : kS) : Prop := ∀ q, (q ≤ 5 ∨ (11 ≤ q ∧ q ≤ 19) ∨ q = 21 ∨ q = 22) → σ' q = σ q
def sameM (P : Nat) (τ τ' : kS) : Prop := (∀ j, (j ≤ 4 ∨ j = 23 ∨ j = 30) → τ' 0 j = τ 0 j) ∧ (∀ q, 15 ≤ q → q ≤ 19 → τ' q = τ q) ∧ ∀ q, 1 ≤ q → q ≤ 4 → ∀ k, k < P → τ' q k = τ q k
theorem sameX_rf {σ : kS} : sameX σ σ := fun _ _ => rfl
theorem sameX_tr {a b c : kS} (h : sameX a b) (h2 : sameX b c) : sameX a c := fun q hq => (h2 q hq).trans (h q hq)
theorem sameM_rf {P : Nat} {τ : kS} : sameM P τ τ := ⟨fun _ _ => rfl, fun _ _ _ => rfl, fun _ _ _ _ _ => rfl⟩
theorem sameM_tr {P : Nat} {a b c : kS} (h : sameM P a b) (h2 : sameM P b c) : sameM P a c :=
  ⟨fun j hj => (h2.1 j hj).trans (h.1 j hj), fun q h3 h4 => (h2.2.1 q h3 h4).trans (h.2.1 q h3 h4), fun q h3 h4 k hk => (h2.2.2 q h3 h4 k hk).trans (h.2.2 q h3 h4 k hk)⟩
theorem RA_same {A : kN} {σ σ' τ τ' : kS} (h : RA A σ τ) (hx : sameX σ σ') (hm : sameM (A 0 2) τ τ') : RA A σ' τ' := by
  obtain ⟨ok, h1, h2, h3, h4, h5⟩ := h
  have h0 : σ' 0 = σ 0 := hx 0 (by omega)
  refine ⟨ok, rX_fr h1 (fun q a b => hx q (by omega)), rM_fr h2 (hm.1 1 (by omega)) (hm.1 2 (by omega)) (hm.1 3 (by omega)) hm.2.2, rS_fr h3 (fun q a b => hx q (by omega)) (fun q a b => hm.2.1 q (by omega) (by omega)), rR_fr h4 (by rw [h0]) (hm.1 23 (by omega)) (hx 21 (by omega)) (hx 22 (by omega)) (hm.2.1 15 (by omega) (by omega)) (hm.2.1 16 (by omega) (by omega)), ?_⟩
  unfold rC
  rw [h0, hm.1 4 (by omega), hm.1 30 (by omega), hm.1 0 (by omega)]
  exact h5
/-- a moor with one number changed -/
def nup (A : kN) (q k v : Nat) : kN := fun q' j => if q' = q ∧ j = k then v else A q' j
theorem c_trace : RI fX4_trace fX5_trace := by
  intro σ τ h
  have ⟨A, hA⟩ := h
  exact ⟨_, _, _, rfl, by rw [show fX5_trace τ = some (τ 0 30, τ) from rfl, ← hA.2.2.2.2.2.2.1], h⟩
theorem c_fault : RI fX4_fault fX5_fault := by
  intro σ τ h
  have ⟨A, hA⟩ := h
  exact ⟨_, _, _, rfl, by rw [show fX5_fault τ = some (τ 0 0, τ) from rfl, ← hA.2.2.2.2.2.2.2], h⟩
theorem c_many (a : Int32) : RI (fX4_many a) (fX5_many a) := by
  intro σ τ h
  have ⟨A, hA⟩ := h
  obtain ⟨ok, hx, hm, hs, hr, hc⟩ := hA
  obtain ⟨n, hn, r1, r2, r3⟩ := hr
  unfold fX4_many fX5_many
  by_cases c0 : a = 0
  · simp only [if_pos c0]
    exact ⟨_, _, _, rfl, by rw [hm.1.2.2, hx.1.2.2], h⟩
  by_cases c1 : a = 1
  · simp only [if_neg c0, if_pos c1]
    exact ⟨_, _, _, rfl, by rw [hm.1.1, hx.1.1], h⟩
  by_cases c2 : a = 2
  · simp only [if_neg c0, if_neg c1, if_pos c2]
    exact ⟨_, _, _, rfl, by rw [hm.1.2.1, hx.1.2.1], h⟩
  by_cases c3 : a = 3
  · simp only [if_neg c0, if_neg c1, if_neg c2, if_pos c3]
    exact ⟨_, _, _, rfl, by rw [hc.1], h⟩
  by_cases c4 : a = 4
  · simp only [if_neg c0, if_neg c1, if_neg c2, if_neg c3, if_pos c4]
    exact ⟨_, _, _, rfl, by rw [r1, r2], h⟩
  simp only [if_neg c0, if_neg c1, if_neg c2, if_neg c3, if_neg c4]
  exact ⟨_, _, _, rfl, rfl, h⟩
theorem c_post (a : Int32) : RI (fX4_post a) (fX5_post a) := by
  intro σ τ h
  have ⟨A, hA⟩ := h
  obtain ⟨ok, hx, hm, hs, hr, hc⟩ := hA
  unfold fX4_post fX5_post
  rw [x_nomoor hx ok, kbi_s]
  by_cases c : A 0 2 = 0
  · rw [if_pos ((m_nomoor hm ok).mpr c), if_pos c, if_neg (by decide)]
    exact ⟨_, _, _, rfl, rfl, h⟩
  · rw [if_neg (fun z => c ((m_nomoor hm ok).mp z)), if_neg c, if_pos rfl]
    rcases rng_cases a 10 (by decide) with ⟨k, hk, rfl⟩ | hk
    · rw [show (10 : Int32) = nI 10 from rfl, x_below_in hk (by decide), kbi_s, if_neg (by decide), show (0 : Int64) = lN 0 from rfl, show (9 : Int64) = lN 9 from rfl, m_in_in (by omega) (by omega) (by decide), kbi_s, if_neg (by decide), klet_e, klet_e]
      refine ⟨_, _, _, rfl, by rw [hm.1.1, hx.1.1], nup A 0 0 k, ?_⟩
      refine ⟨⟨hk, ok.2.1, ok.2.2.1, ok.2.2.2⟩, ⟨⟨kup_at, ?_, ?_⟩, fun j hj => ?_⟩, ⟨⟨kup_at, ?_, ?_⟩, fun j hj => ?_⟩, rS_fr hs (fun q a b => by funext j; exact kup_q (by omega)) (fun q a b => by funext j; exact kup_q (by omega)), ?_, ?_⟩
      · rw [kup_k (by decide)]; exact hx.1.2.1
      · rw [kup_k (by decide)]; exact hx.1.2.2
      · have := hx.2 j hj
        simpa [kup, nup] using this
      · rw [kup_k (by decide)]; exact hm.1.2.1
      · rw [kup_k (by decide)]; exact hm.1.2.2
      · have := hm.2 j hj
        simpa [kup, nup] using this
      · exact rR_fr hr rfl (kup_k (by decide)) rfl rfl rfl rfl
      · exact hc
    · rw [show (10 : Int32) = nI 10 from rfl, x_below_out (by decide) hk, kbi_s, if_pos rfl, show (0 : Int64) = lN 0 from rfl, show (9 : Int64) = lN 9 from rfl, m_in_out (by omega) (by decide) (by decide), kbi_s, if_pos rfl]
      exact ⟨_, _, _, rfl, rfl, h⟩
theorem c_lax (a : Int32) : RI (fX4_lax a) (fX5_lax a) := by
  intro σ τ h
  have ⟨A, hA⟩ := h
  obtain ⟨ok, hx, hm, hs, hr, hc⟩ := hA
  unfold fX4_lax fX5_lax
  rw [x_nomoor hx ok, kbi_s]
  by_cases c : A 0 2 = 0
  · rw [if_pos ((m_nomoor hm ok).mpr c), if_pos c, if_neg (by decide)]
    exact ⟨_, _, _, rfl, rfl, h⟩
  · rw [if_neg (fun z => c ((m_nomoor hm ok).mp z)), if_neg c, if_pos rfl]
    rcases rng_cases a 4 (by decide) with ⟨k, hk, rfl⟩ | hk
    · rw [show (4 : Int32) = nI 4 from rfl, x_below_in hk (by decide), kbi_s, if_neg (by decide), show (0 : Int64) = lN 0 from rfl, show (3 : Int64) = lN 3 from rfl, m_in_in (by omega) (by omega) (by decide), kbi_s, if_neg (by decide), klet_e, klet_e]
      refine ⟨_, _, _, rfl, by rw [hm.1.2.1, hx.1.2.1], nup A 0 1 k, ?_⟩
      refine ⟨⟨ok.1, hk, ok.2.2.1, ok.2.2.2⟩, ⟨⟨?_, kup_at, ?_⟩, fun j hj => ?_⟩, ⟨⟨?_, kup_at, ?_⟩, fun j hj => ?_⟩, rS_fr hs (fun q a b => by funext j; exact kup_q (by omega)) (fun q a b => by funext j; exact kup_q (by omega)), ?_, ?_⟩
      · rw [kup_k (by decide)]; exact hx.1.1
      · rw [kup_k (by decide)]; exact hx.1.2.2
      · have := hx.2 j hj
        simpa [kup, nup] using this
      · rw [kup_k (by decide)]; exact hm.1.1
      · rw [kup_k (by decide)]; exact hm.1.2.2
      · have := hm.2 j hj
        simpa [kup, nup] using this
      · exact rR_fr hr rfl (kup_k (by decide)) rfl rfl rfl rfl
      · exact hc
    · rw [show (4 : Int32) = nI 4 from rfl, x_below_out (by decide) hk, kbi_s, if_pos rfl, show (0 : Int64) = lN 0 from rfl, show (3 : Int64) = lN 3 from rfl, m_in_out (by omega) (by decide) (by decide), kbi_s, if_pos rfl]
      exact ⟨_, _, _, rfl, rfl, h⟩
