/-! how they would come: STRICT, SITE -/
def sameD (σ σ' : kS) : Prop := ∀ q, (q ≤ 5 ∨ 11 ≤ q) → σ' q = σ q
theorem sameD_tr {a b c : kS} (h : sameD a b) (h2 : sameD b c) : sameD a c := fun q hq => (h2 q hq).trans (h q hq)
theorem sameD_X {a b : kS} (h : sameD a b) : sameX a b := fun q hq => h q (by omega)
theorem x_become {σ : kS} {A : kN} (h : rX 1 σ A) (ok : okA A) : ∃ σ', fX0_become 6 1 σ = some σ' ∧ rX 6 σ' A ∧ sameD σ σ' := by
  have hc : kcpy (0 : Int32) (0 : Int32) (6 : Int32) 6 6 := by decide
  have o := ok.2.2.1
  have e0 : (0 : Int32).toNatClampNeg = 0 := rfl
  have e6 : (6 : Int32).toNatClampNeg = 6 := rfl
  unfold fX0_become
  rw [if_pos hc, if_pos hc, if_pos hc, if_pos hc]
  refine ⟨_, rfl, ⟨⟨?_, ?_, ?_⟩, fun k hk => ?_⟩, fun q hq => ?_⟩
  · rw [← h.1.1]; simp [krow, kup]
  · rw [← h.1.2.1]; simp [krow, kup]
  · rw [← h.1.2.2]; simp [krow, kup]
  · obtain ⟨k1, k2, k3, k4⟩ := h.2 k hk
    have hk6 : k < 6 := by omega
    refine ⟨?_, ?_, ?_, ?_⟩
    · rw [← k1]; simp [krow, kup, va_cpy, e0, e6, hk6]
    · rw [← k2]; simp [krow, kup, va_cpy, e0, e6, hk6]
    · rw [← k3]; simp [krow, kup, va_cpy, e0, e6, hk6]
    · rw [← k4]; simp [krow, kup, va_cpy, e0, e6, hk6]
  · have h6 : q ≠ 6 := by omega
    have h7 : q ≠ 7 := by omega
    have h8 : q ≠ 8 := by omega
    have h9 : q ≠ 9 := by omega
    have h10 : q ≠ 10 := by omega
    funext j
    simp [krow, kup, h6, h7, h8, h9, h10]
theorem nup_nup {A : kN} {q k v w : Nat} : nup (nup A q k v) q k w = nup A q k w := by
  funext q' j
  simp only [nup]
  split <;> rfl
theorem nup_self {A : kN} {q k : Nat} : nup A q k (A q k) = A := by
  funext q' j
  simp only [nup]
  split
  · rename_i z; rw [z.1, z.2]
  · rfl
theorem rX_0 {b j v : Nat} {σ : kS} {A : kN} (h : rX b σ A) (hj : j < 2) : rX b (kup σ b j (nI v)) (nup A 0 j v) := by
  have e02 : nup A 0 j v 0 2 = A 0 2 := by
    have : ¬ (2 = j) := by omega
    simp [nup, this]
  refine ⟨⟨?_, ?_, ?_⟩, fun k hk => ?_⟩
  · rcases (show j = 0 ∨ j = 1 by omega) with rfl | rfl
    · simp [kup, nup]
    · simp [kup, nup]; exact h.1.1
  · rcases (show j = 0 ∨ j = 1 by omega) with rfl | rfl
    · simp [kup, nup]; exact h.1.2.1
    · simp [kup, nup]
  · rw [e02, kup_k (by omega)]; exact h.1.2.2
  · rw [e02] at hk
    have := h.2 k hk
    simpa [kup, nup] using this
theorem rM_post {v : Nat} {τ : kS} {A : kN} (h : rM τ A) : rM (kup τ 0 2 (nI v)) (nup A 0 0 v) := by
  refine ⟨⟨kup_at, ?_, ?_⟩, fun k hk => ?_⟩
  · rw [kup_k (by decide)]; exact h.1.2.1
  · rw [kup_k (by decide)]; exact h.1.2.2
  · have := h.2 k hk
    simpa [kup, nup] using this
theorem rM_lax {v : Nat} {τ : kS} {A : kN} (h : rM τ A) : rM (kup τ 0 3 (nI v)) (nup A 0 1 v) := by
  refine ⟨⟨?_, kup_at, ?_⟩, fun k hk => ?_⟩
  · rw [kup_k (by decide)]; exact h.1.1
  · rw [kup_k (by decide)]; exact h.1.2.2
  · have := h.2 k hk
    simpa [kup, nup] using this
theorem ok_lax {A : kN} {v : Nat} (ok : okA A) (hv : v < 4) : okA (nup A 0 1 v) := ⟨ok.1, hv, ok.2.2.1, ok.2.2.2⟩
theorem ok_post {A : kN} {v : Nat} (ok : okA A) (hv : v < 10) : okA (nup A 0 0 v) := ⟨hv, ok.2.1, ok.2.2.1, ok.2.2.2⟩
-- STRICT
def sfst (g : Nat → Bool) (v : Nat) : Nat → Int32
  | 0 => -9
  | m + 1 => if g v = true then nI v else sfst g (v + 1) m
def gLax (A : kN) (p v : Nat) : Bool := decide (go (nup A 0 1 v) p = some p)
theorem x_strictL {A : kN} {p : Nat} (ok : okA A) (hp : p < A 0 2) : ∀ (m v n w : Nat) (σ : kS), v + m = 4 → m < n → rX 6 σ (nup A 0 1 w) → ∃ σ', fX4_strict_L23 n (nI p) (nI v) σ = some (sfst (gLax A p) v m, σ') ∧ sameD σ σ' := by
  have o := ok.2.2.1
  intro m
  induction m with
  | zero =>
    intro v n w σ hv hn h
    obtain ⟨n, rfl⟩ : ∃ j, n = j + 1 := ⟨n - 1, by omega⟩
    have hv' : v = 4 := by omega
    subst hv'
    rw [fX4_strict_L23, if_pos (by decide)]
    exact ⟨σ, rfl, fun _ _ => rfl⟩
  | succ m ih =>
    intro v n w σ hv hn h
    obtain ⟨n, rfl⟩ : ∃ j, n = j + 1 := ⟨n - 1, by omega⟩
    have h1 := rX_0 (v := v) h (show 1 < 2 by omega)
    rw [nup_nup] at h1
    have ok1 := ok_lax (v := v) ok (by omega)
    have c : ¬ nI 4 ≤ nI v := fun z => by have := (nI_leI (a := 4) (by omega) (by omega)).mp z; omega
    rw [fX4_strict_L23, if_neg (show ¬ (4 : Int32) ≤ nI v from c), x_goes h1 ok1 hp, kbi_s]
    have sd : sameD σ (kup σ 6 1 (nI v)) := fun q hq => kup_ne (by omega)
    by_cases g : go (nup A 0 1 v) p = some p
    · rw [if_pos ((enc_k ok1 hp).mpr g)]
      refine ⟨_, ?_, sd⟩
      simp only [sfst, gLax, g, decide_true, if_true]
    · rw [if_neg (fun z => g ((enc_k ok1 hp).mp z)), klet_e, nI_1]
      obtain ⟨s', f1, f2⟩ := ih (v + 1) n v _ (by omega) (by omega) h1
      refine ⟨s', ?_, sameD_tr sd f2⟩
      rw [f1]
      simp only [sfst, gLax, g, decide_false, if_false, Bool.false_eq_true]
def sameT (τ τ' : kS) (q j : Nat) : Prop := ∀ q' j', ¬ (q' = q ∧ j' = j) → τ' q' j' = τ q' j'
theorem m_strictL {A : kN} {p : Nat} (ok : okA A) (hp : p < A 0 2) (was : Int32) : ∀ (v n w : Nat) (τ : kS), v ≤ 4 → v < n → rM τ (nup A 0 1 w) → ∃ τ', fX5_strict_L21 n (nI p) was (sfst (gLax A p) v (4 - v)) (nI v + (-1)) τ = some (sfst (gLax A p) 0 4, kup τ' 0 3 was) ∧ sameT τ τ' 0 3 := by
  have o := ok.2.2.1
  intro v
  induction v with
  | zero =>
    intro n w τ hv hn h
    obtain ⟨n, rfl⟩ : ∃ j, n = j + 1 := ⟨n - 1, by omega⟩
    rw [fX5_strict_L21, if_pos (by decide)]
    exact ⟨τ, rfl, fun _ _ _ => rfl⟩
  | succ v ih =>
    intro n w τ hv hn h
    obtain ⟨n, rfl⟩ : ∃ j, n = j + 1 := ⟨n - 1, by omega⟩
    have h1 := rM_lax (v := v) h
    rw [nup_nup] at h1
    have ok1 := ok_lax (v := v) ok (by omega)
    rw [pk_m1, fX5_strict_L21, if_neg (nI_pos (by omega)), m_goes h1 ok1 hp, kbi_s]
    have sd : sameT τ (kup τ 0 3 (nI v)) 0 3 := fun q j hq => by simp only [kup, if_neg hq]
    have e4 : 4 - v = (4 - (v + 1)) + 1 := by omega
    by_cases g : go (nup A 0 1 v) p = some p
    · rw [if_pos ((enc_k ok1 hp).mpr g), klet_e]
      obtain ⟨t', f1, f2⟩ := ih n v _ (by omega) (by omega) h1
      refine ⟨t', ?_, fun q j hq => (f2 q j hq).trans (sd q j hq)⟩
      rw [e4] at f1
      simp only [sfst, gLax, g, decide_true, if_true] at f1
      exact f1
    · rw [if_neg (fun z => g ((enc_k ok1 hp).mp z)), klet_e]
      obtain ⟨t', f1, f2⟩ := ih n v _ (by omega) (by omega) h1
      refine ⟨t', ?_, fun q j hq => (f2 q j hq).trans (sd q j hq)⟩
      rw [e4] at f1
      rw [show sfst (gLax A p) v (4 - (v + 1) + 1) = sfst (gLax A p) (v + 1) (4 - (v + 1)) by simp only [sfst, gLax, g, decide_false, if_false, Bool.false_eq_true]] at f1
      exact f1
theorem c_strict (a : Int32) : RI (fX4_strict a) (fX5_strict a) := by
  intro σ τ h
  have ⟨A, hA⟩ := h
  obtain ⟨ok, hx, hm, hs, hr, hc⟩ := id hA
  have o := ok.2.2.1
  unfold fX4_strict fX5_strict
  rcases p_cases hx hm ok a with ⟨p, hp, rfl, e1, e2⟩ | ⟨_, e1, e2⟩
  · rw [e1, kbi_s, if_neg one_ne, e2, kbi_s, if_pos rfl]
    obtain ⟨s1, b1, b2, b3⟩ := x_become hx ok
    rw [b1, kbv_s, klet_e]
    have hA1 : rX 6 s1 (nup A 0 1 (A 0 1)) := by rw [nup_self]; exact b2
    have hM1 : rM τ (nup A 0 1 (A 0 1)) := by rw [nup_self]; exact hm
    obtain ⟨s2, f1, f2⟩ := x_strictL ok hp 4 0 1000 _ s1 (by omega) (by omega) hA1
    obtain ⟨t2, g1, g2⟩ := m_strictL ok hp (τ 0 3) 4 1000 _ τ (by omega) (by omega) hM1
    have f1 : fX4_strict_L23 1000 (nI p) 0 s1 = _ := f1
    have g1 : fX5_strict_L21 1000 (nI p) (τ 0 3) (-9) 3 τ = _ := g1
    refine ⟨_, _, _, f1, g1, A, RA_same hA (sameD_X (sameD_tr b3 f2)) ⟨fun j hj => ?_, fun q a b => ?_, fun q a b k hk => ?_⟩⟩
    · by_cases d : j = 3
      · subst d; rw [kup_at]
      · rw [kup_k d, g2 0 j (by omega)]
    · funext j
      rw [kup_q (by omega), g2 q j (by omega)]
    · rw [kup_q (by omega), g2 q k (by omega)]
  · rw [e1, kbi_s, if_pos rfl, e2, kbi_s, if_neg one_ne]
    exact ⟨_, _, _, rfl, rfl, h⟩
