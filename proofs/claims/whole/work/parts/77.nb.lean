/-! MOOR: the whole -/
/-- what a good text leaves -/
def Good (n : Nat) (t : Nat → Int32) (τ' : kS) : Prop := ∃ P, 2 ≤ P ∧ P ≤ 6 ∧ n = 3 + 5 * P ∧ G t n ∧ τ' 0 10 = nI P ∧ ∀ p, p < P → τ' 5 p = nI (tA t P 1 p) ∧ τ' 6 p = nI (tA t P 2 p) ∧ τ' 7 p = nI (tA t P 3 p) ∧ τ' 8 p = nI (tA t P 4 p)
theorem ent_P {t : Nat → Int32} {P Q : Nat} {τ : kS} {p : Nat} (h : ent t P τ p) : ent t Q τ p := h
theorem m_peopleL {t : Nat → Int32} {b n : Nat} (hb : b + n ≤ 240) : ∀ (m p f : Nat) (τ : kS), p + m = 6 → m + 2 ≤ f → (∀ x, x < n → τ 19 (b + x) = t x) → τ 0 9 = nI (3 + 5 * p) → τ 0 10 = nI p → G t (3 + 5 * p) → 3 + 5 * p ≤ n → (∀ j, j < p → ent t 0 τ j) → ∃ r τ', fX5_readsMoor_L74 f (nI b) (nI n) 1 τ = some (r, τ') ∧ FR τ τ' ∧ τ' 0 15 = τ 0 15 ∧ τ' 0 16 = τ 0 16 ∧ ((r = 1 ∧ Good n t τ') ∨ (r = 0 ∧ ∃ y, Bad n t y ∧ τ' 0 9 = nI y)) := by
  intro m
  induction m with
  | zero =>
    intro p f τ hp hf ht h9 h10 hG hn he
    obtain ⟨f, rfl⟩ : ∃ j, f = j + 2 := ⟨f - 2, by omega⟩
    have hp : p = 6 := by omega
    subst hp
    rw [fX5_readsMoor_L74, if_neg one_ne, h10, if_neg (show ¬ nI 6 < (2 : Int32) by decide), h9]
    by_cases c : n = 33
    · subst c
      rw [if_pos (Int32.le_refl _)]
      exact ⟨1, τ, rfl, FR_rf, rfl, rfl, Or.inl ⟨rfl, 6, by omega, by omega, rfl, hG, h10, fun j hj => ent_P (he j hj)⟩⟩
    · rw [if_neg (fun z => by have := (nI_leI (by omega) (by omega)).mp z; omega)]
      have e : fX5_readsPerson (nI b) (nI n) τ = some (0, τ) := by
        unfold fX5_readsPerson
        rw [h10, if_pos (show nI 6 = (6 : Int32) from rfl)]
      rw [e, kbi_s, fX5_readsMoor_L74, if_pos rfl]
      refine ⟨0, τ, rfl, FR_rf, rfl, rfl, Or.inr ⟨rfl, 33, ⟨hn, hG, Or.inl ⟨by omega, ?_⟩⟩, h9⟩⟩
      unfold gw
      rw [if_neg (by decide)]
      exact id
  | succ m ih =>
    intro p f τ hp hf ht h9 h10 hG hn he
    obtain ⟨f, rfl⟩ : ∃ j, f = j + 2 := ⟨f - 2, by omega⟩
    have go : (n < 13 ∨ 3 + 5 * p < n) → ∃ r τ', (kbi (fX5_readsPerson (nI b) (nI n) τ) fun r16 σ15 => fX5_readsMoor_L74 (f + 1) (nI b) (nI n) r16 σ15) = some (r, τ') ∧ FR τ τ' ∧ τ' 0 15 = τ 0 15 ∧ τ' 0 16 = τ 0 16 ∧ ((r = 1 ∧ Good n t τ') ∨ (r = 0 ∧ ∃ y, Bad n t y ∧ τ' 0 9 = nI y)) := by
      intro hn2
      obtain ⟨r, t1, f1, f2, f3, f5⟩ := m_person (P := 0) hb (show p < 6 by omega) ht h9 h10 hG hn hn2
      have f4 := f2.1 15 (by decide) (by decide)
      have f6 := f2.1 16 (by decide) (by decide)
      rw [f1, kbi_s]
      rcases f5 with ⟨rfl, g1, g2, g3, g4, g5⟩ | ⟨rfl, g1⟩
      · obtain ⟨r', t2, i1, i2, i3, i4, i5⟩ := ih (p + 1) (f + 1) t1 (by omega) (by omega) (fun x hx => by rw [f2.2 19 (by omega)]; exact ht x hx) g3 g4 g2 g1 (fun j hj => by
          by_cases d : j = p
          · subst d; exact g5
          · have := he j (by omega)
            unfold ent at this ⊢
            rw [f3 5 j (by omega) (by omega), f3 6 j (by omega) (by omega), f3 7 j (by omega) (by omega), f3 8 j (by omega) (by omega)]
            exact this)
        exact ⟨r', t2, i1, FR_tr f2 i2, i3.trans f4, i4.trans f6, i5⟩
      · rw [fX5_readsMoor_L74, if_pos rfl]
        exact ⟨0, t1, rfl, f2, f4, f6, Or.inr ⟨rfl, g1⟩⟩
    rw [fX5_readsMoor_L74, if_neg one_ne, h10]
    by_cases c : p < 2
    · rw [if_pos (show nI p < (2 : Int32) from (nI_ltI (b := 2) (by omega) (by omega)).mpr c)]
      exact go (by omega)
    · rw [if_neg (show ¬ nI p < (2 : Int32) from fun z => c ((nI_ltI (b := 2) (by omega) (by omega)).mp z)), h9]
      by_cases d : 3 + 5 * p = n
      · rw [if_pos (by rw [d]; exact Int32.le_refl _)]
        exact ⟨1, τ, rfl, FR_rf, rfl, rfl, Or.inl ⟨rfl, p, by omega, by omega, d.symm, by rw [← d]; exact hG, h10, fun j hj => ent_P (he j hj)⟩⟩
      · rw [if_neg (fun z => by have := (nI_leI (by omega) (by omega)).mp z; omega)]
        exact go (by omega)
def FM (τ τ' : kS) : Prop := (∀ j, j ≠ 9 → j ≠ 10 → j ≠ 15 → j ≠ 16 → τ' 0 j = τ 0 j) ∧ ∀ q, (1 ≤ q ∧ q < 5) ∨ 8 < q → τ' q = τ q
theorem FM_tr {a b c : kS} (h : FM a b) (h2 : FM b c) : FM a c := ⟨fun j a1 a2 a3 a4 => (h2.1 j a1 a2 a3 a4).trans (h.1 j a1 a2 a3 a4), fun q hq => (h2.2 q hq).trans (h.2 q hq)⟩
theorem FM_9 {τ : kS} {x : Int32} : FM τ (kup τ 0 9 x) := ⟨fun j a _ _ _ => kup_k a, fun q hq => kup_ne (by omega)⟩
theorem FM_R {τ τ' : kS} (h : FR τ τ') : FM τ τ' := ⟨fun j a b _ _ => h.1 j a b, h.2⟩
theorem kup3 {τ : kS} {y : Nat} : kup τ 0 9 (nI y) 0 15 = τ 0 15 ∧ kup τ 0 9 (nI y) 0 16 = τ 0 16 := ⟨kup_k (by decide), kup_k (by decide)⟩
theorem m_moorR {t : Nat → Int32} {b n : Nat} (hb : b + n ≤ 240) {τ : kS} (ht : ∀ x, x < n → τ 19 (b + x) = t x) : ∃ r τ', fX5_readsMoor (nI b) (nI n) τ = some (r, τ') ∧ FM τ τ' ∧ ((r = 1 ∧ Good n t τ' ∧ τ' 0 15 = nI (dg (t 1)) ∧ τ' 0 16 = nI (dg (t 2))) ∨ (r = 0 ∧ ∃ y, Bad n t y ∧ τ' 0 9 = nI y)) := by
  have G0 : G t 0 := fun z hz => by omega
  have f0 : FM τ (kup (kup τ 0 9 (nI 0)) 0 10 (nI 0)) := ⟨fun j a c _ _ => by rw [kup_k c, kup_k a], fun q hq => by rw [kup_ne (by omega), kup_ne (by omega)]⟩
  have f15 : ∀ (ρ : kS) (x : Int32), FM ρ (kup ρ 0 15 x) := fun ρ x => ⟨fun j _ _ a _ => kup_k a, fun q hq => kup_ne (by omega)⟩
  have f16 : ∀ (ρ : kS) (x : Int32), FM ρ (kup ρ 0 16 x) := fun ρ x => ⟨fun j _ _ _ a => kup_k a, fun q hq => kup_ne (by omega)⟩
  have h9 : (kup (kup τ 0 9 (nI 0)) 0 10 (nI 0)) 0 9 = nI 0 := by rw [kup_k (by decide), kup_at]
  have h10 : (kup (kup τ 0 9 (nI 0)) 0 10 (nI 0)) 0 10 = nI 0 := kup_at
  unfold fX5_readsMoor
  rw [show kup (kup τ 0 9 0) 0 10 0 = kup (kup τ 0 9 (nI 0)) 0 10 (nI 0) from rfl]
  generalize kup (kup τ 0 9 (nI 0)) 0 10 (nI 0) = u at f0 h9 h10
  have tu : ∀ x, x < n → u 19 (b + x) = t x := fun x hx => by rw [f0.2 19 (by omega)]; exact ht x hx
  rw [m_code hb tu (Nat.zero_le n) h9, kbi_s]
  by_cases c : 0 = n
  · rw [if_pos c, if_neg (by decide)]
    exact ⟨0, u, rfl, f0, Or.inr ⟨rfl, 0, bad_at (Nat.zero_le n) G0 (Or.inl c) (by omega), h9⟩⟩
  rw [if_neg c]
  have g0 : gw 0 (t 0) ↔ t 0 = 100 := by
    unfold gw
    rw [if_pos (by decide), if_pos (by decide), if_pos rfl]
  by_cases d : ¬ t 0 = 100
  · rw [if_neg d]
    exact ⟨0, u, rfl, f0, Or.inr ⟨rfl, 0, ⟨Nat.zero_le n, G0, Or.inl ⟨by omega, fun z => d (g0.mp z)⟩⟩, h9⟩⟩
  have d := Classical.not_not.mp d
  have G1 : G t 1 := G_up G0 (g0.mpr d)
  have g1 : gw 1 (t 1) ↔ dgt (t 1) 10 := by
    unfold gw
    rw [if_pos (by decide), if_pos (by decide), if_neg (by decide), if_pos rfl]
  have g2 : gw 2 (t 2) ↔ dgt (t 2) 4 := by
    unfold gw
    rw [if_pos (by decide), if_pos (by decide), if_neg (by decide), if_neg (by decide)]
  have t9 : ∀ (y x : Nat), x < n → kup u 0 9 (nI y) 19 (b + x) = t x := fun y x hx => by rw [kup_q (by decide)]; exact tu x hx
  rw [if_pos d, h9, nI_1]
  -- the last two forms
  have bad : ∀ (r7 : Int32) (y f : Nat), Bad n t y → ∃ r τ', fX5_readsMoor_L74 (f + 1) (nI b) (nI n) 0 (kup (kup (kup u 0 9 (nI y)) 0 15 r7) 0 16 (-9)) = some (r, τ') ∧ FM τ τ' ∧ ((r = 1 ∧ Good n t τ' ∧ τ' 0 15 = nI (dg (t 1)) ∧ τ' 0 16 = nI (dg (t 2))) ∨ (r = 0 ∧ ∃ y, Bad n t y ∧ τ' 0 9 = nI y)) := by
    intro r7 y f hy
    rw [fX5_readsMoor_L74, if_pos rfl]
    refine ⟨0, _, rfl, FM_tr (FM_tr (FM_tr f0 FM_9) (f15 _ _)) (f16 _ _), Or.inr ⟨rfl, y, hy, ?_⟩⟩
    rw [kup_k (by decide), kup_k (by decide), kup_at]
  rcases m_fig (x := 0 + 1) hb (t9 (0 + 1)) (by omega) kup99 (show (0 : Int32) ≤ 0 by decide) 9 (by decide) 9 rfl with ⟨a1, a2, a3⟩ | ⟨a1, a3⟩
  · rw [a3, kbi_s, kup_kup, kup_at]
    have G2 : G t 2 := G_up G1 (g1.mpr a2)
    have t15 : ∀ (y : Nat) (r7 : Int32) (x : Nat), x < n → kup (kup u 0 9 (nI y)) 0 15 r7 19 (b + x) = t x := fun y r7 x hx => by rw [kup_q (by decide), kup_q (by decide)]; exact tu x hx
    have k9 : ∀ (y : Nat) (r7 : Int32), kup (kup u 0 9 (nI y)) 0 15 r7 0 9 = nI y := fun y r7 => by rw [kup_k (by decide), kup_at]
    rcases m_fig (x := 0 + 1 + 1) hb (t15 (0 + 1 + 1) (nI (dg (t (0 + 1))))) (by omega) (k9 _ _) (nI_le0 (show dg (t (0 + 1)) < 2 ^ 31 by have := (dg_of (by decide) a2).1; omega)) 3 (by decide) 3 rfl with ⟨b1, b2, b3⟩ | ⟨b1, b3⟩
    · have hd := (dg_of (by decide) b2).1
      rw [b3, kbi_s, kup_at, if_neg (nI_pos (show dg (t (0 + 1 + 1)) < 2 ^ 31 by omega))]
      have G3 : G t 3 := G_up G2 (g2.mpr b2)
      obtain ⟨r, t', i1, i2, i3, i4, i5⟩ := m_peopleL hb 6 0 1000 (kup (kup (kup (kup u 0 9 (nI (0 + 1 + 1))) 0 15 (nI (dg (t (0 + 1))))) 0 9 (nI (0 + 1 + 1 + 1))) 0 16 (nI (dg (t (0 + 1 + 1))))) (by omega) (by omega) (fun x hx => by
        rw [kup_q (by decide), kup_q (by decide), kup_q (by decide), kup_q (by decide)]
        exact tu x hx) (by rw [kup_k (by decide), kup_at]) (by rw [kup_k (by decide), kup_k (by decide), kup_k (by decide), kup_k (by decide)]; exact h10) G3 (by omega) (fun j hj => by omega)
      refine ⟨r, t', i1, FM_tr (FM_tr (FM_tr (FM_tr (FM_tr f0 FM_9) (f15 _ _)) FM_9) (f16 _ _)) (FM_R i2), ?_⟩
      rcases i5 with ⟨j1, j2⟩ | j
      · refine Or.inl ⟨j1, j2, ?_, ?_⟩
        · rw [i3, kup_k (by decide), kup_k (by decide), kup_at]
        · rw [i4, kup_at]
      · exact Or.inr j
    · rw [b3, kbi_s, kup_at, if_pos n9]
      refine bad _ _ _ (bad_at (by omega) G2 ?_ (by omega))
      rcases b1 with b1 | b1
      · exact Or.inl b1
      · exact Or.inr (fun z => b1 (g2.mp z))
  · rw [a3, kbi_s, kup_at, m_figN n9' 3 (by decide) 3 rfl, kbi_s, kup_at, if_pos n9]
    refine bad _ _ _ (bad_at (by omega) G1 ?_ (by omega))
    rcases a1 with a1 | a1
    · exact Or.inl a1
    · exact Or.inr (fun z => a1 (g1.mp z))
