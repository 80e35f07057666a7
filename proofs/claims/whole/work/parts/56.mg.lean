/-! SHEETS -/
theorem s_cases (σ τ : kS) (x : Int32) : (∃ k, k < 4 ∧ x = nI k ∧ fX4_isSheet x σ = some (1, σ) ∧ fX5_noSheet x τ = some (0, τ)) ∨ (fX4_isSheet x σ = some (0, σ) ∧ fX5_noSheet x τ = some (1, τ)) := by
  rcases rng_cases x 4 (by decide) with ⟨k, hk, rfl⟩ | h
  · refine Or.inl ⟨k, hk, rfl, ?_, ?_⟩
    · unfold fX4_isSheet
      rw [x_below1 4 hk (by decide) _ 4 rfl, kbi_s]
    · unfold fX5_noSheet
      rw [m_in1 k 0 3 (by omega) (by decide) _ 0 3 rfl rfl, kbi_s, if_neg (by decide)]
  · refine Or.inr ⟨?_, ?_⟩
    · unfold fX4_isSheet
      rw [x_below0 4 h (by decide) _ 4 rfl, kbi_s]
    · unfold fX5_noSheet
      rw [m_in0 x 0 3 (by omega) (by decide) (by decide) _ 0 3 rfl rfl, kbi_s, if_pos rfl]
/-- a change of one sheet's cells alone -/
theorem RA_s {A : kN} {σ τ σ' τ' : kS} (h : RA A σ τ) (hx : ∀ q, q ≤ 11 ∨ 20 ≤ q → σ' q = σ q) (hm : ∀ q, q ≤ 16 → τ' q = τ q) (hs : rS σ' τ') : RA A σ' τ' := by
  obtain ⟨ok, h1, h2, h3, h4, h5⟩ := h
  have h0 : σ' 0 = σ 0 := hx 0 (by omega)
  have m0 : τ' 0 = τ 0 := hm 0 (by omega)
  refine ⟨ok, rX_fr h1 (fun q a b => hx q (by omega)), rM_fr h2 (by rw [m0]) (by rw [m0]) (by rw [m0]) (fun q a b k _ => by rw [hm q (by omega)]), hs, rR_fr h4 (by rw [h0]) (by rw [m0]) (hx 21 (by omega)) (hx 22 (by omega)) (hm 15 (by omega)) (hm 16 (by omega)), ?_⟩
  unfold rC
  rw [h0, m0]
  exact h5
theorem c_lose (a : Int32) : RI (fX4_lose a) (fX5_lose a) := by
  intro σ τ h
  have ⟨A, hA⟩ := h
  obtain ⟨ok, hx, hm, hs, -⟩ := id hA
  unfold fX4_lose fX5_lose
  rcases s_cases σ τ a with ⟨k, hk, rfl, e1, e2⟩ | ⟨e1, e2⟩
  · have hi : inb (nI k) 4 := inb_lit (by omega) (by decide)
    have e : (nI k).toNatClampNeg = k := nI_clamp (by omega)
    have key : RA A (kup σ (12 + k) 0 0) (kup τ 17 k (-1)) := by
      refine RA_s hA (fun q hq => by funext j; exact kup_q (by omega)) (fun q hq => by funext j; exact kup_q (by omega)) (fun i hi2 => ?_)
      by_cases c : i = k
      · subst c
        exact Or.inl ⟨kup_at, kup_at⟩
      · have c2 : ¬ 12 + i = 12 + k := by omega
        have c3 : ¬ 12 + i + 4 = 12 + k := by omega
        simp only [kup, c, c2, c3, false_and, and_false, if_false, show ¬ (18 : Nat) = 17 by decide, show ¬ (19 : Nat) = 17 by decide]
        exact hs i hi2
    rcases hs k hk with ⟨s1, s2⟩ | ⟨s1, n, l, hn, hl, s2, s3, s4, s5, s6⟩
    · have c1 : ¬ (0 : Int32) ≤ -1 := by decide
      simp only [e1, e2, kbi_s, klet_e, one_z, ↓reduceIte, if_pos hi, e, s1, s2, if_neg c1]
      exact ⟨_, _, _, rfl, rfl, A, key⟩
    · have c1 : (0 : Int32) ≤ nI n := nI_le0 (by omega)
      simp only [e1, e2, kbi_s, klet_e, one_z, ↓reduceIte, if_pos hi, e, s1, s3, if_pos c1]
      exact ⟨_, _, _, rfl, rfl, A, key⟩
  · simp only [e1, e2, kbi_s, one_z, ↓reduceIte]
    exact ⟨_, _, _, rfl, rfl, h⟩
/-- begin: the first 60 cells are zero -/
theorem x_beginL {q : Nat} : ∀ (m k n : Nat) (σ : kS), k + m = 60 → m < n → ∃ σ', fX1_begin_L17 n q (nI k) σ = some σ' ∧ (∀ r, r ≠ q + 4 → σ' r = σ r) ∧ (∀ i, k ≤ i → i < 60 → σ' (q + 4) i = 0) ∧ (∀ i, i < k → σ' (q + 4) i = σ (q + 4) i) := by
  intro m
  induction m with
  | zero =>
    intro k n σ hk hn
    obtain ⟨n, rfl⟩ : ∃ j, n = j + 1 := ⟨n - 1, by omega⟩
    have hk' : k = 60 := by omega
    subst hk'
    rw [fX1_begin_L17, if_pos (by decide)]
    exact ⟨σ, rfl, fun _ _ => rfl, fun i h1 h2 => by omega, fun _ _ => rfl⟩
  | succ m ih =>
    intro k n σ hk hn
    obtain ⟨n, rfl⟩ : ∃ j, n = j + 1 := ⟨n - 1, by omega⟩
    have hi : inb (nI k) 60 := inb_lit (by omega) (by decide)
    have e : (nI k).toNatClampNeg = k := nI_clamp (by omega)
    have c : ¬ nI 60 ≤ nI k := fun z => by have := (nI_leI (a := 60) (by omega) (by omega)).mp z; omega
    rw [fX1_begin_L17, if_neg (show ¬ (60 : Int32) ≤ nI k from c)]
    simp only [if_pos hi, e, klet_e, nI_1]
    obtain ⟨s', h1, h2, h3, h4⟩ := ih (k + 1) n (kup σ (q + 4) k 0) (by omega) (by omega)
    refine ⟨s', h1, fun r hr => by rw [h2 r hr, kup_ne hr], fun i a b => ?_, fun i a => ?_⟩
    · by_cases d : i = k
      · subst d
        rw [h4 i (by omega), kup_at]
      · exact h3 i (by omega) b
    · rw [h4 i (by omega), kup_k (by omega)]
theorem m_sheetL {k N : Nat} (hk : k < 4) (hN : N ≤ 60) : ∀ (m i n : Nat) (τ : kS), i + m = N → m < n → ∃ τ', fX5_sheet_L65 n (nI k) (nI N) (nI i) τ = some (1, kup τ' 0 0 0) ∧ (∀ r, r ≠ 19 → τ' r = τ r) ∧ (∀ j, i ≤ j → j < N → τ' 19 (60 * k + j) = 0) ∧ (∀ j, j < 60 * k + i ∨ 60 * k + N ≤ j → τ' 19 j = τ 19 j) := by
  intro m
  induction m with
  | zero =>
    intro i n τ hi hn
    obtain ⟨n, rfl⟩ : ∃ j, n = j + 1 := ⟨n - 1, by omega⟩
    have c : nI N ≤ nI i := (nI_leI (by omega) (by omega)).mpr (by omega)
    rw [fX5_sheet_L65, if_pos c]
    exact ⟨τ, rfl, fun _ _ => rfl, fun j h1 h2 => by omega, fun _ _ => rfl⟩
  | succ m ih =>
    intro i n τ hi hn
    obtain ⟨n, rfl⟩ : ∃ j, n = j + 1 := ⟨n - 1, by omega⟩
    have c : ¬ nI N ≤ nI i := fun z => by have := (nI_leI (by omega) (by omega)).mp z; omega
    have e0 : (60 : Int32) * nI k + nI i = nI (60 * k + i) := by rw [lit_nI, pk_mul, nI_add]
    have hb : inb (nI (60 * k + i)) 240 := inb_lit (by omega) (by decide)
    have e : (nI (60 * k + i)).toNatClampNeg = 60 * k + i := nI_clamp (by omega)
    rw [fX5_sheet_L65, if_neg c]
    simp only [e0, if_pos hb, e, klet_e, nI_1]
    obtain ⟨t', h1, h2, h3, h4⟩ := ih (i + 1) n (kup τ 19 (60 * k + i) 0) (by omega) (by omega)
    refine ⟨t', h1, fun r hr => by rw [h2 r hr, kup_ne hr], fun j a b => ?_, fun j a => ?_⟩
    · by_cases d : j = i
      · subst d
        rw [h4 (60 * k + j) (by omega), kup_at]
      · exact h3 j (by omega) b
    · rw [h4 j (by omega), kup_k (by omega)]
theorem c_sheet (a v w : Int32) : RI (fX4_sheet a v w) (fX5_sheet a v w) := by
  intro σ τ h
  have ⟨A, hA⟩ := h
  have hA0 := RA_0x hA 0
  have hA4 := RA_0x hA 4
  have er : ∀ (x : Int32) (τ : kS), fX5_refused x τ = some (x, kup τ 0 0 0) := fun x τ => rfl
  have ef : fX5_failed 4 τ = some ((-10) - 4, kup τ 0 0 4) := rfl
  have eg : fX4_faulted 4 (kup σ 0 12 0) = some ((-10) - 4, kup σ 0 12 4) := by unfold fX4_faulted; rw [kup_kup]
  unfold fX4_sheet fX5_sheet
  rcases s_cases (kup σ 0 12 0) τ a with ⟨k, hk, rfl, e1, e2⟩ | ⟨e1, e2⟩
  · have hi : inb (nI k) 4 := inb_lit (by omega) (by decide)
    have e : (nI k).toNatClampNeg = k := nI_clamp (by omega)
    rcases rng_cases v 3 (by decide) with ⟨l, hl, rfl⟩ | hl
    · simp only [e1, e2, kbi_s, one_z, ↓reduceIte, x_below1 3 hl (by decide) _ 3 rfl, m_in1 l 0 2 (by omega) (by decide) _ 0 2 rfl rfl, if_pos hi, e, er, ef, eg]
      by_cases c : w ≤ 60
      · simp only [if_pos c]
        by_cases c2 : 0 ≤ w
        · simp only [if_pos c2]
          obtain ⟨N, hN, rfl⟩ : ∃ N, N ≤ 60 ∧ w = nI N := by
            rw [Int32.le_iff_toInt_le] at c c2
            rw [show (60 : Int32).toInt = 60 from rfl] at c
            rw [show (0 : Int32).toInt = 0 from rfl] at c2
            refine ⟨w.toInt.toNat, by omega, ?_⟩
            apply Int32.toInt_inj.mp
            rw [nI_toInt (by omega)]
            omega
          obtain ⟨s', g1, g2, g3, g4⟩ := x_beginL (q := 12 + k) 60 0 1000 (kup (kup (kup (kup σ 0 12 0) (12 + k) 0 1) (12 + k) 1 (nI l)) (12 + k) 2 (nI N)) (by omega) (by omega)
          obtain ⟨t', f1, f2, f3, f4⟩ := m_sheetL hk hN N 0 1000 (kup (kup τ 17 k (nI N)) 18 k (nI l)) (by omega) (by omega)
          have gb : fX1_begin (12 + k) (nI l) (nI N) (kup σ 0 12 0) = some s' := g1
          have fb : fX5_sheet_L65 1000 (nI k) (nI N) 0 (kup (kup τ 17 k (nI N)) 18 k (nI l)) = some (1, kup t' 0 0 0) := f1
          simp only [gb, fb, kbv_s]
          refine ⟨_, _, _, rfl, rfl, A, RA_s hA0 (fun q hq => ?_) (fun q hq => ?_) (fun i hi2 => ?_)⟩
          · rw [g2 q (by omega), kup_ne (by omega), kup_ne (by omega), kup_ne (by omega)]
          · by_cases d : q = 0
            · subst d
              funext j
              by_cases dj : j = 0
              · subst dj; rw [kup_at, kup_at]
              · rw [kup_k dj, kup_k dj, f2 0 (by omega), kup_ne (by omega), kup_ne (by omega)]
            · rw [kup_ne d, kup_ne d, f2 q (by omega), kup_ne (by omega), kup_ne (by omega)]
          · have ht17 : kup t' 0 0 0 17 = (kup (kup τ 17 k (nI N)) 18 k (nI l)) 17 := by rw [kup_ne (by omega), f2 17 (by omega)]
            have ht18 : kup t' 0 0 0 18 = (kup (kup τ 17 k (nI N)) 18 k (nI l)) 18 := by rw [kup_ne (by omega), f2 18 (by omega)]
            have ht19 : kup t' 0 0 0 19 = t' 19 := kup_ne (by omega)
            rw [ht17, ht18, ht19]
            by_cases d : i = k
            · subst d
              refine Or.inr ⟨?_, N, l, hN, hl, ?_, ?_, ?_, ?_, fun j hj => ?_⟩
              · rw [g2 (12 + i) (by omega), kup_k (by omega), kup_k (by omega), kup_at]
              · rw [g2 (12 + i) (by omega), kup_at]
              · rw [kup_q (by omega), kup_at]
              · rw [g2 (12 + i) (by omega), kup_k (by omega), kup_at]
              · rw [kup_at]
              · rw [g3 j (by omega) (by omega), f3 j (by omega) hj]
            · rw [g2 (12 + i) (by omega), g2 (12 + i + 4) (by omega)]
              have c1 : ¬ 12 + i = 12 + k := by omega
              have c4 : ¬ 12 + i + 4 = 12 + k := by omega
              have c5 : ¬ 12 + i = 0 := by omega
              have c6 : ¬ 12 + i + 4 = 0 := by omega
              have hh := hA.2.2.2.1 i hi2
              simp only [kup, c1, c4, c5, c6, d, false_and, and_false, if_false, show ¬ (17 : Nat) = 18 by decide, show ¬ (18 : Nat) = 17 by decide]
              rcases hh with z | ⟨z1, n', l', z2, z3, z4, z5, z6, z7, z8⟩
              · exact Or.inl z
              · refine Or.inr ⟨z1, n', l', z2, z3, z4, z5, z6, z7, fun j hj => ?_⟩
                rw [z8 j hj, f4 (60 * i + j) (by omega)]
                simp [kup]
        · simp only [if_neg c2]
          exact ⟨_, _, _, rfl, rfl, A, hA4⟩
      · simp only [if_neg c]
        exact ⟨_, _, _, rfl, rfl, A, hA0⟩
    · simp only [e1, e2, kbi_s, one_z, ↓reduceIte, x_below0 3 hl (by decide) _ 3 rfl, m_in0 v 0 2 (by omega) (by decide) (by decide) _ 0 2 rfl rfl, er]
      exact ⟨_, _, _, rfl, rfl, A, hA0⟩
  · simp only [e1, e2, kbi_s, one_z, ↓reduceIte, er]
    exact ⟨_, _, _, rfl, rfl, A, hA0⟩
