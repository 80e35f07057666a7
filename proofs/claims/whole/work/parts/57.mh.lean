/-! cells of SHEETS -/
theorem lgc_le (x y : Int64) : lg_cmp x y ≤ 0 ↔ x ≤ y := by
  rw [← Int32.not_lt, lgc_gt, Int64.not_lt]
theorem nI_nn {x : Int32} (h : ¬ x < 0) : ∃ j : Nat, j < 2 ^ 31 ∧ x = nI j := nI_of h
theorem sp_cases {q N : Nat} (hN : N ≤ 60) {σ : kS} (h2 : σ q 2 = nI N) (τ : kS) (x y : Int32) : (∃ i n, i + n ≤ N ∧ x = nI i ∧ y = nI n ∧ fX1_spans q x y σ = some (1, σ) ∧ fX5_isBeyond x y.toInt64 (nI N) τ = some (0, τ)) ∨ (fX1_spans q x y σ = some (0, σ) ∧ fX5_isBeyond x y.toInt64 (nI N) τ = some (1, τ)) := by
  unfold fX1_spans fX5_isBeyond
  by_cases c1 : x < 0
  · simp only [if_pos c1]
    exact Or.inr ⟨trivial, trivial⟩
  · obtain ⟨i, hi, rfl⟩ := nI_nn c1
    simp only [if_neg c1, h2]
    by_cases c3 : y < 0
    · have c4 : lg_cmp y.toInt64 0 < 0 := by
        rw [lgc_lt, Int64.lt_iff_toInt_lt, Int32.toInt_toInt64]
        exact Int32.lt_iff_toInt_lt.mp c3
      simp only [if_pos c3, if_pos c4]
      refine Or.inr ⟨?_, trivial⟩
      split <;> rfl
    · have c4 : ¬ lg_cmp y.toInt64 0 < 0 := by
        rw [lgc_lt, Int64.lt_iff_toInt_lt, Int32.toInt_toInt64]
        exact fun z => c3 (Int32.lt_iff_toInt_lt.mpr z)
      obtain ⟨n, hn, rfl⟩ := nI_nn c3
      have e1 : (nI i).toInt64 + (nI n).toInt64 = lN (i + n) := by rw [nI_l hi, nI_l hn, lN_add]
      have e2 : (nI N).toInt64 = lN N := nI_l (by omega)
      simp only [if_neg c3, if_neg c4, e1, e2, lgc_le, pk_lLE (show i + n < 2 ^ 63 by omega) (show N < 2 ^ 63 by omega)]
      by_cases c5 : nI N < nI i
      · have c6 := (nI_ltI (by omega) (by omega)).mp c5
        simp only [if_pos c5, if_neg (show ¬ i + n ≤ N by omega)]
        exact Or.inr ⟨trivial, trivial⟩
      · have c6 : ¬ N < i := fun z => c5 ((nI_ltI (by omega) (by omega)).mpr z)
        simp only [if_neg c5, pk_sub (show i ≤ N by omega)]
        by_cases c7 : i + n ≤ N
        · have c8 : ¬ nI (N - i) < nI n := fun z => by have := (nI_ltI (by omega) (by omega)).mp z; omega
          simp only [if_neg c8, if_pos c7]
          exact Or.inl ⟨i, n, c7, rfl, rfl, trivial, trivial⟩
        · have c8 : nI (N - i) < nI n := (nI_ltI (by omega) (by omega)).mpr (by omega)
          simp only [if_pos c8, if_neg c7]
          exact Or.inr ⟨trivial, trivial⟩
/-- a cell that a row has, or has not -/
theorem hc_cases {k N : Nat} (hk : k < 4) (hN : N ≤ 60) {σ τ : kS} (h2 : σ (12 + k) 2 = nI N) (ht : τ 17 k = nI N) (x : Int32) : (∃ i, i < N ∧ x = nI i ∧ fX1_hasCell (12 + k) x σ = some (1, σ) ∧ fX5_noCell (nI k) x τ = some (0, τ)) ∨ (fX1_hasCell (12 + k) x σ = some (0, σ) ∧ fX5_noCell (nI k) x τ = some (3, τ)) := by
  have hi : inb (nI k) 4 := inb_lit (by omega) (by decide)
  have e : (nI k).toNatClampNeg = k := nI_clamp (by omega)
  have c0 : (0 : Int32) ≤ nI N := nI_le0 (by omega)
  have e1 : ∀ P : Nat, P ≤ 60 → ((nI P).toInt64 - 1).toInt = (P : Int) - 1 := by decide +kernel
  unfold fX1_hasCell fX5_noCell
  simp only [if_pos hi, e, ht, if_pos c0, h2]
  rcases rng_cases x N (by omega) with ⟨i, hi2, rfl⟩ | hx
  · have c1 : ¬ nI i < 0 := nI_pos (by omega)
    have c2 : ¬ nI N ≤ nI i := fun z => by have := (nI_leI (by omega) (by omega)).mp z; omega
    have c3 : fX5_in (nI i).toInt64 0 ((nI N).toInt64 - 1) τ = some (1, τ) := by
      rw [m_in, if_pos]
      rw [Int64.le_iff_toInt_le, Int64.le_iff_toInt_le, Int32.toInt_toInt64, show (0 : Int64).toInt = 0 from rfl, e1 _ hN, nI_toInt (by omega)]
      omega
    simp only [if_neg c1, if_neg c2, c3, kbi_s, one_z, ↓reduceIte]
    exact Or.inl ⟨i, hi2, rfl, trivial, trivial⟩
  · have c3 : fX5_in x.toInt64 0 ((nI N).toInt64 - 1) τ = some (0, τ) := by
      rw [m_in, if_neg]
      rw [Int64.le_iff_toInt_le, Int64.le_iff_toInt_le, Int32.toInt_toInt64, show (0 : Int64).toInt = 0 from rfl, e1 _ hN]
      omega
    simp only [c3, kbi_s, ↓reduceIte]
    refine Or.inr ⟨?_, trivial⟩
    by_cases c1 : x < 0
    · simp only [if_pos c1]
    · have c2 : nI N ≤ x := by
        rw [Int32.lt_iff_toInt_lt, show (0 : Int32).toInt = 0 from rfl] at c1
        rw [Int32.le_iff_toInt_le, nI_toInt (by omega)]
        omega
      simp only [if_neg c1, if_pos c2]
theorem m_norow {k : Nat} (hk : k < 4) {τ : kS} (ht : τ 17 k = -1) (x : Int32) : fX5_noCell (nI k) x τ = some (1, τ) := by
  have hi : inb (nI k) 4 := inb_lit (by omega) (by decide)
  have e : (nI k).toNatClampNeg = k := nI_clamp (by omega)
  unfold fX5_noCell
  simp only [if_pos hi, e, ht, if_neg (show ¬ (0 : Int32) ≤ -1 by decide)]
/-- one cell of a row becomes a number on both sides -/
theorem RA_put {A : kN} {σ τ : kS} (h : RA A σ τ) {k i : Nat} (hk : k < 4) (hi : i < 60) (x : Int32) : RA A (kup σ (12 + k + 4) i x) (kup τ 19 (60 * k + i) x) := by
  refine RA_s h (fun q hq => kup_ne (by omega)) (fun q hq => kup_ne (by omega)) (fun j hj => ?_)
  have hs := h.2.2.2.1 j hj
  rw [kup_ne (show 12 + j ≠ 12 + k + 4 by omega), kup_ne (show 17 ≠ 19 by decide), kup_ne (show 18 ≠ 19 by decide)]
  rcases hs with z | ⟨z1, n', l', z2, z3, z4, z5, z6, z7, z8⟩
  · exact Or.inl z
  · refine Or.inr ⟨z1, n', l', z2, z3, z4, z5, z6, z7, fun m hm => ?_⟩
    have z := z8 m hm
    by_cases d : j = k ∧ m = i
    · obtain ⟨rfl, rfl⟩ := d
      rw [kup_at, kup_at]
    · have d1 : ¬ (12 + j + 4 = 12 + k + 4 ∧ m = i) := by omega
      have d2 : ¬ 60 * j + m = 60 * k + i := by omega
      simp only [kup, if_neg d1, d2, and_false, if_false]
      exact z
theorem one_ne : ¬ (1 : Int32) = 0 := by decide
theorem m_put0 {k : Nat} {v w : Int32} {τ : kS} (e2 : fX5_noSheet (nI k) τ = some (1, τ)) : fX5_put (nI k) v w τ = some (-1, kup τ 0 0 0) := by
  unfold fX5_put
  rw [e2, kbi_s, if_neg one_ne]
  rfl
theorem m_put1 {k : Nat} {v w : Int32} {τ : kS} (e2 : fX5_noSheet (nI k) τ = some (0, τ)) (en : fX5_noCell (nI k) v τ = some (1, τ)) : fX5_put (nI k) v w τ = some ((-10) - 1, kup τ 0 0 1) := by
  unfold fX5_put
  rw [e2, kbi_s, if_pos rfl, en, kbi_s, if_neg (show ¬ (1 : Int32) ≤ 0 by decide), en, kbi_s]
  rfl
theorem m_put3 {k : Nat} {v w : Int32} {τ : kS} (e2 : fX5_noSheet (nI k) τ = some (0, τ)) (en : fX5_noCell (nI k) v τ = some (3, τ)) : fX5_put (nI k) v w τ = some ((-10) - 3, kup τ 0 0 3) := by
  unfold fX5_put
  rw [e2, kbi_s, if_pos rfl, en, kbi_s, if_neg (show ¬ (3 : Int32) ≤ 0 by decide), en, kbi_s]
  rfl
/-- what comes to a cell of a row of lane l -/
def cutL (l : Nat) (x : Int32) : Int32 := if l = 0 then (Int32.toInt8 x).toInt32 else if l = 1 then (Int32.toInt16 x).toInt32 else x
theorem m_putw {k i l : Nat} {w : Int32} {τ : kS} (hk : k < 4) (hi : i < 60) (hl : l < 3) (h18 : τ 18 k = nI l) (e2 : fX5_noSheet (nI k) τ = some (0, τ)) (en : fX5_noCell (nI k) (nI i) τ = some (0, τ)) : fX5_put (nI k) (nI i) w τ = some (1, kup (kup τ 19 (60 * k + i) (cutL l w)) 0 0 0) := by
  have hi4 : inb (nI k) 4 := inb_lit (by omega) (by decide)
  have e : (nI k).toNatClampNeg = k := nI_clamp (by omega)
  have e0 : (60 : Int32) * nI k + nI i = nI (60 * k + i) := by rw [lit_nI, pk_mul, nI_add]
  have hb : inb (nI (60 * k + i)) 240 := inb_lit (by omega) (by decide)
  have he : (nI (60 * k + i)).toNatClampNeg = 60 * k + i := nI_clamp (by omega)
  unfold fX5_put
  rw [e2, kbi_s, if_pos rfl, en, kbi_s, if_pos (show (0 : Int32) ≤ 0 by decide), if_pos hi4]
  simp only [e, h18, e0, he]
  rcases (show l = 0 ∨ l = 1 ∨ l = 2 by omega) with z | z | z
  · rw [z, if_pos (show nI 0 = 0 from rfl), if_pos hb]
    rfl
  · rw [z, if_neg (show ¬ nI 1 = 0 by decide), if_pos hi4, if_pos (show nI 1 = 1 from rfl), if_pos hb]
    rfl
  · rw [z, if_neg (show ¬ nI 2 = 0 by decide), if_pos hi4, if_neg (show ¬ nI 2 = 1 by decide), if_pos hb]
    rfl
theorem x_putw {k i l : Nat} {w : Int32} {σ : kS} (hi : i < 60) (hl : l < 3) (h1 : σ (12 + k) 1 = nI l) : fX1_write (12 + k) (nI i) w σ = some (kup σ (12 + k + 4) i (cutL l w)) := by
  have hb2 : inb (nI i) 60 := inb_lit (by omega) (by decide)
  have he2 : (nI i).toNatClampNeg = i := nI_clamp (by omega)
  unfold fX1_write
  rw [if_pos hb2, if_pos hb2, if_pos hb2]
  simp only [h1, he2]
  rcases (show l = 0 ∨ l = 1 ∨ l = 2 by omega) with z | z | z
  · rw [z, if_pos (show nI 0 = 0 from rfl)]
    rfl
  · rw [z, if_neg (show ¬ nI 1 = 0 by decide), if_pos (show nI 1 = 1 from rfl)]
    rfl
  · rw [z, if_neg (show ¬ nI 2 = 0 by decide), if_neg (show ¬ nI 2 = 1 by decide)]
    rfl
theorem x_put0 {a v w : Int32} {σ : kS} (e1 : fX4_isSheet a (kup σ 0 12 0) = some (0, kup σ 0 12 0)) : fX4_put a v w σ = some (-1, kup σ 0 12 0) := by
  unfold fX4_put
  rw [e1, kbi_s, if_pos rfl]
theorem x_put1 {k : Nat} {v w : Int32} {σ : kS} (hk : k < 4) (e1 : fX4_isSheet (nI k) (kup σ 0 12 0) = some (1, kup σ 0 12 0)) (s1 : σ (12 + k) 0 = 0) : fX4_put (nI k) v w σ = some ((-10) - 1, kup σ 0 12 1) := by
  have hi4 : inb (nI k) 4 := inb_lit (by omega) (by decide)
  have e : (nI k).toNatClampNeg = k := nI_clamp (by omega)
  have g0 : (kup σ 0 12 0) (12 + k) = σ (12 + k) := kup_ne (by omega)
  unfold fX4_put
  rw [e1, kbi_s, if_neg one_ne, if_pos hi4]
  simp only [e, g0, s1]
  rw [if_pos trivial]
  unfold fX4_faulted
  rw [kup_kup, kbi_s]
theorem x_put3 {k : Nat} {v w : Int32} {σ : kS} (hk : k < 4) (e1 : fX4_isSheet (nI k) (kup σ 0 12 0) = some (1, kup σ 0 12 0)) (s1 : σ (12 + k) 0 = 1) (e3 : fX1_hasCell (12 + k) v (kup σ 0 12 0) = some (0, kup σ 0 12 0)) : fX4_put (nI k) v w σ = some ((-10) - 3, kup σ 0 12 3) := by
  have hi4 : inb (nI k) 4 := inb_lit (by omega) (by decide)
  have e : (nI k).toNatClampNeg = k := nI_clamp (by omega)
  have g0 : (kup σ 0 12 0) (12 + k) = σ (12 + k) := kup_ne (by omega)
  unfold fX4_put
  rw [e1, kbi_s, if_neg one_ne, if_pos hi4]
  simp only [e, g0, s1]
  rw [if_neg one_ne, e3, kbi_s, if_pos rfl]
  unfold fX4_faulted
  rw [kup_kup, kbi_s]
theorem x_putx {k i l : Nat} {w : Int32} {σ : kS} (hk : k < 4) (hi : i < 60) (hl : l < 3) (e1 : fX4_isSheet (nI k) (kup σ 0 12 0) = some (1, kup σ 0 12 0)) (s1 : σ (12 + k) 0 = 1) (h1 : σ (12 + k) 1 = nI l) (e3 : fX1_hasCell (12 + k) (nI i) (kup σ 0 12 0) = some (1, kup σ 0 12 0)) : fX4_put (nI k) (nI i) w σ = some (1, kup (kup σ 0 12 0) (12 + k + 4) i (cutL l w)) := by
  have hi4 : inb (nI k) 4 := inb_lit (by omega) (by decide)
  have e : (nI k).toNatClampNeg = k := nI_clamp (by omega)
  have g0 : (kup σ 0 12 0) (12 + k) = σ (12 + k) := kup_ne (by omega)
  unfold fX4_put
  rw [e1, kbi_s, if_neg one_ne, if_pos hi4]
  simp only [e, g0, s1]
  rw [if_neg one_ne, e3, kbi_s, if_neg one_ne, x_putw hi hl (by rw [g0]; exact h1), kbv_s]
theorem c_put (a v w : Int32) : RI (fX4_put a v w) (fX5_put a v w) := by
  intro σ τ h
  have ⟨A, hA⟩ := h
  have hA0 := RA_0x hA 0
  rcases s_cases (kup σ 0 12 0) τ a with ⟨k, hk, rfl, e1, e2⟩ | ⟨e1, e2⟩
  · have g0 : (kup σ 0 12 0) (12 + k) = σ (12 + k) := kup_ne (by omega)
    rcases hA.2.2.2.1 k hk with ⟨s1, s2⟩ | ⟨s1, n, l, hn, hl, s2, s3, s4, s5, s6⟩
    · exact ⟨_, _, _, x_put1 hk e1 s1, m_put1 e2 (m_norow hk s2 v), A, RA_0x hA 1⟩
    · rcases hc_cases (σ := kup σ 0 12 0) (τ := τ) hk hn (by rw [g0]; exact s2) s3 v with ⟨i, hi2, rfl, e3, e4⟩ | ⟨e3, e4⟩
      · have sw : kup (kup τ 19 (60 * k + i) (cutL l w)) 0 0 0 = kup (kup τ 0 0 0) 19 (60 * k + i) (cutL l w) := by
          funext q j
          simp only [kup]
          by_cases d : q = 0
          · subst d
            simp only [show ¬ (0 : Nat) = 19 by decide, false_and, if_false]
          · simp only [d, false_and, if_false]
        refine ⟨_, _, _, x_putx hk (by omega) hl e1 s1 s4 e3, m_putw hk (by omega) hl s5 e2 e4, A, ?_⟩
        rw [sw]
        exact RA_put hA0 hk (by omega) _
      · exact ⟨_, _, _, x_put3 hk e1 s1 e3, m_put3 e2 e4, A, RA_0x hA 3⟩
  · refine ⟨-1, _, kup τ 0 0 0, x_put0 e1, ?_, A, hA0⟩
    unfold fX5_put
    rw [e2, kbi_s, if_neg one_ne]
    rfl
theorem c_cell (a v w : Int32) : RIL (fX4_cell a v w) (fX5_cell a v w) := by
  intro σ τ h
  have ⟨A, hA⟩ := h
  have hA0 := RA_0x hA 0
  have el : ∀ (τ : kS), fX5_lost τ = some ((-9223372036854775808), τ) := fun τ => rfl
  have ef : ∀ (x : Int32) (τ : kS), fX5_failedLong x τ = some ((-9223372036854775808), kup τ 0 0 x) := fun x τ => rfl
  unfold fX4_cell fX5_cell
  rcases s_cases (kup σ 0 12 0) (kup τ 0 0 0) a with ⟨k, hk, rfl, e1, e2⟩ | ⟨e1, e2⟩
  · have hi : inb (nI k) 4 := inb_lit (by omega) (by decide)
    have e : (nI k).toNatClampNeg = k := nI_clamp (by omega)
    have g0 : (kup σ 0 12 0) (12 + k) = σ (12 + k) := kup_ne (by omega)
    have g1 : (kup τ 0 0 0) 17 = τ 17 := kup_ne (by omega)
    have g2 : (kup τ 0 0 0) 18 = τ 18 := kup_ne (by omega)
    rcases rng_cases w 3 (by decide) with ⟨j, hj, rfl⟩ | hj
    · simp only [e1, e2, kbi_s, kbl_s, one_z, ↓reduceIte, x_below1 3 hj (by decide) _ 3 rfl, m_in1 j 0 2 (by omega) (by decide) _ 0 2 rfl rfl, if_pos hi, e, g0, g1, g2, fX1_faultAs]
      rcases hA0.2.2.2.1 k hk with ⟨s1, s2⟩ | ⟨s1, n, l, hn, hl, s2, s3, s4, s5, s6⟩
      · rw [g0] at s1
        have s2' := s2
        rw [g1] at s2
        have c1 : (-1 : Int32) < 0 := by decide
        have c2 : ¬ (1 : Int32) = 0 := by decide
        have c3 : ¬ (1 : Int32) ≤ 0 := by decide
        simp only [s1, s2, ↓reduceIte, if_pos c1, kbi_s, kup_at, if_neg c2, fX5_cell_J53, m_norow hk s2', if_neg c3, ef, kbl_s, kup_kup]
        exact ⟨_, _, _, rfl, rfl, A, RA_0x hA 1⟩
      · have s3' := s3
        rw [g1] at s3
        have s2' := s2
        have s1' := s1
        rw [g0] at s1 s2 s4
        rw [g2] at s5
        have c1 : ¬ nI n < 0 := nI_pos (by omega)
        by_cases c : l = j
        · subst c
          simp only [s1, s3, s4, s5, one_z, ↓reduceIte, if_neg c1, kbi_s, kup_at, kup_kup, fX5_cell_J53]
          rcases hc_cases (σ := kup σ 0 12 0) (τ := kup τ 0 0 0) hk hn s2' s3' v with ⟨i, hi2, rfl, e3, e4⟩ | ⟨e3, e4⟩
          · have d1 : (0 : Int32) ≤ 0 := by decide
            have e0 : (60 : Int32) * nI k + nI i = nI (60 * k + i) := by rw [lit_nI, pk_mul, nI_add]
            have hb : inb (nI (60 * k + i)) 240 := inb_lit (by omega) (by decide)
            have he : (nI (60 * k + i)).toNatClampNeg = 60 * k + i := nI_clamp (by omega)
            have hb2 : inb (nI i) 60 := inb_lit (by omega) (by decide)
            have he2 : (nI i).toNatClampNeg = i := nI_clamp (by omega)
            simp only [e3, e4, kbi_s, one_z, ↓reduceIte, kup_at, if_pos d1, e0, if_pos hb, he, if_pos hb2, he2]
            refine ⟨_, _, _, rfl, ?_, A, hA0⟩
            rw [s6 i hi2]
          · have d1 : ¬ (3 : Int32) ≤ 0 := by decide
            have d2 : ¬ (3 : Int32) = 0 := by decide
            simp only [e3, e4, kbi_s, kbl_s, ↓reduceIte, kup_at, kup_kup, if_neg d1, if_neg d2, ef]
            exact ⟨_, _, _, rfl, rfl, A, RA_0x hA 3⟩
        · have d : ¬ nI l = nI j := fun z => c ((nI_eq (by omega) (by omega)).mp z)
          have d2 : ¬ (2 : Int32) = 0 := by decide
          simp only [s1, s3, s4, s5, one_z, ↓reduceIte, if_neg c1, if_neg d, kbi_s, kbl_s, kup_at, kup_kup, if_neg d2, ef]
          exact ⟨_, _, _, rfl, rfl, A, RA_0x hA 2⟩
    · simp only [e1, e2, kbi_s, kbl_s, one_z, ↓reduceIte, x_below0 3 hj (by decide) _ 3 rfl, m_in0 w 0 2 (by omega) (by decide) (by decide) _ 0 2 rfl rfl, el]
      exact ⟨_, _, _, rfl, rfl, A, hA0⟩
  · simp only [e1, e2, kbi_s, kbl_s, one_z, ↓reduceIte, el]
    exact ⟨_, _, _, rfl, rfl, A, hA0⟩
