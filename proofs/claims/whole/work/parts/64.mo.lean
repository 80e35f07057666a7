/-! ROUNDS: what bars them, the pairs -/
theorem m_cb1 {k : Nat} {a2 x : Int32} {y : Int64} {τ : kS} (hk : k < 4) (ht : τ 17 k = -1) : fX5_cellsBarred (nI k) a2 x y τ = some ((-10) - 1, kup τ 0 0 1) := by
  have hi : inb (nI k) 4 := inb_lit (by omega) (by decide)
  have e : (nI k).toNatClampNeg = k := nI_clamp (by omega)
  have e17 : τ 17 (nI k).toNatClampNeg = -1 := by rw [e]; exact ht
  unfold fX5_cellsBarred
  rw [if_pos hi, e17, if_pos (show (-1 : Int32) < 0 by decide)]
  unfold fX5_cellsBarred_J25
  rw [if_pos hi, e17, if_neg (show ¬ (0 : Int32) ≤ -1 by decide)]
  rfl
theorem m_cb2 {k n l j : Nat} {x : Int32} {y : Int64} {τ : kS} (hk : k < 4) (hn : n ≤ 60) (hl : l < 3) (hj : j < 3) (ht : τ 17 k = nI n) (hlane : τ 18 k = nI l) (hne : l ≠ j) : fX5_cellsBarred (nI k) (nI j) x y τ = some ((-10) - 2, kup τ 0 0 2) := by
  have hi : inb (nI k) 4 := inb_lit (by omega) (by decide)
  have e : (nI k).toNatClampNeg = k := nI_clamp (by omega)
  have e17 : τ 17 (nI k).toNatClampNeg = nI n := by rw [e]; exact ht
  have e18 : τ 18 (nI k).toNatClampNeg = nI l := by rw [e]; exact hlane
  unfold fX5_cellsBarred
  rw [if_pos hi, e17, if_neg (nI_pos (by omega)), if_pos hi, e18, if_neg (fun z => hne ((nI_eq (by omega) (by omega)).mp z))]
  rfl
theorem m_cbS {k n l : Nat} {x : Int32} {y : Int64} {τ : kS} (hk : k < 4) (hn : n ≤ 60) (ht : τ 17 k = nI n) (hlane : τ 18 k = nI l) (hy : lg_cmp y 0 < 0) : fX5_cellsBarred (nI k) (nI l) x y τ = some ((-10) - 4, kup τ 0 0 4) := by
  have hi : inb (nI k) 4 := inb_lit (by omega) (by decide)
  have e : (nI k).toNatClampNeg = k := nI_clamp (by omega)
  have e17 : τ 17 (nI k).toNatClampNeg = nI n := by rw [e]; exact ht
  have e18 : τ 18 (nI k).toNatClampNeg = nI l := by rw [e]; exact hlane
  unfold fX5_cellsBarred
  rw [if_pos hi, e17, if_neg (nI_pos (by omega)), if_pos hi, e18, if_pos rfl]
  unfold fX5_cellsBarred_J25
  rw [if_pos hi, e17, if_pos (nI_le0 (by omega)), if_neg (Int32.not_le.mpr hy)]
  rfl
theorem m_cb0 {k n l : Nat} {x : Int32} {y : Int64} {τ : kS} (hk : k < 4) (hn : n ≤ 60) (ht : τ 17 k = nI n) (hlane : τ 18 k = nI l) (hy : ¬ lg_cmp y 0 < 0) (hb : fX5_isBeyond x y (nI n) τ = some (0, τ)) : fX5_cellsBarred (nI k) (nI l) x y τ = some (0, τ) := by
  have hi : inb (nI k) 4 := inb_lit (by omega) (by decide)
  have e : (nI k).toNatClampNeg = k := nI_clamp (by omega)
  have e17 : τ 17 (nI k).toNatClampNeg = nI n := by rw [e]; exact ht
  have e18 : τ 18 (nI k).toNatClampNeg = nI l := by rw [e]; exact hlane
  unfold fX5_cellsBarred
  rw [if_pos hi, e17, if_neg (nI_pos (by omega)), if_pos hi, e18, if_pos rfl]
  unfold fX5_cellsBarred_J25
  rw [if_pos hi, e17, if_pos (nI_le0 (by omega)), if_pos (Int32.not_lt.mp hy), if_pos hi, hb, kbi_s, if_pos rfl]
theorem m_cb3 {k n l : Nat} {x : Int32} {y : Int64} {τ : kS} (hk : k < 4) (hn : n ≤ 60) (ht : τ 17 k = nI n) (hlane : τ 18 k = nI l) (hy : ¬ lg_cmp y 0 < 0) (hb : fX5_isBeyond x y (nI n) τ = some (1, τ)) : fX5_cellsBarred (nI k) (nI l) x y τ = some ((-10) - 3, kup τ 0 0 3) := by
  have hi : inb (nI k) 4 := inb_lit (by omega) (by decide)
  have e : (nI k).toNatClampNeg = k := nI_clamp (by omega)
  have e17 : τ 17 (nI k).toNatClampNeg = nI n := by rw [e]; exact ht
  have e18 : τ 18 (nI k).toNatClampNeg = nI l := by rw [e]; exact hlane
  unfold fX5_cellsBarred
  rw [if_pos hi, e17, if_neg (nI_pos (by omega)), if_pos hi, e18, if_pos rfl]
  unfold fX5_cellsBarred_J25
  rw [if_pos hi, e17, if_pos (nI_le0 (by omega)), if_pos (Int32.not_lt.mp hy), if_pos hi, hb, kbi_s, if_neg one_ne]
  rfl
theorem act_cases (v : Int32) (σ τ : kS) : ((∃ a, a ≤ 8 ∧ v = nI a) ∧ fX4_isBelow v 9 σ = some (1, σ) ∧ fX5_in v.toInt64 0 8 τ = some (1, τ)) ∨ ((∃ a, 10 ≤ a ∧ a ≤ 19 ∧ v = nI a) ∧ fX4_isBelow v 9 σ = some (0, σ) ∧ fX5_in v.toInt64 0 8 τ = some (0, τ) ∧ fX4_isBelow (v - 10) 10 σ = some (1, σ) ∧ fX5_in v.toInt64 10 19 τ = some (1, τ)) ∨ (fX4_isBelow v 9 σ = some (0, σ) ∧ fX5_in v.toInt64 0 8 τ = some (0, τ) ∧ fX4_isBelow (v - 10) 10 σ = some (0, σ) ∧ fX5_in v.toInt64 10 19 τ = some (0, τ)) := by
  rcases rng_cases v 9 (by decide) with ⟨a, ha, rfl⟩ | h
  · exact Or.inl ⟨⟨a, by omega, rfl⟩, x_below1 9 ha (by decide) _ 9 rfl, m_in1 a 0 8 (by omega) (by decide) _ 0 8 rfl rfl⟩
  · have e1 := x_below0 9 h (by decide) σ 9 rfl
    have e2 := m_in0 v 0 8 (by omega) (by decide) (by decide) τ 0 8 rfl rfl
    rcases rng_cases (v - 10) 10 (by decide) with ⟨a, ha, hv⟩ | h2
    · have hv2 : v = nI (a + 10) := by
        have : v - 10 + 10 = nI a + 10 := by rw [hv]
        rw [Int32.sub_add_cancel] at this
        rw [this]
        exact nI_add a 10
      subst hv2
      refine Or.inr (Or.inl ⟨⟨a + 10, by omega, by omega, rfl⟩, e1, e2, ?_, m_in1 (a + 10) 10 19 (by omega) (by decide) _ 10 19 rfl rfl⟩)
      rw [hv]
      exact x_below1 10 ha (by decide) _ 10 rfl
    · refine Or.inr (Or.inr ⟨e1, e2, x_below0 10 h2 (by decide) _ 10 rfl, m_in0 v 10 19 ?_ (by decide) (by decide) _ 10 19 rfl rfl⟩)
      by_cases c : 10 ≤ v.toInt ∧ v.toInt ≤ 19
      · have hv : v = nI v.toInt.toNat := by
          apply Int32.toInt_inj.mp
          rw [nI_toInt (by omega)]
          omega
        rw [hv, show (10 : Int32) = nI 10 from rfl, pk_sub (by omega), nI_toInt (by omega)] at h2
        omega
      · omega
/-- pair x of the row is as told -/
def vpair (P q i : Nat) (σ : kS) (x : Nat) : Prop := ∃ p a, p < P ∧ (a ≤ 8 ∨ (10 ≤ a ∧ a ≤ 19)) ∧ σ q (i + 2 * x) = nI p ∧ σ q (i + 2 * x + 1) = nI a
theorem pairsL {A : kN} {k N i n : Nat} {σ τ : kS} (hx : rX 1 σ A) (hm : rM τ A) (ok : okA A) (hk : k < 4) (hN : N ≤ 60) (hi : i + 2 * n ≤ N) (hs : ∀ y, y < N → σ (12 + k + 4) y = τ 19 (60 * k + y)) : ∀ (m x f g : Nat), x + m = n → m < f → m < g → ∃ r, fX4_refusalOfPairs_L3 f (12 + k + 4) (nI i) (nI n) (nI x) σ = some (r, σ) ∧ fX5_pairsBarred_L2 g (nI (60 * k + i)) (nI n) (nI x) τ = some (r, τ) ∧ ((r = 0 ∧ ∀ y, x ≤ y → y < n → vpair (A 0 2) (12 + k + 4) i σ y) ∨ r = -1 ∨ r = -2) := by
  have o := ok.2.2.1
  intro m
  induction m with
  | zero =>
    intro x f g hx2 hf hg
    obtain ⟨f, rfl⟩ : ∃ j, f = j + 1 := ⟨f - 1, by omega⟩
    obtain ⟨g, rfl⟩ : ∃ j, g = j + 1 := ⟨g - 1, by omega⟩
    have c : nI n ≤ nI x := (nI_leI (by omega) (by omega)).mpr (by omega)
    rw [fX4_refusalOfPairs_L3, if_pos c, fX5_pairsBarred_L2, if_pos c]
    exact ⟨0, rfl, rfl, Or.inl ⟨rfl, fun y h1 h2 => by omega⟩⟩
  | succ m ih =>
    intro x f g hx2 hf hg
    obtain ⟨f, rfl⟩ : ∃ j, f = j + 1 := ⟨f - 1, by omega⟩
    obtain ⟨g, rfl⟩ : ∃ j, g = j + 1 := ⟨g - 1, by omega⟩
    have c : ¬ nI n ≤ nI x := fun z => by have := (nI_leI (by omega) (by omega)).mp z; omega
    have e1 : nI i + 2 * nI x = nI (i + 2 * x) := by rw [show (2 : Int32) = nI 2 from rfl, pk_mul, nI_add]
    have e2 : nI (60 * k + i) + 2 * nI x = nI (60 * k + (i + 2 * x)) := by rw [show (2 : Int32) = nI 2 from rfl, pk_mul, nI_add, show 60 * k + i + 2 * x = 60 * k + (i + 2 * x) by omega]
    have b1 : inb (nI (i + 2 * x + 1)) 60 := inb_lit (by omega) (by decide)
    have b0 : inb (nI (i + 2 * x)) 60 := inb_lit (by omega) (by decide)
    have d1 : inb (nI (60 * k + (i + 2 * x) + 1)) 240 := inb_lit (by omega) (by decide)
    have d0 : inb (nI (60 * k + (i + 2 * x))) 240 := inb_lit (by omega) (by decide)
    have t1 : (nI (i + 2 * x + 1)).toNatClampNeg = i + 2 * x + 1 := nI_clamp (by omega)
    have t0 : (nI (i + 2 * x)).toNatClampNeg = i + 2 * x := nI_clamp (by omega)
    have u1 : (nI (60 * k + (i + 2 * x) + 1)).toNatClampNeg = 60 * k + (i + 2 * x + 1) := nI_clamp (by omega)
    have u0 : (nI (60 * k + (i + 2 * x))).toNatClampNeg = 60 * k + (i + 2 * x) := nI_clamp (by omega)
    have s1 := hs (i + 2 * x + 1) (by omega)
    have s0 := hs (i + 2 * x) (by omega)
    rw [fX4_refusalOfPairs_L3, if_neg c, fX5_pairsBarred_L2, if_neg c, e1, e2, nI_1, nI_1, if_pos b1, if_pos d1, klet_e, klet_e, t1, u1, ← s1]
    have key : (∃ a, (a ≤ 8 ∨ (10 ≤ a ∧ a ≤ 19)) ∧ σ (12 + k + 4) (i + 2 * x + 1) = nI a) → ∃ r, fX4_refusalOfPairs_J47 (fX4_refusalOfPairs_L3 f) (12 + k + 4) (nI i) (nI n) (nI x) σ = some (r, σ) ∧ fX5_pairsBarred_J52 (fX5_pairsBarred_L2 g) (nI (60 * k + i)) (nI n) (nI x) τ = some (r, τ) ∧ ((r = 0 ∧ ∀ y, x ≤ y → y < n → vpair (A 0 2) (12 + k + 4) i σ y) ∨ r = -1 ∨ r = -2) := by
      intro ⟨a, ha, hv⟩
      unfold fX4_refusalOfPairs_J47 fX5_pairsBarred_J52
      rw [e1, e2, if_pos b0, if_pos d0, t0, u0, ← s0]
      rcases p_cases hx hm ok (σ (12 + k + 4) (i + 2 * x)) with ⟨p, hp, hpe, q1, q2⟩ | ⟨_, q1, q2⟩
      · rw [q1, kbi_s, if_neg one_ne, q2, kbi_s, if_pos rfl, klet_e, klet_e, nI_1]
        obtain ⟨r, f1, f2, f3⟩ := ih (x + 1) f g (by omega) (by omega) (by omega)
        refine ⟨r, f1, f2, ?_⟩
        rcases f3 with ⟨z1, z2⟩ | z
        · refine Or.inl ⟨z1, fun y h1 h2 => ?_⟩
          by_cases d : y = x
          · subst d
            exact ⟨p, a, hp, ha, hpe, hv⟩
          · exact z2 y (by omega) h2
        · exact Or.inr z
      · rw [q1, kbi_s, if_pos rfl, q2, kbi_s, if_neg one_ne]
        exact ⟨-1, rfl, rfl, Or.inr (Or.inl rfl)⟩
    rcases act_cases (σ (12 + k + 4) (i + 2 * x + 1)) σ τ with ⟨⟨a, ha, hv⟩, q1, q2⟩ | ⟨⟨a, ha, ha2, hv⟩, q1, q2, q3, q4⟩ | ⟨q1, q2, q3, q4⟩
    · rw [q1, kbi_s, if_neg one_ne, q2, kbi_s, if_neg one_ne]
      exact key ⟨a, Or.inl ha, hv⟩
    · rw [q1, kbi_s, if_pos rfl, q2, kbi_s, if_pos rfl, q3, kbi_s, if_neg one_ne, q4, kbi_s, if_neg one_ne]
      exact key ⟨a, Or.inr ⟨ha, ha2⟩, hv⟩
    · rw [q1, kbi_s, if_pos rfl, q2, kbi_s, if_pos rfl, q3, kbi_s, if_pos rfl, q4, kbi_s, if_pos rfl]
      exact ⟨-2, rfl, rfl, Or.inr (Or.inr rfl)⟩
