/-! THE REFERENCE's goesTo -/
theorem nI_sub' : ∀ a, a < 10 → ∀ b, b < 10 → a ≤ b → nI b - nI a = nI (b - a) := by decide +kernel
theorem m_apart {a b : Nat} (ha : a < 10) (hb : b < 10) (τ : kS) : fX5_apart (nI a) (nI b) τ = some (nI (nd a b), τ) := by
  unfold fX5_apart nd
  by_cases c : a ≤ b
  · rw [if_pos ((nI_leI (by omega) (by omega)).mpr c), if_pos c, nI_sub' _ ha _ hb c]
  · rw [if_neg (fun z => c ((nI_leI (by omega) (by omega)).mp z)), if_neg c, nI_sub' _ hb _ ha (by omega)]
theorem m_way {p : Nat} {τ : kS} {A : kN} (h : rM τ A) (ok : okA A) (hp : p < A 0 2) : fX5_wayTo (nI p) τ = some (nI (dd A p), τ) := by
  obtain ⟨o1, o2, o3, o4⟩ := ok
  obtain ⟨⟨h1, h2, h3⟩, h4⟩ := h
  obtain ⟨k1, k2, k3, k4⟩ := h4 p hp
  obtain ⟨q1, q2, q3, q4⟩ := o4 p hp
  have e : (nI p).toNatClampNeg = p := nI_clamp (by omega)
  have hi : inb (nI p) 6 := inb_lit (by omega) (by decide)
  unfold fX5_wayTo
  simp only [if_pos hi, e, k4, h1, m_apart q4 o1, kbi_s]
  rfl
theorem m_scent {p : Nat} {τ : kS} {A : kN} (h : rM τ A) (ok : okA A) (hp : p < A 0 2) : fX5_scentOf (nI p) τ = some (nI (sc A p), τ) := by
  obtain ⟨o1, o2, o3, o4⟩ := ok
  obtain ⟨⟨h1, h2, h3⟩, h4⟩ := h
  obtain ⟨k1, k2, k3, k4⟩ := h4 p hp
  obtain ⟨q1, q2, q3, q4⟩ := o4 p hp
  have e : (nI p).toNatClampNeg = p := nI_clamp (by omega)
  have hi : inb (nI p) 6 := inb_lit (by omega) (by decide)
  have hb := bt_8 _ q2
  unfold fX5_scentOf
  simp only [if_pos hi, e, k2, bits8 _ _ q2, kbi_s, k1]
  unfold sc
  rcases (show A 1 p = 0 ∨ A 1 p = 1 ∨ A 1 p = 2 by omega) with z | z | z <;> rw [z]
  · rw [if_pos (by decide), if_pos rfl]
  · rw [if_neg (by decide), if_pos (by decide), if_neg (by decide), if_pos rfl, nI_1]
  · rw [if_neg (by decide), if_neg (by decide), if_neg (by decide), if_neg (by decide), lit_nI, pk_mul, nI_add]
theorem m_smelt {p : Nat} {τ : kS} {A : kN} (h : rM τ A) (ok : okA A) (hp : p < A 0 2) : fX5_isSmelt (nI p) τ = some (if dd A p ≤ sc A p then 1 else 0, τ) := by
  have hd : dd A p < 10 := nd_lt _ (ok.2.2.2 p hp).2.2.2 _ ok.1
  have hs : sc A p ≤ 14 := by have := bt_le (A 2 p); unfold sc; split <;> (try split) <;> omega
  unfold fX5_isSmelt
  rw [m_way h ok hp, kbi_s, m_scent h ok hp, kbi_s]
  by_cases c : dd A p ≤ sc A p
  · rw [if_neg (by rw [nI_ltI (by omega) (by omega)]; omega), if_pos c]
  · rw [if_pos (by rw [nI_ltI (by omega) (by omega)]; omega), if_neg c]
/-- the reference's step, whatever it goes on with: u is how unlike, or 9 -/
theorem m_goesJ {p k : Nat} {τ : kS} {A : kN} (h : rM τ A) (ok : okA A) (hp : p < A 0 2) (hk : k < A 0 2) (K : Int32 → Int32 → Int32 → Int32 → kS → Option (Int32 × kS)) (a2 a3 : Int32) (ha2 : a2 = w1 (gst A p k)) (ha3 : a3 = match gst A p k with | none => nI (A 0 1 + 1) | some y => nI y.2.1) (u : Nat) (hu : u = if dd A k ≤ sc A k then un A p k else 9) :
    ∃ b2 b3 : Int32, b2 = w1 (gst A p (k + 1)) ∧ b3 = (match gst A p (k + 1) with | none => nI (A 0 1 + 1) | some y => nI y.2.1) ∧ fX5_goesTo_J53 K (nI p) a2 a3 (nI k) (nI u) τ = K (nI p) b2 b3 (nI (k + 1)) τ := by
  have o1 := ok.1
  have o2 := ok.2.1
  have o3 := ok.2.2.1
  have o4 := ok.2.2.2
  have hun := un_le A p k
  have hu9 : u ≤ 9 := by rw [hu]; split <;> omega
  have hb := gst_b A p k
  have g1 : gst A p (k + 1) = gstep A p k (gst A p k) := rfl
  have hd : dd A k < 10 := nd_lt _ (o4 k hk).2.2.2 _ o1
  have j1 : ∀ (a3 : Int32) (a5 b : Int32), nI u < a3 → fX5_goesTo_J103 K (nI p) a3 (nI k) (nI u) b τ = K (nI p) b (nI u) (nI (k + 1)) τ := by
    intro a3 a5 b hlt
    unfold fX5_goesTo_J103
    rw [if_neg (Int32.not_le.mpr hlt), klet_e, nI_1]
  have j2 : ∀ (a3 : Int32) (a5 b : Int32), ¬ nI u < a3 → fX5_goesTo_J103 K (nI p) a3 (nI k) (nI u) b τ = K (nI p) b a3 (nI (k + 1)) τ := by
    intro a3 a5 b hlt
    unfold fX5_goesTo_J103
    rw [if_pos (Int32.not_lt.mp hlt), klet_e, nI_1]
  unfold fX5_goesTo_J53
  cases hg : gst A p k with
  | none =>
    rw [hg] at ha2 ha3
    have ha2 : a2 = -9 := ha2
    have ha3 : a3 = nI (A 0 1 + 1) := ha3
    subst ha2
    subst ha3
    rw [if_pos (by decide)]
    by_cases c : u < A 0 1 + 1
    · have c' : nI u < nI (A 0 1 + 1) := (nI_ltI (by omega) (by omega)).mpr c
      have hcn : cnd A p k := by
        by_cases z : dd A k ≤ sc A k
        · rw [if_pos z] at hu; exact ⟨z, by omega⟩
        · rw [if_neg z] at hu; omega
      rw [if_pos hcn.1] at hu
      rw [if_pos c', j1 _ 0 _ c', g1, hg]
      simp only [gstep, if_pos hcn]
      exact ⟨_, _, rfl, by rw [hu], rfl⟩
    · have c' : ¬ nI u < nI (A 0 1 + 1) := fun z => c ((nI_ltI (by omega) (by omega)).mp z)
      have hcn : ¬ cnd A p k := by
        intro z
        rw [if_pos z.1] at hu
        have := z.2
        omega
      rw [if_neg c', if_pos rfl, j2 _ 0 _ c', g1, hg]
      simp only [gstep, if_neg hcn]
      exact ⟨_, _, rfl, rfl, rfl⟩
  | some z =>
    obtain ⟨w, f, d⟩ := z
    obtain ⟨b1, b2, b3, b4⟩ := hb _ hg
    dsimp only at b1 b2 b3 b4
    have hf : f ≤ A 0 1 := by rw [b3]; exact b2.2
    have hdw : d < 10 := by rw [b4]; exact nd_lt _ (o4 w (by omega)).2.2.2 _ o1
    rw [hg] at ha2 ha3
    have ha2 : a2 = nI w := ha2
    have ha3 : a3 = nI f := ha3
    subst ha2
    subst ha3
    rw [if_neg (nI_pos (by omega)), g1, hg]
    rw [m_way h ok hk, kbi_s, m_way h ok (show w < A 0 2 by omega), kbi_s]
    rw [show gstep A p k (some (w, f, d)) = (if cnd A p k ∧ (un A p k < f ∨ (un A p k = f ∧ dd A k < d)) then some (k, un A p k, dd A k) else some (w, f, d)) from rfl]
    have hcu : ∀ v, v ≤ A 0 1 → u ≤ v → cnd A p k ∧ u = un A p k := by
      intro v hv huv
      by_cases z : dd A k ≤ sc A k
      · rw [if_pos z] at hu; exact ⟨⟨z, by omega⟩, hu⟩
      · rw [if_neg z] at hu; omega
    by_cases c3 : u < f
    · obtain ⟨hcn, hue⟩ := hcu f hf (by omega)
      have c' : nI u < nI f := (nI_ltI (by omega) (by omega)).mpr c3
      have c4 : ¬ nI u = nI f := fun z => by have := (nI_eq (by omega) (by omega)).mp z; omega
      rw [if_neg c4, if_pos c', j1 _ 0 _ c', if_pos ⟨hcn, Or.inl (by omega)⟩]
      exact ⟨_, _, rfl, by rw [hue], rfl⟩
    · have c' : ¬ nI u < nI f := fun z => c3 ((nI_ltI (by omega) (by omega)).mp z)
      by_cases c4 : u = f
      · obtain ⟨hcn, hue⟩ := hcu f hf (by omega)
        rw [if_pos (show nI u = nI f by rw [c4])]
        by_cases c5 : d ≤ dd A k
        · rw [← b4, if_pos ((nI_leI (by omega) (by omega)).mpr c5), if_neg c', if_pos rfl, j2 _ 0 _ c', if_neg (by intro z; omega)]
          exact ⟨_, _, rfl, rfl, rfl⟩
        · rw [← b4, if_neg (fun z => c5 ((nI_leI (by omega) (by omega)).mp z)), if_neg c', if_neg (show ¬ (1 : Int32) = 0 by decide), j2 _ 0 _ c', if_pos ⟨hcn, Or.inr ⟨by omega, by omega⟩⟩]
          exact ⟨_, _, rfl, by rw [← hue, c4], rfl⟩
      · have c4' : ¬ nI u = nI f := fun z => c4 ((nI_eq (by omega) (by omega)).mp z)
        rw [if_neg c4', if_neg c', if_pos rfl, j2 _ 0 _ c']
        have : ¬ (cnd A p k ∧ (un A p k < f ∨ un A p k = f ∧ dd A k < d)) := by
          intro z
          have hz := z.1.1
          rw [if_pos hz] at hu
          omega
        rw [if_neg this]
        exact ⟨_, _, rfl, rfl, rfl⟩
theorem m_goesL {p : Nat} {τ : kS} {A : kN} (h : rM τ A) (ok : okA A) (hp : p < A 0 2) : ∀ (m k n : Nat) (a2 a3 : Int32), k + m = A 0 2 → m < n → a2 = w1 (gst A p k) → (a3 = match gst A p k with | none => nI (A 0 1 + 1) | some y => nI y.2.1) → fX5_goesTo_L13 n (nI p) a2 a3 (nI k) τ = some (enc (go A p), τ) := by
  have o3 := ok.2.2.1
  have o4 := ok.2.2.2
  intro m
  induction m with
  | zero =>
    intro k n a2 a3 hk hn ha2 ha3
    obtain ⟨n, rfl⟩ : ∃ j, n = j + 1 := ⟨n - 1, by omega⟩
    rw [fX5_goesTo_L13, if_pos (by rw [h.1.2.2, nI_leI (by omega) (by omega)]; omega)]
    have hk' : k = A 0 2 := by omega
    subst hk'
    rw [ha2]
    unfold go
    cases gst A p (A 0 2) <;> rfl
  | succ m ih =>
    intro k n a2 a3 hk hn ha2 ha3
    obtain ⟨n, rfl⟩ : ∃ j, n = j + 1 := ⟨n - 1, by omega⟩
    have hk2 : k < A 0 2 := by omega
    have hi : inb (nI k) 6 := inb_lit (by omega) (by decide)
    have hj : inb (nI p) 6 := inb_lit (by omega) (by decide)
    have e : (nI p).toNatClampNeg = p := nI_clamp (by omega)
    have e2 : (nI k).toNatClampNeg = k := nI_clamp (by omega)
    have q2 := (o4 k hk2).2.1
    have r3 := (o4 p hp).2.2.1
    rw [fX5_goesTo_L13, if_neg (by rw [h.1.2.2, nI_leI (by omega) (by omega)]; omega), m_smelt h ok hk2, kbi_s]
    by_cases c : dd A k ≤ sc A k
    · simp only [if_pos c, if_pos hi, if_pos hj, e, e2, (h.2 k hk2).2.1, (h.2 p hp).2.2.1, nI_xor8 _ q2 _ r3, bits8 _ _ (xor_8 _ q2 _ r3), kbi_s]
      obtain ⟨b2, b3, h2, h3, h4⟩ := m_goesJ h ok hp hk2 (fX5_goesTo_L13 n) a2 a3 ha2 ha3 (bt (A 2 k ^^^ A 3 p)) (by rw [if_pos c]; rfl)
      rw [if_neg (by decide), h4]
      exact ih (k + 1) n b2 b3 (by omega) (by omega) h2 h3
    · rw [if_neg c, if_pos rfl]
      obtain ⟨b2, b3, h2, h3, h4⟩ := m_goesJ h ok hp hk2 (fX5_goesTo_L13 n) a2 a3 ha2 ha3 9 (by rw [if_neg c])
      rw [show (9 : Int32) = nI 9 from rfl, h4]
      exact ih (k + 1) n b2 b3 (by omega) (by omega) h2 h3
theorem m_goes {p : Nat} {τ : kS} {A : kN} (h : rM τ A) (ok : okA A) (hp : p < A 0 2) : fX5_goesTo (nI p) τ = some (enc (go A p), τ) := by
  have o3 := ok.2.2.1
  unfold fX5_goesTo
  rw [klet_e, h.1.2.1, nI_1]
  exact m_goesL h ok hp (A 0 2) 0 1000 _ _ (by omega) (by omega) rfl rfl
