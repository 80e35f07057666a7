/-! copy -/
theorem m_copyB {o j n : Nat} (ho : o < 4) (hj : j + n ≤ 60) : ∀ (m x f : Nat) (τ : kS), x + m = n → m < f → ∃ τ', fX5_copy_L144 f (nI o) (nI j) (nI n) (nI x) τ = some (nI n, kup τ' 0 0 0) ∧ (∀ r, r ≠ 19 → τ' r = τ r) ∧ (∀ y, x ≤ y → y < n → τ' 19 (60 * o + j + y) = τ 20 y) ∧ (∀ y, y < 60 * o + j + x ∨ 60 * o + j + n ≤ y → τ' 19 y = τ 19 y) := by
  intro m
  induction m with
  | zero =>
    intro x f τ hx hf
    obtain ⟨f, rfl⟩ : ∃ j, f = j + 1 := ⟨f - 1, by omega⟩
    have c : nI n ≤ nI x := (nI_leI (by omega) (by omega)).mpr (by omega)
    rw [fX5_copy_L144, if_pos c]
    exact ⟨τ, rfl, fun _ _ => rfl, fun y h1 h2 => by omega, fun _ _ => rfl⟩
  | succ m ih =>
    intro x f τ hx hf
    obtain ⟨f, rfl⟩ : ∃ j, f = j + 1 := ⟨f - 1, by omega⟩
    have c : ¬ nI n ≤ nI x := fun z => by have := (nI_leI (by omega) (by omega)).mp z; omega
    have e0 : (60 : Int32) * nI o + nI j + nI x = nI (60 * o + j + x) := by rw [lit_nI, pk_mul, nI_add, nI_add]
    have hb : inb (nI (60 * o + j + x)) 240 := inb_lit (by omega) (by decide)
    have he : (nI (60 * o + j + x)).toNatClampNeg = 60 * o + j + x := nI_clamp (by omega)
    have hb2 : inb (nI x) 60 := inb_lit (by omega) (by decide)
    have he2 : (nI x).toNatClampNeg = x := nI_clamp (by omega)
    rw [fX5_copy_L144, if_neg c, if_pos hb2]
    simp only [e0, he, he2, klet_e, nI_1]
    rw [if_pos hb]
    obtain ⟨t', h1, h2, h3, h4⟩ := ih (x + 1) f (kup τ 19 (60 * o + j + x) (τ 20 x)) (by omega) (by omega)
    refine ⟨t', h1, fun r hr => by rw [h2 r hr, kup_ne hr], fun y a b => ?_, fun y a => ?_⟩
    · by_cases d : y = x
      · subst d
        rw [h4 _ (by omega), kup_at]
      · rw [h3 y (by omega) b, kup_ne (by decide)]
    · rw [h4 y (by omega), kup_k (by omega)]
theorem m_copyA {k o i j n : Nat} (hk : k < 4) (hi : i + n ≤ 60) : ∀ (m x f : Nat) (τ : kS), x + m = n → m < f → ∃ τ', fX5_copy_L107 f (nI k) (nI i) (nI o) (nI j) (nI n) (nI x) τ = fX5_copy_L144 1000 (nI o) (nI j) (nI n) 0 τ' ∧ (∀ r, r ≠ 20 → τ' r = τ r) ∧ (∀ y, x ≤ y → y < n → τ' 20 y = τ 19 (60 * k + i + y)) ∧ (∀ y, y < x → τ' 20 y = τ 20 y) := by
  intro m
  induction m with
  | zero =>
    intro x f τ hx hf
    obtain ⟨f, rfl⟩ : ∃ j, f = j + 1 := ⟨f - 1, by omega⟩
    have c : nI n ≤ nI x := (nI_leI (by omega) (by omega)).mpr (by omega)
    rw [fX5_copy_L107, if_pos c]
    exact ⟨τ, rfl, fun _ _ => rfl, fun y h1 h2 => by omega, fun _ _ => rfl⟩
  | succ m ih =>
    intro x f τ hx hf
    obtain ⟨f, rfl⟩ : ∃ j, f = j + 1 := ⟨f - 1, by omega⟩
    have c : ¬ nI n ≤ nI x := fun z => by have := (nI_leI (by omega) (by omega)).mp z; omega
    have e0 : (60 : Int32) * nI k + nI i + nI x = nI (60 * k + i + x) := by rw [lit_nI, pk_mul, nI_add, nI_add]
    have hb : inb (nI (60 * k + i + x)) 240 := inb_lit (by omega) (by decide)
    have he : (nI (60 * k + i + x)).toNatClampNeg = 60 * k + i + x := nI_clamp (by omega)
    have hb2 : inb (nI x) 60 := inb_lit (by omega) (by decide)
    have he2 : (nI x).toNatClampNeg = x := nI_clamp (by omega)
    rw [fX5_copy_L107, if_neg c]
    simp only [e0, he, he2, klet_e, nI_1]
    rw [if_pos hb, if_pos hb2]
    obtain ⟨t', h1, h2, h3, h4⟩ := ih (x + 1) f (kup τ 20 x (τ 19 (60 * k + i + x))) (by omega) (by omega)
    refine ⟨t', h1, fun r hr => by rw [h2 r hr, kup_ne hr], fun y a b => ?_, fun y a => ?_⟩
    · by_cases d : y = x
      · subst d
        rw [h4 _ (by omega), kup_at]
      · rw [h3 y (by omega) b, kup_ne (by decide)]
    · rw [h4 y (by omega), kup_k (by omega)]
theorem c_copy (a b c d f : Int32) : RI (fX4_copy a b c d f) (fX5_copy a b c d f) := by
  intro σ τ h
  have ⟨A, hA⟩ := h
  have hA0 := RA_0x hA 0
  have er : ∀ (x : Int32) (τ : kS), fX5_refused x τ = some (x, kup τ 0 0 0) := fun x τ => rfl
  have ef : ∀ (x : Int32), fX5_failed x τ = some ((-10) - x, kup τ 0 0 x) := fun x => rfl
  have eg : ∀ (x : Int32), fX4_faulted x (kup σ 0 12 0) = some ((-10) - x, kup σ 0 12 x) := fun x => by unfold fX4_faulted; rw [kup_kup]
  unfold fX4_copy fX5_copy
  rcases s_cases (kup σ 0 12 0) τ a with ⟨k, hk, rfl, e1, e2⟩ | ⟨e1, e2⟩
  · rw [e1, kbi_s, if_neg one_ne, e2, kbi_s, if_pos rfl]
    rcases s_cases (kup σ 0 12 0) τ c with ⟨o, ho, rfl, e3, e4⟩ | ⟨e3, e4⟩
    · have hik : inb (nI k) 4 := inb_lit (by omega) (by decide)
      have hio : inb (nI o) 4 := inb_lit (by omega) (by decide)
      have ek : (nI k).toNatClampNeg = k := nI_clamp (by omega)
      have eo : (nI o).toNatClampNeg = o := nI_clamp (by omega)
      have g0 : (kup σ 0 12 0) (12 + k) = σ (12 + k) := kup_ne (by omega)
      have g1 : (kup σ 0 12 0) (12 + o) = σ (12 + o) := kup_ne (by omega)
      rw [e3, kbi_s, if_neg one_ne, e4, kbi_s, if_pos rfl, if_pos hik, if_pos hio, if_pos hik]
      simp only [ek, eo, g0, g1]
      rcases hA.2.2.2.1 k hk with ⟨s1, s2⟩ | ⟨s1, n, l, hn, hl, s2, s3, s4, s5, s6⟩
      · rw [if_pos s1, eg, kbi_s, if_pos (show τ 17 k < 0 by rw [s2]; decide), ef, kbi_s]
        exact ⟨_, _, _, rfl, rfl, A, RA_0x hA 1⟩
      · rw [if_neg (show ¬ σ (12 + k) 0 = 0 by rw [s1]; decide), if_neg (show ¬ τ 17 k < 0 by rw [s3]; exact nI_pos (by omega)), if_pos hio]
        rcases hA.2.2.2.1 o ho with ⟨r1, r2⟩ | ⟨r1, n', l', hn', hl', r2, r3, r4, r5, r6⟩
        · rw [if_pos r1, eg, kbi_s, if_neg (show ¬ 0 ≤ τ 17 o by rw [r2]; decide), ef, kbi_s]
          exact ⟨_, _, _, rfl, rfl, A, RA_0x hA 1⟩
        · rw [if_neg (show ¬ σ (12 + o) 0 = 0 by rw [r1]; decide), if_pos (show 0 ≤ τ 17 o by rw [r3]; exact nI_le0 (by omega)), if_pos hik, if_pos hio, s4, r4, s5, r5]
          by_cases cl : l = l'
          · subst cl
            rw [if_pos rfl, if_pos rfl, if_pos hik, s3]
            rcases sp_cases (q := 12 + k) (σ := kup σ 0 12 0) hn (by rw [g0]; exact s2) τ b f with ⟨i, m, h1, rfl, rfl, p1, p2⟩ | ⟨p1, p2⟩
            · rw [p1, kbi_s, if_neg one_ne, p2, kbi_s, if_pos rfl, if_pos hio, r3]
              rcases sp_cases (q := 12 + o) (σ := kup σ 0 12 0) hn' (by rw [g1]; exact r2) τ d (nI m) with ⟨j, m', h2, rfl, hm', p3, p4⟩ | ⟨p3, p4⟩
              · have hmm : m' = m := ((nI_eq (by omega) (by omega)).mp hm').symm
                subst hmm
                have e5 : (nI i).toNatClampNeg = i := nI_clamp (by omega)
                have e6 : (nI j).toNatClampNeg = j := nI_clamp (by omega)
                have e7 : (nI m').toNatClampNeg = m' := nI_clamp (by omega)
                have hc : kcpy (nI i) (nI j) (nI m') 60 60 := ⟨⟨nI_pos (by omega), nI_pos (by omega)⟩, ⟨nI_pos (by omega), by rw [e5, e7]; omega⟩, by rw [e6, e7]; omega⟩
                rw [p3, kbi_s, if_neg one_ne, if_pos hc, p4, kbi_s, if_pos rfl]
                simp only [e5, e6, e7]
                obtain ⟨t1, f1, f2, f3, -⟩ := m_copyA (o := o) (j := j) hk (show i + m' ≤ 60 by omega) m' 0 1000 τ (by omega) (by omega)
                obtain ⟨t2, b1, b2, b3, b4⟩ := m_copyB (n := m') ho (show j + m' ≤ 60 by omega) m' 0 1000 t1 (by omega) (by omega)
                refine ⟨_, _, _, rfl, f1.trans b1, A, RA_s hA0 (fun q hq => krow_ne (by omega)) (fun q hq => ?_) (fun q hq => ?_)⟩
                · by_cases dq : q = 0
                  · subst dq
                    funext y
                    by_cases dy : y = 0
                    · subst dy; rw [kup_at, kup_at]
                    · rw [kup_k dy, kup_k dy, b2 0 (by omega), f2 0 (by omega)]
                  · rw [kup_ne dq, kup_ne dq, b2 q (by omega), f2 q (by omega)]
                · rw [kup_ne (show 17 ≠ 0 by decide), kup_ne (show 18 ≠ 0 by decide), kup_ne (show 19 ≠ 0 by decide), b2 17 (by decide), b2 18 (by decide), f2 17 (by decide), f2 18 (by decide), krow_ne (show 12 + q ≠ 12 + o + 4 by omega), kup_ne (show 12 + q ≠ 0 by omega)]
                  rcases hA.2.2.2.1 q hq with z | ⟨z1, N, L, z2, z3, z4, z5, z6, z7, z8⟩
                  · exact Or.inl z
                  · refine Or.inr ⟨z1, N, L, z2, z3, z4, z5, z6, z7, fun y hy => ?_⟩
                    by_cases dq : q = o
                    · subst dq
                      rw [krow_self]
                      unfold va_cpy
                      by_cases dy : j ≤ y ∧ y < j + m'
                      · rw [if_pos dy, kup_ne (show 12 + k + 4 ≠ 0 by omega), s6 _ (by omega)]
                        have u1 := b3 (y - j) (by omega) (by omega)
                        rw [show 60 * q + j + (y - j) = 60 * q + y by omega] at u1
                        rw [u1, f3 _ (by omega) (by omega)]
                        rw [show 60 * k + (i + (y - j)) = 60 * k + i + (y - j) by omega]
                      · rw [if_neg dy, kup_ne (show 12 + q + 4 ≠ 0 by omega), b4 _ (by omega), f2 19 (by decide), z8 y hy]
                    · rw [krow_ne (show 12 + q + 4 ≠ 12 + o + 4 by omega), kup_ne (show 12 + q + 4 ≠ 0 by omega), b4 _ (by omega), f2 19 (by decide), z8 y hy]
              · rw [p3, kbi_s, if_pos rfl, eg, kbi_s, p4, kbi_s, if_neg one_ne, ef, kbi_s]
                exact ⟨_, _, _, rfl, rfl, A, RA_0x hA 3⟩
            · rw [p1, kbi_s, if_pos rfl, eg, kbi_s, p2, kbi_s, if_neg one_ne, ef, kbi_s]
              exact ⟨_, _, _, rfl, rfl, A, RA_0x hA 3⟩
          · have dl : ¬ nI l = nI l' := fun z => cl ((nI_eq (by omega) (by omega)).mp z)
            rw [if_neg dl, if_neg dl, eg, kbi_s, ef, kbi_s]
            exact ⟨_, _, _, rfl, rfl, A, RA_0x hA 2⟩
    · rw [e3, kbi_s, if_pos rfl, e4, kbi_s, if_neg one_ne, er, kbi_s]
      exact ⟨_, _, _, rfl, rfl, A, hA0⟩
  · rw [e1, kbi_s, if_pos rfl, e2, kbi_s, if_neg one_ne, er, kbi_s]
    exact ⟨_, _, _, rfl, rfl, A, hA0⟩
