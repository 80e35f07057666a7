/-! ODDS -/
def oc (g : Nat → Bool) : Nat → Nat
  | 0 => 0
  | v + 1 => if g v = true then oc g v + 1 else oc g v
theorem oc_le (g : Nat → Bool) : ∀ v, oc g v ≤ v
  | 0 => Nat.le_refl 0
  | v + 1 => by
    have := oc_le g v
    simp only [oc]
    split <;> omega
def gOdd (A : kN) (p v : Nat) : Bool := decide (go (nup A 2 p v) p = some p)
theorem ok_smell {A : kN} {p v : Nat} (ok : okA A) (hv : v < 8) : okA (nup A 2 p v) := ok_up ok (by omega) (by omega)
theorem x_oddL {A : kN} {p : Nat} (ok : okA A) (hp : p < A 0 2) : ∀ (m v f w : Nat) (σ : kS), v + m = 8 → m < f → rX 6 σ (nup A 2 p w) → ∃ σ', fX4_smellsByWhichItComes_L15 f (nI p) (nI (oc (gOdd A p) v)) (nI v) σ = some (nI (oc (gOdd A p) 8), σ') ∧ sameD σ σ' := by
  have o := ok.2.2.1
  have hi : inb (nI p) 6 := inb_lit (by omega) (by decide)
  have e : (nI p).toNatClampNeg = p := nI_clamp (by omega)
  intro m
  induction m with
  | zero =>
    intro v f w σ hv hf h
    obtain ⟨f, rfl⟩ : ∃ j, f = j + 1 := ⟨f - 1, by omega⟩
    have hv' : v = 8 := by omega
    subst hv'
    rw [fX4_smellsByWhichItComes_L15, if_pos (show (8 : Int32) ≤ nI 8 by decide)]
    exact ⟨σ, rfl, fun _ _ => rfl⟩
  | succ m ih =>
    intro v f w σ hv hf h
    obtain ⟨f, rfl⟩ : ∃ j, f = j + 1 := ⟨f - 1, by omega⟩
    have h1 := rX_up (q := 2) (p := p) (v := v) h (by omega) (by omega)
    rw [nup_nup] at h1
    have ok1 := ok_smell (p := p) ok (show v < 8 by omega)
    have c : ¬ nI 8 ≤ nI v := fun z => by have := (nI_leI (a := 8) (by omega) (by omega)).mp z; omega
    have sd : sameD σ (kup σ (6 + 2) p (nI v)) := fun q hq => kup_ne (by omega)
    rw [fX4_smellsByWhichItComes_L15, if_neg (show ¬ (8 : Int32) ≤ nI v from c), if_pos hi, e, show kup σ 8 p (nI v) = kup σ (6 + 2) p (nI v) from rfl, x_goes h1 ok1 (by rw [nup_02 (by omega)]; exact hp), kbi_s]
    obtain ⟨s', f1, f2⟩ := ih (v + 1) f v _ (by omega) (by omega) h1
    refine ⟨s', ?_, sameD_tr sd f2⟩
    have hk := enc_k (A := nup A 2 p v) (p := p) ok1 (show p < nup A 2 p v 0 2 by rw [nup_02 (by omega)]; exact hp)
    by_cases g : go (nup A 2 p v) p = some p
    · rw [if_pos (hk.mpr g), klet_e, klet_e, nI_1, nI_1]
      rw [show oc (gOdd A p) (v + 1) = oc (gOdd A p) v + 1 by simp only [oc, gOdd, g, decide_true, if_true]] at f1
      exact f1
    · rw [if_neg (fun z => g (hk.mp z)), klet_e, nI_1]
      rw [show oc (gOdd A p) (v + 1) = oc (gOdd A p) v by simp only [oc, gOdd, g, decide_false, Bool.false_eq_true, if_false]] at f1
      exact f1
theorem m_oddL {A : kN} {p : Nat} (ok : okA A) (hp : p < A 0 2) (which was : Int32) : ∀ (m v f w : Nat) (τ : kS), v + m = 8 → m < f → rM τ (nup A 2 p w) → ∃ τ', fX5_odds_L35 f (nI p) which was (lN (oc (gOdd A p) v)) (nI v) τ = (kbl (fX5_share (lN (oc (gOdd A p) 8)) 8 which (kup τ' 2 p was)) fun r23 σ22 => some (r23, σ22)) ∧ sameT τ τ' 2 p := by
  have o := ok.2.2.1
  have hi : inb (nI p) 6 := inb_lit (by omega) (by decide)
  have e : (nI p).toNatClampNeg = p := nI_clamp (by omega)
  intro m
  induction m with
  | zero =>
    intro v f w τ hv hf h
    obtain ⟨f, rfl⟩ : ∃ j, f = j + 1 := ⟨f - 1, by omega⟩
    have hv' : v = 8 := by omega
    subst hv'
    rw [fX5_odds_L35, if_pos (show (8 : Int32) ≤ nI 8 by decide), if_pos hi, e]
    exact ⟨τ, rfl, fun _ _ _ => rfl⟩
  | succ m ih =>
    intro v f w τ hv hf h
    obtain ⟨f, rfl⟩ : ∃ j, f = j + 1 := ⟨f - 1, by omega⟩
    have h1 := rM_up (q := 2) (p := p) (v := v) h (by omega) (by omega)
    rw [nup_nup] at h1
    have ok1 := ok_smell (p := p) ok (show v < 8 by omega)
    have c : ¬ nI 8 ≤ nI v := fun z => by have := (nI_leI (a := 8) (by omega) (by omega)).mp z; omega
    have sd : sameT τ (kup τ 2 p (nI v)) 2 p := fun r j hr => by simp only [kup, if_neg hr]
    rw [fX5_odds_L35, if_neg (show ¬ (8 : Int32) ≤ nI v from c), if_pos hi, e, m_goes h1 ok1 (by rw [nup_02 (by omega)]; exact hp), kbi_s]
    obtain ⟨t', f1, f2⟩ := ih (v + 1) f v _ (by omega) (by omega) h1
    refine ⟨t', ?_, fun r j hr => (f2 r j hr).trans (sd r j hr)⟩
    have hk := enc_k (A := nup A 2 p v) (p := p) ok1 (show p < nup A 2 p v 0 2 by rw [nup_02 (by omega)]; exact hp)
    by_cases g : go (nup A 2 p v) p = some p
    · rw [if_pos (hk.mpr g), klet_e, klet_e, nI_1, lN_1]
      rw [show oc (gOdd A p) (v + 1) = oc (gOdd A p) v + 1 by simp only [oc, gOdd, g, decide_true, if_true]] at f1
      exact f1
    · rw [if_neg (fun z => g (hk.mp z)), klet_e, klet_e, nI_1, show lN (oc (gOdd A p) v) + 0 = lN (oc (gOdd A p) v + 0) from lN_add _ 0]
      rw [show oc (gOdd A p) (v + 1) = oc (gOdd A p) v by simp only [oc, gOdd, g, decide_false, Bool.false_eq_true, if_false]] at f1
      exact f1
def oUp : Nat → Nat
  | 0 => 0 | 1 => 1 | 2 => 1 | 3 => 3 | 4 => 1 | 5 => 5 | 6 => 3 | 7 => 7 | _ => 1
def oLo : Nat → Nat
  | 0 => 1 | 1 => 8 | 2 => 4 | 3 => 8 | 4 => 2 | 5 => 8 | 6 => 4 | 7 => 8 | _ => 1
theorem x_red0 (σ : kS) : ∀ c, c < 9 → fX4_odds_L30 1000 (nI 0) (nI c) 8 σ = some (lN (oUp c), σ)
  | 0, _ => rfl
  | 1, _ => rfl
  | 2, _ => rfl
  | 3, _ => rfl
  | 4, _ => rfl
  | 5, _ => rfl
  | 6, _ => rfl
  | 7, _ => rfl
  | 8, _ => rfl
  | n + 9, h => absurd h (by omega)
theorem x_red1 (σ : kS) : ∀ c, c < 9 → fX4_odds_L30 1000 (nI 1) (nI c) 8 σ = some (lN (oLo c), σ)
  | 0, _ => rfl
  | 1, _ => rfl
  | 2, _ => rfl
  | 3, _ => rfl
  | 4, _ => rfl
  | 5, _ => rfl
  | 6, _ => rfl
  | 7, _ => rfl
  | 8, _ => rfl
  | n + 9, h => absurd h (by omega)
theorem m_red0 (τ : kS) : ∀ c, c < 9 → fX5_share (lN c) 8 (nI 0) τ = some (lN (oUp c), τ)
  | 0, _ => rfl
  | 1, _ => rfl
  | 2, _ => rfl
  | 3, _ => rfl
  | 4, _ => rfl
  | 5, _ => rfl
  | 6, _ => rfl
  | 7, _ => rfl
  | 8, _ => rfl
  | n + 9, h => absurd h (by omega)
theorem m_red1 (τ : kS) : ∀ c, c < 9 → fX5_share (lN c) 8 (nI 1) τ = some (lN (oLo c), τ)
  | 0, _ => rfl
  | 1, _ => rfl
  | 2, _ => rfl
  | 3, _ => rfl
  | 4, _ => rfl
  | 5, _ => rfl
  | 6, _ => rfl
  | 7, _ => rfl
  | 8, _ => rfl
  | n + 9, h => absurd h (by omega)
theorem c_odds (a v : Int32) : RIL (fX4_odds a v) (fX5_odds a v) := by
  intro σ τ h
  have ⟨A, hA⟩ := h
  obtain ⟨ok, hx, hm, hs, hr, hc⟩ := id hA
  have o := ok.2.2.1
  have el : ∀ (τ : kS), fX5_lost τ = some ((-9223372036854775808), τ) := fun τ => rfl
  unfold fX4_odds fX5_odds fX4_smellsByWhichItComes
  rcases p_cases hx hm ok a with ⟨p, hp, rfl, e1, e2⟩ | ⟨_, e1, e2⟩
  · have hi : inb (nI p) 6 := inb_lit (by omega) (by decide)
    have e : (nI p).toNatClampNeg = p := nI_clamp (by omega)
    rw [e1, kbi_s, if_neg one_ne, e2, kbi_s, if_pos rfl]
    rcases rng_cases v 2 (by decide) with ⟨k, hk, rfl⟩ | hk
    · rw [x_below1 2 hk (by decide) _ 2 rfl, kbi_s, if_neg one_ne, m_in1 k 0 1 (by omega) (by decide) _ 0 1 rfl rfl, kbi_s, if_neg one_ne, if_pos hi, klet_e, e]
      obtain ⟨s1, b1, b2, b3⟩ := x_become hx ok
      have hA1 : rX 6 s1 (nup A 2 p (A 2 p)) := by rw [nup_self]; exact b2
      have hM1 : rM τ (nup A 2 p (A 2 p)) := by rw [nup_self]; exact hm
      obtain ⟨s2, f1, f2⟩ := x_oddL ok hp 8 0 1000 _ s1 (by omega) (by omega) hA1
      obtain ⟨t2, g1, g2⟩ := m_oddL ok hp (nI k) (τ 2 p) 8 0 1000 _ τ (by omega) (by omega) hM1
      have f1 : fX4_smellsByWhichItComes_L15 1000 (nI p) 0 0 s1 = _ := f1
      have g1 : fX5_odds_L35 1000 (nI p) (nI k) (τ 2 p) 0 0 τ = _ := g1
      have hoc : oc (gOdd A p) 8 < 9 := Nat.lt_succ_of_le (oc_le _ _)
      have key : RA A s2 (kup t2 2 p (τ 2 p)) := by
        refine RA_same hA (sameD_X (sameD_tr b3 f2)) ⟨fun j hj => ?_, fun r c d => ?_, fun r c d k hk => ?_⟩
        · rw [kup_q (by omega), g2 0 j (by omega)]
        · funext j
          rw [kup_q (by omega), g2 r j (by omega)]
        · by_cases z : r = 2 ∧ k = p
          · obtain ⟨rfl, rfl⟩ := z
            rw [kup_at]
          · simp only [kup, if_neg z]
            exact g2 r k z
      rw [b1, kbv_s, f1, kbi_s, g1]
      rcases (show k = 0 ∨ k = 1 by omega) with z | z
      · rw [z, x_red0 s2 _ hoc, m_red0 _ _ hoc, kbl_s]
        exact ⟨_, _, _, rfl, rfl, A, key⟩
      · rw [z, x_red1 s2 _ hoc, m_red1 _ _ hoc, kbl_s]
        exact ⟨_, _, _, rfl, rfl, A, key⟩
    · rw [x_below0 2 hk (by decide) _ 2 rfl, kbi_s, if_pos rfl, m_in0 v 0 1 (by omega) (by decide) (by decide) _ 0 1 rfl rfl, kbi_s, if_pos rfl, el, kbl_s]
      exact ⟨_, _, _, rfl, rfl, h⟩
  · rw [e1, kbi_s, if_pos rfl, e2, kbi_s, if_neg one_ne, el, kbl_s]
    exact ⟨_, _, _, rfl, rfl, h⟩
