/-! THE NEXT ROW, on both sides -/
def sw (r : Nat → Nat) (i j : Nat) : Nat → Nat := fun k => if k = j then r i else if k = i then r j else r k
def fA (r : Nat → Nat) : Nat → Option Nat
  | 0 => none
  | m + 1 => if r m ≤ r (m + 1) then some m else fA r m
def fB (r : Nat → Nat) (a : Nat) : Nat → Nat
  | 0 => 0
  | b + 1 => if r a ≤ r (b + 1) then b + 1 else fB r a b
def fR : Nat → Nat → Nat → (Nat → Nat) → (Nat → Nat)
  | 0, _, _, r => r
  | n + 1, lo, hi, r => if hi ≤ lo then r else fR n (lo + 1) (hi - 1) (sw r lo hi)
def nx (P : Nat) (r : Nat → Nat) : Option (Nat → Nat) := match fA r (P - 1) with
  | none => none
  | some a => some (fR 6 (a + 1) (P - 1) (sw r a (fB r a (P - 1))))
def rowIs (q P : Nat) (σ : kS) (r : Nat → Nat) : Prop := ∀ k, k < P → σ q k = nI (r k) ∧ r k < 6
def sameW (q P : Nat) (σ σ' : kS) : Prop := ∀ q' j, ¬ (q' = q ∧ j < P) → σ' q' j = σ q' j
theorem sameW_tr {q P : Nat} {a b c : kS} (h : sameW q P a b) (h2 : sameW q P b c) : sameW q P a c := fun q' j h3 => (h2 q' j h3).trans (h q' j h3)
theorem fA_lt {r : Nat → Nat} : ∀ (m a : Nat), fA r m = some a → a < m ∧ r a ≤ r (a + 1)
  | 0, a, h => by cases h
  | m + 1, a, h => by
    simp only [fA] at h
    split at h
    · rename_i c
      cases h
      exact ⟨Nat.lt_succ_self m, c⟩
    · have := fA_lt m a h
      exact ⟨by omega, this.2⟩
theorem sw_row {q P i j : Nat} {σ : kS} {r : Nat → Nat} (h : rowIs q P σ r) (hi : i < P) (hj : j < P) : rowIs q P (kup (kup σ q i (σ q j)) q j (σ q i)) (sw r i j) := by
  intro k hk
  obtain ⟨k1, k2⟩ := h k hk
  obtain ⟨i1, i2⟩ := h i hi
  obtain ⟨j1, j2⟩ := h j hj
  unfold sw
  by_cases c : k = j
  · subst c
    rw [kup_at, if_pos rfl]
    exact ⟨i1, i2⟩
  · rw [kup_k c, if_neg c]
    by_cases d : k = i
    · subst d
      rw [kup_at, if_pos rfl]
      exact ⟨j1, j2⟩
    · rw [kup_k d, if_neg d]
      exact ⟨k1, k2⟩
theorem sw_fr {q P i j : Nat} {σ : kS} {x y : Int32} (hi : i < P) (hj : j < P) : sameW q P σ (kup (kup σ q i x) q j y) := by
  intro q' l h
  have h1 : ¬ (q' = q ∧ l = j) := by rintro ⟨rfl, rfl⟩; exact h ⟨rfl, hj⟩
  have h2 : ¬ (q' = q ∧ l = i) := by rintro ⟨rfl, rfl⟩; exact h ⟨rfl, hi⟩
  simp only [kup, if_neg h1, if_neg h2]
theorem x_swap {q P i j : Nat} {σ : kS} (hP : P ≤ 6) (hi : i < P) (hj : j < P) : fX4_swap q (nI i) (nI j) σ = some (kup (kup σ q i (σ q j)) q j (σ q i)) := by
  have b1 : inb (nI i) 6 := inb_lit (by omega) (by decide)
  have b2 : inb (nI j) 6 := inb_lit (by omega) (by decide)
  have e1 : (nI i).toNatClampNeg = i := nI_clamp (by omega)
  have e2 : (nI j).toNatClampNeg = j := nI_clamp (by omega)
  unfold fX4_swap
  rw [if_pos b1, klet_e, if_pos b2, if_pos b1, if_pos b2, e1, e2]
theorem m_swap {P i j : Nat} {σ : kS} (hP : P ≤ 6) (hi : i < P) (hj : j < P) : fX5_exchange (nI i) (nI j) σ = some (kup (kup σ 12 i (σ 12 j)) 12 j (σ 12 i)) := by
  have b1 : inb (nI i) 6 := inb_lit (by omega) (by decide)
  have b2 : inb (nI j) 6 := inb_lit (by omega) (by decide)
  have e1 : (nI i).toNatClampNeg = i := nI_clamp (by omega)
  have e2 : (nI j).toNatClampNeg = j := nI_clamp (by omega)
  unfold fX5_exchange
  rw [if_pos b1, klet_e, if_pos b2, if_pos b1, if_pos b2, e1, e2]
theorem nI_dec {n : Nat} (h : 1 ≤ n) : nI n + (-1) = nI (n - 1) := by
  obtain ⟨k, rfl⟩ : ∃ k, n = k + 1 := ⟨n - 1, by omega⟩
  exact pk_m1 k
-- the end turned round
theorem x_rev {q P : Nat} (hP : P ≤ 6) : ∀ (n lo hi f : Nat) (σ : kS) (r : Nat → Nat), hi ≤ lo + 2 * n → lo ≤ 6 → hi < P → n < f → rowIs q P σ r → ∃ σ', fX4_stepToNextRow_L73 f q (nI lo) (nI hi) σ = some (1, σ') ∧ rowIs q P σ' (fR n lo hi r) ∧ sameW q P σ σ' := by
  intro n
  induction n with
  | zero =>
    intro lo hi f σ r h1 h2 h3 h4 h
    obtain ⟨f, rfl⟩ : ∃ j, f = j + 1 := ⟨f - 1, by omega⟩
    rw [fX4_stepToNextRow_L73, if_pos ((nI_leI (by omega) (by omega)).mpr (by omega))]
    exact ⟨σ, rfl, h, fun _ _ _ => rfl⟩
  | succ n ih =>
    intro lo hi f σ r h1 h2 h3 h4 h
    obtain ⟨f, rfl⟩ : ∃ j, f = j + 1 := ⟨f - 1, by omega⟩
    by_cases c : hi ≤ lo
    · rw [fX4_stepToNextRow_L73, if_pos ((nI_leI (by omega) (by omega)).mpr c)]
      refine ⟨σ, rfl, ?_, fun _ _ _ => rfl⟩
      simp only [fR, if_pos c]
      exact h
    · rw [fX4_stepToNextRow_L73, if_neg (fun z => c ((nI_leI (by omega) (by omega)).mp z)), x_swap hP (show lo < P by omega) h3, kbv_s, klet_e, klet_e, nI_1, nI_dec (by omega)]
      obtain ⟨s', f1, f2, f3⟩ := ih (lo + 1) (hi - 1) f _ (sw r lo hi) (by omega) (by omega) (by omega) (by omega) (sw_row h (by omega) h3)
      refine ⟨s', f1, ?_, sameW_tr (sw_fr (by omega) h3) f3⟩
      simp only [fR, if_neg c]
      exact f2
theorem m_rev {P : Nat} (hP : P ≤ 6) : ∀ (n lo hi f : Nat) (σ : kS) (r : Nat → Nat), hi ≤ lo + 2 * n → lo ≤ 6 → hi < P → n < f → rowIs 12 P σ r → ∃ σ', fX5_nextOrder_L86 f (nI lo) (nI hi) σ = some (1, σ') ∧ rowIs 12 P σ' (fR n lo hi r) ∧ sameW 12 P σ σ' := by
  intro n
  induction n with
  | zero =>
    intro lo hi f σ r h1 h2 h3 h4 h
    obtain ⟨f, rfl⟩ : ∃ j, f = j + 1 := ⟨f - 1, by omega⟩
    rw [fX5_nextOrder_L86, if_pos ((nI_leI (by omega) (by omega)).mpr (by omega))]
    exact ⟨σ, rfl, h, fun _ _ _ => rfl⟩
  | succ n ih =>
    intro lo hi f σ r h1 h2 h3 h4 h
    obtain ⟨f, rfl⟩ : ∃ j, f = j + 1 := ⟨f - 1, by omega⟩
    by_cases c : hi ≤ lo
    · rw [fX5_nextOrder_L86, if_pos ((nI_leI (by omega) (by omega)).mpr c)]
      refine ⟨σ, rfl, ?_, fun _ _ _ => rfl⟩
      simp only [fR, if_pos c]
      exact h
    · rw [fX5_nextOrder_L86, if_neg (fun z => c ((nI_leI (by omega) (by omega)).mp z)), m_swap hP (show lo < P by omega) h3, kbv_s, klet_e, klet_e, nI_1, nI_dec (by omega)]
      obtain ⟨s', f1, f2, f3⟩ := ih (lo + 1) (hi - 1) f _ (sw r lo hi) (by omega) (by omega) (by omega) (by omega) (sw_row h (by omega) h3)
      refine ⟨s', f1, ?_, sameW_tr (sw_fr (by omega) h3) f3⟩
      simp only [fR, if_neg c]
      exact f2
/-- behind the choice of b -/
theorem x_fin {q P a b : Nat} {σ : kS} {r : Nat → Nat} (hP : P ≤ 6) (ha : a < P) (hb : b < P) (h : rowIs q P σ r) : ∃ σ', (kbv (fX4_swap q (nI a) (nI b) σ) fun σ13 => klet (nI a + 1) fun v14 => klet (nI P - 1) fun v15 => fX4_stepToNextRow_L73 1000 q v14 v15 σ13) = some (1, σ') ∧ rowIs q P σ' (fR 6 (a + 1) (P - 1) (sw r a b)) ∧ sameW q P σ σ' := by
  rw [x_swap hP ha hb, kbv_s, klet_e, klet_e, nI_1, show nI P - 1 = nI (P - 1) from pk_sub (a := P) (b := 1) (by omega)]
  obtain ⟨s', f1, f2, f3⟩ := x_rev hP 6 (a + 1) (P - 1) 1000 _ (sw r a b) (by omega) (by omega) (by omega) (by omega) (sw_row h ha hb)
  exact ⟨s', f1, f2, sameW_tr (sw_fr ha hb) f3⟩
theorem m_fin {P a b : Nat} {σ : kS} {r : Nat → Nat} (hP : P ≤ 6) (h0 : σ 0 1 = nI P) (ha : a < P) (hb : b < P) (h : rowIs 12 P σ r) : ∃ σ', (kbv (fX5_exchange (nI a) (nI b) σ) fun σ15 => klet (nI a + 1) fun v16 => klet ((σ15 0 1) - 1) fun v17 => fX5_nextOrder_L86 1000 v16 v17 σ15) = some (1, σ') ∧ rowIs 12 P σ' (fR 6 (a + 1) (P - 1) (sw r a b)) ∧ sameW 12 P σ σ' := by
  rw [m_swap hP ha hb, kbv_s, klet_e, klet_e, nI_1, kup_q (show (0 : Nat) ≠ 12 by decide), kup_q (show (0 : Nat) ≠ 12 by decide), h0, show nI P - 1 = nI (P - 1) from pk_sub (a := P) (b := 1) (by omega)]
  obtain ⟨s', f1, f2, f3⟩ := m_rev hP 6 (a + 1) (P - 1) 1000 _ (sw r a b) (by omega) (by omega) (by omega) (by omega) (sw_row h ha hb)
  exact ⟨s', f1, f2, sameW_tr (sw_fr ha hb) f3⟩
theorem x_findB {q P a : Nat} {σ : kS} {r : Nat → Nat} (hP : P ≤ 6) (hr : r a ≤ r (a + 1)) (h : rowIs q P σ r) : ∀ (b f : Nat), a + 1 ≤ b → b < P → b < f → ∃ σ', fX4_stepToNextRow_L35 f q (nI P) (nI a) (nI b) σ = some (1, σ') ∧ rowIs q P σ' (fR 6 (a + 1) (P - 1) (sw r a (fB r a b))) ∧ sameW q P σ σ' := by
  intro b
  induction b with
  | zero => intro f h1 h2 h3; omega
  | succ b ih =>
    intro f h1 h2 h3
    obtain ⟨f, rfl⟩ : ∃ j, f = j + 1 := ⟨f - 1, by omega⟩
    rw [fX4_stepToNextRow_L35, nI_1]
    by_cases c : b + 1 ≤ a + 1
    · rw [if_pos ((nI_leI (by omega) (by omega)).mpr c)]
      have hb : fB r a (b + 1) = b + 1 := by
        simp only [fB]
        rw [if_pos (by rw [show b = a by omega]; exact hr)]
      rw [hb]
      have := x_fin hP (show a < P by omega) h2 h
      rw [nI_1] at this
      exact this
    · have b1 : inb (nI a) 6 := inb_lit (by omega) (by decide)
      have b2 : inb (nI (b + 1)) 6 := inb_lit (by omega) (by decide)
      have e1 : (nI a).toNatClampNeg = a := nI_clamp (by omega)
      have e2 : (nI (b + 1)).toNatClampNeg = b + 1 := nI_clamp (by omega)
      have g1 := h a (by omega)
      have g2 := h (b + 1) h2
      rw [if_neg (fun z => c ((nI_leI (by omega) (by omega)).mp z)), if_pos b2, if_pos b1, e1, e2, g1.1, g2.1]
      by_cases d : r a ≤ r (b + 1)
      · rw [if_pos ((nI_leI (by omega) (by omega)).mpr d)]
        have hb : fB r a (b + 1) = b + 1 := by simp only [fB]; rw [if_pos d]
        rw [hb]
        have := x_fin hP (show a < P by omega) h2 h
        rw [nI_1] at this
        exact this
      · rw [if_neg (fun z => d ((nI_leI (by omega) (by omega)).mp z)), klet_e, pk_m1]
        have hb : fB r a (b + 1) = fB r a b := by simp only [fB]; rw [if_neg d]
        rw [hb]
        exact ih f (by omega) (by omega) (by omega)
theorem m_findB {P a : Nat} {σ : kS} {r : Nat → Nat} (hP : P ≤ 6) (h0 : σ 0 1 = nI P) (hr : r a ≤ r (a + 1)) (h : rowIs 12 P σ r) : ∀ (b f : Nat), a + 1 ≤ b → b < P → b < f → ∃ σ', fX5_nextOrder_L47 f (nI a) (nI b) σ = some (1, σ') ∧ rowIs 12 P σ' (fR 6 (a + 1) (P - 1) (sw r a (fB r a b))) ∧ sameW 12 P σ σ' := by
  intro b
  induction b with
  | zero => intro f h1 h2 h3; omega
  | succ b ih =>
    intro f h1 h2 h3
    obtain ⟨f, rfl⟩ : ∃ j, f = j + 1 := ⟨f - 1, by omega⟩
    have b1 : inb (nI a) 6 := inb_lit (by omega) (by decide)
    have b2 : inb (nI (b + 1)) 6 := inb_lit (by omega) (by decide)
    have e1 : (nI a).toNatClampNeg = a := nI_clamp (by omega)
    have e2 : (nI (b + 1)).toNatClampNeg = b + 1 := nI_clamp (by omega)
    have g1 := h a (by omega)
    have g2 := h (b + 1) h2
    rw [fX5_nextOrder_L47, if_pos b2, if_pos b1, e1, e2, g1.1, g2.1]
    by_cases d : r a ≤ r (b + 1)
    · rw [if_pos ((nI_leI (by omega) (by omega)).mpr d)]
      have hb : fB r a (b + 1) = b + 1 := by simp only [fB]; rw [if_pos d]
      rw [hb]
      exact m_fin hP h0 (show a < P by omega) h2 h
    · rw [if_neg (fun z => d ((nI_leI (by omega) (by omega)).mp z)), klet_e, pk_m1]
      have hb : fB r a (b + 1) = fB r a b := by simp only [fB]; rw [if_neg d]
      rw [hb]
      have : a + 1 ≤ b := by
        by_cases z : b = a
        · subst z; exact absurd hr d
        · omega
      exact ih f this (by omega) (by omega)
theorem x_findA {q P : Nat} {σ : kS} {r : Nat → Nat} (hP : P ≤ 6) (h : rowIs q P σ r) : ∀ (m f : Nat), m + 1 ≤ P → m < f → (∃ a σ', fA r m = some a ∧ fX4_stepToNextRow_L4 f q (nI P) (nI m + (-1)) σ = some (1, σ') ∧ rowIs q P σ' (fR 6 (a + 1) (P - 1) (sw r a (fB r a (P - 1)))) ∧ sameW q P σ σ') ∨ (fA r m = none ∧ fX4_stepToNextRow_L4 f q (nI P) (nI m + (-1)) σ = some (0, σ)) := by
  intro m
  induction m with
  | zero =>
    intro f h1 h2
    obtain ⟨f, rfl⟩ : ∃ j, f = j + 1 := ⟨f - 1, by omega⟩
    refine Or.inr ⟨rfl, ?_⟩
    rw [show nI 0 + (-1) = -1 from rfl, fX4_stepToNextRow_L4, if_pos (by decide), if_neg (by decide)]
  | succ m ih =>
    intro f h1 h2
    obtain ⟨f, rfl⟩ : ∃ j, f = j + 1 := ⟨f - 1, by omega⟩
    have b1 : inb (nI m) 6 := inb_lit (by omega) (by decide)
    have b2 : inb (nI (m + 1)) 6 := inb_lit (by omega) (by decide)
    have e1 : (nI m).toNatClampNeg = m := nI_clamp (by omega)
    have e2 : (nI (m + 1)).toNatClampNeg = m + 1 := nI_clamp (by omega)
    have g1 := h m (by omega)
    have g2 := h (m + 1) (by omega)
    rw [pk_m1, fX4_stepToNextRow_L4, if_neg (nI_pos (by omega)), if_pos b1, nI_1, if_pos b2, e1, e2, g1.1, g2.1]
    by_cases d : r m ≤ r (m + 1)
    · rw [if_pos ((nI_leI (by omega) (by omega)).mpr d), if_pos (nI_le0 (by omega)), klet_e, show nI P - 1 = nI (P - 1) from pk_sub (a := P) (b := 1) (by omega)]
      obtain ⟨s', f1, f2, f3⟩ := x_findB hP d h (P - 1) 1000 (by omega) (by omega) (by omega)
      exact Or.inl ⟨m, s', by simp only [fA]; rw [if_pos d], f1, f2, f3⟩
    · rw [if_neg (fun z => d ((nI_leI (by omega) (by omega)).mp z)), klet_e]
      have hA : fA r (m + 1) = fA r m := by simp only [fA]; rw [if_neg d]
      rw [hA]
      exact ih f (by omega) (by omega)
theorem m_findA {P : Nat} {σ : kS} {r : Nat → Nat} (hP : P ≤ 6) (h0 : σ 0 1 = nI P) (h : rowIs 12 P σ r) : ∀ (m f : Nat), m + 1 ≤ P → m < f → (∃ a σ', fA r m = some a ∧ fX5_nextOrder_L7 f (nI m + (-1)) σ = some (1, σ') ∧ rowIs 12 P σ' (fR 6 (a + 1) (P - 1) (sw r a (fB r a (P - 1)))) ∧ sameW 12 P σ σ') ∨ (fA r m = none ∧ fX5_nextOrder_L7 f (nI m + (-1)) σ = some (0, σ)) := by
  intro m
  induction m with
  | zero =>
    intro f h1 h2
    obtain ⟨f, rfl⟩ : ∃ j, f = j + 1 := ⟨f - 1, by omega⟩
    refine Or.inr ⟨rfl, ?_⟩
    rw [show nI 0 + (-1) = -1 from rfl, fX5_nextOrder_L7, if_pos (by decide), if_neg (by decide)]
  | succ m ih =>
    intro f h1 h2
    obtain ⟨f, rfl⟩ : ∃ j, f = j + 1 := ⟨f - 1, by omega⟩
    have b1 : inb (nI m) 6 := inb_lit (by omega) (by decide)
    have b2 : inb (nI (m + 1)) 6 := inb_lit (by omega) (by decide)
    have e1 : (nI m).toNatClampNeg = m := nI_clamp (by omega)
    have e2 : (nI (m + 1)).toNatClampNeg = m + 1 := nI_clamp (by omega)
    have g1 := h m (by omega)
    have g2 := h (m + 1) (by omega)
    rw [pk_m1, fX5_nextOrder_L7, if_neg (nI_pos (by omega)), if_pos b1, nI_1, if_pos b2, e1, e2, g1.1, g2.1]
    by_cases d : r m ≤ r (m + 1)
    · rw [if_pos ((nI_leI (by omega) (by omega)).mpr d), if_pos (nI_le0 (by omega)), klet_e, h0, show nI P - 1 = nI (P - 1) from pk_sub (a := P) (b := 1) (by omega)]
      obtain ⟨s', f1, f2, f3⟩ := m_findB hP h0 d h (P - 1) 1000 (by omega) (by omega) (by omega)
      exact Or.inl ⟨m, s', by simp only [fA]; rw [if_pos d], f1, f2, f3⟩
    · rw [if_neg (fun z => d ((nI_leI (by omega) (by omega)).mp z)), klet_e]
      have hA : fA r (m + 1) = fA r m := by simp only [fA]; rw [if_neg d]
      rw [hA]
      exact ih f (by omega) (by omega)
theorem nI_m2 {P : Nat} (h : 1 ≤ P) : nI P - 2 = nI (P - 1) + (-1) := by
  by_cases c : P = 1
  · subst c; decide
  · rw [nI_dec (by omega), show P - 1 - 1 = P - 2 by omega]
    exact pk_sub (a := P) (b := 2) (by omega)
theorem x_next {q P : Nat} {σ : kS} {r : Nat → Nat} (hP : P ≤ 6) (h2 : 1 ≤ P) (h : rowIs q P σ r) : (∃ r' σ', nx P r = some r' ∧ fX4_stepToNextRow q (nI P) σ = some (1, σ') ∧ rowIs q P σ' r' ∧ sameW q P σ σ') ∨ (nx P r = none ∧ fX4_stepToNextRow q (nI P) σ = some (0, σ)) := by
  unfold fX4_stepToNextRow nx
  rw [klet_e, nI_m2 h2]
  rcases x_findA hP h (P - 1) 1000 (by omega) (by omega) with ⟨a, s', f1, f2, f3, f4⟩ | ⟨f1, f2⟩
  · rw [f1]
    exact Or.inl ⟨_, s', rfl, f2, f3, f4⟩
  · rw [f1]
    exact Or.inr ⟨rfl, f2⟩
theorem m_next {P : Nat} {σ : kS} {r : Nat → Nat} (hP : P ≤ 6) (h2 : 1 ≤ P) (h0 : σ 0 1 = nI P) (h : rowIs 12 P σ r) : (∃ r' σ', nx P r = some r' ∧ fX5_nextOrder σ = some (1, σ') ∧ rowIs 12 P σ' r' ∧ sameW 12 P σ σ') ∨ (nx P r = none ∧ fX5_nextOrder σ = some (0, σ)) := by
  unfold fX5_nextOrder nx
  rw [klet_e, h0, nI_m2 h2]
  rcases m_findA hP h0 h (P - 1) 1000 (by omega) (by omega) with ⟨a, s', f1, f2, f3, f4⟩ | ⟨f1, f2⟩
  · rw [f1]
    exact Or.inl ⟨_, s', rfl, f2, f3, f4⟩
  · rw [f1]
    exact Or.inr ⟨rfl, f2⟩
