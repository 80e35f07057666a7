/-! WHO GETS ONE: the least of those who can; who got one gets its own from then on -/
def lexle (A : kN) (p q j : Nat) : Prop := un A p q < un A p j ∨ (un A p q = un A p j ∧ (dd A q < dd A j ∨ (dd A q = dd A j ∧ q ≤ j)))
theorem gst_min (A : kN) (p : Nat) : ∀ k, (gst A p k = none → ∀ j, j < k → ¬ cnd A p j) ∧ (∀ y, gst A p k = some y → ∀ j, j < k → cnd A p j → lexle A p y.1 j)
  | 0 => ⟨fun _ j hj => by omega, fun y h => by cases h⟩
  | k + 1 => by
    obtain ⟨i1, i2⟩ := gst_min A p k
    have hb := gst_b A p k
    have g1 : gst A p (k + 1) = gstep A p k (gst A p k) := rfl
    rw [g1]
    cases hg : gst A p k with
    | none =>
      simp only [gstep]
      constructor
      · intro h j hj
        split at h
        · cases h
        · rename_i c
          by_cases d : j = k
          · rw [d]; exact c
          · exact i1 hg j (by omega)
      · intro y h j hj hc
        split at h
        · cases h
          by_cases d : j = k
          · subst d; exact Or.inr ⟨rfl, Or.inr ⟨rfl, Nat.le_refl _⟩⟩
          · exact absurd hc (i1 hg j (by omega))
        · cases h
    | some z =>
      obtain ⟨w, f, e⟩ := z
      obtain ⟨b1, b2, b3, b4⟩ := hb _ hg
      have i3 := i2 _ hg
      dsimp only at b1 b2 b3 b4 i3
      subst b3
      subst b4
      simp only [gstep]
      constructor
      · intro h
        split at h <;> cases h
      · intro y h j hj hc
        split at h
        · rename_i c
          cases h
          show lexle A p k j
          by_cases d : j = k
          · subst d; exact Or.inr ⟨rfl, Or.inr ⟨rfl, Nat.le_refl _⟩⟩
          · have := i3 j (by omega) hc
            have c2 := c.2
            unfold lexle at this ⊢
            omega
        · rename_i c
          cases h
          show lexle A p w j
          by_cases d : j = k
          · subst d
            have c2 : ¬ (un A p j < un A p w ∨ un A p j = un A p w ∧ dd A j < dd A w) := fun z => c ⟨hc, z⟩
            unfold lexle
            omega
          · exact i3 j (by omega) hc
theorem go_spec {A : kN} {p q : Nat} (h : go A p = some q) : q < A 0 2 ∧ cnd A p q ∧ ∀ j, j < A 0 2 → cnd A p j → lexle A p q j := by
  unfold go at h
  cases hg : gst A p (A 0 2) with
  | none => rw [hg] at h; cases h
  | some z =>
    rw [hg] at h
    cases h
    have b := gst_b A p _ _ hg
    exact ⟨b.1, b.2.1, (gst_min A p _).2 _ hg⟩
theorem go_uniq {A : kN} {p q : Nat} (h1 : q < A 0 2) (h2 : cnd A p q) (h3 : ∀ j, j < A 0 2 → cnd A p j → lexle A p q j) : go A p = some q := by
  cases hg : gst A p (A 0 2) with
  | none => exact absurd h2 ((gst_min A p _).1 hg q h1)
  | some z =>
    have b := gst_b A p _ _ hg
    have m := (gst_min A p _).2 _ hg q h1 h2
    have m2 := h3 z.1 b.1 b.2.1
    have : z.1 = q := by
      unfold lexle at m m2
      omega
    unfold go
    rw [hg]
    show some z.1 = some q
    rw [this]
/-- the same moor but for WAS -/
def likeW (A A' : kN) : Prop := (∀ j, A' 0 j = A 0 j) ∧ (∀ j, A' 1 j = A 1 j) ∧ (∀ j, A' 2 j = A 2 j) ∧ (∀ j, A' 4 j = A 4 j)
theorem go_like {A A' : kN} {p : Nat} (h : likeW A A') (hp : A' 3 p = A 3 p) : go A' p = go A p := by
  obtain ⟨h0, h1, h2, h4⟩ := h
  have e1 : ∀ k, un A' p k = un A p k := fun k => by unfold un; rw [h2, hp]
  have e2 : ∀ k, dd A' k = dd A k := fun k => by unfold dd; rw [h4, h0]
  have e3 : ∀ k, sc A' k = sc A k := fun k => by unfold sc; rw [h1, h2]
  have e4 : ∀ k, gst A' p k = gst A p k := by
    intro k
    induction k with
    | zero => rfl
    | succ k ih =>
      show gstep A' p k (gst A' p k) = gstep A p k (gst A p k)
      rw [ih]
      cases gst A p k with
      | none => simp only [gstep, cnd, e1, e2, e3, h0]
      | some z => obtain ⟨w, f, d⟩ := z; simp only [gstep, cnd, e1, e2, e3, h0]
  unfold go
  rw [h0, e4]
theorem bt0 : ∀ x, x < 8 → bt x = 0 → x = 0 := by decide
theorem xor0 : ∀ a, a < 8 → ∀ b, b < 8 → a ^^^ b = 0 → a = b := by decide
theorem xor_self8 : ∀ a, a < 8 → bt (a ^^^ a) = 0 := by decide
/-- who gets one once, gets its own letters from then on -/
theorem go_self {A A' : kN} {p q : Nat} (ok : okA A) (h : likeW A A') (hg : go A p = some q) (hq : A' 3 q = A 2 q) : go A' q = some q := by
  obtain ⟨s1, s2, s3⟩ := go_spec hg
  obtain ⟨h0, h1, h2, h4⟩ := h
  have o := ok.2.2.2
  have e1 : ∀ k, un A' q k = bt (A 2 k ^^^ A 2 q) := fun k => by unfold un; rw [h2, hq]
  have e2 : ∀ k, dd A' k = dd A k := fun k => by unfold dd; rw [h4, h0]
  have e3 : ∀ k, sc A' k = sc A k := fun k => by unfold sc; rw [h1, h2]
  have u0 : un A' q q = 0 := by rw [e1]; exact xor_self8 _ (o q s1).2.1
  refine go_uniq (by rw [h0]; exact s1) ⟨by rw [e2, e3]; exact s2.1, by rw [u0]; exact Nat.zero_le _⟩ (fun j hj hc => ?_)
  rw [h0] at hj
  have hc1 := hc.1
  rw [e2, e3] at hc1
  unfold lexle
  rw [u0, e2, e2]
  by_cases z : un A' q j = 0
  · rw [e1] at z
    have hx := bt0 _ (xor_8 _ (o j hj).2.1 _ (o q s1).2.1) z
    have hs : A 2 j = A 2 q := xor0 _ (o j hj).2.1 _ (o q s1).2.1 hx
    have hu : un A p j = un A p q := by unfold un; rw [hs]
    have := s3 j hj ⟨hc1, by rw [hu]; exact s2.2⟩
    unfold lexle at this
    rw [e1, z]
    omega
  · omega
/-- WAS is SMELL for those in a set -/
def mA (A : kN) (S : Nat → Bool) : kN := fun q k => if q = 3 ∧ S k = true then A 2 k else A q k
theorem mA_like (A : kN) (S : Nat → Bool) : likeW A (mA A S) := by
  refine ⟨fun j => ?_, fun j => ?_, fun j => ?_, fun j => ?_⟩ <;> simp [mA]
theorem ok_mA {A : kN} (S : Nat → Bool) (ok : okA A) : okA (mA A S) := by
  obtain ⟨o1, o2, o3, o4⟩ := ok
  have e : ∀ j, mA A S 0 j = A 0 j := fun j => by simp [mA]
  refine ⟨by rw [e]; exact o1, by rw [e]; exact o2, by rw [e]; exact o3, fun k hk => ?_⟩
  rw [e] at hk
  obtain ⟨a, b, c, d⟩ := o4 k hk
  refine ⟨by simpa [mA] using a, by simpa [mA] using b, ?_, by simpa [mA] using d⟩
  unfold mA
  split
  · exact b
  · exact c
/-- those who would get one at first -/
def gets (A : kN) (q : Nat) : Prop := ∃ p, p < A 0 2 ∧ go A p = some q
theorem go_mA {A : kN} {S : Nat → Bool} {p : Nat} (ok : okA A) (hp : p < A 0 2) (hS : ∀ k, S k = true → gets A k) : go (mA A S) p = if S p = true then some p else go A p := by
  by_cases c : S p = true
  · rw [if_pos c]
    obtain ⟨p', -, hg⟩ := hS p c
    exact go_self ok (mA_like A S) hg (by simp [mA, c])
  · rw [if_neg c]
    exact go_like (mA_like A S) (by simp [mA, c])
