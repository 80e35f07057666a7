/-! NUMBERS: what the functions compute, in natural numbers -/
theorem lit_nI (n : Nat) : (@OfNat.ofNat Int32 n _) = nI n := rfl
theorem inb_nI {k n : Nat} (h : k < 2 ^ 31) : inb (nI k) n ↔ k < n := by
  unfold inb
  rw [nI_clamp h]
  have h0 : ¬ nI k < 0 := nI_pos h
  constructor
  · intro h1
    exact Nat.not_le.mp (fun h2 => h1 (Or.inr h2))
  · intro h1 h2
    rcases h2 with h2 | h2
    · exact h0 h2
    · omega
theorem nI_le0 {k : Nat} (h : k < 2 ^ 31) : (0 : Int32) ≤ nI k := nI_pos' h
theorem nI_ne9 {k : Nat} (h : k < 2 ^ 31) : ¬ nI k = (-9) := fun e => nI_pos h (by rw [e]; decide)
theorem nI_ne1 {k : Nat} (h : k < 2 ^ 31) : ¬ nI k = (-1) := fun e => nI_pos h (by rw [e]; decide)
abbrev kN : Type := Nat → Nat → Nat
def bt (n : Nat) : Nat := n % 2 + n / 2 % 2 + n / 4 % 2 + n / 8 % 2 + n / 16 % 2 + n / 32 % 2
def nd (a b : Nat) : Nat := if a ≤ b then b - a else a - b
def sc (A : kN) (k : Nat) : Nat := if A 1 k = 0 then bt (A 2 k) else if A 1 k = 1 then bt (A 2 k) + 1 else 2 * bt (A 2 k) + 2
def dd (A : kN) (k : Nat) : Nat := nd (A 4 k) (A 0 0)
def un (A : kN) (p k : Nat) : Nat := bt (A 2 k ^^^ A 3 p)
abbrev cnd (A : kN) (p k : Nat) : Prop := dd A k ≤ sc A k ∧ un A p k ≤ A 0 1
def gstep (A : kN) (p k : Nat) : Option (Nat × Nat × Nat) → Option (Nat × Nat × Nat)
  | none => if cnd A p k then some (k, un A p k, dd A k) else none
  | some (w, f, d) => if cnd A p k ∧ (un A p k < f ∨ (un A p k = f ∧ dd A k < d)) then some (k, un A p k, dd A k) else some (w, f, d)
def gst (A : kN) (p : Nat) : Nat → Option (Nat × Nat × Nat)
  | 0 => none
  | k + 1 => gstep A p k (gst A p k)
def enc : Option Nat → Int32
  | none => -9
  | some q => nI q
def go (A : kN) (p : Nat) : Option Nat := (gst A p (A 0 2)).map (fun x => x.1)
def okA (A : kN) : Prop := A 0 0 < 10 ∧ A 0 1 < 4 ∧ A 0 2 ≤ 6 ∧ ∀ k, k < A 0 2 → A 1 k < 3 ∧ A 2 k < 8 ∧ A 3 k < 8 ∧ A 4 k < 10
def rX (b : Nat) (σ : kS) (A : kN) : Prop := (σ b 0 = nI (A 0 0) ∧ σ b 1 = nI (A 0 1) ∧ σ b 2 = nI (A 0 2)) ∧ ∀ k, k < A 0 2 → σ (b + 1) k = nI (A 1 k) ∧ σ (b + 2) k = nI (A 2 k) ∧ σ (b + 3) k = nI (A 3 k) ∧ σ (b + 4) k = nI (A 4 k)
def rM (τ : kS) (A : kN) : Prop := (τ 0 2 = nI (A 0 0) ∧ τ 0 3 = nI (A 0 1) ∧ τ 0 1 = nI (A 0 2)) ∧ ∀ k, k < A 0 2 → τ 1 k = nI (A 1 k) ∧ τ 2 k = nI (A 2 k) ∧ τ 3 k = nI (A 3 k) ∧ τ 4 k = nI (A 4 k)
theorem bt_le (n : Nat) : bt n ≤ 6 := by unfold bt; omega
theorem bt_8 : ∀ n, n < 8 → bt n ≤ 3 := by decide
theorem xor_8 : ∀ a, a < 8 → ∀ b, b < 8 → a ^^^ b < 8 := by decide
theorem nI_xor8 : ∀ a, a < 8 → ∀ b, b < 8 → nI a ^^^ nI b = nI (a ^^^ b) := by decide +kernel
theorem nd_lt : ∀ a, a < 10 → ∀ b, b < 10 → nd a b < 10 := by decide
theorem nI_abs : ∀ a, a < 10 → ∀ b, b < 10 → (if 0 ≤ nI a - nI b then nI a - nI b else 0 - (nI a - nI b)) = nI (nd a b) := by decide +kernel
theorem un_le (A : kN) (p k : Nat) : un A p k ≤ 6 := bt_le _
theorem kbi_s {σ β : Type} {x : Int32} {s : σ} {f : Int32 → σ → Option β} : kbi (some (x, s)) f = f x s := rfl
theorem kbl_s {σ β : Type} {x : Int64} {s : σ} {f : Int64 → σ → Option β} : kbl (some (x, s)) f = f x s := rfl
theorem kbv_s {σ β : Type} {s : σ} {f : σ → Option β} : kbv (some s) f = f s := rfl
theorem klet_e {α β : Type} {v : α} {f : α → β} : klet v f = f v := rfl
def bcv (a0 : Int32) : Int32 := ((fJ6_bitCount_0f7a4 a0 (fun _ _ => 0)).getD (0, fun _ _ => 0)).1
theorem bcv_e (a0 : Int32) (σ : kS) : fJ6_bitCount_0f7a4 a0 σ = some (bcv a0, σ) := rfl
theorem bcv_n : ∀ n, n < 64 → bcv (nI n) = nI (bt n) := by decide +kernel
theorem bitc {n : Nat} (h : n < 64) (σ : kS) : fJ6_bitCount_0f7a4 (nI n) σ = some (nI (bt n), σ) := by rw [bcv_e, bcv_n n h]
theorem bits8 (σ : kS) : ∀ n, n < 8 → fX5_bits (nI n) σ = some (nI (bt n), σ)
  | 0, _ => rfl
  | 1, _ => rfl
  | 2, _ => rfl
  | 3, _ => rfl
  | 4, _ => rfl
  | 5, _ => rfl
  | 6, _ => rfl
  | 7, _ => rfl
  | n + 8, h => absurd h (by omega)

/-- one arithmetic step of a laid function: conditions over written numbers become conditions over natural numbers -/
theorem inb_lit {a n : Nat} (h : a < n) (h2 : n < 2 ^ 31) : inb (nI a) n := (inb_nI (by omega)).mpr h
theorem x_dist {b p : Nat} {σ : kS} {A : kN} (h : rX b σ A) (ok : okA A) (hp : p < A 0 2) : fX0_distanceOf b (nI p) σ = some (nI (dd A p), σ) := by
  obtain ⟨o1, o2, o3, o4⟩ := ok
  obtain ⟨⟨h1, h2, h3⟩, h4⟩ := h
  obtain ⟨k1, k2, k3, k4⟩ := h4 p hp
  obtain ⟨q1, q2, q3, q4⟩ := o4 p hp
  have e : (nI p).toNatClampNeg = p := nI_clamp (by omega)
  unfold fX0_distanceOf
  rw [if_pos (inb_lit (by omega) (by decide)), e, k4, h1, nI_abs _ q4 _ o1]
  rfl
theorem x_scent {b p : Nat} {σ : kS} {A : kN} (h : rX b σ A) (ok : okA A) (hp : p < A 0 2) : fX0_scentOf b (nI p) σ = some (nI (sc A p), σ) := by
  obtain ⟨o1, o2, o3, o4⟩ := ok
  obtain ⟨⟨h1, h2, h3⟩, h4⟩ := h
  obtain ⟨k1, k2, k3, k4⟩ := h4 p hp
  obtain ⟨q1, q2, q3, q4⟩ := o4 p hp
  have e : (nI p).toNatClampNeg = p := nI_clamp (by omega)
  have hi : inb (nI p) 6 := inb_lit (by omega) (by decide)
  have hb := bt_8 _ q2
  unfold fX0_scentOf
  simp only [if_pos hi, e, k2, bitc (show A 2 p < 64 by omega), kbi_s, k1]
  unfold sc
  rcases (show A 1 p = 0 ∨ A 1 p = 1 ∨ A 1 p = 2 by omega) with z | z | z <;> rw [z]
  · rw [if_neg (by decide), if_neg (by decide), if_pos rfl]
  · rw [if_pos (by decide), if_neg (by decide), if_pos rfl, nI_1]
  · rw [if_neg (by decide), if_pos (by decide), if_neg (by decide), if_neg (by decide), nI_1, lit_nI, pk_mul]
    rfl
theorem x_smelt {b p : Nat} {σ : kS} {A : kN} (h : rX b σ A) (ok : okA A) (hp : p < A 0 2) : fX0_isSmelt b (nI p) σ = some (if dd A p ≤ sc A p then 1 else 0, σ) := by
  have hd : dd A p < 10 := nd_lt _ (ok.2.2.2 p hp).2.2.2 _ ok.1
  have hs : sc A p ≤ 14 := by have := bt_le (A 2 p); unfold sc; split <;> (try split) <;> omega
  unfold fX0_isSmelt
  rw [x_dist h ok hp, kbi_s, x_scent h ok hp, kbi_s]
  by_cases c : dd A p ≤ sc A p
  · rw [if_neg (by rw [nI_ltI (by omega) (by omega)]; omega), if_pos c]
  · rw [if_pos (by rw [nI_ltI (by omega) (by omega)]; omega), if_neg c]

def w1 (x : Option (Nat × Nat × Nat)) : Int32 := match x with | none => -9 | some y => nI y.1
def w2 (x : Option (Nat × Nat × Nat)) : Int32 := match x with | none => 0 | some y => nI y.2.1
def w3 (x : Option (Nat × Nat × Nat)) : Int32 := match x with | none => 0 | some y => nI y.2.2
theorem gst_b (A : kN) (p : Nat) : ∀ k, ∀ y, gst A p k = some y → y.1 < k ∧ cnd A p y.1 ∧ y.2.1 = un A p y.1 ∧ y.2.2 = dd A y.1
  | 0, y, h => by cases h
  | k + 1, y, h => by
    have ih := gst_b A p k
    simp only [gst] at h
    cases hg : gst A p k with
    | none =>
      rw [hg] at h
      simp only [gstep] at h
      split at h
      · rename_i c
        cases h
        exact ⟨Nat.lt_succ_self k, c, rfl, rfl⟩
      · cases h
    | some z =>
      obtain ⟨w, f, d⟩ := z
      rw [hg] at h
      simp only [gstep] at h
      split at h
      · rename_i c
        cases h
        exact ⟨Nat.lt_succ_self k, c.1, rfl, rfl⟩
      · cases h
        obtain ⟨i1, i2⟩ := ih _ hg
        exact ⟨Nat.lt_succ_of_lt i1, i2⟩
theorem x_goesL {b p : Nat} {σ : kS} {A : kN} (h : rX b σ A) (ok : okA A) (hp : p < A 0 2) : ∀ (m k n : Nat) (a2 a3 a4 : Int32), k + m = A 0 2 → m < n → a2 = w1 (gst A p k) → a3 = w2 (gst A p k) → a4 = w3 (gst A p k) → fX0_goesTo_L11 n b (nI p) a2 a3 a4 (nI k) σ = some (enc (go A p), σ) := by
  have ok0 := ok
  have h0 := h
  obtain ⟨o1, o2, o3, o4⟩ := ok
  obtain ⟨⟨h1, h2, h3⟩, h4⟩ := h
  intro m
  induction m with
  | zero =>
    intro k n a2 a3 a4 hk hn ha2 ha3 ha4
    obtain ⟨n, rfl⟩ : ∃ j, n = j + 1 := ⟨n - 1, by omega⟩
    rw [fX0_goesTo_L11, if_pos (by rw [h3, nI_leI (by omega) (by omega)]; omega)]
    have hk' : k = A 0 2 := by omega
    subst hk'
    rw [ha2]
    unfold go
    cases gst A p (A 0 2) <;> rfl
  | succ m ih =>
    intro k n a2 a3 a4 hk hn ha2 ha3 ha4
    obtain ⟨n, rfl⟩ : ∃ j, n = j + 1 := ⟨n - 1, by omega⟩
    obtain ⟨k1, k2, k3, k4⟩ := h4 k (by omega)
    obtain ⟨q1, q2, q3, q4⟩ := o4 k (by omega)
    obtain ⟨r1, r2, r3, r4⟩ := o4 p hp
    have hi : inb (nI k) 6 := inb_lit (by omega) (by decide)
    have hj : inb (nI p) 6 := inb_lit (by omega) (by decide)
    have e : (nI p).toNatClampNeg = p := nI_clamp (by omega)
    have e2 : (nI k).toNatClampNeg = k := nI_clamp (by omega)
    have hx : A 2 k ^^^ A 3 p < 64 := Nat.lt_trans (xor_8 _ q2 _ r3) (by decide)
    have hd : dd A k < 10 := nd_lt _ q4 _ o1
    have hs : sc A k ≤ 14 := by have := bt_le (A 2 k); unfold sc; split <;> (try split) <;> omega
    have hu : un A p k ≤ 6 := un_le A p k
    have eu : nI (bt (A 2 k ^^^ A 3 p)) = nI (un A p k) := rfl
    have hx1 := ih (k + 1) n
    have g1 : gst A p (k + 1) = gstep A p k (gst A p k) := rfl
    rw [fX0_goesTo_L11, if_neg (by rw [h3, nI_leI (by omega) (by omega)]; omega)]
    simp only [if_pos hi, if_pos hj, e, e2, k2, (h4 p hp).2.2.1, nI_xor8 _ q2 _ r3, bitc hx, kbi_s, x_dist h0 ok0 (show k < A 0 2 by omega), x_scent h0 ok0 (show k < A 0 2 by omega), h2, eu, klet_e, nI_1]
    have hb := gst_b A p k
    by_cases c1 : A 0 1 < un A p k
    · rw [if_pos ((nI_ltI (by omega) (by omega)).mpr c1)]
      have : gst A p (k + 1) = gst A p k := by
        rw [g1]
        cases hg : gst A p k with
        | none => simp only [gstep]; rw [if_neg (by intro z; omega)]
        | some z => obtain ⟨w, f, d⟩ := z; simp only [gstep]; rw [if_neg (by intro z; omega)]
      rw [this] at hx1
      exact hx1 _ _ _ (by omega) (by omega) ha2 ha3 ha4
    · rw [if_neg (fun z => c1 ((nI_ltI (by omega) (by omega)).mp z))]
      by_cases c2 : dd A k ≤ sc A k
      · rw [if_pos ((nI_leI (by omega) (by omega)).mpr c2)]
        have hc : cnd A p k := ⟨c2, by omega⟩
        cases hg : gst A p k with
        | none =>
          rw [hg] at ha2
          rw [g1, hg] at hx1
          simp only [gstep, if_pos hc] at hx1
          rw [if_pos (show a2 = -9 from ha2)]
          exact hx1 _ _ _ (by omega) (by omega) rfl rfl rfl
        | some z =>
          obtain ⟨w, f, d⟩ := z
          obtain ⟨b1, b2, b3, b4⟩ := hb _ hg
          dsimp only at b1 b2 b3 b4
          have hw : w < 6 := by omega
          have hf : f ≤ 6 := by rw [b3]; exact un_le _ _ _
          have hdd : d < 10 := by rw [b4]; exact nd_lt _ (o4 w (by omega)).2.2.2 _ o1
          rw [hg] at ha2 ha3 ha4
          have ha2 : a2 = nI w := ha2
          have ha3 : a3 = nI f := ha3
          have ha4 : a4 = nI d := ha4
          subst ha2
          subst ha3
          subst ha4
          rw [g1, hg] at hx1
          simp only [gstep] at hx1
          rw [if_neg (nI_ne9 (by omega))]
          by_cases c3 : un A p k < f
          · rw [if_pos ((nI_ltI (by omega) (by omega)).mpr c3)]
            rw [if_pos ⟨hc, Or.inl c3⟩] at hx1
            exact hx1 _ _ _ (by omega) (by omega) rfl rfl rfl
          · rw [if_neg (fun z => c3 ((nI_ltI (by omega) (by omega)).mp z))]
            by_cases c4 : un A p k = f
            · rw [if_pos ((nI_eq (by omega) (by omega)).mpr c4)]
              by_cases c5 : d ≤ dd A k
              · rw [if_pos ((nI_leI (by omega) (by omega)).mpr c5)]
                rw [if_neg (by intro z; omega)] at hx1
                exact hx1 _ _ _ (by omega) (by omega) rfl rfl rfl
              · rw [if_neg (fun z => c5 ((nI_leI (by omega) (by omega)).mp z))]
                rw [if_pos ⟨hc, Or.inr ⟨c4, by omega⟩⟩] at hx1
                exact hx1 _ _ _ (by omega) (by omega) rfl rfl rfl
            · rw [if_neg (fun z => c4 ((nI_eq (by omega) (by omega)).mp z))]
              rw [if_neg (by intro z; omega)] at hx1
              exact hx1 _ _ _ (by omega) (by omega) rfl rfl rfl
      · rw [if_neg (fun z => c2 ((nI_leI (by omega) (by omega)).mp z))]
        have : gst A p (k + 1) = gst A p k := by
          rw [g1]
          cases hg : gst A p k with
          | none => simp only [gstep]; rw [if_neg (by intro z; exact c2 z.1)]
          | some z => obtain ⟨w, f, d⟩ := z; simp only [gstep]; rw [if_neg (by intro z; exact c2 z.1.1)]
        rw [this] at hx1
        exact hx1 _ _ _ (by omega) (by omega) ha2 ha3 ha4
theorem x_goes {b p : Nat} {σ : kS} {A : kN} (h : rX b σ A) (ok : okA A) (hp : p < A 0 2) : fX0_goesTo b (nI p) σ = some (enc (go A p), σ) := by
  have h3 := ok.2.2.1
  exact x_goesL h ok hp (A 0 2) 0 1000 _ _ _ (by omega) (by omega) rfl rfl rfl
