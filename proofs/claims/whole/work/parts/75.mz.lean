/-! MOOR: the text, and the class's reading of it -/
def dgt (c : Int32) (K : Nat) : Prop := ∃ v, v < K ∧ c - 48 = nI v
def dg (c : Int32) : Nat := (c - 48).toNatClampNeg
def kd (c : Int32) : Nat := if c = 107 then 2 else if c = 114 then 1 else 0
def gw (x : Nat) (c : Int32) : Prop := if x < 33 then (if x < 3 then (if x = 0 then c = 100 else if x = 1 then dgt c 10 else dgt c 4) else if (x - 3) % 5 = 0 then c = 59 else if (x - 3) % 5 = 1 then (c = 112 ∨ c = 114 ∨ c = 107) else if (x - 3) % 5 = 4 then dgt c 10 else dgt c 8) else False
theorem dg_of {c : Int32} {K : Nat} (hK : K < 2 ^ 31) (h : dgt c K) : dg c < K ∧ c - 48 = nI (dg c) := by
  obtain ⟨v, hv, e⟩ := h
  have : dg c = v := by unfold dg; rw [e]; exact nI_clamp (by omega)
  rw [this]
  exact ⟨hv, e⟩
theorem dgt_no {c : Int32} {K : Nat} (hK : K < 2 ^ 31) (h : (c - 48).toInt < 0 ∨ (K : Int) ≤ (c - 48).toInt) : ¬ dgt c K := by
  intro ⟨v, hv, e⟩
  rw [e, nI_toInt (by omega)] at h
  omega
theorem dig_cases (c : Int32) (K : Nat) (hK : K < 2 ^ 31) (m : Int32) (hm : m = nI K) (σ : kS) : (dgt c K ∧ fX3_isDigitBelow c m σ = some (1, σ)) ∨ (¬ dgt c K ∧ fX3_isDigitBelow c m σ = some (0, σ)) := by
  unfold fX3_isDigitBelow
  rcases rng_cases (c - 48) K hK with ⟨v, hv, e⟩ | h
  · refine Or.inl ⟨⟨v, hv, e⟩, ?_⟩
    rw [e, x_below1 K hv hK σ m hm, kbi_s]
  · refine Or.inr ⟨dgt_no hK h, ?_⟩
    rw [x_below0 K h hK σ m hm, kbi_s]
theorem m5 : ∀ x, x < 64 → 3 ≤ x → (nI x - 3) - (nI x - 3) / 5 * 5 = nI ((x - 3) % 5) := by decide +kernel
theorem if_10 {p : Prop} [Decidable p] {σ : kS} : (p ∧ (if p then some ((1 : Int32), σ) else some (0, σ)) = some (1, σ)) ∨ (¬ p ∧ (if p then some ((1 : Int32), σ) else some (0, σ)) = some (0, σ)) := by
  by_cases h : p
  · exact Or.inl ⟨h, if_pos h⟩
  · exact Or.inr ⟨h, if_neg h⟩
theorem x_gw (x : Nat) (hx : x < 64) (c : Int32) (σ : kS) : (gw x c ∧ fX3_goesOnWith (nI x) c σ = some (1, σ)) ∨ (¬ gw x c ∧ fX3_goesOnWith (nI x) c σ = some (0, σ)) := by
  unfold gw fX3_goesOnWith
  by_cases c33 : x < 33
  · rw [if_pos c33, if_pos (show nI x < (33 : Int32) from (nI_ltI (b := 33) (by omega) (by omega)).mpr c33)]
    by_cases c3 : x < 3
    · rw [if_pos c3, if_neg (show ¬ (3 : Int32) ≤ nI x from fun z => by have := (nI_leI (a := 3) (by omega) (by omega)).mp z; omega)]
      rcases (show x = 0 ∨ x = 1 ∨ x = 2 by omega) with rfl | rfl | rfl
      · rw [if_pos rfl, if_pos (show nI 0 = 0 from rfl)]
        exact if_10
      · rw [if_neg (by decide), if_pos rfl, if_neg (by decide), if_pos (show nI 1 = 1 from rfl)]
        rcases dig_cases c 10 (by decide) 10 rfl σ with ⟨h, e⟩ | ⟨h, e⟩ <;> rw [e, kbi_s]
        · exact Or.inl ⟨h, rfl⟩
        · exact Or.inr ⟨h, rfl⟩
      · rw [if_neg (by decide), if_neg (by decide), if_neg (by decide), if_neg (by decide)]
        rcases dig_cases c 4 (by decide) 4 rfl σ with ⟨h, e⟩ | ⟨h, e⟩ <;> rw [e, kbi_s]
        · exact Or.inl ⟨h, rfl⟩
        · exact Or.inr ⟨h, rfl⟩
    · rw [if_neg c3, if_pos (show (3 : Int32) ≤ nI x from (nI_leI (a := 3) (by omega) (by omega)).mpr (by omega)), m5 x hx (by omega)]
      rcases (show (x - 3) % 5 = 0 ∨ (x - 3) % 5 = 1 ∨ (x - 3) % 5 = 2 ∨ (x - 3) % 5 = 3 ∨ (x - 3) % 5 = 4 by omega) with e5 | e5 | e5 | e5 | e5 <;> rw [e5]
      · rw [if_pos rfl, if_pos (show nI 0 = 0 from rfl)]
        exact if_10
      · rw [if_neg (by decide), if_pos rfl, if_neg (by decide), if_pos (show nI 1 = 1 from rfl)]
        by_cases z1 : c = 112
        · rw [if_pos z1]; exact Or.inl ⟨Or.inl z1, rfl⟩
        · rw [if_neg z1]
          by_cases z2 : c = 114
          · rw [if_pos z2]; exact Or.inl ⟨Or.inr (Or.inl z2), rfl⟩
          · rw [if_neg z2]
            by_cases z3 : c = 107
            · rw [if_pos z3]; exact Or.inl ⟨Or.inr (Or.inr z3), rfl⟩
            · rw [if_neg z3]
              exact Or.inr ⟨fun z => by rcases z with z | z | z <;> contradiction, rfl⟩
      · rw [if_neg (by decide), if_neg (by decide), if_neg (by decide), if_neg (by decide), if_neg (by decide), if_pos (show nI 2 = 2 from rfl)]
        rcases dig_cases c 8 (by decide) 8 rfl σ with ⟨h, e⟩ | ⟨h, e⟩ <;> rw [e, kbi_s]
        · exact Or.inl ⟨h, rfl⟩
        · exact Or.inr ⟨h, rfl⟩
      · rw [if_neg (by decide), if_neg (by decide), if_neg (by decide), if_neg (by decide), if_neg (by decide), if_neg (by decide), if_pos (show nI 3 = 3 from rfl)]
        rcases dig_cases c 8 (by decide) 8 rfl σ with ⟨h, e⟩ | ⟨h, e⟩ <;> rw [e, kbi_s]
        · exact Or.inl ⟨h, rfl⟩
        · exact Or.inr ⟨h, rfl⟩
      · rw [if_neg (by decide), if_neg (by decide), if_pos rfl, if_neg (by decide), if_neg (by decide), if_neg (by decide), if_neg (by decide), if_pos (show nI 4 = 4 from rfl)]
        rcases dig_cases c 10 (by decide) 10 rfl σ with ⟨h, e⟩ | ⟨h, e⟩ <;> rw [e, kbi_s]
        · exact Or.inl ⟨h, rfl⟩
        · exact Or.inr ⟨h, rfl⟩
  · rw [if_neg c33, if_neg (show ¬ nI x < (33 : Int32) from fun z => c33 ((nI_ltI (b := 33) (by omega) (by omega)).mp z))]
    exact Or.inr ⟨id, rfl⟩
/-- all codes below x go on -/
def G (t : Nat → Int32) (x : Nat) : Prop := ∀ z, z < x → gw z (t z)
/-- y is the first fault of the text of n codes -/
def Bad (n : Nat) (t : Nat → Int32) (y : Nat) : Prop := y ≤ n ∧ G t y ∧ ((y < n ∧ ¬ gw y (t y)) ∨ (y = n ∧ (n < 13 ∨ (n - 3) % 5 ≠ 0)))
theorem G_up {t : Nat → Int32} {x : Nat} (h : G t x) (h2 : gw x (t x)) : G t (x + 1) := fun z hz => by
  by_cases d : z = x
  · subst d; exact h2
  · exact h z (by omega)
theorem x_ffBad {n i q : Nat} {σ : kS} (hi : i + n ≤ 60) {y : Nat} (hy : Bad n (fun x => σ q (i + x)) y) : ∀ (m x f : Nat), x + m = y → m < f → fX3_firstFault_L2 f q (nI i) (nI n) (nI x) σ = some (nI y, σ) := by
  obtain ⟨h1, h2, h3⟩ := hy
  intro m
  induction m with
  | zero =>
    intro x f hx hf
    obtain ⟨f, rfl⟩ : ∃ j, f = j + 1 := ⟨f - 1, by omega⟩
    have hx : x = y := by omega
    subst hx
    rcases h3 with ⟨h3, h4⟩ | ⟨h3, h4⟩
    · have ii : inb (nI (i + x)) 60 := inb_lit (by omega) (by decide)
      have e : (nI (i + x)).toNatClampNeg = i + x := nI_clamp (by omega)
      rw [fX3_firstFault_L2, if_neg (fun z => by have := (nI_leI (by omega) (by omega)).mp z; omega), nI_add, if_pos ii, show σ q (nI (i + x)).toNatClampNeg = σ q (i + x) by rw [e]]
      rcases x_gw x (by omega) (σ q (i + x)) σ with ⟨z, -⟩ | ⟨-, z⟩
      · exact absurd z h4
      · rw [z, kbi_s, if_pos rfl]
    · subst h3
      rw [fX3_firstFault_L2, if_pos (Int32.le_refl _)]
      by_cases c : x < 13
      · rw [if_pos (show nI x < (13 : Int32) from (nI_ltI (b := 13) (by omega) (by omega)).mpr c)]
      · rw [if_neg (show ¬ nI x < (13 : Int32) from fun z => c ((nI_ltI (b := 13) (by omega) (by omega)).mp z)), m5 x (by omega) (by omega), if_neg (nI_ne0 (by omega) (by omega))]
  | succ m ih =>
    intro x f hx hf
    obtain ⟨f, rfl⟩ : ∃ j, f = j + 1 := ⟨f - 1, by omega⟩
    have ii : inb (nI (i + x)) 60 := inb_lit (by omega) (by decide)
    have e : (nI (i + x)).toNatClampNeg = i + x := nI_clamp (by omega)
    rw [fX3_firstFault_L2, if_neg (fun z => by have := (nI_leI (by omega) (by omega)).mp z; omega), nI_add, if_pos ii, show σ q (nI (i + x)).toNatClampNeg = σ q (i + x) by rw [e]]
    rcases x_gw x (by omega) (σ q (i + x)) σ with ⟨-, z⟩ | ⟨z, -⟩
    · rw [z, kbi_s, if_neg one_ne, klet_e, nI_1]
      exact ih (x + 1) f (by omega) (by omega)
    · exact absurd (h2 x (by omega)) z
theorem x_ffOk {n i q : Nat} {σ : kS} (hi : i + n ≤ 60) (h2 : G (fun x => σ q (i + x)) n) (hn : 13 ≤ n) (hm : (n - 3) % 5 = 0) : ∀ (m x f : Nat), x + m = n → m < f → fX3_firstFault_L2 f q (nI i) (nI n) (nI x) σ = some (-9, σ) := by
  intro m
  induction m with
  | zero =>
    intro x f hx hf
    obtain ⟨f, rfl⟩ : ∃ j, f = j + 1 := ⟨f - 1, by omega⟩
    have hx : x = n := by omega
    subst hx
    rw [fX3_firstFault_L2, if_pos (Int32.le_refl _), if_neg (show ¬ nI x < (13 : Int32) from fun z => by have := (nI_ltI (b := 13) (by omega) (by omega)).mp z; omega), m5 x (by omega) (by omega), hm, if_pos (show nI 0 = 0 from rfl)]
  | succ m ih =>
    intro x f hx hf
    obtain ⟨f, rfl⟩ : ∃ j, f = j + 1 := ⟨f - 1, by omega⟩
    have ii : inb (nI (i + x)) 60 := inb_lit (by omega) (by decide)
    have e : (nI (i + x)).toNatClampNeg = i + x := nI_clamp (by omega)
    rw [fX3_firstFault_L2, if_neg (fun z => by have := (nI_leI (by omega) (by omega)).mp z; omega), nI_add, if_pos ii, show σ q (nI (i + x)).toNatClampNeg = σ q (i + x) by rw [e]]
    rcases x_gw x (by omega) (σ q (i + x)) σ with ⟨-, z⟩ | ⟨z, -⟩
    · rw [z, kbi_s, if_neg one_ne, klet_e, nI_1]
      exact ih (x + 1) f (by omega) (by omega)
    · exact absurd (h2 x (by omega)) z
theorem x_kind (c : Int32) (σ : kS) : fX3_kindOf c σ = some (nI (kd c), σ) := by
  unfold fX3_kindOf kd
  by_cases h : c = 107
  · rw [if_pos h, if_pos h]; rfl
  · rw [if_neg h, if_neg h]
    by_cases h2 : c = 114
    · rw [if_pos h2, if_pos h2]; rfl
    · rw [if_neg h2, if_neg h2]; rfl
/-- the moor that a text of P people tells -/
def tA (t : Nat → Int32) (P : Nat) : kN := fun q p => if q = 0 then (if p = 0 then dg (t 1) else if p = 1 then dg (t 2) else P) else if q = 1 then kd (t (3 + 5 * p + 1)) else dg (t (3 + 5 * p + q))
theorem gw_dig {t : Nat → Int32} {P n : Nat} (hP : P ≤ 6) (hn : n = 3 + 5 * P) (hG : G t n) {p : Nat} (hp : p < P) : dgt (t (3 + 5 * p + 2)) 8 ∧ dgt (t (3 + 5 * p + 3)) 8 ∧ dgt (t (3 + 5 * p + 4)) 10 := by
  have h2 := hG (3 + 5 * p + 2) (by omega)
  have h3 := hG (3 + 5 * p + 3) (by omega)
  have h4 := hG (3 + 5 * p + 4) (by omega)
  unfold gw at h2 h3 h4
  rw [if_pos (by omega), if_neg (by omega), if_neg (by omega), if_neg (by omega), if_neg (by omega)] at h2 h3
  rw [if_pos (by omega), if_neg (by omega), if_neg (by omega), if_neg (by omega), if_pos (by omega)] at h4
  exact ⟨h2, h3, h4⟩
theorem tA_ok {t : Nat → Int32} {P n : Nat} (hP : P ≤ 6) (hn : n = 3 + 5 * P) (hG : G t n) : okA (tA t P) := by
  have h1 := hG 1 (by omega)
  have h2 := hG 2 (by omega)
  unfold gw at h1 h2
  rw [if_pos (by omega), if_pos (by omega), if_neg (by omega), if_pos rfl] at h1
  rw [if_pos (by omega), if_pos (by omega), if_neg (by omega), if_neg (by omega)] at h2
  refine ⟨(dg_of (by decide) h1).1, (dg_of (by decide) h2).1, hP, fun p hp => ?_⟩
  obtain ⟨a, b, c⟩ := gw_dig hP hn hG hp
  refine ⟨?_, (dg_of (by decide) a).1, (dg_of (by decide) b).1, (dg_of (by decide) c).1⟩
  show kd _ < 3
  unfold kd
  split
  · decide
  · split <;> decide
theorem x_fillL {t : Nat → Int32} {P n i k : Nat} (hP : P ≤ 6) (hn : n = 3 + 5 * P) (hG : G t n) (hi : i + n ≤ 60) (hk : k < 4) : ∀ (m p f : Nat) (σ : kS), p + m = P → m < f → σ 1 2 = nI P → (∀ x, x < n → σ (12 + k + 4) (i + x) = t x) → ∃ σ', fX3_fill_L36 f 1 (12 + k + 4) (nI i) (nI p) σ = some σ' ∧ (∀ q, q < 2 ∨ 5 < q → σ' q = σ q) ∧ (∀ j, p ≤ j → j < P → σ' 2 j = nI (tA t P 1 j) ∧ σ' 3 j = nI (tA t P 2 j) ∧ σ' 4 j = nI (tA t P 3 j) ∧ σ' 5 j = nI (tA t P 4 j)) ∧ (∀ q j, j < p → σ' q j = σ q j) := by
  intro m
  induction m with
  | zero =>
    intro p f σ hp hf h2 ht
    obtain ⟨f, rfl⟩ : ∃ j, f = j + 1 := ⟨f - 1, by omega⟩
    rw [fX3_fill_L36, if_pos (by rw [h2, nI_leI (by omega) (by omega)]; omega)]
    exact ⟨σ, rfl, fun _ _ => rfl, fun j a b => by omega, fun _ _ _ => rfl⟩
  | succ m ih =>
    intro p f σ hp hf h2 ht
    obtain ⟨f, rfl⟩ : ∃ j, f = j + 1 := ⟨f - 1, by omega⟩
    obtain ⟨d2, d3, d4⟩ := gw_dig hP hn hG (show p < P by omega)
    have d2 := (dg_of (by decide) d2).2
    have d3 := (dg_of (by decide) d3).2
    have d4 := (dg_of (by decide) d4).2
    have ip : inb (nI p) 6 := inb_lit (by omega) (by decide)
    have e : (nI p).toNatClampNeg = p := nI_clamp (by omega)
    have ea : nI i + 3 + 5 * nI p = nI (i + (3 + 5 * p)) := by
      rw [show (3 : Int32) = nI 3 from rfl, show (5 : Int32) = nI 5 from rfl, pk_mul, nI_add, nI_add, Nat.add_assoc]
    have ec : ∀ c : Nat, nI (i + (3 + 5 * p)) + nI c = nI (i + (3 + 5 * p + c)) := fun c => by rw [nI_add, Nat.add_assoc]
    have e1 : nI (i + (3 + 5 * p)) + 1 = nI (i + (3 + 5 * p + 1)) := ec 1
    have e2 : nI (i + (3 + 5 * p)) + 2 = nI (i + (3 + 5 * p + 2)) := ec 2
    have e3 : nI (i + (3 + 5 * p)) + 3 = nI (i + (3 + 5 * p + 3)) := ec 3
    have e4 : nI (i + (3 + 5 * p)) + 4 = nI (i + (3 + 5 * p + 4)) := ec 4
    have ii : ∀ c, c ≤ 4 → inb (nI (i + (3 + 5 * p + c))) 60 := fun c hc => inb_lit (by omega) (by decide)
    have ei : ∀ c, c ≤ 4 → (nI (i + (3 + 5 * p + c))).toNatClampNeg = i + (3 + 5 * p + c) := fun c hc => nI_clamp (by omega)
    have tt : ∀ c, c ≤ 4 → σ (12 + k + 4) (i + (3 + 5 * p + c)) = t (3 + 5 * p + c) := fun c hc => ht _ (by omega)
    have kq : ∀ (ρ : kS) (a y : Nat) (v : Int32), a < 12 → kup ρ a y v (12 + k + 4) = ρ (12 + k + 4) := fun ρ a y v ha => kup_ne (by omega)
    rw [fX3_fill_L36, if_neg (by rw [h2, nI_leI (by omega) (by omega)]; omega), klet_e, ea, e1, e2, e3, e4, if_pos (ii 1 (by omega)), x_kind, kbi_s, if_pos ip, if_pos (ii 2 (by omega)), if_pos ip, if_pos (ii 3 (by omega)), if_pos ip, if_pos (ii 4 (by omega)), if_pos ip, klet_e, nI_1]
    simp only [kq _ (1 + 1) _ _ (by omega), kq _ (1 + 2) _ _ (by omega), kq _ (1 + 3) _ _ (by omega), kq _ (1 + 4) _ _ (by omega), ei 1 (by omega), ei 2 (by omega), ei 3 (by omega), ei 4 (by omega), tt 1 (by omega), tt 2 (by omega), tt 3 (by omega), tt 4 (by omega), e, d2, d3, d4]
    obtain ⟨s', f1, f2, f3, f4⟩ := ih (p + 1) f (kup (kup (kup (kup σ (1 + 1) p (nI (kd (t (3 + 5 * p + 1))))) (1 + 2) p (nI (dg (t (3 + 5 * p + 2))))) (1 + 3) p (nI (dg (t (3 + 5 * p + 3))))) (1 + 4) p (nI (dg (t (3 + 5 * p + 4))))) (by omega) (by omega) (by
      rw [kup_q (by decide), kup_q (by decide), kup_q (by decide), kup_q (by decide)]; exact h2) (fun x hx => by
      rw [kup_q (by omega), kup_q (by omega), kup_q (by omega), kup_q (by omega)]; exact ht x hx)
    refine ⟨s', f1, fun q hq => ?_, fun j a b => ?_, fun q j a => ?_⟩
    · rw [f2 q hq, kup_ne (by omega), kup_ne (by omega), kup_ne (by omega), kup_ne (by omega)]
    · by_cases d : j = p
      · subst d
        rw [f4 2 j (by omega), f4 3 j (by omega), f4 4 j (by omega), f4 5 j (by omega)]
        refine ⟨?_, ?_, ?_, ?_⟩
        · rw [kup_q (by decide), kup_q (by decide), kup_q (by decide)]; exact kup_at
        · rw [kup_q (by decide), kup_q (by decide)]; exact kup_at
        · rw [kup_q (by decide)]; exact kup_at
        · exact kup_at
      · exact f3 j (by omega) b
    · rw [f4 q j (by omega), kup_k (by omega), kup_k (by omega), kup_k (by omega), kup_k (by omega)]
