/-! sets as numbers below 64 -/
def bS (s : Nat) : Nat → Bool := fun k => decide (s / 2 ^ k % 2 = 1)
theorem bS_bits : ∀ s, s < 64 → ∀ k, k < 6 → (nI s >>> (nI k &&& 31)) &&& 1 = nI (s / 2 ^ k % 2) := by decide +kernel
theorem bS_or : ∀ s, s < 64 → ∀ q, q < 6 → nI s ||| ((1 : Int32) <<< (nI q &&& 31)) = nI (s ||| 2 ^ q) := by decide +kernel
theorem or_64 : ∀ s, s < 64 → ∀ q, q < 6 → s ||| 2 ^ q < 64 := by decide +kernel
theorem bS_or2 : ∀ s, s < 64 → ∀ q, q < 6 → ∀ k, k < 6 → bS (s ||| 2 ^ q) k = (bS s k || decide (k = q)) := by decide +kernel
theorem bS_pow : ∀ p, p < 6 → bS (2 ^ p) p = true := by decide
theorem bS_lt {s k : Nat} (hs : s < 64) (h : bS s k = true) : k < 6 := by
  by_cases c : k < 6
  · exact c
  · have h2 : 2 ^ 6 ≤ 2 ^ k := Nat.pow_le_pow_right (by decide) (by omega)
    have h3 : s / 2 ^ k = 0 := Nat.div_eq_of_lt (by omega)
    simp [bS, h3] at h
theorem bS_ge {s p : Nat} (h : bS s p = true) : 2 ^ p ≤ s := by
  by_cases c : s < 2 ^ p
  · have h3 : s / 2 ^ p = 0 := Nat.div_eq_of_lt c
    simp [bS, h3] at h
  · omega
theorem pow_64 : ∀ p, p < 6 → 0 < 2 ^ p ∧ 2 ^ p < 64 := by decide
theorem m_isIn {s k : Nat} (hs : s < 64) (hk : k < 6) (τ : kS) : fX5_isIn (nI s) (nI k) τ = some (if bS s k = true then 1 else 0, τ) := by
  unfold fX5_isIn bS
  rw [bS_bits s hs k hk]
  rcases (show s / 2 ^ k % 2 = 0 ∨ s / 2 ^ k % 2 = 1 by omega) with z | z
  · rw [z, if_neg (show ¬ nI 0 = 1 by decide), if_neg (by decide)]
  · rw [z, if_pos (show nI 1 = 1 from rfl), if_pos (by decide)]
theorem x_contains {s k : Nat} (hs : s < 64) (hk : k < 6) (σ : kS) : fX4_contains (nI s) (nI k) σ = some (if bS s k = true then 1 else 0, σ) := by
  unfold fX4_contains bS
  rw [bS_bits s hs k hk]
  rcases (show s / 2 ^ k % 2 = 0 ∨ s / 2 ^ k % 2 = 1 by omega) with z | z
  · rw [z, if_pos (show nI 0 = 0 from rfl), if_neg (by decide)]
  · rw [z, if_neg (show ¬ nI 1 = 0 by decide), if_pos (by decide)]
def orN (s : Nat) (t : Option Nat) : Nat := match t with | none => s | some q => s ||| 2 ^ q
theorem orN_64 {s : Nat} {t : Option Nat} (hs : s < 64) (ht : ∀ q, t = some q → q < 6) : orN s t < 64 := by
  cases t with
  | none => exact hs
  | some q => exact or_64 s hs q (ht q rfl)
theorem orN_I {s : Nat} {t : Option Nat} (hs : s < 64) (ht : ∀ q, t = some q → q < 6) : nI s ||| bitI t = nI (orN s t) := by
  cases t with
  | none => exact i_or0 _
  | some q => exact bS_or s hs q (ht q rfl)
theorem orN_b {s k : Nat} {t : Option Nat} (hs : s < 64) (ht : ∀ q, t = some q → q < 6) (hk : k < 6) : bS (orN s t) k = (bS s k || decide (t = some k)) := by
  cases t with
  | none => simp [orN]
  | some q =>
    have := bS_or2 s hs q (ht q rfl) k hk
    rw [show orN s (some q) = s ||| 2 ^ q from rfl, this]
    congr 1
    by_cases c : k = q
    · subst c; simp
    · have : ¬ q = k := fun z => c z.symm
      simp [c, this]
def gtN (A : kN) : Nat → Nat
  | 0 => 0
  | k + 1 => orN (gtN A k) (go A k)
theorem gtN_64 {A : kN} (ok : okA A) : ∀ k, gtN A k < 64
  | 0 => by show 0 < 64; decide
  | k + 1 => orN_64 (gtN_64 ok k) (fun q hq => by have := go_lt hq; have := ok.2.2.1; omega)
theorem gtS_N {A : kN} (ok : okA A) : ∀ k, gtS A k = nI (gtN A k)
  | 0 => rfl
  | k + 1 => by
    show gtS A k ||| bitI (go A k) = _
    rw [gtS_N ok k, orN_I (gtN_64 ok k) (fun q hq => by have := go_lt hq; have := ok.2.2.1; omega)]
    rfl
theorem gtN_b {A : kN} (ok : okA A) {p : Nat} (hp : p < 6) : ∀ k, bS (gtN A k) p = true ↔ ∃ p', p' < k ∧ go A p' = some p
  | 0 => ⟨fun h => by simp [gtN, bS] at h, fun ⟨p', h, _⟩ => by omega⟩
  | k + 1 => by
    have ih := gtN_b ok hp k
    have e : gtN A (k + 1) = orN (gtN A k) (go A k) := rfl
    rw [e, orN_b (gtN_64 ok k) (fun q hq => by have := go_lt hq; have := ok.2.2.1; omega) hp, Bool.or_eq_true, ih, decide_eq_true_eq]
    constructor
    · rintro (⟨p', h1, h2⟩ | h)
      · exact ⟨p', by omega, h2⟩
      · exact ⟨k, by omega, h⟩
    · rintro ⟨p', h1, h2⟩
      by_cases c : p' = k
      · subst c; exact Or.inr h2
      · exact Or.inl ⟨p', by omega, h2⟩
theorem gets_b {A : kN} (ok : okA A) {p : Nat} (hp : p < 6) : bS (gtN A (A 0 2)) p = true ↔ gets A p := gtN_b ok hp _
/-! the reference's search -/
def BA (A : kN) (τ : kS) : Prop := (τ 0 1 = nI (A 0 2) ∧ τ 0 2 = nI (A 0 0) ∧ τ 0 3 = nI (A 0 1)) ∧ ∀ p, p < A 0 2 → τ 1 p = nI (A 1 p) ∧ τ 2 p = nI (A 2 p) ∧ τ 4 p = nI (A 4 p) ∧ τ 9 p = nI (A 2 p) ∧ τ 10 p = nI (A 3 p)
def sameF (P : Nat) (τ τ' : kS) : Prop := ∀ q j, q ≠ 14 → ¬ (q = 3 ∧ j < P) → τ' q j = τ q j
theorem sameF_tr {P : Nat} {a b c : kS} (h : sameF P a b) (h2 : sameF P b c) : sameF P a c := fun q j h3 h4 => (h2 q j h3 h4).trans (h q j h3 h4)
theorem BA_fr {A : kN} {τ τ' : kS} (h : BA A τ) (e : sameF (A 0 2) τ τ') : BA A τ' := by
  obtain ⟨⟨h1, h2, h3⟩, h4⟩ := h
  refine ⟨⟨by rw [e 0 1 (by omega) (by omega)]; exact h1, by rw [e 0 2 (by omega) (by omega)]; exact h2, by rw [e 0 3 (by omega) (by omega)]; exact h3⟩, fun p hp => ?_⟩
  rw [e 1 p (by omega) (by omega), e 2 p (by omega) (by omega), e 4 p (by omega) (by omega), e 9 p (by omega) (by omega), e 10 p (by omega) (by omega)]
  exact h4 p hp
theorem asMetL {A : kN} {s : Nat} (ok : okA A) (hs : s < 64) : ∀ (m x f : Nat) (τ : kS), x + m = A 0 2 → m < f → BA A τ → ∃ τ', fX5_asMet_L2 f (nI s) (nI x) τ = some τ' ∧ (∀ q j, ¬ (q = 3 ∧ j < A 0 2) → τ' q j = τ q j) ∧ (∀ p, x ≤ p → p < A 0 2 → τ' 3 p = nI (mA A (bS s) 3 p)) ∧ (∀ p, p < x → τ' 3 p = τ 3 p) := by
  have o := ok.2.2.1
  intro m
  induction m with
  | zero =>
    intro x f τ hx hf h
    obtain ⟨f, rfl⟩ : ∃ j, f = j + 1 := ⟨f - 1, by omega⟩
    rw [fX5_asMet_L2, if_pos (by rw [h.1.1, nI_leI (by omega) (by omega)]; omega)]
    exact ⟨τ, rfl, fun _ _ _ => rfl, fun p h1 h2 => by omega, fun _ _ => rfl⟩
  | succ m ih =>
    intro x f τ hx hf h
    obtain ⟨f, rfl⟩ : ∃ j, f = j + 1 := ⟨f - 1, by omega⟩
    have hi : inb (nI x) 6 := inb_lit (by omega) (by decide)
    have e : (nI x).toNatClampNeg = x := nI_clamp (by omega)
    obtain ⟨k1, k2, k4, k9, k10⟩ := h.2 x (by omega)
    have fin : ∀ v : Int32, v = nI (mA A (bS s) 3 x) → ∃ τ', fX5_asMet_L2 f (nI s) (nI (x + 1)) (kup τ 3 x v) = some τ' ∧ (∀ q j, ¬ (q = 3 ∧ j < A 0 2) → τ' q j = τ q j) ∧ (∀ p, x ≤ p → p < A 0 2 → τ' 3 p = nI (mA A (bS s) 3 p)) ∧ (∀ p, p < x → τ' 3 p = τ 3 p) := by
      intro v hv
      have sf : ∀ q j, ¬ (q = 3 ∧ j < A 0 2) → (kup τ 3 x v) q j = τ q j := fun q j hq => by
        have : ¬ (q = 3 ∧ j = x) := by rintro ⟨rfl, rfl⟩; exact hq ⟨rfl, by omega⟩
        simp only [kup, if_neg this]
      obtain ⟨t', h1, h2, h3, h4⟩ := ih (x + 1) f (kup τ 3 x v) (by omega) (by omega) (BA_fr h (fun q j _ hq => sf q j hq))
      refine ⟨t', h1, fun q j hq => (h2 q j hq).trans (sf q j hq), fun p a b => ?_, fun p a => ?_⟩
      · by_cases d : p = x
        · subst d
          rw [h4 p (by omega), kup_at, hv]
        · exact h3 p (by omega) b
      · rw [h4 p (by omega), kup_k (by omega)]
    rw [fX5_asMet_L2, if_neg (by rw [h.1.1, nI_leI (by omega) (by omega)]; omega), m_isIn hs (by omega), kbi_s]
    by_cases c : bS s x = true
    · rw [if_pos c, if_neg one_ne, if_pos hi, if_pos hi, klet_e, nI_1, e]
      exact fin _ (by rw [k9]; simp [mA, c])
    · rw [if_neg c, if_pos rfl, if_pos hi, if_pos hi, klet_e, nI_1, e]
      exact fin _ (by rw [k10]; simp [mA, c])
theorem as_met {A : kN} {s : Nat} {τ : kS} (ok : okA A) (hs : s < 64) (h : BA A τ) : ∃ τ', fX5_asMet (nI s) τ = some τ' ∧ sameF (A 0 2) τ τ' ∧ τ' 14 = τ 14 ∧ rM τ' (mA A (bS s)) := by
  have o := ok.2.2.1
  obtain ⟨t', h1, h2, h3, -⟩ := asMetL ok hs (A 0 2) 0 1000 τ (by omega) (by omega) h
  have hB := BA_fr h (fun q j _ hq => h2 q j hq)
  refine ⟨t', h1, fun q j _ hq => h2 q j hq, by funext j; exact h2 14 j (by omega), ⟨⟨?_, ?_, ?_⟩, fun p hp => ?_⟩⟩
  · rw [hB.1.2.1]; simp [mA]
  · rw [hB.1.2.2]; simp [mA]
  · rw [hB.1.1]; simp [mA]
  · have hp' : p < A 0 2 := by simpa [mA] using hp
    obtain ⟨k1, k2, k4, -, -⟩ := hB.2 p hp'
    refine ⟨?_, ?_, h3 p (by omega) hp', ?_⟩
    · rw [k1]; simp [mA]
    · rw [k2]; simp [mA]
    · rw [k4]; simp [mA]
def subW (A : kN) (s : Nat) : Prop := ∀ k, bS s k = true → gets A k
def Inv (A : kN) (D : Nat) (τ : kS) : Prop := τ 14 0 = nI 0 ∧ ∀ s, 0 < s → s < 64 → τ 14 s = -9 ∨ ∃ d, 1 ≤ d ∧ d ≤ D ∧ τ 14 s = nI d ∧ subW A s
def Mono (τ τ' : kS) : Prop := ∀ s, s < 64 → 0 ≤ τ 14 s → τ' 14 s = τ 14 s
theorem Mono_tr {a b c : kS} (h : Mono a b) (h2 : Mono b c) : Mono a c := fun s hs h3 => (h2 s hs (by rw [h s hs h3]; exact h3)).trans (h s hs h3)
theorem Inv_14 {A : kN} {D : Nat} {τ τ' : kS} (h : Inv A D τ) (e : τ' 14 = τ 14) : Inv A D τ' := by
  unfold Inv
  rw [e]
  exact h
theorem subW_0 (A : kN) : subW A 0 := fun k h => by simp [bS] at h
theorem Inv_sub {A : kN} {D s : Nat} {τ : kS} (h : Inv A D τ) (hs : s < 64) (h0 : 0 ≤ τ 14 s) : subW A s := by
  by_cases c : s = 0
  · subst c; exact subW_0 A
  · rcases h.2 s (by omega) hs with z | ⟨d, _, _, _, z⟩
    · rw [z] at h0; exact absurd h0 (by decide)
    · exact z
theorem kup_same {ρ : kS} {q k : Nat} : kup ρ q k (ρ q k) = ρ := by
  funext q' j
  simp only [kup]
  split
  · rename_i z; rw [z.1, z.2]
  · rfl
/-- one set's letters spread -/
theorem spreadL {A : kN} {s many : Nat} (ok : okA A) (hs : s < 64) (hmany : many ≤ 6) (k2 : Int32 → Int32 → kS → Option kS) : ∀ (m x f : Nat) (τ : kS), x + m = A 0 2 → m < f → BA A τ → Inv A (many + 1) τ → ∃ τ', fX5_spreads_L10 k2 f (nI many) (nI s) (nI x) τ = k2 (nI many) (nI (s + 1)) τ' ∧ sameF (A 0 2) τ τ' ∧ Inv A (many + 1) τ' ∧ Mono τ τ' ∧ (s = 0 → many = 0 → ∀ p, x ≤ p → p < A 0 2 → ∀ q, go A p = some q → τ' 14 (2 ^ q) = nI 1) := by
  have o := ok.2.2.1
  have hi : inb (nI s) 64 := inb_lit (by omega) (by decide)
  have e : (nI s).toNatClampNeg = s := nI_clamp (by omega)
  intro m
  induction m with
  | zero =>
    intro x f τ hx hf h hI
    obtain ⟨f, rfl⟩ : ∃ j, f = j + 1 := ⟨f - 1, by omega⟩
    rw [fX5_spreads_L10, if_pos (by rw [h.1.1, nI_leI (by omega) (by omega)]; omega), klet_e, nI_1]
    exact ⟨τ, rfl, fun _ _ _ _ => rfl, hI, fun _ _ _ => rfl, fun _ _ p h1 h2 => by omega⟩
  | succ m ih =>
    intro x f τ hx hf h hI
    obtain ⟨f, rfl⟩ : ∃ j, f = j + 1 := ⟨f - 1, by omega⟩
    have e14 : τ 14 (nI s).toNatClampNeg = τ 14 s := by rw [e]
    rw [fX5_spreads_L10, if_neg (by rw [h.1.1, nI_leI (by omega) (by omega)]; omega), if_pos hi, e14]
    by_cases c : τ 14 s = nI many
    · rw [if_pos c]
      have hsub := Inv_sub hI hs (by rw [c]; exact nI_le0 (by omega))
      obtain ⟨t1, a1, a2, a3, a4⟩ := as_met ok hs h
      have hxP : x < A 0 2 := by omega
      rw [a1, kbv_s, m_goes a4 (ok_mA _ ok) (by simpa [mA] using hxP), kbi_s, go_mA ok hxP hsub]
      -- the one who gets it
      obtain ⟨t, ht⟩ : ∃ t, t = (if bS s x = true then some x else go A x) := ⟨_, rfl⟩
      rw [← ht]
      have htg : ∀ q, t = some q → gets A q := by
        intro q hq
        rw [ht] at hq
        by_cases d : bS s x = true
        · rw [if_pos d] at hq; cases hq; exact hsub _ d
        · rw [if_neg d] at hq; exact ⟨x, hxP, hq⟩
      have ht6 : ∀ q, t = some q → q < 6 := fun q hq => by
        obtain ⟨p', _, hg⟩ := htg q hq
        have := go_lt hg
        omega
      have hto := orN_64 (t := t) hs ht6
      have key : ∃ τ', fX5_spreads_J55 (fX5_spreads_L10 k2 f) (nI many) (nI s) (nI x) (nI (orN s t)) t1 = k2 (nI many) (nI (s + 1)) τ' ∧ sameF (A 0 2) τ τ' ∧ Inv A (many + 1) τ' ∧ Mono τ τ' ∧ (s = 0 → many = 0 → ∀ p, x ≤ p → p < A 0 2 → ∀ q, go A p = some q → τ' 14 (2 ^ q) = nI 1) := by
        have hit : inb (nI (orN s t)) 64 := inb_lit hto (by decide)
        have et : (nI (orN s t)).toNatClampNeg = orN s t := nI_clamp (by omega)
        have e15 : t1 14 (nI (orN s t)).toNatClampNeg = τ 14 (orN s t) := by rw [et, a3]
        have hB1 := BA_fr h a2
        have hI1 : Inv A (many + 1) t1 := Inv_14 hI a3
        have last : ∀ t2 : kS, sameF (A 0 2) t1 t2 → Inv A (many + 1) t2 → Mono t1 t2 → (s = 0 → many = 0 → ∀ q, go A x = some q → t2 14 (2 ^ q) = nI 1) → ∃ τ', fX5_spreads_L10 k2 f (nI many) (nI s) (nI (x + 1)) t2 = k2 (nI many) (nI (s + 1)) τ' ∧ sameF (A 0 2) τ τ' ∧ Inv A (many + 1) τ' ∧ Mono τ τ' ∧ (s = 0 → many = 0 → ∀ p, x ≤ p → p < A 0 2 → ∀ q, go A p = some q → τ' 14 (2 ^ q) = nI 1) := by
          intro t2 b1 b2 b3 b4
          obtain ⟨t', f1, f2, f3, f4, f5⟩ := ih (x + 1) f t2 (by omega) (by omega) (BA_fr hB1 b1) b2
          have hM : Mono τ t1 := fun s' _ _ => by rw [a3]
          refine ⟨t', f1, sameF_tr a2 (sameF_tr b1 f2), f3, Mono_tr hM (Mono_tr b3 f4), fun z1 z2 p h1 h2 q hq => ?_⟩
          by_cases d : p = x
          · subst d
            have b5 := b4 z1 z2 q hq
            have hq6 : q < 6 := by have := go_lt hq; omega
            rw [f4 (2 ^ q) (pow_64 q hq6).2 (by rw [b5]; decide), b5]
          · exact f5 z1 z2 p (by omega) h2 q hq
        have ht0 : s = 0 → t = go A x := fun z => by subst z; rw [ht, if_neg (by simp [bS])]
        have hp0 : s = 0 → ∀ q, go A x = some q → orN s t = 2 ^ q := fun z q hq => by
          rw [ht0 z, hq, z]
          show 0 ||| 2 ^ q = 2 ^ q
          exact Nat.zero_or _
        unfold fX5_spreads_J55
        rw [if_pos hit, e15]
        by_cases g : 0 ≤ τ 14 (orN s t)
        · rw [if_pos g, if_pos hit, if_pos hit, klet_e, nI_1, show kup t1 14 (nI (orN s t)).toNatClampNeg (τ 14 (orN s t)) = t1 by rw [et, ← a3]; exact kup_same]
          refine last t1 (fun _ _ _ _ => rfl) hI1 (fun _ _ _ => rfl) (fun z1 z2 q hq => ?_)
          subst z2
          have hq6 : q < 6 := by have := go_lt hq; omega
          rw [hp0 z1 q hq] at g
          rw [a3]
          rcases hI.2 (2 ^ q) (pow_64 q hq6).1 (pow_64 q hq6).2 with z | ⟨d, d1, d2, d3, _⟩
          · rw [z] at g; exact absurd g (by decide)
          · rw [d3, show d = 1 by omega]
        · rw [if_neg g, if_pos hit, klet_e, nI_1, nI_1, et]
          have hne : orN s t ≠ 0 := fun z => by rw [z, hI.1] at g; exact g (by decide)
          refine last _ (fun q j hq _ => kup_ne hq ▸ rfl) ⟨?_, fun s' h1 h2 => ?_⟩ (fun s' h1 h2 => ?_) (fun z1 z2 q hq => ?_)
          · rw [kup_k (by omega), a3]; exact hI.1
          · by_cases d : s' = orN s t
            · subst d
              refine Or.inr ⟨many + 1, by omega, by omega, kup_at, fun k hk => ?_⟩
              have hk6 := bS_lt h2 hk
              rw [orN_b hs ht6 hk6, Bool.or_eq_true, decide_eq_true_eq] at hk
              rcases hk with hk | hk
              · exact hsub k hk
              · exact htg k hk
            · rw [kup_k d, a3]
              exact hI.2 s' h1 h2
          · by_cases d : s' = orN s t
            · subst d
              rw [a3] at h2
              exact absurd h2 g
            · rw [kup_k d]
          · subst z2
            rw [← hp0 z1 q hq, kup_at]
      cases htc : t with
      | none =>
        rw [htc] at key
        rw [if_neg (show ¬ 0 ≤ enc none by decide)]
        exact key
      | some q =>
        rw [htc] at key
        have hq6 := ht6 q htc
        rw [if_pos (show 0 ≤ enc (some q) from nI_le0 (by omega))]
        rw [show nI s ||| ((1 : Int32) <<< (enc (some q) &&& 31)) = nI (orN s (some q)) from bS_or s hs q hq6]
        exact key
    · rw [if_neg c, klet_e, nI_1]
      refine ⟨τ, rfl, fun _ _ _ _ => rfl, hI, fun _ _ _ => rfl, fun z1 z2 => ?_⟩
      subst z1
      subst z2
      exact absurd hI.1 c
