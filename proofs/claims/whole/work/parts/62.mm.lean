/-! READINGS that hold; SMELLS, PASTS, KINDS -/
theorem rR_fun {P : Nat} {σ τ : kS} (h : rR P σ τ) : ∃ (n : Nat) (af : Nat → Nat) (tf : Nat → Option Nat), n ≤ 8 ∧ σ 0 9 = nI n ∧ τ 0 23 = nI n ∧ ∀ k, k < n → af k < P ∧ (∀ b, tf k = some b → b < P) ∧ σ 21 k = nI (af k) ∧ τ 15 k = nI (af k) ∧ σ 22 k = enc (tf k) ∧ τ 16 k = enc (tf k) := by
  obtain ⟨n, hn, r1, r2, r3⟩ := h
  have : ∀ k, ∃ x : Nat × Option Nat, k < n → x.1 < P ∧ (∀ b, x.2 = some b → b < P) ∧ σ 21 k = nI x.1 ∧ τ 15 k = nI x.1 ∧ σ 22 k = enc x.2 ∧ τ 16 k = enc x.2 := by
    intro k
    by_cases hk : k < n
    · obtain ⟨a, t, q⟩ := r3 k hk
      exact ⟨(a, t), fun _ => q⟩
    · exact ⟨(0, none), fun z => absurd z hk⟩
  obtain ⟨f, hf⟩ := Classical.axiomOfChoice this
  exact ⟨n, fun k => (f k).1, fun k => (f k).2, hn, r1, r2, fun k hk => hf k hk⟩
theorem enc_inj {s t : Option Nat} (hs : ∀ b, s = some b → b < 6) (ht : ∀ b, t = some b → b < 6) : enc s = enc t ↔ s = t := by
  cases s with
  | none =>
    cases t with
    | none => exact ⟨fun _ => rfl, fun _ => rfl⟩
    | some b =>
      have := ht b rfl
      exact ⟨fun z => absurd z.symm (nI_ne9 (by omega)), fun z => by cases z⟩
  | some a =>
    have := hs a rfl
    cases t with
    | none => exact ⟨fun z => absurd z (nI_ne9 (by omega)), fun z => by cases z⟩
    | some b =>
      have := ht b rfl
      show nI a = nI b ↔ _
      rw [nI_eq (by omega) (by omega)]
      exact ⟨fun z => by rw [z], fun z => by cases z; rfl⟩
def hld (A : kN) (af : Nat → Nat) (tf : Nat → Option Nat) : Nat → Bool
  | 0 => true
  | k + 1 => hld A af tf k && decide (go A (af k) = tf k)
/-- what the two sides' rows of readings are -/
def rdX (P n : Nat) (af : Nat → Nat) (tf : Nat → Option Nat) (σ : kS) : Prop := n ≤ 8 ∧ σ 0 9 = nI n ∧ ∀ k, k < n → af k < P ∧ (∀ b, tf k = some b → b < P) ∧ σ 21 k = nI (af k) ∧ σ 22 k = enc (tf k)
def rdM (P n : Nat) (af : Nat → Nat) (tf : Nat → Option Nat) (τ : kS) : Prop := n ≤ 8 ∧ τ 0 23 = nI n ∧ ∀ k, k < n → af k < P ∧ (∀ b, tf k = some b → b < P) ∧ τ 15 k = nI (af k) ∧ τ 16 k = enc (tf k)
theorem hld_mono (A : kN) (af : Nat → Nat) (tf : Nat → Option Nat) : ∀ m k, hld A af tf k = false → hld A af tf (k + m) = false
  | 0, k, h => h
  | m + 1, k, h => by
    have := hld_mono A af tf m k h
    show (hld A af tf (k + m) && _) = false
    rw [this]
    rfl
theorem x_holdL {B : kN} {n : Nat} {af : Nat → Nat} {tf : Nat → Option Nat} {σ : kS} (h : rX 6 σ B) (ok : okA B) (hr : rdX (B 0 2) n af tf σ) : ∀ (m k f : Nat), k + m = n → m < f → hld B af tf k = true → fX4_readingsHoldInDraft_L2 f (nI k) σ = some (if hld B af tf n = true then 1 else 0, σ) := by
  have o := ok.2.2.1
  obtain ⟨hn, r1, r2⟩ := hr
  intro m
  induction m with
  | zero =>
    intro k f hk hf hh
    obtain ⟨f, rfl⟩ : ∃ j, f = j + 1 := ⟨f - 1, by omega⟩
    have hk' : k = n := by omega
    subst hk'
    rw [fX4_readingsHoldInDraft_L2, if_pos (by rw [r1, nI_leI (by omega) (by omega)]; omega), if_pos hh]
  | succ m ih =>
    intro k f hk hf hh
    obtain ⟨f, rfl⟩ : ∃ j, f = j + 1 := ⟨f - 1, by omega⟩
    obtain ⟨a1, a2, a3, a4⟩ := r2 k (by omega)
    have hi : inb (nI k) 8 := inb_lit (by omega) (by decide)
    have e : (nI k).toNatClampNeg = k := nI_clamp (by omega)
    rw [fX4_readingsHoldInDraft_L2, if_neg (by rw [r1, nI_leI (by omega) (by omega)]; omega), if_pos hi, show σ 21 (nI k).toNatClampNeg = nI (af k) by rw [e]; exact a3, x_goes h ok a1, kbi_s, if_pos hi, show σ 22 (nI k).toNatClampNeg = enc (tf k) by rw [e]; exact a4]
    have hd : hld B af tf (k + 1) = (hld B af tf k && decide (go B (af k) = tf k)) := rfl
    have hij := enc_inj (s := go B (af k)) (t := tf k) (fun b hb => by have := go_lt hb; omega) (fun b hb => by have := a2 b hb; omega)
    by_cases c : go B (af k) = tf k
    · rw [if_pos (hij.mpr c), klet_e, nI_1]
      exact ih (k + 1) f (by omega) (by omega) (by rw [hd, hh, decide_eq_true c]; rfl)
    · rw [if_neg (fun z => c (hij.mp z))]
      have hz : hld B af tf (k + 1) = false := by rw [hd, decide_eq_false c, Bool.and_false]
      have := hld_mono B af tf m (k + 1) hz
      rw [show k + 1 + m = n by omega] at this
      rw [if_neg (by rw [this]; decide)]
theorem x_hold {B : kN} {n : Nat} {af : Nat → Nat} {tf : Nat → Option Nat} {σ : kS} (h : rX 6 σ B) (ok : okA B) (hr : rdX (B 0 2) n af tf σ) : fX4_readingsHoldInDraft σ = some (if hld B af tf n = true then 1 else 0, σ) :=
  x_holdL h ok hr n 0 1000 (by omega) (by have := hr.1; omega) rfl
theorem m_holdL {B : kN} {n : Nat} {af : Nat → Nat} {tf : Nat → Option Nat} {τ : kS} (h : rM τ B) (ok : okA B) (hr : rdM (B 0 2) n af tf τ) : ∀ (m k f : Nat), k + m = n → m < f → fX5_areSo_L4 f (if hld B af tf k = true then 1 else 0) (nI k) τ = some (if hld B af tf n = true then 1 else 0, τ) := by
  have o := ok.2.2.1
  obtain ⟨hn, r1, r2⟩ := hr
  intro m
  induction m with
  | zero =>
    intro k f hk hf
    obtain ⟨f, rfl⟩ : ∃ j, f = j + 1 := ⟨f - 1, by omega⟩
    have hk' : k = n := by omega
    subst hk'
    rw [fX5_areSo_L4, if_pos (by rw [r1, nI_leI (by omega) (by omega)]; omega)]
  | succ m ih =>
    intro k f hk hf
    obtain ⟨f, rfl⟩ : ∃ j, f = j + 1 := ⟨f - 1, by omega⟩
    obtain ⟨a1, a2, a3, a4⟩ := r2 k (by omega)
    have hi : inb (nI k) 8 := inb_lit (by omega) (by decide)
    have e : (nI k).toNatClampNeg = k := nI_clamp (by omega)
    have hx := ih (k + 1) f (by omega) (by omega)
    have hd : hld B af tf (k + 1) = (hld B af tf k && decide (go B (af k) = tf k)) := rfl
    rw [hd] at hx
    rw [fX5_areSo_L4, if_neg (by rw [r1, nI_leI (by omega) (by omega)]; omega)]
    cases hh : hld B af tf k with
    | false =>
      rw [hh] at hx
      rw [if_neg (show ¬ (false = true) by decide), if_pos rfl, klet_e, nI_1]
      exact hx
    | true =>
      rw [hh] at hx
      rw [if_pos rfl, if_neg one_ne, if_pos hi, show τ 15 (nI k).toNatClampNeg = nI (af k) by rw [e]; exact a3, m_goes h ok a1, kbi_s, if_pos hi, show τ 16 (nI k).toNatClampNeg = enc (tf k) by rw [e]; exact a4]
      have hij := enc_inj (s := go B (af k)) (t := tf k) (fun b hb => by have := go_lt hb; omega) (fun b hb => by have := a2 b hb; omega)
      by_cases c : go B (af k) = tf k
      · rw [if_pos (hij.mpr c), klet_e, nI_1]
        rw [decide_eq_true c] at hx
        exact hx
      · rw [if_neg (fun z => c (hij.mp z)), klet_e, nI_1]
        rw [decide_eq_false c] at hx
        exact hx
theorem m_hold {B : kN} {n : Nat} {af : Nat → Nat} {tf : Nat → Option Nat} {τ : kS} (h : rM τ B) (ok : okA B) (hr : rdM (B 0 2) n af tf τ) : fX5_areSo τ = some (if hld B af tf n = true then 1 else 0, τ) :=
  m_holdL h ok hr n 0 1000 (by omega) (by have := hr.1; omega)
/-- the set of the first v values that hold -/
def stS (g : Nat → Bool) : Nat → Int32
  | 0 => 0
  | v + 1 => if g v = true then stS g v ||| ((1 : Int32) <<< (nI v &&& 31)) else stS g v
theorem rdX_fr {P n : Nat} {af : Nat → Nat} {tf : Nat → Option Nat} {σ σ' : kS} (h : rdX P n af tf σ) (e : sameD σ σ') : rdX P n af tf σ' := by
  obtain ⟨h1, h2, h3⟩ := h
  refine ⟨h1, by rw [e 0 (by omega)]; exact h2, ?_⟩
  rw [e 21 (by omega), e 22 (by omega)]
  exact h3
theorem x_byL {A : kN} {p q n end_ : Nat} {af : Nat → Nat} {tf : Nat → Option Nat} (ok : okA A) (hp : p < A 0 2) (h1 : 1 ≤ q) (h4 : q ≤ 4) (hend : end_ ≤ 8) (hv : ∀ v, v < end_ → okA (nup A q p v)) : ∀ (m v f w : Nat) (σ : kS), v + m = end_ → m < f → rX 6 σ (nup A q p w) → rdX (A 0 2) n af tf σ → ∃ σ', fX4_bySuchReadings_L27 f (6 + q) (nI p) (nI end_) (stS (fun v => hld (nup A q p v) af tf n) v) (nI v) σ = some (stS (fun v => hld (nup A q p v) af tf n) end_, σ') ∧ sameD σ σ' := by
  have o := ok.2.2.1
  have hi : inb (nI p) 6 := inb_lit (by omega) (by decide)
  have e : (nI p).toNatClampNeg = p := nI_clamp (by omega)
  intro m
  induction m with
  | zero =>
    intro v f w σ hv2 hf h hr
    obtain ⟨f, rfl⟩ : ∃ j, f = j + 1 := ⟨f - 1, by omega⟩
    have hv' : v = end_ := by omega
    subst hv'
    rw [fX4_bySuchReadings_L27, if_pos (by rw [nI_leI (by omega) (by omega)]; omega)]
    exact ⟨σ, rfl, fun _ _ => rfl⟩
  | succ m ih =>
    intro v f w σ hv2 hf h hr
    obtain ⟨f, rfl⟩ : ∃ j, f = j + 1 := ⟨f - 1, by omega⟩
    have hx1 := rX_up (q := q) (p := p) (v := v) h h1 h4
    rw [nup_nup] at hx1
    have ok1 := hv v (by omega)
    have sd : sameD σ (kup σ (6 + q) p (nI v)) := fun r hr => kup_ne (by omega)
    have hr1 := rdX_fr hr sd
    rw [fX4_bySuchReadings_L27, if_neg (by rw [nI_leI (by omega) (by omega)]; omega), if_pos hi, e, x_hold hx1 ok1 (by rw [nup_02 h1]; exact hr1), kbi_s]
    obtain ⟨s', f1, f2⟩ := ih (v + 1) f v _ (by omega) (by omega) hx1 hr1
    refine ⟨s', ?_, sameD_tr sd f2⟩
    cases hh : hld (nup A q p v) af tf n with
    | true =>
      rw [if_pos rfl, if_neg one_ne, klet_e, klet_e, nI_1]
      simp only [stS, hh, if_true] at f1
      exact f1
    | false =>
      rw [if_neg (show ¬ (false = true) by decide), if_pos rfl, klet_e, nI_1]
      rw [show stS (fun v => hld (nup A q p v) af tf n) (v + 1) = stS (fun v => hld (nup A q p v) af tf n) v by simp only [stS, hh, Bool.false_eq_true, if_false]] at f1
      exact f1
theorem rdM_fr {P n : Nat} {af : Nat → Nat} {tf : Nat → Option Nat} {τ τ' : kS} {q p : Nat} (h : rdM P n af tf τ) (e : sameT τ τ' q p) (h1 : 1 ≤ q) (h4 : q ≤ 4) : rdM P n af tf τ' := by
  obtain ⟨h2, h3, h5⟩ := h
  refine ⟨h2, by rw [e 0 23 (by omega)]; exact h3, fun k hk => ?_⟩
  rw [e 15 k (by omega), e 16 k (by omega)]
  exact h5 k hk
/-- what a laid loop of the reference does for such a set: the same for three rows -/
def mBy (fL : Nat → Int32 → Int32 → Int32 → Int32 → kS → Option (Int32 × kS)) (q end_ : Nat) : Prop :=
  ∀ n a1 a2 a3 a4 σ, fL (n + 1) a1 a2 a3 a4 σ = (if nI end_ ≤ a4 then (if inb a1 6 then some (a3, kup σ q (Int32.toNatClampNeg a1) a2) else none) else if inb a1 6 then kbi (fX5_areSo (kup σ q (Int32.toNatClampNeg a1) a4)) fun r13 σ12 => if r13 = 0 then klet (a3 ||| 0) fun v16 => klet (a4 + 1) fun v17 => fL n a1 a2 v16 v17 σ12 else klet (a3 ||| ((1 : Int32) <<< (a4 &&& 31))) fun v18 => klet (a4 + 1) fun v19 => fL n a1 a2 v18 v19 σ12 else none)
theorem mBy_smells : mBy fX5_smells_L22 2 8 := fun _ _ _ _ _ _ => rfl
theorem mBy_pasts : mBy fX5_pasts_L22 3 8 := fun _ _ _ _ _ _ => rfl
theorem mBy_kinds : mBy fX5_kinds_L22 1 3 := fun _ _ _ _ _ _ => rfl
theorem m_byL {fL : Nat → Int32 → Int32 → Int32 → Int32 → kS → Option (Int32 × kS)} {A : kN} {p q n end_ : Nat} {af : Nat → Nat} {tf : Nat → Option Nat} (hL : mBy fL q end_) (ok : okA A) (hp : p < A 0 2) (h1 : 1 ≤ q) (h4 : q ≤ 4) (hend : end_ ≤ 8) (hv : ∀ v, v < end_ → okA (nup A q p v)) (was : Int32) : ∀ (m v f w : Nat) (τ : kS), v + m = end_ → m < f → rM τ (nup A q p w) → rdM (A 0 2) n af tf τ → ∃ τ', fL f (nI p) was (stS (fun v => hld (nup A q p v) af tf n) v) (nI v) τ = some (stS (fun v => hld (nup A q p v) af tf n) end_, kup τ' q p was) ∧ sameT τ τ' q p := by
  have o := ok.2.2.1
  have hi : inb (nI p) 6 := inb_lit (by omega) (by decide)
  have e : (nI p).toNatClampNeg = p := nI_clamp (by omega)
  intro m
  induction m with
  | zero =>
    intro v f w τ hv2 hf h hr
    obtain ⟨f, rfl⟩ : ∃ j, f = j + 1 := ⟨f - 1, by omega⟩
    have hv' : v = end_ := by omega
    subst hv'
    rw [hL, if_pos (by rw [nI_leI (by omega) (by omega)]; omega), if_pos hi, e]
    exact ⟨τ, rfl, fun _ _ _ => rfl⟩
  | succ m ih =>
    intro v f w τ hv2 hf h hr
    obtain ⟨f, rfl⟩ : ∃ j, f = j + 1 := ⟨f - 1, by omega⟩
    have hx1 := rM_up (q := q) (p := p) (v := v) h h1 h4
    rw [nup_nup] at hx1
    have ok1 := hv v (by omega)
    have sd : sameT τ (kup τ q p (nI v)) q p := fun r j hr => by simp only [kup, if_neg hr]
    have hr1 := rdM_fr hr sd h1 h4
    rw [hL, if_neg (by rw [nI_leI (by omega) (by omega)]; omega), if_pos hi, e, m_hold hx1 ok1 (by rw [nup_02 h1]; exact hr1), kbi_s]
    obtain ⟨t', f1, f2⟩ := ih (v + 1) f v _ (by omega) (by omega) hx1 hr1
    refine ⟨t', ?_, fun r j hr => (f2 r j hr).trans (sd r j hr)⟩
    cases hh : hld (nup A q p v) af tf n with
    | true =>
      rw [if_pos rfl, if_neg one_ne, klet_e, klet_e, nI_1]
      simp only [stS, hh, if_true] at f1
      exact f1
    | false =>
      rw [if_neg (show ¬ (false = true) by decide), if_pos rfl, klet_e, klet_e, nI_1, i_or0]
      rw [show stS (fun v => hld (nup A q p v) af tf n) (v + 1) = stS (fun v => hld (nup A q p v) af tf n) v by simp only [stS, hh, Bool.false_eq_true, if_false]] at f1
      exact f1
theorem c_by {fL : Nat → Int32 → Int32 → Int32 → Int32 → kS → Option (Int32 × kS)} {q end_ : Nat} (hL : mBy fL q end_) (h1 : 1 ≤ q) (h4 : q ≤ 4) (hend : end_ ≤ 8) (hv : ∀ (A : kN) (p v : Nat), okA A → v < end_ → okA (nup A q p v)) (fx fm : kS → Option (Int32 × kS)) (a : Int32) (hfx : ∀ σ, fx σ = fX4_bySuchReadings (6 + q) a (nI end_) σ)
    (hfm : ∀ σ, fm σ = kbi (fX5_noPerson a σ) fun r3 σ2 => if r3 = 0 then (if inb a 6 then klet (σ2 q (Int32.toNatClampNeg a)) fun v7 => fL 1000 a v7 0 0 σ2 else none) else some ((-1), σ2)) : RI fx fm := by
  intro σ τ h
  have ⟨A, hA⟩ := h
  obtain ⟨ok, hx, hm, hs, hr, hc⟩ := id hA
  have o := ok.2.2.1
  rw [hfx, hfm]
  unfold fX4_bySuchReadings
  rcases p_cases hx hm ok a with ⟨p, hp, rfl, e1, e2⟩ | ⟨_, e1, e2⟩
  · have hi : inb (nI p) 6 := inb_lit (by omega) (by decide)
    have e : (nI p).toNatClampNeg = p := nI_clamp (by omega)
    obtain ⟨n, af, tf, hn, r1, r2, r3⟩ := rR_fun hr
    have hrx : rdX (A 0 2) n af tf σ := ⟨hn, r1, fun k hk => ⟨(r3 k hk).1, (r3 k hk).2.1, (r3 k hk).2.2.1, (r3 k hk).2.2.2.2.1⟩⟩
    have hrm : rdM (A 0 2) n af tf τ := ⟨hn, r2, fun k hk => ⟨(r3 k hk).1, (r3 k hk).2.1, (r3 k hk).2.2.2.1, (r3 k hk).2.2.2.2.2⟩⟩
    obtain ⟨s1, b1, b2, b3⟩ := x_become hx ok
    rw [e1, kbi_s, if_neg one_ne, b1, kbv_s, e2, kbi_s, if_pos rfl, if_pos hi, e, klet_e]
    have hA1 : rX 6 s1 (nup A q p (A q p)) := by rw [nup_self]; exact b2
    have hM1 : rM τ (nup A q p (A q p)) := by rw [nup_self]; exact hm
    obtain ⟨s2, f1, f2⟩ := x_byL ok hp h1 h4 hend (fun v => hv A p v ok) end_ 0 1000 _ s1 (by omega) (by omega) hA1 (rdX_fr hrx b3)
    obtain ⟨t2, g1, g2⟩ := m_byL hL ok hp h1 h4 hend (fun v => hv A p v ok) (τ q p) end_ 0 1000 _ τ (by omega) (by omega) hM1 hrm
    refine ⟨_, _, _, f1, g1, A, RA_same hA (sameD_X (sameD_tr b3 f2)) ⟨fun j hj => ?_, fun r c d => ?_, fun r c d k hk => ?_⟩⟩
    · rw [kup_q (by omega), g2 0 j (by omega)]
    · funext j
      rw [kup_q (by omega), g2 r j (by omega)]
    · by_cases z : r = q ∧ k = p
      · obtain ⟨rfl, rfl⟩ := z
        rw [kup_at]
      · simp only [kup, if_neg z]
        exact g2 r k z
  · rw [e1, kbi_s, if_pos rfl, e2, kbi_s, if_neg one_ne]
    exact ⟨_, _, _, rfl, rfl, h⟩
theorem kbi_id (o : Option (Int32 × kS)) : (kbi o fun r3 σ2 => some (r3, σ2)) = o := by
  cases o <;> rfl
theorem c_smells (a : Int32) : RI (fX4_smells a) (fX5_smells a) := c_by mBy_smells (by omega) (by omega) (by omega) (fun A p v ok hv => ok_up ok (by omega) (by omega)) _ _ a (fun σ => kbi_id _) (fun _ => rfl)
theorem c_pasts (a : Int32) : RI (fX4_pasts a) (fX5_pasts a) := c_by mBy_pasts (by omega) (by omega) (by omega) (fun A p v ok hv => ok_up ok (by omega) (by omega)) _ _ a (fun σ => kbi_id _) (fun _ => rfl)
theorem c_kinds (a : Int32) : RI (fX4_kinds a) (fX5_kinds a) := c_by mBy_kinds (by omega) (by omega) (by omega) (fun A p v ok hv => ok_up ok (by omega) (by omega)) _ _ a (fun σ => kbi_id _) (fun _ => rfl)
