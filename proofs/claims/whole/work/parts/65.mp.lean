/-! ROUNDS: the play -/
theorem x_addJ {t : Option Nat} (ht : ∀ q, t = some q → q < 6) (σ : kS) : ∃ σ', fX2_add_J32 (enc t) σ = some σ' ∧ (∀ r, r ≠ 20 → σ' r = σ r) ∧ σ' 20 0 = σ 20 0 ∧ σ' 20 1 = σ 20 1 ∧ σ' 20 2 = σ 20 2 ||| bitI t ∧ σ' 20 3 = (if t = none then σ 20 3 + 1 else σ 20 3) := by
  unfold fX2_add_J32
  cases t with
  | none =>
    rw [if_pos (show enc none = -9 from rfl), x_with ht, kbi_s]
    refine ⟨_, rfl, fun r hr => by rw [kup_ne hr, kup_ne hr], ?_, ?_, ?_, ?_⟩
    · rw [kup_k (by decide), kup_k (by decide)]
    · rw [kup_k (by decide), kup_k (by decide)]
    · rw [kup_at, kup_k (by decide)]
    · rw [kup_k (by decide), kup_at, if_pos rfl]
  | some q =>
    have := ht q rfl
    rw [if_neg (show ¬ enc (some q) = -9 from nI_ne9 (by omega)), x_with ht, kbi_s]
    refine ⟨_, rfl, fun r hr => by rw [kup_ne hr], ?_, ?_, ?_, ?_⟩
    · rw [kup_k (by decide)]
    · rw [kup_k (by decide)]
    · rw [kup_at]
    · rw [kup_k (by decide), if_neg (by intro z; cases z)]
theorem x_add {x p : Nat} {t : Option Nat} (hp : p < 6) (ht : ∀ q, t = some q → q < 6) (σ : kS) : ∃ σ', fX2_add (nI x) (nI p) (enc t) σ = some σ' ∧ (∀ r, r ≠ 20 → σ' r = σ r) ∧ σ' 20 0 = (if t = some p then σ 20 0 + 1 else σ 20 0) ∧ σ' 20 1 = (if t = some p then σ 20 1 else if σ 20 1 = -9 then nI x else σ 20 1) ∧ σ' 20 2 = σ 20 2 ||| bitI t ∧ σ' 20 3 = (if t = none then σ 20 3 + 1 else σ 20 3) := by
  have hij : enc t = nI p ↔ t = some p := enc_inj (t := some p) ht (fun b hb => by cases hb; exact hp)
  unfold fX2_add
  by_cases c : t = some p
  · rw [if_pos (hij.mpr c)]
    obtain ⟨s', f1, f2, f3, f4, f5, f6⟩ := x_addJ ht (kup σ 20 0 (σ 20 0 + 1))
    refine ⟨s', f1, fun r hr => by rw [f2 r hr, kup_ne hr], ?_, ?_, ?_, ?_⟩
    · rw [f3, kup_at, if_pos c]
    · rw [f4, kup_k (by decide), if_pos c]
    · rw [f5, kup_k (by decide)]
    · rw [f6, kup_k (by decide)]
  · rw [if_neg (fun z => c (hij.mp z))]
    by_cases d : σ 20 1 = -9
    · rw [if_pos d]
      obtain ⟨s', f1, f2, f3, f4, f5, f6⟩ := x_addJ ht (kup σ 20 1 (nI x))
      refine ⟨s', f1, fun r hr => by rw [f2 r hr, kup_ne hr], ?_, ?_, ?_, ?_⟩
      · rw [f3, kup_k (by decide), if_neg c]
      · rw [f4, kup_at, if_neg c, if_pos d]
      · rw [f5, kup_k (by decide)]
      · rw [f6, kup_k (by decide)]
    · rw [if_neg d]
      obtain ⟨s', f1, f2, f3, f4, f5, f6⟩ := x_addJ ht σ
      refine ⟨s', f1, f2, ?_, ?_, f5, f6⟩
      · rw [f3, if_neg c]
      · rw [f4, if_neg c, if_neg d]
theorem i_add0 (x : Int32) : x + 0 = x := Int32.add_zero x
theorem m_add {K : Int32 → Int32 → Int32 → Int32 → Int32 → Int32 → Int32 → Int32 → kS → Option (Int32 × kS)} {x p : Nat} {t : Option Nat} (hp : p < 6) (ht : ∀ q, t = some q → q < 6) (a1 a2 a3 w g h c : Int32) (hw : w = -9 ∨ ∃ j : Nat, j < 2 ^ 31 ∧ w = nI j) (τ : kS) :
    (if enc t = nI p then fX5_roundBy_J79 K a1 a2 a3 w g h (nI x) (nI p) (enc t) 1 c τ else fX5_roundBy_J79 K a1 a2 a3 w g h (nI x) (nI p) (enc t) 0 c τ) = K a1 a2 a3 (if t = some p then c + 1 else c) (if t = some p then w else if w = -9 then nI x else w) (g ||| bitI t) (if t = none then h + 1 else h) (nI (x + 1)) τ := by
  have hij : enc t = nI p ↔ t = some p := enc_inj (t := some p) ht (fun b hb => by cases hb; exact hp)
  have J : ∀ (c' w' : Int32), (if 0 ≤ enc t then fX5_roundBy_J118 K a1 a2 a3 c' w' h (nI x) (enc t) ((1 : Int32) <<< (enc t &&& 31)) g τ else fX5_roundBy_J118 K a1 a2 a3 c' w' h (nI x) (enc t) 0 g τ) = K a1 a2 a3 c' w' (g ||| bitI t) (if t = none then h + 1 else h) (nI (x + 1)) τ := by
    intro c' w'
    unfold fX5_roundBy_J118
    cases t with
    | none =>
      rw [if_neg (show ¬ 0 ≤ enc none by decide), klet_e, if_neg (show ¬ 0 ≤ enc none by decide), klet_e, klet_e, nI_1, if_pos rfl]
      rfl
    | some q =>
      have := ht q rfl
      rw [if_pos (show 0 ≤ enc (some q) from nI_le0 (by omega)), klet_e, if_pos (show 0 ≤ enc (some q) from nI_le0 (by omega)), klet_e, klet_e, nI_1, i_add0, if_neg (show ¬ (some q = none) by intro z; cases z)]
      rfl
  unfold fX5_roundBy_J79
  rw [klet_e, klet_e]
  by_cases c0 : t = some p
  · rw [if_pos (hij.mpr c0), if_pos c0, if_pos c0, if_pos (hij.mpr c0), J, ]
    split <;> rfl
  · rw [if_neg (fun z => c0 (hij.mp z)), if_neg c0, if_neg c0, if_neg (fun z => c0 (hij.mp z)), i_add0, J, J]
    rcases hw with hw | ⟨j, hj, hw⟩
    · rw [if_neg (show ¬ 0 ≤ w by rw [hw]; decide), if_pos hw]
    · rw [if_pos (show 0 ≤ w by rw [hw]; exact nI_le0 hj), if_neg (show ¬ w = -9 by rw [hw]; exact nI_ne9 hj)]

def sameR (σ σ' : kS) : Prop := ∀ q, (q ≤ 5 ∨ (11 ≤ q ∧ q ≠ 20)) → σ' q = σ q
theorem sameR_tr {a b c : kS} (h : sameR a b) (h2 : sameR b c) : sameR a c := fun q hq => (h2 q hq).trans (h q hq)
/-- the reference's frame in a play: SMELL, WAS and PLACE of PEOPLE alone -/
def sameP (P : Nat) (τ τ' : kS) : Prop := ∀ q j, ¬ (2 ≤ q ∧ q ≤ 4 ∧ j < P) → τ' q j = τ q j
theorem sameP_tr {P : Nat} {a b c : kS} (h : sameP P a b) (h2 : sameP P b c) : sameP P a c := fun q j hq => (h2 q j hq).trans (h q j hq)
theorem sameP_up {P q p : Nat} {x : Int32} {τ : kS} (hq : 2 ≤ q ∧ q ≤ 4) (hp : p < P) : sameP P τ (kup τ q p x) := by
  intro r j hr
  have : ¬ (r = q ∧ j = p) := by
    rintro ⟨rfl, rfl⟩
    exact hr ⟨hq.1, hq.2, hp⟩
  simp only [kup, if_neg this]
theorem sameP_sd {B : kN} {p : Nat} {τ : kS} : sameP (B 0 2) τ (sdM τ B p) := by
  unfold sdM
  cases hg : go B p with
  | none => exact fun _ _ _ => rfl
  | some q => exact sameP_up (by omega) (go_lt hg)
theorem sameR_sd {B : kN} {p : Nat} {σ : kS} : sameR σ (sdX 6 σ B p) := by
  unfold sdX
  cases hg : go B p with
  | none => exact fun _ _ => rfl
  | some q => exact fun r hr => kup_ne (by omega)
theorem sameR_sd_20 (B : kN) (p : Nat) (σ : kS) : (sdX 6 σ B p) 20 = σ 20 := by
  unfold sdX
  cases hg : go B p with
  | none => rfl
  | some q => exact kup_ne (by decide)
theorem vpair_fr {P q i x : Nat} {σ σ' : kS} (h : vpair P q i σ x) (e : σ' q = σ q) : vpair P q i σ' x := by
  obtain ⟨p, a, h1, h2, h3, h4⟩ := h
  exact ⟨p, a, h1, h2, by rw [e]; exact h3, by rw [e]; exact h4⟩
theorem play_lock {P k i n N : Nat} (what : Int32) (hk : k < 4) (hN : N ≤ 60) (hi : i + 2 * n ≤ N) (hP : P ≤ 6) : ∀ (m x f g : Nat) (B : kN) (σ τ : kS), x + m = n → m < f → m < g → rX 6 σ B → rM τ B → okA B → B 0 2 = P → (∀ y, y < N → σ (12 + k + 4) y = τ 19 (60 * k + y)) → (∀ y, x ≤ y → y < n → vpair P (12 + k + 4) i σ y) → (σ 20 1 = -9 ∨ ∃ j : Nat, j < 2 ^ 31 ∧ σ 20 1 = nI j) →
    ∃ σ' τ' B', fX4_play_L21 f (12 + k + 4) (nI i) (nI n) (nI x) σ = some σ' ∧ fX5_roundBy_L16 g (nI (60 * k + i)) (nI n) what (σ 20 0) (σ 20 1) (σ 20 2) (σ 20 3) (nI x) τ = fX5_roundBy_L16 1 (nI (60 * k + i)) (nI n) what (σ' 20 0) (σ' 20 1) (σ' 20 2) (σ' 20 3) (nI n) τ' ∧ rX 6 σ' B' ∧ rM τ' B' ∧ okA B' ∧ B' 0 2 = P ∧ sameR σ σ' ∧ sameP P τ τ' := by
  intro m
  induction m with
  | zero =>
    intro x f g B σ τ hx hf hg h1 h2 ok hB hs hv hw
    obtain ⟨f, rfl⟩ : ∃ j, f = j + 1 := ⟨f - 1, by omega⟩
    obtain ⟨g, rfl⟩ : ∃ j, g = j + 1 := ⟨g - 1, by omega⟩
    have hxn : x = n := by omega
    subst hxn
    have c : nI x ≤ nI x := Int32.le_refl _
    refine ⟨σ, τ, B, ?_, ?_, h1, h2, ok, hB, fun _ _ => rfl, fun _ _ _ => rfl⟩
    · rw [fX4_play_L21, if_pos c]
    · rw [fX5_roundBy_L16, if_pos c, fX5_roundBy_L16, if_pos c]
  | succ m ih =>
    intro x f g B σ τ hx hf hg h1 h2 ok hB hs hv hw
    obtain ⟨f, rfl⟩ : ∃ j, f = j + 1 := ⟨f - 1, by omega⟩
    obtain ⟨g, rfl⟩ : ∃ j, g = j + 1 := ⟨g - 1, by omega⟩
    have c : ¬ nI n ≤ nI x := fun z => by have := (nI_leI (by omega) (by omega)).mp z; omega
    have e1 : nI i + 2 * nI x = nI (i + 2 * x) := by rw [show (2 : Int32) = nI 2 from rfl, pk_mul, nI_add]
    have e2 : nI (60 * k + i) + 2 * nI x = nI (60 * k + (i + 2 * x)) := by rw [show (2 : Int32) = nI 2 from rfl, pk_mul, nI_add, show 60 * k + i + 2 * x = 60 * k + (i + 2 * x) by omega]
    have b1 : inb (nI (i + 2 * x + 1)) 60 := inb_lit (by omega) (by decide)
    have b0 : inb (nI (i + 2 * x)) 60 := inb_lit (by omega) (by decide)
    have d1 : inb (nI (60 * k + (i + 2 * x) + 1)) 240 := inb_lit (by omega) (by decide)
    have d0 : inb (nI (60 * k + (i + 2 * x))) 240 := inb_lit (by omega) (by decide)
    have t1 : (nI (i + 2 * x + 1)).toNatClampNeg = i + 2 * x + 1 := nI_clamp (by omega)
    have t0 : (nI (i + 2 * x)).toNatClampNeg = i + 2 * x := nI_clamp (by omega)
    have u1 : (nI (60 * k + (i + 2 * x) + 1)).toNatClampNeg = 60 * k + (i + 2 * x + 1) := nI_clamp (by omega)
    have u0 : (nI (60 * k + (i + 2 * x))).toNatClampNeg = 60 * k + (i + 2 * x) := nI_clamp (by omega)
    have s1 := hs (i + 2 * x + 1) (by omega)
    have s0 := hs (i + 2 * x) (by omega)
    obtain ⟨p, a, hp, ha, p0, p1⟩ := hv x (by omega) (by omega)
    have hpB : p < B 0 2 := by omega
    have hip : inb (nI p) 6 := inb_lit (by omega) (by decide)
    have tp : (nI p).toNatClampNeg = p := nI_clamp (by omega)
    have nx : ∀ {σ2 : kS}, sameR σ σ2 → (∀ y, x + 1 ≤ y → y < n → vpair P (12 + k + 4) i σ2 y) := fun {σ2} e y h3 h4 => vpair_fr (hv y (by omega) h4) (e (12 + k + 4) (by omega))
    have ns : ∀ {σ2 τ2 : kS}, sameR σ σ2 → sameP P τ τ2 → (∀ y, y < N → σ2 (12 + k + 4) y = τ2 19 (60 * k + y)) := fun {σ2 τ2} e e' y hy => by rw [e (12 + k + 4) (by omega), e' 19 _ (by omega)]; exact hs y hy
    rw [fX4_play_L21, if_neg c, fX5_roundBy_L16, if_neg c, e1, e2, nI_1 (i + 2 * x), nI_1 (60 * k + (i + 2 * x)), if_pos b0, klet_e (v := σ (12 + k + 4) (nI (i + 2 * x)).toNatClampNeg), if_pos b1, klet_e (v := σ (12 + k + 4) (nI (i + 2 * x + 1)).toNatClampNeg), if_pos d0, klet_e (v := τ 19 (nI (60 * k + (i + 2 * x))).toNatClampNeg), if_pos d1, klet_e (v := τ 19 (nI (60 * k + (i + 2 * x) + 1)).toNatClampNeg), t0, t1, u0, u1, ← s0, ← s1, p0, p1]
    by_cases a8 : a = 8
    · subst a8
      rw [if_pos (show (8 : Int32) ≤ nI 8 by decide), if_pos (show nI 8 = 8 from rfl), if_pos (show nI 8 = 8 from rfl), x_deliver h1 ok hpB, kbi_s, m_sent h2 ok hpB, kbi_s]
      have hgo : ∀ q, go B p = some q → q < 6 := fun q hq => by have := go_lt hq; omega
      have g20 : (sdX 6 σ B p) 20 = σ 20 := sameR_sd_20 B p σ
      obtain ⟨s2, f1, f2, f3, f4, f5, f6⟩ := x_add (x := x) (show p < 6 by omega) hgo (sdX 6 σ B p)
      rw [f1, kbv_s, klet_e, nI_1, m_add (show p < 6 by omega) hgo _ _ _ _ _ _ _ hw]
      rw [g20] at f3 f4 f5 f6
      have sr : sameR σ s2 := sameR_tr sameR_sd (fun r hr => f2 r (by omega))
      have sp : sameP P τ (sdM τ B p) := by rw [← hB]; exact sameP_sd
      obtain ⟨s', t', B', q1, q2, q3, q4, q5, q6, q7, q8⟩ := ih (x + 1) f g (sdA B p) s2 (sdM τ B p) (by omega) (by omega) (by omega) (rX_fr (rX_sd h1) (fun r _ _ => f2 r (by omega))) (rM_sd h2) (ok_sd ok) ((sdA_02 B p).trans hB) (ns sr sp) (nx sr) (by
        rw [f4]
        split
        · exact hw
        · split
          · exact Or.inr ⟨x, by omega, rfl⟩
          · exact hw)
      refine ⟨s', t', B', q1, ?_, q3, q4, q5, q6, sameR_tr sr q7, sameP_tr sp q8⟩
      rw [← q2, f3, f4, f5, f6]
    · have c8 : ¬ nI a = 8 := fun z => a8 ((nI_eq (a := a) (b := 8) (by omega) (by omega)).mp z)
      by_cases a9 : 8 ≤ a
      · have c9 : (8 : Int32) ≤ nI a := (nI_leI (a := 8) (b := a) (by omega) (by omega)).mpr a9
        have ea : nI a - 10 = nI (a - 10) := pk_sub (a := a) (b := 10) (by omega)
        rw [if_pos c9, if_neg c8, if_neg c8, if_pos c9, if_pos hip, if_pos hip, klet_e, klet_e, nI_1, tp, ea]
        have sr : sameR σ (kup σ 10 p (nI (a - 10))) := fun r hr => kup_ne (by omega)
        have sp : sameP P τ (kup τ 4 p (nI (a - 10))) := sameP_up (by omega) hp
        have g20 : (kup σ 10 p (nI (a - 10))) 20 = σ 20 := kup_ne (by omega)
        obtain ⟨s', t', B', q1, q2, q3, q4, q5, q6, q7, q8⟩ := ih (x + 1) f g (nup B 4 p (a - 10)) (kup σ 10 p (nI (a - 10))) (kup τ 4 p (nI (a - 10))) (by omega) (by omega) (by omega) (rX_up (q := 4) h1 (by omega) (by omega)) (rM_up (q := 4) h2 (by omega) (by omega)) (ok_up ok (by omega) (by omega)) ((nup_02 (by omega)).trans hB) (ns sr sp) (nx sr) (by rw [g20]; exact hw)
        rw [g20] at q2
        exact ⟨s', t', B', q1, q2, q3, q4, q5, q6, sameR_tr sr q7, sameP_tr sp q8⟩
      · have c9 : ¬ (8 : Int32) ≤ nI a := fun z => a9 ((nI_leI (a := 8) (b := a) (by omega) (by omega)).mp z)
        rw [if_neg c9, if_neg c8, if_neg c9, if_pos hip, if_pos hip, klet_e, klet_e, nI_1, tp]
        have sr : sameR σ (kup σ 8 p (nI a)) := fun r hr => kup_ne (by omega)
        have sp : sameP P τ (kup τ 2 p (nI a)) := sameP_up (by omega) hp
        have g20 : (kup σ 8 p (nI a)) 20 = σ 20 := kup_ne (by omega)
        obtain ⟨s', t', B', q1, q2, q3, q4, q5, q6, q7, q8⟩ := ih (x + 1) f g (nup B 2 p a) (kup σ 8 p (nI a)) (kup τ 2 p (nI a)) (by omega) (by omega) (by omega) (rX_up (q := 2) h1 (by omega) (by omega)) (rM_up (q := 2) h2 (by omega) (by omega)) (ok_up ok (by omega) (by omega)) ((nup_02 (by omega)).trans hB) (ns sr sp) (nx sr) (by rw [g20]; exact hw)
        rw [g20] at q2
        exact ⟨s', t', B', q1, q2, q3, q4, q5, q6, sameR_tr sr q7, sameP_tr sp q8⟩
