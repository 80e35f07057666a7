theorem gd_all {P : Nat} (h1 : 1 ≤ P) (h6 : P ≤ 6) : gd P 719 (List.range P) = true := by
  rcases (show P = 1 ∨ P = 2 ∨ P = 3 ∨ P = 4 ∨ P = 5 ∨ P = 6 by omega) with rfl | rfl | rfl | rfl | rfl | rfl
  · exact gd_1
  · exact gd_2
  · exact gd_3
  · exact gd_4
  · exact gd_5
  · exact gd_6
theorem gd_ok {P n : Nat} {l : List Nat} (h : gd P n l = true) : okl P l = true := by
  cases n <;> simp only [gd, Bool.and_eq_true] at h <;> exact h.1
theorem okl_s {P : Nat} {l : List Nat} (h : okl P l = true) : l.length = P ∧ ∀ k, k < P → lf l k < P := by
  simp only [okl, Bool.and_eq_true, beq_iff_eq, List.all_eq_true, decide_eq_true_eq] at h
  refine ⟨h.1, fun k hk => ?_⟩
  have hk' : k < l.length := by omega
  unfold lf
  rw [List.getD_eq_getElem?_getD, List.getElem?_eq_getElem hk']
  exact h.2 _ (List.getElem_mem hk')
theorem row_l {q P : Nat} {σ : kS} {r : Nat → Nat} (h : rowIs q P σ r) : rowIs q P σ (lf ((List.range P).map r)) := by
  intro k hk
  have e : lf ((List.range P).map r) k = r k := by
    unfold lf
    rw [List.getD_eq_getElem?_getD, List.getElem?_map, List.getElem?_range hk]
    rfl
  rw [e]
  exact h k hk
theorem row_id {q P : Nat} {σ : kS} (hP : P ≤ 6) (h : ∀ k, k < P → σ q k = nI k) : rowIs q P σ (lf (List.range P)) := by
  intro k hk
  have e : lf (List.range P) k = k := by
    unfold lf
    rw [List.getD_eq_getElem?_getD, List.getElem?_range hk]
    rfl
  rw [e]
  exact ⟨h k hk, by omega⟩
theorem drop_l {l : List Nat} {k : Nat} (hk : k < l.length) : l.drop k = lf l k :: l.drop (k + 1) := by
  rw [List.drop_eq_getElem_cons hk]
  congr 1
  unfold lf
  rw [List.getD_eq_getElem?_getD, List.getElem?_eq_getElem hk]
  rfl
-- how many come
def tgo (A : kN) (s p : Nat) : Option Nat := if bS s p = true then some p else go A p
def cs (A : kN) : List Nat → Nat → Nat
  | [], _ => 0
  | p :: t, s => (if tgo A s p = some p then 1 else 0) + cs A t (orN s (tgo A s p))
theorem cs_le (A : kN) : ∀ (l : List Nat) (s : Nat), cs A l s ≤ l.length
  | [], _ => Nat.le_refl 0
  | p :: t, s => by
    have := cs_le A t (orN s (tgo A s p))
    simp only [cs, List.length_cons]
    split <;> omega
theorem tgo_lt {A : kN} {s p : Nat} (hp : p < A 0 2) : ∀ q, tgo A s p = some q → q < A 0 2 := by
  intro q h
  unfold tgo at h
  split at h
  · cases h; exact hp
  · exact go_lt h
theorem x_comingL {A : kN} {l : List Nat} {σ : kS} (ok : okA A) (h0 : σ 1 2 = nI (A 0 2)) (hl : l.length = A 0 2) (hlt : ∀ k, k < A 0 2 → lf l k < A 0 2) (hr : rowIs 24 (A 0 2) σ (lf l)) (hg : ∀ p, p < A 0 2 → σ 23 p = enc (go A p)) : ∀ (m k f s c : Nat), k + m = A 0 2 → m < f → s < 64 → fX4_comingInTriedOrder_L6 f (nI s) (nI c) (nI k) σ = some (nI (c + cs A (l.drop k) s), σ) := by
  have o := ok.2.2.1
  intro m
  induction m with
  | zero =>
    intro k f s c hk hf hs
    obtain ⟨f, rfl⟩ : ∃ j, f = j + 1 := ⟨f - 1, by omega⟩
    rw [fX4_comingInTriedOrder_L6, if_pos (by rw [h0, nI_leI (by omega) (by omega)]; omega), List.drop_of_length_le (by omega)]
    rfl
  | succ m ih =>
    intro k f s c hk hf hs
    obtain ⟨f, rfl⟩ : ∃ j, f = j + 1 := ⟨f - 1, by omega⟩
    have hk2 : k < A 0 2 := by omega
    have hp := hlt k hk2
    have b1 : inb (nI k) 6 := inb_lit (by omega) (by decide)
    have e1 : (nI k).toNatClampNeg = k := nI_clamp (by omega)
    have b2 : inb (nI (lf l k)) 6 := inb_lit (by omega) (by decide)
    have e2 : (nI (lf l k)).toNatClampNeg = lf l k := nI_clamp (by omega)
    rw [fX4_comingInTriedOrder_L6, if_neg (by rw [h0, nI_leI (by omega) (by omega)]; omega), if_pos b1, klet_e, e1, (hr k hk2).1, x_contains hs (by omega), kbi_s, drop_l (by omega)]
    have ht := tgo_lt (A := A) (s := s) hp
    have ht6 : ∀ q, tgo A s (lf l k) = some q → q < 6 := fun q hq => by have := ht q hq; omega
    have key : fX4_comingInTriedOrder_J46 (fX4_comingInTriedOrder_L6 f) (nI s) (nI c) (nI k) (nI (lf l k)) (enc (tgo A s (lf l k))) σ = some (nI (c + cs A (lf l k :: l.drop (k + 1)) s), σ) := by
      have hij : enc (tgo A s (lf l k)) = nI (lf l k) ↔ tgo A s (lf l k) = some (lf l k) := enc_inj (t := some (lf l k)) ht6 (fun b hb => by cases hb; omega)
      unfold fX4_comingInTriedOrder_J46
      by_cases d : tgo A s (lf l k) = some (lf l k)
      · rw [if_pos (hij.mpr d), klet_e, x_with ht6, kbi_s, klet_e, nI_1, nI_1, orN_I hs ht6, ih (k + 1) f _ (c + 1) (by omega) (by omega) (orN_64 hs ht6)]
        simp only [cs, if_pos d]
        rw [Nat.add_assoc]
      · rw [if_neg (fun z => d (hij.mp z)), x_with ht6, kbi_s, klet_e, nI_1, orN_I hs ht6, ih (k + 1) f _ c (by omega) (by omega) (orN_64 hs ht6)]
        simp only [cs, if_neg d, Nat.zero_add]
    unfold tgo at key
    by_cases g : bS s (lf l k) = true
    · rw [if_pos g, if_neg one_ne]
      rw [if_pos g] at key
      exact key
    · rw [if_neg g, if_pos rfl, if_pos b2, e2, hg _ hp]
      rw [if_neg g] at key
      exact key
theorem x_coming {A : kN} {l : List Nat} {σ : kS} (ok : okA A) (h0 : σ 1 2 = nI (A 0 2)) (hl : l.length = A 0 2) (hlt : ∀ k, k < A 0 2 → lf l k < A 0 2) (hr : rowIs 24 (A 0 2) σ (lf l)) (hg : ∀ p, p < A 0 2 → σ 23 p = enc (go A p)) : fX4_comingInTriedOrder σ = some (nI (cs A l 0), σ) := by
  have o := ok.2.2.1
  have := x_comingL ok h0 hl hlt hr hg (A 0 2) 0 1000 0 0 (by omega) (by omega) (by omega)
  rw [Nat.zero_add] at this
  exact this
def upA (B : kN) (t : Option Nat) : kN := match t with | none => B | some q => nup B 3 q (B 2 q)
theorem sdA_up (B : kN) (p : Nat) : sdA B p = upA B (go B p) := by
  unfold sdA upA
  cases go B p <;> rfl
theorem mA_or {A : kN} {s : Nat} (hs : s < 64) {t : Option Nat} (ht : ∀ q, t = some q → q < 6) : upA (mA A (bS s)) t = mA A (bS (orN s t)) := by
  cases t with
  | none => rfl
  | some q =>
    have hq := ht q rfl
    funext q' k
    have e2 : ∀ S : Nat → Bool, mA A S 2 q = A 2 q := fun S => by simp [mA]
    by_cases c : q' = 3
    · subst c
      show nup (mA A (bS s)) 3 q (mA A (bS s) 2 q) 3 k = mA A (bS (orN s (some q))) 3 k
      rw [e2]
      by_cases hk : k < 6
      · have hb := orN_b (t := some q) hs ht hk
        by_cases d : k = q
        · subst d
          rw [show decide (some k = some k) = true by simp, Bool.or_true] at hb
          simp [nup, mA, hb]
        · have d2 : ¬ q = k := fun z => d z.symm
          rw [show decide (some q = some k) = false by simp [d2], Bool.or_false] at hb
          simp [nup, mA, hb, d]
      · have h1 : bS s k = false := by
          cases h : bS s k with
          | false => rfl
          | true => exact absurd (bS_lt hs h) hk
        have h2 : bS (orN s (some q)) k = false := by
          cases h : bS (orN s (some q)) k with
          | false => rfl
          | true => exact absurd (bS_lt (orN_64 hs ht) h) hk
        have d : ¬ k = q := by omega
        simp [nup, mA, h1, h2, d]
    · show nup (mA A (bS s)) 3 q (mA A (bS s) 2 q) q' k = mA A (bS (orN s (some q))) q' k
      simp [nup, mA, c]
theorem m_comingL {A : kN} {l : List Nat} (ok : okA A) (hl : l.length = A 0 2) (hlt : ∀ k, k < A 0 2 → lf l k < A 0 2) : ∀ (m k f s c : Nat) (τ : kS), k + m = A 0 2 → m < f → s < 64 → subW A s → rM τ (mA A (bS s)) → rowIs 12 (A 0 2) τ (lf l) → ∃ τ', fX5_comeInOrder_L4 f (nI c) (nI k) τ = (kbv (fX5_bringBack τ') fun σ3 => some (nI (c + cs A (l.drop k) s), σ3)) ∧ sameP (A 0 2) τ τ' := by
  have o := ok.2.2.1
  intro m
  induction m with
  | zero =>
    intro k f s c τ hk hf hs hsub h hr
    obtain ⟨f, rfl⟩ : ∃ j, f = j + 1 := ⟨f - 1, by omega⟩
    have h0 : τ 0 1 = nI (A 0 2) := by rw [h.1.2.2]; simp [mA]
    rw [fX5_comeInOrder_L4, if_pos (by rw [h0, nI_leI (by omega) (by omega)]; omega), List.drop_of_length_le (by omega)]
    exact ⟨τ, rfl, fun _ _ _ => rfl⟩
  | succ m ih =>
    intro k f s c τ hk hf hs hsub h hr
    obtain ⟨f, rfl⟩ : ∃ j, f = j + 1 := ⟨f - 1, by omega⟩
    have h0 : τ 0 1 = nI (A 0 2) := by rw [h.1.2.2]; simp [mA]
    have hk2 : k < A 0 2 := by omega
    have hp := hlt k hk2
    have b1 : inb (nI k) 6 := inb_lit (by omega) (by decide)
    have e1 : (nI k).toNatClampNeg = k := nI_clamp (by omega)
    have okm := ok_mA (bS s) ok
    have eP : mA A (bS s) 0 2 = A 0 2 := by simp [mA]
    have hgo : go (mA A (bS s)) (lf l k) = tgo A s (lf l k) := go_mA ok hp hsub
    have ht := tgo_lt (A := A) (s := s) hp
    have ht6 : ∀ q, tgo A s (lf l k) = some q → q < 6 := fun q hq => by have := ht q hq; omega
    rw [fX5_comeInOrder_L4, if_neg (by rw [h0, nI_leI (by omega) (by omega)]; omega), if_pos b1, show τ 12 (nI k).toNatClampNeg = nI (lf l k) by rw [e1]; exact (hr k hk2).1, m_sent h okm (by rw [eP]; exact hp), kbi_s, if_pos b1]
    have sp : sameP (A 0 2) τ (sdM τ (mA A (bS s)) (lf l k)) := by rw [← eP]; exact sameP_sd
    have e12 : ∀ j, (sdM τ (mA A (bS s)) (lf l k)) 12 j = τ 12 j := fun j => sp 12 j (by omega)
    rw [show (sdM τ (mA A (bS s)) (lf l k)) 12 (nI k).toNatClampNeg = nI (lf l k) by rw [e1, e12]; exact (hr k hk2).1, hgo, drop_l (by omega)]
    have hr2 : rowIs 12 (A 0 2) (sdM τ (mA A (bS s)) (lf l k)) (lf l) := fun j hj => by rw [e12]; exact hr j hj
    have hsub2 : subW A (orN s (tgo A s (lf l k))) := by
      intro j hj
      have hj6 := bS_lt (orN_64 hs ht6) hj
      rw [orN_b hs ht6 hj6, Bool.or_eq_true, decide_eq_true_eq] at hj
      rcases hj with hj | hj
      · exact hsub j hj
      · unfold tgo at hj
        by_cases z : bS s (lf l k) = true
        · rw [if_pos z] at hj; cases hj; exact hsub _ z
        · rw [if_neg z] at hj; exact ⟨_, hp, hj⟩
    have hM2 : rM (sdM τ (mA A (bS s)) (lf l k)) (mA A (bS (orN s (tgo A s (lf l k))))) := by
      have h9 := rM_sd (p := lf l k) h
      rw [sdA_up, hgo, mA_or hs ht6] at h9
      exact h9
    have hij : enc (tgo A s (lf l k)) = nI (lf l k) ↔ tgo A s (lf l k) = some (lf l k) := enc_inj (t := some (lf l k)) ht6 (fun b hb => by cases hb; omega)
    by_cases d : tgo A s (lf l k) = some (lf l k)
    · rw [if_pos (hij.mpr d), klet_e, klet_e, nI_1, nI_1]
      obtain ⟨t', f1, f2⟩ := ih (k + 1) f (orN s (tgo A s (lf l k))) (c + 1) _ (by omega) (by omega) (orN_64 hs ht6) hsub2 hM2 hr2
      refine ⟨t', ?_, sameP_tr sp f2⟩
      rw [f1]
      have e5 : cs A (lf l k :: l.drop (k + 1)) s = 1 + cs A (l.drop (k + 1)) (orN s (tgo A s (lf l k))) := by
        show (if tgo A s (lf l k) = some (lf l k) then 1 else 0) + _ = _
        rw [if_pos d]
      rw [e5, ← Nat.add_assoc]
    · rw [if_neg (fun z => d (hij.mp z)), klet_e, klet_e, nI_1, i_add0]
      obtain ⟨t', f1, f2⟩ := ih (k + 1) f (orN s (tgo A s (lf l k))) c _ (by omega) (by omega) (orN_64 hs ht6) hsub2 hM2 hr2
      refine ⟨t', ?_, sameP_tr sp f2⟩
      rw [f1]
      have e5 : cs A (lf l k :: l.drop (k + 1)) s = 0 + cs A (l.drop (k + 1)) (orN s (tgo A s (lf l k))) := by
        show (if tgo A s (lf l k) = some (lf l k) then 1 else 0) + _ = _
        rw [if_neg d]
      rw [e5, Nat.zero_add]
