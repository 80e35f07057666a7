/-! MOOR: the reference's reading of a text -/
def FR (τ τ' : kS) : Prop := (∀ j, j ≠ 9 → j ≠ 10 → τ' 0 j = τ 0 j) ∧ ∀ q, (1 ≤ q ∧ q < 5) ∨ 8 < q → τ' q = τ q
theorem FR_rf {τ : kS} : FR τ τ := ⟨fun _ _ _ => rfl, fun _ _ => rfl⟩
theorem FR_tr {a b c : kS} (h : FR a b) (h2 : FR b c) : FR a c := ⟨fun j a1 a2 => (h2.1 j a1 a2).trans (h.1 j a1 a2), fun q hq => (h2.2 q hq).trans (h.2 q hq)⟩
theorem FR_9 {τ : kS} {x : Int32} : FR τ (kup τ 0 9 x) := ⟨fun j a _ => kup_k a, fun q hq => kup_ne (by omega)⟩
theorem kup99 {τ : kS} {x : Int32} : kup τ 0 9 x 0 9 = x := kup_at
/-- the code at a place of the text, or none behind it -/
theorem m_code {τ : kS} {t : Nat → Int32} {b n : Nat} (hb : b + n ≤ 240) (ht : ∀ x, x < n → τ 19 (b + x) = t x) {x : Nat} (hx : x ≤ n) (h9 : τ 0 9 = nI x) : fX5_codeAt (nI b) (nI n) τ = some (if x = n then -9 else t x, τ) := by
  unfold fX5_codeAt
  rw [h9]
  by_cases c : x = n
  · rw [if_pos c, if_pos (by rw [c]; exact Int32.le_refl _)]
  · have ii : inb (nI (b + x)) 240 := inb_lit (by omega) (by decide)
    have e : (nI (b + x)).toNatClampNeg = b + x := nI_clamp (by omega)
    rw [if_neg c, if_neg (fun z => by have := (nI_leI (by omega) (by omega)).mp z; omega), nI_add, if_pos ii, show τ 19 (nI (b + x)).toNatClampNeg = τ 19 (b + x) by rw [e], ht x (by omega)]
theorem m_fig {τ : kS} {t : Nat → Int32} {b n : Nat} (hb : b + n ≤ 240) (ht : ∀ x, x < n → τ 19 (b + x) = t x) {x : Nat} (hx : x ≤ n) (h9 : τ 0 9 = nI x) {a3 : Int32} (ha : 0 ≤ a3) (K : Nat) (hK : K < 2 ^ 31) (m : Int32) (em : m.toInt64 = lN K) : (x < n ∧ dgt (t x) (K + 1) ∧ fX5_figure (nI b) (nI n) a3 m τ = some (nI (dg (t x)), kup τ 0 9 (nI (x + 1)))) ∨ ((x = n ∨ ¬ dgt (t x) (K + 1)) ∧ fX5_figure (nI b) (nI n) a3 m τ = some (-9, τ)) := by
  have same : kup τ 0 9 (nI x) = τ := by rw [← h9, kup_same]
  unfold fX5_figure
  rw [if_pos ha, m_code hb ht hx h9, kbi_s]
  unfold fX5_figure_J18
  by_cases c : x = n
  · rw [if_pos c, m_in0 _ 0 K (by left; decide) (by decide) hK _ 0 _ rfl em, kbi_s, if_pos rfl, if_pos rfl, h9, i_add0, same]
    exact Or.inr ⟨Or.inl c, rfl⟩
  · rw [if_neg c]
    by_cases d : 0 ≤ (t x - 48).toInt ∧ (t x - 48).toInt ≤ K
    · have hv : t x - 48 = nI (t x - 48).toInt.toNat := by
        apply Int32.toInt_inj.mp
        rw [nI_toInt (by omega)]
        omega
      have hd : dgt (t x) (K + 1) := ⟨_, by omega, hv⟩
      have e2 : t x - 48 = nI (dg (t x)) := by
        unfold dg
        rw [hv, nI_clamp (by omega)]
      have hlt : dg (t x) < K + 1 := by
        have : dg (t x) = (t x - 48).toInt.toNat := by
          unfold dg
          rw [hv, nI_clamp (by omega), nI_toInt (by omega)]
          rfl
        omega
      refine Or.inl ⟨by omega, hd, ?_⟩
      rw [e2, m_in1 (dg (t x)) 0 K (by omega) hK _ 0 _ rfl em, kbi_s, if_neg one_ne, if_neg one_ne, h9, nI_1]
    · refine Or.inr ⟨Or.inr (fun ⟨v, z1, z2⟩ => d ?_), ?_⟩
      · rw [z2, nI_toInt (by omega)]
        omega
      · rw [m_in0 _ 0 K (by omega) (by decide) hK _ 0 _ rfl em, kbi_s, if_pos rfl, if_pos rfl, h9, i_add0, same]
theorem m_figN {τ : kS} {b n a3 : Int32} (ha : ¬ 0 ≤ a3) (K : Nat) (hK : K < 2 ^ 31) (m : Int32) (em : m.toInt64 = lN K) : fX5_figure b n a3 m τ = some (-9, τ) := by
  unfold fX5_figure
  rw [if_neg ha]
  unfold fX5_figure_J18
  rw [m_in0 _ 0 K (by left; decide) (by decide) hK _ 0 _ rfl em, kbi_s, if_pos rfl, if_pos rfl, i_add0, kup_same]
theorem m_J133 {τ : kS} {p : Nat} (hp : p < 6) (h10 : τ 0 10 = nI p) (a4 a5 a6 g : Int32) : fX5_readsPerson_J133 a4 a5 a6 g (τ 0 10) τ = some (if a6 < 0 then 0 else 1, kup (kup (kup (kup (kup τ 5 p g) 6 p a4) 7 p a5) 8 p a6) 0 10 (nI (p + 1))) := by
  have ip : inb (nI p) 6 := inb_lit (by omega) (by decide)
  have e : (nI p).toNatClampNeg = p := nI_clamp (by omega)
  have z : ∀ (ρ : kS) (q : Nat) (v : Int32), q ≠ 0 → kup ρ q p v 0 10 = ρ 0 10 := fun ρ q v hq => kup_q (by omega)
  unfold fX5_readsPerson_J133
  simp only [h10, e, z _ 5 _ (by omega), z _ 6 _ (by omega), z _ 7 _ (by omega), z _ 8 _ (by omega), if_pos ip, nI_1]
  by_cases c : a6 < 0
  · rw [if_pos c, if_pos c]
  · rw [if_neg c, if_neg c]
/-- what is written of one person -/
def ent (t : Nat → Int32) (P : Nat) (τ : kS) (p : Nat) : Prop := τ 5 p = nI (tA t P 1 p) ∧ τ 6 p = nI (tA t P 2 p) ∧ τ 7 p = nI (tA t P 3 p) ∧ τ 8 p = nI (tA t P 4 p)
theorem n9 : ((-9) : Int32) < 0 := by decide
theorem n9' : ¬ (0 : Int32) ≤ -9 := by decide
theorem gwd {x K : Nat} {c : Int32} (h33 : x < 33) (h3 : 3 ≤ x) (hK : ((x - 3) % 5 = 4 ∧ K = 10) ∨ (((x - 3) % 5 = 2 ∨ (x - 3) % 5 = 3) ∧ K = 8)) : gw x c ↔ dgt c K := by
  unfold gw
  rw [if_pos h33, if_neg (by omega), if_neg (by omega), if_neg (by omega)]
  rcases hK with ⟨h, rfl⟩ | ⟨h, rfl⟩
  · rw [if_pos h]
  · rw [if_neg (by omega)]
theorem bad_at {n : Nat} {t : Nat → Int32} {x : Nat} (hx : x ≤ n) (hG : G t x) (h : x = n ∨ ¬ gw x (t x)) (h2 : n < 13 ∨ (x - 3) % 5 ≠ 0 ∨ x < n) : Bad n t x := by
  refine ⟨hx, hG, ?_⟩
  by_cases c : x = n
  · exact Or.inr ⟨c, by omega⟩
  · rcases h with h | h
    · exact absurd h c
    · exact Or.inl ⟨by omega, h⟩
/-- the three figures of a person, and what is written of it -/
theorem m_J59 {t : Nat → Int32} {b n P p : Nat} (hb : b + n ≤ 240) (hp : p < 6) {τ : kS} (ht : ∀ x, x < n → τ 19 (b + x) = t x) (h9 : τ 0 9 = nI (3 + 5 * p + 1)) (h10 : τ 0 10 = nI p) (hG : G t (3 + 5 * p + 2)) (hn : 3 + 5 * p + 2 ≤ n) (g : Int32) (hg : g = t (3 + 5 * p + 1)) (hg3 : g = 112 ∨ g = 114 ∨ g = 107) :
    ∃ r τ', fX5_readsPerson_J59 (nI b) (nI n) g τ = some (r, τ') ∧ FR τ τ' ∧ (∀ q j, 5 ≤ q → j < p → τ' q j = τ q j) ∧ ((r = 1 ∧ 3 + 5 * (p + 1) ≤ n ∧ G t (3 + 5 * (p + 1)) ∧ τ' 0 9 = nI (3 + 5 * (p + 1)) ∧ τ' 0 10 = nI (p + 1) ∧ ent t P τ' p) ∨ (r = 0 ∧ ∃ y, Bad n t y ∧ τ' 0 9 = nI y)) := by
  have last : ∀ (r14 r17 r20 : Int32) (y : Nat), ∃ τ', (if g = 112 then fX5_readsPerson_J133 r14 r17 r20 0 (kup τ 0 9 (nI y) 0 10) (kup τ 0 9 (nI y)) else if g = 114 then fX5_readsPerson_J133 r14 r17 r20 1 (kup τ 0 9 (nI y) 0 10) (kup τ 0 9 (nI y)) else fX5_readsPerson_J133 r14 r17 r20 2 (kup τ 0 9 (nI y) 0 10) (kup τ 0 9 (nI y))) = some (if r20 < 0 then 0 else 1, τ') ∧ FR τ τ' ∧ (∀ q j, 5 ≤ q → j < p → τ' q j = τ q j) ∧ τ' 0 9 = nI y ∧ τ' 0 10 = nI (p + 1) ∧ τ' 5 p = nI (kd g) ∧ τ' 6 p = r14 ∧ τ' 7 p = r17 ∧ τ' 8 p = r20 := by
    intro r14 r17 r20 y
    have h10' : kup τ 0 9 (nI y) 0 10 = nI p := by rw [kup_k (by decide)]; exact h10
    refine ⟨kup (kup (kup (kup (kup (kup τ 0 9 (nI y)) 5 p (nI (kd g))) 6 p r14) 7 p r17) 8 p r20) 0 10 (nI (p + 1)), ?_, ⟨fun j j1 j2 => ?_, fun q hq => ?_⟩, fun q j hq hj => ?_, ?_, kup_at, ?_, ?_, ?_, ?_⟩
    · rw [m_J133 hp h10', m_J133 hp h10', m_J133 hp h10']
      rcases hg3 with rfl | rfl | rfl <;> rfl
    · rw [kup_k j2, kup_q (by omega), kup_q (by omega), kup_q (by omega), kup_q (by omega), kup_k j1]
    · rw [kup_ne (by omega), kup_ne (by omega), kup_ne (by omega), kup_ne (by omega), kup_ne (by omega), kup_ne (by omega)]
    · rw [kup_q (by omega), kup_k (by omega), kup_k (by omega), kup_k (by omega), kup_k (by omega), kup_q (by omega)]
    · rw [kup_k (by decide), kup_q (by omega), kup_q (by omega), kup_q (by omega), kup_q (by omega), kup_at]
    · rw [kup_q (by omega), kup_q (by omega), kup_q (by omega), kup_q (by omega), kup_at]
    · rw [kup_q (by omega), kup_q (by omega), kup_q (by omega), kup_at]
    · rw [kup_q (by omega), kup_q (by omega), kup_at]
    · rw [kup_q (by omega), kup_at]
  have t9 : ∀ (y x : Nat), x < n → kup τ 0 9 (nI y) 19 (b + x) = t x := fun y x hx => by rw [kup_q (by decide)]; exact ht x hx
  have nn : ∀ v : Nat, v < 2 ^ 31 → ¬ nI v < 0 := fun v hv => nI_pos hv
  have dd8 : ∀ x, dgt (t x) 8 → dg (t x) < 8 := fun x h => (dg_of (by decide) h).1
  unfold fX5_readsPerson_J59
  rw [h9, nI_1]
  rcases m_fig (x := 3 + 5 * p + 1 + 1) hb (t9 (3 + 5 * p + 1 + 1)) (by omega) kup99 (show (0 : Int32) ≤ 0 by decide) 7 (by decide) 7 rfl with ⟨a1, a2, a3⟩ | ⟨a1, a3⟩
  · rw [a3, kbi_s, kup_kup]
    have G3 : G t (3 + 5 * p + 3) := G_up hG ((gwd (by omega) (by omega) (by omega)).mpr a2)
    rcases m_fig (x := 3 + 5 * p + 1 + 1 + 1) hb (t9 (3 + 5 * p + 1 + 1 + 1)) (by omega) kup99 (nI_le0 (show dg (t (3 + 5 * p + 1 + 1)) < 2 ^ 31 by have := dd8 _ a2; omega)) 7 (by decide) 7 rfl with ⟨b1, b2, b3⟩ | ⟨b1, b3⟩
    · rw [b3, kbi_s, kup_kup]
      have G4 : G t (3 + 5 * p + 4) := G_up G3 ((gwd (by omega) (by omega) (by omega)).mpr b2)
      rcases m_fig (x := 3 + 5 * p + 1 + 1 + 1 + 1) hb (t9 (3 + 5 * p + 1 + 1 + 1 + 1)) (by omega) kup99 (nI_le0 (show dg (t (3 + 5 * p + 1 + 1 + 1)) < 2 ^ 31 by have := dd8 _ b2; omega)) 9 (by decide) 9 rfl with ⟨c1, c2, c3⟩ | ⟨c1, c3⟩
      · rw [c3, kbi_s, kup_kup]
        have G5 : G t (3 + 5 * p + 5) := G_up G4 ((gwd (by omega) (by omega) (by omega)).mpr c2)
        obtain ⟨t', f1, f2, f3, f4, f5, f6, f7, f8, f9⟩ := last (nI (dg (t (3 + 5 * p + 1 + 1)))) (nI (dg (t (3 + 5 * p + 1 + 1 + 1)))) (nI (dg (t (3 + 5 * p + 1 + 1 + 1 + 1)))) (3 + 5 * p + 1 + 1 + 1 + 1 + 1)
        refine ⟨_, t', f1, f2, f3, Or.inl ⟨?_, by omega, G5, f4, f5, ?_⟩⟩
        · rw [if_neg (nn _ (by have := (dg_of (by decide) c2).1; omega))]
        · refine ⟨?_, f7, f8, f9⟩
          rw [f6, hg]
          rfl
      · rw [c3, kbi_s]
        obtain ⟨t', f1, f2, f3, f4, f5, f6, f7, f8, f9⟩ := last (nI (dg (t (3 + 5 * p + 1 + 1)))) (nI (dg (t (3 + 5 * p + 1 + 1 + 1)))) (-9) (3 + 5 * p + 1 + 1 + 1 + 1)
        refine ⟨_, t', f1, f2, f3, Or.inr ⟨if_pos n9, _, ?_, f4⟩⟩
        refine bad_at (by omega) G4 ?_ (by omega)
        rcases c1 with c1 | c1
        · exact Or.inl c1
        · exact Or.inr (fun z => c1 ((gwd (by omega) (by omega) (by omega)).mp z))
    · rw [b3, kbi_s, m_figN n9' 9 (by decide) 9 rfl, kbi_s]
      obtain ⟨t', f1, f2, f3, f4, f5, f6, f7, f8, f9⟩ := last (nI (dg (t (3 + 5 * p + 1 + 1)))) (-9) (-9) (3 + 5 * p + 1 + 1 + 1)
      refine ⟨_, t', f1, f2, f3, Or.inr ⟨if_pos n9, _, ?_, f4⟩⟩
      refine bad_at (by omega) G3 ?_ (by omega)
      rcases b1 with b1 | b1
      · exact Or.inl b1
      · exact Or.inr (fun z => b1 ((gwd (by omega) (by omega) (by omega)).mp z))
  · rw [a3, kbi_s, m_figN n9' 7 (by decide) 7 rfl, kbi_s, m_figN n9' 9 (by decide) 9 rfl, kbi_s]
    obtain ⟨t', f1, f2, f3, f4, f5, f6, f7, f8, f9⟩ := last (-9) (-9) (-9) (3 + 5 * p + 1 + 1)
    refine ⟨_, t', f1, f2, f3, Or.inr ⟨if_pos n9, _, ?_, f4⟩⟩
    refine bad_at (by omega) hG ?_ (by omega)
    rcases a1 with a1 | a1
    · exact Or.inl a1
    · exact Or.inr (fun z => a1 ((gwd (by omega) (by omega) (by omega)).mp z))
theorem m_person {t : Nat → Int32} {b n P p : Nat} (hb : b + n ≤ 240) (hp : p < 6) {τ : kS} (ht : ∀ x, x < n → τ 19 (b + x) = t x) (h9 : τ 0 9 = nI (3 + 5 * p)) (h10 : τ 0 10 = nI p) (hG : G t (3 + 5 * p)) (hn : 3 + 5 * p ≤ n) (hn2 : n < 13 ∨ 3 + 5 * p < n) :
    ∃ r τ', fX5_readsPerson (nI b) (nI n) τ = some (r, τ') ∧ FR τ τ' ∧ (∀ q j, 5 ≤ q → j < p → τ' q j = τ q j) ∧ ((r = 1 ∧ 3 + 5 * (p + 1) ≤ n ∧ G t (3 + 5 * (p + 1)) ∧ τ' 0 9 = nI (3 + 5 * (p + 1)) ∧ τ' 0 10 = nI (p + 1) ∧ ent t P τ' p) ∨ (r = 0 ∧ ∃ y, Bad n t y ∧ τ' 0 9 = nI y)) := by
  have t9 : ∀ (y x : Nat), x < n → kup τ 0 9 (nI y) 19 (b + x) = t x := fun y x hx => by rw [kup_q (by decide)]; exact ht x hx
  unfold fX5_readsPerson
  rw [h10, if_neg (show ¬ nI p = (6 : Int32) from fun z => by have := (nI_eq (b := 6) (by omega) (by omega)).mp z; omega), m_code hb ht hn h9, kbi_s]
  by_cases c : 3 + 5 * p = n
  · rw [if_pos c, if_neg (by decide)]
    exact ⟨0, τ, rfl, FR_rf, fun _ _ _ _ => rfl, Or.inr ⟨rfl, _, bad_at hn hG (Or.inl c) (by omega), h9⟩⟩
  rw [if_neg c]
  by_cases d : ¬ t (3 + 5 * p) = 59
  · rw [if_neg d]
    refine ⟨0, τ, rfl, FR_rf, fun _ _ _ _ => rfl, Or.inr ⟨rfl, _, bad_at hn hG (Or.inr (fun z => d ?_)) (by omega), h9⟩⟩
    unfold gw at z
    rw [if_pos (by omega), if_neg (by omega), if_pos (by omega)] at z
    exact z
  have d := Classical.not_not.mp d
  have G1 : G t (3 + 5 * p + 1) := G_up hG (by
    unfold gw
    rw [if_pos (by omega), if_neg (by omega), if_pos (by omega)]
    exact d)
  rw [if_pos d, h9, nI_1, m_code hb (t9 (3 + 5 * p + 1)) (show 3 + 5 * p + 1 ≤ n by omega) kup99, kbi_s]
  have hgw : gw (3 + 5 * p + 1) (t (3 + 5 * p + 1)) ↔ (t (3 + 5 * p + 1) = 112 ∨ t (3 + 5 * p + 1) = 114 ∨ t (3 + 5 * p + 1) = 107) := by
    unfold gw
    rw [if_pos (by omega), if_neg (by omega), if_neg (by omega), if_pos (by omega)]
  have fr1 : ∀ {r : Int32} {τ' : kS}, FR (kup τ 0 9 (nI (3 + 5 * p + 1))) τ' → (∀ q j, 5 ≤ q → j < p → τ' q j = (kup τ 0 9 (nI (3 + 5 * p + 1))) q j) → FR τ τ' ∧ (∀ q j, 5 ≤ q → j < p → τ' q j = τ q j) := fun h h2 => ⟨FR_tr FR_9 h, fun q j hq hj => by rw [h2 q j hq hj, kup_q (by omega)]⟩
  by_cases c1 : 3 + 5 * p + 1 = n
  · rw [if_pos c1, if_neg (by decide), if_neg (by decide), if_neg (by decide)]
    obtain ⟨x1, x2⟩ := fr1 (r := 0) FR_rf (fun _ _ _ _ => rfl)
    exact ⟨0, _, rfl, x1, x2, Or.inr ⟨rfl, _, bad_at (by omega) G1 (Or.inl c1) (by omega), kup99⟩⟩
  rw [if_neg c1]
  have h10' : kup τ 0 9 (nI (3 + 5 * p + 1)) 0 10 = nI p := by rw [kup_k (by decide)]; exact h10
  by_cases z : t (3 + 5 * p + 1) = 112 ∨ t (3 + 5 * p + 1) = 114 ∨ t (3 + 5 * p + 1) = 107
  · obtain ⟨r, t', f1, f2, f3, f4⟩ := m_J59 (P := P) hb hp (t9 (3 + 5 * p + 1)) kup99 h10' (G_up G1 (hgw.mpr z)) (by omega) _ rfl z
    obtain ⟨x1, x2⟩ := fr1 (r := 0) f2 f3
    refine ⟨r, t', ?_, x1, x2, f4⟩
    by_cases z1 : t (3 + 5 * p + 1) = 112
    · rw [if_pos z1]; exact f1
    · rw [if_neg z1]
      by_cases z2 : t (3 + 5 * p + 1) = 114
      · rw [if_pos z2]; exact f1
      · rw [if_neg z2, if_pos (by rcases z with z | z | z <;> first | exact z | contradiction)]
        exact f1
  · rw [if_neg (fun y => z (Or.inl y)), if_neg (fun y => z (Or.inr (Or.inl y))), if_neg (fun y => z (Or.inr (Or.inr y)))]
    obtain ⟨x1, x2⟩ := fr1 (r := 0) FR_rf (fun _ _ _ _ => rfl)
    exact ⟨0, _, rfl, x1, x2, Or.inr ⟨rfl, _, bad_at (by omega) G1 (Or.inr (fun y => z (hgw.mp y))) (by omega), kup99⟩⟩
