/-! MOOR: both sides -/
theorem m_takeL {B : kN} {P : Nat} (hP : P ≤ 6) : ∀ (m p f : Nat) (τ : kS), p + m = P → m < f → τ 0 1 = nI P → (∀ j, j < P → τ 5 j = nI (B 1 j) ∧ τ 6 j = nI (B 2 j) ∧ τ 7 j = nI (B 3 j) ∧ τ 8 j = nI (B 4 j)) → ∃ τ', fX5_moor_L111 f (nI p) τ = some (nI P, kup (kup τ' 0 23 0) 0 0 0) ∧ (∀ q, q < 1 ∨ 4 < q → τ' q = τ q) ∧ (∀ j, p ≤ j → j < P → τ' 1 j = nI (B 1 j) ∧ τ' 2 j = nI (B 2 j) ∧ τ' 3 j = nI (B 3 j) ∧ τ' 4 j = nI (B 4 j)) ∧ (∀ q j, j < p → τ' q j = τ q j) := by
  intro m
  induction m with
  | zero =>
    intro p f τ hp hf h1 hB
    obtain ⟨f, rfl⟩ : ∃ j, f = j + 1 := ⟨f - 1, by omega⟩
    refine ⟨τ, ?_, fun _ _ => rfl, fun j a b => by omega, fun _ _ _ => rfl⟩
    have e : ∀ (x : Int32) (τ : kS), fX5_refused x τ = some (x, kup τ 0 0 0) := fun x τ => rfl
    rw [fX5_moor_L111, if_pos (by rw [h1, nI_leI (by omega) (by omega)]; omega), e, kbi_s, kup_k (by decide), h1]
  | succ m ih =>
    intro p f τ hp hf h1 hB
    obtain ⟨f, rfl⟩ : ∃ j, f = j + 1 := ⟨f - 1, by omega⟩
    have ip : inb (nI p) 6 := inb_lit (by omega) (by decide)
    have e : (nI p).toNatClampNeg = p := nI_clamp (by omega)
    obtain ⟨b1, b2, b3, b4⟩ := hB p (by omega)
    have kq : ∀ (ρ : kS) (a y q : Nat) (v : Int32), a < 5 → 5 ≤ q → kup ρ a y v q = ρ q := fun ρ a y q v ha hq => kup_ne (by omega)
    rw [fX5_moor_L111, if_neg (by rw [h1, nI_leI (by omega) (by omega)]; omega), if_pos ip, if_pos ip, if_pos ip, if_pos ip, if_pos ip, if_pos ip, if_pos ip, if_pos ip, klet_e, nI_1]
    simp only [e, kq _ 1 _ 6 _ (by omega) (by omega), kq _ 2 _ 7 _ (by omega) (by omega), kq _ 1 _ 7 _ (by omega) (by omega), kq _ 3 _ 8 _ (by omega) (by omega), kq _ 2 _ 8 _ (by omega) (by omega), kq _ 1 _ 8 _ (by omega) (by omega), b1, b2, b3, b4]
    obtain ⟨t', f1, f2, f3, f4⟩ := ih (p + 1) f (kup (kup (kup (kup τ 1 p (nI (B 1 p))) 2 p (nI (B 2 p))) 3 p (nI (B 3 p))) 4 p (nI (B 4 p))) (by omega) (by omega) (by
      rw [kup_q (by decide), kup_q (by decide), kup_q (by decide), kup_q (by decide)]; exact h1) (fun j hj => by
      rw [kup_q (by omega), kup_q (by omega), kup_q (by omega), kup_q (by omega), kup_q (by omega), kup_q (by omega), kup_q (by omega), kup_q (by omega), kup_q (by omega), kup_q (by omega), kup_q (by omega), kup_q (by omega), kup_q (by omega), kup_q (by omega), kup_q (by omega), kup_q (by omega)]
      exact hB j hj)
    refine ⟨t', f1, fun q hq => ?_, fun j a b => ?_, fun q j a => ?_⟩
    · rw [f2 q hq, kup_ne (by omega), kup_ne (by omega), kup_ne (by omega), kup_ne (by omega)]
    · by_cases d : j = p
      · subst d
        rw [f4 1 j (by omega), f4 2 j (by omega), f4 3 j (by omega), f4 4 j (by omega)]
        refine ⟨?_, ?_, ?_, ?_⟩
        · rw [kup_q (by decide), kup_q (by decide), kup_q (by decide)]; exact kup_at
        · rw [kup_q (by decide), kup_q (by decide)]; exact kup_at
        · rw [kup_q (by decide)]; exact kup_at
        · exact kup_at
      · exact f3 j (by omega) b
    · rw [f4 q j (by omega), kup_k (by omega), kup_k (by omega), kup_k (by omega), kup_k (by omega)]
theorem x_fill {t : Nat → Int32} {P n i k : Nat} (hP : P ≤ 6) (h2 : 2 ≤ P) (hn : n = 3 + 5 * P) (hG : G t n) (hi : i + n ≤ 60) (hk : k < 4) {σ : kS} (ht : ∀ x, x < n → σ (12 + k + 4) (i + x) = t x) : ∃ σ', fX3_fill 1 (12 + k + 4) (nI i) (nI n) σ = some σ' ∧ (∀ q, q < 1 ∨ 5 < q → σ' q = σ q) ∧ rX 1 σ' (tA t P) := by
  have ok := tA_ok hP hn hG
  have h1 := hG 1 (by omega)
  have hh2 := hG 2 (by omega)
  unfold gw at h1 hh2
  rw [if_pos (by omega), if_pos (by omega), if_neg (by omega), if_pos rfl] at h1
  rw [if_pos (by omega), if_pos (by omega), if_neg (by omega), if_neg (by omega)] at hh2
  have d1 := (dg_of (by decide) h1).2
  have d2 := (dg_of (by decide) hh2).2
  have e1 : nI i + 1 = nI (i + 1) := nI_add i 1
  have e2 : nI i + 2 = nI (i + 2) := nI_add i 2
  have i1 : inb (nI (i + 1)) 60 := inb_lit (by omega) (by decide)
  have i2 : inb (nI (i + 2)) 60 := inb_lit (by omega) (by decide)
  have c1 : (nI (i + 1)).toNatClampNeg = i + 1 := nI_clamp (by omega)
  have c2 : (nI (i + 2)).toNatClampNeg = i + 2 := nI_clamp (by omega)
  have ed : ∀ P, P ≤ 6 → (nI (3 + 5 * P) - 3) / 5 = nI P := by decide +kernel
  have w1 : σ (12 + k + 4) (nI (i + 1)).toNatClampNeg - 48 = nI (dg (t 1)) := by rw [c1, ht 1 (by omega), d1]
  have w2 : ∀ v, (kup σ 1 0 v) (12 + k + 4) (nI (i + 2)).toNatClampNeg - 48 = nI (dg (t 2)) := fun v => by rw [c2, kup_ne (by omega), ht 2 (by omega), d2]
  unfold fX3_fill
  rw [e1, e2, if_pos i1, if_pos i2, w2, w1, show (nI n - 3) / 5 = nI P by rw [hn]; exact ed P hP]
  obtain ⟨s', f1, f2, f3, -⟩ := x_fillL (k := k) hP hn hG hi hk P 0 1000 (kup (kup (kup σ 1 0 (nI (dg (t 1)))) 1 1 (nI (dg (t 2)))) 1 2 (nI P)) (by omega) (by omega) kup_at (fun x hx => by
    rw [kup_q (by omega), kup_q (by omega), kup_q (by omega)]; exact ht x hx)
  refine ⟨s', f1, fun q hq => by rw [f2 q (by omega), kup_ne (by omega), kup_ne (by omega), kup_ne (by omega)], ⟨⟨?_, ?_, ?_⟩, fun p hp => f3 p (by omega) hp⟩⟩
  · rw [f2 1 (by omega), kup_k (by decide), kup_k (by decide), kup_at]; rfl
  · rw [f2 1 (by omega), kup_k (by decide), kup_at]; rfl
  · rw [f2 1 (by omega), kup_at]; rfl
theorem c_moor (a b c d : Int32) : RI (fX4_moor a b c d) (fX5_moor a b c d) := by
  intro σ τ h
  have ⟨A, hA⟩ := h
  have hA0 := RA_0x hA 0
  have er : ∀ (x : Int32) (τ : kS), fX5_refused x τ = some (x, kup τ 0 0 0) := fun x τ => rfl
  have eg : ∀ (x : Int32), fX4_faulted x (kup σ 0 12 0) = some ((-10) - x, kup σ 0 12 x) := fun x => by unfold fX4_faulted; rw [kup_kup]
  have jb : ∀ (q : Nat) (x : Int32), x ≠ 0 → fX4_moor_J73 c d q x (kup σ 0 12 0) = some ((-10) - x, kup σ 0 12 x) := fun q x hx => by
    unfold fX4_moor_J73
    rw [if_neg hx, eg, kbi_s]
  unfold fX4_moor fX5_moor
  rcases s_cases (kup σ 0 12 0) τ a with ⟨k, hk, rfl, e1, e2⟩ | ⟨e1, e2⟩
  · rw [e1, kbi_s, if_neg one_ne, e2, kbi_s, if_pos rfl]
    rcases rng_cases b 3 (by decide) with ⟨l, hl, rfl⟩ | hl
    · rw [x_below1 3 hl (by decide) _ 3 rfl, kbi_s, if_neg one_ne, m_in1 l 0 2 (by omega) (by decide) _ 0 2 rfl rfl, kbi_s, if_neg one_ne]
      have hi : inb (nI k) 4 := inb_lit (by omega) (by decide)
      have e : (nI k).toNatClampNeg = k := nI_clamp (by omega)
      have g0 : (kup σ 0 12 0) (12 + k) = σ (12 + k) := kup_ne (by omega)
      rw [if_pos hi, show 12 + (nI k).toNatClampNeg = 12 + k by rw [e]]
      rcases hA.2.2.2.1 k hk with ⟨s1, s2⟩ | ⟨s1, N, l', hN, hl', s2, s3, s4, s5, s6⟩
      · have ef : fX1_faultAs (12 + k) (nI l) (kup σ 0 12 0) = some (1, kup σ 0 12 0) := by
          unfold fX1_faultAs
          rw [g0, if_pos s1]
        rw [ef, kbi_s, if_neg one_ne, if_neg one_ne, jb _ 1 one_ne, m_cb1 hk s2, kbi_s, if_neg (show ¬ (0 : Int32) ≤ -10 - 1 by decide)]
        exact ⟨_, _, _, rfl, rfl, A, RA_0x hA 1⟩
      · by_cases cl : l' = l
        · subst cl
          have ef : fX1_faultAs (12 + k) (nI l') (kup σ 0 12 0) = some (0, kup σ 0 12 0) := by
            unfold fX1_faultAs
            rw [g0, if_neg (show ¬ σ (12 + k) 0 = 0 by rw [s1]; decide), if_pos s4]
          rw [ef, kbi_s, if_pos rfl]
          by_cases cn : 0 ≤ d
          · have hy : ¬ lg_cmp d.toInt64 0 < 0 := by
              rw [lgc_lt, Int64.lt_iff_toInt_lt, Int32.toInt_toInt64, show (0 : Int64).toInt = 0 from rfl]
              rw [Int32.le_iff_toInt_le, show (0 : Int32).toInt = 0 from rfl] at cn
              omega
            rw [if_pos cn, if_pos rfl]
            rcases sp_cases (q := 12 + k) (σ := kup σ 0 12 0) hN (by rw [g0]; exact s2) τ c d with ⟨i, n, h1, rfl, rfl, p1, p2⟩ | ⟨p1, p2⟩
            · have e0 : (60 : Int32) * nI k + nI i = nI (60 * k + i) := by rw [lit_nI, pk_mul, nI_add]
              rw [p1, kbi_s, if_neg one_ne, m_cb0 hk hN s3 s5 hy p2, kbi_s, if_pos (show (0 : Int32) ≤ 0 by decide), e0]
              unfold fX4_moor_J73
              rw [if_pos rfl]
              have ts : ∀ x, x < n → τ 19 (60 * k + i + x) = σ (12 + k + 4) (i + x) := fun x hx => by
                rw [s6 (i + x) (by omega), Nat.add_assoc]
              have tx : ∀ x, x < n → (kup σ 0 12 0) (12 + k + 4) (i + x) = σ (12 + k + 4) (i + x) := fun x hx => kup_q (by omega)
              obtain ⟨r, t', f1, f2, f3⟩ := m_moorR (t := fun x => σ (12 + k + 4) (i + x)) (show 60 * k + i + n ≤ 240 by omega) ts
              rw [f1, kbi_s]
              have et : (fun x => (kup σ 0 12 0) (12 + k + 4) (i + x)) = fun x => σ (12 + k + 4) (i + x) := by
                funext x; exact kup_q (by omega)
              rcases f3 with ⟨rfl, ⟨P, P2, P6, hn, hG, g10, hB⟩, g15, g16⟩ | ⟨rfl, y, hy2, hy9⟩
              · have x1 : fX3_firstFault (12 + k + 4) (nI i) (nI n) (kup σ 0 12 0) = some (-9, kup σ 0 12 0) := x_ffOk (show i + n ≤ 60 by omega) (by rw [et]; exact hG) (by omega) (by omega) n 0 1000 (by omega) (by omega)
                obtain ⟨s', y1, y2, y3⟩ := x_fill (k := k) (t := fun x => σ (12 + k + 4) (i + x)) P6 P2 hn hG (show i + n ≤ 60 by omega) hk (σ := kup σ 0 12 0) tx
                have okT := tA_ok P6 hn hG
                rw [x1, kbi_s, if_pos rfl, y1, kbv_s, if_neg one_ne]
                obtain ⟨t3, z1, z2, z3, -⟩ := m_takeL (B := tA (fun x => σ (12 + k + 4) (i + x)) P) P6 P 0 1000 (kup (kup (kup (kup t' 0 1 (t' 0 10)) 0 2 ((kup t' 0 1 (t' 0 10)) 0 15)) 0 3 ((kup (kup t' 0 1 (t' 0 10)) 0 2 ((kup t' 0 1 (t' 0 10)) 0 15)) 0 16)) 0 4 0) (by omega) (by omega) (by
                  rw [kup_k (by decide), kup_k (by decide), kup_k (by decide), kup_at]; exact g10) (fun j hj => by
                  rw [kup_q (by decide), kup_q (by decide), kup_q (by decide), kup_q (by decide), kup_q (by decide), kup_q (by decide), kup_q (by decide), kup_q (by decide), kup_q (by decide), kup_q (by decide), kup_q (by decide), kup_q (by decide), kup_q (by decide), kup_q (by decide), kup_q (by decide), kup_q (by decide)]
                  exact hB j hj)
                have z1 : fX5_moor_L111 1000 0 _ = _ := z1
                have e8 : (kup (kup s' 0 9 0) 0 10 0) 1 2 = nI P := by
                  rw [kup_q (by decide), kup_q (by decide)]; exact y3.1.2.2
                have hc := hA.2.2.2.2.2
                rw [z1, e8]
                refine ⟨_, _, _, rfl, rfl, tA (fun x => σ (12 + k + 4) (i + x)) P, okT, rX_fr y3 (fun q a b => by rw [kup_ne (by omega), kup_ne (by omega)]), ⟨⟨?_, ?_, ?_⟩, fun p hp => ?_⟩, ?_, ⟨0, by omega, ?_, ?_, fun j hj => by omega⟩, ?_, ?_, ?_⟩
                · rw [kup_k (by decide), kup_k (by decide), z2 0 (by omega), kup_k (by decide), kup_k (by decide), kup_at, kup_k (by decide), g15]; rfl
                · rw [kup_k (by decide), kup_k (by decide), z2 0 (by omega), kup_k (by decide), kup_at, kup_k (by decide), kup_k (by decide), g16]; rfl
                · rw [kup_k (by decide), kup_k (by decide), z2 0 (by omega), kup_k (by decide), kup_k (by decide), kup_k (by decide), kup_at, g10]; rfl
                · rw [kup_q (by decide), kup_q (by decide), kup_q (by decide), kup_q (by decide), kup_q (by decide), kup_q (by decide), kup_q (by decide), kup_q (by decide)]
                  exact z3 p (by omega) hp
                · exact rS_fr hA.2.2.2.1 (fun q a b => by rw [kup_ne (by omega), kup_ne (by omega), y2 q (by omega), kup_ne (by omega)]) (fun q a b => by rw [kup_ne (by omega), kup_ne (by omega), z2 q (by omega), kup_ne (by omega), kup_ne (by omega), kup_ne (by omega), kup_ne (by omega), f2.2 q (by omega)])
                · rw [kup_k (by decide), kup_at]; rfl
                · rw [kup_k (by decide), kup_at]; rfl
                · rw [kup_at, kup_k (by decide), kup_k (by decide), z2 0 (by omega), kup_at]
                · rw [kup_k (by decide), kup_k (by decide), y2 0 (by omega), kup_k (by decide), kup_k (by decide), kup_k (by decide), z2 0 (by omega), kup_k (by decide), kup_k (by decide), kup_k (by decide), kup_k (by decide), f2.1 30 (by decide) (by decide) (by decide) (by decide)]
                  exact hc.2.1
                · rw [kup_k (by decide), kup_k (by decide), y2 0 (by omega), kup_at, kup_at]
              · have x1 : fX3_firstFault (12 + k + 4) (nI i) (nI n) (kup σ 0 12 0) = some (nI y, kup σ 0 12 0) := x_ffBad (show i + n ≤ 60 by omega) (by rw [et]; exact hy2) y 0 1000 (by omega) (by have := hy2.1; omega)
                rw [x1, kbi_s, if_neg (nI_ne9 (by have := hy2.1; omega)), if_pos rfl, er, kbi_s, hy9]
                refine ⟨_, _, _, rfl, rfl, A, RA_same hA0 sameX_rf ⟨fun j hj => ?_, fun q a b => ?_, fun q a b p _ => ?_⟩⟩
                · by_cases z : j = 0
                  · subst z; rw [kup_at, kup_at]
                  · rw [kup_k z, kup_k z, f2.1 j (by omega) (by omega) (by omega) (by omega)]
                · rw [kup_ne (by omega), kup_ne (by omega), f2.2 q (by omega)]
                · rw [kup_q (by omega), kup_q (by omega), f2.2 q (by omega)]
            · rw [p1, kbi_s, if_pos rfl, jb _ 3 (by decide), m_cb3 hk hN s3 s5 hy p2, kbi_s, if_neg (show ¬ (0 : Int32) ≤ -10 - 3 by decide)]
              exact ⟨_, _, _, rfl, rfl, A, RA_0x hA 3⟩
          · have hy : lg_cmp d.toInt64 0 < 0 := by
              rw [lgc_lt, Int64.lt_iff_toInt_lt, Int32.toInt_toInt64, show (0 : Int64).toInt = 0 from rfl]
              rw [Int32.le_iff_toInt_le, show (0 : Int32).toInt = 0 from rfl] at cn
              omega
            rw [if_neg cn, if_neg (show ¬ (4 : Int32) = 0 by decide), jb _ 4 (by decide), m_cbS hk hN s3 s5 hy, kbi_s, if_neg (show ¬ (0 : Int32) ≤ -10 - 4 by decide)]
            exact ⟨_, _, _, rfl, rfl, A, RA_0x hA 4⟩
        · have ef : fX1_faultAs (12 + k) (nI l) (kup σ 0 12 0) = some (2, kup σ 0 12 0) := by
            unfold fX1_faultAs
            rw [g0, if_neg (show ¬ σ (12 + k) 0 = 0 by rw [s1]; decide), if_neg (show ¬ σ (12 + k) 1 = nI l by rw [s4]; exact fun z => cl ((nI_eq (by omega) (by omega)).mp z))]
          rw [ef, kbi_s, if_neg (show ¬ (2 : Int32) = 0 by decide), if_neg (show ¬ (2 : Int32) = 0 by decide), jb _ 2 (by decide), m_cb2 hk hN hl' hl s3 s5 cl, kbi_s, if_neg (show ¬ (0 : Int32) ≤ -10 - 2 by decide)]
          exact ⟨_, _, _, rfl, rfl, A, RA_0x hA 2⟩
    · rw [x_below0 3 hl (by decide) _ 3 rfl, kbi_s, if_pos rfl, m_in0 b 0 2 (by omega) (by decide) (by decide) _ 0 2 rfl rfl, kbi_s, if_pos rfl, er, kbi_s]
      exact ⟨_, _, _, rfl, rfl, A, hA0⟩
  · rw [e1, kbi_s, if_pos rfl, e2, kbi_s, if_neg one_ne, er, kbi_s]
    exact ⟨_, _, _, rfl, rfl, A, hA0⟩
