/-! round -/
theorem x_play {A : kN} {σ : kS} {q i n : Int32} {q0 : Nat} (hx : rX 1 σ A) (ok : okA A) : ∃ s1, rX 6 s1 A ∧ sameR σ s1 ∧ s1 20 0 = 0 ∧ s1 20 1 = -9 ∧ s1 20 2 = 0 ∧ s1 20 3 = 0 ∧ fX4_play q0 i n σ = fX4_play_L21 1000 q0 i n 0 s1 := by
  obtain ⟨s1, b1, b2, b3⟩ := x_become hx ok
  refine ⟨kup (kup (kup (kup s1 20 0 0) 20 1 (-9)) 20 2 0) 20 3 0, ?_, fun q hq => ?_, ?_, ?_, ?_, ?_, ?_⟩
  · exact rX_fr b2 (fun r _ _ => by rw [kup_ne (by omega), kup_ne (by omega), kup_ne (by omega), kup_ne (by omega)])
  · rw [kup_ne (by omega), kup_ne (by omega), kup_ne (by omega), kup_ne (by omega), b3 q (by omega)]
  · simp [kup]
  · simp [kup]
  · simp [kup]
  · simp [kup]
  · unfold fX4_play
    rw [b1, kbv_s]
    rfl
theorem l2 : ∀ n, n < 21 → (2 : Int64) * (nI n).toInt64 = (nI (2 * n)).toInt64 := by decide +kernel
theorem i2n : ∀ n, n < 21 → (2 : Int32) * nI n = nI (2 * n) := by decide +kernel
/-- the play on both sides, from one moor -/
theorem round_both {A : kN} {σ τ : kS} (hA : RA A (kup σ 0 12 0) (kup τ 0 0 0)) (hP : A 0 2 ≠ 0) {k i n a N : Nat} (hk : k < 4) (hN : N ≤ 60) (hi : i + 2 * n ≤ N) (ha : a ≤ 3 ∨ (10 ≤ a ∧ a ≤ 15)) (hs : ∀ y, y < N → (kup σ 0 12 0) (12 + k + 4) y = τ 19 (60 * k + y)) (hv : ∀ y, 0 ≤ y → y < n → vpair (A 0 2) (12 + k + 4) i (kup σ 0 12 0) y) :
    ∃ r s2 t1 t2 t3, fX4_play (12 + k + 4) (nI i) (nI n) (kup σ 0 12 0) = some s2 ∧ fX4_ofRound (nI a) s2 = some (r, s2) ∧ fX5_keepAll τ = some t1 ∧ fX5_roundBy (nI (60 * k + i)) (nI n) (nI a) t1 = some (r, t2) ∧ fX5_bringBack t2 = some t3 ∧ RA A s2 (kup t3 0 0 0) := by
  obtain ⟨ok, hx, hm0, h3, h4, h5⟩ := id hA
  have hm : rM τ A := rM_fr hm0 (kup_k (by decide)).symm (kup_k (by decide)).symm (kup_k (by decide)).symm (fun q _ _ p _ => (kup_q (by omega)).symm)
  have o := ok.2.2.1
  obtain ⟨s1, x1, x2, x3, x4, x5, x6, x7⟩ := x_play (q := 0) (i := nI i) (n := nI n) (q0 := 12 + k + 4) hx ok
  obtain ⟨t1, k1, k2, k3⟩ := keep_all o τ hm.1.2.2
  have hm1 : rM t1 A := rM_fr hm (by rw [k2 0 (by omega)]) (by rw [k2 0 (by omega)]) (by rw [k2 0 (by omega)]) (fun q _ _ p _ => by rw [k2 q (by omega)])
  obtain ⟨s2, t2, B, p1, p2, p3, p4, p5, p6, p7, p8⟩ := play_lock (nI a) hk hN hi o n 0 1000 1000 A s1 t1 (by omega) (by omega) (by omega) x1 hm1 ok rfl (fun y hy => by rw [x2 (12 + k + 4) (by omega), k2 19 (by omega)]; exact hs y hy) (fun y h1 h2 => vpair_fr (hv y h1 h2) (x2 (12 + k + 4) (by omega))) (Or.inl x4)
  have hx2 : rX 1 s2 A := rX_fr hx (fun q _ _ => (p7 q (by omega)).trans (x2 q (by omega)))
  obtain ⟨r, r1, r2⟩ := of_round (n := n) (base := nI (60 * k + i)) ha hx2 p4 ok p5 p6 p3
  obtain ⟨t3, b1, b2⟩ := kept_back o hm.1.2.2 k2 k3 p8
  refine ⟨r, s2, t1, t2, t3, x7.trans p1, r1, k1, ?_, b1, ?_⟩
  · unfold fX5_roundBy
    rw [x3, x4, x5, x6] at p2
    exact p2.trans r2
  · refine RA_same hA (fun q hq => (p7 q (by omega)).trans (x2 q (by omega))) ⟨fun j hj => ?_, fun q h1 h2 => by rw [kup_ne (by omega), kup_ne (by omega), b2 q (by omega)], fun q h1 h2 p _ => by rw [kup_ne (by omega), kup_ne (by omega), b2 q (by omega)]⟩
    by_cases d : j = 0
    · subst d; rw [kup_at, kup_at]
    · rw [kup_k d, kup_k d, b2 0 (by omega)]
theorem c_round (a b c d f : Int32) : RI (fX4_round a b c d f) (fX5_round a b c d f) := by
  intro σ τ h
  have ⟨A, hA⟩ := h
  have hA0 := RA_0x hA 0
  have er : ∀ (x : Int32) (τ : kS), fX5_refused x τ = some (x, kup τ 0 0 0) := fun x τ => rfl
  have eg : ∀ (x : Int32), fX4_faulted x (kup σ 0 12 0) = some ((-10) - x, kup σ 0 12 x) := fun x => by unfold fX4_faulted; rw [kup_kup]
  obtain ⟨ok, hx, hm, -⟩ := id hA
  have hx0 := hA0.2.1
  have o := ok.2.2.1
  unfold fX4_round fX5_round
  rcases s_cases (kup σ 0 12 0) τ a with ⟨k, hk, rfl, e1, e2⟩ | ⟨e1, e2⟩
  · rw [e1, kbi_s, if_neg one_ne, e2, kbi_s, if_pos rfl]
    rcases rng_cases b 3 (by decide) with ⟨l, hl, rfl⟩ | hl
    · rw [x_below1 3 hl (by decide) _ 3 rfl, kbi_s, if_neg one_ne, m_in1 l 0 2 (by omega) (by decide) _ 0 2 rfl rfl, kbi_s, if_neg one_ne]
      rcases rng_cases d 21 (by decide) with ⟨n, hn, rfl⟩ | hn
      · rw [x_below1 21 hn (by decide) _ 21 rfl, kbi_s, if_neg one_ne, m_in1 n 0 20 (by omega) (by decide) _ 0 20 rfl rfl, kbi_s, if_neg one_ne]
        rcases what_cases f (kup σ 0 12 0) τ with ⟨w, hw, rfl, e3, e4⟩ | ⟨e3, e4, e5⟩
        · rw [e3, kbi_s, if_neg one_ne]
          -- the reference's two ways to go on are one
          suffices hJ : ∃ (r : Int32) (σ' τ' : kS), (kbi (fX4_hasNoMoor (kup σ 0 12 0)) fun r23 σ22 => if r23 = 0 then (if inb (nI k) 4 then kbi (fX1_faultAs (12 + Int32.toNatClampNeg (nI k)) (nI l) σ22) fun r30 σ29 => if r30 = 0 then kbi (fX1_spans (12 + Int32.toNatClampNeg (nI k)) c (2 * nI n) σ29) fun r34 σ33 => if r34 = 0 then fX4_round_J90 c (nI n) (nI w) (12 + Int32.toNatClampNeg (nI k)) 3 σ33 else fX4_round_J90 c (nI n) (nI w) (12 + Int32.toNatClampNeg (nI k)) r30 σ33 else fX4_round_J90 c (nI n) (nI w) (12 + Int32.toNatClampNeg (nI k)) r30 σ29 else none) else some ((-3), σ22)) = some (r, σ') ∧ fX5_round_J73 (nI k) (nI l) c (nI n) (nI w) τ = some (r, τ') ∧ RR σ' τ' by
            obtain ⟨r, s', t', j1, j2, j3⟩ := hJ
            refine ⟨r, s', t', j1, ?_, j3⟩
            rcases e4 with e4 | ⟨e4, e5⟩
            · rw [e4, kbi_s, if_neg one_ne]
              exact j2
            · rw [e4, kbi_s, if_pos rfl, e5, kbi_s, if_neg one_ne]
              exact j2
          have hi : inb (nI k) 4 := inb_lit (by omega) (by decide)
          have e : (nI k).toNatClampNeg = k := nI_clamp (by omega)
          have g0 : (kup σ 0 12 0) (12 + k) = σ (12 + k) := kup_ne (by omega)
          unfold fX5_round_J73
          rw [x_nomoor hx0 ok, kbi_s]
          by_cases hP : A 0 2 = 0
          · rw [if_pos hP, if_neg one_ne, if_pos ((m_nomoor hm ok).mpr hP), er, kbi_s]
            exact ⟨_, _, _, rfl, rfl, A, hA0⟩
          · rw [if_neg hP, if_pos rfl, if_neg (fun z => hP ((m_nomoor hm ok).mp z)), if_pos hi, e, i2n n (by omega), l2 n (by omega)]
            rcases hA.2.2.2.1 k hk with ⟨s1, s2⟩ | ⟨s1, N, l', hN, hl', s2, s3, s4, s5, s6⟩
            · have ef : fX1_faultAs (12 + k) (nI l) (kup σ 0 12 0) = some (1, kup σ 0 12 0) := by
                unfold fX1_faultAs
                rw [g0, if_pos s1]
              rw [ef, kbi_s, if_neg one_ne, m_cb1 hk s2, kbi_s, if_neg (show ¬ (0 : Int32) ≤ -10 - 1 by decide)]
              unfold fX4_round_J90
              rw [if_neg one_ne, eg, kbi_s]
              exact ⟨_, _, _, rfl, rfl, A, RA_0x hA 1⟩
            · by_cases cl : l' = l
              · subst cl
                have ef : fX1_faultAs (12 + k) (nI l') (kup σ 0 12 0) = some (0, kup σ 0 12 0) := by
                  unfold fX1_faultAs
                  rw [g0, if_neg (show ¬ σ (12 + k) 0 = 0 by rw [s1]; decide), if_pos s4]
                have hy : ¬ lg_cmp (nI (2 * n)).toInt64 0 < 0 := by
                  rw [lgc_lt, Int64.lt_iff_toInt_lt, Int32.toInt_toInt64, nI_toInt (by omega), show (0 : Int64).toInt = 0 from rfl]
                  omega
                rw [ef, kbi_s, if_pos rfl]
                rcases sp_cases (q := 12 + k) (σ := kup σ 0 12 0) hN (by rw [g0]; exact s2) τ c (nI (2 * n)) with ⟨i, n2, h1, rfl, hn2, p1, p2⟩ | ⟨p1, p2⟩
                · have hn3 : n2 = 2 * n := ((nI_eq (by omega) (by omega)).mp hn2).symm
                  subst hn3
                  have e0 : (60 : Int32) * nI k + nI i = nI (60 * k + i) := by rw [lit_nI, pk_mul, nI_add]
                  rw [p1, kbi_s, if_neg one_ne, m_cb0 hk hN s3 s5 hy p2, kbi_s, if_pos (show (0 : Int32) ≤ 0 by decide), e0]
                  unfold fX4_round_J90
                  rw [if_pos rfl]
                  obtain ⟨r, f1, f2, f3⟩ := pairsL (k := k) (σ := kup σ 0 12 0) (τ := τ) hx0 hm ok hk hN (show i + 2 * n ≤ N by omega) (fun y hy => by rw [kup_ne (by omega)]; exact s6 y hy) n 0 1000 1000 (by omega) (by omega) (by omega)
                  have f1 : fX4_refusalOfPairs (12 + k + 4) (nI i) (nI n) (kup σ 0 12 0) = some (r, kup σ 0 12 0) := f1
                  have f2 : fX5_pairsBarred (nI (60 * k + i)) (nI n) τ = some (r, τ) := f2
                  rw [f1, kbi_s, f2, kbi_s]
                  rcases f3 with ⟨rfl, f4⟩ | f3
                  · have hAx : RA A (kup σ 0 12 0) (kup τ 0 0 0) := hA0
                    rw [if_pos rfl, if_pos (show (0 : Int32) ≤ 0 by decide)]
                    obtain ⟨r, q1, t1, t2, t3, g1, g2, g3, g4, g5, g6⟩ := round_both hA0 hP hk hN (show i + 2 * n ≤ N by omega) hw (fun y hy => by rw [kup_ne (by omega)]; exact s6 y hy) f4
                    rw [g1, kbv_s, g2, kbi_s, g3, kbv_s, g4, kbi_s, g5, kbv_s, er, kbi_s]
                    exact ⟨_, _, _, rfl, rfl, A, g6⟩
                  · have f5 : ¬ r = 0 ∧ ¬ 0 ≤ r := by rcases f3 with rfl | rfl <;> decide
                    rw [if_neg f5.1, if_neg f5.2, er, kbi_s]
                    exact ⟨_, _, _, rfl, rfl, A, hA0⟩
                · rw [p1, kbi_s, if_pos rfl, m_cb3 hk hN s3 s5 hy p2, kbi_s, if_neg (show ¬ (0 : Int32) ≤ -10 - 3 by decide)]
                  unfold fX4_round_J90
                  rw [if_neg (show ¬ (3 : Int32) = 0 by decide), eg, kbi_s]
                  exact ⟨_, _, _, rfl, rfl, A, RA_0x hA 3⟩
              · have ef : fX1_faultAs (12 + k) (nI l) (kup σ 0 12 0) = some (2, kup σ 0 12 0) := by
                  unfold fX1_faultAs
                  rw [g0, if_neg (show ¬ σ (12 + k) 0 = 0 by rw [s1]; decide), if_neg (show ¬ σ (12 + k) 1 = nI l by rw [s4]; exact fun z => cl ((nI_eq (by omega) (by omega)).mp z))]
                rw [ef, kbi_s, if_neg (show ¬ (2 : Int32) = 0 by decide), m_cb2 hk hN hl' hl s3 s5 cl, kbi_s, if_neg (show ¬ (0 : Int32) ≤ -10 - 2 by decide)]
                unfold fX4_round_J90
                rw [if_neg (show ¬ (2 : Int32) = 0 by decide), eg, kbi_s]
                exact ⟨_, _, _, rfl, rfl, A, RA_0x hA 2⟩
        · rw [e3, kbi_s, if_pos rfl, e4, kbi_s, if_pos rfl, e5, kbi_s, if_pos rfl, er, kbi_s]
          exact ⟨_, _, _, rfl, rfl, A, hA0⟩
      · rw [x_below0 21 hn (by decide) _ 21 rfl, kbi_s, if_pos rfl, m_in0 d 0 20 (by omega) (by decide) (by decide) _ 0 20 rfl rfl, kbi_s, if_pos rfl, er, kbi_s]
        exact ⟨_, _, _, rfl, rfl, A, hA0⟩
    · rw [x_below0 3 hl (by decide) _ 3 rfl, kbi_s, if_pos rfl, m_in0 b 0 2 (by omega) (by decide) (by decide) _ 0 2 rfl rfl, kbi_s, if_pos rfl, er, kbi_s]
      exact ⟨_, _, _, rfl, rfl, A, hA0⟩
  · rw [e1, kbi_s, if_pos rfl, e2, kbi_s, if_neg one_ne, er, kbi_s]
    exact ⟨_, _, _, rfl, rfl, A, hA0⟩
