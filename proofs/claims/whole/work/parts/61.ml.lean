/-! SITE -/
def cnt (A : kN) : Nat → Nat
  | 0 => 0
  | k + 1 => if go A k = some k then cnt A k + 1 else cnt A k
def cmN (A : kN) : Nat → Nat
  | 0 => 0
  | k + 1 => if go A k = some k then cmN A k + 2 ^ k else cmN A k
theorem cmN_lt (A : kN) : ∀ k, cmN A k < 2 ^ k
  | 0 => by show 0 < 1; decide
  | k + 1 => by
    have := cmN_lt A k
    simp only [cmN]
    rw [Nat.pow_succ]
    split <;> omega
theorem or_bit : ∀ k, k < 6 → ∀ m, m < 2 ^ k → nI m ||| ((1 : Int32) <<< (nI k &&& 31)) = nI (m + 2 ^ k) := by decide +kernel
theorem bt_bit : ∀ k, k < 6 → ∀ m, m < 2 ^ k → bt (m + 2 ^ k) = bt m + 1 := by decide +kernel
theorem cmS_N (A : kN) : ∀ k, k ≤ 6 → cmS A k = nI (cmN A k)
  | 0, _ => rfl
  | k + 1, h => by
    have ih := cmS_N A k (by omega)
    simp only [cmS, cmN]
    split
    · rw [ih, or_bit k (by omega) _ (cmN_lt A k)]
    · exact ih
theorem bt_cmN (A : kN) : ∀ k, k ≤ 6 → bt (cmN A k) = cnt A k
  | 0, _ => by show bt 0 = 0; decide
  | k + 1, h => by
    have ih := bt_cmN A k (by omega)
    simp only [cmN, cnt]
    split
    · rw [bt_bit k (by omega) _ (cmN_lt A k), ih]
    · exact ih
theorem cnt_le (A : kN) : ∀ k, cnt A k ≤ k
  | 0 => Nat.le_refl 0
  | k + 1 => by
    have := cnt_le A k
    simp only [cnt]
    split <;> omega
theorem x_bitwho {A : kN} (ok : okA A) (σ : kS) : fJ6_bitCount_0f7a4 (cmS A (A 0 2)) σ = some (nI (cnt A (A 0 2)), σ) := by
  have o := ok.2.2.1
  have h1 := cmN_lt A (A 0 2)
  have h2 : 2 ^ (A 0 2) ≤ 2 ^ 6 := Nat.pow_le_pow_right (by decide) o
  rw [cmS_N A _ o, bitc (by omega), bt_cmN A _ o]
theorem m_comeNowL {τ : kS} {A : kN} (h : rM τ A) (ok : okA A) : ∀ (m k n : Nat), k + m = A 0 2 → m < n → fX5_comeNow_L4 n (nI (cnt A k)) (nI k) τ = some (nI (cnt A (A 0 2)), τ) := by
  have o := ok.2.2.1
  intro m
  induction m with
  | zero =>
    intro k n hk hn
    obtain ⟨n, rfl⟩ : ∃ j, n = j + 1 := ⟨n - 1, by omega⟩
    rw [fX5_comeNow_L4, if_pos (by rw [h.1.2.2, nI_leI (by omega) (by omega)]; omega)]
    rw [show k = A 0 2 by omega]
  | succ m ih =>
    intro k n hk hn
    obtain ⟨n, rfl⟩ : ∃ j, n = j + 1 := ⟨n - 1, by omega⟩
    rw [fX5_comeNow_L4, if_neg (by rw [h.1.2.2, nI_leI (by omega) (by omega)]; omega), m_goes h ok (show k < A 0 2 by omega), kbi_s]
    have hx := ih (k + 1) n (by omega) (by omega)
    by_cases c : go A k = some k
    · rw [if_pos ((enc_k ok (by omega)).mpr c), klet_e, klet_e, nI_1, nI_1]
      rw [show cnt A (k + 1) = cnt A k + 1 by simp only [cnt, if_pos c]] at hx
      exact hx
    · rw [if_neg (fun z => c ((enc_k ok (by omega)).mp z)), klet_e, klet_e, nI_1, show nI (cnt A k) + 0 = nI (cnt A k + 0) from nI_add _ 0]
      rw [show cnt A (k + 1) = cnt A k by simp only [cnt, if_neg c]] at hx
      exact hx
theorem m_comeNow {τ : kS} {A : kN} (h : rM τ A) (ok : okA A) : fX5_comeNow τ = some (nI (cnt A (A 0 2)), τ) := by
  have o := ok.2.2.1
  exact m_comeNowL h ok (A 0 2) 0 1000 (by omega) (by omega)
def sbst (g : Nat → Nat) : Nat → Nat × Nat
  | 0 => (0, g 0)
  | k + 1 => if (sbst g k).2 < g (k + 1) then (k + 1, g (k + 1)) else sbst g k
def gSite (A : kN) (v : Nat) : Nat := cnt (nup A 0 0 v) (A 0 2)
theorem gSite_le (A : kN) (v : Nat) : gSite A v ≤ A 0 2 := cnt_le _ _
theorem sbst_b (A : kN) : ∀ k, (sbst (gSite A) k).1 ≤ k ∧ (sbst (gSite A) k).2 ≤ A 0 2
  | 0 => ⟨Nat.le_refl 0, gSite_le A 0⟩
  | k + 1 => by
    have ih := sbst_b A k
    simp only [sbst]
    split
    · exact ⟨Nat.le_refl _, gSite_le A _⟩
    · exact ⟨by omega, ih.2⟩
def siteR (A : kN) (v : Int32) : Int32 := if v = 0 then nI (sbst (gSite A) 9).1 else nI (sbst (gSite A) 9).2
theorem x_siteL {A : kN} (ok : okA A) (a : Int32) : ∀ (m v n w : Nat) (σ : kS), v + 1 + m = 10 → m < n → rX 6 σ (nup A 0 0 w) → ∃ σ', fX4_site_L39 n a (nI (sbst (gSite A) v).1) (nI (sbst (gSite A) v).2) (nI (v + 1)) σ = some (siteR A a, σ') ∧ sameD σ σ' := by
  have o := ok.2.2.1
  intro m
  induction m with
  | zero =>
    intro v n w σ hv hn h
    obtain ⟨n, rfl⟩ : ∃ j, n = j + 1 := ⟨n - 1, by omega⟩
    have hv' : v = 9 := by omega
    subst hv'
    rw [fX4_site_L39, if_pos (by decide)]
    refine ⟨σ, ?_, fun _ _ => rfl⟩
    unfold siteR
    split <;> rfl
  | succ m ih =>
    intro v n w σ hv hn h
    obtain ⟨n, rfl⟩ : ∃ j, n = j + 1 := ⟨n - 1, by omega⟩
    have h1 := rX_0 (v := v + 1) h (show 0 < 2 by omega)
    rw [nup_nup] at h1
    have ok1 := ok_post (v := v + 1) ok (by omega)
    have hg := gSite_le A (v + 1)
    have hb := sbst_b A v
    have e02 : nup A 0 0 (v + 1) 0 2 = A 0 2 := rfl
    have c : ¬ nI 10 ≤ nI (v + 1) := fun z => by have := (nI_leI (a := 10) (by omega) (by omega)).mp z; omega
    rw [fX4_site_L39, if_neg (show ¬ (10 : Int32) ≤ nI (v + 1) from c), x_whose h1 ok1, kbi_s, x_bitwho ok1, kbi_s, e02]
    have sd : sameD σ (kup σ 6 0 (nI (v + 1))) := fun q hq => kup_ne (by omega)
    obtain ⟨s', f1, f2⟩ := ih (v + 1) n _ _ (by omega) (by omega) h1
    refine ⟨s', ?_, sameD_tr sd f2⟩
    show (if nI (gSite A (v + 1)) ≤ _ then _ else _) = _
    by_cases g : (sbst (gSite A) v).2 < gSite A (v + 1)
    · rw [if_neg (show ¬ nI (gSite A (v + 1)) ≤ nI (sbst (gSite A) v).2 from fun z => by have := (nI_leI (by omega) (by omega)).mp z; omega), klet_e, nI_1]
      simp only [sbst, if_pos g] at f1
      exact f1
    · rw [if_pos (show nI (gSite A (v + 1)) ≤ nI (sbst (gSite A) v).2 from (nI_leI (by omega) (by omega)).mpr (by omega)), klet_e, nI_1]
      simp only [sbst, if_neg g] at f1
      exact f1
theorem m_siteL {A : kN} (ok : okA A) (a was : Int32) : ∀ (m v n w : Nat) (τ : kS), v + 1 + m = 10 → m < n → rM τ (nup A 0 0 w) → ∃ τ', fX5_site_L38 n a was (nI (sbst (gSite A) v).1) (nI (sbst (gSite A) v).2) (nI (v + 1)) τ = some (siteR A a, kup τ' 0 2 was) ∧ sameT τ τ' 0 2 := by
  have o := ok.2.2.1
  intro m
  induction m with
  | zero =>
    intro v n w τ hv hn h
    obtain ⟨n, rfl⟩ : ∃ j, n = j + 1 := ⟨n - 1, by omega⟩
    have hv' : v = 9 := by omega
    subst hv'
    rw [fX5_site_L38, if_pos (by decide)]
    refine ⟨τ, ?_, fun _ _ _ => rfl⟩
    unfold siteR
    split <;> rfl
  | succ m ih =>
    intro v n w τ hv hn h
    obtain ⟨n, rfl⟩ : ∃ j, n = j + 1 := ⟨n - 1, by omega⟩
    have h1 := rM_post (v := v + 1) h
    rw [nup_nup] at h1
    have ok1 := ok_post (v := v + 1) ok (by omega)
    have hg := gSite_le A (v + 1)
    have hb := sbst_b A v
    have e02 : nup A 0 0 (v + 1) 0 2 = A 0 2 := rfl
    have c : ¬ nI 10 ≤ nI (v + 1) := fun z => by have := (nI_leI (a := 10) (by omega) (by omega)).mp z; omega
    rw [fX5_site_L38, if_neg (show ¬ (10 : Int32) ≤ nI (v + 1) from c), m_comeNow h1 ok1, kbi_s, e02]
    have sd : sameT τ (kup τ 0 2 (nI (v + 1))) 0 2 := fun q j hq => by simp only [kup, if_neg hq]
    obtain ⟨t', f1, f2⟩ := ih (v + 1) n _ _ (by omega) (by omega) h1
    refine ⟨t', ?_, fun q j hq => (f2 q j hq).trans (sd q j hq)⟩
    unfold fX5_site_J70
    show (if nI (gSite A (v + 1)) ≤ _ then (if nI (gSite A (v + 1)) ≤ _ then _ else _) else (if nI (gSite A (v + 1)) ≤ _ then _ else _)) = _
    by_cases g : (sbst (gSite A) v).2 < gSite A (v + 1)
    · have gn : ¬ nI (gSite A (v + 1)) ≤ nI (sbst (gSite A) v).2 := fun z => by have := (nI_leI (by omega) (by omega)).mp z; omega
      rw [if_neg gn, if_neg gn, klet_e, nI_1]
      simp only [sbst, if_pos g] at f1
      exact f1
    · have gn : nI (gSite A (v + 1)) ≤ nI (sbst (gSite A) v).2 := (nI_leI (by omega) (by omega)).mpr (by omega)
      rw [if_pos gn, if_pos gn, klet_e, nI_1]
      simp only [sbst, if_neg g] at f1
      exact f1
theorem c_site (v : Int32) : RI (fX4_site v) (fX5_site v) := by
  intro σ τ h
  have ⟨A, hA⟩ := h
  obtain ⟨ok, hx, hm, hs, hr, hc⟩ := id hA
  have o := ok.2.2.1
  unfold fX4_site fX5_site
  rw [x_nomoor hx ok, kbi_s]
  by_cases c : A 0 2 = 0
  · rw [if_pos ((m_nomoor hm ok).mpr c), if_pos c, if_neg one_ne]
    exact ⟨_, _, _, rfl, rfl, h⟩
  · rw [if_neg (fun z => c ((m_nomoor hm ok).mp z)), if_neg c, if_pos rfl]
    rcases rng_cases v 2 (by decide) with ⟨k, hk, rfl⟩ | hk
    · rw [x_below1 2 hk (by decide) _ 2 rfl, kbi_s, if_neg one_ne, m_in1 k 0 1 (by omega) (by decide) _ 0 1 rfl rfl, kbi_s, if_neg one_ne, klet_e]
      obtain ⟨s1, b1, b2, b3⟩ := x_become hx ok
      rw [b1, kbv_s]
      have hA1 : rX 6 s1 (nup A 0 0 (A 0 0)) := by rw [nup_self]; exact b2
      have hM1 : rM τ (nup A 0 0 (A 0 0)) := by rw [nup_self]; exact hm
      have h1 := rX_0 (v := 0) hA1 (show 0 < 2 by omega)
      have m1 := rM_post (v := 0) hM1
      rw [nup_nup] at h1 m1
      have ok1 := ok_post (v := 0) ok (by omega)
      have hg := gSite_le A 0
      have e02 : nup A 0 0 0 0 2 = A 0 2 := rfl
      obtain ⟨s2, f1, f2⟩ := x_siteL ok (nI k) 9 0 999 _ _ (by omega) (by omega) h1
      obtain ⟨t2, g1, g2⟩ := m_siteL ok (nI k) (τ 0 2) 9 0 999 _ _ (by omega) (by omega) m1
      have f0 : fX4_site_L39 1000 (nI k) 0 (-1) 0 s1 = some (siteR A (nI k), s2) := by
        rw [fX4_site_L39, if_neg (by decide)]
        rw [show kup s1 6 0 0 = kup s1 6 0 (nI 0) from rfl, x_whose h1 ok1, kbi_s, x_bitwho ok1, kbi_s, e02, if_neg (show ¬ nI (cnt (nup A 0 0 0) (A 0 2)) ≤ -1 from fun z => by
          have z1 := Int32.le_iff_toInt_le.mp z
          rw [nI_toInt (show cnt (nup A 0 0 0) (A 0 2) < 2 ^ 31 by have := cnt_le (nup A 0 0 0) (A 0 2); omega), show (-1 : Int32).toInt = -1 from rfl] at z1
          omega), klet_e]
        exact f1
      have g0 : fX5_site_L38 1000 (nI k) (τ 0 2) (-9) (-9) 0 τ = some (siteR A (nI k), kup t2 0 2 (τ 0 2)) := by
        have nn : ¬ nI (cnt (nup A 0 0 0) (A 0 2)) ≤ -9 := fun z => by
          have z1 := Int32.le_iff_toInt_le.mp z
          rw [nI_toInt (show cnt (nup A 0 0 0) (A 0 2) < 2 ^ 31 by have := cnt_le (nup A 0 0 0) (A 0 2); omega), show (-9 : Int32).toInt = -9 from rfl] at z1
          omega
        rw [fX5_site_L38, if_neg (by decide)]
        rw [show kup τ 0 2 0 = kup τ 0 2 (nI 0) from rfl, m_comeNow m1 ok1, kbi_s, e02, if_neg nn]
        unfold fX5_site_J70
        rw [if_neg nn, klet_e]
        exact g1
      refine ⟨_, _, _, f0, g0, A, RA_same hA (sameD_X (sameD_tr b3 (sameD_tr (fun q hq => kup_ne (by omega)) f2))) ⟨fun j hj => ?_, fun q a b => ?_, fun q a b k hk => ?_⟩⟩
      · by_cases d : j = 2
        · subst d; rw [kup_at]
        · rw [kup_k d, g2 0 j (by omega), kup_k d]
      · funext j
        rw [kup_q (by omega), g2 q j (by omega), kup_q (by omega)]
      · rw [kup_q (by omega), g2 q k (by omega), kup_q (by omega)]
    · rw [x_below0 2 hk (by decide) _ 2 rfl, kbi_s, if_pos rfl, m_in0 v 0 1 (by omega) (by decide) (by decide) _ 0 1 rfl rfl, kbi_s, if_pos rfl]
      exact ⟨_, _, _, rfl, rfl, h⟩
