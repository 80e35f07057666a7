/-! ORDER: the best row, on both sides -/
abbrev kB : Type := Nat × List Nat
def upB (A : kN) (cur : Option kB) (l : List Nat) : kB := match cur with
  | none => (cs A l 0, l)
  | some y => if y.1 < cs A l 0 then (cs A l 0, l) else y
def bo (A : kN) (P : Nat) : Nat → List Nat → Option kB → kB
  | 0, l, cur => upB A cur l
  | n + 1, l, cur => match nxL P l with
    | none => upB A cur l
    | some l' => bo A P n l' (some (upB A cur l))
def mI (cur : Option kB) (d : Int32) : Int32 := match cur with | none => d | some y => nI y.1
def rowB (q P : Nat) (σ : kS) (cur : Option kB) : Prop := ∀ y, cur = some y → y.1 ≤ P ∧ ∀ k, k < P → σ q k = nI (lf y.2 k)
theorem upB_le {A : kN} {P : Nat} {cur : Option kB} {l : List Nat} (hl : l.length ≤ P) (hc : ∀ y, cur = some y → y.1 ≤ P) : (upB A cur l).1 ≤ P := by
  have := cs_le A l 0
  unfold upB
  cases cur with
  | none => show cs A l 0 ≤ P; omega
  | some y =>
    dsimp only
    split
    · show cs A l 0 ≤ P; omega
    · exact hc y rfl
theorem mA_0 (A : kN) : mA A (bS 0) = A := by
  funext q k
  simp [mA, bS]
def EO (tk τ : kS) : Prop := ∀ q, q ≠ 12 → q ≠ 13 → τ q = tk q
theorem m_come {A : kN} {τ0 tk τ : kS} {l : List Nat} (ok : okA A) (h0 : τ0 0 1 = nI (A 0 2)) (hk : rM tk A) (k1 : ∀ q, q < 9 ∨ 11 < q → tk q = τ0 q) (k2 : ∀ p, p < A 0 2 → tk 9 p = τ0 2 p ∧ tk 10 p = τ0 3 p ∧ tk 11 p = τ0 4 p) (hE : EO tk τ) (hl : l.length = A 0 2) (hlt : ∀ k, k < A 0 2 → lf l k < A 0 2) (hr : rowIs 12 (A 0 2) τ (lf l)) : ∃ τ3, fX5_comeInOrder τ = some (nI (cs A l 0), τ3) ∧ EO tk τ3 ∧ τ3 12 = τ 12 ∧ τ3 13 = τ 13 := by
  have o := ok.2.2.1
  have hM : rM τ (mA A (bS 0)) := by
    rw [mA_0]
    exact rM_fr hk (by rw [hE 0 (by omega) (by omega)]) (by rw [hE 0 (by omega) (by omega)]) (by rw [hE 0 (by omega) (by omega)]) (fun q _ _ p _ => by rw [hE q (by omega) (by omega)])
  obtain ⟨t1, f1, f2⟩ := m_comingL ok hl hlt (A 0 2) 0 1000 0 0 τ (by omega) (by omega) (by omega) (subW_0 A) hM hr
  obtain ⟨t3, q1, q2, q3⟩ := kept_back2 o h0 k1 k2 (τ2 := t1) (fun q j h1 h2 => by
    rw [f2 q j h2, hE q (by omega) (by omega)])
  rw [Nat.zero_add] at f1
  have f1 : fX5_comeInOrder τ = _ := f1
  rw [q1, kbv_s] at f1
  refine ⟨t3, f1, fun q h1 h2 => ?_, ?_, ?_⟩
  · by_cases c : q < 9
    · rw [q2 q (by omega), k1 q (by omega)]
    · funext j
      rw [q3 q (by omega), f2 q j (by omega), hE q h1 h2]
  · funext j
    rw [q3 12 (by omega), f2 12 j (by omega)]
  · funext j
    rw [q3 13 (by omega), f2 13 j (by omega)]
theorem m_cpO1 {P : Nat} {k32 : Int32 → Int32 → kS → Option (Int32 × kS)} {a1 a3 : Int32} (hP : P ≤ 6) (c : a3 ≤ a1) : ∀ (m k f : Nat) (τ : kS), k + m = P → m < f → τ 0 1 = nI P → fX5_bestOrder_L44 k32 f a1 a3 (nI k) τ = kbi (fX5_nextOrder τ) fun r14 σ13 => k32 a1 r14 σ13 := by
  intro m
  induction m with
  | zero =>
    intro k f τ hk hf h
    obtain ⟨f, rfl⟩ : ∃ j, f = j + 1 := ⟨f - 1, by omega⟩
    rw [fX5_bestOrder_L44, if_pos (by rw [h, nI_leI (by omega) (by omega)]; omega), if_pos c]
  | succ m ih =>
    intro k f τ hk hf h
    obtain ⟨f, rfl⟩ : ∃ j, f = j + 1 := ⟨f - 1, by omega⟩
    have hi : inb (nI k) 6 := inb_lit (by omega) (by decide)
    rw [fX5_bestOrder_L44, if_neg (by rw [h, nI_leI (by omega) (by omega)]; omega), if_pos c, if_pos hi, if_pos hi, klet_e, nI_1, kup_same]
    exact ih (k + 1) f τ (by omega) (by omega) h
theorem m_cpO2 {P : Nat} {k32 : Int32 → Int32 → kS → Option (Int32 × kS)} {a1 a3 : Int32} (hP : P ≤ 6) (c : ¬ a3 ≤ a1) : ∀ (m k f : Nat) (τ : kS), k + m = P → m < f → τ 0 1 = nI P → ∃ τ', fX5_bestOrder_L44 k32 f a1 a3 (nI k) τ = (kbi (fX5_nextOrder τ') fun r14 σ13 => k32 a3 r14 σ13) ∧ (∀ q, q ≠ 13 → τ' q = τ q) ∧ (∀ j, k ≤ j → j < P → τ' 13 j = τ 12 j) ∧ (∀ j, j < k → τ' 13 j = τ 13 j) := by
  intro m
  induction m with
  | zero =>
    intro k f τ hk hf h
    obtain ⟨f, rfl⟩ : ∃ j, f = j + 1 := ⟨f - 1, by omega⟩
    rw [fX5_bestOrder_L44, if_pos (by rw [h, nI_leI (by omega) (by omega)]; omega), if_neg c]
    exact ⟨τ, rfl, fun _ _ => rfl, fun j h1 h2 => by omega, fun _ _ => rfl⟩
  | succ m ih =>
    intro k f τ hk hf h
    obtain ⟨f, rfl⟩ : ∃ j, f = j + 1 := ⟨f - 1, by omega⟩
    have hi : inb (nI k) 6 := inb_lit (by omega) (by decide)
    have e : (nI k).toNatClampNeg = k := nI_clamp (by omega)
    rw [fX5_bestOrder_L44, if_neg (by rw [h, nI_leI (by omega) (by omega)]; omega), if_neg c, if_pos hi, if_pos hi, klet_e, nI_1, e]
    obtain ⟨t', h1, h2, h3, h4⟩ := ih (k + 1) f (kup τ 13 k (τ 12 k)) (by omega) (by omega) (by rw [kup_q (by omega)]; exact h)
    refine ⟨t', h1, fun q hq => by rw [h2 q hq, kup_ne hq], fun j a b => ?_, fun j a => by rw [h4 j (by omega), kup_k (by omega)]⟩
    by_cases d : j = k
    · subst d; rw [h4 j (by omega), kup_at]
    · rw [h3 j (by omega) b, kup_q (by omega)]
theorem nxL_some {P : Nat} {l : List Nat} {r : Nat → Nat} (h : nx P (lf l) = some r) : nxL P l = some ((List.range P).map r) := by unfold nxL; rw [h]; rfl
theorem nxL_none {P : Nat} {l : List Nat} (h : nx P (lf l) = none) : nxL P l = none := by unfold nxL; rw [h]; rfl
theorem gd_next {P n : Nat} {l l' : List Nat} (h : gd P n l = true) (hn : nxL P l = some l') : ∃ m, n = m + 1 ∧ gd P m l' = true := by
  cases n with
  | zero => simp [gd, hn] at h
  | succ m => simp only [gd, hn, Bool.and_eq_true] at h; exact ⟨m, rfl, h.2⟩
theorem bo_end {A : kN} {P n : Nat} {l : List Nat} {cur : Option kB} (hn : nxL P l = none) : bo A P n l cur = upB A cur l := by
  cases n with
  | zero => rfl
  | succ m => simp only [bo, hn]
theorem bo_go {A : kN} {P n : Nat} {l l' : List Nat} {cur : Option kB} (hn : nxL P l = some l') : bo A P (n + 1) l cur = bo A P n l' (some (upB A cur l)) := by simp only [bo, hn]
theorem m_orderL {A : kN} {τ0 tk : kS} (ok : okA A) (hP1 : 1 ≤ A 0 2) (h0 : τ0 0 1 = nI (A 0 2)) (hk : rM tk A) (k1 : ∀ q, q < 9 ∨ 11 < q → tk q = τ0 q) (k2 : ∀ p, p < A 0 2 → tk 9 p = τ0 2 p ∧ tk 10 p = τ0 3 p ∧ tk 11 p = τ0 4 p) : ∀ (n : Nat) (l : List Nat) (cur : Option kB) (f : Nat) (τ : kS), gd (A 0 2) n l = true → EO tk τ → rowIs 12 (A 0 2) τ (lf l) → rowB 13 (A 0 2) τ cur → n + 2 ≤ f → ∃ τ', fX5_bestOrder_L32 f (mI cur (-9)) 1 τ = some (nI (bo A (A 0 2) n l cur).1, τ') ∧ (∀ k, k < A 0 2 → τ' 13 k = nI (lf (bo A (A 0 2) n l cur).2 k)) ∧ EO tk τ' := by
  have o := ok.2.2.1
  intro n
  induction n using Nat.strongRecOn with
  | ind n ih =>
    intro l cur f τ hg hE hr hB hf
    obtain ⟨f, rfl⟩ : ∃ j, f = j + 1 := ⟨f - 1, by omega⟩
    obtain ⟨hl, hlt⟩ := okl_s (gd_ok hg)
    obtain ⟨t3, c1, c2, c3, c4⟩ := m_come ok h0 hk k1 k2 hE hl hlt hr
    have e0 : t3 0 1 = nI (A 0 2) := by rw [c2 0 (by omega) (by omega), k1 0 (by omega)]; exact h0
    have hsc := cs_le A l 0
    have hcur : ∀ y, cur = some y → y.1 ≤ A 0 2 := fun y hy => (hB y hy).1
    have hub := upB_le (A := A) (cur := cur) (l := l) (P := A 0 2) (by omega) hcur
    -- behind the count: the best of now, and the next row
    have step : ∃ t4, fX5_bestOrder_L44 (fX5_bestOrder_L32 f) 1000 (mI cur (-9)) (nI (cs A l 0)) (nI 0) t3 = (kbi (fX5_nextOrder t4) fun r14 σ13 => fX5_bestOrder_L32 f (nI (upB A cur l).1) r14 σ13) ∧ EO tk t4 ∧ t4 12 = t3 12 ∧ (∀ k, k < A 0 2 → t4 13 k = nI (lf (upB A cur l).2 k)) := by
      by_cases c : nI (cs A l 0) ≤ mI cur (-9)
      · refine ⟨t3, ?_, c2, rfl, ?_⟩
        · rw [m_cpO1 o c (A 0 2) 0 1000 t3 (by omega) (by omega) e0]
          cases cur with
          | none => exact absurd (Int32.le_trans (nI_le0 (by omega)) c) (by decide)
          | some y =>
            have c5 : cs A l 0 ≤ y.1 := (nI_leI (by omega) (by have := hcur y rfl; omega)).mp c
            rw [show upB A (some y) l = y by show (if y.1 < cs A l 0 then _ else y) = y; rw [if_neg (by omega)]]
            rfl
        · cases cur with
          | none => exact absurd (Int32.le_trans (nI_le0 (by omega)) c) (by decide)
          | some y =>
            have c5 : cs A l 0 ≤ y.1 := (nI_leI (by omega) (by have := hcur y rfl; omega)).mp c
            rw [show upB A (some y) l = y by show (if y.1 < cs A l 0 then _ else y) = y; rw [if_neg (by omega)]]
            intro k hk2
            rw [c4]
            exact (hB y rfl).2 k hk2
      · obtain ⟨t4, d1, d2, d3, -⟩ := m_cpO2 (k32 := fX5_bestOrder_L32 f) o c (A 0 2) 0 1000 t3 (by omega) (by omega) e0
        have hu : upB A cur l = (cs A l 0, l) := by
          cases cur with
          | none => rfl
          | some y =>
            have c5 : ¬ cs A l 0 ≤ y.1 := fun z => c ((nI_leI (by omega) (by have := hcur y rfl; omega)).mpr z)
            show (if y.1 < cs A l 0 then _ else y) = _
            rw [if_pos (by omega)]
        refine ⟨t4, ?_, fun q h1 h2 => by rw [d2 q h2]; exact c2 q h1 h2, d2 12 (by omega), fun k hk2 => ?_⟩
        · rw [d1, hu]
        · rw [hu, d3 k (by omega) hk2, c3]
          exact (hr k hk2).1
    obtain ⟨t4, s1, s2, s3, s4⟩ := step
    have s1 : fX5_bestOrder_L44 (fX5_bestOrder_L32 f) 1000 (mI cur (-9)) (nI (cs A l 0)) 0 t3 = _ := s1
    rw [fX5_bestOrder_L32, if_neg one_ne, c1, kbi_s, s1]
    have e4 : t4 0 1 = nI (A 0 2) := by rw [s2 0 (by omega) (by omega), k1 0 (by omega)]; exact h0
    have r4 : rowIs 12 (A 0 2) t4 (lf l) := fun k hk2 => by rw [s3, c3]; exact hr k hk2
    rcases m_next o hP1 e4 r4 with ⟨r', t5, n1, n2, n3, n4⟩ | ⟨n1, n2⟩
    · have hn := nxL_some n1
      obtain ⟨m, rfl, hg'⟩ := gd_next hg hn
      rw [n2, kbi_s, bo_go hn]
      exact ih m (by omega) _ (some (upB A cur l)) f t5 hg' (fun q h1 h2 => by
        funext j
        rw [n4 q j (by omega), s2 q h1 h2]) (row_l n3) (fun y hy => by
        cases hy
        refine ⟨hub, fun k hk2 => ?_⟩
        rw [n4 13 k (by omega)]
        exact s4 k hk2) (by omega)
    · have hn := nxL_none n1
      obtain ⟨f, rfl⟩ : ∃ j, f = j + 1 := ⟨f - 1, by omega⟩
      rw [n2, kbi_s, fX5_bestOrder_L32, if_pos rfl, bo_end hn]
      exact ⟨t4, rfl, s4, s2⟩
theorem bo_stop {A : kN} {P : Nat} {y : kB} (hy : P ≤ y.1) : ∀ (n : Nat) (l : List Nat), gd P n l = true → bo A P n l (some y) = y := by
  intro n
  induction n with
  | zero =>
    intro l hg
    obtain ⟨hl, -⟩ := okl_s (gd_ok hg)
    have := cs_le A l 0
    show (if y.1 < cs A l 0 then _ else y) = y
    rw [if_neg (by omega)]
  | succ n ih =>
    intro l hg
    obtain ⟨hl, -⟩ := okl_s (gd_ok hg)
    have := cs_le A l 0
    have hu : upB A (some y) l = y := by
      show (if y.1 < cs A l 0 then _ else y) = y
      rw [if_neg (by omega)]
    cases hn : nxL P l with
    | none => rw [bo_end hn, hu]
    | some l' =>
      obtain ⟨m, hm, hg'⟩ := gd_next hg hn
      cases hm
      rw [bo_go hn, hu]
      exact ih l' hg'
def EX (s0 σ : kS) : Prop := ∀ q, q ≠ 24 → q ≠ 25 → σ q = s0 q
theorem x_orderL {A : kN} {s0 : kS} (ok : okA A) (hP1 : 1 ≤ A 0 2) (h0 : s0 1 2 = nI (A 0 2)) (hgo : ∀ p, p < A 0 2 → s0 23 p = enc (go A p)) : ∀ (n : Nat) (l : List Nat) (cur : Option kB) (f kk : Nat) (σ : kS), gd (A 0 2) n l = true → kk + n = 719 → EX s0 σ → rowIs 24 (A 0 2) σ (lf l) → rowB 25 (A 0 2) σ cur → n < f → ∃ σ', fX4_findBestOrder_L44 f (mI cur (-1)) (nI kk) σ = some (nI (bo A (A 0 2) n l cur).1, σ') ∧ (∀ k, k < A 0 2 → σ' 25 k = nI (lf (bo A (A 0 2) n l cur).2 k)) ∧ EX s0 σ' := by
  have o := ok.2.2.1
  have z0 : (0 : Int32).toNatClampNeg = 0 := rfl
  have z6 : (6 : Int32).toNatClampNeg = 6 := rfl
  have hcp : kcpy (0 : Int32) (0 : Int32) (6 : Int32) 6 6 := by decide
  intro n
  induction n using Nat.strongRecOn with
  | ind n ih =>
    intro l cur f kk σ hg hkk hE hr hB hf
    obtain ⟨f, rfl⟩ : ∃ j, f = j + 1 := ⟨f - 1, by omega⟩
    obtain ⟨hl, hlt⟩ := okl_s (gd_ok hg)
    have hsc := cs_le A l 0
    have hcur : ∀ y, cur = some y → y.1 ≤ A 0 2 := fun y hy => (hB y hy).1
    have hub := upB_le (A := A) (cur := cur) (l := l) (P := A 0 2) (by omega) hcur
    have e0 : σ 1 2 = nI (A 0 2) := by rw [hE 1 (by omega) (by omega)]; exact h0
    have c720 : ¬ (720 : Int32) ≤ nI kk := fun z => by have := (nI_leI (a := 720) (b := kk) (by omega) (by omega)).mp z; omega
    rw [fX4_findBestOrder_L44, if_neg c720]
    by_cases cs1 : σ 1 2 ≤ mI cur (-1)
    · rw [if_pos cs1]
      rw [e0] at cs1
      cases cur with
      | none => exact absurd (Int32.le_trans (nI_le0 (by omega)) cs1) (by decide)
      | some y =>
        have c5 : A 0 2 ≤ y.1 := (nI_leI (by omega) (by have := hcur y rfl; omega)).mp cs1
        rw [bo_stop c5 n l hg]
        exact ⟨σ, rfl, (hB y rfl).2, hE⟩
    · rw [if_neg cs1, x_coming ok e0 hl hlt hr (fun p hp => by rw [hE 23 (by omega) (by omega)]; exact hgo p hp), kbi_s]
      -- behind the next row
      have tail : ∀ t4 : kS, EX s0 t4 → t4 24 = σ 24 → (∀ k, k < A 0 2 → t4 25 k = nI (lf (upB A cur l).2 k)) → ∃ σ', (kbi (fX4_stepToNextRow 24 (t4 1 2) t4) fun r16 σ15 => if r16 = 0 then some (nI (upB A cur l).1, σ15) else klet (nI kk + 1) fun v19 => fX4_findBestOrder_L44 f (nI (upB A cur l).1) v19 σ15) = some (nI (bo A (A 0 2) n l cur).1, σ') ∧ (∀ k, k < A 0 2 → σ' 25 k = nI (lf (bo A (A 0 2) n l cur).2 k)) ∧ EX s0 σ' := by
        intro t4 s2 s3 s4
        have e4 : t4 1 2 = nI (A 0 2) := by rw [s2 1 (by omega) (by omega)]; exact h0
        have r4 : rowIs 24 (A 0 2) t4 (lf l) := fun k hk2 => by rw [s3]; exact hr k hk2
        rw [e4]
        rcases x_next o hP1 r4 with ⟨r', t5, n1, n2, n3, n4⟩ | ⟨n1, n2⟩
        · have hn := nxL_some n1
          obtain ⟨m, rfl, hg'⟩ := gd_next hg hn
          rw [n2, kbi_s, if_neg one_ne, klet_e, nI_1, bo_go hn]
          exact ih m (by omega) _ (some (upB A cur l)) f (kk + 1) t5 hg' (by omega) (fun q h1 h2 => by
            funext j
            rw [n4 q j (by omega), s2 q h1 h2]) (row_l n3) (fun y hy => by
            cases hy
            refine ⟨hub, fun k hk2 => ?_⟩
            rw [n4 25 k (by omega)]
            exact s4 k hk2) (by omega)
        · have hn := nxL_none n1
          rw [n2, kbi_s, if_pos rfl, bo_end hn]
          exact ⟨t4, rfl, s4, s2⟩
      by_cases c : nI (cs A l 0) ≤ mI cur (-1)
      · rw [if_pos c]
        cases cur with
        | none => exact absurd (Int32.le_trans (nI_le0 (by omega)) c) (by decide)
        | some y =>
          have c5 : cs A l 0 ≤ y.1 := (nI_leI (by omega) (by have := hcur y rfl; omega)).mp c
          have hu : upB A (some y) l = y := by
            show (if y.1 < cs A l 0 then _ else y) = y
            rw [if_neg (by omega)]
          have := tail σ hE rfl (by rw [hu]; exact (hB y rfl).2)
          rw [hu] at this
          exact this
      · have hu : upB A cur l = (cs A l 0, l) := by
          cases cur with
          | none => rfl
          | some y =>
            have c5 : ¬ cs A l 0 ≤ y.1 := fun z => c ((nI_leI (by omega) (by have := hcur y rfl; omega)).mpr z)
            show (if y.1 < cs A l 0 then _ else y) = _
            rw [if_pos (by omega)]
        rw [if_neg c, if_pos hcp]
        have := tail (krow σ 25 (va_cpy (σ 24) (σ 25) (Int32.toNatClampNeg (0 : Int32)) (Int32.toNatClampNeg (0 : Int32)) (Int32.toNatClampNeg (6 : Int32)))) (fun q h1 h2 => by rw [krow_ne h2]; exact hE q h1 h2) (krow_ne (by decide)) (fun k hk2 => by
          rw [hu, krow_self, z0, z6]
          unfold va_cpy
          rw [if_pos (by omega), Nat.sub_zero, Nat.zero_add]
          exact (hr k hk2).1)
        rw [hu] at this
        exact this
theorem x_beginO {A : kN} (ok : okA A) : ∀ (m x f : Nat) (σ : kS), x + m = A 0 2 → m < f → rX 1 σ A → ∃ σ', fX4_findBestOrder_L2 f (nI x) σ = fX4_findBestOrder_L44 1000 (-1) 0 σ' ∧ (∀ q, q ≠ 23 → q ≠ 24 → σ' q = σ q) ∧ (∀ p, x ≤ p → p < A 0 2 → σ' 24 p = nI p ∧ σ' 23 p = enc (go A p)) ∧ (∀ p, p < x → σ' 24 p = σ 24 p ∧ σ' 23 p = σ 23 p) := by
  have o := ok.2.2.1
  intro m
  induction m with
  | zero =>
    intro x f σ hx hf h
    obtain ⟨f, rfl⟩ : ∃ j, f = j + 1 := ⟨f - 1, by omega⟩
    rw [fX4_findBestOrder_L2, if_pos (by rw [h.1.2.2, nI_leI (by omega) (by omega)]; omega)]
    exact ⟨σ, rfl, fun _ _ _ => rfl, fun p h1 h2 => by omega, fun _ _ => ⟨rfl, rfl⟩⟩
  | succ m ih =>
    intro x f σ hx hf h
    obtain ⟨f, rfl⟩ : ∃ j, f = j + 1 := ⟨f - 1, by omega⟩
    have hi : inb (nI x) 6 := inb_lit (by omega) (by decide)
    have e : (nI x).toNatClampNeg = x := nI_clamp (by omega)
    have h1 : rX 1 (kup σ 24 x (nI x)) A := rX_fr h (fun q _ _ => kup_ne (by omega))
    rw [fX4_findBestOrder_L2, if_neg (by rw [h.1.2.2, nI_leI (by omega) (by omega)]; omega), if_pos hi, show kup σ 24 (nI x).toNatClampNeg (nI x) = kup σ 24 x (nI x) by rw [e], x_goes h1 ok (by omega), kbi_s, if_pos hi, klet_e, nI_1, show kup (kup σ 24 x (nI x)) 23 (nI x).toNatClampNeg (enc (go A x)) = kup (kup σ 24 x (nI x)) 23 x (enc (go A x)) by rw [e]]
    obtain ⟨s', f1, f2, f3, f4⟩ := ih (x + 1) f (kup (kup σ 24 x (nI x)) 23 x (enc (go A x))) (by omega) (by omega) (rX_fr h1 (fun q _ _ => kup_ne (by omega)))
    refine ⟨s', f1, fun q a b => by rw [f2 q a b, kup_ne a, kup_ne b], fun p a b => ?_, fun p a => ?_⟩
    · by_cases d : p = x
      · subst d
        obtain ⟨g1, g2⟩ := f4 p (by omega)
        rw [g1, g2, kup_q (by decide), kup_at, kup_at]
        exact ⟨rfl, rfl⟩
      · exact f3 p (by omega) b
    · obtain ⟨g1, g2⟩ := f4 p (by omega)
      rw [g1, g2, kup_q (by decide), kup_k (by omega), kup_k (by omega), kup_q (by decide)]
      exact ⟨rfl, rfl⟩
theorem m_beginO {P : Nat} (hP : P ≤ 6) : ∀ (m x f : Nat) (τ : kS), x + m = P → m < f → τ 0 1 = nI P → ∃ τ', fX5_bestOrder_L6 f (nI x) τ = fX5_bestOrder_L32 1000 (-9) 1 τ' ∧ (∀ q, q ≠ 12 → τ' q = τ q) ∧ (∀ p, x ≤ p → p < P → τ' 12 p = nI p) ∧ (∀ p, p < x → τ' 12 p = τ 12 p) := by
  intro m
  induction m with
  | zero =>
    intro x f τ hx hf h
    obtain ⟨f, rfl⟩ : ∃ j, f = j + 1 := ⟨f - 1, by omega⟩
    rw [fX5_bestOrder_L6, if_pos (by rw [h, nI_leI (by omega) (by omega)]; omega)]
    exact ⟨τ, rfl, fun _ _ => rfl, fun p h1 h2 => by omega, fun _ _ => rfl⟩
  | succ m ih =>
    intro x f τ hx hf h
    obtain ⟨f, rfl⟩ : ∃ j, f = j + 1 := ⟨f - 1, by omega⟩
    have hi : inb (nI x) 6 := inb_lit (by omega) (by decide)
    have e : (nI x).toNatClampNeg = x := nI_clamp (by omega)
    rw [fX5_bestOrder_L6, if_neg (by rw [h, nI_leI (by omega) (by omega)]; omega), if_pos hi, klet_e, nI_1, e]
    obtain ⟨t', h1, h2, h3, h4⟩ := ih (x + 1) f (kup τ 12 x (nI x)) (by omega) (by omega) (by rw [kup_q (by omega)]; exact h)
    refine ⟨t', h1, fun q hq => by rw [h2 q hq, kup_ne hq], fun p a b => ?_, fun p a => by rw [h4 p (by omega), kup_k (by omega)]⟩
    by_cases d : p = x
    · subst d; rw [h4 p (by omega), kup_at]
    · exact h3 p (by omega) b
theorem c_order (a : Int32) : RI (fX4_order a) (fX5_order a) := by
  intro σ τ h
  have ⟨A, hA⟩ := h
  obtain ⟨ok, hx, hm, hs, hr, hc⟩ := id hA
  have o := ok.2.2.1
  unfold fX4_order fX5_order
  rw [x_nomoor hx ok, kbi_s]
  by_cases c : A 0 2 = 0
  · rw [if_pos ((m_nomoor hm ok).mpr c), if_pos c, if_neg one_ne]
    exact ⟨_, _, _, rfl, rfl, h⟩
  rw [if_neg (fun z => c ((m_nomoor hm ok).mp z)), if_neg c, if_pos rfl]
  have em1 : ((-1) : Int64).toInt = -1 := rfl
  have em5 : (5 : Int64).toInt = 5 := rfl
  have ei1 : ((-1) : Int32).toInt = -1 := rfl
  have ei6 : (6 : Int32).toInt = 6 := rfl
  by_cases cr : -1 ≤ a.toInt ∧ a.toInt ≤ 5
  · have c1 : ¬ a < -1 := by rw [Int32.lt_iff_toInt_lt, ei1]; omega
    have c2 : a < 6 := by rw [Int32.lt_iff_toInt_lt, ei6]; omega
    have c3 : fX5_in a.toInt64 (-1) 5 τ = some (1, τ) := by
      rw [m_in, if_pos]
      rw [Int64.le_iff_toInt_le, Int64.le_iff_toInt_le, Int32.toInt_toInt64, em1, em5]
      exact cr
    rw [if_neg c1, if_pos c2, c3, kbi_s, if_neg one_ne, hx.1.2.2]
    -- the reference's search
    obtain ⟨t1, k1, k2, k3⟩ := keep_all o τ hm.1.2.2
    have hm1 : rM t1 A := rM_fr hm (by rw [k2 0 (by omega)]) (by rw [k2 0 (by omega)]) (by rw [k2 0 (by omega)]) (fun q _ _ p _ => by rw [k2 q (by omega)])
    obtain ⟨t2, i1, i2, i3, -⟩ := m_beginO o (A 0 2) 0 1000 t1 (by omega) (by omega) hm1.1.2.2
    have i1 : fX5_bestOrder_L6 1000 0 t1 = fX5_bestOrder_L32 1000 (mI none (-9)) 1 t2 := i1
    have hP1 : 1 ≤ A 0 2 := by omega
    obtain ⟨t3, j1, j2, j3⟩ := m_orderL ok hP1 hm.1.2.2 hm1 k2 k3 719 (List.range (A 0 2)) none 1000 t2 (gd_all hP1 o) (fun q h1 _ => i2 q h1) (row_id o (fun k hk => i3 k (by omega) hk)) (fun y hy => by cases hy) (by omega)
    have jm : fX5_bestOrder τ = some (nI (bo A (A 0 2) 719 (List.range (A 0 2)) none).1, t3) := by
      unfold fX5_bestOrder
      rw [k1, kbv_s, i1]
      exact j1
    have key : ∀ s', sameX σ s' → RA A s' t3 := fun s' hs' => RA_same hA hs' ⟨fun j hj => by rw [j3 0 (by omega) (by omega), k2 0 (by omega)], fun q h1 h2 => by rw [j3 q (by omega) (by omega), k2 q (by omega)], fun q h1 h2 k _ => by rw [j3 q (by omega) (by omega), k2 q (by omega)]⟩
    rw [jm, kbi_s]
    by_cases c4 : a < nI (A 0 2)
    · rw [if_pos c4]
      -- the class's search
      obtain ⟨s1, x1, x2, x3, -⟩ := x_beginO ok (A 0 2) 0 1000 σ (by omega) (by omega) hx
      have x1 : fX4_findBestOrder_L2 1000 0 σ = fX4_findBestOrder_L44 1000 (mI none (-1)) 0 s1 := x1
      obtain ⟨s2, y1, y2, y3⟩ := x_orderL (s0 := s1) ok hP1 (by rw [x2 1 (by omega) (by omega)]; exact hx.1.2.2) (fun p hp => (x3 p (by omega) hp).2) 719 (List.range (A 0 2)) none 1000 0 s1 (gd_all hP1 o) (by omega) (fun _ _ _ => rfl) (row_id o (fun k hk => (x3 k (by omega) hk).1)) (fun y hy => by cases hy) (by omega)
      have y1 : fX4_findBestOrder_L44 1000 (mI none (-1)) 0 s1 = _ := y1
      have jx : fX4_findBestOrder σ = some (nI (bo A (A 0 2) 719 (List.range (A 0 2)) none).1, s2) := x1.trans y1
      have ks := key s2 (fun q hq => by rw [y3 q (by omega) (by omega), x2 q (by omega) (by omega)])
      rw [jx, kbi_s]
      by_cases c5 : 0 ≤ a
      · obtain ⟨k, hk, rfl⟩ := nI_nn (Int32.not_lt.mpr c5)
        have hkP := (nI_ltI hk (by omega)).mp c4
        have hi : inb (nI k) 6 := inb_lit (by omega) (by decide)
        have e : (nI k).toNatClampNeg = k := nI_clamp (by omega)
        have e3 : t3 0 1 = nI (A 0 2) := by rw [j3 0 (by omega) (by omega)]; exact hm1.1.2.2
        rw [if_pos c5, if_pos hi, if_pos c5, e3, if_neg (Int32.not_le.mpr c4), if_pos hi, e, y2 k hkP, j2 k hkP]
        exact ⟨_, _, _, rfl, rfl, A, ks⟩
      · rw [if_neg c5, if_neg c5]
        exact ⟨_, _, _, rfl, rfl, A, ks⟩
    · have c5 : 0 ≤ a := Int32.le_trans (nI_le0 (show A 0 2 < 2 ^ 31 by omega)) (Int32.not_lt.mp c4)
      have e3 : t3 0 1 = nI (A 0 2) := by rw [j3 0 (by omega) (by omega)]; exact hm1.1.2.2
      rw [if_neg c4, if_pos c5, e3, if_pos (Int32.not_lt.mp c4)]
      exact ⟨_, _, _, rfl, rfl, A, key σ sameX_rf⟩
  · have c3 : fX5_in a.toInt64 (-1) 5 τ = some (0, τ) := by
      rw [m_in, if_neg]
      rw [Int64.le_iff_toInt_le, Int64.le_iff_toInt_le, Int32.toInt_toInt64, em1, em5]
      exact cr
    rw [c3, kbi_s, if_pos rfl]
    by_cases c1 : a < -1
    · rw [if_pos c1]
      exact ⟨_, _, _, rfl, rfl, h⟩
    · have c2 : ¬ a < 6 := by
        rw [Int32.lt_iff_toInt_lt, ei1] at c1
        rw [Int32.lt_iff_toInt_lt, ei6]
        omega
      rw [if_neg c1, if_neg c2]
      exact ⟨_, _, _, rfl, rfl, h⟩
