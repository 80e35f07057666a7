/-! letters -/
theorem go_lt {A : kN} {p q : Nat} (h : go A p = some q) : q < A 0 2 := by
  unfold go at h
  cases hg : gst A p (A 0 2) with
  | none => rw [hg] at h; cases h
  | some z =>
    rw [hg] at h
    cases h
    exact (gst_b A p _ _ hg).1
def sdX (b : Nat) (σ : kS) (A : kN) (p : Nat) : kS := match go A p with | none => σ | some q => kup σ (b + 3) q (nI (A 2 q))
def sdM (τ : kS) (A : kN) (p : Nat) : kS := match go A p with | none => τ | some q => kup τ 3 q (nI (A 2 q))
def sdA (A : kN) (p : Nat) : kN := match go A p with | none => A | some q => nup A 3 q (A 2 q)
theorem x_deliver {b p : Nat} {σ : kS} {A : kN} (h : rX b σ A) (ok : okA A) (hp : p < A 0 2) : fX0_deliver b (nI p) σ = some (enc (go A p), sdX b σ A p) := by
  have o := ok.2.2.1
  unfold fX0_deliver sdX
  rw [x_goes h ok hp, kbi_s]
  cases hg : go A p with
  | none => rw [if_pos (show enc none = -9 from rfl)]
  | some q =>
    have hq := go_lt hg
    have hi : inb (nI q) 6 := inb_lit (by omega) (by decide)
    have e : (nI q).toNatClampNeg = q := nI_clamp (by omega)
    rw [if_neg (show ¬ enc (some q) = -9 from nI_ne9 (by omega)), if_pos (show inb (enc (some q)) 6 from hi), if_pos (show inb (enc (some q)) 6 from hi)]
    show some (enc (some q), kup σ (b + 3) (nI q).toNatClampNeg (σ (b + 2) (nI q).toNatClampNeg)) = _
    rw [e, (h.2 q hq).2.1]
theorem m_sent {p : Nat} {τ : kS} {A : kN} (h : rM τ A) (ok : okA A) (hp : p < A 0 2) : fX5_sent (nI p) τ = some (enc (go A p), sdM τ A p) := by
  have o := ok.2.2.1
  unfold fX5_sent sdM
  rw [m_goes h ok hp, kbi_s]
  cases hg : go A p with
  | none => rw [if_pos (show enc none < 0 by decide)]
  | some q =>
    have hq := go_lt hg
    have hi : inb (nI q) 6 := inb_lit (by omega) (by decide)
    have e : (nI q).toNatClampNeg = q := nI_clamp (by omega)
    rw [if_neg (show ¬ enc (some q) < 0 from nI_pos (by omega)), if_pos (show inb (enc (some q)) 6 from hi), if_pos (show inb (enc (some q)) 6 from hi)]
    show some (enc (some q), kup τ 3 (nI q).toNatClampNeg (τ 2 (nI q).toNatClampNeg)) = _
    rw [e, (h.2 q hq).2.1]
theorem sdA_02 (A : kN) (p : Nat) : sdA A p 0 2 = A 0 2 := by
  unfold sdA
  cases go A p with
  | none => rfl
  | some q => exact nup_02 (by omega)
theorem rX_sd {b p : Nat} {σ : kS} {A : kN} (h : rX b σ A) : rX b (sdX b σ A p) (sdA A p) := by
  unfold sdX sdA
  cases go A p with
  | none => exact h
  | some q => exact rX_up (q := 3) h (by omega) (by omega)
theorem rM_sd {p : Nat} {τ : kS} {A : kN} (h : rM τ A) : rM (sdM τ A p) (sdA A p) := by
  unfold sdM sdA
  cases go A p with
  | none => exact h
  | some q => exact rM_up (q := 3) h (by omega) (by omega)
theorem ok_sd {p : Nat} {A : kN} (ok : okA A) : okA (sdA A p) := by
  unfold sdA
  cases hg : go A p with
  | none => exact ok
  | some q =>
    have := (ok.2.2.2 q (go_lt hg)).2.1
    exact ok_up ok (by omega) (by omega)
theorem RA_sd {p : Nat} {σ τ : kS} {A : kN} (h : RA A σ τ) : RA (sdA A p) (sdX 1 σ A p) (sdM τ A p) := by
  unfold sdX sdM sdA
  cases hg : go A p with
  | none => exact h
  | some q =>
    have := (h.1.2.2.2 q (go_lt hg)).2.1
    exact RA_up (q := 3) h (by omega) (by omega) (by omega)
theorem c_send (a : Int32) : RI (fX4_send a) (fX5_send a) := by
  intro σ τ h
  have ⟨A, hA⟩ := h
  obtain ⟨ok, hx, hm, hs, hr, hc⟩ := id hA
  unfold fX4_send fX5_send
  rcases p_cases hx hm ok a with ⟨p, hp, rfl, e1, e2⟩ | ⟨_, e1, e2⟩
  · have h1 : RA A (kup σ 0 10 (σ 0 10 + 1)) (kup τ 0 4 (τ 0 4 + 1)) := by
      rw [← hc.1]
      exact RA_0 hA 10 4 _ (by omega)
    rw [e1, kbi_s, if_neg one_ne, e2, kbi_s, if_pos rfl, x_deliver h1.2.1 ok hp, kbi_s, m_sent h1.2.2.1 ok hp, kbi_s]
    exact ⟨_, _, _, rfl, rfl, _, RA_sd h1⟩
  · rw [e1, kbi_s, if_pos rfl, e2, kbi_s, if_neg one_ne]
    exact ⟨_, _, _, rfl, rfl, h⟩
theorem c_ofPerson (a v : Int32) : RI (fX4_ofPerson a v) (fX5_ofPerson a v) := by
  intro σ τ h
  have ⟨A, hA⟩ := h
  obtain ⟨ok, hx, hm, hs, hr, hc⟩ := id hA
  have o := ok.2.2.1
  unfold fX4_ofPerson fX5_ofPerson
  rcases p_cases hx hm ok a with ⟨p, hp, rfl, e1, e2⟩ | ⟨_, e1, e2⟩
  · have hi : inb (nI p) 6 := inb_lit (by omega) (by decide)
    have e : (nI p).toNatClampNeg = p := nI_clamp (by omega)
    obtain ⟨x1, x2, x3, x4⟩ := hx.2 p hp
    obtain ⟨m1, m2, m3, m4⟩ := hm.2 p hp
    rw [e1, kbi_s, if_neg one_ne, e2, kbi_s, if_pos rfl]
    by_cases c0 : v = 0
    · rw [if_pos c0, if_pos hi, if_pos c0, if_pos hi, e]
      exact ⟨_, _, _, rfl, by rw [m1, x1], h⟩
    rw [if_neg c0, if_neg c0]
    by_cases c1 : v = 1
    · rw [if_pos c1, if_pos hi, if_pos c1, if_pos hi, e]
      exact ⟨_, _, _, rfl, by rw [m2, x2], h⟩
    rw [if_neg c1, if_neg c1]
    by_cases c2 : v = 2
    · rw [if_pos c2, if_pos hi, if_pos c2, if_pos hi, e]
      exact ⟨_, _, _, rfl, by rw [m3, x3], h⟩
    rw [if_neg c2, if_neg c2]
    by_cases c3 : v = 3
    · rw [if_pos c3, if_pos hi, if_pos c3, if_pos hi, e]
      exact ⟨_, _, _, rfl, by rw [m4, x4], h⟩
    rw [if_neg c3, if_neg c3]
    by_cases c4 : v = 4
    · rw [if_pos c4, if_pos c4, x_scent hx ok hp, m_scent hm ok hp, kbi_s, kbi_s]
      exact ⟨_, _, _, rfl, rfl, h⟩
    rw [if_neg c4, if_neg c4]
    by_cases c5 : v = 5
    · rw [if_pos c5, if_pos c5, x_smelt hx ok hp, m_smelt hm ok hp, kbi_s, kbi_s]
      by_cases d : dd A p ≤ sc A p
      · rw [if_pos d, if_neg one_ne, if_neg one_ne]
        exact ⟨_, _, _, rfl, rfl, h⟩
      · rw [if_neg d, if_pos rfl, if_pos rfl]
        exact ⟨_, _, _, rfl, rfl, h⟩
    rw [if_neg c5, if_neg c5]
    by_cases c6 : v = 6
    · rw [if_pos c6, if_pos c6, x_goes hx ok hp, m_goes hm ok hp, kbi_s, kbi_s]
      exact ⟨_, _, _, rfl, rfl, h⟩
    rw [if_neg c6, if_neg c6]
    exact ⟨_, _, _, rfl, rfl, h⟩
  · rw [e1, kbi_s, if_pos rfl, e2, kbi_s, if_neg one_ne]
    exact ⟨_, _, _, rfl, rfl, h⟩
/-- who comes, who gets one: sets -/
def cmS (A : kN) : Nat → Int32
  | 0 => 0
  | k + 1 => if go A k = some k then cmS A k ||| ((1 : Int32) <<< (nI k &&& 31)) else cmS A k
def bitI (t : Option Nat) : Int32 := match t with | none => 0 | some q => (1 : Int32) <<< (nI q &&& 31)
def gtS (A : kN) : Nat → Int32
  | 0 => 0
  | k + 1 => gtS A k ||| bitI (go A k)
theorem enc_k {A : kN} {k p : Nat} (ok : okA A) (hk : k < A 0 2) : enc (go A p) = nI k ↔ go A p = some k := by
  have o := ok.2.2.1
  cases hg : go A p with
  | none => exact ⟨fun z => absurd z.symm (nI_ne9 (by omega)), fun z => by cases z⟩
  | some q =>
    have hq := go_lt hg
    show nI q = nI k ↔ _
    rw [nI_eq (by omega) (by omega)]
    exact ⟨fun z => by rw [z], fun z => by cases z; rfl⟩
theorem i_or0 (x : Int32) : x ||| 0 = x := by
  apply Int32.toBitVec_inj.mp
  simp
theorem x_whoseL {b : Nat} {σ : kS} {A : kN} (h : rX b σ A) (ok : okA A) : ∀ (m k n : Nat), k + m = A 0 2 → m < n → fX0_whoseCome_L4 n b (cmS A k) (nI k) σ = some (cmS A (A 0 2), σ) := by
  have o := ok.2.2.1
  intro m
  induction m with
  | zero =>
    intro k n hk hn
    obtain ⟨n, rfl⟩ : ∃ j, n = j + 1 := ⟨n - 1, by omega⟩
    rw [fX0_whoseCome_L4, if_pos (by rw [h.1.2.2, nI_leI (by omega) (by omega)]; omega)]
    rw [show k = A 0 2 by omega]
  | succ m ih =>
    intro k n hk hn
    obtain ⟨n, rfl⟩ : ∃ j, n = j + 1 := ⟨n - 1, by omega⟩
    rw [fX0_whoseCome_L4, if_neg (by rw [h.1.2.2, nI_leI (by omega) (by omega)]; omega), x_goes h ok (show k < A 0 2 by omega), kbi_s]
    have hx := ih (k + 1) n (by omega) (by omega)
    by_cases c : go A k = some k
    · rw [if_pos ((enc_k ok (by omega)).mpr c), klet_e, klet_e, nI_1]
      rw [show cmS A (k + 1) = cmS A k ||| ((1 : Int32) <<< (nI k &&& 31)) by simp only [cmS, if_pos c]] at hx
      exact hx
    · rw [if_neg (fun z => c ((enc_k ok (by omega)).mp z)), klet_e, nI_1]
      rw [show cmS A (k + 1) = cmS A k by simp only [cmS, if_neg c]] at hx
      exact hx
theorem x_whose {b : Nat} {σ : kS} {A : kN} (h : rX b σ A) (ok : okA A) : fX0_whoseCome b σ = some (cmS A (A 0 2), σ) := by
  have o := ok.2.2.1
  exact x_whoseL h ok (A 0 2) 0 1000 (by omega) (by omega)
theorem x_with {x : Int32} {t : Option Nat} (ht : ∀ q, t = some q → q < 6) (σ : kS) : fX4_withOne x (enc t) σ = some (x ||| bitI t, σ) := by
  unfold fX4_withOne
  cases t with
  | none => rw [if_pos (show enc none = -9 from rfl)]; simp only [bitI, i_or0]
  | some q =>
    have := ht q rfl
    rw [if_neg (show ¬ enc (some q) = -9 from nI_ne9 (by omega))]
    rfl
theorem x_gettersL {b : Nat} {σ : kS} {A : kN} (h : rX b σ A) (ok : okA A) : ∀ (m k n : Nat), k + m = A 0 2 → m < n → fX0_whoGetOne_L4 n b (gtS A k) (nI k) σ = some (gtS A (A 0 2), σ) := by
  have o := ok.2.2.1
  intro m
  induction m with
  | zero =>
    intro k n hk hn
    obtain ⟨n, rfl⟩ : ∃ j, n = j + 1 := ⟨n - 1, by omega⟩
    rw [fX0_whoGetOne_L4, if_pos (by rw [h.1.2.2, nI_leI (by omega) (by omega)]; omega)]
    rw [show k = A 0 2 by omega]
  | succ m ih =>
    intro k n hk hn
    obtain ⟨n, rfl⟩ : ∃ j, n = j + 1 := ⟨n - 1, by omega⟩
    rw [fX0_whoGetOne_L4, if_neg (by rw [h.1.2.2, nI_leI (by omega) (by omega)]; omega), x_goes h ok (show k < A 0 2 by omega), kbi_s, x_with (fun q hq => by have := go_lt hq; omega), kbi_s, klet_e, nI_1]
    exact ih (k + 1) n (by omega) (by omega)
theorem x_getters {b : Nat} {σ : kS} {A : kN} (h : rX b σ A) (ok : okA A) : fX0_whoGetOne b σ = some (gtS A (A 0 2), σ) := by
  have o := ok.2.2.1
  exact x_gettersL h ok (A 0 2) 0 1000 (by omega) (by omega)
theorem m_comesL {τ : kS} {A : kN} (h : rM τ A) (ok : okA A) (v : Int32) : ∀ (m k n : Nat), k + m = A 0 2 → m < n → fX5_comes_L30 n v (cmS A k) (gtS A k) (nI k) τ = some (if v = 0 then cmS A (A 0 2) else gtS A (A 0 2), τ) := by
  have o := ok.2.2.1
  intro m
  induction m with
  | zero =>
    intro k n hk hn
    obtain ⟨n, rfl⟩ : ∃ j, n = j + 1 := ⟨n - 1, by omega⟩
    rw [fX5_comes_L30, if_pos (by rw [h.1.2.2, nI_leI (by omega) (by omega)]; omega)]
    rw [show k = A 0 2 by omega]
    by_cases c : v = 0
    · rw [if_pos c, if_pos c]
    · rw [if_neg c, if_neg c]
  | succ m ih =>
    intro k n hk hn
    obtain ⟨n, rfl⟩ : ∃ j, n = j + 1 := ⟨n - 1, by omega⟩
    rw [fX5_comes_L30, if_neg (by rw [h.1.2.2, nI_leI (by omega) (by omega)]; omega), m_goes h ok (show k < A 0 2 by omega), kbi_s]
    have hx := ih (k + 1) n (by omega) (by omega)
    have key : ∀ y : Int32, cmS A (k + 1) = cmS A k ||| y → fX5_comes_J63 (fX5_comes_L30 n) v (gtS A k) (nI k) (enc (go A k)) y (cmS A k) τ = some (if v = 0 then cmS A (A 0 2) else gtS A (A 0 2), τ) := by
      intro y hy
      unfold fX5_comes_J63
      rw [klet_e, ← hy]
      have hg : gtS A (k + 1) = gtS A k ||| bitI (go A k) := rfl
      rw [hg] at hx
      cases hgo : go A k with
      | none =>
        rw [if_neg (show ¬ 0 ≤ enc none by decide), klet_e, klet_e, nI_1]
        rw [hgo] at hx
        exact hx
      | some q =>
        have hq := go_lt hgo
        rw [if_pos (show 0 ≤ enc (some q) from nI_le0 (by omega)), klet_e, klet_e, nI_1]
        rw [hgo] at hx
        exact hx
    by_cases c : go A k = some k
    · rw [if_pos ((enc_k ok (by omega)).mpr c)]
      exact key _ (by simp only [cmS, if_pos c])
    · rw [if_neg (fun z => c ((enc_k ok (by omega)).mp z))]
      exact key _ (by simp only [cmS, if_neg c, i_or0])
theorem c_comes (v : Int32) : RI (fX4_comes v) (fX5_comes v) := by
  intro σ τ h
  have ⟨A, hA⟩ := h
  obtain ⟨ok, hx, hm, hs, hr, hc⟩ := id hA
  have o := ok.2.2.1
  unfold fX4_comes fX5_comes
  rw [x_nomoor hx ok, kbi_s]
  by_cases c : A 0 2 = 0
  · rw [if_pos ((m_nomoor hm ok).mpr c), if_pos c, if_neg one_ne]
    exact ⟨_, _, _, rfl, rfl, h⟩
  · rw [if_neg (fun z => c ((m_nomoor hm ok).mp z)), if_neg c, if_pos rfl, x_whose hx ok, kbi_s, x_getters hx ok, kbi_s]
    have hl := m_comesL hm ok v (A 0 2) 0 1000 (by omega) (by omega)
    have hl : fX5_comes_L30 1000 v 0 0 0 τ = some (if v = 0 then cmS A (A 0 2) else gtS A (A 0 2), τ) := hl
    rcases rng_cases v 2 (by decide) with ⟨k, hk, rfl⟩ | hk
    · rw [m_in1 k 0 1 (by omega) (by decide) _ 0 1 rfl rfl, kbi_s, if_neg one_ne, hl]
      rcases (show k = 0 ∨ k = 1 by omega) with z | z
      · rw [z, if_pos (show nI 0 = 0 from rfl), if_pos (show nI 0 = 0 from rfl)]
        exact ⟨_, _, _, rfl, rfl, h⟩
      · rw [z, if_neg (show ¬ nI 1 = 0 by decide), if_pos (show nI 1 = 1 from rfl), if_neg (show ¬ nI 1 = 0 by decide)]
        exact ⟨_, _, _, rfl, rfl, h⟩
    · have c0 : ¬ v = 0 := fun z => by rw [z, show (0 : Int32).toInt = 0 from rfl] at hk; omega
      have c1 : ¬ v = 1 := fun z => by rw [z, show (1 : Int32).toInt = 1 from rfl] at hk; omega
      rw [m_in0 v 0 1 (by omega) (by decide) (by decide) _ 0 1 rfl rfl, kbi_s, if_pos rfl, if_neg c0, if_neg c1]
      exact ⟨_, _, _, rfl, rfl, h⟩
