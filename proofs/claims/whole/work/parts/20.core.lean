/-! THE WORLD of this claim: 47 cells, whose shapes never change once they are made; what they hold is one function of cell and place. -/
abbrev kS : Type := Nat → Nat → Int32
abbrev kE : Type := (Nat → ClassId) × (Nat → Nat → Nat) × ClassId × ClassId × (Nat → Nat)
abbrev eD (E : kE) : va_G := (E.1, E.2.1)
abbrev eA (E : kE) : ClassId := E.2.2.1
abbrev eS (E : kE) : ClassId := E.2.2.2.1
abbrev ead (E : kE) : Nat → Nat := E.2.2.2.2
abbrev kTys (E : kE) : List (ClassId × FieldType) := [(eA E, .int), (eS E, .object "NosePost$Sheet")]
/-- the shape of a cell: an int array's length, or an object's class (by its place in vwCl) and fields (a reference by its cell) -/
def wsh : Nat → Nat ⊕ (Nat × List (Option Nat))
  | 0 => .inr (3, [some 1, some 6, some 11, some 20, some 21, some 22, some 23, some 24, some 25, none, none, none, none])
  | 1 => .inr (0, [none, none, none, some 2, some 3, some 4, some 5])
  | 2 => .inl 6
  | 3 => .inl 6
  | 4 => .inl 6
  | 5 => .inl 6
  | 6 => .inr (0, [none, none, none, some 7, some 8, some 9, some 10])
  | 7 => .inl 6
  | 8 => .inl 6
  | 9 => .inl 6
  | 10 => .inl 6
  | 11 => .inr (9, [])
  | 12 => .inr (1, [none, none, none, some 16])
  | 13 => .inr (1, [none, none, none, some 17])
  | 14 => .inr (1, [none, none, none, some 18])
  | 15 => .inr (1, [none, none, none, some 19])
  | 16 => .inl 60
  | 17 => .inl 60
  | 18 => .inl 60
  | 19 => .inl 60
  | 20 => .inr (2, [none, none, none, none])
  | 21 => .inl 8
  | 22 => .inl 8
  | 23 => .inl 6
  | 24 => .inl 6
  | 25 => .inl 6
  | 26 => .inr (4, [none, none, none, none, none, some 27, some 28, some 29, some 30, none, none, some 31, some 32, some 33, some 34, none, none, some 35, some 36, some 37, some 38, some 39, some 40, none, some 41, some 42, some 43, some 44, some 45, some 46, none])
  | 40 => .inl 64
  | 41 => .inl 8
  | 42 => .inl 8
  | 43 => .inl 4
  | 44 => .inl 4
  | 45 => .inl 240
  | 46 => .inl 60
  | _ => .inl 6
def kfs (E : kE) (ρ : kS) (q : Nat) : Nat → List (Option Nat) → List Value
  | _, [] => []
  | j, some r :: t => .ref (ead E r) :: kfs E ρ q (j + 1) t
  | j, none :: t => .int (ρ q j) :: kfs E ρ q (j + 1) t
def kce (E : kE) (ρ : kS) (q : Nat) : va_E := if q = 11 then .inl (eS E, 4, .inr (.inr (.inr (.inr (fun i => some (ead E (12 + i))))))) else match wsh q with
  | .inl n => .inl (eA E, n, .inl (ρ q))
  | .inr o => .inr (o.1, kfs E ρ q 0 o.2)
def kwd (E : kE) (ρ : kS) : va_W := (List.range 47).map (fun q => (ead E q, kce E ρ q))
def kup (ρ : kS) (q k : Nat) (x : Int32) : kS := fun q' j => if q' = q ∧ j = k then x else ρ q' j
def cmb (σ τ : kS) : kS := fun q => if q < 26 then σ q else τ (q - 26)
theorem cmb_lo {σ τ : kS} {q : Nat} (h : q < 26) : cmb σ τ q = σ q := by simp [cmb, h]
theorem cmb_hi {σ τ : kS} (q : Nat) : cmb σ τ (26 + q) = τ q := by
  have h : ¬ 26 + q < 26 := by omega
  simp [cmb, h, Nat.add_sub_cancel_left]
theorem kup_lo {σ τ : kS} {q k : Nat} {x : Int32} (h : q < 26) : kup (cmb σ τ) q k x = cmb (kup σ q k x) τ := by
  funext q' j
  by_cases hq : q' < 26
  · simp [kup, cmb, hq]
  · have hne : ¬ q' = q := by omega
    simp [kup, cmb, hq, hne]
theorem kup_hi {σ τ : kS} {q k : Nat} {x : Int32} : kup (cmb σ τ) (26 + q) k x = cmb σ (kup τ q k x) := by
  funext q' j
  by_cases hq : q' < 26
  · have hne : ¬ q' = 26 + q := by omega
    simp [kup, cmb, hq, hne]
  · have e : (q' = 26 + q) = (q' - 26 = q) := propext (by omega)
    simp [kup, cmb, hq, e]
/-- a row replaced whole -/
def krow (ρ : kS) (q : Nat) (f : Nat → Int32) : kS := fun q' => if q' = q then f else ρ q'
theorem krow_lo {σ τ : kS} {q : Nat} {f : Nat → Int32} (h : q < 26) : krow (cmb σ τ) q f = cmb (krow σ q f) τ := by
  funext q'
  by_cases hq : q' < 26
  · simp [krow, cmb, hq]
  · have hne : ¬ q' = q := by omega
    simp [krow, cmb, hq, hne]
theorem kwd_at (E : kE) (ρ : kS) {q : Nat} (h : q < 47) : (kwd E ρ)[q]? = some (ead E q, kce E ρ q) := by
  unfold kwd
  rw [List.getElem?_map, List.getElem?_range h]
  rfl
theorem kwd_inv {E : kE} {ρ : kS} {q : Nat} {x : Nat × va_E} (h : (kwd E ρ)[q]? = some x) : q < 47 ∧ x.1 = ead E q := by
  have hl : q < (kwd E ρ).length := (List.getElem?_eq_some_iff.mp h).1
  have hl' : q < 47 := by simpa [kwd] using hl
  rw [kwd_at E ρ hl'] at h
  cases h
  exact ⟨hl', rfl⟩
theorem kwd_set (E : kE) {ρ ρ' : kS} {q : Nat} {x : va_E} (hq : q < 47) (hx : x = kce E ρ' q) (h : ∀ p, p ≠ q → ρ' p = ρ p) : (kwd E ρ).set q (ead E q, x) = kwd E ρ' := by
  subst hx
  apply List.ext_getElem?
  intro i
  by_cases hi : i < 47
  · by_cases hiq : i = q
    · subst hiq
      rw [List.getElem?_set_self (by simpa [kwd] using hi), kwd_at E ρ' hi]
    · rw [List.getElem?_set_ne (Ne.symm hiq), kwd_at E ρ hi, kwd_at E ρ' hi]
      have hk : kfs E ρ i = kfs E ρ' i := by
        funext j fs
        induction fs generalizing j with
        | nil => rfl
        | cons a t ih => cases a <;> simp [kfs, ih, h i hiq]
      simp only [kce, h i hiq, hk]
  · have h1 : ((kwd E ρ).set q (ead E q, kce E ρ' q))[i]? = none := by
      rw [List.getElem?_eq_none_iff]; simp [kwd]; omega
    have h2 : (kwd E ρ')[i]? = none := by
      rw [List.getElem?_eq_none_iff]; simp [kwd]; omega
    rw [h1, h2]
theorem kce_arr {E : kE} {ρ : kS} {q n : Nat} (h : wsh q = .inl n) : kce E ρ q = .inl (eA E, n, .inl (ρ q)) := by
  have hq : ¬ q = 11 := fun e => by subst e; cases h
  simp [kce, hq, h]
theorem kce_obj {E : kE} {ρ : kS} {q ci : Nat} {fs : List (Option Nat)} (h : wsh q = .inr (ci, fs)) (hc : ci ≠ 9) : kce E ρ q = .inr (ci, kfs E ρ q 0 fs) := by
  have hq : ¬ q = 11 := fun e => by subst e; cases h; exact hc rfl
  simp [kce, hq, h]
theorem kfs_int {E : kE} {ρ : kS} {q : Nat} : ∀ (fs : List (Option Nat)) (j k : Nat), fs[k]? = some none → (kfs E ρ q j fs)[k]? = some (.int (ρ q (j + k)))
  | [], _, _, h => by simp at h
  | some r :: t, j, 0, h => by simp at h
  | none :: t, j, 0, h => by simp [kfs]
  | some r :: t, j, k + 1, h => by
    have := kfs_int (E := E) (ρ := ρ) (q := q) t (j + 1) k (by simpa using h)
    simp only [kfs, List.getElem?_cons_succ, this]
    congr 3; omega
  | none :: t, j, k + 1, h => by
    have := kfs_int (E := E) (ρ := ρ) (q := q) t (j + 1) k (by simpa using h)
    simp only [kfs, List.getElem?_cons_succ, this]
    congr 3; omega
theorem kfs_ref {E : kE} {ρ : kS} {q r : Nat} : ∀ (fs : List (Option Nat)) (j k : Nat), fs[k]? = some (some r) → (kfs E ρ q j fs)[k]? = some (.ref (ead E r))
  | [], _, _, h => by simp at h
  | some r' :: t, j, 0, h => by simp at h; simp [kfs, h]
  | none :: t, j, 0, h => by simp at h
  | some r' :: t, j, k + 1, h => by
    have := kfs_ref (E := E) (ρ := ρ) (q := q) t (j + 1) k (by simpa using h)
    simp only [kfs, List.getElem?_cons_succ, this]
  | none :: t, j, k + 1, h => by
    have := kfs_ref (E := E) (ρ := ρ) (q := q) t (j + 1) k (by simpa using h)
    simp only [kfs, List.getElem?_cons_succ, this]
theorem kfs_len {E : kE} {ρ : kS} {q : Nat} : ∀ (fs : List (Option Nat)) (j : Nat), (kfs E ρ q j fs).length = fs.length
  | [], _ => rfl
  | some _ :: t, j => by simp [kfs, kfs_len t]
  | none :: t, j => by simp [kfs, kfs_len t]
theorem kfs_set {E : kE} {ρ : kS} {q : Nat} {x : Int32} : ∀ (fs : List (Option Nat)) (j k : Nat), fs[k]? = some none → (kfs E ρ q j fs).set k (.int x) = kfs E (kup ρ q (j + k) x) q j fs
  | [], _, _, h => by simp at h
  | some r :: t, j, 0, h => by simp at h
  | none :: t, j, 0, h => by
    have e : ∀ (fs : List (Option Nat)) (i : Nat), j < i → kfs E (kup ρ q j x) q i fs = kfs E ρ q i fs := by
      intro fs
      induction fs with
      | nil => intro i _; rfl
      | cons a t ih =>
        intro i hi
        have hne : ¬ i = j := by omega
        cases a <;> simp [kfs, ih (i + 1) (by omega), kup, hne]
    simp [kfs, e t (j + 1) (by omega), kup]
  | some r :: t, j, k + 1, h => by
    have := kfs_set (E := E) (ρ := ρ) (q := q) (x := x) t (j + 1) k (by simpa using h)
    have e : j + 1 + k = j + (k + 1) := by omega
    rw [e] at this
    simp only [kfs, List.set_cons_succ, this]
  | none :: t, j, k + 1, h => by
    have := kfs_set (E := E) (ρ := ρ) (q := q) (x := x) t (j + 1) k (by simpa using h)
    have e : j + 1 + k = j + (k + 1) := by omega
    rw [e] at this
    have hne : ¬ j = j + (k + 1) := by omega
    simp [kfs, this, kup, hne]
theorem kup_ne {ρ : kS} {q k p : Nat} {x : Int32} (h : p ≠ q) : kup ρ q k x p = ρ p := by
  funext j; simp [kup, h]
theorem kup_upd {ρ : kS} {q k : Nat} {x : Int32} : kup ρ q k x q = upd (ρ q) k x := by
  funext j; simp [kup, upd]
theorem krow_ne {ρ : kS} {q p : Nat} {f : Nat → Int32} (h : p ≠ q) : krow ρ q f p = ρ p := by simp [krow, h]
theorem krow_self {ρ : kS} {q : Nat} {f : Nat → Int32} : krow ρ q f q = f := by simp [krow]
-- shapes by name
abbrev xA (q n : Nat) : Prop := wsh q = .inl n ∧ q < 26
abbrev isM (q : Nat) : Prop := wsh q = .inr (0, [none, none, none, some (q + 1), some (q + 2), some (q + 3), some (q + 4)]) ∧ q < 26 ∧ xA (q + 1) 6 ∧ xA (q + 2) 6 ∧ xA (q + 3) 6 ∧ xA (q + 4) 6
abbrev isSh (q : Nat) : Prop := wsh q = .inr (1, [none, none, none, some (q + 4)]) ∧ q < 26 ∧ xA (q + 4) 60
theorem isM_1 : isM 1 := by decide +kernel
theorem isM_6 : isM 6 := by decide +kernel
theorem isSh_k : ∀ k, k < 4 → isSh (12 + k) := by decide +kernel
-- the words of the tables
theorem kgw {w : Cond} (h : w ∈ kBIG) : (w.onTables && w.keeps) = true ∨ ∃ ty, w = .arrayClass ty := good_of_word (kBIG_good h)
def wk (y : MethodName) (b : ByteArray) (n : Nat) (ret : Option FieldType) : List Cond := .code y b n ret :: kBIG
def rml (k : Nat) : Room := { frames := k, cells := 0, slots := 0, locals := 40 * k }
theorem kg_wk {y : MethodName} {b : ByteArray} {n : Nat} {ret : Option FieldType} (h : Cond.code y b n ret ∈ kBIG) : GoodIn kBIG (wk y b n ret) := fun w hw => by
  rcases List.mem_cons.mp hw with rfl | hw
  · exact ⟨h, kgw h⟩
  · exact ⟨hw, kgw hw⟩
theorem kg_V {own C : String} {i n : Nat} {y : MethodName} {b : ByteArray} {ret : Option FieldType} (h1 : Cond.methodLink own i y ∈ kBIG) (h2 : Cond.instanceMethod y ∈ kBIG) (h3 : Cond.selects C y y ∈ kBIG) (h4 : Cond.initialized C ∈ kBIG) (h5 : Cond.code y b n ret ∈ kBIG) : GoodIn kBIG (wsV own i C y (wk y b n ret)) := fun w hw => by
  rcases List.mem_append.mp hw with hw | hw
  · simp only [List.mem_cons, List.not_mem_nil, or_false] at hw
    rcases hw with rfl | rfl | rfl | rfl
    · exact ⟨h1, kgw h1⟩
    · exact ⟨h2, kgw h2⟩
    · exact ⟨h3, kgw h3⟩
    · exact ⟨h4, kgw h4⟩
  · exact kg_wk h5 w hw
theorem kg_S {own : String} {i n : Nat} {y : MethodName} {b : ByteArray} {ret : Option FieldType} (h1 : Cond.methodLink own i y ∈ kBIG) (h2 : Cond.static y ∈ kBIG) (h4 : Cond.initialized y.cls ∈ kBIG) (h5 : Cond.code y b n ret ∈ kBIG) : GoodIn kBIG (va_wsS own i y (wk y b n ret)) := fun w hw => by
  rcases List.mem_append.mp hw with hw | hw
  · simp only [List.mem_cons, List.not_mem_nil, or_false] at hw
    rcases hw with rfl | rfl | rfl
    · exact ⟨h1, kgw h1⟩
    · exact ⟨h2, kgw h2⟩
    · exact ⟨h4, kgw h4⟩
  · exact kg_wk h5 w hw
-- the world at a state, and in the middle of a method
def kInj (E : kE) : Prop := ∀ i j, i < 47 → j < 47 → ead E i = ead E j → i = j
def kNw (U : State) : Prop := va_Nw (.methodLinkNest "NosePost$Moor" 60 yX4_withOne "NosePost") U ∧ va_Nw (.methodLinkNest "NosePost$Tally" 24 yX4_withOne "NosePost") U ∧ va_Nw (.methodLinkNest "NosePost$Text" 18 yX4_isBelow "NosePost") U
theorem kNw.warm {s U : State} (hW : s.WarmedH U.vm) (h : kNw s) : kNw U := ⟨h.1.warmM hW, h.2.1.warmM hW, h.2.2.warmM hW⟩
theorem kNw.same {s U : State} (hW : s.vm = U.vm) (h : kNw s) : kNw U := ⟨h.1.same rfl hW, h.2.1.same rfl hW, h.2.2.same rfl hW⟩
def kA (E : kE) (sz : Nat) : Nat → Prop := fun a => (∃ k, k < 47 ∧ a = ead E k) ∨ sz ≤ a
def kWo (E : kE) (ρ : kS) (U : State) : Prop := va_P (eD E) vwCl (kwd E ρ) U.heap ∧ va_K (eD E) vwCl (kTys E) U ∧ kInj E ∧ kNw U
def kWS (E : kE) (s : State) (ρ : kS) (H : Heap) (locs : List Loc) : Prop := va_P (eD E) vwCl (kwd E ρ) H ∧ va_K (eD E) vwCl (kTys E) s ∧ kInj E ∧ va_S (kA E s.heap.size) s.heap H locs ∧ kNw s
theorem kD {E : kE} (h : kInj E) (sz : Nat) (ρ : kS) : va_D (kA E sz) (kwd E ρ) := by
  refine ⟨fun i j p q hi hj hpq => ?_, fun k q hk => ?_⟩
  · obtain ⟨h1, e1⟩ := kwd_inv hi
    obtain ⟨h2, e2⟩ := kwd_inv hj
    exact h i j h1 h2 (by rw [← e1, ← e2]; exact hpq)
  · obtain ⟨h1, e1⟩ := kwd_inv hk
    exact Or.inl ⟨k, h1, e1⟩
theorem kA_le {E : kE} {a b : Nat} (h : a ≤ b) : ∀ q, kA E b q → kA E a q := fun q hq => hq.elim Or.inl (fun hq => Or.inr (Nat.le_trans h hq))
def kpost (ret : Option FieldType) (r x : Int32) : Prop := x = r ∧ (ret = some .boolean → x = 0 ∨ x = 1)
def kMetI (l : Launch) (y : MethodName) (b : ByteArray) (n : Nat) (ret : Option FieldType) (lv : Nat) (E : kE) (As : List Value) (ρ : kS) (r : Int32) (ρ' : kS) : Prop :=
  ∀ sz : Nat, Met l y (wk y b n ret) (rml lv) (va_Pc As (fun U => U.heap.size = sz ∧ kWo E ρ U)) (va_Qi (fun x (_ : Unit) => kpost ret r x) (fun _ t => kWo E ρ' t) (kA E sz)) 0 0 (kA E sz)
def kMetL (l : Launch) (y : MethodName) (b : ByteArray) (n : Nat) (lv : Nat) (E : kE) (As : List Value) (ρ : kS) (r : Int64) (ρ' : kS) : Prop :=
  ∀ sz : Nat, Met l y (wk y b n (some .long)) (rml lv) (va_Pc As (fun U => U.heap.size = sz ∧ kWo E ρ U)) (va_Ql (fun x (_ : Unit) => x = r) (fun _ t => kWo E ρ' t) (kA E sz)) 0 0 (kA E sz)
def kMetV (l : Launch) (y : MethodName) (b : ByteArray) (n : Nat) (lv : Nat) (E : kE) (As : List Value) (ρ : kS) (ρ' : kS) : Prop :=
  ∀ sz : Nat, Met l y (wk y b n none) (rml lv) (va_Pc As (fun U => U.heap.size = sz ∧ kWo E ρ U)) (va_Qv (fun (_ : Unit) => True) (fun _ t => kWo E ρ' t) (kA E sz)) 0 0 (kA E sz)
def kRetI (p : Program) (l : Launch) (e : Env) (R : Room) (s : State) (m : MethodId) (args : Array Value) (below : List Frame) (meth : Method) (c : Code) (cc : ByteArray) (E : kE) (Q : State → Prop) (ret : Option FieldType) (r : Int32) (ρ' : kS) : Prop :=
  ∀ (pc : Nat) (ls : Array Slot) (H : Heap) (locs : List Loc), decode cc pc = .ok (.ireturn, 1) → kWS E s ρ' H locs → (ret = some .boolean → r = 0 ∨ r = 1) → W p l e R s m args below meth c H locs 0 0 Q (F0 m pc ls [.int r])
def kRetL (p : Program) (l : Launch) (e : Env) (R : Room) (s : State) (m : MethodId) (args : Array Value) (below : List Frame) (meth : Method) (c : Code) (cc : ByteArray) (E : kE) (Q : State → Prop) (r : Int64) (ρ' : kS) : Prop :=
  ∀ (pc : Nat) (ls : Array Slot) (H : Heap) (locs : List Loc), decode cc pc = .ok (.lreturn, 1) → kWS E s ρ' H locs → W p l e R s m args below meth c H locs 0 0 Q (F0 m pc ls [.long r])
def kRetV (p : Program) (l : Launch) (e : Env) (R : Room) (s : State) (m : MethodId) (args : Array Value) (below : List Frame) (meth : Method) (c : Code) (cc : ByteArray) (E : kE) (Q : State → Prop) (ρ' : kS) : Prop :=
  ∀ (pc : Nat) (ls : Array Slot) (H : Heap) (locs : List Loc), decode cc pc = .ok (.return_, 1) → kWS E s ρ' H locs → W p l e R s m args below meth c H locs 0 0 Q (F0 m pc ls [])
theorem kEntry {E : kE} {ρ : kS} {s : State} (h : kWo E ρ s) : kWS E s ρ s.heap [] := ⟨h.1, h.2.1, h.2.2.1, va_S.rf, h.2.2.2⟩
set_option maxHeartbeats 4000000 in
theorem kMetI.of {l : Launch} {y : MethodName} {b : ByteArray} {n : Nat} {ret : Option FieldType} {lv : Nat} {E : kE} {As : List Value} {ρ : kS} {r : Int32} {ρ' : kS} (hy : plainName y.cls = true) (hn : (lg_sl As).length ≤ n) (hret : ret = some .int ∨ ret = some .boolean)
    (body : ∀ (p : Program) (e : Env) (s : State) (m : MethodId) (args : Array Value) (below : List Frame) (meth : Method) (c : Code) (Q : State → Prop) (ls : Array Slot), CallFix p m c b n s args kBIG y.cls → kRetI p l e (rml lv) s m args below meth c b E Q ret r ρ' → kWS E s ρ s.heap [] → lv_has ls n (lv_args 0 As) → W p l e (rml lv) s m args below meth c s.heap [] 0 0 Q (F0 m 0 ls [])) : kMetI l y b n ret lv E As ρ r ρ' := by
  intro sz
  refine Met.ofW (cc := b) (maxL := n) (ret := ret) hy rfl ?_
  intro p e s m args below meth c s₁ B hml hv
  obtain ⟨rfl, hsz, hW⟩ := hv
  subst hsz
  have hts : ∀ w ∈ wk y b n ret, w.before As.toArray s = true := atoms_spec (ws := wk y b n ret) B.pre
  have hr := B.returns
  have hlocks := B.notSynchronized
  rw [lg_entry_eq]
  refine body p e s m As.toArray below meth c _ _ ⟨B.exec, B.bytes, hml, findClass_of_methodNamed B.named, fun w h => hts w (List.mem_cons_of_mem _ h)⟩ ?_ (kEntry hW) (lv_entry As hn)
  intro pc ls H locs hdg hw hz
  obtain ⟨hP, hK, hI, hS, hN⟩ := hw
  have hn2 : ∀ ty, ret = some ty → narrow ty (.int r) = .int r := by
    intro ty hty
    rcases hret with h | h
    · rw [h] at hty; cases hty; rfl
    · rcases hz h with rfl | rfl <;> (rw [h] at hty; cases hty; rfl)
  obtain ⟨ty, hty⟩ : ∃ ty, ret = some ty := by rcases hret with h | h <;> exact ⟨_, h⟩
  refine W.zret (ty := ty) B.exec B.bytes (by rw [hr, hty]) (hn2 ty hty) (fun t ht hWm => ⟨⟨r, (), rfl, ⟨rfl, hz⟩, ?_⟩, hS.F ht⟩) hS.2.2 hdg
  exact ⟨by rw [ht]; exact hP, va_K.moved hWm.alike hK, hI, hN.warm hWm⟩
set_option maxHeartbeats 4000000 in
theorem kMetL.of {l : Launch} {y : MethodName} {b : ByteArray} {n : Nat} {lv : Nat} {E : kE} {As : List Value} {ρ : kS} {r : Int64} {ρ' : kS} (hy : plainName y.cls = true) (hn : (lg_sl As).length ≤ n)
    (body : ∀ (p : Program) (e : Env) (s : State) (m : MethodId) (args : Array Value) (below : List Frame) (meth : Method) (c : Code) (Q : State → Prop) (ls : Array Slot), CallFix p m c b n s args kBIG y.cls → kRetL p l e (rml lv) s m args below meth c b E Q r ρ' → kWS E s ρ s.heap [] → lv_has ls n (lv_args 0 As) → W p l e (rml lv) s m args below meth c s.heap [] 0 0 Q (F0 m 0 ls [])) : kMetL l y b n lv E As ρ r ρ' := by
  intro sz
  refine Met.ofW (cc := b) (maxL := n) (ret := some .long) hy rfl ?_
  intro p e s m args below meth c s₁ B hml hv
  obtain ⟨rfl, hsz, hW⟩ := hv
  subst hsz
  have hts : ∀ w ∈ wk y b n (some .long), w.before As.toArray s = true := atoms_spec (ws := wk y b n (some .long)) B.pre
  have hr := B.returns
  have hlocks := B.notSynchronized
  rw [lg_entry_eq]
  refine body p e s m As.toArray below meth c _ _ ⟨B.exec, B.bytes, hml, findClass_of_methodNamed B.named, fun w h => hts w (List.mem_cons_of_mem _ h)⟩ ?_ (kEntry hW) (lv_entry As hn)
  intro pc ls H locs hdg hw
  obtain ⟨hP, hK, hI, hS, hN⟩ := hw
  refine W.lret B.exec B.bytes hr (fun t ht hWm => ⟨⟨r, (), rfl, rfl, ?_⟩, hS.F ht⟩) hS.2.2 hdg
  exact ⟨by rw [ht]; exact hP, va_K.moved hWm.alike hK, hI, hN.warm hWm⟩
set_option maxHeartbeats 4000000 in
theorem kMetV.of {l : Launch} {y : MethodName} {b : ByteArray} {n : Nat} {lv : Nat} {E : kE} {As : List Value} {ρ : kS} {ρ' : kS} (hy : plainName y.cls = true) (hn : (lg_sl As).length ≤ n)
    (body : ∀ (p : Program) (e : Env) (s : State) (m : MethodId) (args : Array Value) (below : List Frame) (meth : Method) (c : Code) (Q : State → Prop) (ls : Array Slot), CallFix p m c b n s args kBIG y.cls → kRetV p l e (rml lv) s m args below meth c b E Q ρ' → kWS E s ρ s.heap [] → lv_has ls n (lv_args 0 As) → W p l e (rml lv) s m args below meth c s.heap [] 0 0 Q (F0 m 0 ls [])) : kMetV l y b n lv E As ρ ρ' := by
  intro sz
  refine Met.ofW (cc := b) (maxL := n) (ret := none) hy rfl ?_
  intro p e s m args below meth c s₁ B hml hv
  obtain ⟨rfl, hsz, hW⟩ := hv
  subst hsz
  have hts : ∀ w ∈ wk y b n none, w.before As.toArray s = true := atoms_spec (ws := wk y b n none) B.pre
  have hr := B.returns
  have hlocks := B.notSynchronized
  rw [lg_entry_eq]
  refine body p e s m As.toArray below meth c _ _ ⟨B.exec, B.bytes, hml, findClass_of_methodNamed B.named, fun w h => hts w (List.mem_cons_of_mem _ h)⟩ ?_ (kEntry hW) (lv_entry As hn)
  intro pc ls H locs hdg hw
  obtain ⟨hP, hK, hI, hS, hN⟩ := hw
  refine W.vret B.exec B.bytes hr (fun t ht hWm => ⟨⟨(), rfl, trivial, ?_⟩, hS.F ht⟩) hS.2.2 hdg
  exact ⟨by rw [ht]; exact hP, va_K.moved hWm.alike hK, hI, hN.warm hWm⟩
