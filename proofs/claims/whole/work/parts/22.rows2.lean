/-! rows over the two halves of the state, and the little facts that the laid walks use -/
theorem inb_lt {i : Int32} {n : Nat} (h : inb i n) : i.toNatClampNeg < n := Nat.not_le.mp (fun h2 => h (Or.inr h2))
theorem kret {α β : Type} {a c : α} {b d : β} (h : (some (a, b) : Option (α × β)) = some (c, d)) : c = a ∧ d = b := by cases h; exact ⟨rfl, rfl⟩
theorem kre {α : Type} {a b : α} (h : (some a : Option α) = some b) : b = a := by cases h; rfl
abbrev kcpy (sp dp n : Int32) (n0 n1 : Nat) : Prop := (¬ sp < 0 ∧ ¬ dp < 0) ∧ (¬ n < 0 ∧ sp.toNatClampNeg + n.toNatClampNeg ≤ n0) ∧ dp.toNatClampNeg + n.toNatClampNeg ≤ n1
section KR2
variable {p : Program} {l : Launch} {e : Env} {R : Room} {s : State} {m : MethodId} {args : Array Value} {below : List Frame} {meth : Method} {c : Code} {H : Heap} {locs : List Loc} {cells slots : Nat} {Q : State → Prop}
variable {cc : ByteArray} {pc : Nat} {ls : Array Slot} {rest : List Value} {E : kE} {σ ω : kS} {nL : Nat} {own : String}
theorem kx_iald (S : CallFix p m c cc nL s args kBIG own) (hw : kWS E s (cmb σ ω) H locs) {q n : Nat} (hq : wsh q = .inl n) (hN : q < 26) {i : Int32} (hi : inb i n) (hdg : decode cc pc = .ok (.iaload, 1))
    (kk : W p l e R s m args below meth c H locs cells slots Q (F0 m (pc + 1) ls (.int (σ q i.toNatClampNeg) :: rest))) : W p l e R s m args below meth c H locs cells slots Q (F0 m pc ls (.int i :: .ref (ead E q) :: rest)) :=
  kr_iald S hw hq (Nat.lt_trans hN (by decide)) hi hdg (by rw [cmb_lo hN]; exact kk)
theorem kx_iast (S : CallFix p m c cc nL s args kBIG own) (hw : kWS E s (cmb σ ω) H locs) {q n : Nat} (hq : wsh q = .inl n) (hN : q < 26) {i x : Int32} (hi : inb i n) (hdg : decode cc pc = .ok (.iastore, 1))
    (kk : ∀ (H1 : Heap) (locs1 : List Loc), kWS E s (cmb (kup σ q i.toNatClampNeg x) ω) H1 locs1 → W p l e R s m args below meth c H1 locs1 cells slots Q (F0 m (pc + 1) ls rest)) : W p l e R s m args below meth c H locs cells slots Q (F0 m pc ls (.int x :: .int i :: .ref (ead E q) :: rest)) :=
  kr_iast S hw hq (Nat.lt_trans hN (by decide)) hi hdg (fun H1 locs1 h => kk H1 locs1 (by rw [kup_lo hN] at h; exact h))
theorem km_iald (S : CallFix p m c cc nL s args kBIG own) (hw : kWS E s (cmb ω σ) H locs) {q n : Nat} (hq : wsh (26 + q) = .inl n) (hN : 26 + q < 47) {i : Int32} (hi : inb i n) (hdg : decode cc pc = .ok (.iaload, 1))
    (kk : W p l e R s m args below meth c H locs cells slots Q (F0 m (pc + 1) ls (.int (σ q i.toNatClampNeg) :: rest))) : W p l e R s m args below meth c H locs cells slots Q (F0 m pc ls (.int i :: .ref (ead E (26 + q)) :: rest)) :=
  kr_iald S hw hq hN hi hdg (by rw [cmb_hi]; exact kk)
theorem km_iast (S : CallFix p m c cc nL s args kBIG own) (hw : kWS E s (cmb ω σ) H locs) {q n : Nat} (hq : wsh (26 + q) = .inl n) (hN : 26 + q < 47) {i x : Int32} (hi : inb i n) (hdg : decode cc pc = .ok (.iastore, 1))
    (kk : ∀ (H1 : Heap) (locs1 : List Loc), kWS E s (cmb ω (kup σ q i.toNatClampNeg x)) H1 locs1 → W p l e R s m args below meth c H1 locs1 cells slots Q (F0 m (pc + 1) ls rest)) : W p l e R s m args below meth c H locs cells slots Q (F0 m pc ls (.int x :: .int i :: .ref (ead E (26 + q)) :: rest)) :=
  kr_iast S hw hq hN hi hdg (fun H1 locs1 h => kk H1 locs1 (by rw [kup_hi] at h; exact h))
theorem kx_copy {index q0 q1 n0 n1 : Nat} (S : CallFix p m c cc nL s args kBIG own) (hw : kWS E s (cmb σ ω) H locs) (hml : c.maxLocals = ls.size) (hl : Cond.methodLink own index arraycopyName ∈ kBIG) (h0 : xA q0 n0) (h1 : xA q1 n1) {sp dp n : Int32} (hc : kcpy sp dp n n0 n1) (hR : 1 ≤ R.frames) (hR2 : (rest.map fun v => v.category).sum + (nativeFrameWords "java/lang/System" "arraycopy" 5 + 11) ≤ R.locals) (hdg : decode cc pc = .ok (.invokestatic index, 3))
    (kk : ∀ (H1 : Heap) (locs1 : List Loc), kWS E s (cmb (krow σ q1 (va_cpy (σ q0) (σ q1) sp.toNatClampNeg dp.toNatClampNeg n.toNatClampNeg)) ω) H1 locs1 → W p l e R s m args below meth c H1 locs1 cells slots Q (F0 m (pc + 3) ls rest)) : W p l e R s m args below meth c H locs cells slots Q (F0 m pc ls (.int n :: .int dp :: .ref (ead E q1) :: .int sp :: .ref (ead E q0) :: rest)) := by
  obtain ⟨⟨c1, c2⟩, ⟨c3, c4⟩, c5⟩ := hc
  have hN0 : q0 < 47 := Nat.lt_trans h0.2 (by decide)
  have hN1 : q1 < 47 := Nat.lt_trans h1.2 (by decide)
  have e0 := kwd_at E (cmb σ ω) hN0
  rw [kce_arr h0.1, cmb_lo h0.2] at e0
  have e1 := kwd_at E (cmb σ ω) hN1
  rw [kce_arr h1.1, cmb_lo h1.2] at e1
  refine va_copyi (A := kA E s.heap.size) S.1 S.2.1 hml S.2.2.2.1 (S.2.2.2.2 _ hl) (S.2.2.2.2 _ q2_48) (S.2.2.2.2 _ q2_47) (S.2.2.2.2 _ q1_9) hw.2.1 hw.1 (kD hw.2.2.1 _ _) hw.2.2.2.1 q0 q1 0 0 e0 e1 rfl rfl rfl c1 c2 c3 c4 c5 (fun _ _ => rfl) hR hR2 hdg (fun H1 locs1 hP _ hS => ?_)
  refine kk H1 locs1 ⟨?_, hw.2.1, hw.2.2.1, hS, hw.2.2.2.2⟩
  rw [kwd_set E (ρ' := cmb (krow σ q1 (va_cpy (σ q0) (σ q1) sp.toNatClampNeg dp.toNatClampNeg n.toNatClampNeg)) ω) hN1 (by rw [kce_arr h1.1, cmb_lo h1.2, krow_self]) (fun p' hp => by rw [← krow_lo h1.2]; exact krow_ne hp)] at hP
  exact hP
end KR2
theorem ktv {x : Int32} {k : Int32} {z : Int} (h : ¬ x = k) (hz : k.toInt = z) : x.toInt ≠ z := fun e => h (Int32.toInt_inj.mp (by rw [e, hz]))
theorem ktab4 {x : Int32} (h0 : ¬ x = 0) (h1 : ¬ x = 1) (h2 : ¬ x = 2) (h3 : ¬ x = 3) : x.toInt < 0 ∨ 3 < x.toInt := by
  have := ktv h0 (z := 0) rfl; have := ktv h1 (z := 1) rfl; have := ktv h2 (z := 2) rfl; have := ktv h3 (z := 3) rfl
  omega
theorem ktab5 {x : Int32} (h0 : ¬ x = 0) (h1 : ¬ x = 1) (h2 : ¬ x = 2) (h3 : ¬ x = 3) (h4 : ¬ x = 4) : x.toInt < 0 ∨ 4 < x.toInt := by
  have := ktab4 h0 h1 h2 h3; have := ktv h4 (z := 4) rfl
  omega
theorem ktab7 {x : Int32} (h0 : ¬ x = 0) (h1 : ¬ x = 1) (h2 : ¬ x = 2) (h3 : ¬ x = 3) (h4 : ¬ x = 4) (h5 : ¬ x = 5) (h6 : ¬ x = 6) : x.toInt < 0 ∨ 6 < x.toInt := by
  have := ktab5 h0 h1 h2 h3 h4; have := ktv h5 (z := 5) rfl; have := ktv h6 (z := 6) rfl
  omega
theorem klk {x : Int32} {k : Int32} {z : Int} (h : ¬ x = k) (hz : k.toInt = z) : x.toInt ≠ z := ktv h hz
theorem klook2 {x a b : Int} {o1 o2 d : Int} (h1 : x ≠ a) (h2 : x ≠ b) : Op.lookupswitch.offset (#[(a, o1), (b, o2)] : Array (Int × Int)).toList d x = d := by
  have g1 : ¬ a = x := fun h => h1 h.symm
  have g2 : ¬ b = x := fun h => h2 h.symm
  simp [Op.lookupswitch.offset, g1, g2]
