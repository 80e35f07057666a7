/-! ROWS over the world: each turns W at an instruction into W at the next. -/
section KR
variable {p : Program} {l : Launch} {e : Env} {R : Room} {s : State} {m : MethodId} {args : Array Value} {below : List Frame} {meth : Method} {c : Code} {H : Heap} {locs : List Loc} {cells slots : Nat} {Q : State → Prop}
variable {cc : ByteArray} {pc : Nat} {ls : Array Slot} {rest : List Value} {E : kE} {σ τ ρ : kS} {nL : Nat} {own : String}
theorem kr_geti {index : Nat} (S : CallFix p m c cc nL s args kBIG own) (hw : kWS E s ρ H locs) {q ci : Nat} {fs : List (Option Nat)} (hq : wsh q = .inr (ci, fs)) (hN : q < 47) {C : String} {T : u_T} {N : Nat} (hc : vwCl[ci]? = some (C, T, N)) (hin : ∀ w ∈ u_ws C T N, w ∈ kBIG) (k : Nat) (hk : k < N) (hl : Cond.fieldLink own index (T k).1 (T k).2.1 (T k).2.2.1 ∈ kBIG) (hf : fs[k]? = some none) (hdg : decode cc pc = .ok (.getfield index, 3))
    (kk : W p l e R s m args below meth c H locs cells slots Q (F0 m (pc + 3) ls (.int (ρ q k) :: rest))) : W p l e R s m args below meth c H locs cells slots Q (F0 m pc ls (.ref (ead E q) :: rest)) := by
  have hci : ci ≠ 9 := fun h => by subst h; cases hc
  have h1 := kwd_at E ρ hN
  rw [kce_obj hq hci] at h1
  have h2 := kfs_int (E := E) (ρ := ρ) (q := q) fs 0 k hf
  rw [Nat.zero_add] at h2
  exact va_get S.1 S.2.1 S.2.2.2.2 hin S.2.2.2.1 hw.2.1 hw.1 q h1 hc k hk (S.2.2.2.2 _ hl) (fun _ h => h) h2 hdg kk
theorem kr_getr {index : Nat} (S : CallFix p m c cc nL s args kBIG own) (hw : kWS E s ρ H locs) {q ci r : Nat} {fs : List (Option Nat)} (hq : wsh q = .inr (ci, fs)) (hN : q < 47) {C : String} {T : u_T} {N : Nat} (hc : vwCl[ci]? = some (C, T, N)) (hin : ∀ w ∈ u_ws C T N, w ∈ kBIG) (k : Nat) (hk : k < N) (hl : Cond.fieldLink own index (T k).1 (T k).2.1 (T k).2.2.1 ∈ kBIG) (hf : fs[k]? = some (some r)) (hdg : decode cc pc = .ok (.getfield index, 3))
    (kk : W p l e R s m args below meth c H locs cells slots Q (F0 m (pc + 3) ls (.ref (ead E r) :: rest))) : W p l e R s m args below meth c H locs cells slots Q (F0 m pc ls (.ref (ead E q) :: rest)) := by
  have hci : ci ≠ 9 := fun h => by subst h; cases hc
  have h1 := kwd_at E ρ hN
  rw [kce_obj hq hci] at h1
  have h2 := kfs_ref (E := E) (ρ := ρ) (q := q) fs 0 k hf
  exact va_get S.1 S.2.1 S.2.2.2.2 hin S.2.2.2.1 hw.2.1 hw.1 q h1 hc k hk (S.2.2.2.2 _ hl) (fun _ h => h) h2 hdg kk
theorem kr_puti {index : Nat} (S : CallFix p m c cc nL s args kBIG own) (hw : kWS E s ρ H locs) {q ci : Nat} {fs : List (Option Nat)} (hq : wsh q = .inr (ci, fs)) (hN : q < 47) {C : String} {T : u_T} {N : Nat} (hc : vwCl[ci]? = some (C, T, N)) (hin : ∀ w ∈ u_ws C T N, w ∈ kBIG) (ty0 : Nat → FieldType) (hty : ∀ k, k < N → parseFieldDescriptor (T k).2.2.1 = some (ty0 k)) (hnm : ∀ a, a < N → ∀ b, b < N → a ≠ b → (T a).2.1 ≠ (T b).2.1) (k : Nat) (hk : k < N) (hl : Cond.fieldLink own index (T k).1 (T k).2.1 (T k).2.2.1 ∈ kBIG) (hf : fs[k]? = some none) (hfin : (T k).2.2.2 = false) {ty : FieldType} {x : Int32} (hd : parseFieldDescriptor (T k).2.2.1 = some ty) (hn : narrow ty (.int x) = .int x) (hfit : fits ty (.int x) = true) (hdg : decode cc pc = .ok (.putfield index, 3))
    (kk : ∀ (H1 : Heap) (locs1 : List Loc), kWS E s (kup ρ q k x) H1 locs1 → W p l e R s m args below meth c H1 locs1 cells slots Q (F0 m (pc + 3) ls rest)) : W p l e R s m args below meth c H locs cells slots Q (F0 m pc ls (.int x :: .ref (ead E q) :: rest)) := by
  have hci : ci ≠ 9 := fun h => by subst h; cases hc
  have h1 := kwd_at E ρ hN
  rw [kce_obj hq hci] at h1
  have hkf : k < (kfs E ρ q 0 fs).length := by rw [kfs_len]; exact (List.getElem?_eq_some_iff.mp hf).1
  refine va_put (D := eD E) (A := kA E s.heap.size) (v := .int x) (ty := ty) S.1 S.2.1 S.2.2.2.2 hin ty0 hty hnm S.2.2.2.1 hw.2.1 hw.1 (kD hw.2.2.1 _ _) hw.2.2.2.1 q h1 hc k hk (S.2.2.2.2 _ hl) (fun _ h => h) hfin hd hn hfit hkf hdg (fun H1 locs1 hP _ hS => ?_)
  refine kk H1 locs1 ⟨?_, hw.2.1, hw.2.2.1, hS, hw.2.2.2.2⟩
  have e := kfs_set (E := E) (ρ := ρ) (q := q) (x := x) fs 0 k hf
  rw [Nat.zero_add] at e
  rw [e, kwd_set E (ρ' := kup ρ q k x) hN (by rw [kce_obj hq hci]) (fun p' hp => kup_ne hp)] at hP
  exact hP
theorem kr_iald (S : CallFix p m c cc nL s args kBIG own) (hw : kWS E s ρ H locs) {q n : Nat} (hq : wsh q = .inl n) (hN : q < 47) {i : Int32} (hi : vp_in i n) (hdg : decode cc pc = .ok (.iaload, 1))
    (kk : W p l e R s m args below meth c H locs cells slots Q (F0 m (pc + 1) ls (.int (ρ q i.toNatClampNeg) :: rest))) : W p l e R s m args below meth c H locs cells slots Q (F0 m pc ls (.int i :: .ref (ead E q) :: rest)) := by
  have h1 := kwd_at E ρ hN
  rw [kce_arr hq] at h1
  exact va_iald S.1 S.2.1 hw.2.1 hw.1 q 0 h1 rfl hi hdg kk
theorem kr_iast (S : CallFix p m c cc nL s args kBIG own) (hw : kWS E s ρ H locs) {q n : Nat} (hq : wsh q = .inl n) (hN : q < 47) {i x : Int32} (hi : vp_in i n) (hdg : decode cc pc = .ok (.iastore, 1))
    (kk : ∀ (H1 : Heap) (locs1 : List Loc), kWS E s (kup ρ q i.toNatClampNeg x) H1 locs1 → W p l e R s m args below meth c H1 locs1 cells slots Q (F0 m (pc + 1) ls rest)) : W p l e R s m args below meth c H locs cells slots Q (F0 m pc ls (.int x :: .int i :: .ref (ead E q) :: rest)) := by
  have h1 := kwd_at E ρ hN
  rw [kce_arr hq] at h1
  refine va_iast (A := kA E s.heap.size) S.1 S.2.1 hw.2.1 hw.1 (kD hw.2.2.1 _ _) hw.2.2.2.1 q 0 h1 rfl hi hdg (fun H1 locs1 hP _ hS => ?_)
  refine kk H1 locs1 ⟨?_, hw.2.1, hw.2.2.1, hS, hw.2.2.2.2⟩
  rw [kwd_set E (ρ' := kup ρ q i.toNatClampNeg x) hN (by rw [kce_arr hq, kup_upd]) (fun p' hp => kup_ne hp)] at hP
  exact hP
theorem kr_aald (S : CallFix p m c cc nL s args kBIG own) (hw : kWS E s ρ H locs) {i : Int32} (hi : vp_in i 4) (hdg : decode cc pc = .ok (.aaload, 1))
    (kk : W p l e R s m args below meth c H locs cells slots Q (F0 m (pc + 1) ls (.ref (ead E (12 + i.toNatClampNeg)) :: rest))) : W p l e R s m args below meth c H locs cells slots Q (F0 m pc ls (.int i :: .ref (ead E 11) :: rest)) := by
  have h1 : (kwd E ρ)[11]? = some (ead E 11, .inl (eS E, 4, .inr (.inr (.inr (.inr (fun i => some (ead E (12 + i)))))))) := kwd_at E ρ (by decide)
  exact va_aldq S.1 S.2.1 hw.2.1 hw.1 11 1 h1 rfl hi hdg kk
-- calls
theorem kr_pre {As : List Value} (hw : kWS E s ρ H locs) : FrameBlind (va_Pc As (fun U => U.heap.size = H.size ∧ kWo E ρ U)) ∧ ∀ U : State, U.heap = H → s.WarmedH U.vm → va_Pc As (fun U => U.heap.size = H.size ∧ kWo E ρ U) As.toArray U := by
  refine ⟨fun a U g mk q => ?_, fun U hU hW => ⟨rfl, by rw [hU], by rw [hU]; exact hw.1, va_K.moved hW.alike hw.2.1, hw.2.2.1, hw.2.2.2.2.warm hW⟩⟩
  obtain ⟨h1, h2, h3, h4, h5, h6⟩ := q
  exact ⟨h1, h2, h3, va_K.moved (u := U) (U := U.calling g mk a) (Vm.Alike.refl U.vm) h4, h5, kNw.same rfl h6⟩
theorem kr_post {t : State} {H1 : Heap} {locs1 : List Loc} {ρ' : kS} (hw : kWS E s ρ H locs) (ht : t.heap = H1) (hvm : s.vm.Alike t.vm) (hB : kWo E ρ' t) (hS : va_S (kA E s.heap.size) s.heap H1 locs1) : kWS E s ρ' H1 locs1 :=
  ⟨by rw [← ht]; exact hB.1, va_K.moved hvm.symm hB.2.1, hw.2.2.1, hS, hw.2.2.2.2⟩
theorem kr_calli {mc : Nat} {y : MethodName} {b : ByteArray} {n lv : Nat} {ret : Option FieldType} {As : List Value} {r : Int32} {ρ' : kS} {a : Array Value} {st0 : List Value} (hw : kWS E s ρ H locs)
    (hr : va_Run p l e R s m args below meth c H locs cells slots 0 0 (F0 m pc ls st0) rest (va_Qi (fun x (_ : Unit) => kpost ret r x) (fun _ t => kWo E ρ' t) (kA E H.size) a) (kA E H.size))
    (kk : ∀ (H1 : Heap) (locs1 : List Loc), kWS E s ρ' H1 locs1 → (ret = some .boolean → r = 0 ∨ r = 1) → W p l e R s m args below meth c H1 locs1 cells slots Q (F0 m (pc + 3) ls (.int r :: rest))) : W p l e R s m args below meth c H locs cells slots Q (F0 m pc ls st0) := by
  have hle := kA_le (E := E) hw.2.2.2.1.1
  refine va_calli (A0 := kA E s.heap.size) (H0 := s.heap) hr hw.2.2.2.1 (fun q _ h => hle q h) hle (fun x u t H1 locs1 ht hvm hp hB _ _ hS => ?_)
  obtain ⟨rfl, hz⟩ := hp
  exact kk H1 locs1 (kr_post hw ht hvm hB hS) hz
theorem kr_calll {ρ' : kS} {r : Int64} {a : Array Value} {st0 : List Value} (hw : kWS E s ρ H locs)
    (hr : va_Run p l e R s m args below meth c H locs cells slots 0 0 (F0 m pc ls st0) rest (va_Ql (fun x (_ : Unit) => x = r) (fun _ t => kWo E ρ' t) (kA E H.size) a) (kA E H.size))
    (kk : ∀ (H1 : Heap) (locs1 : List Loc), kWS E s ρ' H1 locs1 → W p l e R s m args below meth c H1 locs1 cells slots Q (F0 m (pc + 3) ls (.long r :: rest))) : W p l e R s m args below meth c H locs cells slots Q (F0 m pc ls st0) := by
  have hle := kA_le (E := E) hw.2.2.2.1.1
  refine va_calll (A0 := kA E s.heap.size) (H0 := s.heap) hr hw.2.2.2.1 (fun q _ h => hle q h) hle (fun x u t H1 locs1 ht hvm hp hB _ _ hS => ?_)
  subst hp
  exact kk H1 locs1 (kr_post hw ht hvm hB hS)
theorem kr_callv {ρ' : kS} {a : Array Value} {st0 : List Value} (hw : kWS E s ρ H locs)
    (hr : va_Run p l e R s m args below meth c H locs cells slots 0 0 (F0 m pc ls st0) rest (va_Qv (fun (_ : Unit) => True) (fun _ t => kWo E ρ' t) (kA E H.size) a) (kA E H.size))
    (kk : ∀ (H1 : Heap) (locs1 : List Loc), kWS E s ρ' H1 locs1 → W p l e R s m args below meth c H1 locs1 cells slots Q (F0 m (pc + 3) ls rest)) : W p l e R s m args below meth c H locs cells slots Q (F0 m pc ls st0) := by
  have hle := kA_le (E := E) hw.2.2.2.1.1
  refine va_callv (A0 := kA E s.heap.size) (H0 := s.heap) hr hw.2.2.2.1 (fun q _ h => hle q h) hle (fun u t H1 locs1 ht hvm hp hB _ _ hS => ?_)
  exact kk H1 locs1 (kr_post hw ht hvm hB hS)
/-- what a call site of an instance method rests on -/
def kV (own C : String) (index : Nat) (y : MethodName) (b : ByteArray) (n : Nat) (ret : Option FieldType) (k : Nat) : Prop := GoodIn kBIG (wsV own index C y (wk y b n ret)) ∧ (y.cls = C ∧ y.cls ≠ "java/lang/invoke/MethodHandle" ∧ y.cls ≠ "java/lang/invoke/VarHandle" ∧ (parseMethodDescriptor y.desc).map (fun d => d.parameters.length) = some k)
def kSt (own : String) (index : Nat) (y : MethodName) (b : ByteArray) (n : Nat) (ret : Option FieldType) (k : Nat) : Prop := GoodIn kBIG (va_wsS own index y (wk y b n ret)) ∧ (y.cls ≠ "java/lang/invoke/MethodHandle" ∧ y.cls ≠ "java/lang/invoke/VarHandle" ∧ (parseMethodDescriptor y.desc).map (fun d => d.parameters.length) = some k)
def kNs (y : MethodName) (b : ByteArray) (n : Nat) (ret : Option FieldType) (k : Nat) : Prop := Cond.code y b n ret ∈ kBIG ∧ Cond.static y ∈ kBIG ∧ Cond.initialized y.cls ∈ kBIG ∧ (y.cls ≠ "java/lang/invoke/MethodHandle" ∧ y.cls ≠ "java/lang/invoke/VarHandle" ∧ (parseMethodDescriptor y.desc).map (fun d => d.parameters.length) = some k)
theorem kr_runV {C : String} {index : Nat} {y : MethodName} {b : ByteArray} {n k lv : Nat} {ret : Option FieldType} {As : List Value} {Qc : Array Value → State → Outcome → State → Prop} {T : u_T} {N ci q : Nat} {fs : List (Option Nat)} (S : CallFix p m c cc nL s args kBIG own) (hw : kWS E s ρ H locs)
    (hM : Met l y (wk y b n ret) (rml lv) (va_Pc (.ref (ead E q) :: As) (fun U => U.heap.size = H.size ∧ kWo E ρ U)) Qc 0 0 (kA E H.size)) (cw : kV own C index y b n ret k) (hR : lv + 1 ≤ R.frames ∧ 8 + (n + 11) + 40 * lv ≤ R.locals) (hq : wsh q = .inr (ci, fs)) (hN : q < 47) (hc : vwCl[ci]? = some (C, T, N))
    (hn : As.length = k) (hls : ls.size = nL) (st0 : List Value) (hst : st0 = As.reverse ++ .ref (ead E q) :: rest) (hW : (rest.map fun v => v.category).sum ≤ 8) (hdg : decode cc pc = .ok (.invokevirtual index, 3)) (hf : cells ≤ R.cells ∧ slots ≤ R.slots) :
    va_Run p l e R s m args below meth c H locs cells slots 0 0 (F0 m pc ls st0) rest (Qc (Value.ref (ead E q) :: As).toArray) (kA E H.size) := by
  have hci : ci ≠ 9 := fun h => by subst h; cases hc
  have h1 := kwd_at E ρ hN
  rw [kce_obj hq hci] at h1
  have hp := kr_pre (As := .ref (ead E q) :: As) hw
  exact va_runV S hM (cwV k S.2.2.2.2 cw.1 rfl rfl rfl cw.2 ⟨hR.1, hR.2⟩) ⟨hp.1, va_recv hw.2.1 hw.1 hc h1, hp.2⟩ rfl hn hls hst (lv_room hW) hdg hf
theorem kr_runS {index : Nat} {y : MethodName} {b : ByteArray} {n k lv : Nat} {ret : Option FieldType} {As : List Value} {Qc : Array Value → State → Outcome → State → Prop} (S : CallFix p m c cc nL s args kBIG own) (hw : kWS E s ρ H locs)
    (hM : Met l y (wk y b n ret) (rml lv) (va_Pc As (fun U => U.heap.size = H.size ∧ kWo E ρ U)) Qc 0 0 (kA E H.size)) (cw : kSt own index y b n ret k) (hR : lv + 1 ≤ R.frames ∧ 8 + (n + 11) + 40 * lv ≤ R.locals)
    (hn : As.length = k) (hls : ls.size = nL) (st0 : List Value) (hst : st0 = As.reverse ++ rest) (hW : (rest.map fun v => v.category).sum ≤ 8) (hdg : decode cc pc = .ok (.invokestatic index, 3)) (hf : cells ≤ R.cells ∧ slots ≤ R.slots) :
    va_Run p l e R s m args below meth c H locs cells slots 0 0 (F0 m pc ls st0) rest (Qc As.toArray) (kA E H.size) :=
  va_runS S hM (va_cwS k S.2.2.2.2 cw.1 rfl rfl rfl cw.2 ⟨hR.1, hR.2⟩) (kr_pre hw) rfl hn hls hst (lv_room hW) hdg hf
theorem kr_runN {index : Nat} {host : String} {y : MethodName} {b : ByteArray} {n k lv : Nat} {ret : Option FieldType} {As : List Value} {Qc : Array Value → State → Outcome → State → Prop} (S : CallFix p m c cc nL s args kBIG own) (hw : kWS E s ρ H locs) (hl : va_Nw (.methodLinkNest own index y host) s)
    (hM : Met l y (wk y b n ret) (rml lv) (va_Pc As (fun U => U.heap.size = H.size ∧ kWo E ρ U)) Qc 0 0 (kA E H.size)) (cw : kNs y b n ret k) (hR : lv + 1 ≤ R.frames ∧ 8 + (n + 11) + 40 * lv ≤ R.locals)
    (hn : As.length = k) (hls : ls.size = nL) (st0 : List Value) (hst : st0 = As.reverse ++ rest) (hW : (rest.map fun v => v.category).sum ≤ 8) (hdg : decode cc pc = .ok (.invokestatic index, 3)) (hf : cells ≤ R.cells ∧ slots ≤ R.slots) :
    va_Run p l e R s m args below meth c H locs cells slots 0 0 (F0 m pc ls st0) rest (Qc As.toArray) (kA E H.size) :=
  va_runSN S hM ⟨va_cnB k S.2.2.2.2 (kg_wk cw.1) rfl rfl rfl hl (S.2.2.2.2 _ cw.2.2.1) cw.2.2.2 ⟨hR.1, hR.2⟩, S.2.2.2.2 _ cw.2.1, trivial⟩ (kr_pre hw) rfl hn hls hst (lv_room hW) hdg hf
end KR
-- what the generated functions are made of
def klet {α β : Type} (v : α) (f : α → β) : β := f v
theorem klb {α β : Type} {v y : α} {f : α → Option β} {r : β} (h : klet v f = some r) (e : y = v) : f y = some r := by subst e; exact h
def kbi {σ β : Type} (o : Option (Int32 × σ)) (f : Int32 → σ → Option β) : Option β := match o with | none => none | some x => f x.1 x.2
def kbl {σ β : Type} (o : Option (Int64 × σ)) (f : Int64 → σ → Option β) : Option β := match o with | none => none | some x => f x.1 x.2
def kbv {σ β : Type} (o : Option σ) (f : σ → Option β) : Option β := match o with | none => none | some x => f x
theorem kbi_e {σ β : Type} {o : Option (Int32 × σ)} {f : Int32 → σ → Option β} {r : β} (h : kbi o f = some r) : ∃ x t, o = some (x, t) ∧ f x t = some r := by
  cases o with
  | none => cases h
  | some x => exact ⟨x.1, x.2, rfl, h⟩
theorem kbl_e {σ β : Type} {o : Option (Int64 × σ)} {f : Int64 → σ → Option β} {r : β} (h : kbl o f = some r) : ∃ x t, o = some (x, t) ∧ f x t = some r := by
  cases o with
  | none => cases h
  | some x => exact ⟨x.1, x.2, rfl, h⟩
theorem kbv_e {σ β : Type} {o : Option σ} {f : σ → Option β} {r : β} (h : kbv o f = some r) : ∃ t, o = some t ∧ f t = some r := by
  cases o with
  | none => cases h
  | some x => exact ⟨x, rfl, h⟩
abbrev inb (i : Int32) (n : Nat) : Prop := ¬ (i < 0 ∨ n ≤ i.toNatClampNeg)
theorem kit {α : Type} {c : Prop} [Decidable c] {a b : Option α} {r : α} (h : (if c then a else b) = some r) (hc : c) : a = some r := by rwa [if_pos hc] at h
theorem kif {α : Type} {c : Prop} [Decidable c] {a b : Option α} {r : α} (h : (if c then a else b) = some r) (hc : ¬ c) : b = some r := by rwa [if_neg hc] at h
theorem kin {α : Type} {c : Prop} [Decidable c] {a : Option α} {r : α} (h : (if c then a else none) = some r) : c ∧ a = some r := by
  by_cases hc : c
  · rw [if_pos hc] at h; exact ⟨hc, h⟩
  · rw [if_neg hc] at h; cases h
