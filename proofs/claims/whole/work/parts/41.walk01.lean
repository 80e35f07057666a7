set_option maxHeartbeats 4000000 in
set_option maxRecDepth 100000 in
theorem wX4_moor_J73 {p : Program} {l : Launch} {e : Env} {s : State} {m : MethodId} {args : Array Value} {below : List Frame} {meth : Method} {c : Code} {Q : State → Prop} {E : kE} {ω σ1 : kS} {r : Int32} (S : CallFix p m c cX4_moor 8 s args kBIG RX4) (hR : kRetI p l e (rml 4) s m args below meth c cX4_moor E Q (some .int) r (cmb σ1 ω))  : ∀ (a3 : Int32) (a4 : Int32) (q5 : Nat) (a6 : Int32) (hq5 : isSh q5) (σ : kS) (H : Heap) (locs : List Loc) (ls : Array Slot), fX4_moor_J73 a3 a4 q5 a6 σ = some (r, σ1) → kWS E s (cmb σ ω) H locs → lv_has ls 8 [(0, .ref (ead E 0)), (3, .int a3), (4, .int a4), (5, .ref (ead E q5)), (6, .int a6)] → W p l e (rml 4) s m args below meth c H locs 0 0 Q (F0 m 73 ls []) := by
  intro a3 a4 q5 a6 hq5 σ H locs ls hF hw hl
  unfold fX4_moor_J73 at hF
  refine lv_iload S.1 S.2.1 dX4_moor_73 (lv_at hl 4 rfl) ?_
  refine lv_if_eq (tgt := 85) S.1 S.2.1 dX4_moor_75 (by decide) (fun c36 => ?_) (fun c36 => ?_)
  · replace hF := kit hF c36
    refine lv_aload S.1 S.2.1 dX4_moor_85 (lv_at hl 3 rfl) ?_
    refine gf_X4_73 S hw hq5.1 hq5.2.1 rfl dX4_moor_87 ?_
    refine lv_iload_n S.1 S.2.1 dX4_moor_90 rfl (lv_at hl 1 rfl) ?_
    refine lv_iload S.1 S.2.1 dX4_moor_91 (lv_at hl 2 rfl) ?_
    obtain ⟨r39, σ38, e37, hF⟩ := kbi_e hF
    refine kcX3_firstFault S hw cv_X4_76 ⟨Nat.le_of_ble_eq_true rfl, Nat.le_of_ble_eq_true rfl⟩ hq5.2.2 e37 hl.1 (Nat.le_of_ble_eq_true rfl) dX4_moor_93 (fun H locs hw => ?_)
    refine lv_istore (lv' := [(7, .int r39), (0, .ref (ead E 0)), (3, .int a3), (4, .int a4), (5, .ref (ead E q5)), (6, .int a6)]) S.1 S.2.1 dX4_moor_96 hl (by decide) rfl (fun ls hl => ?_)
    refine lv_iload S.1 S.2.1 dX4_moor_98 (lv_at hl 0 rfl) ?_
    refine lv_bipush (v := (-9)) S.1 S.2.1 dX4_moor_100 (by decide) ?_
    refine lv_icmp_eq (tgt := 111) S.1 S.2.1 dX4_moor_102 (by decide) (fun c40 => ?_) (fun c40 => ?_)
    · replace hF := kit hF c40
      refine lv_aload_n S.1 S.2.1 dX4_moor_111 rfl (lv_at hl 1 rfl) ?_
      refine gf_X4_12 (q := 0) S hw rfl (Nat.le_of_ble_eq_true rfl) rfl dX4_moor_112 ?_
      refine lv_aload S.1 S.2.1 dX4_moor_115 (lv_at hl 4 rfl) ?_
      refine gf_X4_73 S hw hq5.1 hq5.2.1 rfl dX4_moor_117 ?_
      refine lv_iload_n S.1 S.2.1 dX4_moor_120 rfl (lv_at hl 2 rfl) ?_
      refine lv_iload S.1 S.2.1 dX4_moor_121 (lv_at hl 3 rfl) ?_
      obtain ⟨σ42, e41, hF⟩ := kbv_e hF
      refine kcX3_fill S hw cv_X4_82 ⟨Nat.le_of_ble_eq_true rfl, Nat.le_of_ble_eq_true rfl⟩ isM_1 hq5.2.2 e41 hl.1 (Nat.le_of_ble_eq_true rfl) dX4_moor_123 (fun H locs hw => ?_)
      refine lv_aload_n S.1 S.2.1 dX4_moor_126 rfl (lv_at hl 1 rfl) ?_
      refine lv_iconst (v := 0) S.1 S.2.1 dX4_moor_127 (by decide) ?_
      refine pf_X4_86 (q := 0) S hw rfl (Nat.le_of_ble_eq_true rfl) rfl dX4_moor_128 (fun H locs hw => ?_)
      refine lv_aload_n S.1 S.2.1 dX4_moor_131 rfl (lv_at hl 1 rfl) ?_
      refine lv_iconst (v := 0) S.1 S.2.1 dX4_moor_132 (by decide) ?_
      refine pf_X4_89 (q := 0) S hw rfl (Nat.le_of_ble_eq_true rfl) rfl dX4_moor_133 (fun H locs hw => ?_)
      refine lv_aload_n S.1 S.2.1 dX4_moor_136 rfl (lv_at hl 1 rfl) ?_
      refine gf_X4_12 (q := 0) S hw rfl (Nat.le_of_ble_eq_true rfl) rfl dX4_moor_137 ?_
      refine gf_X4_92 (q := 1) S hw rfl (Nat.le_of_ble_eq_true rfl) rfl dX4_moor_140 ?_
      obtain ⟨rfl, rfl⟩ := kret hF
      exact hR _ _ _ _ dX4_moor_143 hw (fun h => nomatch h)
    · replace hF := kif hF c40
      refine lv_bipush (v := (-100)) S.1 S.2.1 dX4_moor_105 (by decide) ?_
      refine lv_iload S.1 S.2.1 dX4_moor_107 (lv_at hl 0 rfl) ?_
      refine lv_isub S.1 S.2.1 dX4_moor_109 ?_
      obtain ⟨rfl, rfl⟩ := kret hF
      exact hR _ _ _ _ dX4_moor_110 hw (fun h => nomatch h)
  · replace hF := kif hF c36
    refine lv_aload_n S.1 S.2.1 dX4_moor_78 rfl (lv_at hl 0 rfl) ?_
    refine lv_iload S.1 S.2.1 dX4_moor_79 (lv_at hl 4 rfl) ?_
    obtain ⟨r45, σ44, e43, hF⟩ := kbi_e hF
    refine kcX4_faulted S hw cv_X4_70 ⟨Nat.le_of_ble_eq_true rfl, Nat.le_of_ble_eq_true rfl⟩ e43 hl.1 (Nat.le_of_ble_eq_true rfl) dX4_moor_81 (fun H locs hw => ?_)
    obtain ⟨rfl, rfl⟩ := kret hF
    exact hR _ _ _ _ dX4_moor_84 hw (fun h => nomatch h)
set_option maxHeartbeats 4000000 in
set_option maxRecDepth 100000 in
theorem mX4_moor {l : Launch} {E : kE} {ω σ σ1 : kS} {r : Int32} {a1 : Int32} {a2 : Int32} {a3 : Int32} {a4 : Int32}  (hF : fX4_moor a1 a2 a3 a4 σ = some (r, σ1)) : kMetI l yX4_moor cX4_moor 8 (some .int) 4 E [.ref (ead E 0), .int a1, .int a2, .int a3, .int a4] (cmb σ ω) r (cmb σ1 ω) := by
  refine kMetI.of (by decide +kernel) (Nat.le_of_ble_eq_true rfl) (Or.inl rfl) ?_
  intro p e s m args below meth c Q ls S hR hw hl
  have hl : lv_has ls 8 [(0, .ref (ead E 0)), (1, .int a1), (2, .int a2), (3, .int a3), (4, .int a4)] := hl
  unfold fX4_moor at hF
  refine lv_aload_n S.1 S.2.1 dX4_moor_0 rfl (lv_at hl 0 rfl) ?_
  refine lv_iconst (v := 0) S.1 S.2.1 dX4_moor_1 (by decide) ?_
  refine pf_X4_51 (q := 0) S hw rfl (Nat.le_of_ble_eq_true rfl) rfl dX4_moor_2 (fun H locs hw => ?_)
  refine lv_iload_n S.1 S.2.1 dX4_moor_5 rfl (lv_at hl 1 rfl) ?_
  obtain ⟨r3, σ2, e1, hF⟩ := kbi_e hF
  refine kcX4_isSheet S hw cv_X4_55 ⟨Nat.le_of_ble_eq_true rfl, Nat.le_of_ble_eq_true rfl⟩ e1 hl.1 (Nat.le_of_ble_eq_true rfl) dX4_moor_6 (fun H locs hw hz4 => ?_)
  refine lv_if_ne (tgt := 14) S.1 S.2.1 dX4_moor_9 (by decide) (fun c5 => ?_) (fun c5 => ?_)
  · replace hF := kif hF c5
    refine lv_iload_n S.1 S.2.1 dX4_moor_14 rfl (lv_at hl 2 rfl) ?_
    refine lv_iconst (v := 3) S.1 S.2.1 dX4_moor_15 (by decide) ?_
    obtain ⟨r8, σ7, e6, hF⟩ := kbi_e hF
    refine kcX4_isBelow S hw cv_X4_59 ⟨Nat.le_of_ble_eq_true rfl, Nat.le_of_ble_eq_true rfl⟩ e6 hl.1 (Nat.le_of_ble_eq_true rfl) dX4_moor_16 (fun H locs hw hz9 => ?_)
    refine lv_if_ne (tgt := 25) S.1 S.2.1 dX4_moor_19 (by decide) (fun c10 => ?_) (fun c10 => ?_)
    · replace hF := kif hF c10
      refine lv_aload_n S.1 S.2.1 dX4_moor_25 rfl (lv_at hl 0 rfl) ?_
      refine gf_X4_23 (q := 0) S hw rfl (Nat.le_of_ble_eq_true rfl) rfl dX4_moor_26 ?_
      refine lv_iload_n S.1 S.2.1 dX4_moor_29 rfl (lv_at hl 1 rfl) ?_
      obtain ⟨hb11, hF⟩ := kin hF
      have hs12 := isSh_k _ (inb_lt hb11)
      refine kr_aald S hw hb11 dX4_moor_30 ?_
      refine lv_astore (lv' := [(5, .ref (ead E (12 + Int32.toNatClampNeg a1))), (0, .ref (ead E 0)), (1, .int a1), (2, .int a2), (3, .int a3), (4, .int a4)]) S.1 S.2.1 dX4_moor_31 hl (by decide) rfl (fun ls hl => ?_)
      refine lv_aload S.1 S.2.1 dX4_moor_33 (lv_at hl 0 rfl) ?_
      refine lv_iload_n S.1 S.2.1 dX4_moor_35 rfl (lv_at hl 3 rfl) ?_
      obtain ⟨r15, σ14, e13, hF⟩ := kbi_e hF
      refine kcX1_faultAs S hw cv_X4_63 ⟨Nat.le_of_ble_eq_true rfl, Nat.le_of_ble_eq_true rfl⟩ hs12 e13 hl.1 (Nat.le_of_ble_eq_true rfl) dX4_moor_36 (fun H locs hw => ?_)
      refine lv_istore (lv' := [(6, .int r15), (5, .ref (ead E (12 + Int32.toNatClampNeg a1))), (0, .ref (ead E 0)), (1, .int a1), (2, .int a2), (3, .int a3), (4, .int a4)]) S.1 S.2.1 dX4_moor_39 hl (by decide) rfl (fun ls hl => ?_)
      refine lv_iload S.1 S.2.1 dX4_moor_41 (lv_at hl 0 rfl) ?_
      refine lv_if_ne (tgt := 54) S.1 S.2.1 dX4_moor_43 (by decide) (fun c16 => ?_) (fun c16 => ?_)
      · replace hF := kif hF c16
        refine lv_iload S.1 S.2.1 dX4_moor_54 (lv_at hl 0 rfl) ?_
        refine lv_if_ne (tgt := 73) S.1 S.2.1 dX4_moor_56 (by decide) (fun c17 => ?_) (fun c17 => ?_)
        · replace hF := kif hF c17
          exact wX4_moor_J73 S hR a3 a4 (12 + Int32.toNatClampNeg a1) r15 hs12 _ _ _ _ hF hw (lv_sub hl [2, 5, 6, 1, 0] rfl)
        · replace hF := kit hF c17
          refine lv_aload S.1 S.2.1 dX4_moor_59 (lv_at hl 1 rfl) ?_
          refine lv_iload_n S.1 S.2.1 dX4_moor_61 rfl (lv_at hl 5 rfl) ?_
          refine lv_iload S.1 S.2.1 dX4_moor_62 (lv_at hl 6 rfl) ?_
          obtain ⟨r20, σ19, e18, hF⟩ := kbi_e hF
          refine kcX1_spans S hw cv_X4_67 ⟨Nat.le_of_ble_eq_true rfl, Nat.le_of_ble_eq_true rfl⟩ hs12 e18 hl.1 (Nat.le_of_ble_eq_true rfl) dX4_moor_64 (fun H locs hw hz21 => ?_)
          refine lv_if_ne (tgt := 73) S.1 S.2.1 dX4_moor_67 (by decide) (fun c22 => ?_) (fun c22 => ?_)
          · replace hF := kif hF c22
            exact wX4_moor_J73 S hR a3 a4 (12 + Int32.toNatClampNeg a1) r15 hs12 _ _ _ _ hF hw (lv_sub hl [2, 5, 6, 1, 0] rfl)
          · replace hF := kit hF c22
            refine lv_iconst (v := 3) S.1 S.2.1 dX4_moor_70 (by decide) ?_
            refine lv_istore (lv' := [(6, .int 3), (5, .ref (ead E (12 + Int32.toNatClampNeg a1))), (0, .ref (ead E 0)), (1, .int a1), (2, .int a2), (3, .int a3), (4, .int a4)]) S.1 S.2.1 dX4_moor_71 hl (by decide) rfl (fun ls hl => ?_)
            exact wX4_moor_J73 S hR a3 a4 (12 + Int32.toNatClampNeg a1) 3 hs12 _ _ _ _ hF hw (lv_sub hl [2, 5, 6, 1, 0] rfl)
      · replace hF := kit hF c16
        refine lv_iload S.1 S.2.1 dX4_moor_46 (lv_at hl 6 rfl) ?_
        refine lv_if_ge (tgt := 54) S.1 S.2.1 dX4_moor_48 (by decide) (fun c23 => ?_) (fun c23 => ?_)
        · replace hF := kit hF c23
          refine lv_iload S.1 S.2.1 dX4_moor_54 (lv_at hl 0 rfl) ?_
          refine lv_if_ne (tgt := 73) S.1 S.2.1 dX4_moor_56 (by decide) (fun c24 => ?_) (fun c24 => ?_)
          · replace hF := kif hF c24
            exact wX4_moor_J73 S hR a3 a4 (12 + Int32.toNatClampNeg a1) r15 hs12 _ _ _ _ hF hw (lv_sub hl [2, 5, 6, 1, 0] rfl)
          · replace hF := kit hF c24
            refine lv_aload S.1 S.2.1 dX4_moor_59 (lv_at hl 1 rfl) ?_
            refine lv_iload_n S.1 S.2.1 dX4_moor_61 rfl (lv_at hl 5 rfl) ?_
            refine lv_iload S.1 S.2.1 dX4_moor_62 (lv_at hl 6 rfl) ?_
            obtain ⟨r27, σ26, e25, hF⟩ := kbi_e hF
            refine kcX1_spans S hw cv_X4_67 ⟨Nat.le_of_ble_eq_true rfl, Nat.le_of_ble_eq_true rfl⟩ hs12 e25 hl.1 (Nat.le_of_ble_eq_true rfl) dX4_moor_64 (fun H locs hw hz28 => ?_)
            refine lv_if_ne (tgt := 73) S.1 S.2.1 dX4_moor_67 (by decide) (fun c29 => ?_) (fun c29 => ?_)
            · replace hF := kif hF c29
              exact wX4_moor_J73 S hR a3 a4 (12 + Int32.toNatClampNeg a1) r15 hs12 _ _ _ _ hF hw (lv_sub hl [2, 5, 6, 1, 0] rfl)
            · replace hF := kit hF c29
              refine lv_iconst (v := 3) S.1 S.2.1 dX4_moor_70 (by decide) ?_
              refine lv_istore (lv' := [(6, .int 3), (5, .ref (ead E (12 + Int32.toNatClampNeg a1))), (0, .ref (ead E 0)), (1, .int a1), (2, .int a2), (3, .int a3), (4, .int a4)]) S.1 S.2.1 dX4_moor_71 hl (by decide) rfl (fun ls hl => ?_)
              exact wX4_moor_J73 S hR a3 a4 (12 + Int32.toNatClampNeg a1) 3 hs12 _ _ _ _ hF hw (lv_sub hl [2, 5, 6, 1, 0] rfl)
        · replace hF := kif hF c23
          refine lv_iconst (v := 4) S.1 S.2.1 dX4_moor_51 (by decide) ?_
          refine lv_istore (lv' := [(6, .int 4), (5, .ref (ead E (12 + Int32.toNatClampNeg a1))), (0, .ref (ead E 0)), (1, .int a1), (2, .int a2), (3, .int a3), (4, .int a4)]) S.1 S.2.1 dX4_moor_52 hl (by decide) rfl (fun ls hl => ?_)
          refine lv_iload S.1 S.2.1 dX4_moor_54 (lv_at hl 0 rfl) ?_
          refine lv_if_ne (tgt := 73) S.1 S.2.1 dX4_moor_56 (by decide) (fun c30 => ?_) (fun c30 => ?_)
          · replace hF := kif hF c30
            exact wX4_moor_J73 S hR a3 a4 (12 + Int32.toNatClampNeg a1) 4 hs12 _ _ _ _ hF hw (lv_sub hl [2, 5, 6, 1, 0] rfl)
          · replace hF := kit hF c30
            refine lv_aload S.1 S.2.1 dX4_moor_59 (lv_at hl 1 rfl) ?_
            refine lv_iload_n S.1 S.2.1 dX4_moor_61 rfl (lv_at hl 5 rfl) ?_
            refine lv_iload S.1 S.2.1 dX4_moor_62 (lv_at hl 6 rfl) ?_
            obtain ⟨r33, σ32, e31, hF⟩ := kbi_e hF
            refine kcX1_spans S hw cv_X4_67 ⟨Nat.le_of_ble_eq_true rfl, Nat.le_of_ble_eq_true rfl⟩ hs12 e31 hl.1 (Nat.le_of_ble_eq_true rfl) dX4_moor_64 (fun H locs hw hz34 => ?_)
            refine lv_if_ne (tgt := 73) S.1 S.2.1 dX4_moor_67 (by decide) (fun c35 => ?_) (fun c35 => ?_)
            · replace hF := kif hF c35
              exact wX4_moor_J73 S hR a3 a4 (12 + Int32.toNatClampNeg a1) 4 hs12 _ _ _ _ hF hw (lv_sub hl [2, 5, 6, 1, 0] rfl)
            · replace hF := kit hF c35
              refine lv_iconst (v := 3) S.1 S.2.1 dX4_moor_70 (by decide) ?_
              refine lv_istore (lv' := [(6, .int 3), (5, .ref (ead E (12 + Int32.toNatClampNeg a1))), (0, .ref (ead E 0)), (1, .int a1), (2, .int a2), (3, .int a3), (4, .int a4)]) S.1 S.2.1 dX4_moor_71 hl (by decide) rfl (fun ls hl => ?_)
              exact wX4_moor_J73 S hR a3 a4 (12 + Int32.toNatClampNeg a1) 3 hs12 _ _ _ _ hF hw (lv_sub hl [2, 5, 6, 1, 0] rfl)
    · replace hF := kit hF c10
      refine lv_bipush (v := (-2)) S.1 S.2.1 dX4_moor_22 (by decide) ?_
      obtain ⟨rfl, rfl⟩ := kret hF
      exact hR _ _ _ _ dX4_moor_24 hw (fun h => nomatch h)
  · replace hF := kit hF c5
    refine lv_iconst (v := (-1)) S.1 S.2.1 dX4_moor_12 (by decide) ?_
    obtain ⟨rfl, rfl⟩ := kret hF
    exact hR _ _ _ _ dX4_moor_13 hw (fun h => nomatch h)
set_option maxRecDepth 100000 in
theorem kcX4_moor {p : Program} {l : Launch} {e : Env} {R : Room} {s : State} {m : MethodId} {args : Array Value} {below : List Frame} {meth : Method} {c : Code} {H : Heap} {locs : List Loc} {cells slots : Nat} {Q : State → Prop} {cc : ByteArray} {pc : Nat} {ls : Array Slot} {rest : List Value} {E : kE} {σ ω σ1 : kS} {nL index : Nat} {own : String} {r : Int32} (S : CallFix p m c cc nL s args kBIG own) (hw : kWS E s (cmb σ ω) H locs) (cw : kV own RX4 index yX4_moor cX4_moor 8 (some .int) 4) (hR : 4 + 1 ≤ R.frames ∧ 8 + (8 + 11) + 40 * 4 ≤ R.locals) {a1 : Int32} {a2 : Int32} {a3 : Int32} {a4 : Int32}  (hF : fX4_moor a1 a2 a3 a4 σ = some (r, σ1)) (hls : ls.size = nL) (hW : (rest.map fun v => v.category).sum ≤ 8) (hdg : decode cc pc = .ok (.invokevirtual index, 3)) (kk : ∀ (H1 : Heap) (locs1 : List Loc), kWS E s (cmb σ1 ω) H1 locs1 → W p l e R s m args below meth c H1 locs1 cells slots Q (F0 m (pc + 3) ls (.int r :: rest))) (hf : cells ≤ R.cells ∧ slots ≤ R.slots := by exact ⟨Nat.le_of_ble_eq_true rfl, Nat.le_of_ble_eq_true rfl⟩) : W p l e R s m args below meth c H locs cells slots Q (F0 m pc ls (.int a4 :: .int a3 :: .int a2 :: .int a1 :: .ref (ead E 0) :: rest)) := kr_calli (mc := 0) (y := yX4_moor) (b := cX4_moor) (n := 0) (lv := 0) (As := []) (ret := some .int) hw (kr_runV (As := [.int a1, .int a2, .int a3, .int a4]) (q := 0) S hw ((mX4_moor (l := l) (E := E) (ω := ω) hF) H.size) cw hR rfl (by decide) rfl rfl hls _ rfl hW hdg hf) (fun H1 locs1 h _ => kk H1 locs1 h)
set_option maxHeartbeats 4000000 in
set_option maxRecDepth 100000 in
theorem mX4_isPerson {l : Launch} {E : kE} {ω σ σ1 : kS} {r : Int32} {a1 : Int32}  (hF : fX4_isPerson a1 σ = some (r, σ1)) : kMetI l yX4_isPerson cX4_isPerson 2 (some .boolean) 1 E [.ref (ead E 0), .int a1] (cmb σ ω) r (cmb σ1 ω) := by
  refine kMetI.of (by decide +kernel) (Nat.le_of_ble_eq_true rfl) (Or.inr rfl) ?_
  intro p e s m args below meth c Q ls S hR hw hl
  have hl : lv_has ls 2 [(0, .ref (ead E 0)), (1, .int a1)] := hl
  unfold fX4_isPerson at hF
  refine lv_iload_n S.1 S.2.1 dX4_isPerson_0 rfl (lv_at hl 1 rfl) ?_
  refine lv_aload_n S.1 S.2.1 dX4_isPerson_1 rfl (lv_at hl 0 rfl) ?_
  refine gf_X4_12 (q := 0) S hw rfl (Nat.le_of_ble_eq_true rfl) rfl dX4_isPerson_2 ?_
  refine gf_X4_92 (q := 1) S hw rfl (Nat.le_of_ble_eq_true rfl) rfl dX4_isPerson_5 ?_
  obtain ⟨r3, σ2, e1, hF⟩ := kbi_e hF
  refine kcX4_isBelow S hw cv_X4_59 ⟨Nat.le_of_ble_eq_true rfl, Nat.le_of_ble_eq_true rfl⟩ e1 hl.1 (Nat.le_of_ble_eq_true rfl) dX4_isPerson_8 (fun H locs hw hz4 => ?_)
  obtain ⟨rfl, rfl⟩ := kret hF
  exact hR _ _ _ _ dX4_isPerson_11 hw (fun _ => (hz4 rfl))
set_option maxRecDepth 100000 in
theorem kcX4_isPerson {p : Program} {l : Launch} {e : Env} {R : Room} {s : State} {m : MethodId} {args : Array Value} {below : List Frame} {meth : Method} {c : Code} {H : Heap} {locs : List Loc} {cells slots : Nat} {Q : State → Prop} {cc : ByteArray} {pc : Nat} {ls : Array Slot} {rest : List Value} {E : kE} {σ ω σ1 : kS} {nL index : Nat} {own : String} {r : Int32} (S : CallFix p m c cc nL s args kBIG own) (hw : kWS E s (cmb σ ω) H locs) (cw : kV own RX4 index yX4_isPerson cX4_isPerson 2 (some .boolean) 1) (hR : 1 + 1 ≤ R.frames ∧ 8 + (2 + 11) + 40 * 1 ≤ R.locals) {a1 : Int32}  (hF : fX4_isPerson a1 σ = some (r, σ1)) (hls : ls.size = nL) (hW : (rest.map fun v => v.category).sum ≤ 8) (hdg : decode cc pc = .ok (.invokevirtual index, 3)) (kk : ∀ (H1 : Heap) (locs1 : List Loc), kWS E s (cmb σ1 ω) H1 locs1 → (((some .boolean) : Option FieldType) = some .boolean → r = 0 ∨ r = 1) → W p l e R s m args below meth c H1 locs1 cells slots Q (F0 m (pc + 3) ls (.int r :: rest))) (hf : cells ≤ R.cells ∧ slots ≤ R.slots := by exact ⟨Nat.le_of_ble_eq_true rfl, Nat.le_of_ble_eq_true rfl⟩) : W p l e R s m args below meth c H locs cells slots Q (F0 m pc ls (.int a1 :: .ref (ead E 0) :: rest)) := kr_calli (mc := 0) (y := yX4_isPerson) (b := cX4_isPerson) (n := 0) (lv := 0) (As := []) hw (kr_runV (As := [.int a1]) (q := 0) S hw ((mX4_isPerson (l := l) (E := E) (ω := ω) hF) H.size) cw hR rfl (by decide) rfl rfl hls _ rfl hW hdg hf) kk
set_option maxHeartbeats 4000000 in
set_option maxRecDepth 100000 in
theorem mX4_ofPerson {l : Launch} {E : kE} {ω σ σ1 : kS} {r : Int32} {a1 : Int32} {a2 : Int32}  (hF : fX4_ofPerson a1 a2 σ = some (r, σ1)) : kMetI l yX4_ofPerson cX4_ofPerson 3 (some .int) 3 E [.ref (ead E 0), .int a1, .int a2] (cmb σ ω) r (cmb σ1 ω) := by
  refine kMetI.of (by decide +kernel) (Nat.le_of_ble_eq_true rfl) (Or.inl rfl) ?_
  intro p e s m args below meth c Q ls S hR hw hl
  have hl : lv_has ls 3 [(0, .ref (ead E 0)), (1, .int a1), (2, .int a2)] := hl
  unfold fX4_ofPerson at hF
  refine lv_aload_n S.1 S.2.1 dX4_ofPerson_0 rfl (lv_at hl 0 rfl) ?_
  refine lv_iload_n S.1 S.2.1 dX4_ofPerson_1 rfl (lv_at hl 1 rfl) ?_
  obtain ⟨r3, σ2, e1, hF⟩ := kbi_e hF
  refine kcX4_isPerson S hw cv_X4_95 ⟨Nat.le_of_ble_eq_true rfl, Nat.le_of_ble_eq_true rfl⟩ e1 hl.1 (Nat.le_of_ble_eq_true rfl) dX4_ofPerson_2 (fun H locs hw hz4 => ?_)
  refine lv_if_ne (tgt := 10) S.1 S.2.1 dX4_ofPerson_5 (by decide) (fun c5 => ?_) (fun c5 => ?_)
  · replace hF := kif hF c5
    refine lv_iload_n S.1 S.2.1 dX4_ofPerson_10 rfl (lv_at hl 2 rfl) ?_
    by_cases c6 : a2 = 0
    · replace hF := kit hF c6
      refine lv_tableIn (tgt := 52) S.1 S.2.1 dX4_ofPerson_11 (by rw [c6]; decide) (by rw [c6]; decide) (by rw [c6]; rfl) (by decide) ?_
      refine lv_aload_n S.1 S.2.1 dX4_ofPerson_52 rfl (lv_at hl 0 rfl) ?_
      refine gf_X4_12 (q := 0) S hw rfl (Nat.le_of_ble_eq_true rfl) rfl dX4_ofPerson_53 ?_
      refine gf_X4_98 (q := 1) S hw rfl (Nat.le_of_ble_eq_true rfl) rfl dX4_ofPerson_56 ?_
      refine lv_iload_n S.1 S.2.1 dX4_ofPerson_59 rfl (lv_at hl 1 rfl) ?_
      obtain ⟨hb7, hF⟩ := kin hF
      refine kx_iald (q := 2) S hw rfl (Nat.le_of_ble_eq_true rfl) hb7 dX4_ofPerson_60 ?_
      obtain ⟨rfl, rfl⟩ := kret hF
      exact hR _ _ _ _ dX4_ofPerson_61 hw (fun h => nomatch h)
    · replace hF := kif hF c6
      by_cases c8 : a2 = 1
      · replace hF := kit hF c8
        refine lv_tableIn (tgt := 62) S.1 S.2.1 dX4_ofPerson_11 (by rw [c8]; decide) (by rw [c8]; decide) (by rw [c8]; rfl) (by decide) ?_
        refine lv_aload_n S.1 S.2.1 dX4_ofPerson_62 rfl (lv_at hl 0 rfl) ?_
        refine gf_X4_12 (q := 0) S hw rfl (Nat.le_of_ble_eq_true rfl) rfl dX4_ofPerson_63 ?_
        refine gf_X4_101 (q := 1) S hw rfl (Nat.le_of_ble_eq_true rfl) rfl dX4_ofPerson_66 ?_
        refine lv_iload_n S.1 S.2.1 dX4_ofPerson_69 rfl (lv_at hl 1 rfl) ?_
        obtain ⟨hb9, hF⟩ := kin hF
        refine kx_iald (q := 3) S hw rfl (Nat.le_of_ble_eq_true rfl) hb9 dX4_ofPerson_70 ?_
        obtain ⟨rfl, rfl⟩ := kret hF
        exact hR _ _ _ _ dX4_ofPerson_71 hw (fun h => nomatch h)
      · replace hF := kif hF c8
        by_cases c10 : a2 = 2
        · replace hF := kit hF c10
          refine lv_tableIn (tgt := 72) S.1 S.2.1 dX4_ofPerson_11 (by rw [c10]; decide) (by rw [c10]; decide) (by rw [c10]; rfl) (by decide) ?_
          refine lv_aload_n S.1 S.2.1 dX4_ofPerson_72 rfl (lv_at hl 0 rfl) ?_
          refine gf_X4_12 (q := 0) S hw rfl (Nat.le_of_ble_eq_true rfl) rfl dX4_ofPerson_73 ?_
          refine gf_X4_104 (q := 1) S hw rfl (Nat.le_of_ble_eq_true rfl) rfl dX4_ofPerson_76 ?_
          refine lv_iload_n S.1 S.2.1 dX4_ofPerson_79 rfl (lv_at hl 1 rfl) ?_
          obtain ⟨hb11, hF⟩ := kin hF
          refine kx_iald (q := 4) S hw rfl (Nat.le_of_ble_eq_true rfl) hb11 dX4_ofPerson_80 ?_
          obtain ⟨rfl, rfl⟩ := kret hF
          exact hR _ _ _ _ dX4_ofPerson_81 hw (fun h => nomatch h)
        · replace hF := kif hF c10
          by_cases c12 : a2 = 3
          · replace hF := kit hF c12
            refine lv_tableIn (tgt := 82) S.1 S.2.1 dX4_ofPerson_11 (by rw [c12]; decide) (by rw [c12]; decide) (by rw [c12]; rfl) (by decide) ?_
            refine lv_aload_n S.1 S.2.1 dX4_ofPerson_82 rfl (lv_at hl 0 rfl) ?_
            refine gf_X4_12 (q := 0) S hw rfl (Nat.le_of_ble_eq_true rfl) rfl dX4_ofPerson_83 ?_
            refine gf_X4_107 (q := 1) S hw rfl (Nat.le_of_ble_eq_true rfl) rfl dX4_ofPerson_86 ?_
            refine lv_iload_n S.1 S.2.1 dX4_ofPerson_89 rfl (lv_at hl 1 rfl) ?_
            obtain ⟨hb13, hF⟩ := kin hF
            refine kx_iald (q := 5) S hw rfl (Nat.le_of_ble_eq_true rfl) hb13 dX4_ofPerson_90 ?_
            obtain ⟨rfl, rfl⟩ := kret hF
            exact hR _ _ _ _ dX4_ofPerson_91 hw (fun h => nomatch h)
          · replace hF := kif hF c12
            by_cases c14 : a2 = 4
            · replace hF := kit hF c14
              refine lv_tableIn (tgt := 92) S.1 S.2.1 dX4_ofPerson_11 (by rw [c14]; decide) (by rw [c14]; decide) (by rw [c14]; rfl) (by decide) ?_
              refine lv_aload_n S.1 S.2.1 dX4_ofPerson_92 rfl (lv_at hl 0 rfl) ?_
              refine gf_X4_12 (q := 0) S hw rfl (Nat.le_of_ble_eq_true rfl) rfl dX4_ofPerson_93 ?_
              refine lv_iload_n S.1 S.2.1 dX4_ofPerson_96 rfl (lv_at hl 1 rfl) ?_
              obtain ⟨r17, σ16, e15, hF⟩ := kbi_e hF
              refine kcX0_scentOf S hw cv_X4_110 ⟨Nat.le_of_ble_eq_true rfl, Nat.le_of_ble_eq_true rfl⟩ isM_1 e15 hl.1 (Nat.le_of_ble_eq_true rfl) dX4_ofPerson_97 (fun H locs hw => ?_)
              obtain ⟨rfl, rfl⟩ := kret hF
              exact hR _ _ _ _ dX4_ofPerson_100 hw (fun h => nomatch h)
            · replace hF := kif hF c14
              by_cases c18 : a2 = 5
              · replace hF := kit hF c18
                refine lv_tableIn (tgt := 101) S.1 S.2.1 dX4_ofPerson_11 (by rw [c18]; decide) (by rw [c18]; decide) (by rw [c18]; rfl) (by decide) ?_
                refine lv_aload_n S.1 S.2.1 dX4_ofPerson_101 rfl (lv_at hl 0 rfl) ?_
                refine gf_X4_12 (q := 0) S hw rfl (Nat.le_of_ble_eq_true rfl) rfl dX4_ofPerson_102 ?_
                refine lv_iload_n S.1 S.2.1 dX4_ofPerson_105 rfl (lv_at hl 1 rfl) ?_
                obtain ⟨r21, σ20, e19, hF⟩ := kbi_e hF
                refine kcX0_isSmelt S hw cv_X4_113 ⟨Nat.le_of_ble_eq_true rfl, Nat.le_of_ble_eq_true rfl⟩ isM_1 e19 hl.1 (Nat.le_of_ble_eq_true rfl) dX4_ofPerson_106 (fun H locs hw hz22 => ?_)
                refine lv_if_eq (tgt := 116) S.1 S.2.1 dX4_ofPerson_109 (by decide) (fun c23 => ?_) (fun c23 => ?_)
                · replace hF := kit hF c23
                  refine lv_iconst (v := 0) S.1 S.2.1 dX4_ofPerson_116 (by decide) ?_
                  obtain ⟨rfl, rfl⟩ := kret hF
                  exact hR _ _ _ _ dX4_ofPerson_117 hw (fun h => nomatch h)
                · replace hF := kif hF c23
                  refine lv_iconst (v := 1) S.1 S.2.1 dX4_ofPerson_112 (by decide) ?_
                  refine lv_goto (tgt := 117) S.1 S.2.1 dX4_ofPerson_113 (by decide) ?_
                  obtain ⟨rfl, rfl⟩ := kret hF
                  exact hR _ _ _ _ dX4_ofPerson_117 hw (fun h => nomatch h)
              · replace hF := kif hF c18
                by_cases c24 : a2 = 6
                · replace hF := kit hF c24
                  refine lv_tableIn (tgt := 118) S.1 S.2.1 dX4_ofPerson_11 (by rw [c24]; decide) (by rw [c24]; decide) (by rw [c24]; rfl) (by decide) ?_
                  refine lv_aload_n S.1 S.2.1 dX4_ofPerson_118 rfl (lv_at hl 0 rfl) ?_
                  refine gf_X4_12 (q := 0) S hw rfl (Nat.le_of_ble_eq_true rfl) rfl dX4_ofPerson_119 ?_
                  refine lv_iload_n S.1 S.2.1 dX4_ofPerson_122 rfl (lv_at hl 1 rfl) ?_
                  obtain ⟨r27, σ26, e25, hF⟩ := kbi_e hF
                  refine kcX0_goesTo S hw cv_X4_116 ⟨Nat.le_of_ble_eq_true rfl, Nat.le_of_ble_eq_true rfl⟩ isM_1 e25 hl.1 (Nat.le_of_ble_eq_true rfl) dX4_ofPerson_123 (fun H locs hw => ?_)
                  obtain ⟨rfl, rfl⟩ := kret hF
                  exact hR _ _ _ _ dX4_ofPerson_126 hw (fun h => nomatch h)
                · replace hF := kif hF c24
                  refine lv_tableOut (tgt := 127) S.1 S.2.1 dX4_ofPerson_11 (ktab7 c6 c8 c10 c12 c14 c18 c24) (by decide) ?_
                  refine lv_bipush (v := (-2)) S.1 S.2.1 dX4_ofPerson_127 (by decide) ?_
                  obtain ⟨rfl, rfl⟩ := kret hF
                  exact hR _ _ _ _ dX4_ofPerson_129 hw (fun h => nomatch h)
  · replace hF := kit hF c5
    refine lv_iconst (v := (-1)) S.1 S.2.1 dX4_ofPerson_8 (by decide) ?_
    obtain ⟨rfl, rfl⟩ := kret hF
    exact hR _ _ _ _ dX4_ofPerson_9 hw (fun h => nomatch h)
set_option maxRecDepth 100000 in
theorem kcX4_ofPerson {p : Program} {l : Launch} {e : Env} {R : Room} {s : State} {m : MethodId} {args : Array Value} {below : List Frame} {meth : Method} {c : Code} {H : Heap} {locs : List Loc} {cells slots : Nat} {Q : State → Prop} {cc : ByteArray} {pc : Nat} {ls : Array Slot} {rest : List Value} {E : kE} {σ ω σ1 : kS} {nL index : Nat} {own : String} {r : Int32} (S : CallFix p m c cc nL s args kBIG own) (hw : kWS E s (cmb σ ω) H locs) (cw : kV own RX4 index yX4_ofPerson cX4_ofPerson 3 (some .int) 2) (hR : 3 + 1 ≤ R.frames ∧ 8 + (3 + 11) + 40 * 3 ≤ R.locals) {a1 : Int32} {a2 : Int32}  (hF : fX4_ofPerson a1 a2 σ = some (r, σ1)) (hls : ls.size = nL) (hW : (rest.map fun v => v.category).sum ≤ 8) (hdg : decode cc pc = .ok (.invokevirtual index, 3)) (kk : ∀ (H1 : Heap) (locs1 : List Loc), kWS E s (cmb σ1 ω) H1 locs1 → W p l e R s m args below meth c H1 locs1 cells slots Q (F0 m (pc + 3) ls (.int r :: rest))) (hf : cells ≤ R.cells ∧ slots ≤ R.slots := by exact ⟨Nat.le_of_ble_eq_true rfl, Nat.le_of_ble_eq_true rfl⟩) : W p l e R s m args below meth c H locs cells slots Q (F0 m pc ls (.int a2 :: .int a1 :: .ref (ead E 0) :: rest)) := kr_calli (mc := 0) (y := yX4_ofPerson) (b := cX4_ofPerson) (n := 0) (lv := 0) (As := []) (ret := some .int) hw (kr_runV (As := [.int a1, .int a2]) (q := 0) S hw ((mX4_ofPerson (l := l) (E := E) (ω := ω) hF) H.size) cw hR rfl (by decide) rfl rfl hls _ rfl hW hdg hf) (fun H1 locs1 h _ => kk H1 locs1 h)
set_option maxHeartbeats 4000000 in
set_option maxRecDepth 100000 in
theorem mX4_hasNoMoor {l : Launch} {E : kE} {ω σ σ1 : kS} {r : Int32}   (hF : fX4_hasNoMoor σ = some (r, σ1)) : kMetI l yX4_hasNoMoor cX4_hasNoMoor 1 (some .boolean) 0 E [.ref (ead E 0)] (cmb σ ω) r (cmb σ1 ω) := by
  refine kMetI.of (by decide +kernel) (Nat.le_of_ble_eq_true rfl) (Or.inr rfl) ?_
  intro p e s m args below meth c Q ls S hR hw hl
  have hl : lv_has ls 1 [(0, .ref (ead E 0))] := hl
  unfold fX4_hasNoMoor at hF
  refine lv_aload_n S.1 S.2.1 dX4_hasNoMoor_0 rfl (lv_at hl 0 rfl) ?_
  refine gf_X4_12 (q := 0) S hw rfl (Nat.le_of_ble_eq_true rfl) rfl dX4_hasNoMoor_1 ?_
  refine gf_X4_92 (q := 1) S hw rfl (Nat.le_of_ble_eq_true rfl) rfl dX4_hasNoMoor_4 ?_
  refine lv_if_ne (tgt := 14) S.1 S.2.1 dX4_hasNoMoor_7 (by decide) (fun c1 => ?_) (fun c1 => ?_)
  · replace hF := kif hF c1
    refine lv_iconst (v := 0) S.1 S.2.1 dX4_hasNoMoor_14 (by decide) ?_
    obtain ⟨rfl, rfl⟩ := kret hF
    exact hR _ _ _ _ dX4_hasNoMoor_15 hw (fun _ => (Or.inl rfl))
  · replace hF := kit hF c1
    refine lv_iconst (v := 1) S.1 S.2.1 dX4_hasNoMoor_10 (by decide) ?_
    refine lv_goto (tgt := 15) S.1 S.2.1 dX4_hasNoMoor_11 (by decide) ?_
    obtain ⟨rfl, rfl⟩ := kret hF
    exact hR _ _ _ _ dX4_hasNoMoor_15 hw (fun _ => (Or.inr rfl))
set_option maxRecDepth 100000 in
theorem kcX4_hasNoMoor {p : Program} {l : Launch} {e : Env} {R : Room} {s : State} {m : MethodId} {args : Array Value} {below : List Frame} {meth : Method} {c : Code} {H : Heap} {locs : List Loc} {cells slots : Nat} {Q : State → Prop} {cc : ByteArray} {pc : Nat} {ls : Array Slot} {rest : List Value} {E : kE} {σ ω σ1 : kS} {nL index : Nat} {own : String} {r : Int32} (S : CallFix p m c cc nL s args kBIG own) (hw : kWS E s (cmb σ ω) H locs) (cw : kV own RX4 index yX4_hasNoMoor cX4_hasNoMoor 1 (some .boolean) 0) (hR : 0 + 1 ≤ R.frames ∧ 8 + (1 + 11) + 40 * 0 ≤ R.locals)   (hF : fX4_hasNoMoor σ = some (r, σ1)) (hls : ls.size = nL) (hW : (rest.map fun v => v.category).sum ≤ 8) (hdg : decode cc pc = .ok (.invokevirtual index, 3)) (kk : ∀ (H1 : Heap) (locs1 : List Loc), kWS E s (cmb σ1 ω) H1 locs1 → (((some .boolean) : Option FieldType) = some .boolean → r = 0 ∨ r = 1) → W p l e R s m args below meth c H1 locs1 cells slots Q (F0 m (pc + 3) ls (.int r :: rest))) (hf : cells ≤ R.cells ∧ slots ≤ R.slots := by exact ⟨Nat.le_of_ble_eq_true rfl, Nat.le_of_ble_eq_true rfl⟩) : W p l e R s m args below meth c H locs cells slots Q (F0 m pc ls (.ref (ead E 0) :: rest)) := kr_calli (mc := 0) (y := yX4_hasNoMoor) (b := cX4_hasNoMoor) (n := 0) (lv := 0) (As := []) hw (kr_runV (As := []) (q := 0) S hw ((mX4_hasNoMoor (l := l) (E := E) (ω := ω) hF) H.size) cw hR rfl (by decide) rfl rfl hls _ rfl hW hdg hf) kk
set_option maxHeartbeats 4000000 in
set_option maxRecDepth 100000 in
theorem mX4_post {l : Launch} {E : kE} {ω σ σ1 : kS} {r : Int32} {a1 : Int32}  (hF : fX4_post a1 σ = some (r, σ1)) : kMetI l yX4_post cX4_post 3 (some .int) 1 E [.ref (ead E 0), .int a1] (cmb σ ω) r (cmb σ1 ω) := by
  refine kMetI.of (by decide +kernel) (Nat.le_of_ble_eq_true rfl) (Or.inl rfl) ?_
  intro p e s m args below meth c Q ls S hR hw hl
  have hl : lv_has ls 3 [(0, .ref (ead E 0)), (1, .int a1)] := hl
  unfold fX4_post at hF
  refine lv_aload_n S.1 S.2.1 dX4_post_0 rfl (lv_at hl 0 rfl) ?_
  obtain ⟨r3, σ2, e1, hF⟩ := kbi_e hF
  refine kcX4_hasNoMoor S hw cv_X4_119 ⟨Nat.le_of_ble_eq_true rfl, Nat.le_of_ble_eq_true rfl⟩ e1 hl.1 (Nat.le_of_ble_eq_true rfl) dX4_post_1 (fun H locs hw hz4 => ?_)
  refine lv_if_eq (tgt := 10) S.1 S.2.1 dX4_post_4 (by decide) (fun c5 => ?_) (fun c5 => ?_)
  · replace hF := kit hF c5
    refine lv_iload_n S.1 S.2.1 dX4_post_10 rfl (lv_at hl 1 rfl) ?_
    refine lv_bipush (v := 10) S.1 S.2.1 dX4_post_11 (by decide) ?_
    obtain ⟨r8, σ7, e6, hF⟩ := kbi_e hF
    refine kcX4_isBelow S hw cv_X4_59 ⟨Nat.le_of_ble_eq_true rfl, Nat.le_of_ble_eq_true rfl⟩ e6 hl.1 (Nat.le_of_ble_eq_true rfl) dX4_post_13 (fun H locs hw hz9 => ?_)
    refine lv_if_ne (tgt := 22) S.1 S.2.1 dX4_post_16 (by decide) (fun c10 => ?_) (fun c10 => ?_)
    · replace hF := kif hF c10
      refine lv_aload_n S.1 S.2.1 dX4_post_22 rfl (lv_at hl 0 rfl) ?_
      refine gf_X4_12 (q := 0) S hw rfl (Nat.le_of_ble_eq_true rfl) rfl dX4_post_23 ?_
      refine gf_X4_123 (q := 1) S hw rfl (Nat.le_of_ble_eq_true rfl) rfl dX4_post_26 ?_
      refine lv_topi (fun v11 ev11 => ?_)
      replace hF := klb hF ev11
      refine lv_istore_n (lv' := [(2, .int v11), (0, .ref (ead E 0)), (1, .int a1)]) S.1 S.2.1 dX4_post_29 rfl hl (by decide) rfl (fun ls hl => ?_)
      refine lv_aload_n S.1 S.2.1 dX4_post_30 rfl (lv_at hl 1 rfl) ?_
      refine gf_X4_12 (q := 0) S hw rfl (Nat.le_of_ble_eq_true rfl) rfl dX4_post_31 ?_
      refine lv_iload_n S.1 S.2.1 dX4_post_34 rfl (lv_at hl 2 rfl) ?_
      refine pf_X4_123 (q := 1) S hw rfl (Nat.le_of_ble_eq_true rfl) rfl dX4_post_35 (fun H locs hw => ?_)
      refine lv_iload_n S.1 S.2.1 dX4_post_38 rfl (lv_at hl 0 rfl) ?_
      obtain ⟨rfl, rfl⟩ := kret hF
      exact hR _ _ _ _ dX4_post_39 hw (fun h => nomatch h)
    · replace hF := kit hF c10
      refine lv_bipush (v := (-2)) S.1 S.2.1 dX4_post_19 (by decide) ?_
      obtain ⟨rfl, rfl⟩ := kret hF
      exact hR _ _ _ _ dX4_post_21 hw (fun h => nomatch h)
  · replace hF := kif hF c5
    refine lv_bipush (v := (-3)) S.1 S.2.1 dX4_post_7 (by decide) ?_
    obtain ⟨rfl, rfl⟩ := kret hF
    exact hR _ _ _ _ dX4_post_9 hw (fun h => nomatch h)
set_option maxRecDepth 100000 in
theorem kcX4_post {p : Program} {l : Launch} {e : Env} {R : Room} {s : State} {m : MethodId} {args : Array Value} {below : List Frame} {meth : Method} {c : Code} {H : Heap} {locs : List Loc} {cells slots : Nat} {Q : State → Prop} {cc : ByteArray} {pc : Nat} {ls : Array Slot} {rest : List Value} {E : kE} {σ ω σ1 : kS} {nL index : Nat} {own : String} {r : Int32} (S : CallFix p m c cc nL s args kBIG own) (hw : kWS E s (cmb σ ω) H locs) (cw : kV own RX4 index yX4_post cX4_post 3 (some .int) 1) (hR : 1 + 1 ≤ R.frames ∧ 8 + (3 + 11) + 40 * 1 ≤ R.locals) {a1 : Int32}  (hF : fX4_post a1 σ = some (r, σ1)) (hls : ls.size = nL) (hW : (rest.map fun v => v.category).sum ≤ 8) (hdg : decode cc pc = .ok (.invokevirtual index, 3)) (kk : ∀ (H1 : Heap) (locs1 : List Loc), kWS E s (cmb σ1 ω) H1 locs1 → W p l e R s m args below meth c H1 locs1 cells slots Q (F0 m (pc + 3) ls (.int r :: rest))) (hf : cells ≤ R.cells ∧ slots ≤ R.slots := by exact ⟨Nat.le_of_ble_eq_true rfl, Nat.le_of_ble_eq_true rfl⟩) : W p l e R s m args below meth c H locs cells slots Q (F0 m pc ls (.int a1 :: .ref (ead E 0) :: rest)) := kr_calli (mc := 0) (y := yX4_post) (b := cX4_post) (n := 0) (lv := 0) (As := []) (ret := some .int) hw (kr_runV (As := [.int a1]) (q := 0) S hw ((mX4_post (l := l) (E := E) (ω := ω) hF) H.size) cw hR rfl (by decide) rfl rfl hls _ rfl hW hdg hf) (fun H1 locs1 h _ => kk H1 locs1 h)
set_option maxHeartbeats 4000000 in
set_option maxRecDepth 100000 in
theorem mX4_lax {l : Launch} {E : kE} {ω σ σ1 : kS} {r : Int32} {a1 : Int32}  (hF : fX4_lax a1 σ = some (r, σ1)) : kMetI l yX4_lax cX4_lax 3 (some .int) 1 E [.ref (ead E 0), .int a1] (cmb σ ω) r (cmb σ1 ω) := by
  refine kMetI.of (by decide +kernel) (Nat.le_of_ble_eq_true rfl) (Or.inl rfl) ?_
  intro p e s m args below meth c Q ls S hR hw hl
  have hl : lv_has ls 3 [(0, .ref (ead E 0)), (1, .int a1)] := hl
  unfold fX4_lax at hF
  refine lv_aload_n S.1 S.2.1 dX4_lax_0 rfl (lv_at hl 0 rfl) ?_
  obtain ⟨r3, σ2, e1, hF⟩ := kbi_e hF
  refine kcX4_hasNoMoor S hw cv_X4_119 ⟨Nat.le_of_ble_eq_true rfl, Nat.le_of_ble_eq_true rfl⟩ e1 hl.1 (Nat.le_of_ble_eq_true rfl) dX4_lax_1 (fun H locs hw hz4 => ?_)
  refine lv_if_eq (tgt := 10) S.1 S.2.1 dX4_lax_4 (by decide) (fun c5 => ?_) (fun c5 => ?_)
  · replace hF := kit hF c5
    refine lv_iload_n S.1 S.2.1 dX4_lax_10 rfl (lv_at hl 1 rfl) ?_
    refine lv_iconst (v := 4) S.1 S.2.1 dX4_lax_11 (by decide) ?_
    obtain ⟨r8, σ7, e6, hF⟩ := kbi_e hF
    refine kcX4_isBelow S hw cv_X4_59 ⟨Nat.le_of_ble_eq_true rfl, Nat.le_of_ble_eq_true rfl⟩ e6 hl.1 (Nat.le_of_ble_eq_true rfl) dX4_lax_12 (fun H locs hw hz9 => ?_)
    refine lv_if_ne (tgt := 21) S.1 S.2.1 dX4_lax_15 (by decide) (fun c10 => ?_) (fun c10 => ?_)
    · replace hF := kif hF c10
      refine lv_aload_n S.1 S.2.1 dX4_lax_21 rfl (lv_at hl 0 rfl) ?_
      refine gf_X4_12 (q := 0) S hw rfl (Nat.le_of_ble_eq_true rfl) rfl dX4_lax_22 ?_
      refine gf_X4_126 (q := 1) S hw rfl (Nat.le_of_ble_eq_true rfl) rfl dX4_lax_25 ?_
      refine lv_topi (fun v11 ev11 => ?_)
      replace hF := klb hF ev11
      refine lv_istore_n (lv' := [(2, .int v11), (0, .ref (ead E 0)), (1, .int a1)]) S.1 S.2.1 dX4_lax_28 rfl hl (by decide) rfl (fun ls hl => ?_)
      refine lv_aload_n S.1 S.2.1 dX4_lax_29 rfl (lv_at hl 1 rfl) ?_
      refine gf_X4_12 (q := 0) S hw rfl (Nat.le_of_ble_eq_true rfl) rfl dX4_lax_30 ?_
      refine lv_iload_n S.1 S.2.1 dX4_lax_33 rfl (lv_at hl 2 rfl) ?_
      refine pf_X4_126 (q := 1) S hw rfl (Nat.le_of_ble_eq_true rfl) rfl dX4_lax_34 (fun H locs hw => ?_)
      refine lv_iload_n S.1 S.2.1 dX4_lax_37 rfl (lv_at hl 0 rfl) ?_
      obtain ⟨rfl, rfl⟩ := kret hF
      exact hR _ _ _ _ dX4_lax_38 hw (fun h => nomatch h)
    · replace hF := kit hF c10
      refine lv_bipush (v := (-2)) S.1 S.2.1 dX4_lax_18 (by decide) ?_
      obtain ⟨rfl, rfl⟩ := kret hF
      exact hR _ _ _ _ dX4_lax_20 hw (fun h => nomatch h)
  · replace hF := kif hF c5
    refine lv_bipush (v := (-3)) S.1 S.2.1 dX4_lax_7 (by decide) ?_
    obtain ⟨rfl, rfl⟩ := kret hF
    exact hR _ _ _ _ dX4_lax_9 hw (fun h => nomatch h)
set_option maxRecDepth 100000 in
theorem kcX4_lax {p : Program} {l : Launch} {e : Env} {R : Room} {s : State} {m : MethodId} {args : Array Value} {below : List Frame} {meth : Method} {c : Code} {H : Heap} {locs : List Loc} {cells slots : Nat} {Q : State → Prop} {cc : ByteArray} {pc : Nat} {ls : Array Slot} {rest : List Value} {E : kE} {σ ω σ1 : kS} {nL index : Nat} {own : String} {r : Int32} (S : CallFix p m c cc nL s args kBIG own) (hw : kWS E s (cmb σ ω) H locs) (cw : kV own RX4 index yX4_lax cX4_lax 3 (some .int) 1) (hR : 1 + 1 ≤ R.frames ∧ 8 + (3 + 11) + 40 * 1 ≤ R.locals) {a1 : Int32}  (hF : fX4_lax a1 σ = some (r, σ1)) (hls : ls.size = nL) (hW : (rest.map fun v => v.category).sum ≤ 8) (hdg : decode cc pc = .ok (.invokevirtual index, 3)) (kk : ∀ (H1 : Heap) (locs1 : List Loc), kWS E s (cmb σ1 ω) H1 locs1 → W p l e R s m args below meth c H1 locs1 cells slots Q (F0 m (pc + 3) ls (.int r :: rest))) (hf : cells ≤ R.cells ∧ slots ≤ R.slots := by exact ⟨Nat.le_of_ble_eq_true rfl, Nat.le_of_ble_eq_true rfl⟩) : W p l e R s m args below meth c H locs cells slots Q (F0 m pc ls (.int a1 :: .ref (ead E 0) :: rest)) := kr_calli (mc := 0) (y := yX4_lax) (b := cX4_lax) (n := 0) (lv := 0) (As := []) (ret := some .int) hw (kr_runV (As := [.int a1]) (q := 0) S hw ((mX4_lax (l := l) (E := E) (ω := ω) hF) H.size) cw hR rfl (by decide) rfl rfl hls _ rfl hW hdg hf) (fun H1 locs1 h _ => kk H1 locs1 h)
set_option maxHeartbeats 4000000 in
set_option maxRecDepth 100000 in
theorem mX4_becomes {l : Launch} {E : kE} {ω σ σ1 : kS} {r : Int32} {q1 : Nat} {a2 : Int32} {a3 : Int32} {a4 : Int32} (hq1 : xA q1 6) (hF : fX4_becomes q1 a2 a3 a4 σ = some (r, σ1)) : kMetI l yX4_becomes cX4_becomes 6 (some .int) 2 E [.ref (ead E 0), .ref (ead E q1), .int a2, .int a3, .int a4] (cmb σ ω) r (cmb σ1 ω) := by
  refine kMetI.of (by decide +kernel) (Nat.le_of_ble_eq_true rfl) (Or.inl rfl) ?_
  intro p e s m args below meth c Q ls S hR hw hl
  have hl : lv_has ls 6 [(0, .ref (ead E 0)), (1, .ref (ead E q1)), (2, .int a2), (3, .int a3), (4, .int a4)] := hl
  unfold fX4_becomes at hF
  refine lv_aload_n S.1 S.2.1 dX4_becomes_0 rfl (lv_at hl 0 rfl) ?_
  refine lv_iload_n S.1 S.2.1 dX4_becomes_1 rfl (lv_at hl 2 rfl) ?_
  obtain ⟨r3, σ2, e1, hF⟩ := kbi_e hF
  refine kcX4_isPerson S hw cv_X4_95 ⟨Nat.le_of_ble_eq_true rfl, Nat.le_of_ble_eq_true rfl⟩ e1 hl.1 (Nat.le_of_ble_eq_true rfl) dX4_becomes_2 (fun H locs hw hz4 => ?_)
  refine lv_if_ne (tgt := 10) S.1 S.2.1 dX4_becomes_5 (by decide) (fun c5 => ?_) (fun c5 => ?_)
  · replace hF := kif hF c5
    refine lv_iload_n S.1 S.2.1 dX4_becomes_10 rfl (lv_at hl 3 rfl) ?_
    refine lv_iload S.1 S.2.1 dX4_becomes_11 (lv_at hl 4 rfl) ?_
    obtain ⟨r8, σ7, e6, hF⟩ := kbi_e hF
    refine kcX4_isBelow S hw cv_X4_59 ⟨Nat.le_of_ble_eq_true rfl, Nat.le_of_ble_eq_true rfl⟩ e6 hl.1 (Nat.le_of_ble_eq_true rfl) dX4_becomes_13 (fun H locs hw hz9 => ?_)
    refine lv_if_ne (tgt := 22) S.1 S.2.1 dX4_becomes_16 (by decide) (fun c10 => ?_) (fun c10 => ?_)
    · replace hF := kif hF c10
      refine lv_aload_n S.1 S.2.1 dX4_becomes_22 rfl (lv_at hl 1 rfl) ?_
      refine lv_iload_n S.1 S.2.1 dX4_becomes_23 rfl (lv_at hl 2 rfl) ?_
      obtain ⟨hb11, hF⟩ := kin hF
      refine kx_iald (q := q1) S hw hq1.1 hq1.2 hb11 dX4_becomes_24 ?_
      refine lv_topi (fun v12 ev12 => ?_)
      replace hF := klb hF ev12
      refine lv_istore (lv' := [(5, .int v12), (0, .ref (ead E 0)), (1, .ref (ead E q1)), (2, .int a2), (3, .int a3), (4, .int a4)]) S.1 S.2.1 dX4_becomes_25 hl (by decide) rfl (fun ls hl => ?_)
      refine lv_aload_n S.1 S.2.1 dX4_becomes_27 rfl (lv_at hl 2 rfl) ?_
      refine lv_iload_n S.1 S.2.1 dX4_becomes_28 rfl (lv_at hl 3 rfl) ?_
      refine lv_iload_n S.1 S.2.1 dX4_becomes_29 rfl (lv_at hl 4 rfl) ?_
      obtain ⟨hb13, hF⟩ := kin hF
      refine kx_iast (q := q1) S hw hq1.1 hq1.2 hb13 dX4_becomes_30 (fun H locs hw => ?_)
      refine lv_iload S.1 S.2.1 dX4_becomes_31 (lv_at hl 0 rfl) ?_
      obtain ⟨rfl, rfl⟩ := kret hF
      exact hR _ _ _ _ dX4_becomes_33 hw (fun h => nomatch h)
    · replace hF := kit hF c10
      refine lv_bipush (v := (-2)) S.1 S.2.1 dX4_becomes_19 (by decide) ?_
      obtain ⟨rfl, rfl⟩ := kret hF
      exact hR _ _ _ _ dX4_becomes_21 hw (fun h => nomatch h)
  · replace hF := kit hF c5
    refine lv_iconst (v := (-1)) S.1 S.2.1 dX4_becomes_8 (by decide) ?_
    obtain ⟨rfl, rfl⟩ := kret hF
    exact hR _ _ _ _ dX4_becomes_9 hw (fun h => nomatch h)
set_option maxRecDepth 100000 in
theorem kcX4_becomes {p : Program} {l : Launch} {e : Env} {R : Room} {s : State} {m : MethodId} {args : Array Value} {below : List Frame} {meth : Method} {c : Code} {H : Heap} {locs : List Loc} {cells slots : Nat} {Q : State → Prop} {cc : ByteArray} {pc : Nat} {ls : Array Slot} {rest : List Value} {E : kE} {σ ω σ1 : kS} {nL index : Nat} {own : String} {r : Int32} (S : CallFix p m c cc nL s args kBIG own) (hw : kWS E s (cmb σ ω) H locs) (cw : kV own RX4 index yX4_becomes cX4_becomes 6 (some .int) 4) (hR : 2 + 1 ≤ R.frames ∧ 8 + (6 + 11) + 40 * 2 ≤ R.locals) {q1 : Nat} {a2 : Int32} {a3 : Int32} {a4 : Int32} (hq1 : xA q1 6) (hF : fX4_becomes q1 a2 a3 a4 σ = some (r, σ1)) (hls : ls.size = nL) (hW : (rest.map fun v => v.category).sum ≤ 8) (hdg : decode cc pc = .ok (.invokevirtual index, 3)) (kk : ∀ (H1 : Heap) (locs1 : List Loc), kWS E s (cmb σ1 ω) H1 locs1 → W p l e R s m args below meth c H1 locs1 cells slots Q (F0 m (pc + 3) ls (.int r :: rest))) (hf : cells ≤ R.cells ∧ slots ≤ R.slots := by exact ⟨Nat.le_of_ble_eq_true rfl, Nat.le_of_ble_eq_true rfl⟩) : W p l e R s m args below meth c H locs cells slots Q (F0 m pc ls (.int a4 :: .int a3 :: .int a2 :: .ref (ead E q1) :: .ref (ead E 0) :: rest)) := kr_calli (mc := 0) (y := yX4_becomes) (b := cX4_becomes) (n := 0) (lv := 0) (As := []) (ret := some .int) hw (kr_runV (As := [.ref (ead E q1), .int a2, .int a3, .int a4]) (q := 0) S hw ((mX4_becomes (l := l) (E := E) (ω := ω) hq1 hF) H.size) cw hR rfl (by decide) rfl rfl hls _ rfl hW hdg hf) (fun H1 locs1 h _ => kk H1 locs1 h)
set_option maxHeartbeats 4000000 in
set_option maxRecDepth 100000 in
theorem mX4_bathe {l : Launch} {E : kE} {ω σ σ1 : kS} {r : Int32} {a1 : Int32} {a2 : Int32}  (hF : fX4_bathe a1 a2 σ = some (r, σ1)) : kMetI l yX4_bathe cX4_bathe 3 (some .int) 3 E [.ref (ead E 0), .int a1, .int a2] (cmb σ ω) r (cmb σ1 ω) := by
  refine kMetI.of (by decide +kernel) (Nat.le_of_ble_eq_true rfl) (Or.inl rfl) ?_
  intro p e s m args below meth c Q ls S hR hw hl
  have hl : lv_has ls 3 [(0, .ref (ead E 0)), (1, .int a1), (2, .int a2)] := hl
  unfold fX4_bathe at hF
  refine lv_aload_n S.1 S.2.1 dX4_bathe_0 rfl (lv_at hl 0 rfl) ?_
  refine lv_aload_n S.1 S.2.1 dX4_bathe_1 rfl (lv_at hl 0 rfl) ?_
  refine gf_X4_12 (q := 0) S hw rfl (Nat.le_of_ble_eq_true rfl) rfl dX4_bathe_2 ?_
  refine gf_X4_101 (q := 1) S hw rfl (Nat.le_of_ble_eq_true rfl) rfl dX4_bathe_5 ?_
  refine lv_iload_n S.1 S.2.1 dX4_bathe_8 rfl (lv_at hl 1 rfl) ?_
  refine lv_iload_n S.1 S.2.1 dX4_bathe_9 rfl (lv_at hl 2 rfl) ?_
  refine lv_bipush (v := 8) S.1 S.2.1 dX4_bathe_10 (by decide) ?_
  obtain ⟨r3, σ2, e1, hF⟩ := kbi_e hF
  refine kcX4_becomes S hw cv_X4_129 ⟨Nat.le_of_ble_eq_true rfl, Nat.le_of_ble_eq_true rfl⟩ (⟨rfl, Nat.le_of_ble_eq_true rfl⟩ : xA 3 6) e1 hl.1 (Nat.le_of_ble_eq_true rfl) dX4_bathe_12 (fun H locs hw => ?_)
  obtain ⟨rfl, rfl⟩ := kret hF
  exact hR _ _ _ _ dX4_bathe_15 hw (fun h => nomatch h)
set_option maxRecDepth 100000 in
theorem kcX4_bathe {p : Program} {l : Launch} {e : Env} {R : Room} {s : State} {m : MethodId} {args : Array Value} {below : List Frame} {meth : Method} {c : Code} {H : Heap} {locs : List Loc} {cells slots : Nat} {Q : State → Prop} {cc : ByteArray} {pc : Nat} {ls : Array Slot} {rest : List Value} {E : kE} {σ ω σ1 : kS} {nL index : Nat} {own : String} {r : Int32} (S : CallFix p m c cc nL s args kBIG own) (hw : kWS E s (cmb σ ω) H locs) (cw : kV own RX4 index yX4_bathe cX4_bathe 3 (some .int) 2) (hR : 3 + 1 ≤ R.frames ∧ 8 + (3 + 11) + 40 * 3 ≤ R.locals) {a1 : Int32} {a2 : Int32}  (hF : fX4_bathe a1 a2 σ = some (r, σ1)) (hls : ls.size = nL) (hW : (rest.map fun v => v.category).sum ≤ 8) (hdg : decode cc pc = .ok (.invokevirtual index, 3)) (kk : ∀ (H1 : Heap) (locs1 : List Loc), kWS E s (cmb σ1 ω) H1 locs1 → W p l e R s m args below meth c H1 locs1 cells slots Q (F0 m (pc + 3) ls (.int r :: rest))) (hf : cells ≤ R.cells ∧ slots ≤ R.slots := by exact ⟨Nat.le_of_ble_eq_true rfl, Nat.le_of_ble_eq_true rfl⟩) : W p l e R s m args below meth c H locs cells slots Q (F0 m pc ls (.int a2 :: .int a1 :: .ref (ead E 0) :: rest)) := kr_calli (mc := 0) (y := yX4_bathe) (b := cX4_bathe) (n := 0) (lv := 0) (As := []) (ret := some .int) hw (kr_runV (As := [.int a1, .int a2]) (q := 0) S hw ((mX4_bathe (l := l) (E := E) (ω := ω) hF) H.size) cw hR rfl (by decide) rfl rfl hls _ rfl hW hdg hf) (fun H1 locs1 h _ => kk H1 locs1 h)
set_option maxHeartbeats 4000000 in
set_option maxRecDepth 100000 in
theorem mX4_moves {l : Launch} {E : kE} {ω σ σ1 : kS} {r : Int32} {a1 : Int32} {a2 : Int32}  (hF : fX4_moves a1 a2 σ = some (r, σ1)) : kMetI l yX4_moves cX4_moves 3 (some .int) 3 E [.ref (ead E 0), .int a1, .int a2] (cmb σ ω) r (cmb σ1 ω) := by
  refine kMetI.of (by decide +kernel) (Nat.le_of_ble_eq_true rfl) (Or.inl rfl) ?_
  intro p e s m args below meth c Q ls S hR hw hl
  have hl : lv_has ls 3 [(0, .ref (ead E 0)), (1, .int a1), (2, .int a2)] := hl
  unfold fX4_moves at hF
  refine lv_aload_n S.1 S.2.1 dX4_moves_0 rfl (lv_at hl 0 rfl) ?_
  refine lv_aload_n S.1 S.2.1 dX4_moves_1 rfl (lv_at hl 0 rfl) ?_
  refine gf_X4_12 (q := 0) S hw rfl (Nat.le_of_ble_eq_true rfl) rfl dX4_moves_2 ?_
  refine gf_X4_107 (q := 1) S hw rfl (Nat.le_of_ble_eq_true rfl) rfl dX4_moves_5 ?_
  refine lv_iload_n S.1 S.2.1 dX4_moves_8 rfl (lv_at hl 1 rfl) ?_
  refine lv_iload_n S.1 S.2.1 dX4_moves_9 rfl (lv_at hl 2 rfl) ?_
  refine lv_bipush (v := 10) S.1 S.2.1 dX4_moves_10 (by decide) ?_
  obtain ⟨r3, σ2, e1, hF⟩ := kbi_e hF
  refine kcX4_becomes S hw cv_X4_129 ⟨Nat.le_of_ble_eq_true rfl, Nat.le_of_ble_eq_true rfl⟩ (⟨rfl, Nat.le_of_ble_eq_true rfl⟩ : xA 5 6) e1 hl.1 (Nat.le_of_ble_eq_true rfl) dX4_moves_12 (fun H locs hw => ?_)
  obtain ⟨rfl, rfl⟩ := kret hF
  exact hR _ _ _ _ dX4_moves_15 hw (fun h => nomatch h)
set_option maxRecDepth 100000 in
theorem kcX4_moves {p : Program} {l : Launch} {e : Env} {R : Room} {s : State} {m : MethodId} {args : Array Value} {below : List Frame} {meth : Method} {c : Code} {H : Heap} {locs : List Loc} {cells slots : Nat} {Q : State → Prop} {cc : ByteArray} {pc : Nat} {ls : Array Slot} {rest : List Value} {E : kE} {σ ω σ1 : kS} {nL index : Nat} {own : String} {r : Int32} (S : CallFix p m c cc nL s args kBIG own) (hw : kWS E s (cmb σ ω) H locs) (cw : kV own RX4 index yX4_moves cX4_moves 3 (some .int) 2) (hR : 3 + 1 ≤ R.frames ∧ 8 + (3 + 11) + 40 * 3 ≤ R.locals) {a1 : Int32} {a2 : Int32}  (hF : fX4_moves a1 a2 σ = some (r, σ1)) (hls : ls.size = nL) (hW : (rest.map fun v => v.category).sum ≤ 8) (hdg : decode cc pc = .ok (.invokevirtual index, 3)) (kk : ∀ (H1 : Heap) (locs1 : List Loc), kWS E s (cmb σ1 ω) H1 locs1 → W p l e R s m args below meth c H1 locs1 cells slots Q (F0 m (pc + 3) ls (.int r :: rest))) (hf : cells ≤ R.cells ∧ slots ≤ R.slots := by exact ⟨Nat.le_of_ble_eq_true rfl, Nat.le_of_ble_eq_true rfl⟩) : W p l e R s m args below meth c H locs cells slots Q (F0 m pc ls (.int a2 :: .int a1 :: .ref (ead E 0) :: rest)) := kr_calli (mc := 0) (y := yX4_moves) (b := cX4_moves) (n := 0) (lv := 0) (As := []) (ret := some .int) hw (kr_runV (As := [.int a1, .int a2]) (q := 0) S hw ((mX4_moves (l := l) (E := E) (ω := ω) hF) H.size) cw hR rfl (by decide) rfl rfl hls _ rfl hW hdg hf) (fun H1 locs1 h _ => kk H1 locs1 h)
set_option maxHeartbeats 4000000 in
set_option maxRecDepth 100000 in
theorem mX4_send {l : Launch} {E : kE} {ω σ σ1 : kS} {r : Int32} {a1 : Int32}  (hF : fX4_send a1 σ = some (r, σ1)) : kMetI l yX4_send cX4_send 2 (some .int) 4 E [.ref (ead E 0), .int a1] (cmb σ ω) r (cmb σ1 ω) := by
  refine kMetI.of (by decide +kernel) (Nat.le_of_ble_eq_true rfl) (Or.inl rfl) ?_
  intro p e s m args below meth c Q ls S hR hw hl
  have hl : lv_has ls 2 [(0, .ref (ead E 0)), (1, .int a1)] := hl
  unfold fX4_send at hF
  refine lv_aload_n S.1 S.2.1 dX4_send_0 rfl (lv_at hl 0 rfl) ?_
  refine lv_iload_n S.1 S.2.1 dX4_send_1 rfl (lv_at hl 1 rfl) ?_
  obtain ⟨r3, σ2, e1, hF⟩ := kbi_e hF
  refine kcX4_isPerson S hw cv_X4_95 ⟨Nat.le_of_ble_eq_true rfl, Nat.le_of_ble_eq_true rfl⟩ e1 hl.1 (Nat.le_of_ble_eq_true rfl) dX4_send_2 (fun H locs hw hz4 => ?_)
  refine lv_if_ne (tgt := 10) S.1 S.2.1 dX4_send_5 (by decide) (fun c5 => ?_) (fun c5 => ?_)
  · replace hF := kif hF c5
    refine lv_aload_n S.1 S.2.1 dX4_send_10 rfl (lv_at hl 0 rfl) ?_
    refine lv_dup S.1 S.2.1 dX4_send_11 rfl ?_
    refine gf_X4_89 (q := 0) S hw rfl (Nat.le_of_ble_eq_true rfl) rfl dX4_send_12 ?_
    refine lv_iconst (v := 1) S.1 S.2.1 dX4_send_15 (by decide) ?_
    refine lv_iadd S.1 S.2.1 dX4_send_16 ?_
    refine pf_X4_89 (q := 0) S hw rfl (Nat.le_of_ble_eq_true rfl) rfl dX4_send_17 (fun H locs hw => ?_)
    refine lv_aload_n S.1 S.2.1 dX4_send_20 rfl (lv_at hl 0 rfl) ?_
    refine gf_X4_12 (q := 0) S hw rfl (Nat.le_of_ble_eq_true rfl) rfl dX4_send_21 ?_
    refine lv_iload_n S.1 S.2.1 dX4_send_24 rfl (lv_at hl 1 rfl) ?_
    obtain ⟨r8, σ7, e6, hF⟩ := kbi_e hF
    refine kcX0_deliver S hw cv_X4_133 ⟨Nat.le_of_ble_eq_true rfl, Nat.le_of_ble_eq_true rfl⟩ isM_1 e6 hl.1 (Nat.le_of_ble_eq_true rfl) dX4_send_25 (fun H locs hw => ?_)
    obtain ⟨rfl, rfl⟩ := kret hF
    exact hR _ _ _ _ dX4_send_28 hw (fun h => nomatch h)
  · replace hF := kit hF c5
    refine lv_iconst (v := (-1)) S.1 S.2.1 dX4_send_8 (by decide) ?_
    obtain ⟨rfl, rfl⟩ := kret hF
    exact hR _ _ _ _ dX4_send_9 hw (fun h => nomatch h)
set_option maxRecDepth 100000 in
theorem kcX4_send {p : Program} {l : Launch} {e : Env} {R : Room} {s : State} {m : MethodId} {args : Array Value} {below : List Frame} {meth : Method} {c : Code} {H : Heap} {locs : List Loc} {cells slots : Nat} {Q : State → Prop} {cc : ByteArray} {pc : Nat} {ls : Array Slot} {rest : List Value} {E : kE} {σ ω σ1 : kS} {nL index : Nat} {own : String} {r : Int32} (S : CallFix p m c cc nL s args kBIG own) (hw : kWS E s (cmb σ ω) H locs) (cw : kV own RX4 index yX4_send cX4_send 2 (some .int) 1) (hR : 4 + 1 ≤ R.frames ∧ 8 + (2 + 11) + 40 * 4 ≤ R.locals) {a1 : Int32}  (hF : fX4_send a1 σ = some (r, σ1)) (hls : ls.size = nL) (hW : (rest.map fun v => v.category).sum ≤ 8) (hdg : decode cc pc = .ok (.invokevirtual index, 3)) (kk : ∀ (H1 : Heap) (locs1 : List Loc), kWS E s (cmb σ1 ω) H1 locs1 → W p l e R s m args below meth c H1 locs1 cells slots Q (F0 m (pc + 3) ls (.int r :: rest))) (hf : cells ≤ R.cells ∧ slots ≤ R.slots := by exact ⟨Nat.le_of_ble_eq_true rfl, Nat.le_of_ble_eq_true rfl⟩) : W p l e R s m args below meth c H locs cells slots Q (F0 m pc ls (.int a1 :: .ref (ead E 0) :: rest)) := kr_calli (mc := 0) (y := yX4_send) (b := cX4_send) (n := 0) (lv := 0) (As := []) (ret := some .int) hw (kr_runV (As := [.int a1]) (q := 0) S hw ((mX4_send (l := l) (E := E) (ω := ω) hF) H.size) cw hR rfl (by decide) rfl rfl hls _ rfl hW hdg hf) (fun H1 locs1 h _ => kk H1 locs1 h)
set_option maxHeartbeats 4000000 in
set_option maxRecDepth 100000 in
theorem mX4_comes {l : Launch} {E : kE} {ω σ σ1 : kS} {r : Int32} {a1 : Int32}  (hF : fX4_comes a1 σ = some (r, σ1)) : kMetI l yX4_comes cX4_comes 2 (some .int) 4 E [.ref (ead E 0), .int a1] (cmb σ ω) r (cmb σ1 ω) := by
  refine kMetI.of (by decide +kernel) (Nat.le_of_ble_eq_true rfl) (Or.inl rfl) ?_
  intro p e s m args below meth c Q ls S hR hw hl
  have hl : lv_has ls 2 [(0, .ref (ead E 0)), (1, .int a1)] := hl
  unfold fX4_comes at hF
  refine lv_aload_n S.1 S.2.1 dX4_comes_0 rfl (lv_at hl 0 rfl) ?_
  obtain ⟨r3, σ2, e1, hF⟩ := kbi_e hF
  refine kcX4_hasNoMoor S hw cv_X4_119 ⟨Nat.le_of_ble_eq_true rfl, Nat.le_of_ble_eq_true rfl⟩ e1 hl.1 (Nat.le_of_ble_eq_true rfl) dX4_comes_1 (fun H locs hw hz4 => ?_)
  refine lv_if_eq (tgt := 10) S.1 S.2.1 dX4_comes_4 (by decide) (fun c5 => ?_) (fun c5 => ?_)
  · replace hF := kit hF c5
    refine lv_iload_n S.1 S.2.1 dX4_comes_10 rfl (lv_at hl 1 rfl) ?_
    by_cases c6 : a1 = 0
    · replace hF := kit hF c6
      refine lv_lookup (off := 25) (tgt := 36) S.1 S.2.1 dX4_comes_11 (by decide) (by rw [c6]; rfl) (by decide) ?_
      refine lv_aload_n S.1 S.2.1 dX4_comes_36 rfl (lv_at hl 0 rfl) ?_
      refine gf_X4_12 (q := 0) S hw rfl (Nat.le_of_ble_eq_true rfl) rfl dX4_comes_37 ?_
      obtain ⟨r9, σ8, e7, hF⟩ := kbi_e hF
      refine kcX0_whoseCome S hw cv_X4_136 ⟨Nat.le_of_ble_eq_true rfl, Nat.le_of_ble_eq_true rfl⟩ isM_1 e7 hl.1 (Nat.le_of_ble_eq_true rfl) dX4_comes_40 (fun H locs hw => ?_)
      obtain ⟨rfl, rfl⟩ := kret hF
      exact hR _ _ _ _ dX4_comes_43 hw (fun h => nomatch h)
    · replace hF := kif hF c6
      by_cases c10 : a1 = 1
      · replace hF := kit hF c10
        refine lv_lookup (off := 33) (tgt := 44) S.1 S.2.1 dX4_comes_11 (by decide) (by rw [c10]; rfl) (by decide) ?_
        refine lv_aload_n S.1 S.2.1 dX4_comes_44 rfl (lv_at hl 0 rfl) ?_
        refine gf_X4_12 (q := 0) S hw rfl (Nat.le_of_ble_eq_true rfl) rfl dX4_comes_45 ?_
        obtain ⟨r13, σ12, e11, hF⟩ := kbi_e hF
        refine kcX0_whoGetOne S hw cv_X4_140 ⟨Nat.le_of_ble_eq_true rfl, Nat.le_of_ble_eq_true rfl⟩ isM_1 e11 hl.1 (Nat.le_of_ble_eq_true rfl) dX4_comes_48 (fun H locs hw => ?_)
        obtain ⟨rfl, rfl⟩ := kret hF
        exact hR _ _ _ _ dX4_comes_51 hw (fun h => nomatch h)
      · replace hF := kif hF c10
        refine lv_lookup (off := 41) (tgt := 52) S.1 S.2.1 dX4_comes_11 (by decide) (klook2 (klk c6 rfl) (klk c10 rfl)) (by decide) ?_
        refine lv_bipush (v := (-2)) S.1 S.2.1 dX4_comes_52 (by decide) ?_
        obtain ⟨rfl, rfl⟩ := kret hF
        exact hR _ _ _ _ dX4_comes_54 hw (fun h => nomatch h)
  · replace hF := kif hF c5
    refine lv_bipush (v := (-3)) S.1 S.2.1 dX4_comes_7 (by decide) ?_
    obtain ⟨rfl, rfl⟩ := kret hF
    exact hR _ _ _ _ dX4_comes_9 hw (fun h => nomatch h)
set_option maxRecDepth 100000 in
theorem kcX4_comes {p : Program} {l : Launch} {e : Env} {R : Room} {s : State} {m : MethodId} {args : Array Value} {below : List Frame} {meth : Method} {c : Code} {H : Heap} {locs : List Loc} {cells slots : Nat} {Q : State → Prop} {cc : ByteArray} {pc : Nat} {ls : Array Slot} {rest : List Value} {E : kE} {σ ω σ1 : kS} {nL index : Nat} {own : String} {r : Int32} (S : CallFix p m c cc nL s args kBIG own) (hw : kWS E s (cmb σ ω) H locs) (cw : kV own RX4 index yX4_comes cX4_comes 2 (some .int) 1) (hR : 4 + 1 ≤ R.frames ∧ 8 + (2 + 11) + 40 * 4 ≤ R.locals) {a1 : Int32}  (hF : fX4_comes a1 σ = some (r, σ1)) (hls : ls.size = nL) (hW : (rest.map fun v => v.category).sum ≤ 8) (hdg : decode cc pc = .ok (.invokevirtual index, 3)) (kk : ∀ (H1 : Heap) (locs1 : List Loc), kWS E s (cmb σ1 ω) H1 locs1 → W p l e R s m args below meth c H1 locs1 cells slots Q (F0 m (pc + 3) ls (.int r :: rest))) (hf : cells ≤ R.cells ∧ slots ≤ R.slots := by exact ⟨Nat.le_of_ble_eq_true rfl, Nat.le_of_ble_eq_true rfl⟩) : W p l e R s m args below meth c H locs cells slots Q (F0 m pc ls (.int a1 :: .ref (ead E 0) :: rest)) := kr_calli (mc := 0) (y := yX4_comes) (b := cX4_comes) (n := 0) (lv := 0) (As := []) (ret := some .int) hw (kr_runV (As := [.int a1]) (q := 0) S hw ((mX4_comes (l := l) (E := E) (ω := ω) hF) H.size) cw hR rfl (by decide) rfl rfl hls _ rfl hW hdg hf) (fun H1 locs1 h _ => kk H1 locs1 h)
set_option maxHeartbeats 4000000 in
set_option maxRecDepth 100000 in
theorem mX4_isOfRound {l : Launch} {E : kE} {ω σ σ1 : kS} {r : Int32} {a0 : Int32}  (hF : fX4_isOfRound a0 σ = some (r, σ1)) : kMetI l yX4_isOfRound cX4_isOfRound 1 (some .boolean) 1 E [.int a0] (cmb σ ω) r (cmb σ1 ω) := by
  refine kMetI.of (by decide +kernel) (Nat.le_of_ble_eq_true rfl) (Or.inr rfl) ?_
  intro p e s m args below meth c Q ls S hR hw hl
  have hl : lv_has ls 1 [(0, .int a0)] := hl
  unfold fX4_isOfRound at hF
  refine lv_iload_n S.1 S.2.1 dX4_isOfRound_0 rfl (lv_at hl 0 rfl) ?_
  refine lv_iconst (v := 4) S.1 S.2.1 dX4_isOfRound_1 (by decide) ?_
  obtain ⟨r3, σ2, e1, hF⟩ := kbi_e hF
  refine kcX4_isBelow S hw cv_X4_59 ⟨Nat.le_of_ble_eq_true rfl, Nat.le_of_ble_eq_true rfl⟩ e1 hl.1 (Nat.le_of_ble_eq_true rfl) dX4_isOfRound_2 (fun H locs hw hz4 => ?_)
  refine lv_if_ne (tgt := 20) S.1 S.2.1 dX4_isOfRound_5 (by decide) (fun c5 => ?_) (fun c5 => ?_)
  · replace hF := kif hF c5
    refine lv_iconst (v := 1) S.1 S.2.1 dX4_isOfRound_20 (by decide) ?_
    refine lv_goto (tgt := 25) S.1 S.2.1 dX4_isOfRound_21 (by decide) ?_
    obtain ⟨rfl, rfl⟩ := kret hF
    exact hR _ _ _ _ dX4_isOfRound_25 hw (fun _ => (Or.inr rfl))
  · replace hF := kit hF c5
    refine lv_iload_n S.1 S.2.1 dX4_isOfRound_8 rfl (lv_at hl 0 rfl) ?_
    refine lv_bipush (v := 10) S.1 S.2.1 dX4_isOfRound_9 (by decide) ?_
    refine lv_isub S.1 S.2.1 dX4_isOfRound_11 ?_
    refine lv_bipush (v := 6) S.1 S.2.1 dX4_isOfRound_12 (by decide) ?_
    obtain ⟨r8, σ7, e6, hF⟩ := kbi_e hF
    refine kcX4_isBelow S hw cv_X4_59 ⟨Nat.le_of_ble_eq_true rfl, Nat.le_of_ble_eq_true rfl⟩ e6 hl.1 (Nat.le_of_ble_eq_true rfl) dX4_isOfRound_14 (fun H locs hw hz9 => ?_)
    refine lv_if_eq (tgt := 24) S.1 S.2.1 dX4_isOfRound_17 (by decide) (fun c10 => ?_) (fun c10 => ?_)
    · replace hF := kit hF c10
      refine lv_iconst (v := 0) S.1 S.2.1 dX4_isOfRound_24 (by decide) ?_
      obtain ⟨rfl, rfl⟩ := kret hF
      exact hR _ _ _ _ dX4_isOfRound_25 hw (fun _ => (Or.inl rfl))
    · replace hF := kif hF c10
      refine lv_iconst (v := 1) S.1 S.2.1 dX4_isOfRound_20 (by decide) ?_
      refine lv_goto (tgt := 25) S.1 S.2.1 dX4_isOfRound_21 (by decide) ?_
      obtain ⟨rfl, rfl⟩ := kret hF
      exact hR _ _ _ _ dX4_isOfRound_25 hw (fun _ => (Or.inr rfl))
set_option maxRecDepth 100000 in
theorem kcX4_isOfRound {p : Program} {l : Launch} {e : Env} {R : Room} {s : State} {m : MethodId} {args : Array Value} {below : List Frame} {meth : Method} {c : Code} {H : Heap} {locs : List Loc} {cells slots : Nat} {Q : State → Prop} {cc : ByteArray} {pc : Nat} {ls : Array Slot} {rest : List Value} {E : kE} {σ ω σ1 : kS} {nL index : Nat} {own : String} {r : Int32} (S : CallFix p m c cc nL s args kBIG own) (hw : kWS E s (cmb σ ω) H locs) (cw : kSt own index yX4_isOfRound cX4_isOfRound 1 (some .boolean) 1) (hR : 1 + 1 ≤ R.frames ∧ 8 + (1 + 11) + 40 * 1 ≤ R.locals) {a0 : Int32}  (hF : fX4_isOfRound a0 σ = some (r, σ1)) (hls : ls.size = nL) (hW : (rest.map fun v => v.category).sum ≤ 8) (hdg : decode cc pc = .ok (.invokestatic index, 3)) (kk : ∀ (H1 : Heap) (locs1 : List Loc), kWS E s (cmb σ1 ω) H1 locs1 → (((some .boolean) : Option FieldType) = some .boolean → r = 0 ∨ r = 1) → W p l e R s m args below meth c H1 locs1 cells slots Q (F0 m (pc + 3) ls (.int r :: rest))) (hf : cells ≤ R.cells ∧ slots ≤ R.slots := by exact ⟨Nat.le_of_ble_eq_true rfl, Nat.le_of_ble_eq_true rfl⟩) : W p l e R s m args below meth c H locs cells slots Q (F0 m pc ls (.int a0 :: rest)) := kr_calli (mc := 0) (y := yX4_isOfRound) (b := cX4_isOfRound) (n := 0) (lv := 0) (As := []) hw (kr_runS (As := [.int a0]) S hw ((mX4_isOfRound (l := l) (E := E) (ω := ω) hF) H.size) cw hR rfl hls _ rfl hW hdg hf) kk
set_option maxHeartbeats 4000000 in
set_option maxRecDepth 100000 in
theorem wX4_refusalOfPairs_J47 {p : Program} {l : Launch} {e : Env} {s : State} {m : MethodId} {args : Array Value} {below : List Frame} {meth : Method} {c : Code} {Q : State → Prop} {E : kE} {ω σ1 : kS} {r : Int32} (S : CallFix p m c cX4_refusalOfPairs 6 s args kBIG RX4) (hR : kRetI p l e (rml 2) s m args below meth c cX4_refusalOfPairs E Q (some .int) r (cmb σ1 ω)) {k3 : Nat → Int32 → Int32 → Int32 → kS → Option (Int32 × kS)} (hk3 : ∀ (q1 : Nat) (a2 : Int32) (a3 : Int32) (a4 : Int32) (hq1 : xA q1 60) (σ : kS) (H : Heap) (locs : List Loc) (ls : Array Slot), k3 q1 a2 a3 a4 σ = some (r, σ1) → kWS E s (cmb σ ω) H locs → lv_has ls 6 [(0, .ref (ead E 0)), (1, .ref (ead E q1)), (2, .int a2), (3, .int a3), (4, .int a4)] → W p l e (rml 2) s m args below meth c H locs 0 0 Q (F0 m 3 ls [])) : ∀ (q1 : Nat) (a2 : Int32) (a3 : Int32) (a4 : Int32) (hq1 : xA q1 60) (σ : kS) (H : Heap) (locs : List Loc) (ls : Array Slot), fX4_refusalOfPairs_J47 k3 q1 a2 a3 a4 σ = some (r, σ1) → kWS E s (cmb σ ω) H locs → lv_has ls 6 [(0, .ref (ead E 0)), (1, .ref (ead E q1)), (2, .int a2), (3, .int a3), (4, .int a4)] → W p l e (rml 2) s m args below meth c H locs 0 0 Q (F0 m 47 ls []) := by
  intro q1 a2 a3 a4 hq1 σ H locs ls hF hw hl
  unfold fX4_refusalOfPairs_J47 at hF
  refine lv_aload_n S.1 S.2.1 dX4_refusalOfPairs_47 rfl (lv_at hl 0 rfl) ?_
  refine lv_aload_n S.1 S.2.1 dX4_refusalOfPairs_48 rfl (lv_at hl 1 rfl) ?_
  refine lv_iload_n S.1 S.2.1 dX4_refusalOfPairs_49 rfl (lv_at hl 2 rfl) ?_
  refine lv_iconst (v := 2) S.1 S.2.1 dX4_refusalOfPairs_50 (by decide) ?_
  refine lv_iload S.1 S.2.1 dX4_refusalOfPairs_51 (lv_at hl 4 rfl) ?_
  refine lv_imul S.1 S.2.1 dX4_refusalOfPairs_53 ?_
  refine lv_iadd S.1 S.2.1 dX4_refusalOfPairs_54 ?_
  obtain ⟨hb14, hF⟩ := kin hF
  refine kx_iald (q := q1) S hw hq1.1 hq1.2 hb14 dX4_refusalOfPairs_55 ?_
  obtain ⟨r17, σ16, e15, hF⟩ := kbi_e hF
  refine kcX4_isPerson S hw cv_X4_95 ⟨Nat.le_of_ble_eq_true rfl, Nat.le_of_ble_eq_true rfl⟩ e15 hl.1 (Nat.le_of_ble_eq_true rfl) dX4_refusalOfPairs_56 (fun H locs hw hz18 => ?_)
  refine lv_if_ne (tgt := 64) S.1 S.2.1 dX4_refusalOfPairs_59 (by decide) (fun c19 => ?_) (fun c19 => ?_)
  · replace hF := kif hF c19
    obtain ⟨v20, ev20⟩ : ∃ y : Int32, y = a4 + 1 := ⟨_, rfl⟩
    replace hF := klb hF ev20
    refine lv_iinc (v := v20) (lv' := [(4, .int v20), (0, .ref (ead E 0)), (1, .ref (ead E q1)), (2, .int a2), (3, .int a3)]) S.1 S.2.1 dX4_refusalOfPairs_64 hl (k := 4) rfl (by rw [ev20]; rfl) (by decide) rfl (fun ls hl => ?_)
    refine lv_goto (tgt := 3) S.1 S.2.1 dX4_refusalOfPairs_67 (by decide) ?_
    exact hk3 q1 a2 a3 v20 hq1 _ _ _ _ hF hw (lv_sub hl [1, 2, 3, 4, 0] rfl)
  · replace hF := kit hF c19
    refine lv_iconst (v := (-1)) S.1 S.2.1 dX4_refusalOfPairs_62 (by decide) ?_
    obtain ⟨rfl, rfl⟩ := kret hF
    exact hR _ _ _ _ dX4_refusalOfPairs_63 hw (fun h => nomatch h)
set_option maxHeartbeats 4000000 in
set_option maxRecDepth 100000 in
theorem wX4_refusalOfPairs_L3 {p : Program} {l : Launch} {e : Env} {s : State} {m : MethodId} {args : Array Value} {below : List Frame} {meth : Method} {c : Code} {Q : State → Prop} {E : kE} {ω σ1 : kS} {r : Int32} (S : CallFix p m c cX4_refusalOfPairs 6 s args kBIG RX4) (hR : kRetI p l e (rml 2) s m args below meth c cX4_refusalOfPairs E Q (some .int) r (cmb σ1 ω))  : ∀ (n : Nat), ∀ (q1 : Nat) (a2 : Int32) (a3 : Int32) (a4 : Int32) (hq1 : xA q1 60) (σ : kS) (H : Heap) (locs : List Loc) (ls : Array Slot), fX4_refusalOfPairs_L3 n q1 a2 a3 a4 σ = some (r, σ1) → kWS E s (cmb σ ω) H locs → lv_has ls 6 [(0, .ref (ead E 0)), (1, .ref (ead E q1)), (2, .int a2), (3, .int a3), (4, .int a4)] → W p l e (rml 2) s m args below meth c H locs 0 0 Q (F0 m 3 ls []) := by
  intro n
  induction n with
  | zero =>
    intro q1 a2 a3 a4 hq1 σ H locs ls hF hw hl
    exact absurd hF (fun h => nomatch h)
  | succ n ih =>
    intro q1 a2 a3 a4 hq1 σ H locs ls hF hw hl
    rw [fX4_refusalOfPairs_L3] at hF
    refine lv_iload S.1 S.2.1 dX4_refusalOfPairs_3 (lv_at hl 4 rfl) ?_
    refine lv_iload_n S.1 S.2.1 dX4_refusalOfPairs_5 rfl (lv_at hl 3 rfl) ?_
    refine lv_icmp_ge (tgt := 70) S.1 S.2.1 dX4_refusalOfPairs_6 (by decide) (fun c1 => ?_) (fun c1 => ?_)
    · replace hF := kit hF c1
      refine lv_iconst (v := 0) S.1 S.2.1 dX4_refusalOfPairs_70 (by decide) ?_
      obtain ⟨rfl, rfl⟩ := kret hF
      exact hR _ _ _ _ dX4_refusalOfPairs_71 hw (fun h => nomatch h)
    · replace hF := kif hF c1
      refine lv_aload_n S.1 S.2.1 dX4_refusalOfPairs_9 rfl (lv_at hl 1 rfl) ?_
      refine lv_iload_n S.1 S.2.1 dX4_refusalOfPairs_10 rfl (lv_at hl 2 rfl) ?_
      refine lv_iconst (v := 2) S.1 S.2.1 dX4_refusalOfPairs_11 (by decide) ?_
      refine lv_iload S.1 S.2.1 dX4_refusalOfPairs_12 (lv_at hl 4 rfl) ?_
      refine lv_imul S.1 S.2.1 dX4_refusalOfPairs_14 ?_
      refine lv_iadd S.1 S.2.1 dX4_refusalOfPairs_15 ?_
      refine lv_iconst (v := 1) S.1 S.2.1 dX4_refusalOfPairs_16 (by decide) ?_
      refine lv_iadd S.1 S.2.1 dX4_refusalOfPairs_17 ?_
      obtain ⟨hb2, hF⟩ := kin hF
      refine kx_iald (q := q1) S hw hq1.1 hq1.2 hb2 dX4_refusalOfPairs_18 ?_
      refine lv_topi (fun v3 ev3 => ?_)
      replace hF := klb hF ev3
      refine lv_istore (lv' := [(5, .int v3), (0, .ref (ead E 0)), (1, .ref (ead E q1)), (2, .int a2), (3, .int a3), (4, .int a4)]) S.1 S.2.1 dX4_refusalOfPairs_19 hl (by decide) rfl (fun ls hl => ?_)
      refine lv_iload S.1 S.2.1 dX4_refusalOfPairs_21 (lv_at hl 0 rfl) ?_
      refine lv_bipush (v := 9) S.1 S.2.1 dX4_refusalOfPairs_23 (by decide) ?_
      obtain ⟨r6, σ5, e4, hF⟩ := kbi_e hF
      refine kcX4_isBelow S hw cv_X4_59 ⟨Nat.le_of_ble_eq_true rfl, Nat.le_of_ble_eq_true rfl⟩ e4 hl.1 (Nat.le_of_ble_eq_true rfl) dX4_refusalOfPairs_25 (fun H locs hw hz7 => ?_)
      refine lv_if_ne (tgt := 47) S.1 S.2.1 dX4_refusalOfPairs_28 (by decide) (fun c8 => ?_) (fun c8 => ?_)
      · replace hF := kif hF c8
        exact wX4_refusalOfPairs_J47 S hR ih q1 a2 a3 a4 hq1 _ _ _ _ hF hw (lv_sub hl [1, 2, 3, 4, 5] rfl)
      · replace hF := kit hF c8
        refine lv_iload S.1 S.2.1 dX4_refusalOfPairs_31 (lv_at hl 0 rfl) ?_
        refine lv_bipush (v := 10) S.1 S.2.1 dX4_refusalOfPairs_33 (by decide) ?_
        refine lv_isub S.1 S.2.1 dX4_refusalOfPairs_35 ?_
        refine lv_bipush (v := 10) S.1 S.2.1 dX4_refusalOfPairs_36 (by decide) ?_
        obtain ⟨r11, σ10, e9, hF⟩ := kbi_e hF
        refine kcX4_isBelow S hw cv_X4_59 ⟨Nat.le_of_ble_eq_true rfl, Nat.le_of_ble_eq_true rfl⟩ e9 hl.1 (Nat.le_of_ble_eq_true rfl) dX4_refusalOfPairs_38 (fun H locs hw hz12 => ?_)
        refine lv_if_ne (tgt := 47) S.1 S.2.1 dX4_refusalOfPairs_41 (by decide) (fun c13 => ?_) (fun c13 => ?_)
        · replace hF := kif hF c13
          exact wX4_refusalOfPairs_J47 S hR ih q1 a2 a3 a4 hq1 _ _ _ _ hF hw (lv_sub hl [1, 2, 3, 4, 5] rfl)
        · replace hF := kit hF c13
          refine lv_bipush (v := (-2)) S.1 S.2.1 dX4_refusalOfPairs_44 (by decide) ?_
          obtain ⟨rfl, rfl⟩ := kret hF
          exact hR _ _ _ _ dX4_refusalOfPairs_46 hw (fun h => nomatch h)
set_option maxHeartbeats 4000000 in
set_option maxRecDepth 100000 in
theorem mX4_refusalOfPairs {l : Launch} {E : kE} {ω σ σ1 : kS} {r : Int32} {q1 : Nat} {a2 : Int32} {a3 : Int32} (hq1 : xA q1 60) (hF : fX4_refusalOfPairs q1 a2 a3 σ = some (r, σ1)) : kMetI l yX4_refusalOfPairs cX4_refusalOfPairs 6 (some .int) 2 E [.ref (ead E 0), .ref (ead E q1), .int a2, .int a3] (cmb σ ω) r (cmb σ1 ω) := by
  refine kMetI.of (by decide +kernel) (Nat.le_of_ble_eq_true rfl) (Or.inl rfl) ?_
  intro p e s m args below meth c Q ls S hR hw hl
  have hl : lv_has ls 6 [(0, .ref (ead E 0)), (1, .ref (ead E q1)), (2, .int a2), (3, .int a3)] := hl
  unfold fX4_refusalOfPairs at hF
  refine lv_iconst (v := 0) S.1 S.2.1 dX4_refusalOfPairs_0 (by decide) ?_
  refine lv_istore (lv' := [(4, .int 0), (0, .ref (ead E 0)), (1, .ref (ead E q1)), (2, .int a2), (3, .int a3)]) S.1 S.2.1 dX4_refusalOfPairs_1 hl (by decide) rfl (fun ls hl => ?_)
  exact wX4_refusalOfPairs_L3 S hR 1000 q1 a2 a3 0 hq1 _ _ _ _ hF hw (lv_sub hl [1, 2, 3, 4, 0] rfl)
set_option maxRecDepth 100000 in
theorem kcX4_refusalOfPairs {p : Program} {l : Launch} {e : Env} {R : Room} {s : State} {m : MethodId} {args : Array Value} {below : List Frame} {meth : Method} {c : Code} {H : Heap} {locs : List Loc} {cells slots : Nat} {Q : State → Prop} {cc : ByteArray} {pc : Nat} {ls : Array Slot} {rest : List Value} {E : kE} {σ ω σ1 : kS} {nL index : Nat} {own : String} {r : Int32} (S : CallFix p m c cc nL s args kBIG own) (hw : kWS E s (cmb σ ω) H locs) (cw : kV own RX4 index yX4_refusalOfPairs cX4_refusalOfPairs 6 (some .int) 3) (hR : 2 + 1 ≤ R.frames ∧ 8 + (6 + 11) + 40 * 2 ≤ R.locals) {q1 : Nat} {a2 : Int32} {a3 : Int32} (hq1 : xA q1 60) (hF : fX4_refusalOfPairs q1 a2 a3 σ = some (r, σ1)) (hls : ls.size = nL) (hW : (rest.map fun v => v.category).sum ≤ 8) (hdg : decode cc pc = .ok (.invokevirtual index, 3)) (kk : ∀ (H1 : Heap) (locs1 : List Loc), kWS E s (cmb σ1 ω) H1 locs1 → W p l e R s m args below meth c H1 locs1 cells slots Q (F0 m (pc + 3) ls (.int r :: rest))) (hf : cells ≤ R.cells ∧ slots ≤ R.slots := by exact ⟨Nat.le_of_ble_eq_true rfl, Nat.le_of_ble_eq_true rfl⟩) : W p l e R s m args below meth c H locs cells slots Q (F0 m pc ls (.int a3 :: .int a2 :: .ref (ead E q1) :: .ref (ead E 0) :: rest)) := kr_calli (mc := 0) (y := yX4_refusalOfPairs) (b := cX4_refusalOfPairs) (n := 0) (lv := 0) (As := []) (ret := some .int) hw (kr_runV (As := [.ref (ead E q1), .int a2, .int a3]) (q := 0) S hw ((mX4_refusalOfPairs (l := l) (E := E) (ω := ω) hq1 hF) H.size) cw hR rfl (by decide) rfl rfl hls _ rfl hW hdg hf) (fun H1 locs1 h _ => kk H1 locs1 h)
set_option maxHeartbeats 4000000 in
set_option maxRecDepth 100000 in
theorem wX4_play_L21 {p : Program} {l : Launch} {e : Env} {s : State} {m : MethodId} {args : Array Value} {below : List Frame} {meth : Method} {c : Code} {Q : State → Prop} {E : kE} {ω σ1 : kS} (S : CallFix p m c cX4_play 7 s args kBIG RX4) (hR : kRetV p l e (rml 4) s m args below meth c cX4_play E Q (cmb σ1 ω))  : ∀ (n : Nat), ∀ (q1 : Nat) (a2 : Int32) (a3 : Int32) (a4 : Int32) (hq1 : xA q1 60) (σ : kS) (H : Heap) (locs : List Loc) (ls : Array Slot), fX4_play_L21 n q1 a2 a3 a4 σ = some σ1 → kWS E s (cmb σ ω) H locs → lv_has ls 7 [(0, .ref (ead E 0)), (1, .ref (ead E q1)), (2, .int a2), (3, .int a3), (4, .int a4)] → W p l e (rml 4) s m args below meth c H locs 0 0 Q (F0 m 21 ls []) := by
  intro n
  induction n with
  | zero =>
    intro q1 a2 a3 a4 hq1 σ H locs ls hF hw hl
    exact absurd hF (fun h => nomatch h)
  | succ n ih =>
    intro q1 a2 a3 a4 hq1 σ H locs ls hF hw hl
    rw [fX4_play_L21] at hF
    refine lv_iload S.1 S.2.1 dX4_play_21 (lv_at hl 4 rfl) ?_
    refine lv_iload_n S.1 S.2.1 dX4_play_23 rfl (lv_at hl 3 rfl) ?_
    refine lv_icmp_ge (tgt := 122) S.1 S.2.1 dX4_play_24 (by decide) (fun c5 => ?_) (fun c5 => ?_)
    · replace hF := kit hF c5
      cases kre hF
      exact hR _ _ _ _ dX4_play_122 hw
    · replace hF := kif hF c5
      refine lv_aload_n S.1 S.2.1 dX4_play_27 rfl (lv_at hl 1 rfl) ?_
      refine lv_iload_n S.1 S.2.1 dX4_play_28 rfl (lv_at hl 2 rfl) ?_
      refine lv_iconst (v := 2) S.1 S.2.1 dX4_play_29 (by decide) ?_
      refine lv_iload S.1 S.2.1 dX4_play_30 (lv_at hl 4 rfl) ?_
      refine lv_imul S.1 S.2.1 dX4_play_32 ?_
      refine lv_iadd S.1 S.2.1 dX4_play_33 ?_
      obtain ⟨hb6, hF⟩ := kin hF
      refine kx_iald (q := q1) S hw hq1.1 hq1.2 hb6 dX4_play_34 ?_
      refine lv_topi (fun v7 ev7 => ?_)
      replace hF := klb hF ev7
      refine lv_istore (lv' := [(5, .int v7), (0, .ref (ead E 0)), (1, .ref (ead E q1)), (2, .int a2), (3, .int a3), (4, .int a4)]) S.1 S.2.1 dX4_play_35 hl (by decide) rfl (fun ls hl => ?_)
      refine lv_aload_n S.1 S.2.1 dX4_play_37 rfl (lv_at hl 2 rfl) ?_
      refine lv_iload_n S.1 S.2.1 dX4_play_38 rfl (lv_at hl 3 rfl) ?_
      refine lv_iconst (v := 2) S.1 S.2.1 dX4_play_39 (by decide) ?_
      refine lv_iload S.1 S.2.1 dX4_play_40 (lv_at hl 5 rfl) ?_
      refine lv_imul S.1 S.2.1 dX4_play_42 ?_
      refine lv_iadd S.1 S.2.1 dX4_play_43 ?_
      refine lv_iconst (v := 1) S.1 S.2.1 dX4_play_44 (by decide) ?_
      refine lv_iadd S.1 S.2.1 dX4_play_45 ?_
      obtain ⟨hb8, hF⟩ := kin hF
      refine kx_iald (q := q1) S hw hq1.1 hq1.2 hb8 dX4_play_46 ?_
      refine lv_topi (fun v9 ev9 => ?_)
      replace hF := klb hF ev9
      refine lv_istore (lv' := [(6, .int v9), (5, .int v7), (0, .ref (ead E 0)), (1, .ref (ead E q1)), (2, .int a2), (3, .int a3), (4, .int a4)]) S.1 S.2.1 dX4_play_47 hl (by decide) rfl (fun ls hl => ?_)
      refine lv_iload S.1 S.2.1 dX4_play_49 (lv_at hl 0 rfl) ?_
      refine lv_bipush (v := 8) S.1 S.2.1 dX4_play_51 (by decide) ?_
      refine lv_icmp_ge (tgt := 71) S.1 S.2.1 dX4_play_53 (by decide) (fun c10 => ?_) (fun c10 => ?_)
      · replace hF := kit hF c10
        refine lv_iload S.1 S.2.1 dX4_play_71 (lv_at hl 0 rfl) ?_
        refine lv_bipush (v := 8) S.1 S.2.1 dX4_play_73 (by decide) ?_
        refine lv_icmp_ne (tgt := 101) S.1 S.2.1 dX4_play_75 (by decide) (fun c11 => ?_) (fun c11 => ?_)
        · replace hF := kif hF c11
          refine lv_aload_n S.1 S.2.1 dX4_play_101 rfl (lv_at hl 2 rfl) ?_
          refine gf_X4_18 (q := 0) S hw rfl (Nat.le_of_ble_eq_true rfl) rfl dX4_play_102 ?_
          refine gf_X4_107 (q := 6) S hw rfl (Nat.le_of_ble_eq_true rfl) rfl dX4_play_105 ?_
          refine lv_iload S.1 S.2.1 dX4_play_108 (lv_at hl 1 rfl) ?_
          refine lv_iload S.1 S.2.1 dX4_play_110 (lv_at hl 0 rfl) ?_
          refine lv_bipush (v := 10) S.1 S.2.1 dX4_play_112 (by decide) ?_
          refine lv_isub S.1 S.2.1 dX4_play_114 ?_
          obtain ⟨hb12, hF⟩ := kin hF
          refine kx_iast (q := 10) S hw rfl (Nat.le_of_ble_eq_true rfl) hb12 dX4_play_115 (fun H locs hw => ?_)
          obtain ⟨v13, ev13⟩ : ∃ y : Int32, y = a4 + 1 := ⟨_, rfl⟩
          replace hF := klb hF ev13
          refine lv_iinc (v := v13) (lv' := [(4, .int v13), (6, .int v9), (5, .int v7), (0, .ref (ead E 0)), (1, .ref (ead E q1)), (2, .int a2), (3, .int a3)]) S.1 S.2.1 dX4_play_116 hl (k := 6) rfl (by rw [ev13]; rfl) (by decide) rfl (fun ls hl => ?_)
          refine lv_goto (tgt := 21) S.1 S.2.1 dX4_play_119 (by decide) ?_
          exact ih q1 a2 a3 v13 hq1 _ _ _ _ hF hw (lv_sub hl [3, 4, 5, 6, 0] rfl)
        · replace hF := kit hF c11
          refine lv_aload_n S.1 S.2.1 dX4_play_78 rfl (lv_at hl 2 rfl) ?_
          refine gf_X4_31 (q := 0) S hw rfl (Nat.le_of_ble_eq_true rfl) rfl dX4_play_79 ?_
          refine lv_iload S.1 S.2.1 dX4_play_82 (lv_at hl 6 rfl) ?_
          refine lv_iload S.1 S.2.1 dX4_play_84 (lv_at hl 1 rfl) ?_
          refine lv_aload_n S.1 S.2.1 dX4_play_86 rfl (lv_at hl 2 rfl) ?_
          refine gf_X4_18 (q := 0) S hw rfl (Nat.le_of_ble_eq_true rfl) rfl dX4_play_87 ?_
          refine lv_iload S.1 S.2.1 dX4_play_90 (lv_at hl 1 rfl) ?_
          obtain ⟨r16, σ15, e14, hF⟩ := kbi_e hF
          refine kcX0_deliver S hw cv_X4_133 ⟨Nat.le_of_ble_eq_true rfl, Nat.le_of_ble_eq_true rfl⟩ isM_6 e14 hl.1 (Nat.le_of_ble_eq_true rfl) dX4_play_92 (fun H locs hw => ?_)
          obtain ⟨σ18, e17, hF⟩ := kbv_e hF
          refine kcX2_add S hw cv_X4_221 ⟨Nat.le_of_ble_eq_true rfl, Nat.le_of_ble_eq_true rfl⟩ e17 hl.1 (Nat.le_of_ble_eq_true rfl) dX4_play_95 (fun H locs hw => ?_)
          refine lv_goto (tgt := 116) S.1 S.2.1 dX4_play_98 (by decide) ?_
          obtain ⟨v19, ev19⟩ : ∃ y : Int32, y = a4 + 1 := ⟨_, rfl⟩
          replace hF := klb hF ev19
          refine lv_iinc (v := v19) (lv' := [(4, .int v19), (6, .int v9), (5, .int v7), (0, .ref (ead E 0)), (1, .ref (ead E q1)), (2, .int a2), (3, .int a3)]) S.1 S.2.1 dX4_play_116 hl (k := 6) rfl (by rw [ev19]; rfl) (by decide) rfl (fun ls hl => ?_)
          refine lv_goto (tgt := 21) S.1 S.2.1 dX4_play_119 (by decide) ?_
          exact ih q1 a2 a3 v19 hq1 _ _ _ _ hF hw (lv_sub hl [3, 4, 5, 6, 0] rfl)
      · replace hF := kif hF c10
        refine lv_aload_n S.1 S.2.1 dX4_play_56 rfl (lv_at hl 2 rfl) ?_
        refine gf_X4_18 (q := 0) S hw rfl (Nat.le_of_ble_eq_true rfl) rfl dX4_play_57 ?_
        refine gf_X4_101 (q := 6) S hw rfl (Nat.le_of_ble_eq_true rfl) rfl dX4_play_60 ?_
        refine lv_iload S.1 S.2.1 dX4_play_63 (lv_at hl 1 rfl) ?_
        refine lv_iload S.1 S.2.1 dX4_play_65 (lv_at hl 0 rfl) ?_
        obtain ⟨hb20, hF⟩ := kin hF
        refine kx_iast (q := 8) S hw rfl (Nat.le_of_ble_eq_true rfl) hb20 dX4_play_67 (fun H locs hw => ?_)
        refine lv_goto (tgt := 116) S.1 S.2.1 dX4_play_68 (by decide) ?_
        obtain ⟨v21, ev21⟩ : ∃ y : Int32, y = a4 + 1 := ⟨_, rfl⟩
        replace hF := klb hF ev21
        refine lv_iinc (v := v21) (lv' := [(4, .int v21), (6, .int v9), (5, .int v7), (0, .ref (ead E 0)), (1, .ref (ead E q1)), (2, .int a2), (3, .int a3)]) S.1 S.2.1 dX4_play_116 hl (k := 6) rfl (by rw [ev21]; rfl) (by decide) rfl (fun ls hl => ?_)
        refine lv_goto (tgt := 21) S.1 S.2.1 dX4_play_119 (by decide) ?_
        exact ih q1 a2 a3 v21 hq1 _ _ _ _ hF hw (lv_sub hl [3, 4, 5, 6, 0] rfl)
set_option maxHeartbeats 4000000 in
set_option maxRecDepth 100000 in
theorem mX4_play {l : Launch} {E : kE} {ω σ σ1 : kS} {q1 : Nat} {a2 : Int32} {a3 : Int32} (hq1 : xA q1 60) (hF : fX4_play q1 a2 a3 σ = some σ1) : kMetV l yX4_play cX4_play 7 4 E [.ref (ead E 0), .ref (ead E q1), .int a2, .int a3] (cmb σ ω) (cmb σ1 ω) := by
  refine kMetV.of (by decide +kernel) (Nat.le_of_ble_eq_true rfl) ?_
  intro p e s m args below meth c Q ls S hR hw hl
  have hl : lv_has ls 7 [(0, .ref (ead E 0)), (1, .ref (ead E q1)), (2, .int a2), (3, .int a3)] := hl
  unfold fX4_play at hF
  refine lv_aload_n S.1 S.2.1 dX4_play_0 rfl (lv_at hl 0 rfl) ?_
  refine gf_X4_18 (q := 0) S hw rfl (Nat.le_of_ble_eq_true rfl) rfl dX4_play_1 ?_
  refine lv_aload_n S.1 S.2.1 dX4_play_4 rfl (lv_at hl 0 rfl) ?_
  refine gf_X4_12 (q := 0) S hw rfl (Nat.le_of_ble_eq_true rfl) rfl dX4_play_5 ?_
  obtain ⟨σ2, e1, hF⟩ := kbv_e hF
  refine kcX0_become S hw cv_X4_156 ⟨Nat.le_of_ble_eq_true rfl, Nat.le_of_ble_eq_true rfl⟩ isM_6 isM_1 e1 hl.1 (Nat.le_of_ble_eq_true rfl) dX4_play_8 (fun H locs hw => ?_)
  refine lv_aload_n S.1 S.2.1 dX4_play_11 rfl (lv_at hl 0 rfl) ?_
  refine gf_X4_31 (q := 0) S hw rfl (Nat.le_of_ble_eq_true rfl) rfl dX4_play_12 ?_
  obtain ⟨σ4, e3, hF⟩ := kbv_e hF
  refine kcX2_clear S hw cv_X4_218 ⟨Nat.le_of_ble_eq_true rfl, Nat.le_of_ble_eq_true rfl⟩ e3 hl.1 (Nat.le_of_ble_eq_true rfl) dX4_play_15 (fun H locs hw => ?_)
  refine lv_iconst (v := 0) S.1 S.2.1 dX4_play_18 (by decide) ?_
  refine lv_istore (lv' := [(4, .int 0), (0, .ref (ead E 0)), (1, .ref (ead E q1)), (2, .int a2), (3, .int a3)]) S.1 S.2.1 dX4_play_19 hl (by decide) rfl (fun ls hl => ?_)
  exact wX4_play_L21 S hR 1000 q1 a2 a3 0 hq1 _ _ _ _ hF hw (lv_sub hl [1, 2, 3, 4, 0] rfl)
set_option maxRecDepth 100000 in
theorem kcX4_play {p : Program} {l : Launch} {e : Env} {R : Room} {s : State} {m : MethodId} {args : Array Value} {below : List Frame} {meth : Method} {c : Code} {H : Heap} {locs : List Loc} {cells slots : Nat} {Q : State → Prop} {cc : ByteArray} {pc : Nat} {ls : Array Slot} {rest : List Value} {E : kE} {σ ω σ1 : kS} {nL index : Nat} {own : String} (S : CallFix p m c cc nL s args kBIG own) (hw : kWS E s (cmb σ ω) H locs) (cw : kV own RX4 index yX4_play cX4_play 7 none 3) (hR : 4 + 1 ≤ R.frames ∧ 8 + (7 + 11) + 40 * 4 ≤ R.locals) {q1 : Nat} {a2 : Int32} {a3 : Int32} (hq1 : xA q1 60) (hF : fX4_play q1 a2 a3 σ = some σ1) (hls : ls.size = nL) (hW : (rest.map fun v => v.category).sum ≤ 8) (hdg : decode cc pc = .ok (.invokevirtual index, 3)) (kk : ∀ (H1 : Heap) (locs1 : List Loc), kWS E s (cmb σ1 ω) H1 locs1 → W p l e R s m args below meth c H1 locs1 cells slots Q (F0 m (pc + 3) ls rest)) (hf : cells ≤ R.cells ∧ slots ≤ R.slots := by exact ⟨Nat.le_of_ble_eq_true rfl, Nat.le_of_ble_eq_true rfl⟩) : W p l e R s m args below meth c H locs cells slots Q (F0 m pc ls (.int a3 :: .int a2 :: .ref (ead E q1) :: .ref (ead E 0) :: rest)) := kr_callv hw (kr_runV (As := [.ref (ead E q1), .int a2, .int a3]) (q := 0) S hw ((mX4_play (l := l) (E := E) (ω := ω) hq1 hF) H.size) cw hR rfl (by decide) rfl rfl hls _ rfl hW hdg hf) kk
set_option maxHeartbeats 4000000 in
set_option maxRecDepth 100000 in
theorem mX4_ofRound {l : Launch} {E : kE} {ω σ σ1 : kS} {r : Int32} {a1 : Int32}  (hF : fX4_ofRound a1 σ = some (r, σ1)) : kMetI l yX4_ofRound cX4_ofRound 2 (some .int) 2 E [.ref (ead E 0), .int a1] (cmb σ ω) r (cmb σ1 ω) := by
  refine kMetI.of (by decide +kernel) (Nat.le_of_ble_eq_true rfl) (Or.inl rfl) ?_
  intro p e s m args below meth c Q ls S hR hw hl
  have hl : lv_has ls 2 [(0, .ref (ead E 0)), (1, .int a1)] := hl
  unfold fX4_ofRound at hF
  refine lv_iload_n S.1 S.2.1 dX4_ofRound_0 rfl (lv_at hl 1 rfl) ?_
  by_cases c1 : a1 = 0
  · replace hF := kit hF c1
    refine lv_tableIn (tgt := 32) S.1 S.2.1 dX4_ofRound_1 (by rw [c1]; decide) (by rw [c1]; decide) (by rw [c1]; rfl) (by decide) ?_
    refine lv_aload_n S.1 S.2.1 dX4_ofRound_32 rfl (lv_at hl 0 rfl) ?_
    refine gf_X4_31 (q := 0) S hw rfl (Nat.le_of_ble_eq_true rfl) rfl dX4_ofRound_33 ?_
    refine gf_X4_225 (q := 20) S hw rfl (Nat.le_of_ble_eq_true rfl) rfl dX4_ofRound_36 ?_
    obtain ⟨rfl, rfl⟩ := kret hF
    exact hR _ _ _ _ dX4_ofRound_39 hw (fun h => nomatch h)
  · replace hF := kif hF c1
    by_cases c2 : a1 = 1
    · replace hF := kit hF c2
      refine lv_tableIn (tgt := 40) S.1 S.2.1 dX4_ofRound_1 (by rw [c2]; decide) (by rw [c2]; decide) (by rw [c2]; rfl) (by decide) ?_
      refine lv_aload_n S.1 S.2.1 dX4_ofRound_40 rfl (lv_at hl 0 rfl) ?_
      refine gf_X4_31 (q := 0) S hw rfl (Nat.le_of_ble_eq_true rfl) rfl dX4_ofRound_41 ?_
      refine gf_X4_228 (q := 20) S hw rfl (Nat.le_of_ble_eq_true rfl) rfl dX4_ofRound_44 ?_
      obtain ⟨rfl, rfl⟩ := kret hF
      exact hR _ _ _ _ dX4_ofRound_47 hw (fun h => nomatch h)
    · replace hF := kif hF c2
      by_cases c3 : a1 = 2
      · replace hF := kit hF c3
        refine lv_tableIn (tgt := 48) S.1 S.2.1 dX4_ofRound_1 (by rw [c3]; decide) (by rw [c3]; decide) (by rw [c3]; rfl) (by decide) ?_
        refine lv_aload_n S.1 S.2.1 dX4_ofRound_48 rfl (lv_at hl 0 rfl) ?_
        refine gf_X4_31 (q := 0) S hw rfl (Nat.le_of_ble_eq_true rfl) rfl dX4_ofRound_49 ?_
        refine gf_X4_231 (q := 20) S hw rfl (Nat.le_of_ble_eq_true rfl) rfl dX4_ofRound_52 ?_
        obtain ⟨rfl, rfl⟩ := kret hF
        exact hR _ _ _ _ dX4_ofRound_55 hw (fun h => nomatch h)
      · replace hF := kif hF c3
        by_cases c4 : a1 = 3
        · replace hF := kit hF c4
          refine lv_tableIn (tgt := 56) S.1 S.2.1 dX4_ofRound_1 (by rw [c4]; decide) (by rw [c4]; decide) (by rw [c4]; rfl) (by decide) ?_
          refine lv_aload_n S.1 S.2.1 dX4_ofRound_56 rfl (lv_at hl 0 rfl) ?_
          refine gf_X4_31 (q := 0) S hw rfl (Nat.le_of_ble_eq_true rfl) rfl dX4_ofRound_57 ?_
          refine gf_X4_234 (q := 20) S hw rfl (Nat.le_of_ble_eq_true rfl) rfl dX4_ofRound_60 ?_
          obtain ⟨rfl, rfl⟩ := kret hF
          exact hR _ _ _ _ dX4_ofRound_63 hw (fun h => nomatch h)
        · replace hF := kif hF c4
          refine lv_tableOut (tgt := 64) S.1 S.2.1 dX4_ofRound_1 (ktab4 c1 c2 c3 c4) (by decide) ?_
          refine lv_aload_n S.1 S.2.1 dX4_ofRound_64 rfl (lv_at hl 0 rfl) ?_
          refine lv_iload_n S.1 S.2.1 dX4_ofRound_65 rfl (lv_at hl 1 rfl) ?_
          refine lv_bipush (v := 10) S.1 S.2.1 dX4_ofRound_66 (by decide) ?_
          refine lv_isub S.1 S.2.1 dX4_ofRound_68 ?_
          obtain ⟨r7, σ6, e5, hF⟩ := kbi_e hF
          refine kcX4_isPerson S hw cv_X4_95 ⟨Nat.le_of_ble_eq_true rfl, Nat.le_of_ble_eq_true rfl⟩ e5 hl.1 (Nat.le_of_ble_eq_true rfl) dX4_ofRound_69 (fun H locs hw hz8 => ?_)
          refine lv_if_eq (tgt := 90) S.1 S.2.1 dX4_ofRound_72 (by decide) (fun c9 => ?_) (fun c9 => ?_)
          · replace hF := kit hF c9
            refine lv_bipush (v := (-9)) S.1 S.2.1 dX4_ofRound_90 (by decide) ?_
            obtain ⟨rfl, rfl⟩ := kret hF
            exact hR _ _ _ _ dX4_ofRound_92 hw (fun h => nomatch h)
          · replace hF := kif hF c9
            refine lv_aload_n S.1 S.2.1 dX4_ofRound_75 rfl (lv_at hl 0 rfl) ?_
            refine gf_X4_18 (q := 0) S hw rfl (Nat.le_of_ble_eq_true rfl) rfl dX4_ofRound_76 ?_
            refine gf_X4_104 (q := 6) S hw rfl (Nat.le_of_ble_eq_true rfl) rfl dX4_ofRound_79 ?_
            refine lv_iload_n S.1 S.2.1 dX4_ofRound_82 rfl (lv_at hl 1 rfl) ?_
            refine lv_bipush (v := 10) S.1 S.2.1 dX4_ofRound_83 (by decide) ?_
            refine lv_isub S.1 S.2.1 dX4_ofRound_85 ?_
            obtain ⟨hb10, hF⟩ := kin hF
            refine kx_iald (q := 9) S hw rfl (Nat.le_of_ble_eq_true rfl) hb10 dX4_ofRound_86 ?_
            refine lv_goto (tgt := 92) S.1 S.2.1 dX4_ofRound_87 (by decide) ?_
            obtain ⟨rfl, rfl⟩ := kret hF
            exact hR _ _ _ _ dX4_ofRound_92 hw (fun h => nomatch h)
set_option maxRecDepth 100000 in
theorem kcX4_ofRound {p : Program} {l : Launch} {e : Env} {R : Room} {s : State} {m : MethodId} {args : Array Value} {below : List Frame} {meth : Method} {c : Code} {H : Heap} {locs : List Loc} {cells slots : Nat} {Q : State → Prop} {cc : ByteArray} {pc : Nat} {ls : Array Slot} {rest : List Value} {E : kE} {σ ω σ1 : kS} {nL index : Nat} {own : String} {r : Int32} (S : CallFix p m c cc nL s args kBIG own) (hw : kWS E s (cmb σ ω) H locs) (cw : kV own RX4 index yX4_ofRound cX4_ofRound 2 (some .int) 1) (hR : 2 + 1 ≤ R.frames ∧ 8 + (2 + 11) + 40 * 2 ≤ R.locals) {a1 : Int32}  (hF : fX4_ofRound a1 σ = some (r, σ1)) (hls : ls.size = nL) (hW : (rest.map fun v => v.category).sum ≤ 8) (hdg : decode cc pc = .ok (.invokevirtual index, 3)) (kk : ∀ (H1 : Heap) (locs1 : List Loc), kWS E s (cmb σ1 ω) H1 locs1 → W p l e R s m args below meth c H1 locs1 cells slots Q (F0 m (pc + 3) ls (.int r :: rest))) (hf : cells ≤ R.cells ∧ slots ≤ R.slots := by exact ⟨Nat.le_of_ble_eq_true rfl, Nat.le_of_ble_eq_true rfl⟩) : W p l e R s m args below meth c H locs cells slots Q (F0 m pc ls (.int a1 :: .ref (ead E 0) :: rest)) := kr_calli (mc := 0) (y := yX4_ofRound) (b := cX4_ofRound) (n := 0) (lv := 0) (As := []) (ret := some .int) hw (kr_runV (As := [.int a1]) (q := 0) S hw ((mX4_ofRound (l := l) (E := E) (ω := ω) hF) H.size) cw hR rfl (by decide) rfl rfl hls _ rfl hW hdg hf) (fun H1 locs1 h _ => kk H1 locs1 h)
set_option maxHeartbeats 4000000 in
set_option maxRecDepth 100000 in
theorem wX4_round_J90 {p : Program} {l : Launch} {e : Env} {s : State} {m : MethodId} {args : Array Value} {below : List Frame} {meth : Method} {c : Code} {Q : State → Prop} {E : kE} {ω σ1 : kS} {r : Int32} (S : CallFix p m c cX4_round 9 s args kBIG RX4) (hR : kRetI p l e (rml 5) s m args below meth c cX4_round E Q (some .int) r (cmb σ1 ω))  : ∀ (a3 : Int32) (a4 : Int32) (a5 : Int32) (q6 : Nat) (a7 : Int32) (hq6 : isSh q6) (σ : kS) (H : Heap) (locs : List Loc) (ls : Array Slot), fX4_round_J90 a3 a4 a5 q6 a7 σ = some (r, σ1) → kWS E s (cmb σ ω) H locs → lv_has ls 9 [(0, .ref (ead E 0)), (3, .int a3), (4, .int a4), (5, .int a5), (6, .ref (ead E q6)), (7, .int a7)] → W p l e (rml 5) s m args below meth c H locs 0 0 Q (F0 m 90 ls []) := by
  intro a3 a4 a5 q6 a7 hq6 σ H locs ls hF hw hl
  unfold fX4_round_J90 at hF
  refine lv_iload S.1 S.2.1 dX4_round_90 (lv_at hl 5 rfl) ?_
  refine lv_if_eq (tgt := 102) S.1 S.2.1 dX4_round_92 (by decide) (fun c37 => ?_) (fun c37 => ?_)
  · replace hF := kit hF c37
    refine lv_aload_n S.1 S.2.1 dX4_round_102 rfl (lv_at hl 0 rfl) ?_
    refine lv_aload S.1 S.2.1 dX4_round_103 (lv_at hl 4 rfl) ?_
    refine gf_X4_73 S hw hq6.1 hq6.2.1 rfl dX4_round_105 ?_
    refine lv_iload_n S.1 S.2.1 dX4_round_108 rfl (lv_at hl 1 rfl) ?_
    refine lv_iload S.1 S.2.1 dX4_round_109 (lv_at hl 2 rfl) ?_
    obtain ⟨r40, σ39, e38, hF⟩ := kbi_e hF
    refine kcX4_refusalOfPairs S hw cv_X4_146 ⟨Nat.le_of_ble_eq_true rfl, Nat.le_of_ble_eq_true rfl⟩ hq6.2.2 e38 hl.1 (Nat.le_of_ble_eq_true rfl) dX4_round_111 (fun H locs hw => ?_)
    refine lv_istore (lv' := [(8, .int r40), (0, .ref (ead E 0)), (3, .int a3), (4, .int a4), (5, .int a5), (6, .ref (ead E q6)), (7, .int a7)]) S.1 S.2.1 dX4_round_114 hl (by decide) rfl (fun ls hl => ?_)
    refine lv_iload S.1 S.2.1 dX4_round_116 (lv_at hl 0 rfl) ?_
    refine lv_if_eq (tgt := 124) S.1 S.2.1 dX4_round_118 (by decide) (fun c41 => ?_) (fun c41 => ?_)
    · replace hF := kit hF c41
      refine lv_aload_n S.1 S.2.1 dX4_round_124 rfl (lv_at hl 1 rfl) ?_
      refine lv_aload S.1 S.2.1 dX4_round_125 (lv_at hl 5 rfl) ?_
      refine gf_X4_73 S hw hq6.1 hq6.2.1 rfl dX4_round_127 ?_
      refine lv_iload_n S.1 S.2.1 dX4_round_130 rfl (lv_at hl 2 rfl) ?_
      refine lv_iload S.1 S.2.1 dX4_round_131 (lv_at hl 3 rfl) ?_
      obtain ⟨σ43, e42, hF⟩ := kbv_e hF
      refine kcX4_play S hw cv_X4_149 ⟨Nat.le_of_ble_eq_true rfl, Nat.le_of_ble_eq_true rfl⟩ hq6.2.2 e42 hl.1 (Nat.le_of_ble_eq_true rfl) dX4_round_133 (fun H locs hw => ?_)
      refine lv_aload_n S.1 S.2.1 dX4_round_136 rfl (lv_at hl 1 rfl) ?_
      refine lv_iload S.1 S.2.1 dX4_round_137 (lv_at hl 4 rfl) ?_
      obtain ⟨r46, σ45, e44, hF⟩ := kbi_e hF
      refine kcX4_ofRound S hw cv_X4_153 ⟨Nat.le_of_ble_eq_true rfl, Nat.le_of_ble_eq_true rfl⟩ e44 hl.1 (Nat.le_of_ble_eq_true rfl) dX4_round_139 (fun H locs hw => ?_)
      obtain ⟨rfl, rfl⟩ := kret hF
      exact hR _ _ _ _ dX4_round_142 hw (fun h => nomatch h)
    · replace hF := kif hF c41
      refine lv_iload S.1 S.2.1 dX4_round_121 (lv_at hl 0 rfl) ?_
      obtain ⟨rfl, rfl⟩ := kret hF
      exact hR _ _ _ _ dX4_round_123 hw (fun h => nomatch h)
  · replace hF := kif hF c37
    refine lv_aload_n S.1 S.2.1 dX4_round_95 rfl (lv_at hl 0 rfl) ?_
    refine lv_iload S.1 S.2.1 dX4_round_96 (lv_at hl 5 rfl) ?_
    obtain ⟨r49, σ48, e47, hF⟩ := kbi_e hF
    refine kcX4_faulted S hw cv_X4_70 ⟨Nat.le_of_ble_eq_true rfl, Nat.le_of_ble_eq_true rfl⟩ e47 hl.1 (Nat.le_of_ble_eq_true rfl) dX4_round_98 (fun H locs hw => ?_)
    obtain ⟨rfl, rfl⟩ := kret hF
    exact hR _ _ _ _ dX4_round_101 hw (fun h => nomatch h)
set_option maxHeartbeats 4000000 in
set_option maxRecDepth 100000 in
theorem mX4_round {l : Launch} {E : kE} {ω σ σ1 : kS} {r : Int32} {a1 : Int32} {a2 : Int32} {a3 : Int32} {a4 : Int32} {a5 : Int32}  (hF : fX4_round a1 a2 a3 a4 a5 σ = some (r, σ1)) : kMetI l yX4_round cX4_round 9 (some .int) 5 E [.ref (ead E 0), .int a1, .int a2, .int a3, .int a4, .int a5] (cmb σ ω) r (cmb σ1 ω) := by
  refine kMetI.of (by decide +kernel) (Nat.le_of_ble_eq_true rfl) (Or.inl rfl) ?_
  intro p e s m args below meth c Q ls S hR hw hl
  have hl : lv_has ls 9 [(0, .ref (ead E 0)), (1, .int a1), (2, .int a2), (3, .int a3), (4, .int a4), (5, .int a5)] := hl
  unfold fX4_round at hF
  refine lv_aload_n S.1 S.2.1 dX4_round_0 rfl (lv_at hl 0 rfl) ?_
  refine lv_iconst (v := 0) S.1 S.2.1 dX4_round_1 (by decide) ?_
  refine pf_X4_51 (q := 0) S hw rfl (Nat.le_of_ble_eq_true rfl) rfl dX4_round_2 (fun H locs hw => ?_)
  refine lv_iload_n S.1 S.2.1 dX4_round_5 rfl (lv_at hl 1 rfl) ?_
  obtain ⟨r3, σ2, e1, hF⟩ := kbi_e hF
  refine kcX4_isSheet S hw cv_X4_55 ⟨Nat.le_of_ble_eq_true rfl, Nat.le_of_ble_eq_true rfl⟩ e1 hl.1 (Nat.le_of_ble_eq_true rfl) dX4_round_6 (fun H locs hw hz4 => ?_)
  refine lv_if_ne (tgt := 14) S.1 S.2.1 dX4_round_9 (by decide) (fun c5 => ?_) (fun c5 => ?_)
  · replace hF := kif hF c5
    refine lv_iload_n S.1 S.2.1 dX4_round_14 rfl (lv_at hl 2 rfl) ?_
    refine lv_iconst (v := 3) S.1 S.2.1 dX4_round_15 (by decide) ?_
    obtain ⟨r8, σ7, e6, hF⟩ := kbi_e hF
    refine kcX4_isBelow S hw cv_X4_59 ⟨Nat.le_of_ble_eq_true rfl, Nat.le_of_ble_eq_true rfl⟩ e6 hl.1 (Nat.le_of_ble_eq_true rfl) dX4_round_16 (fun H locs hw hz9 => ?_)
    refine lv_if_eq (tgt := 40) S.1 S.2.1 dX4_round_19 (by decide) (fun c10 => ?_) (fun c10 => ?_)
    · replace hF := kit hF c10
      refine lv_bipush (v := (-2)) S.1 S.2.1 dX4_round_40 (by decide) ?_
      obtain ⟨rfl, rfl⟩ := kret hF
      exact hR _ _ _ _ dX4_round_42 hw (fun h => nomatch h)
    · replace hF := kif hF c10
      refine lv_iload S.1 S.2.1 dX4_round_22 (lv_at hl 4 rfl) ?_
      refine lv_bipush (v := 21) S.1 S.2.1 dX4_round_24 (by decide) ?_
      obtain ⟨r13, σ12, e11, hF⟩ := kbi_e hF
      refine kcX4_isBelow S hw cv_X4_59 ⟨Nat.le_of_ble_eq_true rfl, Nat.le_of_ble_eq_true rfl⟩ e11 hl.1 (Nat.le_of_ble_eq_true rfl) dX4_round_26 (fun H locs hw hz14 => ?_)
      refine lv_if_eq (tgt := 40) S.1 S.2.1 dX4_round_29 (by decide) (fun c15 => ?_) (fun c15 => ?_)
      · replace hF := kit hF c15
        refine lv_bipush (v := (-2)) S.1 S.2.1 dX4_round_40 (by decide) ?_
        obtain ⟨rfl, rfl⟩ := kret hF
        exact hR _ _ _ _ dX4_round_42 hw (fun h => nomatch h)
      · replace hF := kif hF c15
        refine lv_iload S.1 S.2.1 dX4_round_32 (lv_at hl 5 rfl) ?_
        obtain ⟨r18, σ17, e16, hF⟩ := kbi_e hF
        refine kcX4_isOfRound S hw cv_X4_143 ⟨Nat.le_of_ble_eq_true rfl, Nat.le_of_ble_eq_true rfl⟩ e16 hl.1 (Nat.le_of_ble_eq_true rfl) dX4_round_34 (fun H locs hw hz19 => ?_)
        refine lv_if_ne (tgt := 43) S.1 S.2.1 dX4_round_37 (by decide) (fun c20 => ?_) (fun c20 => ?_)
        · replace hF := kif hF c20
          refine lv_aload_n S.1 S.2.1 dX4_round_43 rfl (lv_at hl 0 rfl) ?_
          obtain ⟨r23, σ22, e21, hF⟩ := kbi_e hF
          refine kcX4_hasNoMoor S hw cv_X4_119 ⟨Nat.le_of_ble_eq_true rfl, Nat.le_of_ble_eq_true rfl⟩ e21 hl.1 (Nat.le_of_ble_eq_true rfl) dX4_round_44 (fun H locs hw hz24 => ?_)
          refine lv_if_eq (tgt := 53) S.1 S.2.1 dX4_round_47 (by decide) (fun c25 => ?_) (fun c25 => ?_)
          · replace hF := kit hF c25
            refine lv_aload_n S.1 S.2.1 dX4_round_53 rfl (lv_at hl 0 rfl) ?_
            refine gf_X4_23 (q := 0) S hw rfl (Nat.le_of_ble_eq_true rfl) rfl dX4_round_54 ?_
            refine lv_iload_n S.1 S.2.1 dX4_round_57 rfl (lv_at hl 1 rfl) ?_
            obtain ⟨hb26, hF⟩ := kin hF
            have hs27 := isSh_k _ (inb_lt hb26)
            refine kr_aald S hw hb26 dX4_round_58 ?_
            refine lv_astore (lv' := [(6, .ref (ead E (12 + Int32.toNatClampNeg a1))), (0, .ref (ead E 0)), (1, .int a1), (2, .int a2), (3, .int a3), (4, .int a4), (5, .int a5)]) S.1 S.2.1 dX4_round_59 hl (by decide) rfl (fun ls hl => ?_)
            refine lv_aload S.1 S.2.1 dX4_round_61 (lv_at hl 0 rfl) ?_
            refine lv_iload_n S.1 S.2.1 dX4_round_63 rfl (lv_at hl 3 rfl) ?_
            obtain ⟨r30, σ29, e28, hF⟩ := kbi_e hF
            refine kcX1_faultAs S hw cv_X4_63 ⟨Nat.le_of_ble_eq_true rfl, Nat.le_of_ble_eq_true rfl⟩ hs27 e28 hl.1 (Nat.le_of_ble_eq_true rfl) dX4_round_64 (fun H locs hw => ?_)
            refine lv_istore (lv' := [(7, .int r30), (6, .ref (ead E (12 + Int32.toNatClampNeg a1))), (0, .ref (ead E 0)), (1, .int a1), (2, .int a2), (3, .int a3), (4, .int a4), (5, .int a5)]) S.1 S.2.1 dX4_round_67 hl (by decide) rfl (fun ls hl => ?_)
            refine lv_iload S.1 S.2.1 dX4_round_69 (lv_at hl 0 rfl) ?_
            refine lv_if_ne (tgt := 90) S.1 S.2.1 dX4_round_71 (by decide) (fun c31 => ?_) (fun c31 => ?_)
            · replace hF := kif hF c31
              exact wX4_round_J90 S hR a3 a4 a5 (12 + Int32.toNatClampNeg a1) r30 hs27 _ _ _ _ hF hw (lv_sub hl [2, 5, 6, 7, 1, 0] rfl)
            · replace hF := kit hF c31
              refine lv_aload S.1 S.2.1 dX4_round_74 (lv_at hl 1 rfl) ?_
              refine lv_iload_n S.1 S.2.1 dX4_round_76 rfl (lv_at hl 5 rfl) ?_
              refine lv_iconst (v := 2) S.1 S.2.1 dX4_round_77 (by decide) ?_
              refine lv_iload S.1 S.2.1 dX4_round_78 (lv_at hl 6 rfl) ?_
              refine lv_imul S.1 S.2.1 dX4_round_80 ?_
              obtain ⟨r34, σ33, e32, hF⟩ := kbi_e hF
              refine kcX1_spans S hw cv_X4_67 ⟨Nat.le_of_ble_eq_true rfl, Nat.le_of_ble_eq_true rfl⟩ hs27 e32 hl.1 (Nat.le_of_ble_eq_true rfl) dX4_round_81 (fun H locs hw hz35 => ?_)
              refine lv_if_ne (tgt := 90) S.1 S.2.1 dX4_round_84 (by decide) (fun c36 => ?_) (fun c36 => ?_)
              · replace hF := kif hF c36
                exact wX4_round_J90 S hR a3 a4 a5 (12 + Int32.toNatClampNeg a1) r30 hs27 _ _ _ _ hF hw (lv_sub hl [2, 5, 6, 7, 1, 0] rfl)
              · replace hF := kit hF c36
                refine lv_iconst (v := 3) S.1 S.2.1 dX4_round_87 (by decide) ?_
                refine lv_istore (lv' := [(7, .int 3), (6, .ref (ead E (12 + Int32.toNatClampNeg a1))), (0, .ref (ead E 0)), (1, .int a1), (2, .int a2), (3, .int a3), (4, .int a4), (5, .int a5)]) S.1 S.2.1 dX4_round_88 hl (by decide) rfl (fun ls hl => ?_)
                exact wX4_round_J90 S hR a3 a4 a5 (12 + Int32.toNatClampNeg a1) 3 hs27 _ _ _ _ hF hw (lv_sub hl [2, 5, 6, 7, 1, 0] rfl)
          · replace hF := kif hF c25
            refine lv_bipush (v := (-3)) S.1 S.2.1 dX4_round_50 (by decide) ?_
            obtain ⟨rfl, rfl⟩ := kret hF
            exact hR _ _ _ _ dX4_round_52 hw (fun h => nomatch h)
        · replace hF := kit hF c20
          refine lv_bipush (v := (-2)) S.1 S.2.1 dX4_round_40 (by decide) ?_
          obtain ⟨rfl, rfl⟩ := kret hF
          exact hR _ _ _ _ dX4_round_42 hw (fun h => nomatch h)
  · replace hF := kit hF c5
    refine lv_iconst (v := (-1)) S.1 S.2.1 dX4_round_12 (by decide) ?_
    obtain ⟨rfl, rfl⟩ := kret hF
    exact hR _ _ _ _ dX4_round_13 hw (fun h => nomatch h)
set_option maxRecDepth 100000 in
theorem kcX4_round {p : Program} {l : Launch} {e : Env} {R : Room} {s : State} {m : MethodId} {args : Array Value} {below : List Frame} {meth : Method} {c : Code} {H : Heap} {locs : List Loc} {cells slots : Nat} {Q : State → Prop} {cc : ByteArray} {pc : Nat} {ls : Array Slot} {rest : List Value} {E : kE} {σ ω σ1 : kS} {nL index : Nat} {own : String} {r : Int32} (S : CallFix p m c cc nL s args kBIG own) (hw : kWS E s (cmb σ ω) H locs) (cw : kV own RX4 index yX4_round cX4_round 9 (some .int) 5) (hR : 5 + 1 ≤ R.frames ∧ 8 + (9 + 11) + 40 * 5 ≤ R.locals) {a1 : Int32} {a2 : Int32} {a3 : Int32} {a4 : Int32} {a5 : Int32}  (hF : fX4_round a1 a2 a3 a4 a5 σ = some (r, σ1)) (hls : ls.size = nL) (hW : (rest.map fun v => v.category).sum ≤ 8) (hdg : decode cc pc = .ok (.invokevirtual index, 3)) (kk : ∀ (H1 : Heap) (locs1 : List Loc), kWS E s (cmb σ1 ω) H1 locs1 → W p l e R s m args below meth c H1 locs1 cells slots Q (F0 m (pc + 3) ls (.int r :: rest))) (hf : cells ≤ R.cells ∧ slots ≤ R.slots := by exact ⟨Nat.le_of_ble_eq_true rfl, Nat.le_of_ble_eq_true rfl⟩) : W p l e R s m args below meth c H locs cells slots Q (F0 m pc ls (.int a5 :: .int a4 :: .int a3 :: .int a2 :: .int a1 :: .ref (ead E 0) :: rest)) := kr_calli (mc := 0) (y := yX4_round) (b := cX4_round) (n := 0) (lv := 0) (As := []) (ret := some .int) hw (kr_runV (As := [.int a1, .int a2, .int a3, .int a4, .int a5]) (q := 0) S hw ((mX4_round (l := l) (E := E) (ω := ω) hF) H.size) cw hR rfl (by decide) rfl rfl hls _ rfl hW hdg hf) (fun H1 locs1 h _ => kk H1 locs1 h)
set_option maxHeartbeats 4000000 in
set_option maxRecDepth 100000 in
theorem wX4_strict_L23 {p : Program} {l : Launch} {e : Env} {s : State} {m : MethodId} {args : Array Value} {below : List Frame} {meth : Method} {c : Code} {Q : State → Prop} {E : kE} {ω σ1 : kS} {r : Int32} (S : CallFix p m c cX4_strict 3 s args kBIG RX4) (hR : kRetI p l e (rml 3) s m args below meth c cX4_strict E Q (some .int) r (cmb σ1 ω))  : ∀ (n : Nat), ∀ (a1 : Int32) (a2 : Int32) (σ : kS) (H : Heap) (locs : List Loc) (ls : Array Slot), fX4_strict_L23 n a1 a2 σ = some (r, σ1) → kWS E s (cmb σ ω) H locs → lv_has ls 3 [(0, .ref (ead E 0)), (1, .int a1), (2, .int a2)] → W p l e (rml 3) s m args below meth c H locs 0 0 Q (F0 m 23 ls []) := by
  intro n
  induction n with
  | zero =>
    intro a1 a2 σ H locs ls hF hw hl
    exact absurd hF (fun h => nomatch h)
  | succ n ih =>
    intro a1 a2 σ H locs ls hF hw hl
    rw [fX4_strict_L23] at hF
    refine lv_iload_n S.1 S.2.1 dX4_strict_23 rfl (lv_at hl 2 rfl) ?_
    refine lv_iconst (v := 4) S.1 S.2.1 dX4_strict_24 (by decide) ?_
    refine lv_icmp_ge (tgt := 56) S.1 S.2.1 dX4_strict_25 (by decide) (fun c8 => ?_) (fun c8 => ?_)
    · replace hF := kit hF c8
      refine lv_bipush (v := (-9)) S.1 S.2.1 dX4_strict_56 (by decide) ?_
      obtain ⟨rfl, rfl⟩ := kret hF
      exact hR _ _ _ _ dX4_strict_58 hw (fun h => nomatch h)
    · replace hF := kif hF c8
      refine lv_aload_n S.1 S.2.1 dX4_strict_28 rfl (lv_at hl 0 rfl) ?_
      refine gf_X4_18 (q := 0) S hw rfl (Nat.le_of_ble_eq_true rfl) rfl dX4_strict_29 ?_
      refine lv_iload_n S.1 S.2.1 dX4_strict_32 rfl (lv_at hl 2 rfl) ?_
      refine pf_X4_126 (q := 6) S hw rfl (Nat.le_of_ble_eq_true rfl) rfl dX4_strict_33 (fun H locs hw => ?_)
      refine lv_aload_n S.1 S.2.1 dX4_strict_36 rfl (lv_at hl 0 rfl) ?_
      refine gf_X4_18 (q := 0) S hw rfl (Nat.le_of_ble_eq_true rfl) rfl dX4_strict_37 ?_
      refine lv_iload_n S.1 S.2.1 dX4_strict_40 rfl (lv_at hl 1 rfl) ?_
      obtain ⟨r11, σ10, e9, hF⟩ := kbi_e hF
      refine kcX0_goesTo S hw cv_X4_116 ⟨Nat.le_of_ble_eq_true rfl, Nat.le_of_ble_eq_true rfl⟩ isM_6 e9 hl.1 (Nat.le_of_ble_eq_true rfl) dX4_strict_41 (fun H locs hw => ?_)
      refine lv_iload_n S.1 S.2.1 dX4_strict_44 rfl (lv_at hl 1 rfl) ?_
      refine lv_icmp_ne (tgt := 50) S.1 S.2.1 dX4_strict_45 (by decide) (fun c12 => ?_) (fun c12 => ?_)
      · replace hF := kif hF c12
        obtain ⟨v13, ev13⟩ : ∃ y : Int32, y = a2 + 1 := ⟨_, rfl⟩
        replace hF := klb hF ev13
        refine lv_iinc (v := v13) (lv' := [(2, .int v13), (0, .ref (ead E 0)), (1, .int a1)]) S.1 S.2.1 dX4_strict_50 hl (k := 2) rfl (by rw [ev13]; rfl) (by decide) rfl (fun ls hl => ?_)
        refine lv_goto (tgt := 23) S.1 S.2.1 dX4_strict_53 (by decide) ?_
        exact ih a1 v13 _ _ _ _ hF hw (lv_sub hl [1, 2, 0] rfl)
      · replace hF := kit hF c12
        refine lv_iload_n S.1 S.2.1 dX4_strict_48 rfl (lv_at hl 2 rfl) ?_
        obtain ⟨rfl, rfl⟩ := kret hF
        exact hR _ _ _ _ dX4_strict_49 hw (fun h => nomatch h)
set_option maxHeartbeats 4000000 in
set_option maxRecDepth 100000 in
theorem mX4_strict {l : Launch} {E : kE} {ω σ σ1 : kS} {r : Int32} {a1 : Int32}  (hF : fX4_strict a1 σ = some (r, σ1)) : kMetI l yX4_strict cX4_strict 3 (some .int) 3 E [.ref (ead E 0), .int a1] (cmb σ ω) r (cmb σ1 ω) := by
  refine kMetI.of (by decide +kernel) (Nat.le_of_ble_eq_true rfl) (Or.inl rfl) ?_
  intro p e s m args below meth c Q ls S hR hw hl
  have hl : lv_has ls 3 [(0, .ref (ead E 0)), (1, .int a1)] := hl
  unfold fX4_strict at hF
  refine lv_aload_n S.1 S.2.1 dX4_strict_0 rfl (lv_at hl 0 rfl) ?_
  refine lv_iload_n S.1 S.2.1 dX4_strict_1 rfl (lv_at hl 1 rfl) ?_
  obtain ⟨r3, σ2, e1, hF⟩ := kbi_e hF
  refine kcX4_isPerson S hw cv_X4_95 ⟨Nat.le_of_ble_eq_true rfl, Nat.le_of_ble_eq_true rfl⟩ e1 hl.1 (Nat.le_of_ble_eq_true rfl) dX4_strict_2 (fun H locs hw hz4 => ?_)
  refine lv_if_ne (tgt := 10) S.1 S.2.1 dX4_strict_5 (by decide) (fun c5 => ?_) (fun c5 => ?_)
  · replace hF := kif hF c5
    refine lv_aload_n S.1 S.2.1 dX4_strict_10 rfl (lv_at hl 0 rfl) ?_
    refine gf_X4_18 (q := 0) S hw rfl (Nat.le_of_ble_eq_true rfl) rfl dX4_strict_11 ?_
    refine lv_aload_n S.1 S.2.1 dX4_strict_14 rfl (lv_at hl 0 rfl) ?_
    refine gf_X4_12 (q := 0) S hw rfl (Nat.le_of_ble_eq_true rfl) rfl dX4_strict_15 ?_
    obtain ⟨σ7, e6, hF⟩ := kbv_e hF
    refine kcX0_become S hw cv_X4_156 ⟨Nat.le_of_ble_eq_true rfl, Nat.le_of_ble_eq_true rfl⟩ isM_6 isM_1 e6 hl.1 (Nat.le_of_ble_eq_true rfl) dX4_strict_18 (fun H locs hw => ?_)
    refine lv_iconst (v := 0) S.1 S.2.1 dX4_strict_21 (by decide) ?_
    refine lv_istore_n (lv' := [(2, .int 0), (0, .ref (ead E 0)), (1, .int a1)]) S.1 S.2.1 dX4_strict_22 rfl hl (by decide) rfl (fun ls hl => ?_)
    exact wX4_strict_L23 S hR 1000 a1 0 _ _ _ _ hF hw (lv_sub hl [1, 2, 0] rfl)
  · replace hF := kit hF c5
    refine lv_iconst (v := (-1)) S.1 S.2.1 dX4_strict_8 (by decide) ?_
    obtain ⟨rfl, rfl⟩ := kret hF
    exact hR _ _ _ _ dX4_strict_9 hw (fun h => nomatch h)
set_option maxRecDepth 100000 in
theorem kcX4_strict {p : Program} {l : Launch} {e : Env} {R : Room} {s : State} {m : MethodId} {args : Array Value} {below : List Frame} {meth : Method} {c : Code} {H : Heap} {locs : List Loc} {cells slots : Nat} {Q : State → Prop} {cc : ByteArray} {pc : Nat} {ls : Array Slot} {rest : List Value} {E : kE} {σ ω σ1 : kS} {nL index : Nat} {own : String} {r : Int32} (S : CallFix p m c cc nL s args kBIG own) (hw : kWS E s (cmb σ ω) H locs) (cw : kV own RX4 index yX4_strict cX4_strict 3 (some .int) 1) (hR : 3 + 1 ≤ R.frames ∧ 8 + (3 + 11) + 40 * 3 ≤ R.locals) {a1 : Int32}  (hF : fX4_strict a1 σ = some (r, σ1)) (hls : ls.size = nL) (hW : (rest.map fun v => v.category).sum ≤ 8) (hdg : decode cc pc = .ok (.invokevirtual index, 3)) (kk : ∀ (H1 : Heap) (locs1 : List Loc), kWS E s (cmb σ1 ω) H1 locs1 → W p l e R s m args below meth c H1 locs1 cells slots Q (F0 m (pc + 3) ls (.int r :: rest))) (hf : cells ≤ R.cells ∧ slots ≤ R.slots := by exact ⟨Nat.le_of_ble_eq_true rfl, Nat.le_of_ble_eq_true rfl⟩) : W p l e R s m args below meth c H locs cells slots Q (F0 m pc ls (.int a1 :: .ref (ead E 0) :: rest)) := kr_calli (mc := 0) (y := yX4_strict) (b := cX4_strict) (n := 0) (lv := 0) (As := []) (ret := some .int) hw (kr_runV (As := [.int a1]) (q := 0) S hw ((mX4_strict (l := l) (E := E) (ω := ω) hF) H.size) cw hR rfl (by decide) rfl rfl hls _ rfl hW hdg hf) (fun H1 locs1 h _ => kk H1 locs1 h)
set_option maxHeartbeats 4000000 in
set_option maxRecDepth 100000 in
theorem wX4_site_L39 {p : Program} {l : Launch} {e : Env} {s : State} {m : MethodId} {args : Array Value} {below : List Frame} {meth : Method} {c : Code} {Q : State → Prop} {E : kE} {ω σ1 : kS} {r : Int32} (S : CallFix p m c cX4_site 6 s args kBIG RX4) (hR : kRetI p l e (rml 4) s m args below meth c cX4_site E Q (some .int) r (cmb σ1 ω))  : ∀ (n : Nat), ∀ (a1 : Int32) (a2 : Int32) (a3 : Int32) (a4 : Int32) (σ : kS) (H : Heap) (locs : List Loc) (ls : Array Slot), fX4_site_L39 n a1 a2 a3 a4 σ = some (r, σ1) → kWS E s (cmb σ ω) H locs → lv_has ls 6 [(0, .ref (ead E 0)), (1, .int a1), (2, .int a2), (3, .int a3), (4, .int a4)] → W p l e (rml 4) s m args below meth c H locs 0 0 Q (F0 m 39 ls []) := by
  intro n
  induction n with
  | zero =>
    intro a1 a2 a3 a4 σ H locs ls hF hw hl
    exact absurd hF (fun h => nomatch h)
  | succ n ih =>
    intro a1 a2 a3 a4 σ H locs ls hF hw hl
    rw [fX4_site_L39] at hF
    refine lv_iload S.1 S.2.1 dX4_site_39 (lv_at hl 4 rfl) ?_
    refine lv_bipush (v := 10) S.1 S.2.1 dX4_site_41 (by decide) ?_
    refine lv_icmp_ge (tgt := 85) S.1 S.2.1 dX4_site_43 (by decide) (fun c13 => ?_) (fun c13 => ?_)
    · replace hF := kit hF c13
      refine lv_iload_n S.1 S.2.1 dX4_site_85 rfl (lv_at hl 1 rfl) ?_
      refine lv_if_ne (tgt := 93) S.1 S.2.1 dX4_site_86 (by decide) (fun c14 => ?_) (fun c14 => ?_)
      · replace hF := kif hF c14
        refine lv_iload_n S.1 S.2.1 dX4_site_93 rfl (lv_at hl 3 rfl) ?_
        obtain ⟨rfl, rfl⟩ := kret hF
        exact hR _ _ _ _ dX4_site_94 hw (fun h => nomatch h)
      · replace hF := kit hF c14
        refine lv_iload_n S.1 S.2.1 dX4_site_89 rfl (lv_at hl 2 rfl) ?_
        refine lv_goto (tgt := 94) S.1 S.2.1 dX4_site_90 (by decide) ?_
        obtain ⟨rfl, rfl⟩ := kret hF
        exact hR _ _ _ _ dX4_site_94 hw (fun h => nomatch h)
    · replace hF := kif hF c13
      refine lv_aload_n S.1 S.2.1 dX4_site_46 rfl (lv_at hl 0 rfl) ?_
      refine gf_X4_18 (q := 0) S hw rfl (Nat.le_of_ble_eq_true rfl) rfl dX4_site_47 ?_
      refine lv_iload S.1 S.2.1 dX4_site_50 (lv_at hl 4 rfl) ?_
      refine pf_X4_123 (q := 6) S hw rfl (Nat.le_of_ble_eq_true rfl) rfl dX4_site_52 (fun H locs hw => ?_)
      refine lv_aload_n S.1 S.2.1 dX4_site_55 rfl (lv_at hl 0 rfl) ?_
      refine gf_X4_18 (q := 0) S hw rfl (Nat.le_of_ble_eq_true rfl) rfl dX4_site_56 ?_
      obtain ⟨r17, σ16, e15, hF⟩ := kbi_e hF
      refine kcX0_whoseCome S hw cv_X4_136 ⟨Nat.le_of_ble_eq_true rfl, Nat.le_of_ble_eq_true rfl⟩ isM_6 e15 hl.1 (Nat.le_of_ble_eq_true rfl) dX4_site_59 (fun H locs hw => ?_)
      obtain ⟨r20, σ19, e18, hF⟩ := kbi_e hF
      refine kcJ6_bitCount_0f7a4 S hw cv_X4_160 ⟨Nat.le_of_ble_eq_true rfl, Nat.le_of_ble_eq_true rfl⟩ e18 hl.1 (Nat.le_of_ble_eq_true rfl) dX4_site_62 (fun H locs hw => ?_)
      refine lv_istore (lv' := [(5, .int r20), (0, .ref (ead E 0)), (1, .int a1), (2, .int a2), (3, .int a3), (4, .int a4)]) S.1 S.2.1 dX4_site_65 hl (by decide) rfl (fun ls hl => ?_)
      refine lv_iload S.1 S.2.1 dX4_site_67 (lv_at hl 0 rfl) ?_
      refine lv_iload_n S.1 S.2.1 dX4_site_69 rfl (lv_at hl 4 rfl) ?_
      refine lv_icmp_le (tgt := 79) S.1 S.2.1 dX4_site_70 (by decide) (fun c21 => ?_) (fun c21 => ?_)
      · replace hF := kit hF c21
        obtain ⟨v22, ev22⟩ : ∃ y : Int32, y = a4 + 1 := ⟨_, rfl⟩
        replace hF := klb hF ev22
        refine lv_iinc (v := v22) (lv' := [(4, .int v22), (5, .int r20), (0, .ref (ead E 0)), (1, .int a1), (2, .int a2), (3, .int a3)]) S.1 S.2.1 dX4_site_79 hl (k := 5) rfl (by rw [ev22]; rfl) (by decide) rfl (fun ls hl => ?_)
        refine lv_goto (tgt := 39) S.1 S.2.1 dX4_site_82 (by decide) ?_
        exact ih a1 a2 a3 v22 _ _ _ _ hF hw (lv_sub hl [2, 3, 4, 5, 0] rfl)
      · replace hF := kif hF c21
        refine lv_iload S.1 S.2.1 dX4_site_73 (lv_at hl 0 rfl) ?_
        refine lv_istore_n (lv' := [(3, .int r20), (5, .int r20), (0, .ref (ead E 0)), (1, .int a1), (2, .int a2), (4, .int a4)]) S.1 S.2.1 dX4_site_75 rfl hl (by decide) rfl (fun ls hl => ?_)
        refine lv_iload S.1 S.2.1 dX4_site_76 (lv_at hl 5 rfl) ?_
        refine lv_istore_n (lv' := [(2, .int a4), (3, .int r20), (5, .int r20), (0, .ref (ead E 0)), (1, .int a1), (4, .int a4)]) S.1 S.2.1 dX4_site_78 rfl hl (by decide) rfl (fun ls hl => ?_)
        obtain ⟨v23, ev23⟩ : ∃ y : Int32, y = a4 + 1 := ⟨_, rfl⟩
        replace hF := klb hF ev23
        refine lv_iinc (v := v23) (lv' := [(4, .int v23), (2, .int a4), (3, .int r20), (5, .int r20), (0, .ref (ead E 0)), (1, .int a1)]) S.1 S.2.1 dX4_site_79 hl (k := 5) rfl (by rw [ev23]; rfl) (by decide) rfl (fun ls hl => ?_)
        refine lv_goto (tgt := 39) S.1 S.2.1 dX4_site_82 (by decide) ?_
        exact ih a1 a4 r20 v23 _ _ _ _ hF hw (lv_sub hl [4, 5, 1, 2, 0] rfl)
set_option maxHeartbeats 4000000 in
set_option maxRecDepth 100000 in
theorem mX4_site {l : Launch} {E : kE} {ω σ σ1 : kS} {r : Int32} {a1 : Int32}  (hF : fX4_site a1 σ = some (r, σ1)) : kMetI l yX4_site cX4_site 6 (some .int) 4 E [.ref (ead E 0), .int a1] (cmb σ ω) r (cmb σ1 ω) := by
  refine kMetI.of (by decide +kernel) (Nat.le_of_ble_eq_true rfl) (Or.inl rfl) ?_
  intro p e s m args below meth c Q ls S hR hw hl
  have hl : lv_has ls 6 [(0, .ref (ead E 0)), (1, .int a1)] := hl
  unfold fX4_site at hF
  refine lv_aload_n S.1 S.2.1 dX4_site_0 rfl (lv_at hl 0 rfl) ?_
  obtain ⟨r3, σ2, e1, hF⟩ := kbi_e hF
  refine kcX4_hasNoMoor S hw cv_X4_119 ⟨Nat.le_of_ble_eq_true rfl, Nat.le_of_ble_eq_true rfl⟩ e1 hl.1 (Nat.le_of_ble_eq_true rfl) dX4_site_1 (fun H locs hw hz4 => ?_)
  refine lv_if_eq (tgt := 10) S.1 S.2.1 dX4_site_4 (by decide) (fun c5 => ?_) (fun c5 => ?_)
  · replace hF := kit hF c5
    refine lv_iload_n S.1 S.2.1 dX4_site_10 rfl (lv_at hl 1 rfl) ?_
    refine lv_iconst (v := 2) S.1 S.2.1 dX4_site_11 (by decide) ?_
    obtain ⟨r8, σ7, e6, hF⟩ := kbi_e hF
    refine kcX4_isBelow S hw cv_X4_59 ⟨Nat.le_of_ble_eq_true rfl, Nat.le_of_ble_eq_true rfl⟩ e6 hl.1 (Nat.le_of_ble_eq_true rfl) dX4_site_12 (fun H locs hw hz9 => ?_)
    refine lv_if_ne (tgt := 21) S.1 S.2.1 dX4_site_15 (by decide) (fun c10 => ?_) (fun c10 => ?_)
    · replace hF := kif hF c10
      refine lv_aload_n S.1 S.2.1 dX4_site_21 rfl (lv_at hl 0 rfl) ?_
      refine gf_X4_18 (q := 0) S hw rfl (Nat.le_of_ble_eq_true rfl) rfl dX4_site_22 ?_
      refine lv_aload_n S.1 S.2.1 dX4_site_25 rfl (lv_at hl 0 rfl) ?_
      refine gf_X4_12 (q := 0) S hw rfl (Nat.le_of_ble_eq_true rfl) rfl dX4_site_26 ?_
      obtain ⟨σ12, e11, hF⟩ := kbv_e hF
      refine kcX0_become S hw cv_X4_156 ⟨Nat.le_of_ble_eq_true rfl, Nat.le_of_ble_eq_true rfl⟩ isM_6 isM_1 e11 hl.1 (Nat.le_of_ble_eq_true rfl) dX4_site_29 (fun H locs hw => ?_)
      refine lv_iconst (v := 0) S.1 S.2.1 dX4_site_32 (by decide) ?_
      refine lv_istore_n (lv' := [(2, .int 0), (0, .ref (ead E 0)), (1, .int a1)]) S.1 S.2.1 dX4_site_33 rfl hl (by decide) rfl (fun ls hl => ?_)
      refine lv_iconst (v := (-1)) S.1 S.2.1 dX4_site_34 (by decide) ?_
      refine lv_istore_n (lv' := [(3, .int (-1)), (2, .int 0), (0, .ref (ead E 0)), (1, .int a1)]) S.1 S.2.1 dX4_site_35 rfl hl (by decide) rfl (fun ls hl => ?_)
      refine lv_iconst (v := 0) S.1 S.2.1 dX4_site_36 (by decide) ?_
      refine lv_istore (lv' := [(4, .int 0), (3, .int (-1)), (2, .int 0), (0, .ref (ead E 0)), (1, .int a1)]) S.1 S.2.1 dX4_site_37 hl (by decide) rfl (fun ls hl => ?_)
      exact wX4_site_L39 S hR 1000 a1 0 (-1) 0 _ _ _ _ hF hw (lv_sub hl [3, 4, 2, 1, 0] rfl)
    · replace hF := kit hF c10
      refine lv_bipush (v := (-2)) S.1 S.2.1 dX4_site_18 (by decide) ?_
      obtain ⟨rfl, rfl⟩ := kret hF
      exact hR _ _ _ _ dX4_site_20 hw (fun h => nomatch h)
  · replace hF := kif hF c5
    refine lv_bipush (v := (-3)) S.1 S.2.1 dX4_site_7 (by decide) ?_
    obtain ⟨rfl, rfl⟩ := kret hF
    exact hR _ _ _ _ dX4_site_9 hw (fun h => nomatch h)
set_option maxRecDepth 100000 in
theorem kcX4_site {p : Program} {l : Launch} {e : Env} {R : Room} {s : State} {m : MethodId} {args : Array Value} {below : List Frame} {meth : Method} {c : Code} {H : Heap} {locs : List Loc} {cells slots : Nat} {Q : State → Prop} {cc : ByteArray} {pc : Nat} {ls : Array Slot} {rest : List Value} {E : kE} {σ ω σ1 : kS} {nL index : Nat} {own : String} {r : Int32} (S : CallFix p m c cc nL s args kBIG own) (hw : kWS E s (cmb σ ω) H locs) (cw : kV own RX4 index yX4_site cX4_site 6 (some .int) 1) (hR : 4 + 1 ≤ R.frames ∧ 8 + (6 + 11) + 40 * 4 ≤ R.locals) {a1 : Int32}  (hF : fX4_site a1 σ = some (r, σ1)) (hls : ls.size = nL) (hW : (rest.map fun v => v.category).sum ≤ 8) (hdg : decode cc pc = .ok (.invokevirtual index, 3)) (kk : ∀ (H1 : Heap) (locs1 : List Loc), kWS E s (cmb σ1 ω) H1 locs1 → W p l e R s m args below meth c H1 locs1 cells slots Q (F0 m (pc + 3) ls (.int r :: rest))) (hf : cells ≤ R.cells ∧ slots ≤ R.slots := by exact ⟨Nat.le_of_ble_eq_true rfl, Nat.le_of_ble_eq_true rfl⟩) : W p l e R s m args below meth c H locs cells slots Q (F0 m pc ls (.int a1 :: .ref (ead E 0) :: rest)) := kr_calli (mc := 0) (y := yX4_site) (b := cX4_site) (n := 0) (lv := 0) (As := []) (ret := some .int) hw (kr_runV (As := [.int a1]) (q := 0) S hw ((mX4_site (l := l) (E := E) (ω := ω) hF) H.size) cw hR rfl (by decide) rfl rfl hls _ rfl hW hdg hf) (fun H1 locs1 h _ => kk H1 locs1 h)
set_option maxHeartbeats 4000000 in
set_option maxRecDepth 100000 in
theorem mX4_contains {l : Launch} {E : kE} {ω σ σ1 : kS} {r : Int32} {a0 : Int32} {a1 : Int32}  (hF : fX4_contains a0 a1 σ = some (r, σ1)) : kMetI l yX4_contains cX4_contains 2 (some .boolean) 0 E [.int a0, .int a1] (cmb σ ω) r (cmb σ1 ω) := by
  refine kMetI.of (by decide +kernel) (Nat.le_of_ble_eq_true rfl) (Or.inr rfl) ?_
  intro p e s m args below meth c Q ls S hR hw hl
  have hl : lv_has ls 2 [(0, .int a0), (1, .int a1)] := hl
  unfold fX4_contains at hF
  refine lv_iload_n S.1 S.2.1 dX4_contains_0 rfl (lv_at hl 0 rfl) ?_
  refine lv_iload_n S.1 S.2.1 dX4_contains_1 rfl (lv_at hl 1 rfl) ?_
  refine lv_ishr S.1 S.2.1 dX4_contains_2 ?_
  refine lv_iconst (v := 1) S.1 S.2.1 dX4_contains_3 (by decide) ?_
  refine lv_iand S.1 S.2.1 dX4_contains_4 ?_
  refine lv_if_eq (tgt := 12) S.1 S.2.1 dX4_contains_5 (by decide) (fun c1 => ?_) (fun c1 => ?_)
  · replace hF := kit hF c1
    refine lv_iconst (v := 0) S.1 S.2.1 dX4_contains_12 (by decide) ?_
    obtain ⟨rfl, rfl⟩ := kret hF
    exact hR _ _ _ _ dX4_contains_13 hw (fun _ => (Or.inl rfl))
  · replace hF := kif hF c1
    refine lv_iconst (v := 1) S.1 S.2.1 dX4_contains_8 (by decide) ?_
    refine lv_goto (tgt := 13) S.1 S.2.1 dX4_contains_9 (by decide) ?_
    obtain ⟨rfl, rfl⟩ := kret hF
    exact hR _ _ _ _ dX4_contains_13 hw (fun _ => (Or.inr rfl))
set_option maxRecDepth 100000 in
theorem kcX4_contains {p : Program} {l : Launch} {e : Env} {R : Room} {s : State} {m : MethodId} {args : Array Value} {below : List Frame} {meth : Method} {c : Code} {H : Heap} {locs : List Loc} {cells slots : Nat} {Q : State → Prop} {cc : ByteArray} {pc : Nat} {ls : Array Slot} {rest : List Value} {E : kE} {σ ω σ1 : kS} {nL index : Nat} {own : String} {r : Int32} (S : CallFix p m c cc nL s args kBIG own) (hw : kWS E s (cmb σ ω) H locs) (cw : kSt own index yX4_contains cX4_contains 2 (some .boolean) 2) (hR : 0 + 1 ≤ R.frames ∧ 8 + (2 + 11) + 40 * 0 ≤ R.locals) {a0 : Int32} {a1 : Int32}  (hF : fX4_contains a0 a1 σ = some (r, σ1)) (hls : ls.size = nL) (hW : (rest.map fun v => v.category).sum ≤ 8) (hdg : decode cc pc = .ok (.invokestatic index, 3)) (kk : ∀ (H1 : Heap) (locs1 : List Loc), kWS E s (cmb σ1 ω) H1 locs1 → (((some .boolean) : Option FieldType) = some .boolean → r = 0 ∨ r = 1) → W p l e R s m args below meth c H1 locs1 cells slots Q (F0 m (pc + 3) ls (.int r :: rest))) (hf : cells ≤ R.cells ∧ slots ≤ R.slots := by exact ⟨Nat.le_of_ble_eq_true rfl, Nat.le_of_ble_eq_true rfl⟩) : W p l e R s m args below meth c H locs cells slots Q (F0 m pc ls (.int a1 :: .int a0 :: rest)) := kr_calli (mc := 0) (y := yX4_contains) (b := cX4_contains) (n := 0) (lv := 0) (As := []) hw (kr_runS (As := [.int a0, .int a1]) S hw ((mX4_contains (l := l) (E := E) (ω := ω) hF) H.size) cw hR rfl hls _ rfl hW hdg hf) kk
set_option maxHeartbeats 4000000 in
set_option maxRecDepth 100000 in
theorem wX4_comingInTriedOrder_J46 {p : Program} {l : Launch} {e : Env} {s : State} {m : MethodId} {args : Array Value} {below : List Frame} {meth : Method} {c : Code} {Q : State → Prop} {E : kE} {ω σ1 : kS} {r : Int32} (S : CallFix p m c cX4_comingInTriedOrder 6 s args kBIG RX4) (hR : kRetI p l e (rml 1) s m args below meth c cX4_comingInTriedOrder E Q (some .int) r (cmb σ1 ω)) {k6 : Int32 → Int32 → Int32 → kS → Option (Int32 × kS)} (hk6 : ∀ (a1 : Int32) (a2 : Int32) (a3 : Int32) (σ : kS) (H : Heap) (locs : List Loc) (ls : Array Slot), k6 a1 a2 a3 σ = some (r, σ1) → kWS E s (cmb σ ω) H locs → lv_has ls 6 [(0, .ref (ead E 0)), (1, .int a1), (2, .int a2), (3, .int a3)] → W p l e (rml 1) s m args below meth c H locs 0 0 Q (F0 m 6 ls [])) : ∀ (a1 : Int32) (a2 : Int32) (a3 : Int32) (a4 : Int32) (as0 : Int32) (σ : kS) (H : Heap) (locs : List Loc) (ls : Array Slot), fX4_comingInTriedOrder_J46 k6 a1 a2 a3 a4 as0 σ = some (r, σ1) → kWS E s (cmb σ ω) H locs → lv_has ls 6 [(0, .ref (ead E 0)), (1, .int a1), (2, .int a2), (3, .int a3), (4, .int a4)] → W p l e (rml 1) s m args below meth c H locs 0 0 Q (F0 m 46 ls [.int as0]) := by
  intro a1 a2 a3 a4 as0 σ H locs ls hF hw hl
  unfold fX4_comingInTriedOrder_J46 at hF
  refine lv_istore (lv' := [(5, .int as0), (0, .ref (ead E 0)), (1, .int a1), (2, .int a2), (3, .int a3), (4, .int a4)]) S.1 S.2.1 dX4_comingInTriedOrder_46 hl (by decide) rfl (fun ls hl => ?_)
  refine lv_iload S.1 S.2.1 dX4_comingInTriedOrder_48 (lv_at hl 0 rfl) ?_
  refine lv_iload S.1 S.2.1 dX4_comingInTriedOrder_50 (lv_at hl 5 rfl) ?_
  refine lv_icmp_ne (tgt := 58) S.1 S.2.1 dX4_comingInTriedOrder_52 (by decide) (fun c10 => ?_) (fun c10 => ?_)
  · replace hF := kif hF c10
    refine lv_iload_n S.1 S.2.1 dX4_comingInTriedOrder_58 rfl (lv_at hl 2 rfl) ?_
    refine lv_iload S.1 S.2.1 dX4_comingInTriedOrder_59 (lv_at hl 0 rfl) ?_
    obtain ⟨r13, σ12, e11, hF⟩ := kbi_e hF
    refine kcX4_withOne S hw cv_X4_244 ⟨Nat.le_of_ble_eq_true rfl, Nat.le_of_ble_eq_true rfl⟩ e11 hl.1 (Nat.le_of_ble_eq_true rfl) dX4_comingInTriedOrder_61 (fun H locs hw => ?_)
    refine lv_istore_n (lv' := [(1, .int r13), (5, .int as0), (0, .ref (ead E 0)), (2, .int a2), (3, .int a3), (4, .int a4)]) S.1 S.2.1 dX4_comingInTriedOrder_64 rfl hl (by decide) rfl (fun ls hl => ?_)
    obtain ⟨v14, ev14⟩ : ∃ y : Int32, y = a3 + 1 := ⟨_, rfl⟩
    replace hF := klb hF ev14
    refine lv_iinc (v := v14) (lv' := [(3, .int v14), (1, .int r13), (5, .int as0), (0, .ref (ead E 0)), (2, .int a2), (4, .int a4)]) S.1 S.2.1 dX4_comingInTriedOrder_65 hl (k := 4) rfl (by rw [ev14]; rfl) (by decide) rfl (fun ls hl => ?_)
    refine lv_goto (tgt := 6) S.1 S.2.1 dX4_comingInTriedOrder_68 (by decide) ?_
    exact hk6 r13 a2 v14 _ _ _ _ hF hw (lv_sub hl [3, 1, 4, 0] rfl)
  · replace hF := kit hF c10
    obtain ⟨v15, ev15⟩ : ∃ y : Int32, y = a2 + 1 := ⟨_, rfl⟩
    replace hF := klb hF ev15
    refine lv_iinc (v := v15) (lv' := [(2, .int v15), (5, .int as0), (0, .ref (ead E 0)), (1, .int a1), (3, .int a3), (4, .int a4)]) S.1 S.2.1 dX4_comingInTriedOrder_55 hl (k := 3) rfl (by rw [ev15]; rfl) (by decide) rfl (fun ls hl => ?_)
    refine lv_iload_n S.1 S.2.1 dX4_comingInTriedOrder_58 rfl (lv_at hl 3 rfl) ?_
    refine lv_iload S.1 S.2.1 dX4_comingInTriedOrder_59 (lv_at hl 1 rfl) ?_
    obtain ⟨r18, σ17, e16, hF⟩ := kbi_e hF
    refine kcX4_withOne S hw cv_X4_244 ⟨Nat.le_of_ble_eq_true rfl, Nat.le_of_ble_eq_true rfl⟩ e16 hl.1 (Nat.le_of_ble_eq_true rfl) dX4_comingInTriedOrder_61 (fun H locs hw => ?_)
    refine lv_istore_n (lv' := [(1, .int r18), (2, .int v15), (5, .int as0), (0, .ref (ead E 0)), (3, .int a3), (4, .int a4)]) S.1 S.2.1 dX4_comingInTriedOrder_64 rfl hl (by decide) rfl (fun ls hl => ?_)
    obtain ⟨v19, ev19⟩ : ∃ y : Int32, y = a3 + 1 := ⟨_, rfl⟩
    replace hF := klb hF ev19
    refine lv_iinc (v := v19) (lv' := [(3, .int v19), (1, .int r18), (2, .int v15), (5, .int as0), (0, .ref (ead E 0)), (4, .int a4)]) S.1 S.2.1 dX4_comingInTriedOrder_65 hl (k := 4) rfl (by rw [ev19]; rfl) (by decide) rfl (fun ls hl => ?_)
    refine lv_goto (tgt := 6) S.1 S.2.1 dX4_comingInTriedOrder_68 (by decide) ?_
    exact hk6 r18 v15 v19 _ _ _ _ hF hw (lv_sub hl [4, 1, 2, 0] rfl)
set_option maxHeartbeats 4000000 in
set_option maxRecDepth 100000 in
theorem wX4_comingInTriedOrder_L6 {p : Program} {l : Launch} {e : Env} {s : State} {m : MethodId} {args : Array Value} {below : List Frame} {meth : Method} {c : Code} {Q : State → Prop} {E : kE} {ω σ1 : kS} {r : Int32} (S : CallFix p m c cX4_comingInTriedOrder 6 s args kBIG RX4) (hR : kRetI p l e (rml 1) s m args below meth c cX4_comingInTriedOrder E Q (some .int) r (cmb σ1 ω))  : ∀ (n : Nat), ∀ (a1 : Int32) (a2 : Int32) (a3 : Int32) (σ : kS) (H : Heap) (locs : List Loc) (ls : Array Slot), fX4_comingInTriedOrder_L6 n a1 a2 a3 σ = some (r, σ1) → kWS E s (cmb σ ω) H locs → lv_has ls 6 [(0, .ref (ead E 0)), (1, .int a1), (2, .int a2), (3, .int a3)] → W p l e (rml 1) s m args below meth c H locs 0 0 Q (F0 m 6 ls []) := by
  intro n
  induction n with
  | zero =>
    intro a1 a2 a3 σ H locs ls hF hw hl
    exact absurd hF (fun h => nomatch h)
  | succ n ih =>
    intro a1 a2 a3 σ H locs ls hF hw hl
    rw [fX4_comingInTriedOrder_L6] at hF
    refine lv_iload_n S.1 S.2.1 dX4_comingInTriedOrder_6 rfl (lv_at hl 3 rfl) ?_
    refine lv_aload_n S.1 S.2.1 dX4_comingInTriedOrder_7 rfl (lv_at hl 0 rfl) ?_
    refine gf_X4_12 (q := 0) S hw rfl (Nat.le_of_ble_eq_true rfl) rfl dX4_comingInTriedOrder_8 ?_
    refine gf_X4_92 (q := 1) S hw rfl (Nat.le_of_ble_eq_true rfl) rfl dX4_comingInTriedOrder_11 ?_
    refine lv_icmp_ge (tgt := 71) S.1 S.2.1 dX4_comingInTriedOrder_14 (by decide) (fun c1 => ?_) (fun c1 => ?_)
    · replace hF := kit hF c1
      refine lv_iload_n S.1 S.2.1 dX4_comingInTriedOrder_71 rfl (lv_at hl 2 rfl) ?_
      obtain ⟨rfl, rfl⟩ := kret hF
      exact hR _ _ _ _ dX4_comingInTriedOrder_72 hw (fun h => nomatch h)
    · replace hF := kif hF c1
      refine lv_aload_n S.1 S.2.1 dX4_comingInTriedOrder_17 rfl (lv_at hl 0 rfl) ?_
      refine gf_X4_45 (q := 0) S hw rfl (Nat.le_of_ble_eq_true rfl) rfl dX4_comingInTriedOrder_18 ?_
      refine lv_iload_n S.1 S.2.1 dX4_comingInTriedOrder_21 rfl (lv_at hl 3 rfl) ?_
      obtain ⟨hb2, hF⟩ := kin hF
      refine kx_iald (q := 24) S hw rfl (Nat.le_of_ble_eq_true rfl) hb2 dX4_comingInTriedOrder_22 ?_
      refine lv_topi (fun v3 ev3 => ?_)
      replace hF := klb hF ev3
      refine lv_istore (lv' := [(4, .int v3), (0, .ref (ead E 0)), (1, .int a1), (2, .int a2), (3, .int a3)]) S.1 S.2.1 dX4_comingInTriedOrder_23 hl (by decide) rfl (fun ls hl => ?_)
      refine lv_iload_n S.1 S.2.1 dX4_comingInTriedOrder_25 rfl (lv_at hl 2 rfl) ?_
      refine lv_iload S.1 S.2.1 dX4_comingInTriedOrder_26 (lv_at hl 0 rfl) ?_
      obtain ⟨r6, σ5, e4, hF⟩ := kbi_e hF
      refine kcX4_contains S hw cv_X4_168 ⟨Nat.le_of_ble_eq_true rfl, Nat.le_of_ble_eq_true rfl⟩ e4 hl.1 (Nat.le_of_ble_eq_true rfl) dX4_comingInTriedOrder_28 (fun H locs hw hz7 => ?_)
      refine lv_if_eq (tgt := 39) S.1 S.2.1 dX4_comingInTriedOrder_31 (by decide) (fun c8 => ?_) (fun c8 => ?_)
      · replace hF := kit hF c8
        refine lv_aload_n S.1 S.2.1 dX4_comingInTriedOrder_39 rfl (lv_at hl 1 rfl) ?_
        refine gf_X4_42 (q := 0) S hw rfl (Nat.le_of_ble_eq_true rfl) rfl dX4_comingInTriedOrder_40 ?_
        refine lv_iload S.1 S.2.1 dX4_comingInTriedOrder_43 (lv_at hl 0 rfl) ?_
        obtain ⟨hb9, hF⟩ := kin hF
        refine kx_iald (q := 23) S hw rfl (Nat.le_of_ble_eq_true rfl) hb9 dX4_comingInTriedOrder_45 ?_
        exact wX4_comingInTriedOrder_J46 S hR ih a1 a2 a3 v3 (σ5 23 (Int32.toNatClampNeg v3)) _ _ _ _ hF hw (lv_sub hl [1, 2, 3, 4, 0] rfl)
      · replace hF := kif hF c8
        refine lv_iload S.1 S.2.1 dX4_comingInTriedOrder_34 (lv_at hl 0 rfl) ?_
        refine lv_goto (tgt := 46) S.1 S.2.1 dX4_comingInTriedOrder_36 (by decide) ?_
        exact wX4_comingInTriedOrder_J46 S hR ih a1 a2 a3 v3 v3 _ _ _ _ hF hw (lv_sub hl [1, 2, 3, 4, 0] rfl)
set_option maxHeartbeats 4000000 in
set_option maxRecDepth 100000 in
theorem mX4_comingInTriedOrder {l : Launch} {E : kE} {ω σ σ1 : kS} {r : Int32}   (hF : fX4_comingInTriedOrder σ = some (r, σ1)) : kMetI l yX4_comingInTriedOrder cX4_comingInTriedOrder 6 (some .int) 1 E [.ref (ead E 0)] (cmb σ ω) r (cmb σ1 ω) := by
  refine kMetI.of (by decide +kernel) (Nat.le_of_ble_eq_true rfl) (Or.inl rfl) ?_
  intro p e s m args below meth c Q ls S hR hw hl
  have hl : lv_has ls 6 [(0, .ref (ead E 0))] := hl
  unfold fX4_comingInTriedOrder at hF
  refine lv_iconst (v := 0) S.1 S.2.1 dX4_comingInTriedOrder_0 (by decide) ?_
  refine lv_istore_n (lv' := [(1, .int 0), (0, .ref (ead E 0))]) S.1 S.2.1 dX4_comingInTriedOrder_1 rfl hl (by decide) rfl (fun ls hl => ?_)
  refine lv_iconst (v := 0) S.1 S.2.1 dX4_comingInTriedOrder_2 (by decide) ?_
  refine lv_istore_n (lv' := [(2, .int 0), (1, .int 0), (0, .ref (ead E 0))]) S.1 S.2.1 dX4_comingInTriedOrder_3 rfl hl (by decide) rfl (fun ls hl => ?_)
  refine lv_iconst (v := 0) S.1 S.2.1 dX4_comingInTriedOrder_4 (by decide) ?_
  refine lv_istore_n (lv' := [(3, .int 0), (2, .int 0), (1, .int 0), (0, .ref (ead E 0))]) S.1 S.2.1 dX4_comingInTriedOrder_5 rfl hl (by decide) rfl (fun ls hl => ?_)
  exact wX4_comingInTriedOrder_L6 S hR 1000 0 0 0 _ _ _ _ hF hw (lv_sub hl [3, 2, 1, 0] rfl)
set_option maxRecDepth 100000 in
theorem kcX4_comingInTriedOrder {p : Program} {l : Launch} {e : Env} {R : Room} {s : State} {m : MethodId} {args : Array Value} {below : List Frame} {meth : Method} {c : Code} {H : Heap} {locs : List Loc} {cells slots : Nat} {Q : State → Prop} {cc : ByteArray} {pc : Nat} {ls : Array Slot} {rest : List Value} {E : kE} {σ ω σ1 : kS} {nL index : Nat} {own : String} {r : Int32} (S : CallFix p m c cc nL s args kBIG own) (hw : kWS E s (cmb σ ω) H locs) (cw : kV own RX4 index yX4_comingInTriedOrder cX4_comingInTriedOrder 6 (some .int) 0) (hR : 1 + 1 ≤ R.frames ∧ 8 + (6 + 11) + 40 * 1 ≤ R.locals)   (hF : fX4_comingInTriedOrder σ = some (r, σ1)) (hls : ls.size = nL) (hW : (rest.map fun v => v.category).sum ≤ 8) (hdg : decode cc pc = .ok (.invokevirtual index, 3)) (kk : ∀ (H1 : Heap) (locs1 : List Loc), kWS E s (cmb σ1 ω) H1 locs1 → W p l e R s m args below meth c H1 locs1 cells slots Q (F0 m (pc + 3) ls (.int r :: rest))) (hf : cells ≤ R.cells ∧ slots ≤ R.slots := by exact ⟨Nat.le_of_ble_eq_true rfl, Nat.le_of_ble_eq_true rfl⟩) : W p l e R s m args below meth c H locs cells slots Q (F0 m pc ls (.ref (ead E 0) :: rest)) := kr_calli (mc := 0) (y := yX4_comingInTriedOrder) (b := cX4_comingInTriedOrder) (n := 0) (lv := 0) (As := []) (ret := some .int) hw (kr_runV (As := []) (q := 0) S hw ((mX4_comingInTriedOrder (l := l) (E := E) (ω := ω) hF) H.size) cw hR rfl (by decide) rfl rfl hls _ rfl hW hdg hf) (fun H1 locs1 h _ => kk H1 locs1 h)
set_option maxHeartbeats 4000000 in
set_option maxRecDepth 100000 in
theorem mX4_swap {l : Launch} {E : kE} {ω σ σ1 : kS} {q0 : Nat} {a1 : Int32} {a2 : Int32} (hq0 : xA q0 6) (hF : fX4_swap q0 a1 a2 σ = some σ1) : kMetV l yX4_swap cX4_swap 4 0 E [.ref (ead E q0), .int a1, .int a2] (cmb σ ω) (cmb σ1 ω) := by
  refine kMetV.of (by decide +kernel) (Nat.le_of_ble_eq_true rfl) ?_
  intro p e s m args below meth c Q ls S hR hw hl
  have hl : lv_has ls 4 [(0, .ref (ead E q0)), (1, .int a1), (2, .int a2)] := hl
  unfold fX4_swap at hF
  refine lv_aload_n S.1 S.2.1 dX4_swap_0 rfl (lv_at hl 0 rfl) ?_
  refine lv_iload_n S.1 S.2.1 dX4_swap_1 rfl (lv_at hl 1 rfl) ?_
  obtain ⟨hb1, hF⟩ := kin hF
  refine kx_iald (q := q0) S hw hq0.1 hq0.2 hb1 dX4_swap_2 ?_
  refine lv_topi (fun v2 ev2 => ?_)
  replace hF := klb hF ev2
  refine lv_istore_n (lv' := [(3, .int v2), (0, .ref (ead E q0)), (1, .int a1), (2, .int a2)]) S.1 S.2.1 dX4_swap_3 rfl hl (by decide) rfl (fun ls hl => ?_)
  refine lv_aload_n S.1 S.2.1 dX4_swap_4 rfl (lv_at hl 1 rfl) ?_
  refine lv_iload_n S.1 S.2.1 dX4_swap_5 rfl (lv_at hl 2 rfl) ?_
  refine lv_aload_n S.1 S.2.1 dX4_swap_6 rfl (lv_at hl 1 rfl) ?_
  refine lv_iload_n S.1 S.2.1 dX4_swap_7 rfl (lv_at hl 3 rfl) ?_
  obtain ⟨hb3, hF⟩ := kin hF
  refine kx_iald (q := q0) S hw hq0.1 hq0.2 hb3 dX4_swap_8 ?_
  obtain ⟨hb4, hF⟩ := kin hF
  refine kx_iast (q := q0) S hw hq0.1 hq0.2 hb4 dX4_swap_9 (fun H locs hw => ?_)
  refine lv_aload_n S.1 S.2.1 dX4_swap_10 rfl (lv_at hl 1 rfl) ?_
  refine lv_iload_n S.1 S.2.1 dX4_swap_11 rfl (lv_at hl 3 rfl) ?_
  refine lv_iload_n S.1 S.2.1 dX4_swap_12 rfl (lv_at hl 0 rfl) ?_
  obtain ⟨hb5, hF⟩ := kin hF
  refine kx_iast (q := q0) S hw hq0.1 hq0.2 hb5 dX4_swap_13 (fun H locs hw => ?_)
  cases kre hF
  exact hR _ _ _ _ dX4_swap_14 hw
set_option maxRecDepth 100000 in
theorem kcX4_swap {p : Program} {l : Launch} {e : Env} {R : Room} {s : State} {m : MethodId} {args : Array Value} {below : List Frame} {meth : Method} {c : Code} {H : Heap} {locs : List Loc} {cells slots : Nat} {Q : State → Prop} {cc : ByteArray} {pc : Nat} {ls : Array Slot} {rest : List Value} {E : kE} {σ ω σ1 : kS} {nL index : Nat} {own : String} (S : CallFix p m c cc nL s args kBIG own) (hw : kWS E s (cmb σ ω) H locs) (cw : kSt own index yX4_swap cX4_swap 4 none 3) (hR : 0 + 1 ≤ R.frames ∧ 8 + (4 + 11) + 40 * 0 ≤ R.locals) {q0 : Nat} {a1 : Int32} {a2 : Int32} (hq0 : xA q0 6) (hF : fX4_swap q0 a1 a2 σ = some σ1) (hls : ls.size = nL) (hW : (rest.map fun v => v.category).sum ≤ 8) (hdg : decode cc pc = .ok (.invokestatic index, 3)) (kk : ∀ (H1 : Heap) (locs1 : List Loc), kWS E s (cmb σ1 ω) H1 locs1 → W p l e R s m args below meth c H1 locs1 cells slots Q (F0 m (pc + 3) ls rest)) (hf : cells ≤ R.cells ∧ slots ≤ R.slots := by exact ⟨Nat.le_of_ble_eq_true rfl, Nat.le_of_ble_eq_true rfl⟩) : W p l e R s m args below meth c H locs cells slots Q (F0 m pc ls (.int a2 :: .int a1 :: .ref (ead E q0) :: rest)) := kr_callv hw (kr_runS (As := [.ref (ead E q0), .int a1, .int a2]) S hw ((mX4_swap (l := l) (E := E) (ω := ω) hq0 hF) H.size) cw hR rfl hls _ rfl hW hdg hf) kk
