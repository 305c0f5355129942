/-! X8_changed -/
def fX8_changed_b95 (h : HH) (r : RR) (p0 : Nat) (a1 : Int32) (a2 : Int32) (s0 : Int32) : Option (Int32) := gd (inb a1 (lnM (r p0 6))) (gd (inb a2 (lnM (r (r p0 6) (ix a1)))) (gd (inb 2 (lnM (r p0 6))) (gd (inb a2 (lnM (r (r p0 6) (ix 2)))) (if (h (r (r p0 6) (ix a1)) (ix a2)) = (h (r (r p0 6) (ix 2)) (ix a2)) then (some (s0 ||| 0)) else (some (s0 ||| 8))))))
def fX8_changed_b90 (h : HH) (r : RR) (p0 : Nat) (a1 : Int32) (a2 : Int32) : Option (Int32) := fX8_changed_b95 h r p0 a1 a2 4
def fX8_changed (h : HH) (r : RR) (p0 : Nat) (a1 : Int32) (a2 : Int32) : Option (Int32) := gd (inb a2 (lnM (r p0 25))) (if (h (r p0 25) (ix a2)) = 0 then (gd (inb 2 (lnM (r p0 3))) (gd (inb a2 (lnM (r (r p0 3) (ix 2)))) (if ¬ (h (r (r p0 3) (ix 2)) (ix a2)) = 0 then (gd (inb a1 (lnM (r p0 3))) (gd (inb a2 (lnM (r (r p0 3) (ix a1)))) (if ¬ (h (r (r p0 3) (ix a1)) (ix a2)) = 0 then (gd (inb a1 (lnM (r p0 4))) (gd (inb a2 (lnM (r (r p0 4) (ix a1)))) (gd (inb 2 (lnM (r p0 4))) (gd (inb a2 (lnM (r (r p0 4) (ix 2)))) (if ¬ (h (r (r p0 4) (ix a1)) (ix a2)) = (h (r (r p0 4) (ix 2)) (ix a2)) then (fX8_changed_b90 h r p0 a1 a2) else (gd (inb a1 (lnM (r p0 5))) (gd (inb a2 (lnM (r (r p0 5) (ix a1)))) (gd (inb 2 (lnM (r p0 5))) (gd (inb a2 (lnM (r (r p0 5) (ix 2)))) (if (h (r (r p0 5) (ix a1)) (ix a2)) = (h (r (r p0 5) (ix 2)) (ix a2)) then (fX8_changed_b95 h r p0 a1 a2 0) else (fX8_changed_b90 h r p0 a1 a2))))))))))) else (some (2))))) else (gd (inb a1 (lnM (r p0 3))) (gd (inb a2 (lnM (r (r p0 3) (ix a1)))) (if (h (r (r p0 3) (ix a1)) (ix a2)) = 0 then (some (0)) else (some (1)))))))) else (some (0)))
set_option maxRecDepth 100000 in
set_option maxHeartbeats 4000000 in
theorem kX8_changed_b95 {X : XT} {b N sz : Nat} {ok : Nat → Prop} {h : HH} {r : RR} {w : Int32} (hX : XOK X RX8 cX8_changed 3 1) (hM : N ≤ MM) (hW : WT KM lnM ok N r) (p0 : Nat) (a1 : Int32) (a2 : Int32) (t0 : KM p0 = 8 ∧ ok p0) (hR : XR X b KM lnM MM (some FieldType.int) 0 0 N sz (some (.int w)) h r) (s0 : Int32) (hF : fX8_changed_b95 h r p0 a1 a2 s0 = some w) : GX X b KM lnM MM 3 0 0 N sz 95 [(0, .ref (b + p0)), (1, .int a1), (2, .int a2)] [.int s0] h r := by
  rw [fX8_changed_b95] at hF
  refine g_aload_n hX dX8_changed_95 (i := 0) rfl (j := 0) rfl ?_
  have tf96 := (tyF (k := 6) hW t0 (by decide) rfl (by decide) : KM (r p0 6) = 14 ∧ ok (r p0 6))
  refine gf_X8_26 hX dX8_changed_96 (ty1 hW t0) (hW.1 _ tf96.2).1 ?_
  refine g_iload_n hX dX8_changed_99 (i := 1) rfl (j := 1) rfl ?_
  obtain ⟨g100, hF⟩ := gd_some hF
  have ta100 : KM (r (r p0 6) (ix a1)) = 9 ∧ ok (r (r p0 6) (ix a1)) := tyA hW tf96 (by decide) rfl (by decide) g100
  refine g_aald hX dX8_changed_100 tf96.1 (by decide) (by decide) (hW.1 _ tf96.2).1 (hW.1 _ tf96.2).2 g100 (hW.1 _ ta100.2).1 ?_
  refine g_iload_n hX dX8_changed_101 (i := 2) rfl (j := 2) rfl ?_
  obtain ⟨g102, hF⟩ := gd_some hF
  refine g_iald hX dX8_changed_102 ta100.1 (hW.1 _ ta100.2).1 (hW.1 _ ta100.2).2 g102 ?_
  refine g_aload_n hX dX8_changed_103 (i := 0) rfl (j := 0) rfl ?_
  have tf104 := (tyF (k := 6) hW t0 (by decide) rfl (by decide) : KM (r p0 6) = 14 ∧ ok (r p0 6))
  refine gf_X8_26 hX dX8_changed_104 (ty1 hW t0) (hW.1 _ tf104.2).1 ?_
  refine g_iconst (v := 2) hX dX8_changed_107 (by decide) ?_
  obtain ⟨g108, hF⟩ := gd_some hF
  have ta108 : KM (r (r p0 6) (ix 2)) = 9 ∧ ok (r (r p0 6) (ix 2)) := tyA hW tf104 (by decide) rfl (by decide) g108
  refine g_aald hX dX8_changed_108 tf104.1 (by decide) (by decide) (hW.1 _ tf104.2).1 (hW.1 _ tf104.2).2 g108 (hW.1 _ ta108.2).1 ?_
  refine g_iload_n hX dX8_changed_109 (i := 2) rfl (j := 2) rfl ?_
  obtain ⟨g110, hF⟩ := gd_some hF
  refine g_iald hX dX8_changed_110 ta108.1 (hW.1 _ ta108.2).1 (hW.1 _ ta108.2).2 g110 ?_
  refine g_icmp_eq (tgt := 119) hX dX8_changed_111 (by decide) (fun c111 => ?_) (fun c111 => ?_)
  · have hF := ite_t hF c111
    refine g_iconst (v := 0) hX dX8_changed_119 (by decide) ?_
    refine g_ior hX dX8_changed_120 ?_
    obtain rfl := Option.some.inj hF
    exact g_iret hX dX8_changed_121 hR
  · have hF := ite_f hF c111
    refine g_bipush (v := 8) hX dX8_changed_114 (by decide) ?_
    refine g_goto (tgt := 120) hX dX8_changed_116 (by decide) ?_
    refine g_ior hX dX8_changed_120 ?_
    obtain rfl := Option.some.inj hF
    exact g_iret hX dX8_changed_121 hR
set_option maxRecDepth 100000 in
set_option maxHeartbeats 4000000 in
theorem kX8_changed_b90 {X : XT} {b N sz : Nat} {ok : Nat → Prop} {h : HH} {r : RR} {w : Int32} (hX : XOK X RX8 cX8_changed 3 1) (hM : N ≤ MM) (hW : WT KM lnM ok N r) (p0 : Nat) (a1 : Int32) (a2 : Int32) (t0 : KM p0 = 8 ∧ ok p0) (hR : XR X b KM lnM MM (some FieldType.int) 0 0 N sz (some (.int w)) h r) (hF : fX8_changed_b90 h r p0 a1 a2 = some w) : GX X b KM lnM MM 3 0 0 N sz 90 [(0, .ref (b + p0)), (1, .int a1), (2, .int a2)] [] h r := by
  rw [fX8_changed_b90] at hF
  refine g_iconst (v := 4) hX dX8_changed_90 (by decide) ?_
  refine g_goto (tgt := 95) hX dX8_changed_91 (by decide) ?_
  refine g_sub (L' := [(0, .ref (b + p0)), (1, .int a1), (2, .int a2)]) [0, 1, 2] rfl ?_
  exact kX8_changed_b95 hX hM hW p0 a1 a2 t0 hR 4 hF
set_option maxRecDepth 100000 in
set_option maxHeartbeats 4000000 in
theorem kX8_changed {X : XT} {b N sz : Nat} {ok : Nat → Prop} {h : HH} {r : RR} {w : Int32} (hX : XOK X RX8 cX8_changed 3 1) (hM : N ≤ MM) (hW : WT KM lnM ok N r) (p0 : Nat) (a1 : Int32) (a2 : Int32) (t0 : KM p0 = 8 ∧ ok p0) (hR : XR X b KM lnM MM (some FieldType.int) 0 0 N sz (some (.int w)) h r) (hF : fX8_changed h r p0 a1 a2 = some w) : GX X b KM lnM MM 3 0 0 N sz 0 [(0, .ref (b + p0)), (1, .int a1), (2, .int a2)] [] h r := by
  rw [fX8_changed] at hF
  refine g_aload_n hX dX8_changed_0 (i := 0) rfl (j := 0) rfl ?_
  have tf1 := (tyF (k := 25) hW t0 (by decide) rfl (by decide) : KM (r p0 25) = 10 ∧ ok (r p0 25))
  refine gf_X8_55 hX dX8_changed_1 (ty1 hW t0) (hW.1 _ tf1.2).1 ?_
  refine g_iload_n hX dX8_changed_4 (i := 2) rfl (j := 2) rfl ?_
  obtain ⟨g5, hF⟩ := gd_some hF
  refine g_bald hX dX8_changed_5 tf1.1 (hW.1 _ tf1.2).1 (hW.1 _ tf1.2).2 g5 ?_
  refine g_if_eq (tgt := 11) hX dX8_changed_6 (by decide) (fun c6 => ?_) (fun c6 => ?_)
  · have hF := ite_t hF c6
    refine g_aload_n hX dX8_changed_11 (i := 0) rfl (j := 0) rfl ?_
    have tf12 := (tyF (k := 3) hW t0 (by decide) rfl (by decide) : KM (r p0 3) = 15 ∧ ok (r p0 3))
    refine gf_X8_15 hX dX8_changed_12 (ty1 hW t0) (hW.1 _ tf12.2).1 ?_
    refine g_iconst (v := 2) hX dX8_changed_15 (by decide) ?_
    obtain ⟨g16, hF⟩ := gd_some hF
    have ta16 : KM (r (r p0 3) (ix 2)) = 10 ∧ ok (r (r p0 3) (ix 2)) := tyA hW tf12 (by decide) rfl (by decide) g16
    refine g_aald hX dX8_changed_16 tf12.1 (by decide) (by decide) (hW.1 _ tf12.2).1 (hW.1 _ tf12.2).2 g16 (hW.1 _ ta16.2).1 ?_
    refine g_iload_n hX dX8_changed_17 (i := 2) rfl (j := 2) rfl ?_
    obtain ⟨g18, hF⟩ := gd_some hF
    refine g_bald hX dX8_changed_18 ta16.1 (hW.1 _ ta16.2).1 (hW.1 _ ta16.2).2 g18 ?_
    refine g_if_ne (tgt := 39) hX dX8_changed_19 (by decide) (fun c19 => ?_) (fun c19 => ?_)
    · have hF := ite_t hF c19
      refine g_aload_n hX dX8_changed_39 (i := 0) rfl (j := 0) rfl ?_
      have tf40 := (tyF (k := 3) hW t0 (by decide) rfl (by decide) : KM (r p0 3) = 15 ∧ ok (r p0 3))
      refine gf_X8_15 hX dX8_changed_40 (ty1 hW t0) (hW.1 _ tf40.2).1 ?_
      refine g_iload_n hX dX8_changed_43 (i := 1) rfl (j := 1) rfl ?_
      obtain ⟨g44, hF⟩ := gd_some hF
      have ta44 : KM (r (r p0 3) (ix a1)) = 10 ∧ ok (r (r p0 3) (ix a1)) := tyA hW tf40 (by decide) rfl (by decide) g44
      refine g_aald hX dX8_changed_44 tf40.1 (by decide) (by decide) (hW.1 _ tf40.2).1 (hW.1 _ tf40.2).2 g44 (hW.1 _ ta44.2).1 ?_
      refine g_iload_n hX dX8_changed_45 (i := 2) rfl (j := 2) rfl ?_
      obtain ⟨g46, hF⟩ := gd_some hF
      refine g_bald hX dX8_changed_46 ta44.1 (hW.1 _ ta44.2).1 (hW.1 _ ta44.2).2 g46 ?_
      refine g_if_ne (tgt := 52) hX dX8_changed_47 (by decide) (fun c47 => ?_) (fun c47 => ?_)
      · have hF := ite_t hF c47
        refine g_aload_n hX dX8_changed_52 (i := 0) rfl (j := 0) rfl ?_
        have tf53 := (tyF (k := 4) hW t0 (by decide) rfl (by decide) : KM (r p0 4) = 14 ∧ ok (r p0 4))
        refine gf_X8_20 hX dX8_changed_53 (ty1 hW t0) (hW.1 _ tf53.2).1 ?_
        refine g_iload_n hX dX8_changed_56 (i := 1) rfl (j := 1) rfl ?_
        obtain ⟨g57, hF⟩ := gd_some hF
        have ta57 : KM (r (r p0 4) (ix a1)) = 9 ∧ ok (r (r p0 4) (ix a1)) := tyA hW tf53 (by decide) rfl (by decide) g57
        refine g_aald hX dX8_changed_57 tf53.1 (by decide) (by decide) (hW.1 _ tf53.2).1 (hW.1 _ tf53.2).2 g57 (hW.1 _ ta57.2).1 ?_
        refine g_iload_n hX dX8_changed_58 (i := 2) rfl (j := 2) rfl ?_
        obtain ⟨g59, hF⟩ := gd_some hF
        refine g_iald hX dX8_changed_59 ta57.1 (hW.1 _ ta57.2).1 (hW.1 _ ta57.2).2 g59 ?_
        refine g_aload_n hX dX8_changed_60 (i := 0) rfl (j := 0) rfl ?_
        have tf61 := (tyF (k := 4) hW t0 (by decide) rfl (by decide) : KM (r p0 4) = 14 ∧ ok (r p0 4))
        refine gf_X8_20 hX dX8_changed_61 (ty1 hW t0) (hW.1 _ tf61.2).1 ?_
        refine g_iconst (v := 2) hX dX8_changed_64 (by decide) ?_
        obtain ⟨g65, hF⟩ := gd_some hF
        have ta65 : KM (r (r p0 4) (ix 2)) = 9 ∧ ok (r (r p0 4) (ix 2)) := tyA hW tf61 (by decide) rfl (by decide) g65
        refine g_aald hX dX8_changed_65 tf61.1 (by decide) (by decide) (hW.1 _ tf61.2).1 (hW.1 _ tf61.2).2 g65 (hW.1 _ ta65.2).1 ?_
        refine g_iload_n hX dX8_changed_66 (i := 2) rfl (j := 2) rfl ?_
        obtain ⟨g67, hF⟩ := gd_some hF
        refine g_iald hX dX8_changed_67 ta65.1 (hW.1 _ ta65.2).1 (hW.1 _ ta65.2).2 g67 ?_
        refine g_icmp_ne (tgt := 90) hX dX8_changed_68 (by decide) (fun c68 => ?_) (fun c68 => ?_)
        · have hF := ite_t hF c68
          refine g_sub (L' := [(0, .ref (b + p0)), (1, .int a1), (2, .int a2)]) [0, 1, 2] rfl ?_
          exact kX8_changed_b90 hX hM hW p0 a1 a2 t0 hR hF
        · have hF := ite_f hF (fun z => z c68)
          refine g_aload_n hX dX8_changed_71 (i := 0) rfl (j := 0) rfl ?_
          have tf72 := (tyF (k := 5) hW t0 (by decide) rfl (by decide) : KM (r p0 5) = 14 ∧ ok (r p0 5))
          refine gf_X8_23 hX dX8_changed_72 (ty1 hW t0) (hW.1 _ tf72.2).1 ?_
          refine g_iload_n hX dX8_changed_75 (i := 1) rfl (j := 1) rfl ?_
          obtain ⟨g76, hF⟩ := gd_some hF
          have ta76 : KM (r (r p0 5) (ix a1)) = 9 ∧ ok (r (r p0 5) (ix a1)) := tyA hW tf72 (by decide) rfl (by decide) g76
          refine g_aald hX dX8_changed_76 tf72.1 (by decide) (by decide) (hW.1 _ tf72.2).1 (hW.1 _ tf72.2).2 g76 (hW.1 _ ta76.2).1 ?_
          refine g_iload_n hX dX8_changed_77 (i := 2) rfl (j := 2) rfl ?_
          obtain ⟨g78, hF⟩ := gd_some hF
          refine g_iald hX dX8_changed_78 ta76.1 (hW.1 _ ta76.2).1 (hW.1 _ ta76.2).2 g78 ?_
          refine g_aload_n hX dX8_changed_79 (i := 0) rfl (j := 0) rfl ?_
          have tf80 := (tyF (k := 5) hW t0 (by decide) rfl (by decide) : KM (r p0 5) = 14 ∧ ok (r p0 5))
          refine gf_X8_23 hX dX8_changed_80 (ty1 hW t0) (hW.1 _ tf80.2).1 ?_
          refine g_iconst (v := 2) hX dX8_changed_83 (by decide) ?_
          obtain ⟨g84, hF⟩ := gd_some hF
          have ta84 : KM (r (r p0 5) (ix 2)) = 9 ∧ ok (r (r p0 5) (ix 2)) := tyA hW tf80 (by decide) rfl (by decide) g84
          refine g_aald hX dX8_changed_84 tf80.1 (by decide) (by decide) (hW.1 _ tf80.2).1 (hW.1 _ tf80.2).2 g84 (hW.1 _ ta84.2).1 ?_
          refine g_iload_n hX dX8_changed_85 (i := 2) rfl (j := 2) rfl ?_
          obtain ⟨g86, hF⟩ := gd_some hF
          refine g_iald hX dX8_changed_86 ta84.1 (hW.1 _ ta84.2).1 (hW.1 _ ta84.2).2 g86 ?_
          refine g_icmp_eq (tgt := 94) hX dX8_changed_87 (by decide) (fun c87 => ?_) (fun c87 => ?_)
          · have hF := ite_t hF c87
            refine g_iconst (v := 0) hX dX8_changed_94 (by decide) ?_
            refine g_sub (L' := [(0, .ref (b + p0)), (1, .int a1), (2, .int a2)]) [0, 1, 2] rfl ?_
            exact kX8_changed_b95 hX hM hW p0 a1 a2 t0 hR 0 hF
          · have hF := ite_f hF c87
            refine g_sub (L' := [(0, .ref (b + p0)), (1, .int a1), (2, .int a2)]) [0, 1, 2] rfl ?_
            exact kX8_changed_b90 hX hM hW p0 a1 a2 t0 hR hF
      · have hF := ite_f hF (fun z => z c47)
        refine g_iconst (v := 2) hX dX8_changed_50 (by decide) ?_
        obtain rfl := Option.some.inj hF
        exact g_iret hX dX8_changed_51 hR
    · have hF := ite_f hF (fun z => z c19)
      refine g_aload_n hX dX8_changed_22 (i := 0) rfl (j := 0) rfl ?_
      have tf23 := (tyF (k := 3) hW t0 (by decide) rfl (by decide) : KM (r p0 3) = 15 ∧ ok (r p0 3))
      refine gf_X8_15 hX dX8_changed_23 (ty1 hW t0) (hW.1 _ tf23.2).1 ?_
      refine g_iload_n hX dX8_changed_26 (i := 1) rfl (j := 1) rfl ?_
      obtain ⟨g27, hF⟩ := gd_some hF
      have ta27 : KM (r (r p0 3) (ix a1)) = 10 ∧ ok (r (r p0 3) (ix a1)) := tyA hW tf23 (by decide) rfl (by decide) g27
      refine g_aald hX dX8_changed_27 tf23.1 (by decide) (by decide) (hW.1 _ tf23.2).1 (hW.1 _ tf23.2).2 g27 (hW.1 _ ta27.2).1 ?_
      refine g_iload_n hX dX8_changed_28 (i := 2) rfl (j := 2) rfl ?_
      obtain ⟨g29, hF⟩ := gd_some hF
      refine g_bald hX dX8_changed_29 ta27.1 (hW.1 _ ta27.2).1 (hW.1 _ ta27.2).2 g29 ?_
      refine g_if_eq (tgt := 37) hX dX8_changed_30 (by decide) (fun c30 => ?_) (fun c30 => ?_)
      · have hF := ite_t hF c30
        refine g_iconst (v := 0) hX dX8_changed_37 (by decide) ?_
        obtain rfl := Option.some.inj hF
        exact g_iret hX dX8_changed_38 hR
      · have hF := ite_f hF c30
        refine g_iconst (v := 1) hX dX8_changed_33 (by decide) ?_
        refine g_goto (tgt := 38) hX dX8_changed_34 (by decide) ?_
        obtain rfl := Option.some.inj hF
        exact g_iret hX dX8_changed_38 hR
  · have hF := ite_f hF c6
    refine g_iconst (v := 0) hX dX8_changed_9 (by decide) ?_
    obtain rfl := Option.some.inj hF
    exact g_iret hX dX8_changed_10 hR
theorem ctX8_changed {b N sz : Nat} {ok : Nat → Prop} {h : HH} {r : RR} {w : Int32} (hM : N ≤ MM) (hW : WT KM lnM ok N r) (p0 : Nat) (a1 : Int32) (a2 : Int32) (t0 : KM p0 = 8 ∧ ok p0) (hF : fX8_changed h r p0 a1 a2 = some w) : CT yX8_changed cX8_changed 3 (some FieldType.int) 1 b KM lnM MM N sz [.ref (b + p0), .int a1, .int a2] h r N sz (some (.int w)) h r 0 0 :=
  CT_of (by decide) rfl (Nat.le_of_ble_eq_true rfl) (by decide) trivial (fun X hX hR => kX8_changed hX hM hW p0 a1 a2 t0 hR hF)
/-! X8_told -/
def fX8_told_b223 (r : RR) (p0 : Nat) (a1 : Int32) (a2 : Int32) (a3 : Int32) (h : HH) : Option (Int32 × HH) := some (0, h)
def fX8_told (h : HH) (r : RR) (p0 : Nat) (a1 : Int32) (a2 : Int32) (a3 : Int32) : Option (Int32 × HH) := (fX8_isPlace h r a1).bind (fun v1 => if v1 = 0 then (some ((-2), h)) else ((fX8_isThing h r p0 a2).bind (fun v9 => if v9 = 0 then (some ((-2), h)) else ((fX8_in h r a3 0 9).bind (fun v19 => if ¬ v19 = 0 then (gd (inb a1 (lnM (r p0 3))) (gd (inb a2 (lnM (r (r p0 3) (ix a1)))) (lt (h (r (r p0 3) (ix a1)) (ix a2)) (fun y36 => if a3 = 0 then (if y36 = 0 then (some (0, h)) else (some (1, h))) else (if a3 = 1 then (if y36 = 0 then (some ((-1), h)) else (gd (inb a1 (lnM (r p0 4))) (gd (inb a2 (lnM (r (r p0 4) (ix a1)))) (some (h (r (r p0 4) (ix a1)) (ix a2), h))))) else (if a3 = 2 then (if y36 = 0 then (some ((-1), h)) else (gd (inb a1 (lnM (r p0 5))) (gd (inb a2 (lnM (r (r p0 5) (ix a1)))) (some (h (r (r p0 5) (ix a1)) (ix a2), h))))) else (if a3 = 3 then (if y36 = 0 then (some ((-1), h)) else (gd (inb a1 (lnM (r p0 6))) (gd (inb a2 (lnM (r (r p0 6) (ix a1)))) (some (h (r (r p0 6) (ix a1)) (ix a2), h))))) else (if a3 = 4 then (if y36 = 0 then (some (0, h)) else ((fX8_inners h r p0 a1 a2).bind (fun v161 => some (v161, h)))) else (if a3 = 5 then (if y36 = 0 then (some ((-1), h)) else ((fX8_deep h r p0 a1 a2).bind (fun v177 => some (v177, h)))) else (if a3 = 6 then ((fX8_ignore h r p0).bind (fun h186 => if ¬ a1 = 2 then ((fX8_changed h186 r p0 a1 a2).bind (fun v201 => some (v201, h186))) else (some (0, h186)))) else (if a3 = 7 then (if y36 = 0 then (fX8_told_b223 r p0 a1 a2 a3 h) else (bi2 (fX8_isIgnoredOn h r p0 a1 a2) (fun v213 h213 => if v213 = 0 then (fX8_told_b223 r p0 a1 a2 a3 h213) else (some (1, h213))))) else (if a3 = 8 then ((fX8_ignore h r p0).bind (fun h226 => gd (inb a2 (lnM (r p0 25))) (if (h226 (r p0 25) (ix a2)) = 0 then (some (0, h226)) else (some (1, h226))))) else (gd (inb a2 (lnM (r p0 2))) (if (h (r p0 2) (ix a2)) = 0 then (some (0, h)) else (some (1, h)))))))))))))))) else (some ((-2), h)))))))
set_option maxRecDepth 100000 in
set_option maxHeartbeats 4000000 in
theorem kX8_told_b223 {X : XT} {b N sz : Nat} {ok : Nat → Prop} {r : RR} {w : Int32 × HH} (hX : XOK X RX8 cX8_told 5 5) (hM : N ≤ MM) (hW : WT KM lnM ok N r) (p0 : Nat) (a1 : Int32) (a2 : Int32) (a3 : Int32) (t0 : KM p0 = 8 ∧ ok p0) (hR : XR X b KM lnM MM (some FieldType.int) 0 0 N sz (some (.int w.1)) w.2 r) (h : HH) (hF : fX8_told_b223 r p0 a1 a2 a3 h = some w) : GX X b KM lnM MM 5 0 0 N sz 223 [(0, .ref (b + p0)), (1, .int a1), (2, .int a2), (3, .int a3)] [] h r := by
  rw [fX8_told_b223] at hF
  refine g_iconst (v := 0) hX dX8_told_223 (by decide) ?_
  obtain rfl := Option.some.inj hF
  exact g_iret hX dX8_told_224 hR
set_option maxRecDepth 100000 in
set_option maxHeartbeats 4000000 in
theorem kX8_told {X : XT} {b N sz : Nat} {ok : Nat → Prop} {h : HH} {r : RR} {w : Int32 × HH} (hX : XOK X RX8 cX8_told 5 5) (hM : N ≤ MM) (hW : WT KM lnM ok N r) (p0 : Nat) (a1 : Int32) (a2 : Int32) (a3 : Int32) (t0 : KM p0 = 8 ∧ ok p0) (hR : XR X b KM lnM MM (some FieldType.int) 0 0 N sz (some (.int w.1)) w.2 r) (hF : fX8_told h r p0 a1 a2 a3 = some w) : GX X b KM lnM MM 5 0 0 N sz 0 [(0, .ref (b + p0)), (1, .int a1), (2, .int a2), (3, .int a3)] [] h r := by
  rw [fX8_told] at hF
  refine g_iload_n hX dX8_told_0 (i := 1) rfl (j := 1) rfl ?_
  obtain ⟨v1, e1, hF⟩ := bi_some hF
  refine g_callS (As := [.int a1]) (rest := []) (stk := [.int v1]) hX dX8_told_1 (ctX8_isPlace hM hW a1 e1) (by decide) (by decide) wm_X8_187 wt_X8_isPlace wz_X8 wc_X8_isPlace hyX8_isPlace rfl (Nat.le_of_ble_eq_true rfl) rfl rfl ?_ rfl rfl
  refine g_if_eq (tgt := 25) hX dX8_told_4 (by decide) (fun c4 => ?_) (fun c4 => ?_)
  · have hF := ite_t hF c4
    refine g_bipush (v := (-2)) hX dX8_told_25 (by decide) ?_
    obtain rfl := Option.some.inj hF
    exact g_iret hX dX8_told_27 hR
  · have hF := ite_f hF c4
    refine g_aload_n hX dX8_told_7 (i := 0) rfl (j := 0) rfl ?_
    refine g_iload_n hX dX8_told_8 (i := 2) rfl (j := 2) rfl ?_
    obtain ⟨v9, e9, hF⟩ := bi_some hF
    refine g_callV (As := [.int a2]) (rest := []) (stk := [.int v9]) hX dX8_told_9 (ctX8_isThing hM hW p0 a2 t0 e9) (by decide) (by decide) wm_X8_137 wi_X8_isThing ws_X8_isThing wz_X8 wc_X8_isThing hyX8_isThing rfl (ci := 8) rfl (by decide) t0.1 (hW.1 _ t0.2).1 (hW.1 _ t0.2).2 (Nat.le_of_ble_eq_true rfl) rfl rfl ?_ rfl rfl
    refine g_if_eq (tgt := 25) hX dX8_told_12 (by decide) (fun c12 => ?_) (fun c12 => ?_)
    · have hF := ite_t hF c12
      refine g_bipush (v := (-2)) hX dX8_told_25 (by decide) ?_
      obtain rfl := Option.some.inj hF
      exact g_iret hX dX8_told_27 hR
    · have hF := ite_f hF c12
      refine g_iload_n hX dX8_told_15 (i := 3) rfl (j := 3) rfl ?_
      refine g_iconst (v := 0) hX dX8_told_16 (by decide) ?_
      refine g_bipush (v := 9) hX dX8_told_17 (by decide) ?_
      obtain ⟨v19, e19, hF⟩ := bi_some hF
      refine g_callS (As := [.int a3, .int 0, .int 9]) (rest := []) (stk := [.int v19]) hX dX8_told_19 (ctX8_in hM hW a3 0 9 e19) (by decide) (by decide) wm_X8_133 wt_X8_in wz_X8 wc_X8_in hyX8_in rfl (Nat.le_of_ble_eq_true rfl) rfl rfl ?_ rfl rfl
      refine g_if_ne (tgt := 28) hX dX8_told_22 (by decide) (fun c22 => ?_) (fun c22 => ?_)
      · have hF := ite_t hF c22
        refine g_aload_n hX dX8_told_28 (i := 0) rfl (j := 0) rfl ?_
        have tf29 := (tyF (k := 3) hW t0 (by decide) rfl (by decide) : KM (r p0 3) = 15 ∧ ok (r p0 3))
        refine gf_X8_15 hX dX8_told_29 (ty1 hW t0) (hW.1 _ tf29.2).1 ?_
        refine g_iload_n hX dX8_told_32 (i := 1) rfl (j := 1) rfl ?_
        obtain ⟨g33, hF⟩ := gd_some hF
        have ta33 : KM (r (r p0 3) (ix a1)) = 10 ∧ ok (r (r p0 3) (ix a1)) := tyA hW tf29 (by decide) rfl (by decide) g33
        refine g_aald hX dX8_told_33 tf29.1 (by decide) (by decide) (hW.1 _ tf29.2).1 (hW.1 _ tf29.2).2 g33 (hW.1 _ ta33.2).1 ?_
        refine g_iload_n hX dX8_told_34 (i := 2) rfl (j := 2) rfl ?_
        obtain ⟨g35, hF⟩ := gd_some hF
        refine g_bald hX dX8_told_35 ta33.1 (hW.1 _ ta33.2).1 (hW.1 _ ta33.2).2 g35 ?_
        obtain ⟨y36, e36, hF⟩ := lt_some hF
        refine g_topi e36 ?_
        refine g_istore (L' := [(4, .int y36), (0, .ref (b + p0)), (1, .int a1), (2, .int a2), (3, .int a3)]) hX dX8_told_36 (by decide) rfl ?_
        refine g_iload_n hX dX8_told_38 (i := 3) rfl (j := 4) rfl ?_
        by_cases c39_0 : a3 = 0
        · have hF := ite_t hF c39_0
          refine g_tin (tgt := 88) hX dX8_told_39 c39_0 (by decide) (by decide) rfl (by decide) ?_
          refine g_iload hX dX8_told_88 (j := 0) rfl ?_
          refine g_if_eq (tgt := 97) hX dX8_told_90 (by decide) (fun c90 => ?_) (fun c90 => ?_)
          · have hF := ite_t hF c90
            refine g_iconst (v := 0) hX dX8_told_97 (by decide) ?_
            obtain rfl := Option.some.inj hF
            exact g_iret hX dX8_told_98 hR
          · have hF := ite_f hF c90
            refine g_iconst (v := 1) hX dX8_told_93 (by decide) ?_
            refine g_goto (tgt := 98) hX dX8_told_94 (by decide) ?_
            obtain rfl := Option.some.inj hF
            exact g_iret hX dX8_told_98 hR
        have hF := ite_f hF c39_0
        by_cases c39_1 : a3 = 1
        · have hF := ite_t hF c39_1
          refine g_tin (tgt := 99) hX dX8_told_39 c39_1 (by decide) (by decide) rfl (by decide) ?_
          refine g_iload hX dX8_told_99 (j := 0) rfl ?_
          refine g_if_eq (tgt := 115) hX dX8_told_101 (by decide) (fun c101 => ?_) (fun c101 => ?_)
          · have hF := ite_t hF c101
            refine g_iconst (v := (-1)) hX dX8_told_115 (by decide) ?_
            obtain rfl := Option.some.inj hF
            exact g_iret hX dX8_told_116 hR
          · have hF := ite_f hF c101
            refine g_aload_n hX dX8_told_104 (i := 0) rfl (j := 1) rfl ?_
            have tf105 := (tyF (k := 4) hW t0 (by decide) rfl (by decide) : KM (r p0 4) = 14 ∧ ok (r p0 4))
            refine gf_X8_20 hX dX8_told_105 (ty1 hW t0) (hW.1 _ tf105.2).1 ?_
            refine g_iload_n hX dX8_told_108 (i := 1) rfl (j := 2) rfl ?_
            obtain ⟨g109, hF⟩ := gd_some hF
            have ta109 : KM (r (r p0 4) (ix a1)) = 9 ∧ ok (r (r p0 4) (ix a1)) := tyA hW tf105 (by decide) rfl (by decide) g109
            refine g_aald hX dX8_told_109 tf105.1 (by decide) (by decide) (hW.1 _ tf105.2).1 (hW.1 _ tf105.2).2 g109 (hW.1 _ ta109.2).1 ?_
            refine g_iload_n hX dX8_told_110 (i := 2) rfl (j := 3) rfl ?_
            obtain ⟨g111, hF⟩ := gd_some hF
            refine g_iald hX dX8_told_111 ta109.1 (hW.1 _ ta109.2).1 (hW.1 _ ta109.2).2 g111 ?_
            refine g_goto (tgt := 116) hX dX8_told_112 (by decide) ?_
            obtain rfl := Option.some.inj hF
            exact g_iret hX dX8_told_116 hR
        have hF := ite_f hF c39_1
        by_cases c39_2 : a3 = 2
        · have hF := ite_t hF c39_2
          refine g_tin (tgt := 117) hX dX8_told_39 c39_2 (by decide) (by decide) rfl (by decide) ?_
          refine g_iload hX dX8_told_117 (j := 0) rfl ?_
          refine g_if_eq (tgt := 133) hX dX8_told_119 (by decide) (fun c119 => ?_) (fun c119 => ?_)
          · have hF := ite_t hF c119
            refine g_iconst (v := (-1)) hX dX8_told_133 (by decide) ?_
            obtain rfl := Option.some.inj hF
            exact g_iret hX dX8_told_134 hR
          · have hF := ite_f hF c119
            refine g_aload_n hX dX8_told_122 (i := 0) rfl (j := 1) rfl ?_
            have tf123 := (tyF (k := 5) hW t0 (by decide) rfl (by decide) : KM (r p0 5) = 14 ∧ ok (r p0 5))
            refine gf_X8_23 hX dX8_told_123 (ty1 hW t0) (hW.1 _ tf123.2).1 ?_
            refine g_iload_n hX dX8_told_126 (i := 1) rfl (j := 2) rfl ?_
            obtain ⟨g127, hF⟩ := gd_some hF
            have ta127 : KM (r (r p0 5) (ix a1)) = 9 ∧ ok (r (r p0 5) (ix a1)) := tyA hW tf123 (by decide) rfl (by decide) g127
            refine g_aald hX dX8_told_127 tf123.1 (by decide) (by decide) (hW.1 _ tf123.2).1 (hW.1 _ tf123.2).2 g127 (hW.1 _ ta127.2).1 ?_
            refine g_iload_n hX dX8_told_128 (i := 2) rfl (j := 3) rfl ?_
            obtain ⟨g129, hF⟩ := gd_some hF
            refine g_iald hX dX8_told_129 ta127.1 (hW.1 _ ta127.2).1 (hW.1 _ ta127.2).2 g129 ?_
            refine g_goto (tgt := 134) hX dX8_told_130 (by decide) ?_
            obtain rfl := Option.some.inj hF
            exact g_iret hX dX8_told_134 hR
        have hF := ite_f hF c39_2
        by_cases c39_3 : a3 = 3
        · have hF := ite_t hF c39_3
          refine g_tin (tgt := 135) hX dX8_told_39 c39_3 (by decide) (by decide) rfl (by decide) ?_
          refine g_iload hX dX8_told_135 (j := 0) rfl ?_
          refine g_if_eq (tgt := 151) hX dX8_told_137 (by decide) (fun c137 => ?_) (fun c137 => ?_)
          · have hF := ite_t hF c137
            refine g_iconst (v := (-1)) hX dX8_told_151 (by decide) ?_
            obtain rfl := Option.some.inj hF
            exact g_iret hX dX8_told_152 hR
          · have hF := ite_f hF c137
            refine g_aload_n hX dX8_told_140 (i := 0) rfl (j := 1) rfl ?_
            have tf141 := (tyF (k := 6) hW t0 (by decide) rfl (by decide) : KM (r p0 6) = 14 ∧ ok (r p0 6))
            refine gf_X8_26 hX dX8_told_141 (ty1 hW t0) (hW.1 _ tf141.2).1 ?_
            refine g_iload_n hX dX8_told_144 (i := 1) rfl (j := 2) rfl ?_
            obtain ⟨g145, hF⟩ := gd_some hF
            have ta145 : KM (r (r p0 6) (ix a1)) = 9 ∧ ok (r (r p0 6) (ix a1)) := tyA hW tf141 (by decide) rfl (by decide) g145
            refine g_aald hX dX8_told_145 tf141.1 (by decide) (by decide) (hW.1 _ tf141.2).1 (hW.1 _ tf141.2).2 g145 (hW.1 _ ta145.2).1 ?_
            refine g_iload_n hX dX8_told_146 (i := 2) rfl (j := 3) rfl ?_
            obtain ⟨g147, hF⟩ := gd_some hF
            refine g_iald hX dX8_told_147 ta145.1 (hW.1 _ ta145.2).1 (hW.1 _ ta145.2).2 g147 ?_
            refine g_goto (tgt := 152) hX dX8_told_148 (by decide) ?_
            obtain rfl := Option.some.inj hF
            exact g_iret hX dX8_told_152 hR
        have hF := ite_f hF c39_3
        by_cases c39_4 : a3 = 4
        · have hF := ite_t hF c39_4
          refine g_tin (tgt := 153) hX dX8_told_39 c39_4 (by decide) (by decide) rfl (by decide) ?_
          refine g_iload hX dX8_told_153 (j := 0) rfl ?_
          refine g_if_eq (tgt := 167) hX dX8_told_155 (by decide) (fun c155 => ?_) (fun c155 => ?_)
          · have hF := ite_t hF c155
            refine g_iconst (v := 0) hX dX8_told_167 (by decide) ?_
            obtain rfl := Option.some.inj hF
            exact g_iret hX dX8_told_168 hR
          · have hF := ite_f hF c155
            refine g_aload_n hX dX8_told_158 (i := 0) rfl (j := 1) rfl ?_
            refine g_iload_n hX dX8_told_159 (i := 1) rfl (j := 2) rfl ?_
            refine g_iload_n hX dX8_told_160 (i := 2) rfl (j := 3) rfl ?_
            obtain ⟨v161, e161, hF⟩ := bi_some hF
            refine g_callV (As := [.int a1, .int a2]) (rest := []) (stk := [.int v161]) hX dX8_told_161 (ctX8_inners hM hW p0 a1 a2 t0 e161) (by decide) (by decide) wm_X8_190 wi_X8_inners ws_X8_inners wz_X8 wc_X8_inners hyX8_inners rfl (ci := 8) rfl (by decide) t0.1 (hW.1 _ t0.2).1 (hW.1 _ t0.2).2 (Nat.le_of_ble_eq_true rfl) rfl rfl ?_ rfl rfl
            refine g_goto (tgt := 168) hX dX8_told_164 (by decide) ?_
            obtain rfl := Option.some.inj hF
            exact g_iret hX dX8_told_168 hR
        have hF := ite_f hF c39_4
        by_cases c39_5 : a3 = 5
        · have hF := ite_t hF c39_5
          refine g_tin (tgt := 169) hX dX8_told_39 c39_5 (by decide) (by decide) rfl (by decide) ?_
          refine g_iload hX dX8_told_169 (j := 0) rfl ?_
          refine g_if_eq (tgt := 183) hX dX8_told_171 (by decide) (fun c171 => ?_) (fun c171 => ?_)
          · have hF := ite_t hF c171
            refine g_iconst (v := (-1)) hX dX8_told_183 (by decide) ?_
            obtain rfl := Option.some.inj hF
            exact g_iret hX dX8_told_184 hR
          · have hF := ite_f hF c171
            refine g_aload_n hX dX8_told_174 (i := 0) rfl (j := 1) rfl ?_
            refine g_iload_n hX dX8_told_175 (i := 1) rfl (j := 2) rfl ?_
            refine g_iload_n hX dX8_told_176 (i := 2) rfl (j := 3) rfl ?_
            obtain ⟨v177, e177, hF⟩ := bi_some hF
            refine g_callV (As := [.int a1, .int a2]) (rest := []) (stk := [.int v177]) hX dX8_told_177 (ctX8_deep hM hW p0 a1 a2 t0 e177) (by decide) (by decide) wm_X8_193 wi_X8_deep ws_X8_deep wz_X8 wc_X8_deep hyX8_deep rfl (ci := 8) rfl (by decide) t0.1 (hW.1 _ t0.2).1 (hW.1 _ t0.2).2 (Nat.le_of_ble_eq_true rfl) rfl rfl ?_ rfl rfl
            refine g_goto (tgt := 184) hX dX8_told_180 (by decide) ?_
            obtain rfl := Option.some.inj hF
            exact g_iret hX dX8_told_184 hR
        have hF := ite_f hF c39_5
        by_cases c39_6 : a3 = 6
        · have hF := ite_t hF c39_6
          refine g_tin (tgt := 185) hX dX8_told_39 c39_6 (by decide) (by decide) rfl (by decide) ?_
          refine g_aload_n hX dX8_told_185 (i := 0) rfl (j := 1) rfl ?_
          obtain ⟨h186, e186, hF⟩ := bi_some hF
          refine g_callV (As := []) (rest := []) (stk := []) hX dX8_told_186 (ctX8_ignore hM hW p0 t0 e186) (by decide) (by decide) wm_X8_196 wi_X8_ignore ws_X8_ignore wz_X8 wc_X8_ignore hyX8_ignore rfl (ci := 8) rfl (by decide) t0.1 (hW.1 _ t0.2).1 (hW.1 _ t0.2).2 (Nat.le_of_ble_eq_true rfl) rfl rfl ?_ rfl rfl
          refine g_iload_n hX dX8_told_189 (i := 1) rfl (j := 2) rfl ?_
          refine g_iconst (v := 2) hX dX8_told_190 (by decide) ?_
          refine g_icmp_ne (tgt := 198) hX dX8_told_191 (by decide) (fun c191 => ?_) (fun c191 => ?_)
          · have hF := ite_t hF c191
            refine g_aload_n hX dX8_told_198 (i := 0) rfl (j := 1) rfl ?_
            refine g_iload_n hX dX8_told_199 (i := 1) rfl (j := 2) rfl ?_
            refine g_iload_n hX dX8_told_200 (i := 2) rfl (j := 3) rfl ?_
            obtain ⟨v201, e201, hF⟩ := bi_some hF
            refine g_callV (As := [.int a1, .int a2]) (rest := []) (stk := [.int v201]) hX dX8_told_201 (ctX8_changed hM hW p0 a1 a2 t0 e201) (by decide) (by decide) wm_X8_199 wi_X8_changed ws_X8_changed wz_X8 wc_X8_changed hyX8_changed rfl (ci := 8) rfl (by decide) t0.1 (hW.1 _ t0.2).1 (hW.1 _ t0.2).2 (Nat.le_of_ble_eq_true rfl) rfl rfl ?_ rfl rfl
            obtain rfl := Option.some.inj hF
            exact g_iret hX dX8_told_204 hR
          · have hF := ite_f hF (fun z => z c191)
            refine g_iconst (v := 0) hX dX8_told_194 (by decide) ?_
            refine g_goto (tgt := 204) hX dX8_told_195 (by decide) ?_
            obtain rfl := Option.some.inj hF
            exact g_iret hX dX8_told_204 hR
        have hF := ite_f hF c39_6
        by_cases c39_7 : a3 = 7
        · have hF := ite_t hF c39_7
          refine g_tin (tgt := 205) hX dX8_told_39 c39_7 (by decide) (by decide) rfl (by decide) ?_
          refine g_iload hX dX8_told_205 (j := 0) rfl ?_
          refine g_if_eq (tgt := 223) hX dX8_told_207 (by decide) (fun c207 => ?_) (fun c207 => ?_)
          · have hF := ite_t hF c207
            refine g_sub (L' := [(0, .ref (b + p0)), (1, .int a1), (2, .int a2), (3, .int a3)]) [1, 2, 3, 4] rfl ?_
            exact kX8_told_b223 hX hM hW p0 a1 a2 a3 t0 hR h hF
          · have hF := ite_f hF c207
            refine g_aload_n hX dX8_told_210 (i := 0) rfl (j := 1) rfl ?_
            refine g_iload_n hX dX8_told_211 (i := 1) rfl (j := 2) rfl ?_
            refine g_iload_n hX dX8_told_212 (i := 2) rfl (j := 3) rfl ?_
            obtain ⟨v213, h213, e213, hF⟩ := bi2_some hF
            refine g_callV (As := [.int a1, .int a2]) (rest := []) (stk := [.int v213]) hX dX8_told_213 (ctX8_isIgnoredOn hM hW p0 a1 a2 t0 e213) (by decide) (by decide) wm_X8_202 wi_X8_isIgnoredOn ws_X8_isIgnoredOn wz_X8 wc_X8_isIgnoredOn hyX8_isIgnoredOn rfl (ci := 8) rfl (by decide) t0.1 (hW.1 _ t0.2).1 (hW.1 _ t0.2).2 (Nat.le_of_ble_eq_true rfl) rfl rfl ?_ rfl rfl
            refine g_if_eq (tgt := 223) hX dX8_told_216 (by decide) (fun c216 => ?_) (fun c216 => ?_)
            · have hF := ite_t hF c216
              refine g_sub (L' := [(0, .ref (b + p0)), (1, .int a1), (2, .int a2), (3, .int a3)]) [1, 2, 3, 4] rfl ?_
              exact kX8_told_b223 hX hM hW p0 a1 a2 a3 t0 hR h213 hF
            · have hF := ite_f hF c216
              refine g_iconst (v := 1) hX dX8_told_219 (by decide) ?_
              refine g_goto (tgt := 224) hX dX8_told_220 (by decide) ?_
              obtain rfl := Option.some.inj hF
              exact g_iret hX dX8_told_224 hR
        have hF := ite_f hF c39_7
        by_cases c39_8 : a3 = 8
        · have hF := ite_t hF c39_8
          refine g_tin (tgt := 225) hX dX8_told_39 c39_8 (by decide) (by decide) rfl (by decide) ?_
          refine g_aload_n hX dX8_told_225 (i := 0) rfl (j := 1) rfl ?_
          obtain ⟨h226, e226, hF⟩ := bi_some hF
          refine g_callV (As := []) (rest := []) (stk := []) hX dX8_told_226 (ctX8_ignore hM hW p0 t0 e226) (by decide) (by decide) wm_X8_196 wi_X8_ignore ws_X8_ignore wz_X8 wc_X8_ignore hyX8_ignore rfl (ci := 8) rfl (by decide) t0.1 (hW.1 _ t0.2).1 (hW.1 _ t0.2).2 (Nat.le_of_ble_eq_true rfl) rfl rfl ?_ rfl rfl
          refine g_aload_n hX dX8_told_229 (i := 0) rfl (j := 1) rfl ?_
          have tf230 := (tyF (k := 25) hW t0 (by decide) rfl (by decide) : KM (r p0 25) = 10 ∧ ok (r p0 25))
          refine gf_X8_55 hX dX8_told_230 (ty1 hW t0) (hW.1 _ tf230.2).1 ?_
          refine g_iload_n hX dX8_told_233 (i := 2) rfl (j := 3) rfl ?_
          obtain ⟨g234, hF⟩ := gd_some hF
          refine g_bald hX dX8_told_234 tf230.1 (hW.1 _ tf230.2).1 (hW.1 _ tf230.2).2 g234 ?_
          refine g_if_eq (tgt := 242) hX dX8_told_235 (by decide) (fun c235 => ?_) (fun c235 => ?_)
          · have hF := ite_t hF c235
            refine g_iconst (v := 0) hX dX8_told_242 (by decide) ?_
            obtain rfl := Option.some.inj hF
            exact g_iret hX dX8_told_243 hR
          · have hF := ite_f hF c235
            refine g_iconst (v := 1) hX dX8_told_238 (by decide) ?_
            refine g_goto (tgt := 243) hX dX8_told_239 (by decide) ?_
            obtain rfl := Option.some.inj hF
            exact g_iret hX dX8_told_243 hR
        have hF := ite_f hF c39_8
        have n39_0 := lv_neT c39_0 (a := 0) (by decide)
        have n39_1 := lv_neT c39_1 (a := 1) (by decide)
        have n39_2 := lv_neT c39_2 (a := 2) (by decide)
        have n39_3 := lv_neT c39_3 (a := 3) (by decide)
        have n39_4 := lv_neT c39_4 (a := 4) (by decide)
        have n39_5 := lv_neT c39_5 (a := 5) (by decide)
        have n39_6 := lv_neT c39_6 (a := 6) (by decide)
        have n39_7 := lv_neT c39_7 (a := 7) (by decide)
        have n39_8 := lv_neT c39_8 (a := 8) (by decide)
        refine g_tout (tgt := 244) hX dX8_told_39 (by omega) (by decide) ?_
        refine g_aload_n hX dX8_told_244 (i := 0) rfl (j := 1) rfl ?_
        have tf245 := (tyF (k := 2) hW t0 (by decide) rfl (by decide) : KM (r p0 2) = 10 ∧ ok (r p0 2))
        refine gf_X8_9 hX dX8_told_245 (ty1 hW t0) (hW.1 _ tf245.2).1 ?_
        refine g_iload_n hX dX8_told_248 (i := 2) rfl (j := 3) rfl ?_
        obtain ⟨g249, hF⟩ := gd_some hF
        refine g_bald hX dX8_told_249 tf245.1 (hW.1 _ tf245.2).1 (hW.1 _ tf245.2).2 g249 ?_
        refine g_if_eq (tgt := 257) hX dX8_told_250 (by decide) (fun c250 => ?_) (fun c250 => ?_)
        · have hF := ite_t hF c250
          refine g_iconst (v := 0) hX dX8_told_257 (by decide) ?_
          obtain rfl := Option.some.inj hF
          exact g_iret hX dX8_told_258 hR
        · have hF := ite_f hF c250
          refine g_iconst (v := 1) hX dX8_told_253 (by decide) ?_
          refine g_goto (tgt := 258) hX dX8_told_254 (by decide) ?_
          obtain rfl := Option.some.inj hF
          exact g_iret hX dX8_told_258 hR
      · have hF := ite_f hF (fun z => z c22)
        refine g_bipush (v := (-2)) hX dX8_told_25 (by decide) ?_
        obtain rfl := Option.some.inj hF
        exact g_iret hX dX8_told_27 hR
theorem ctX8_told {b N sz : Nat} {ok : Nat → Prop} {h : HH} {r : RR} {w : Int32 × HH} (hM : N ≤ MM) (hW : WT KM lnM ok N r) (p0 : Nat) (a1 : Int32) (a2 : Int32) (a3 : Int32) (t0 : KM p0 = 8 ∧ ok p0) (hF : fX8_told h r p0 a1 a2 a3 = some w) : CT yX8_told cX8_told 5 (some FieldType.int) 5 b KM lnM MM N sz [.ref (b + p0), .int a1, .int a2, .int a3] h r N sz (some (.int w.1)) w.2 r 0 0 :=
  CT_of (by decide) rfl (Nat.le_of_ble_eq_true rfl) (by decide) trivial (fun X hX hR => kX8_told hX hM hW p0 a1 a2 a3 t0 hR hF)
/-! X8_find -/
def fX8_find_b23 (h : HH) (r : RR) (p0 : Nat) (a1 : Int32) (a2 : Int32) (a3 : Int32) : Option (Int32) := (fX8_found h r p0 a1 a2 a3).bind (fun v27 => some (v27))
def fX8_find (h : HH) (r : RR) (p0 : Nat) (a1 : Int32) (a2 : Int32) (a3 : Int32) : Option (Int32) := (fX8_isPlace h r a1).bind (fun v1 => if v1 = 0 then (some (-2)) else (if a2 = (-1) then (fX8_find_b23 h r p0 a1 a2 a3) else ((fX8_isThing h r p0 a2).bind (fun v14 => if ¬ v14 = 0 then (fX8_find_b23 h r p0 a1 a2 a3) else (some (-2))))))
set_option maxRecDepth 100000 in
set_option maxHeartbeats 4000000 in
theorem kX8_find_b23 {X : XT} {b N sz : Nat} {ok : Nat → Prop} {h : HH} {r : RR} {w : Int32} (hX : XOK X RX8 cX8_find 4 3) (hM : N ≤ MM) (hW : WT KM lnM ok N r) (p0 : Nat) (a1 : Int32) (a2 : Int32) (a3 : Int32) (t0 : KM p0 = 8 ∧ ok p0) (hR : XR X b KM lnM MM (some FieldType.int) 0 0 N sz (some (.int w)) h r) (hF : fX8_find_b23 h r p0 a1 a2 a3 = some w) : GX X b KM lnM MM 4 0 0 N sz 23 [(0, .ref (b + p0)), (1, .int a1), (2, .int a2), (3, .int a3)] [] h r := by
  rw [fX8_find_b23] at hF
  refine g_aload_n hX dX8_find_23 (i := 0) rfl (j := 0) rfl ?_
  refine g_iload_n hX dX8_find_24 (i := 1) rfl (j := 1) rfl ?_
  refine g_iload_n hX dX8_find_25 (i := 2) rfl (j := 2) rfl ?_
  refine g_iload_n hX dX8_find_26 (i := 3) rfl (j := 3) rfl ?_
  obtain ⟨v27, e27, hF⟩ := bi_some hF
  refine g_callV (As := [.int a1, .int a2, .int a3]) (rest := []) (stk := [.int v27]) hX dX8_find_27 (ctX8_found hM hW p0 a1 a2 a3 t0 e27) (by decide) (by decide) wm_X8_164 wi_X8_found ws_X8_found wz_X8 wc_X8_found hyX8_found rfl (ci := 8) rfl (by decide) t0.1 (hW.1 _ t0.2).1 (hW.1 _ t0.2).2 (Nat.le_of_ble_eq_true rfl) rfl rfl ?_ rfl rfl
  obtain rfl := Option.some.inj hF
  exact g_iret hX dX8_find_30 hR
set_option maxRecDepth 100000 in
set_option maxHeartbeats 4000000 in
theorem kX8_find {X : XT} {b N sz : Nat} {ok : Nat → Prop} {h : HH} {r : RR} {w : Int32} (hX : XOK X RX8 cX8_find 4 3) (hM : N ≤ MM) (hW : WT KM lnM ok N r) (p0 : Nat) (a1 : Int32) (a2 : Int32) (a3 : Int32) (t0 : KM p0 = 8 ∧ ok p0) (hR : XR X b KM lnM MM (some FieldType.int) 0 0 N sz (some (.int w)) h r) (hF : fX8_find h r p0 a1 a2 a3 = some w) : GX X b KM lnM MM 4 0 0 N sz 0 [(0, .ref (b + p0)), (1, .int a1), (2, .int a2), (3, .int a3)] [] h r := by
  rw [fX8_find] at hF
  refine g_iload_n hX dX8_find_0 (i := 1) rfl (j := 1) rfl ?_
  obtain ⟨v1, e1, hF⟩ := bi_some hF
  refine g_callS (As := [.int a1]) (rest := []) (stk := [.int v1]) hX dX8_find_1 (ctX8_isPlace hM hW a1 e1) (by decide) (by decide) wm_X8_187 wt_X8_isPlace wz_X8 wc_X8_isPlace hyX8_isPlace rfl (Nat.le_of_ble_eq_true rfl) rfl rfl ?_ rfl rfl
  refine g_if_eq (tgt := 20) hX dX8_find_4 (by decide) (fun c4 => ?_) (fun c4 => ?_)
  · have hF := ite_t hF c4
    refine g_bipush (v := (-2)) hX dX8_find_20 (by decide) ?_
    obtain rfl := Option.some.inj hF
    exact g_iret hX dX8_find_22 hR
  · have hF := ite_f hF c4
    refine g_iload_n hX dX8_find_7 (i := 2) rfl (j := 2) rfl ?_
    refine g_iconst (v := (-1)) hX dX8_find_8 (by decide) ?_
    refine g_icmp_eq (tgt := 23) hX dX8_find_9 (by decide) (fun c9 => ?_) (fun c9 => ?_)
    · have hF := ite_t hF c9
      refine g_sub (L' := [(0, .ref (b + p0)), (1, .int a1), (2, .int a2), (3, .int a3)]) [0, 1, 2, 3] rfl ?_
      exact kX8_find_b23 hX hM hW p0 a1 a2 a3 t0 hR hF
    · have hF := ite_f hF c9
      refine g_aload_n hX dX8_find_12 (i := 0) rfl (j := 0) rfl ?_
      refine g_iload_n hX dX8_find_13 (i := 2) rfl (j := 2) rfl ?_
      obtain ⟨v14, e14, hF⟩ := bi_some hF
      refine g_callV (As := [.int a2]) (rest := []) (stk := [.int v14]) hX dX8_find_14 (ctX8_isThing hM hW p0 a2 t0 e14) (by decide) (by decide) wm_X8_137 wi_X8_isThing ws_X8_isThing wz_X8 wc_X8_isThing hyX8_isThing rfl (ci := 8) rfl (by decide) t0.1 (hW.1 _ t0.2).1 (hW.1 _ t0.2).2 (Nat.le_of_ble_eq_true rfl) rfl rfl ?_ rfl rfl
      refine g_if_ne (tgt := 23) hX dX8_find_17 (by decide) (fun c17 => ?_) (fun c17 => ?_)
      · have hF := ite_t hF c17
        refine g_sub (L' := [(0, .ref (b + p0)), (1, .int a1), (2, .int a2), (3, .int a3)]) [0, 1, 2, 3] rfl ?_
        exact kX8_find_b23 hX hM hW p0 a1 a2 a3 t0 hR hF
      · have hF := ite_f hF (fun z => z c17)
        refine g_bipush (v := (-2)) hX dX8_find_20 (by decide) ?_
        obtain rfl := Option.some.inj hF
        exact g_iret hX dX8_find_22 hR
theorem ctX8_find {b N sz : Nat} {ok : Nat → Prop} {h : HH} {r : RR} {w : Int32} (hM : N ≤ MM) (hW : WT KM lnM ok N r) (p0 : Nat) (a1 : Int32) (a2 : Int32) (a3 : Int32) (t0 : KM p0 = 8 ∧ ok p0) (hF : fX8_find h r p0 a1 a2 a3 = some w) : CT yX8_find cX8_find 4 (some FieldType.int) 3 b KM lnM MM N sz [.ref (b + p0), .int a1, .int a2, .int a3] h r N sz (some (.int w)) h r 0 0 :=
  CT_of (by decide) rfl (Nat.le_of_ble_eq_true rfl) (by decide) trivial (fun X hX hR => kX8_find hX hM hW p0 a1 a2 a3 t0 hR hF)
/-! X8_taken -/
def fX8_taken_b80 (h : HH) (r : RR) (p0 : Nat) (a1 : Int32) (a2 : Int32) (s0 : Int32) : Option (Int32) := if s0 = 0 then (some (-13)) else (some (a1))
def fX8_taken_b79 (h : HH) (r : RR) (p0 : Nat) (a1 : Int32) (a2 : Int32) : Option (Int32) := fX8_taken_b80 h r p0 a1 a2 0
def fX8_taken (h : HH) (r : RR) (p0 : Nat) (a1 : Int32) (a2 : Int32) : Option (Int32) := (fX8_isThing h r p0 a1).bind (fun v2 => if v2 = 0 then (some (-2)) else ((fX8_in h r a2 0 2).bind (fun v11 => if ¬ v11 = 0 then (if ¬ a2 = 0 then (if ¬ a2 = 1 then (gd (inb 0 (lnM (r p0 3))) (gd (inb a1 (lnM (r (r p0 3) (ix 0)))) (if (h (r (r p0 3) (ix 0)) (ix a1)) = 0 then (fX8_taken_b79 h r p0 a1 a2) else ((fX8_inners h r p0 0 a1).bind (fun v69 => if v69 ≤ 0 then (fX8_taken_b79 h r p0 a1 a2) else (fX8_taken_b80 h r p0 a1 a2 1)))))) else (gd (inb a1 (lnM (r p0 2))) (fX8_taken_b80 h r p0 a1 a2 (h (r p0 2) (ix a1))))) else (gd (inb a1 (lnM (r p0 2))) (if ¬ (h (r p0 2) (ix a1)) = 0 then (fX8_taken_b80 h r p0 a1 a2 0) else (fX8_taken_b80 h r p0 a1 a2 1)))) else (some (-2)))))
set_option maxRecDepth 100000 in
set_option maxHeartbeats 4000000 in
theorem kX8_taken_b80 {X : XT} {b N sz : Nat} {ok : Nat → Prop} {h : HH} {r : RR} {w : Int32} (hX : XOK X RX8 cX8_taken 4 4) (hM : N ≤ MM) (hW : WT KM lnM ok N r) (p0 : Nat) (a1 : Int32) (a2 : Int32) (t0 : KM p0 = 8 ∧ ok p0) (hR : XR X b KM lnM MM (some FieldType.int) 0 0 N sz (some (.int w)) h r) (s0 : Int32) (hF : fX8_taken_b80 h r p0 a1 a2 s0 = some w) : GX X b KM lnM MM 4 0 0 N sz 80 [(0, .ref (b + p0)), (1, .int a1), (2, .int a2)] [.int s0] h r := by
  rw [fX8_taken_b80] at hF
  refine g_istore_n (L' := [(3, .int s0), (0, .ref (b + p0)), (1, .int a1), (2, .int a2)]) hX dX8_taken_80 (i := 3) rfl (by decide) rfl ?_
  refine g_iload_n hX dX8_taken_81 (i := 3) rfl (j := 0) rfl ?_
  refine g_if_eq (tgt := 89) hX dX8_taken_82 (by decide) (fun c82 => ?_) (fun c82 => ?_)
  · have hF := ite_t hF c82
    refine g_bipush (v := (-13)) hX dX8_taken_89 (by decide) ?_
    obtain rfl := Option.some.inj hF
    exact g_iret hX dX8_taken_91 hR
  · have hF := ite_f hF c82
    refine g_iload_n hX dX8_taken_85 (i := 1) rfl (j := 2) rfl ?_
    refine g_goto (tgt := 91) hX dX8_taken_86 (by decide) ?_
    obtain rfl := Option.some.inj hF
    exact g_iret hX dX8_taken_91 hR
set_option maxRecDepth 100000 in
set_option maxHeartbeats 4000000 in
theorem kX8_taken_b79 {X : XT} {b N sz : Nat} {ok : Nat → Prop} {h : HH} {r : RR} {w : Int32} (hX : XOK X RX8 cX8_taken 4 4) (hM : N ≤ MM) (hW : WT KM lnM ok N r) (p0 : Nat) (a1 : Int32) (a2 : Int32) (t0 : KM p0 = 8 ∧ ok p0) (hR : XR X b KM lnM MM (some FieldType.int) 0 0 N sz (some (.int w)) h r) (hF : fX8_taken_b79 h r p0 a1 a2 = some w) : GX X b KM lnM MM 4 0 0 N sz 79 [(0, .ref (b + p0)), (1, .int a1), (2, .int a2)] [] h r := by
  rw [fX8_taken_b79] at hF
  refine g_iconst (v := 0) hX dX8_taken_79 (by decide) ?_
  refine g_sub (L' := [(0, .ref (b + p0)), (1, .int a1), (2, .int a2)]) [0, 1, 2] rfl ?_
  exact kX8_taken_b80 hX hM hW p0 a1 a2 t0 hR 0 hF
set_option maxRecDepth 100000 in
set_option maxHeartbeats 4000000 in
theorem kX8_taken {X : XT} {b N sz : Nat} {ok : Nat → Prop} {h : HH} {r : RR} {w : Int32} (hX : XOK X RX8 cX8_taken 4 4) (hM : N ≤ MM) (hW : WT KM lnM ok N r) (p0 : Nat) (a1 : Int32) (a2 : Int32) (t0 : KM p0 = 8 ∧ ok p0) (hR : XR X b KM lnM MM (some FieldType.int) 0 0 N sz (some (.int w)) h r) (hF : fX8_taken h r p0 a1 a2 = some w) : GX X b KM lnM MM 4 0 0 N sz 0 [(0, .ref (b + p0)), (1, .int a1), (2, .int a2)] [] h r := by
  rw [fX8_taken] at hF
  refine g_aload_n hX dX8_taken_0 (i := 0) rfl (j := 0) rfl ?_
  refine g_iload_n hX dX8_taken_1 (i := 1) rfl (j := 1) rfl ?_
  obtain ⟨v2, e2, hF⟩ := bi_some hF
  refine g_callV (As := [.int a1]) (rest := []) (stk := [.int v2]) hX dX8_taken_2 (ctX8_isThing hM hW p0 a1 t0 e2) (by decide) (by decide) wm_X8_137 wi_X8_isThing ws_X8_isThing wz_X8 wc_X8_isThing hyX8_isThing rfl (ci := 8) rfl (by decide) t0.1 (hW.1 _ t0.2).1 (hW.1 _ t0.2).2 (Nat.le_of_ble_eq_true rfl) rfl rfl ?_ rfl rfl
  refine g_if_eq (tgt := 17) hX dX8_taken_5 (by decide) (fun c5 => ?_) (fun c5 => ?_)
  · have hF := ite_t hF c5
    refine g_bipush (v := (-2)) hX dX8_taken_17 (by decide) ?_
    obtain rfl := Option.some.inj hF
    exact g_iret hX dX8_taken_19 hR
  · have hF := ite_f hF c5
    refine g_iload_n hX dX8_taken_8 (i := 2) rfl (j := 2) rfl ?_
    refine g_iconst (v := 0) hX dX8_taken_9 (by decide) ?_
    refine g_iconst (v := 2) hX dX8_taken_10 (by decide) ?_
    obtain ⟨v11, e11, hF⟩ := bi_some hF
    refine g_callS (As := [.int a2, .int 0, .int 2]) (rest := []) (stk := [.int v11]) hX dX8_taken_11 (ctX8_in hM hW a2 0 2 e11) (by decide) (by decide) wm_X8_133 wt_X8_in wz_X8 wc_X8_in hyX8_in rfl (Nat.le_of_ble_eq_true rfl) rfl rfl ?_ rfl rfl
    refine g_if_ne (tgt := 20) hX dX8_taken_14 (by decide) (fun c14 => ?_) (fun c14 => ?_)
    · have hF := ite_t hF c14
      refine g_iload_n hX dX8_taken_20 (i := 2) rfl (j := 2) rfl ?_
      refine g_if_ne (tgt := 41) hX dX8_taken_21 (by decide) (fun c21 => ?_) (fun c21 => ?_)
      · have hF := ite_t hF c21
        refine g_iload_n hX dX8_taken_41 (i := 2) rfl (j := 2) rfl ?_
        refine g_iconst (v := 1) hX dX8_taken_42 (by decide) ?_
        refine g_icmp_ne (tgt := 55) hX dX8_taken_43 (by decide) (fun c43 => ?_) (fun c43 => ?_)
        · have hF := ite_t hF c43
          refine g_aload_n hX dX8_taken_55 (i := 0) rfl (j := 0) rfl ?_
          have tf56 := (tyF (k := 3) hW t0 (by decide) rfl (by decide) : KM (r p0 3) = 15 ∧ ok (r p0 3))
          refine gf_X8_15 hX dX8_taken_56 (ty1 hW t0) (hW.1 _ tf56.2).1 ?_
          refine g_iconst (v := 0) hX dX8_taken_59 (by decide) ?_
          obtain ⟨g60, hF⟩ := gd_some hF
          have ta60 : KM (r (r p0 3) (ix 0)) = 10 ∧ ok (r (r p0 3) (ix 0)) := tyA hW tf56 (by decide) rfl (by decide) g60
          refine g_aald hX dX8_taken_60 tf56.1 (by decide) (by decide) (hW.1 _ tf56.2).1 (hW.1 _ tf56.2).2 g60 (hW.1 _ ta60.2).1 ?_
          refine g_iload_n hX dX8_taken_61 (i := 1) rfl (j := 1) rfl ?_
          obtain ⟨g62, hF⟩ := gd_some hF
          refine g_bald hX dX8_taken_62 ta60.1 (hW.1 _ ta60.2).1 (hW.1 _ ta60.2).2 g62 ?_
          refine g_if_eq (tgt := 79) hX dX8_taken_63 (by decide) (fun c63 => ?_) (fun c63 => ?_)
          · have hF := ite_t hF c63
            refine g_sub (L' := [(0, .ref (b + p0)), (1, .int a1), (2, .int a2)]) [0, 1, 2] rfl ?_
            exact kX8_taken_b79 hX hM hW p0 a1 a2 t0 hR hF
          · have hF := ite_f hF c63
            refine g_aload_n hX dX8_taken_66 (i := 0) rfl (j := 0) rfl ?_
            refine g_iconst (v := 0) hX dX8_taken_67 (by decide) ?_
            refine g_iload_n hX dX8_taken_68 (i := 1) rfl (j := 1) rfl ?_
            obtain ⟨v69, e69, hF⟩ := bi_some hF
            refine g_callV (As := [.int 0, .int a1]) (rest := []) (stk := [.int v69]) hX dX8_taken_69 (ctX8_inners hM hW p0 0 a1 t0 e69) (by decide) (by decide) wm_X8_190 wi_X8_inners ws_X8_inners wz_X8 wc_X8_inners hyX8_inners rfl (ci := 8) rfl (by decide) t0.1 (hW.1 _ t0.2).1 (hW.1 _ t0.2).2 (Nat.le_of_ble_eq_true rfl) rfl rfl ?_ rfl rfl
            refine g_if_le (tgt := 79) hX dX8_taken_72 (by decide) (fun c72 => ?_) (fun c72 => ?_)
            · have hF := ite_t hF c72
              refine g_sub (L' := [(0, .ref (b + p0)), (1, .int a1), (2, .int a2)]) [0, 1, 2] rfl ?_
              exact kX8_taken_b79 hX hM hW p0 a1 a2 t0 hR hF
            · have hF := ite_f hF c72
              refine g_iconst (v := 1) hX dX8_taken_75 (by decide) ?_
              refine g_goto (tgt := 80) hX dX8_taken_76 (by decide) ?_
              refine g_sub (L' := [(0, .ref (b + p0)), (1, .int a1), (2, .int a2)]) [0, 1, 2] rfl ?_
              exact kX8_taken_b80 hX hM hW p0 a1 a2 t0 hR 1 hF
        · have hF := ite_f hF (fun z => z c43)
          refine g_aload_n hX dX8_taken_46 (i := 0) rfl (j := 0) rfl ?_
          have tf47 := (tyF (k := 2) hW t0 (by decide) rfl (by decide) : KM (r p0 2) = 10 ∧ ok (r p0 2))
          refine gf_X8_9 hX dX8_taken_47 (ty1 hW t0) (hW.1 _ tf47.2).1 ?_
          refine g_iload_n hX dX8_taken_50 (i := 1) rfl (j := 1) rfl ?_
          obtain ⟨g51, hF⟩ := gd_some hF
          refine g_bald hX dX8_taken_51 tf47.1 (hW.1 _ tf47.2).1 (hW.1 _ tf47.2).2 g51 ?_
          refine g_goto (tgt := 80) hX dX8_taken_52 (by decide) ?_
          refine g_sub (L' := [(0, .ref (b + p0)), (1, .int a1), (2, .int a2)]) [0, 1, 2] rfl ?_
          exact kX8_taken_b80 hX hM hW p0 a1 a2 t0 hR (h (r p0 2) (ix a1)) hF
      · have hF := ite_f hF (fun z => z c21)
        refine g_aload_n hX dX8_taken_24 (i := 0) rfl (j := 0) rfl ?_
        have tf25 := (tyF (k := 2) hW t0 (by decide) rfl (by decide) : KM (r p0 2) = 10 ∧ ok (r p0 2))
        refine gf_X8_9 hX dX8_taken_25 (ty1 hW t0) (hW.1 _ tf25.2).1 ?_
        refine g_iload_n hX dX8_taken_28 (i := 1) rfl (j := 1) rfl ?_
        obtain ⟨g29, hF⟩ := gd_some hF
        refine g_bald hX dX8_taken_29 tf25.1 (hW.1 _ tf25.2).1 (hW.1 _ tf25.2).2 g29 ?_
        refine g_if_ne (tgt := 37) hX dX8_taken_30 (by decide) (fun c30 => ?_) (fun c30 => ?_)
        · have hF := ite_t hF c30
          refine g_iconst (v := 0) hX dX8_taken_37 (by decide) ?_
          refine g_goto (tgt := 80) hX dX8_taken_38 (by decide) ?_
          refine g_sub (L' := [(0, .ref (b + p0)), (1, .int a1), (2, .int a2)]) [0, 1, 2] rfl ?_
          exact kX8_taken_b80 hX hM hW p0 a1 a2 t0 hR 0 hF
        · have hF := ite_f hF (fun z => z c30)
          refine g_iconst (v := 1) hX dX8_taken_33 (by decide) ?_
          refine g_goto (tgt := 80) hX dX8_taken_34 (by decide) ?_
          refine g_sub (L' := [(0, .ref (b + p0)), (1, .int a1), (2, .int a2)]) [0, 1, 2] rfl ?_
          exact kX8_taken_b80 hX hM hW p0 a1 a2 t0 hR 1 hF
    · have hF := ite_f hF (fun z => z c14)
      refine g_bipush (v := (-2)) hX dX8_taken_17 (by decide) ?_
      obtain rfl := Option.some.inj hF
      exact g_iret hX dX8_taken_19 hR
theorem ctX8_taken {b N sz : Nat} {ok : Nat → Prop} {h : HH} {r : RR} {w : Int32} (hM : N ≤ MM) (hW : WT KM lnM ok N r) (p0 : Nat) (a1 : Int32) (a2 : Int32) (t0 : KM p0 = 8 ∧ ok p0) (hF : fX8_taken h r p0 a1 a2 = some w) : CT yX8_taken cX8_taken 4 (some FieldType.int) 4 b KM lnM MM N sz [.ref (b + p0), .int a1, .int a2] h r N sz (some (.int w)) h r 0 0 :=
  CT_of (by decide) rfl (Nat.le_of_ble_eq_true rfl) (by decide) trivial (fun X hX hR => kX8_taken hX hM hW p0 a1 a2 t0 hR hF)
/-! X8_isByte -/
def fX8_isByte (h : HH) (r : RR) (a0 : Int32) : Option (Int32) := (fX8_in h r a0 0 255).bind (fun v5 => bz v5 (some (v5)))
set_option maxRecDepth 100000 in
set_option maxHeartbeats 4000000 in
theorem kX8_isByte {X : XT} {b N sz : Nat} {ok : Nat → Prop} {h : HH} {r : RR} {w : Int32} (hX : XOK X RX8 cX8_isByte 1 2) (hM : N ≤ MM) (hW : WT KM lnM ok N r) (a0 : Int32) (hR : XR X b KM lnM MM (some FieldType.boolean) 0 0 N sz (some (.int w)) h r) (hF : fX8_isByte h r a0 = some w) : GX X b KM lnM MM 1 0 0 N sz 0 [(0, .int a0)] [] h r := by
  rw [fX8_isByte] at hF
  refine g_iload_n hX dX8_isByte_0 (i := 0) rfl (j := 0) rfl ?_
  refine g_iconst (v := 0) hX dX8_isByte_1 (by decide) ?_
  refine g_sipush (v := 255) hX dX8_isByte_2 (by decide) ?_
  obtain ⟨v5, e5, hF⟩ := bi_some hF
  refine g_callS (As := [.int a0, .int 0, .int 255]) (rest := []) (stk := [.int v5]) hX dX8_isByte_5 (ctX8_in hM hW a0 0 255 e5) (by decide) (by decide) wm_X8_133 wt_X8_in wz_X8 wc_X8_in hyX8_in rfl (Nat.le_of_ble_eq_true rfl) rfl rfl ?_ rfl rfl
  obtain ⟨z8, hF⟩ := bz_some hF
  obtain rfl := Option.some.inj hF
  exact g_zret hX dX8_isByte_8 z8 hR
theorem ctX8_isByte {b N sz : Nat} {ok : Nat → Prop} {h : HH} {r : RR} {w : Int32} (hM : N ≤ MM) (hW : WT KM lnM ok N r) (a0 : Int32) (hF : fX8_isByte h r a0 = some w) : CT yX8_isByte cX8_isByte 1 (some FieldType.boolean) 2 b KM lnM MM N sz [.int a0] h r N sz (some (.int w)) h r 0 0 :=
  CT_of (by decide) rfl (Nat.le_of_ble_eq_true rfl) (by decide) trivial (fun X hX hR => kX8_isByte hX hM hW a0 hR hF)
/-! X8_feed -/
def fX8_feed_b127 (r : RR) (p0 : Nat) (a1 : Int32) (a2 : Int32) (a3 : Int32) (a4 : Int32) (a5 : Int32) (a6 : Int32) (k67 : HH → Int32 → Option (Int32 × HH)) (h : HH) (u0 : Nat) (s1 : Int32) (s2 : Int32) (x7 : Int32) : Option (Int32 × HH) := gd (inb s1 (lnM u0)) (lt (up h u0 (ix s1) s2) (fun h127 => k67 h127 (x7 + 1)))
def fX8_feed_b67 (r : RR) (p0 : Nat) (a1 : Int32) (a2 : Int32) (a3 : Int32) (a4 : Int32) (a5 : Int32) (a6 : Int32) : Nat → HH → Int32 → Option (Int32 × HH)
  | 0, _, _ => none
  | n + 1, h, x7 => if a1 ≤ x7 then (lt (up h p0 16 ((h p0 16) + a1)) (fun h141 => some (h141 p0 16, h141))) else (if ¬ x7 = 0 then (if ¬ x7 = 1 then (if ¬ x7 = 2 then (if ¬ x7 = 3 then (fX8_feed_b127 r p0 a1 a2 a3 a4 a5 a6 (fun h_ z7_ => fX8_feed_b67 r p0 a1 a2 a3 a4 a5 a6 n h_ z7_) h (r p0 15) ((h p0 16) + x7) a6 x7) else (fX8_feed_b127 r p0 a1 a2 a3 a4 a5 a6 (fun h_ z7_ => fX8_feed_b67 r p0 a1 a2 a3 a4 a5 a6 n h_ z7_) h (r p0 15) ((h p0 16) + x7) a5 x7)) else (fX8_feed_b127 r p0 a1 a2 a3 a4 a5 a6 (fun h_ z7_ => fX8_feed_b67 r p0 a1 a2 a3 a4 a5 a6 n h_ z7_) h (r p0 15) ((h p0 16) + x7) a4 x7)) else (fX8_feed_b127 r p0 a1 a2 a3 a4 a5 a6 (fun h_ z7_ => fX8_feed_b67 r p0 a1 a2 a3 a4 a5 a6 n h_ z7_) h (r p0 15) ((h p0 16) + x7) a3 x7)) else (fX8_feed_b127 r p0 a1 a2 a3 a4 a5 a6 (fun h_ z7_ => fX8_feed_b67 r p0 a1 a2 a3 a4 a5 a6 n h_ z7_) h (r p0 15) ((h p0 16) + x7) a2 x7))
def fX8_feed (h : HH) (r : RR) (p0 : Nat) (a1 : Int32) (a2 : Int32) (a3 : Int32) (a4 : Int32) (a5 : Int32) (a6 : Int32) : Option (Int32 × HH) := (fX8_in h r a1 1 5).bind (fun v3 => if v3 = 0 then (some ((-2), h)) else ((fX8_isByte h r a2).bind (fun v10 => if v10 = 0 then (some ((-2), h)) else ((fX8_isByte h r a3).bind (fun v17 => if v17 = 0 then (some ((-2), h)) else ((fX8_isByte h r a4).bind (fun v25 => if v25 = 0 then (some ((-2), h)) else ((fX8_isByte h r a5).bind (fun v33 => if v33 = 0 then (some ((-2), h)) else ((fX8_isByte h r a6).bind (fun v41 => if ¬ v41 = 0 then (if ((h p0 16) + a1) ≤ 40 then (fX8_feed_b67 r p0 a1 a2 a3 a4 a5 a6 lpF h 0) else (some ((-4), h))) else (some ((-2), h)))))))))))))
set_option maxRecDepth 100000 in
set_option maxHeartbeats 4000000 in
theorem kX8_feed_b127 {X : XT} {b N sz : Nat} {ok : Nat → Prop} {r : RR} {w : Int32 × HH} (hX : XOK X RX8 cX8_feed 8 3) (hM : N ≤ MM) (hW : WT KM lnM ok N r) (p0 : Nat) (a1 : Int32) (a2 : Int32) (a3 : Int32) (a4 : Int32) (a5 : Int32) (a6 : Int32) (t0 : KM p0 = 8 ∧ ok p0) (hR : XR X b KM lnM MM (some FieldType.int) 0 0 N sz (some (.int w.1)) w.2 r) (k67 : HH → Int32 → Option (Int32 × HH)) (hk67 : ∀ (h : HH) (x7 : Int32), k67 h x7 = some w → GX X b KM lnM MM 8 0 0 N sz 67 [(0, .ref (b + p0)), (1, .int a1), (2, .int a2), (3, .int a3), (4, .int a4), (5, .int a5), (6, .int a6), (7, .int x7)] [] h r) (h : HH) (u0 : Nat) (s1 : Int32) (s2 : Int32) (x7 : Int32) (ts0 : KM u0 = 9 ∧ ok u0) (hF : fX8_feed_b127 r p0 a1 a2 a3 a4 a5 a6 k67 h u0 s1 s2 x7 = some w) : GX X b KM lnM MM 8 0 0 N sz 127 [(0, .ref (b + p0)), (1, .int a1), (2, .int a2), (3, .int a3), (4, .int a4), (5, .int a5), (6, .int a6), (7, .int x7)] [.int s2, .int s1, .ref (b + u0)] h r := by
  rw [fX8_feed_b127] at hF
  obtain ⟨g127, hF⟩ := gd_some hF
  obtain ⟨h127, e127, hF⟩ := lt_some hF
  refine g_iast hX dX8_feed_127 ts0.1 (hW.1 _ ts0.2).1 (hW.1 _ ts0.2).2 hM g127 e127 ?_
  refine g_iinc (L' := [(7, .int (x7 + 1)), (0, .ref (b + p0)), (1, .int a1), (2, .int a2), (3, .int a3), (4, .int a4), (5, .int a5), (6, .int a6)]) (j := 7) hX dX8_feed_128 rfl rfl (by decide) rfl ?_
  refine g_goto (tgt := 67) hX dX8_feed_131 (by decide) ?_
  refine g_sub (L' := [(0, .ref (b + p0)), (1, .int a1), (2, .int a2), (3, .int a3), (4, .int a4), (5, .int a5), (6, .int a6), (7, .int (x7 + 1))]) [1, 2, 3, 4, 5, 6, 7, 0] rfl ?_
  exact hk67 h127 (x7 + 1) hF
set_option maxRecDepth 100000 in
set_option maxHeartbeats 4000000 in
theorem kX8_feed_b67 {X : XT} {b N sz : Nat} {ok : Nat → Prop} {r : RR} {w : Int32 × HH} (hX : XOK X RX8 cX8_feed 8 3) (hM : N ≤ MM) (hW : WT KM lnM ok N r) (p0 : Nat) (a1 : Int32) (a2 : Int32) (a3 : Int32) (a4 : Int32) (a5 : Int32) (a6 : Int32) (t0 : KM p0 = 8 ∧ ok p0) (hR : XR X b KM lnM MM (some FieldType.int) 0 0 N sz (some (.int w.1)) w.2 r) : ∀ (n : Nat) (h : HH) (x7 : Int32), fX8_feed_b67 r p0 a1 a2 a3 a4 a5 a6 n h x7 = some w → GX X b KM lnM MM 8 0 0 N sz 67 [(0, .ref (b + p0)), (1, .int a1), (2, .int a2), (3, .int a3), (4, .int a4), (5, .int a5), (6, .int a6), (7, .int x7)] [] h r := by
  intro n
  induction n with
  | zero =>
    intro h x7 hF
    cases hF
  | succ n ih =>
    intro h x7 hF
    rw [fX8_feed_b67] at hF
    refine g_iload hX dX8_feed_67 (j := 7) rfl ?_
    refine g_iload_n hX dX8_feed_69 (i := 1) rfl (j := 1) rfl ?_
    refine g_icmp_ge (tgt := 134) hX dX8_feed_70 (by decide) (fun c70 => ?_) (fun c70 => ?_)
    · have hF := ite_t hF c70
      refine g_aload_n hX dX8_feed_134 (i := 0) rfl (j := 0) rfl ?_
      refine g_dup hX dX8_feed_135 rfl ?_
      refine gf_X8_208 hX dX8_feed_136 (ty1 hW t0) ?_
      refine g_iload_n hX dX8_feed_139 (i := 1) rfl (j := 1) rfl ?_
      refine g_iadd hX dX8_feed_140 ?_
      obtain ⟨h141, e141, hF⟩ := lt_some hF
      refine pf_X8_208 hX dX8_feed_141 (ty1 hW t0) hM e141 ?_
      refine g_aload_n hX dX8_feed_144 (i := 0) rfl (j := 0) rfl ?_
      refine gf_X8_208 hX dX8_feed_145 (ty1 hW t0) ?_
      obtain rfl := Option.some.inj hF
      exact g_iret hX dX8_feed_148 hR
    · have hF := ite_f hF c70
      refine g_aload_n hX dX8_feed_73 (i := 0) rfl (j := 0) rfl ?_
      have tf74 := (tyF (k := 15) hW t0 (by decide) rfl (by decide) : KM (r p0 15) = 9 ∧ ok (r p0 15))
      refine gf_X8_46 hX dX8_feed_74 (ty1 hW t0) (hW.1 _ tf74.2).1 ?_
      refine g_aload_n hX dX8_feed_77 (i := 0) rfl (j := 0) rfl ?_
      refine gf_X8_208 hX dX8_feed_78 (ty1 hW t0) ?_
      refine g_iload hX dX8_feed_81 (j := 7) rfl ?_
      refine g_iadd hX dX8_feed_83 ?_
      refine g_iload hX dX8_feed_84 (j := 7) rfl ?_
      refine g_if_ne (tgt := 93) hX dX8_feed_86 (by decide) (fun c86 => ?_) (fun c86 => ?_)
      · have hF := ite_t hF c86
        refine g_iload hX dX8_feed_93 (j := 7) rfl ?_
        refine g_iconst (v := 1) hX dX8_feed_95 (by decide) ?_
        refine g_icmp_ne (tgt := 103) hX dX8_feed_96 (by decide) (fun c96 => ?_) (fun c96 => ?_)
        · have hF := ite_t hF c96
          refine g_iload hX dX8_feed_103 (j := 7) rfl ?_
          refine g_iconst (v := 2) hX dX8_feed_105 (by decide) ?_
          refine g_icmp_ne (tgt := 114) hX dX8_feed_106 (by decide) (fun c106 => ?_) (fun c106 => ?_)
          · have hF := ite_t hF c106
            refine g_iload hX dX8_feed_114 (j := 7) rfl ?_
            refine g_iconst (v := 3) hX dX8_feed_116 (by decide) ?_
            refine g_icmp_ne (tgt := 125) hX dX8_feed_117 (by decide) (fun c117 => ?_) (fun c117 => ?_)
            · have hF := ite_t hF c117
              refine g_iload hX dX8_feed_125 (j := 6) rfl ?_
              refine g_sub (L' := [(0, .ref (b + p0)), (1, .int a1), (2, .int a2), (3, .int a3), (4, .int a4), (5, .int a5), (6, .int a6), (7, .int x7)]) [0, 1, 2, 3, 4, 5, 6, 7] rfl ?_
              exact kX8_feed_b127 hX hM hW p0 a1 a2 a3 a4 a5 a6 t0 hR (fun h_ z7_ => fX8_feed_b67 r p0 a1 a2 a3 a4 a5 a6 n h_ z7_) ih h (r p0 15) ((h p0 16) + x7) a6 x7 tf74 hF
            · have hF := ite_f hF (fun z => z c117)
              refine g_iload hX dX8_feed_120 (j := 5) rfl ?_
              refine g_goto (tgt := 127) hX dX8_feed_122 (by decide) ?_
              refine g_sub (L' := [(0, .ref (b + p0)), (1, .int a1), (2, .int a2), (3, .int a3), (4, .int a4), (5, .int a5), (6, .int a6), (7, .int x7)]) [0, 1, 2, 3, 4, 5, 6, 7] rfl ?_
              exact kX8_feed_b127 hX hM hW p0 a1 a2 a3 a4 a5 a6 t0 hR (fun h_ z7_ => fX8_feed_b67 r p0 a1 a2 a3 a4 a5 a6 n h_ z7_) ih h (r p0 15) ((h p0 16) + x7) a5 x7 tf74 hF
          · have hF := ite_f hF (fun z => z c106)
            refine g_iload hX dX8_feed_109 (j := 4) rfl ?_
            refine g_goto (tgt := 127) hX dX8_feed_111 (by decide) ?_
            refine g_sub (L' := [(0, .ref (b + p0)), (1, .int a1), (2, .int a2), (3, .int a3), (4, .int a4), (5, .int a5), (6, .int a6), (7, .int x7)]) [0, 1, 2, 3, 4, 5, 6, 7] rfl ?_
            exact kX8_feed_b127 hX hM hW p0 a1 a2 a3 a4 a5 a6 t0 hR (fun h_ z7_ => fX8_feed_b67 r p0 a1 a2 a3 a4 a5 a6 n h_ z7_) ih h (r p0 15) ((h p0 16) + x7) a4 x7 tf74 hF
        · have hF := ite_f hF (fun z => z c96)
          refine g_iload_n hX dX8_feed_99 (i := 3) rfl (j := 3) rfl ?_
          refine g_goto (tgt := 127) hX dX8_feed_100 (by decide) ?_
          refine g_sub (L' := [(0, .ref (b + p0)), (1, .int a1), (2, .int a2), (3, .int a3), (4, .int a4), (5, .int a5), (6, .int a6), (7, .int x7)]) [0, 1, 2, 3, 4, 5, 6, 7] rfl ?_
          exact kX8_feed_b127 hX hM hW p0 a1 a2 a3 a4 a5 a6 t0 hR (fun h_ z7_ => fX8_feed_b67 r p0 a1 a2 a3 a4 a5 a6 n h_ z7_) ih h (r p0 15) ((h p0 16) + x7) a3 x7 tf74 hF
      · have hF := ite_f hF (fun z => z c86)
        refine g_iload_n hX dX8_feed_89 (i := 2) rfl (j := 2) rfl ?_
        refine g_goto (tgt := 127) hX dX8_feed_90 (by decide) ?_
        refine g_sub (L' := [(0, .ref (b + p0)), (1, .int a1), (2, .int a2), (3, .int a3), (4, .int a4), (5, .int a5), (6, .int a6), (7, .int x7)]) [0, 1, 2, 3, 4, 5, 6, 7] rfl ?_
        exact kX8_feed_b127 hX hM hW p0 a1 a2 a3 a4 a5 a6 t0 hR (fun h_ z7_ => fX8_feed_b67 r p0 a1 a2 a3 a4 a5 a6 n h_ z7_) ih h (r p0 15) ((h p0 16) + x7) a2 x7 tf74 hF
set_option maxRecDepth 100000 in
set_option maxHeartbeats 4000000 in
theorem kX8_feed {X : XT} {b N sz : Nat} {ok : Nat → Prop} {h : HH} {r : RR} {w : Int32 × HH} (hX : XOK X RX8 cX8_feed 8 3) (hM : N ≤ MM) (hW : WT KM lnM ok N r) (p0 : Nat) (a1 : Int32) (a2 : Int32) (a3 : Int32) (a4 : Int32) (a5 : Int32) (a6 : Int32) (t0 : KM p0 = 8 ∧ ok p0) (hR : XR X b KM lnM MM (some FieldType.int) 0 0 N sz (some (.int w.1)) w.2 r) (hF : fX8_feed h r p0 a1 a2 a3 a4 a5 a6 = some w) : GX X b KM lnM MM 8 0 0 N sz 0 [(0, .ref (b + p0)), (1, .int a1), (2, .int a2), (3, .int a3), (4, .int a4), (5, .int a5), (6, .int a6)] [] h r := by
  rw [fX8_feed] at hF
  refine g_iload_n hX dX8_feed_0 (i := 1) rfl (j := 1) rfl ?_
  refine g_iconst (v := 1) hX dX8_feed_1 (by decide) ?_
  refine g_iconst (v := 5) hX dX8_feed_2 (by decide) ?_
  obtain ⟨v3, e3, hF⟩ := bi_some hF
  refine g_callS (As := [.int a1, .int 1, .int 5]) (rest := []) (stk := [.int v3]) hX dX8_feed_3 (ctX8_in hM hW a1 1 5 e3) (by decide) (by decide) wm_X8_133 wt_X8_in wz_X8 wc_X8_in hyX8_in rfl (Nat.le_of_ble_eq_true rfl) rfl rfl ?_ rfl rfl
  refine g_if_eq (tgt := 47) hX dX8_feed_6 (by decide) (fun c6 => ?_) (fun c6 => ?_)
  · have hF := ite_t hF c6
    refine g_bipush (v := (-2)) hX dX8_feed_47 (by decide) ?_
    obtain rfl := Option.some.inj hF
    exact g_iret hX dX8_feed_49 hR
  · have hF := ite_f hF c6
    refine g_iload_n hX dX8_feed_9 (i := 2) rfl (j := 2) rfl ?_
    obtain ⟨v10, e10, hF⟩ := bi_some hF
    refine g_callS (As := [.int a2]) (rest := []) (stk := [.int v10]) hX dX8_feed_10 (ctX8_isByte hM hW a2 e10) (by decide) (by decide) wm_X8_205 wt_X8_isByte wz_X8 wc_X8_isByte hyX8_isByte rfl (Nat.le_of_ble_eq_true rfl) rfl rfl ?_ rfl rfl
    refine g_if_eq (tgt := 47) hX dX8_feed_13 (by decide) (fun c13 => ?_) (fun c13 => ?_)
    · have hF := ite_t hF c13
      refine g_bipush (v := (-2)) hX dX8_feed_47 (by decide) ?_
      obtain rfl := Option.some.inj hF
      exact g_iret hX dX8_feed_49 hR
    · have hF := ite_f hF c13
      refine g_iload_n hX dX8_feed_16 (i := 3) rfl (j := 3) rfl ?_
      obtain ⟨v17, e17, hF⟩ := bi_some hF
      refine g_callS (As := [.int a3]) (rest := []) (stk := [.int v17]) hX dX8_feed_17 (ctX8_isByte hM hW a3 e17) (by decide) (by decide) wm_X8_205 wt_X8_isByte wz_X8 wc_X8_isByte hyX8_isByte rfl (Nat.le_of_ble_eq_true rfl) rfl rfl ?_ rfl rfl
      refine g_if_eq (tgt := 47) hX dX8_feed_20 (by decide) (fun c20 => ?_) (fun c20 => ?_)
      · have hF := ite_t hF c20
        refine g_bipush (v := (-2)) hX dX8_feed_47 (by decide) ?_
        obtain rfl := Option.some.inj hF
        exact g_iret hX dX8_feed_49 hR
      · have hF := ite_f hF c20
        refine g_iload hX dX8_feed_23 (j := 4) rfl ?_
        obtain ⟨v25, e25, hF⟩ := bi_some hF
        refine g_callS (As := [.int a4]) (rest := []) (stk := [.int v25]) hX dX8_feed_25 (ctX8_isByte hM hW a4 e25) (by decide) (by decide) wm_X8_205 wt_X8_isByte wz_X8 wc_X8_isByte hyX8_isByte rfl (Nat.le_of_ble_eq_true rfl) rfl rfl ?_ rfl rfl
        refine g_if_eq (tgt := 47) hX dX8_feed_28 (by decide) (fun c28 => ?_) (fun c28 => ?_)
        · have hF := ite_t hF c28
          refine g_bipush (v := (-2)) hX dX8_feed_47 (by decide) ?_
          obtain rfl := Option.some.inj hF
          exact g_iret hX dX8_feed_49 hR
        · have hF := ite_f hF c28
          refine g_iload hX dX8_feed_31 (j := 5) rfl ?_
          obtain ⟨v33, e33, hF⟩ := bi_some hF
          refine g_callS (As := [.int a5]) (rest := []) (stk := [.int v33]) hX dX8_feed_33 (ctX8_isByte hM hW a5 e33) (by decide) (by decide) wm_X8_205 wt_X8_isByte wz_X8 wc_X8_isByte hyX8_isByte rfl (Nat.le_of_ble_eq_true rfl) rfl rfl ?_ rfl rfl
          refine g_if_eq (tgt := 47) hX dX8_feed_36 (by decide) (fun c36 => ?_) (fun c36 => ?_)
          · have hF := ite_t hF c36
            refine g_bipush (v := (-2)) hX dX8_feed_47 (by decide) ?_
            obtain rfl := Option.some.inj hF
            exact g_iret hX dX8_feed_49 hR
          · have hF := ite_f hF c36
            refine g_iload hX dX8_feed_39 (j := 6) rfl ?_
            obtain ⟨v41, e41, hF⟩ := bi_some hF
            refine g_callS (As := [.int a6]) (rest := []) (stk := [.int v41]) hX dX8_feed_41 (ctX8_isByte hM hW a6 e41) (by decide) (by decide) wm_X8_205 wt_X8_isByte wz_X8 wc_X8_isByte hyX8_isByte rfl (Nat.le_of_ble_eq_true rfl) rfl rfl ?_ rfl rfl
            refine g_if_ne (tgt := 50) hX dX8_feed_44 (by decide) (fun c44 => ?_) (fun c44 => ?_)
            · have hF := ite_t hF c44
              refine g_aload_n hX dX8_feed_50 (i := 0) rfl (j := 0) rfl ?_
              refine gf_X8_208 hX dX8_feed_51 (ty1 hW t0) ?_
              refine g_iload_n hX dX8_feed_54 (i := 1) rfl (j := 1) rfl ?_
              refine g_iadd hX dX8_feed_55 ?_
              refine g_bipush (v := 40) hX dX8_feed_56 (by decide) ?_
              refine g_icmp_le (tgt := 64) hX dX8_feed_58 (by decide) (fun c58 => ?_) (fun c58 => ?_)
              · have hF := ite_t hF c58
                refine g_iconst (v := 0) hX dX8_feed_64 (by decide) ?_
                refine g_istore (L' := [(7, .int 0), (0, .ref (b + p0)), (1, .int a1), (2, .int a2), (3, .int a3), (4, .int a4), (5, .int a5), (6, .int a6)]) hX dX8_feed_65 (by decide) rfl ?_
                refine g_sub (L' := [(0, .ref (b + p0)), (1, .int a1), (2, .int a2), (3, .int a3), (4, .int a4), (5, .int a5), (6, .int a6), (7, .int 0)]) [1, 2, 3, 4, 5, 6, 7, 0] rfl ?_
                exact kX8_feed_b67 hX hM hW p0 a1 a2 a3 a4 a5 a6 t0 hR lpF h 0 hF
              · have hF := ite_f hF c58
                refine g_bipush (v := (-4)) hX dX8_feed_61 (by decide) ?_
                obtain rfl := Option.some.inj hF
                exact g_iret hX dX8_feed_63 hR
            · have hF := ite_f hF (fun z => z c44)
              refine g_bipush (v := (-2)) hX dX8_feed_47 (by decide) ?_
              obtain rfl := Option.some.inj hF
              exact g_iret hX dX8_feed_49 hR
theorem ctX8_feed {b N sz : Nat} {ok : Nat → Prop} {h : HH} {r : RR} {w : Int32 × HH} (hM : N ≤ MM) (hW : WT KM lnM ok N r) (p0 : Nat) (a1 : Int32) (a2 : Int32) (a3 : Int32) (a4 : Int32) (a5 : Int32) (a6 : Int32) (t0 : KM p0 = 8 ∧ ok p0) (hF : fX8_feed h r p0 a1 a2 a3 a4 a5 a6 = some w) : CT yX8_feed cX8_feed 8 (some FieldType.int) 3 b KM lnM MM N sz [.ref (b + p0), .int a1, .int a2, .int a3, .int a4, .int a5, .int a6] h r N sz (some (.int w.1)) w.2 r 0 0 :=
  CT_of (by decide) rfl (Nat.le_of_ble_eq_true rfl) (by decide) trivial (fun X hX hR => kX8_feed hX hM hW p0 a1 a2 a3 a4 a5 a6 t0 hR hF)
/-! X8_byteAt -/
def fX8_byteAt (h : HH) (r : RR) (p0 : Nat) (a1 : Int32) : Option (Int32) := if (h p0 16) ≤ a1 then (some (-1)) else (gd (inb a1 (lnM (r p0 15))) (some (h (r p0 15) (ix a1))))
set_option maxRecDepth 100000 in
set_option maxHeartbeats 4000000 in
theorem kX8_byteAt {X : XT} {b N sz : Nat} {ok : Nat → Prop} {h : HH} {r : RR} {w : Int32} (hX : XOK X RX8 cX8_byteAt 2 1) (hM : N ≤ MM) (hW : WT KM lnM ok N r) (p0 : Nat) (a1 : Int32) (t0 : KM p0 = 8 ∧ ok p0) (hR : XR X b KM lnM MM (some FieldType.int) 0 0 N sz (some (.int w)) h r) (hF : fX8_byteAt h r p0 a1 = some w) : GX X b KM lnM MM 2 0 0 N sz 0 [(0, .ref (b + p0)), (1, .int a1)] [] h r := by
  rw [fX8_byteAt] at hF
  refine g_iload_n hX dX8_byteAt_0 (i := 1) rfl (j := 1) rfl ?_
  refine g_aload_n hX dX8_byteAt_1 (i := 0) rfl (j := 0) rfl ?_
  refine gf_X8_208 hX dX8_byteAt_2 (ty1 hW t0) ?_
  refine g_icmp_ge (tgt := 17) hX dX8_byteAt_5 (by decide) (fun c5 => ?_) (fun c5 => ?_)
  · have hF := ite_t hF c5
    refine g_iconst (v := (-1)) hX dX8_byteAt_17 (by decide) ?_
    obtain rfl := Option.some.inj hF
    exact g_iret hX dX8_byteAt_18 hR
  · have hF := ite_f hF c5
    refine g_aload_n hX dX8_byteAt_8 (i := 0) rfl (j := 0) rfl ?_
    have tf9 := (tyF (k := 15) hW t0 (by decide) rfl (by decide) : KM (r p0 15) = 9 ∧ ok (r p0 15))
    refine gf_X8_46 hX dX8_byteAt_9 (ty1 hW t0) (hW.1 _ tf9.2).1 ?_
    refine g_iload_n hX dX8_byteAt_12 (i := 1) rfl (j := 1) rfl ?_
    obtain ⟨g13, hF⟩ := gd_some hF
    refine g_iald hX dX8_byteAt_13 tf9.1 (hW.1 _ tf9.2).1 (hW.1 _ tf9.2).2 g13 ?_
    refine g_goto (tgt := 18) hX dX8_byteAt_14 (by decide) ?_
    obtain rfl := Option.some.inj hF
    exact g_iret hX dX8_byteAt_18 hR
theorem ctX8_byteAt {b N sz : Nat} {ok : Nat → Prop} {h : HH} {r : RR} {w : Int32} (hM : N ≤ MM) (hW : WT KM lnM ok N r) (p0 : Nat) (a1 : Int32) (t0 : KM p0 = 8 ∧ ok p0) (hF : fX8_byteAt h r p0 a1 = some w) : CT yX8_byteAt cX8_byteAt 2 (some FieldType.int) 1 b KM lnM MM N sz [.ref (b + p0), .int a1] h r N sz (some (.int w)) h r 0 0 :=
  CT_of (by decide) rfl (Nat.le_of_ble_eq_true rfl) (by decide) trivial (fun X hX hR => kX8_byteAt hX hM hW p0 a1 t0 hR hF)
/-! X8_next -/
def fX8_next_b34 (r : RR) (p0 : Nat) (k8 : HH → Option (HH)) (h : HH) : Option (HH) := lt (up h p0 17 ((h p0 17) + 1)) (fun h41 => k8 h41)
def fX8_next_b164 (r : RR) (p0 : Nat) (h : HH) (u0 : Nat) (s1 : Int32) : Option (HH) := lt (up h u0 20 s1) (fun h164 => some h164)
def fX8_next_b153 (r : RR) (p0 : Nat) (h : HH) (x2 : Int32) : Option (HH) := if x2 = 0 then (fX8_next_b164 r p0 h p0 (-1)) else (fX8_next_b164 r p0 h p0 (-2))
def fX8_next_b138 (r : RR) (p0 : Nat) (h : HH) (s0 : Int32) : Option (HH) := if s0 = 0 then (fX8_next_b153 r p0 h s0) else (lt (up h p0 17 ((h p0 17) + 1)) (fun h150 => fX8_next_b153 r p0 h150 s0))
def fX8_next_b243 (r : RR) (p0 : Nat) (k189 : HH → Option (HH)) (h : HH) : Option (HH) := lt (up h p0 17 ((h p0 17) + 1)) (fun h250 => k189 h250)
def fX8_next_b275 (r : RR) (p0 : Nat) (h : HH) (u0 : Nat) (s1 : Int32) : Option (HH) := bz s1 (lt (up h u0 21 s1) (fun h275 => some h275))
def fX8_next_b189 (r : RR) (p0 : Nat) : Nat → HH → Option (HH)
  | 0, _ => none
  | n + 1, h => (fX8_byteAt h r p0 (h p0 17)).bind (fun v194 => (fX8_in h r v194 48 57).bind (fun v201 => if v201 = 0 then (if ((h p0 17) - (h p0 18)) ≤ 2 then (fX8_next_b275 r p0 h p0 0) else (fX8_next_b275 r p0 h p0 1)) else (if 2 ≤ ((h p0 17) - (h p0 18)) then (fX8_next_b243 r p0 (fun h_ => fX8_next_b189 r p0 n h_) h) else ((fX8_byteAt h r p0 (h p0 17)).bind (fun v233 => lt (up h p0 20 (((10 * (h p0 20)) + v233) - 48)) (fun h240 => fX8_next_b243 r p0 (fun h_ => fX8_next_b189 r p0 n h_) h240))))))
def fX8_next_b95 (r : RR) (p0 : Nat) (h : HH) (u0 : Nat) (s1 : Int32) (x1 : Int32) : Option (HH) := lt (up h u0 19 s1) (fun h95 => if ¬ x1 = (-1) then (lt (up h95 p0 17 ((h95 p0 17) + 1)) (fun h111 => if ¬ x1 = 42 then ((fX8_in h111 r x1 48 57).bind (fun v175 => if v175 = 0 then (if ¬ (h111 p0 19) = 1 then (some h111) else (lt (up h111 p0 21 1) (fun h291 => some h291))) else (lt (up h111 p0 20 (x1 - 48)) (fun h186 => fX8_next_b189 r p0 lpF h186)))) else ((fX8_byteAt h111 r p0 (h111 p0 17)).bind (fun v125 => if ¬ v125 = 42 then (fX8_next_b138 r p0 h111 0) else (fX8_next_b138 r p0 h111 1))))) else (some h95))
def fX8_next_b8 (r : RR) (p0 : Nat) : Nat → HH → Option (HH)
  | 0, _ => none
  | n + 1, h => (fX8_byteAt h r p0 (h p0 17)).bind (fun v13 => if v13 = 32 then (fX8_next_b34 r p0 (fun h_ => fX8_next_b8 r p0 n h_) h) else ((fX8_byteAt h r p0 (h p0 17)).bind (fun v26 => if ¬ v26 = 10 then (lt (up h p0 18 (h p0 17)) (fun h52 => (fX8_byteAt h52 r p0 (h52 p0 17)).bind (fun v60 => if ¬ v60 = (-1) then (if ¬ v60 = 33 then (if ¬ v60 = 47 then (fX8_next_b95 r p0 h52 p0 1 v60) else (fX8_next_b95 r p0 h52 p0 3 v60)) else (fX8_next_b95 r p0 h52 p0 2 v60)) else (fX8_next_b95 r p0 h52 p0 0 v60)))) else (fX8_next_b34 r p0 (fun h_ => fX8_next_b8 r p0 n h_) h))))
def fX8_next (h : HH) (r : RR) (p0 : Nat) : Option (HH) := if (h p0 21) = 0 then (fX8_next_b8 r p0 lpF h) else (some h)
set_option maxRecDepth 100000 in
set_option maxHeartbeats 4000000 in
theorem kX8_next_b34 {X : XT} {b N sz : Nat} {ok : Nat → Prop} {r : RR} {w : HH} (hX : XOK X RX8 cX8_next 3 2) (hM : N ≤ MM) (hW : WT KM lnM ok N r) (p0 : Nat) (t0 : KM p0 = 8 ∧ ok p0) (hR : XR X b KM lnM MM (none) 0 0 N sz none w r) (k8 : HH → Option (HH)) (hk8 : ∀ (h : HH), k8 h = some w → GX X b KM lnM MM 3 0 0 N sz 8 [(0, .ref (b + p0))] [] h r) (h : HH) (hF : fX8_next_b34 r p0 k8 h = some w) : GX X b KM lnM MM 3 0 0 N sz 34 [(0, .ref (b + p0))] [] h r := by
  rw [fX8_next_b34] at hF
  refine g_aload_n hX dX8_next_34 (i := 0) rfl (j := 0) rfl ?_
  refine g_dup hX dX8_next_35 rfl ?_
  refine gf_X8_215 hX dX8_next_36 (ty1 hW t0) ?_
  refine g_iconst (v := 1) hX dX8_next_39 (by decide) ?_
  refine g_iadd hX dX8_next_40 ?_
  obtain ⟨h41, e41, hF⟩ := lt_some hF
  refine pf_X8_215 hX dX8_next_41 (ty1 hW t0) hM e41 ?_
  refine g_goto (tgt := 8) hX dX8_next_44 (by decide) ?_
  refine g_sub (L' := [(0, .ref (b + p0))]) [0] rfl ?_
  exact hk8 h41 hF
set_option maxRecDepth 100000 in
set_option maxHeartbeats 4000000 in
theorem kX8_next_b164 {X : XT} {b N sz : Nat} {ok : Nat → Prop} {r : RR} {w : HH} (hX : XOK X RX8 cX8_next 3 2) (hM : N ≤ MM) (hW : WT KM lnM ok N r) (p0 : Nat) (t0 : KM p0 = 8 ∧ ok p0) (hR : XR X b KM lnM MM (none) 0 0 N sz none w r) (h : HH) (u0 : Nat) (s1 : Int32) (ts0 : KM u0 = 8 ∧ ok u0) (hF : fX8_next_b164 r p0 h u0 s1 = some w) : GX X b KM lnM MM 3 0 0 N sz 164 [(0, .ref (b + p0))] [.int s1, .ref (b + u0)] h r := by
  rw [fX8_next_b164] at hF
  obtain ⟨h164, e164, hF⟩ := lt_some hF
  refine pf_X8_227 hX dX8_next_164 (ty1 hW ts0) hM e164 ?_
  refine g_goto (tgt := 294) hX dX8_next_167 (by decide) ?_
  obtain rfl := Option.some.inj hF
  exact g_vret hX dX8_next_294 hR
set_option maxRecDepth 100000 in
set_option maxHeartbeats 4000000 in
theorem kX8_next_b153 {X : XT} {b N sz : Nat} {ok : Nat → Prop} {r : RR} {w : HH} (hX : XOK X RX8 cX8_next 3 2) (hM : N ≤ MM) (hW : WT KM lnM ok N r) (p0 : Nat) (t0 : KM p0 = 8 ∧ ok p0) (hR : XR X b KM lnM MM (none) 0 0 N sz none w r) (h : HH) (x2 : Int32) (hF : fX8_next_b153 r p0 h x2 = some w) : GX X b KM lnM MM 3 0 0 N sz 153 [(0, .ref (b + p0)), (2, .int x2)] [] h r := by
  rw [fX8_next_b153] at hF
  refine g_aload_n hX dX8_next_153 (i := 0) rfl (j := 0) rfl ?_
  refine g_iload_n hX dX8_next_154 (i := 2) rfl (j := 1) rfl ?_
  refine g_if_eq (tgt := 163) hX dX8_next_155 (by decide) (fun c155 => ?_) (fun c155 => ?_)
  · have hF := ite_t hF c155
    refine g_iconst (v := (-1)) hX dX8_next_163 (by decide) ?_
    refine g_sub (L' := [(0, .ref (b + p0))]) [0] rfl ?_
    exact kX8_next_b164 hX hM hW p0 t0 hR h p0 (-1) t0 hF
  · have hF := ite_f hF c155
    refine g_bipush (v := (-2)) hX dX8_next_158 (by decide) ?_
    refine g_goto (tgt := 164) hX dX8_next_160 (by decide) ?_
    refine g_sub (L' := [(0, .ref (b + p0))]) [0] rfl ?_
    exact kX8_next_b164 hX hM hW p0 t0 hR h p0 (-2) t0 hF
set_option maxRecDepth 100000 in
set_option maxHeartbeats 4000000 in
theorem kX8_next_b138 {X : XT} {b N sz : Nat} {ok : Nat → Prop} {r : RR} {w : HH} (hX : XOK X RX8 cX8_next 3 2) (hM : N ≤ MM) (hW : WT KM lnM ok N r) (p0 : Nat) (t0 : KM p0 = 8 ∧ ok p0) (hR : XR X b KM lnM MM (none) 0 0 N sz none w r) (h : HH) (s0 : Int32) (hF : fX8_next_b138 r p0 h s0 = some w) : GX X b KM lnM MM 3 0 0 N sz 138 [(0, .ref (b + p0))] [.int s0] h r := by
  rw [fX8_next_b138] at hF
  refine g_istore_n (L' := [(2, .int s0), (0, .ref (b + p0))]) hX dX8_next_138 (i := 2) rfl (by decide) rfl ?_
  refine g_iload_n hX dX8_next_139 (i := 2) rfl (j := 0) rfl ?_
  refine g_if_eq (tgt := 153) hX dX8_next_140 (by decide) (fun c140 => ?_) (fun c140 => ?_)
  · have hF := ite_t hF c140
    refine g_sub (L' := [(0, .ref (b + p0)), (2, .int s0)]) [1, 0] rfl ?_
    exact kX8_next_b153 hX hM hW p0 t0 hR h s0 hF
  · have hF := ite_f hF c140
    refine g_aload_n hX dX8_next_143 (i := 0) rfl (j := 1) rfl ?_
    refine g_dup hX dX8_next_144 rfl ?_
    refine gf_X8_215 hX dX8_next_145 (ty1 hW t0) ?_
    refine g_iconst (v := 1) hX dX8_next_148 (by decide) ?_
    refine g_iadd hX dX8_next_149 ?_
    obtain ⟨h150, e150, hF⟩ := lt_some hF
    refine pf_X8_215 hX dX8_next_150 (ty1 hW t0) hM e150 ?_
    refine g_sub (L' := [(0, .ref (b + p0)), (2, .int s0)]) [1, 0] rfl ?_
    exact kX8_next_b153 hX hM hW p0 t0 hR h150 s0 hF
set_option maxRecDepth 100000 in
set_option maxHeartbeats 4000000 in
theorem kX8_next_b243 {X : XT} {b N sz : Nat} {ok : Nat → Prop} {r : RR} {w : HH} (hX : XOK X RX8 cX8_next 3 2) (hM : N ≤ MM) (hW : WT KM lnM ok N r) (p0 : Nat) (t0 : KM p0 = 8 ∧ ok p0) (hR : XR X b KM lnM MM (none) 0 0 N sz none w r) (k189 : HH → Option (HH)) (hk189 : ∀ (h : HH), k189 h = some w → GX X b KM lnM MM 3 0 0 N sz 189 [(0, .ref (b + p0))] [] h r) (h : HH) (hF : fX8_next_b243 r p0 k189 h = some w) : GX X b KM lnM MM 3 0 0 N sz 243 [(0, .ref (b + p0))] [] h r := by
  rw [fX8_next_b243] at hF
  refine g_aload_n hX dX8_next_243 (i := 0) rfl (j := 0) rfl ?_
  refine g_dup hX dX8_next_244 rfl ?_
  refine gf_X8_215 hX dX8_next_245 (ty1 hW t0) ?_
  refine g_iconst (v := 1) hX dX8_next_248 (by decide) ?_
  refine g_iadd hX dX8_next_249 ?_
  obtain ⟨h250, e250, hF⟩ := lt_some hF
  refine pf_X8_215 hX dX8_next_250 (ty1 hW t0) hM e250 ?_
  refine g_goto (tgt := 189) hX dX8_next_253 (by decide) ?_
  refine g_sub (L' := [(0, .ref (b + p0))]) [0] rfl ?_
  exact hk189 h250 hF
set_option maxRecDepth 100000 in
set_option maxHeartbeats 4000000 in
theorem kX8_next_b275 {X : XT} {b N sz : Nat} {ok : Nat → Prop} {r : RR} {w : HH} (hX : XOK X RX8 cX8_next 3 2) (hM : N ≤ MM) (hW : WT KM lnM ok N r) (p0 : Nat) (t0 : KM p0 = 8 ∧ ok p0) (hR : XR X b KM lnM MM (none) 0 0 N sz none w r) (h : HH) (u0 : Nat) (s1 : Int32) (ts0 : KM u0 = 8 ∧ ok u0) (hF : fX8_next_b275 r p0 h u0 s1 = some w) : GX X b KM lnM MM 3 0 0 N sz 275 [(0, .ref (b + p0))] [.int s1, .ref (b + u0)] h r := by
  rw [fX8_next_b275] at hF
  obtain ⟨z275, hF⟩ := bz_some hF
  obtain ⟨h275, e275, hF⟩ := lt_some hF
  refine pf_X8_211 hX dX8_next_275 (ty1 hW ts0) hM z275 e275 ?_
  refine g_goto (tgt := 294) hX dX8_next_278 (by decide) ?_
  obtain rfl := Option.some.inj hF
  exact g_vret hX dX8_next_294 hR
set_option maxRecDepth 100000 in
set_option maxHeartbeats 4000000 in
theorem kX8_next_b189 {X : XT} {b N sz : Nat} {ok : Nat → Prop} {r : RR} {w : HH} (hX : XOK X RX8 cX8_next 3 2) (hM : N ≤ MM) (hW : WT KM lnM ok N r) (p0 : Nat) (t0 : KM p0 = 8 ∧ ok p0) (hR : XR X b KM lnM MM (none) 0 0 N sz none w r) : ∀ (n : Nat) (h : HH), fX8_next_b189 r p0 n h = some w → GX X b KM lnM MM 3 0 0 N sz 189 [(0, .ref (b + p0))] [] h r := by
  intro n
  induction n with
  | zero =>
    intro h hF
    cases hF
  | succ n ih =>
    intro h hF
    rw [fX8_next_b189] at hF
    refine g_aload_n hX dX8_next_189 (i := 0) rfl (j := 0) rfl ?_
    refine g_aload_n hX dX8_next_190 (i := 0) rfl (j := 0) rfl ?_
    refine gf_X8_215 hX dX8_next_191 (ty1 hW t0) ?_
    obtain ⟨v194, e194, hF⟩ := bi_some hF
    refine g_callV (As := [.int (h p0 17)]) (rest := []) (stk := [.int v194]) hX dX8_next_194 (ctX8_byteAt hM hW p0 (h p0 17) t0 e194) (by decide) (by decide) wm_X8_218 wi_X8_byteAt ws_X8_byteAt wz_X8 wc_X8_byteAt hyX8_byteAt rfl (ci := 8) rfl (by decide) t0.1 (hW.1 _ t0.2).1 (hW.1 _ t0.2).2 (Nat.le_of_ble_eq_true rfl) rfl rfl ?_ rfl rfl
    refine g_bipush (v := 48) hX dX8_next_197 (by decide) ?_
    refine g_bipush (v := 57) hX dX8_next_199 (by decide) ?_
    obtain ⟨v201, e201, hF⟩ := bi_some hF
    refine g_callS (As := [.int v194, .int 48, .int 57]) (rest := []) (stk := [.int v201]) hX dX8_next_201 (ctX8_in hM hW v194 48 57 e201) (by decide) (by decide) wm_X8_133 wt_X8_in wz_X8 wc_X8_in hyX8_in rfl (Nat.le_of_ble_eq_true rfl) rfl rfl ?_ rfl rfl
    refine g_if_eq (tgt := 256) hX dX8_next_204 (by decide) (fun c204 => ?_) (fun c204 => ?_)
    · have hF := ite_t hF c204
      refine g_aload_n hX dX8_next_256 (i := 0) rfl (j := 0) rfl ?_
      refine g_aload_n hX dX8_next_257 (i := 0) rfl (j := 0) rfl ?_
      refine gf_X8_215 hX dX8_next_258 (ty1 hW t0) ?_
      refine g_aload_n hX dX8_next_261 (i := 0) rfl (j := 0) rfl ?_
      refine gf_X8_221 hX dX8_next_262 (ty1 hW t0) ?_
      refine g_isub hX dX8_next_265 ?_
      refine g_iconst (v := 2) hX dX8_next_266 (by decide) ?_
      refine g_icmp_le (tgt := 274) hX dX8_next_267 (by decide) (fun c267 => ?_) (fun c267 => ?_)
      · have hF := ite_t hF c267
        refine g_iconst (v := 0) hX dX8_next_274 (by decide) ?_
        refine g_sub (L' := [(0, .ref (b + p0))]) [0] rfl ?_
        exact kX8_next_b275 hX hM hW p0 t0 hR h p0 0 t0 hF
      · have hF := ite_f hF c267
        refine g_iconst (v := 1) hX dX8_next_270 (by decide) ?_
        refine g_goto (tgt := 275) hX dX8_next_271 (by decide) ?_
        refine g_sub (L' := [(0, .ref (b + p0))]) [0] rfl ?_
        exact kX8_next_b275 hX hM hW p0 t0 hR h p0 1 t0 hF
    · have hF := ite_f hF c204
      refine g_aload_n hX dX8_next_207 (i := 0) rfl (j := 0) rfl ?_
      refine gf_X8_215 hX dX8_next_208 (ty1 hW t0) ?_
      refine g_aload_n hX dX8_next_211 (i := 0) rfl (j := 0) rfl ?_
      refine gf_X8_221 hX dX8_next_212 (ty1 hW t0) ?_
      refine g_isub hX dX8_next_215 ?_
      refine g_iconst (v := 2) hX dX8_next_216 (by decide) ?_
      refine g_icmp_ge (tgt := 243) hX dX8_next_217 (by decide) (fun c217 => ?_) (fun c217 => ?_)
      · have hF := ite_t hF c217
        refine g_sub (L' := [(0, .ref (b + p0))]) [0] rfl ?_
        exact kX8_next_b243 hX hM hW p0 t0 hR (fun h_ => fX8_next_b189 r p0 n h_) ih h hF
      · have hF := ite_f hF c217
        refine g_aload_n hX dX8_next_220 (i := 0) rfl (j := 0) rfl ?_
        refine g_bipush (v := 10) hX dX8_next_221 (by decide) ?_
        refine g_aload_n hX dX8_next_223 (i := 0) rfl (j := 0) rfl ?_
        refine gf_X8_227 hX dX8_next_224 (ty1 hW t0) ?_
        refine g_imul hX dX8_next_227 ?_
        refine g_aload_n hX dX8_next_228 (i := 0) rfl (j := 0) rfl ?_
        refine g_aload_n hX dX8_next_229 (i := 0) rfl (j := 0) rfl ?_
        refine gf_X8_215 hX dX8_next_230 (ty1 hW t0) ?_
        obtain ⟨v233, e233, hF⟩ := bi_some hF
        refine g_callV (As := [.int (h p0 17)]) (rest := [.int (10 * (h p0 20)), .ref (b + p0)]) (stk := [.int v233, .int (10 * (h p0 20)), .ref (b + p0)]) hX dX8_next_233 (ctX8_byteAt hM hW p0 (h p0 17) t0 e233) (by decide) (by decide) wm_X8_218 wi_X8_byteAt ws_X8_byteAt wz_X8 wc_X8_byteAt hyX8_byteAt rfl (ci := 8) rfl (by decide) t0.1 (hW.1 _ t0.2).1 (hW.1 _ t0.2).2 (Nat.le_of_ble_eq_true rfl) rfl rfl ?_ rfl rfl
        refine g_iadd hX dX8_next_236 ?_
        refine g_bipush (v := 48) hX dX8_next_237 (by decide) ?_
        refine g_isub hX dX8_next_239 ?_
        obtain ⟨h240, e240, hF⟩ := lt_some hF
        refine pf_X8_227 hX dX8_next_240 (ty1 hW t0) hM e240 ?_
        refine g_sub (L' := [(0, .ref (b + p0))]) [0] rfl ?_
        exact kX8_next_b243 hX hM hW p0 t0 hR (fun h_ => fX8_next_b189 r p0 n h_) ih h240 hF
set_option maxRecDepth 100000 in
set_option maxHeartbeats 4000000 in
theorem kX8_next_b95 {X : XT} {b N sz : Nat} {ok : Nat → Prop} {r : RR} {w : HH} (hX : XOK X RX8 cX8_next 3 2) (hM : N ≤ MM) (hW : WT KM lnM ok N r) (p0 : Nat) (t0 : KM p0 = 8 ∧ ok p0) (hR : XR X b KM lnM MM (none) 0 0 N sz none w r) (h : HH) (u0 : Nat) (s1 : Int32) (x1 : Int32) (ts0 : KM u0 = 8 ∧ ok u0) (hF : fX8_next_b95 r p0 h u0 s1 x1 = some w) : GX X b KM lnM MM 3 0 0 N sz 95 [(0, .ref (b + p0)), (1, .int x1)] [.int s1, .ref (b + u0)] h r := by
  rw [fX8_next_b95] at hF
  obtain ⟨h95, e95, hF⟩ := lt_some hF
  refine pf_X8_224 hX dX8_next_95 (ty1 hW ts0) hM e95 ?_
  refine g_iload_n hX dX8_next_98 (i := 1) rfl (j := 1) rfl ?_
  refine g_iconst (v := (-1)) hX dX8_next_99 (by decide) ?_
  refine g_icmp_ne (tgt := 104) hX dX8_next_100 (by decide) (fun c100 => ?_) (fun c100 => ?_)
  · have hF := ite_t hF c100
    refine g_aload_n hX dX8_next_104 (i := 0) rfl (j := 0) rfl ?_
    refine g_dup hX dX8_next_105 rfl ?_
    refine gf_X8_215 hX dX8_next_106 (ty1 hW t0) ?_
    refine g_iconst (v := 1) hX dX8_next_109 (by decide) ?_
    refine g_iadd hX dX8_next_110 ?_
    obtain ⟨h111, e111, hF⟩ := lt_some hF
    refine pf_X8_215 hX dX8_next_111 (ty1 hW t0) hM e111 ?_
    refine g_iload_n hX dX8_next_114 (i := 1) rfl (j := 1) rfl ?_
    refine g_bipush (v := 42) hX dX8_next_115 (by decide) ?_
    refine g_icmp_ne (tgt := 170) hX dX8_next_117 (by decide) (fun c117 => ?_) (fun c117 => ?_)
    · have hF := ite_t hF c117
      refine g_iload_n hX dX8_next_170 (i := 1) rfl (j := 1) rfl ?_
      refine g_bipush (v := 48) hX dX8_next_171 (by decide) ?_
      refine g_bipush (v := 57) hX dX8_next_173 (by decide) ?_
      obtain ⟨v175, e175, hF⟩ := bi_some hF
      refine g_callS (As := [.int x1, .int 48, .int 57]) (rest := []) (stk := [.int v175]) hX dX8_next_175 (ctX8_in hM hW x1 48 57 e175) (by decide) (by decide) wm_X8_133 wt_X8_in wz_X8 wc_X8_in hyX8_in rfl (Nat.le_of_ble_eq_true rfl) rfl rfl ?_ rfl rfl
      refine g_if_eq (tgt := 281) hX dX8_next_178 (by decide) (fun c178 => ?_) (fun c178 => ?_)
      · have hF := ite_t hF c178
        refine g_aload_n hX dX8_next_281 (i := 0) rfl (j := 0) rfl ?_
        refine gf_X8_224 hX dX8_next_282 (ty1 hW t0) ?_
        refine g_iconst (v := 1) hX dX8_next_285 (by decide) ?_
        refine g_icmp_ne (tgt := 294) hX dX8_next_286 (by decide) (fun c286 => ?_) (fun c286 => ?_)
        · have hF := ite_t hF c286
          obtain rfl := Option.some.inj hF
          exact g_vret hX dX8_next_294 hR
        · have hF := ite_f hF (fun z => z c286)
          refine g_aload_n hX dX8_next_289 (i := 0) rfl (j := 0) rfl ?_
          refine g_iconst (v := 1) hX dX8_next_290 (by decide) ?_
          obtain ⟨h291, e291, hF⟩ := lt_some hF
          refine pf_X8_211 hX dX8_next_291 (ty1 hW t0) hM (by decide) e291 ?_
          obtain rfl := Option.some.inj hF
          exact g_vret hX dX8_next_294 hR
      · have hF := ite_f hF c178
        refine g_aload_n hX dX8_next_181 (i := 0) rfl (j := 0) rfl ?_
        refine g_iload_n hX dX8_next_182 (i := 1) rfl (j := 1) rfl ?_
        refine g_bipush (v := 48) hX dX8_next_183 (by decide) ?_
        refine g_isub hX dX8_next_185 ?_
        obtain ⟨h186, e186, hF⟩ := lt_some hF
        refine pf_X8_227 hX dX8_next_186 (ty1 hW t0) hM e186 ?_
        refine g_sub (L' := [(0, .ref (b + p0))]) [0] rfl ?_
        exact kX8_next_b189 hX hM hW p0 t0 hR lpF h186 hF
    · have hF := ite_f hF (fun z => z c117)
      refine g_aload_n hX dX8_next_120 (i := 0) rfl (j := 0) rfl ?_
      refine g_aload_n hX dX8_next_121 (i := 0) rfl (j := 0) rfl ?_
      refine gf_X8_215 hX dX8_next_122 (ty1 hW t0) ?_
      obtain ⟨v125, e125, hF⟩ := bi_some hF
      refine g_callV (As := [.int (h111 p0 17)]) (rest := []) (stk := [.int v125]) hX dX8_next_125 (ctX8_byteAt hM hW p0 (h111 p0 17) t0 e125) (by decide) (by decide) wm_X8_218 wi_X8_byteAt ws_X8_byteAt wz_X8 wc_X8_byteAt hyX8_byteAt rfl (ci := 8) rfl (by decide) t0.1 (hW.1 _ t0.2).1 (hW.1 _ t0.2).2 (Nat.le_of_ble_eq_true rfl) rfl rfl ?_ rfl rfl
      refine g_bipush (v := 42) hX dX8_next_128 (by decide) ?_
      refine g_icmp_ne (tgt := 137) hX dX8_next_130 (by decide) (fun c130 => ?_) (fun c130 => ?_)
      · have hF := ite_t hF c130
        refine g_iconst (v := 0) hX dX8_next_137 (by decide) ?_
        refine g_sub (L' := [(0, .ref (b + p0))]) [0] rfl ?_
        exact kX8_next_b138 hX hM hW p0 t0 hR h111 0 hF
      · have hF := ite_f hF (fun z => z c130)
        refine g_iconst (v := 1) hX dX8_next_133 (by decide) ?_
        refine g_goto (tgt := 138) hX dX8_next_134 (by decide) ?_
        refine g_sub (L' := [(0, .ref (b + p0))]) [0] rfl ?_
        exact kX8_next_b138 hX hM hW p0 t0 hR h111 1 hF
  · have hF := ite_f hF (fun z => z c100)
    obtain rfl := Option.some.inj hF
    exact g_vret hX dX8_next_103 hR
set_option maxRecDepth 100000 in
set_option maxHeartbeats 4000000 in
theorem kX8_next_b8 {X : XT} {b N sz : Nat} {ok : Nat → Prop} {r : RR} {w : HH} (hX : XOK X RX8 cX8_next 3 2) (hM : N ≤ MM) (hW : WT KM lnM ok N r) (p0 : Nat) (t0 : KM p0 = 8 ∧ ok p0) (hR : XR X b KM lnM MM (none) 0 0 N sz none w r) : ∀ (n : Nat) (h : HH), fX8_next_b8 r p0 n h = some w → GX X b KM lnM MM 3 0 0 N sz 8 [(0, .ref (b + p0))] [] h r := by
  intro n
  induction n with
  | zero =>
    intro h hF
    cases hF
  | succ n ih =>
    intro h hF
    rw [fX8_next_b8] at hF
    refine g_aload_n hX dX8_next_8 (i := 0) rfl (j := 0) rfl ?_
    refine g_aload_n hX dX8_next_9 (i := 0) rfl (j := 0) rfl ?_
    refine gf_X8_215 hX dX8_next_10 (ty1 hW t0) ?_
    obtain ⟨v13, e13, hF⟩ := bi_some hF
    refine g_callV (As := [.int (h p0 17)]) (rest := []) (stk := [.int v13]) hX dX8_next_13 (ctX8_byteAt hM hW p0 (h p0 17) t0 e13) (by decide) (by decide) wm_X8_218 wi_X8_byteAt ws_X8_byteAt wz_X8 wc_X8_byteAt hyX8_byteAt rfl (ci := 8) rfl (by decide) t0.1 (hW.1 _ t0.2).1 (hW.1 _ t0.2).2 (Nat.le_of_ble_eq_true rfl) rfl rfl ?_ rfl rfl
    refine g_bipush (v := 32) hX dX8_next_16 (by decide) ?_
    refine g_icmp_eq (tgt := 34) hX dX8_next_18 (by decide) (fun c18 => ?_) (fun c18 => ?_)
    · have hF := ite_t hF c18
      refine g_sub (L' := [(0, .ref (b + p0))]) [0] rfl ?_
      exact kX8_next_b34 hX hM hW p0 t0 hR (fun h_ => fX8_next_b8 r p0 n h_) ih h hF
    · have hF := ite_f hF c18
      refine g_aload_n hX dX8_next_21 (i := 0) rfl (j := 0) rfl ?_
      refine g_aload_n hX dX8_next_22 (i := 0) rfl (j := 0) rfl ?_
      refine gf_X8_215 hX dX8_next_23 (ty1 hW t0) ?_
      obtain ⟨v26, e26, hF⟩ := bi_some hF
      refine g_callV (As := [.int (h p0 17)]) (rest := []) (stk := [.int v26]) hX dX8_next_26 (ctX8_byteAt hM hW p0 (h p0 17) t0 e26) (by decide) (by decide) wm_X8_218 wi_X8_byteAt ws_X8_byteAt wz_X8 wc_X8_byteAt hyX8_byteAt rfl (ci := 8) rfl (by decide) t0.1 (hW.1 _ t0.2).1 (hW.1 _ t0.2).2 (Nat.le_of_ble_eq_true rfl) rfl rfl ?_ rfl rfl
      refine g_bipush (v := 10) hX dX8_next_29 (by decide) ?_
      refine g_icmp_ne (tgt := 47) hX dX8_next_31 (by decide) (fun c31 => ?_) (fun c31 => ?_)
      · have hF := ite_t hF c31
        refine g_aload_n hX dX8_next_47 (i := 0) rfl (j := 0) rfl ?_
        refine g_aload_n hX dX8_next_48 (i := 0) rfl (j := 0) rfl ?_
        refine gf_X8_215 hX dX8_next_49 (ty1 hW t0) ?_
        obtain ⟨h52, e52, hF⟩ := lt_some hF
        refine pf_X8_221 hX dX8_next_52 (ty1 hW t0) hM e52 ?_
        refine g_aload_n hX dX8_next_55 (i := 0) rfl (j := 0) rfl ?_
        refine g_aload_n hX dX8_next_56 (i := 0) rfl (j := 0) rfl ?_
        refine gf_X8_215 hX dX8_next_57 (ty1 hW t0) ?_
        obtain ⟨v60, e60, hF⟩ := bi_some hF
        refine g_callV (As := [.int (h52 p0 17)]) (rest := []) (stk := [.int v60]) hX dX8_next_60 (ctX8_byteAt hM hW p0 (h52 p0 17) t0 e60) (by decide) (by decide) wm_X8_218 wi_X8_byteAt ws_X8_byteAt wz_X8 wc_X8_byteAt hyX8_byteAt rfl (ci := 8) rfl (by decide) t0.1 (hW.1 _ t0.2).1 (hW.1 _ t0.2).2 (Nat.le_of_ble_eq_true rfl) rfl rfl ?_ rfl rfl
        refine g_istore_n (L' := [(1, .int v60), (0, .ref (b + p0))]) hX dX8_next_63 (i := 1) rfl (by decide) rfl ?_
        refine g_aload_n hX dX8_next_64 (i := 0) rfl (j := 1) rfl ?_
        refine g_iload_n hX dX8_next_65 (i := 1) rfl (j := 0) rfl ?_
        refine g_iconst (v := (-1)) hX dX8_next_66 (by decide) ?_
        refine g_icmp_ne (tgt := 74) hX dX8_next_67 (by decide) (fun c67 => ?_) (fun c67 => ?_)
        · have hF := ite_t hF c67
          refine g_iload_n hX dX8_next_74 (i := 1) rfl (j := 0) rfl ?_
          refine g_bipush (v := 33) hX dX8_next_75 (by decide) ?_
          refine g_icmp_ne (tgt := 84) hX dX8_next_77 (by decide) (fun c77 => ?_) (fun c77 => ?_)
          · have hF := ite_t hF c77
            refine g_iload_n hX dX8_next_84 (i := 1) rfl (j := 0) rfl ?_
            refine g_bipush (v := 47) hX dX8_next_85 (by decide) ?_
            refine g_icmp_ne (tgt := 94) hX dX8_next_87 (by decide) (fun c87 => ?_) (fun c87 => ?_)
            · have hF := ite_t hF c87
              refine g_iconst (v := 1) hX dX8_next_94 (by decide) ?_
              refine g_sub (L' := [(0, .ref (b + p0)), (1, .int v60)]) [1, 0] rfl ?_
              exact kX8_next_b95 hX hM hW p0 t0 hR h52 p0 1 v60 t0 hF
            · have hF := ite_f hF (fun z => z c87)
              refine g_iconst (v := 3) hX dX8_next_90 (by decide) ?_
              refine g_goto (tgt := 95) hX dX8_next_91 (by decide) ?_
              refine g_sub (L' := [(0, .ref (b + p0)), (1, .int v60)]) [1, 0] rfl ?_
              exact kX8_next_b95 hX hM hW p0 t0 hR h52 p0 3 v60 t0 hF
          · have hF := ite_f hF (fun z => z c77)
            refine g_iconst (v := 2) hX dX8_next_80 (by decide) ?_
            refine g_goto (tgt := 95) hX dX8_next_81 (by decide) ?_
            refine g_sub (L' := [(0, .ref (b + p0)), (1, .int v60)]) [1, 0] rfl ?_
            exact kX8_next_b95 hX hM hW p0 t0 hR h52 p0 2 v60 t0 hF
        · have hF := ite_f hF (fun z => z c67)
          refine g_iconst (v := 0) hX dX8_next_70 (by decide) ?_
          refine g_goto (tgt := 95) hX dX8_next_71 (by decide) ?_
          refine g_sub (L' := [(0, .ref (b + p0)), (1, .int v60)]) [1, 0] rfl ?_
          exact kX8_next_b95 hX hM hW p0 t0 hR h52 p0 0 v60 t0 hF
      · have hF := ite_f hF (fun z => z c31)
        refine g_sub (L' := [(0, .ref (b + p0))]) [0] rfl ?_
        exact kX8_next_b34 hX hM hW p0 t0 hR (fun h_ => fX8_next_b8 r p0 n h_) ih h hF
set_option maxRecDepth 100000 in
set_option maxHeartbeats 4000000 in
theorem kX8_next {X : XT} {b N sz : Nat} {ok : Nat → Prop} {h : HH} {r : RR} {w : HH} (hX : XOK X RX8 cX8_next 3 2) (hM : N ≤ MM) (hW : WT KM lnM ok N r) (p0 : Nat) (t0 : KM p0 = 8 ∧ ok p0) (hR : XR X b KM lnM MM (none) 0 0 N sz none w r) (hF : fX8_next h r p0 = some w) : GX X b KM lnM MM 3 0 0 N sz 0 [(0, .ref (b + p0))] [] h r := by
  rw [fX8_next] at hF
  refine g_aload_n hX dX8_next_0 (i := 0) rfl (j := 0) rfl ?_
  refine gf_X8_211 hX dX8_next_1 (ty1 hW t0) ?_
  refine g_if_eq (tgt := 8) hX dX8_next_4 (by decide) (fun c4 => ?_) (fun c4 => ?_)
  · have hF := ite_t hF c4
    refine g_sub (L' := [(0, .ref (b + p0))]) [0] rfl ?_
    exact kX8_next_b8 hX hM hW p0 t0 hR lpF h hF
  · have hF := ite_f hF c4
    obtain rfl := Option.some.inj hF
    exact g_vret hX dX8_next_7 hR
theorem ctX8_next {b N sz : Nat} {ok : Nat → Prop} {h : HH} {r : RR} {w : HH} (hM : N ≤ MM) (hW : WT KM lnM ok N r) (p0 : Nat) (t0 : KM p0 = 8 ∧ ok p0) (hF : fX8_next h r p0 = some w) : CT yX8_next cX8_next 3 (none) 2 b KM lnM MM N sz [.ref (b + p0)] h r N sz none w r 0 0 :=
  CT_of (by decide) rfl (Nat.le_of_ble_eq_true rfl) (by decide) trivial (fun X hX hR => kX8_next hX hM hW p0 t0 hR hF)
/-! X8_part -/
def fX8_part_b13 (r : RR) (p0 : Nat) (h : HH) : Option (HH) := if (h p0 21) = 0 then (gd (inb (h p0 11) (lnM (r p0 14))) (gd (inb (h p0 11) (lnM (r p0 13))) (gd (inb (h (r p0 13) (ix (h p0 11))) (lnM (r (r p0 14) (ix (h p0 11))))) (lt (up h (r (r p0 14) (ix (h p0 11))) (ix (h (r p0 13) (ix (h p0 11)))) (h p0 20)) (fun h43 => gd (inb (h43 p0 11) (lnM (r p0 13))) (gd (inb (h43 p0 11) (lnM (r p0 13))) (lt (up h43 (r p0 13) (ix (h43 p0 11)) ((h43 (r p0 13) (ix (h43 p0 11))) + 1)) (fun h56 => (fX8_next h56 r p0).bind (fun h58 => some h58))))))))) else (some h)
def fX8_part (h : HH) (r : RR) (p0 : Nat) : Option (HH) := if (h p0 19) = 1 then (fX8_part_b13 r p0 h) else (lt (up h p0 21 1) (fun h10 => fX8_part_b13 r p0 h10))
set_option maxRecDepth 100000 in
set_option maxHeartbeats 4000000 in
theorem kX8_part_b13 {X : XT} {b N sz : Nat} {ok : Nat → Prop} {r : RR} {w : HH} (hX : XOK X RX8 cX8_part 1 3) (hM : N ≤ MM) (hW : WT KM lnM ok N r) (p0 : Nat) (t0 : KM p0 = 8 ∧ ok p0) (hR : XR X b KM lnM MM (none) 0 0 N sz none w r) (h : HH) (hF : fX8_part_b13 r p0 h = some w) : GX X b KM lnM MM 1 0 0 N sz 13 [(0, .ref (b + p0))] [] h r := by
  rw [fX8_part_b13] at hF
  refine g_aload_n hX dX8_part_13 (i := 0) rfl (j := 0) rfl ?_
  refine gf_X8_211 hX dX8_part_14 (ty1 hW t0) ?_
  refine g_if_eq (tgt := 21) hX dX8_part_17 (by decide) (fun c17 => ?_) (fun c17 => ?_)
  · have hF := ite_t hF c17
    refine g_aload_n hX dX8_part_21 (i := 0) rfl (j := 0) rfl ?_
    have tf22 := (tyF (k := 14) hW t0 (by decide) rfl (by decide) : KM (r p0 14) = 14 ∧ ok (r p0 14))
    refine gf_X8_43 hX dX8_part_22 (ty1 hW t0) (hW.1 _ tf22.2).1 ?_
    refine g_aload_n hX dX8_part_25 (i := 0) rfl (j := 0) rfl ?_
    refine gf_X8_230 hX dX8_part_26 (ty1 hW t0) ?_
    obtain ⟨g29, hF⟩ := gd_some hF
    have ta29 : KM (r (r p0 14) (ix (h p0 11))) = 9 ∧ ok (r (r p0 14) (ix (h p0 11))) := tyA hW tf22 (by decide) rfl (by decide) g29
    refine g_aald hX dX8_part_29 tf22.1 (by decide) (by decide) (hW.1 _ tf22.2).1 (hW.1 _ tf22.2).2 g29 (hW.1 _ ta29.2).1 ?_
    refine g_aload_n hX dX8_part_30 (i := 0) rfl (j := 0) rfl ?_
    have tf31 := (tyF (k := 13) hW t0 (by decide) rfl (by decide) : KM (r p0 13) = 9 ∧ ok (r p0 13))
    refine gf_X8_39 hX dX8_part_31 (ty1 hW t0) (hW.1 _ tf31.2).1 ?_
    refine g_aload_n hX dX8_part_34 (i := 0) rfl (j := 0) rfl ?_
    refine gf_X8_230 hX dX8_part_35 (ty1 hW t0) ?_
    obtain ⟨g38, hF⟩ := gd_some hF
    refine g_iald hX dX8_part_38 tf31.1 (hW.1 _ tf31.2).1 (hW.1 _ tf31.2).2 g38 ?_
    refine g_aload_n hX dX8_part_39 (i := 0) rfl (j := 0) rfl ?_
    refine gf_X8_227 hX dX8_part_40 (ty1 hW t0) ?_
    obtain ⟨g43, hF⟩ := gd_some hF
    obtain ⟨h43, e43, hF⟩ := lt_some hF
    refine g_iast hX dX8_part_43 ta29.1 (hW.1 _ ta29.2).1 (hW.1 _ ta29.2).2 hM g43 e43 ?_
    refine g_aload_n hX dX8_part_44 (i := 0) rfl (j := 0) rfl ?_
    have tf45 := (tyF (k := 13) hW t0 (by decide) rfl (by decide) : KM (r p0 13) = 9 ∧ ok (r p0 13))
    refine gf_X8_39 hX dX8_part_45 (ty1 hW t0) (hW.1 _ tf45.2).1 ?_
    refine g_aload_n hX dX8_part_48 (i := 0) rfl (j := 0) rfl ?_
    refine gf_X8_230 hX dX8_part_49 (ty1 hW t0) ?_
    refine g_dup2 hX dX8_part_52 rfl rfl ?_
    obtain ⟨g53, hF⟩ := gd_some hF
    refine g_iald hX dX8_part_53 tf45.1 (hW.1 _ tf45.2).1 (hW.1 _ tf45.2).2 g53 ?_
    refine g_iconst (v := 1) hX dX8_part_54 (by decide) ?_
    refine g_iadd hX dX8_part_55 ?_
    obtain ⟨g56, hF⟩ := gd_some hF
    obtain ⟨h56, e56, hF⟩ := lt_some hF
    refine g_iast hX dX8_part_56 tf45.1 (hW.1 _ tf45.2).1 (hW.1 _ tf45.2).2 hM g56 e56 ?_
    refine g_aload_n hX dX8_part_57 (i := 0) rfl (j := 0) rfl ?_
    obtain ⟨h58, e58, hF⟩ := bi_some hF
    refine g_callV (As := []) (rest := []) (stk := []) hX dX8_part_58 (ctX8_next hM hW p0 t0 e58) (by decide) (by decide) wm_X8_233 wi_X8_next ws_X8_next wz_X8 wc_X8_next hyX8_next rfl (ci := 8) rfl (by decide) t0.1 (hW.1 _ t0.2).1 (hW.1 _ t0.2).2 (Nat.le_of_ble_eq_true rfl) rfl rfl ?_ rfl rfl
    obtain rfl := Option.some.inj hF
    exact g_vret hX dX8_part_61 hR
  · have hF := ite_f hF c17
    obtain rfl := Option.some.inj hF
    exact g_vret hX dX8_part_20 hR
set_option maxRecDepth 100000 in
set_option maxHeartbeats 4000000 in
theorem kX8_part {X : XT} {b N sz : Nat} {ok : Nat → Prop} {h : HH} {r : RR} {w : HH} (hX : XOK X RX8 cX8_part 1 3) (hM : N ≤ MM) (hW : WT KM lnM ok N r) (p0 : Nat) (t0 : KM p0 = 8 ∧ ok p0) (hR : XR X b KM lnM MM (none) 0 0 N sz none w r) (hF : fX8_part h r p0 = some w) : GX X b KM lnM MM 1 0 0 N sz 0 [(0, .ref (b + p0))] [] h r := by
  rw [fX8_part] at hF
  refine g_aload_n hX dX8_part_0 (i := 0) rfl (j := 0) rfl ?_
  refine gf_X8_224 hX dX8_part_1 (ty1 hW t0) ?_
  refine g_iconst (v := 1) hX dX8_part_4 (by decide) ?_
  refine g_icmp_eq (tgt := 13) hX dX8_part_5 (by decide) (fun c5 => ?_) (fun c5 => ?_)
  · have hF := ite_t hF c5
    refine g_sub (L' := [(0, .ref (b + p0))]) [0] rfl ?_
    exact kX8_part_b13 hX hM hW p0 t0 hR h hF
  · have hF := ite_f hF c5
    refine g_aload_n hX dX8_part_8 (i := 0) rfl (j := 0) rfl ?_
    refine g_iconst (v := 1) hX dX8_part_9 (by decide) ?_
    obtain ⟨h10, e10, hF⟩ := lt_some hF
    refine pf_X8_211 hX dX8_part_10 (ty1 hW t0) hM (by decide) e10 ?_
    refine g_sub (L' := [(0, .ref (b + p0))]) [0] rfl ?_
    exact kX8_part_b13 hX hM hW p0 t0 hR h10 hF
theorem ctX8_part {b N sz : Nat} {ok : Nat → Prop} {h : HH} {r : RR} {w : HH} (hM : N ≤ MM) (hW : WT KM lnM ok N r) (p0 : Nat) (t0 : KM p0 = 8 ∧ ok p0) (hF : fX8_part h r p0 = some w) : CT yX8_part cX8_part 1 (none) 3 b KM lnM MM N sz [.ref (b + p0)] h r N sz none w r 0 0 :=
  CT_of (by decide) rfl (Nat.le_of_ble_eq_true rfl) (by decide) trivial (fun X hX hR => kX8_part hX hM hW p0 t0 hR hF)
/-! X8_pattern -/
def fX8_pattern_b147 (r : RR) (p0 : Nat) (h : HH) (u0 : Nat) (s1 : Int32) (s2 : Int32) : Option (Int32 × HH) := bz (s1 ||| s2) (lt (up h u0 21 (s1 ||| s2)) (fun h148 => lt (up h148 p0 16 0) (fun h153 => if (h153 p0 21) = 0 then (lt (up h153 p0 11 ((h153 p0 11) + 1)) (fun h178 => some ((h178 p0 11) - 1, h178))) else (some ((-100) - (h153 p0 18), h153)))))
def fX8_pattern_b130 (r : RR) (p0 : Nat) (h : HH) : Option (Int32 × HH) := if (h p0 19) = 0 then (fX8_pattern_b147 r p0 h p0 (h p0 21) 0) else (fX8_pattern_b147 r p0 h p0 (h p0 21) 1)
def fX8_pattern_b119 (r : RR) (p0 : Nat) (k85 : HH → Option (Int32 × HH)) (h : HH) : Option (Int32 × HH) := (fX8_next h r p0).bind (fun h120 => (fX8_part h120 r p0).bind (fun h124 => k85 h124))
def fX8_pattern_b85 (r : RR) (p0 : Nat) : Nat → HH → Option (Int32 × HH)
  | 0, _ => none
  | n + 1, h => if ¬ (h p0 21) = 0 then (fX8_pattern_b130 r p0 h) else (if ¬ (h p0 19) = 3 then (fX8_pattern_b130 r p0 h) else (gd (inb (h p0 11) (lnM (r p0 13))) (if ¬ (h (r p0 13) (ix (h p0 11))) = 8 then (fX8_pattern_b119 r p0 (fun h_ => fX8_pattern_b85 r p0 n h_) h) else (lt (up h p0 21 1) (fun h116 => fX8_pattern_b119 r p0 (fun h_ => fX8_pattern_b85 r p0 n h_) h116)))))
def fX8_pattern_b81 (r : RR) (p0 : Nat) (h : HH) : Option (Int32 × HH) := (fX8_part h r p0).bind (fun h82 => fX8_pattern_b85 r p0 lpF h82)
def fX8_pattern_b64 (r : RR) (p0 : Nat) (h : HH) (u0 : Nat) (s1 : Int32) (s2 : Int32) : Option (Int32 × HH) := gd (inb s1 (lnM u0)) (lt (up h u0 (ix s1) (zn s2)) (fun h64 => gd (inb (h64 p0 11) (lnM (r p0 12))) (if (h64 (r p0 12) (ix (h64 p0 11))) = 0 then (fX8_pattern_b81 r p0 h64) else ((fX8_next h64 r p0).bind (fun h78 => fX8_pattern_b81 r p0 h78)))))
def fX8_pattern_b63 (r : RR) (p0 : Nat) (h : HH) (u0 : Nat) (s1 : Int32) : Option (Int32 × HH) := fX8_pattern_b64 r p0 h u0 s1 0
def fX8_pattern (h : HH) (r : RR) (p0 : Nat) : Option (Int32 × HH) := if ¬ (h p0 11) = 6 then (lt (up h p0 17 0) (fun h14 => lt (up h14 p0 21 0) (fun h19 => gd (inb (h19 p0 11) (lnM (r p0 13))) (lt (up h19 (r p0 13) (ix (h19 p0 11)) 0) (fun h31 => (fX8_next h31 r p0).bind (fun h33 => if ¬ (h33 p0 21) = 0 then (fX8_pattern_b63 r p0 h33 (r p0 12) (h33 p0 11)) else (if ¬ (h33 p0 19) = 2 then (fX8_pattern_b63 r p0 h33 (r p0 12) (h33 p0 11)) else (fX8_pattern_b64 r p0 h33 (r p0 12) (h33 p0 11) 1)))))))) else (some ((-4), h))
set_option maxRecDepth 100000 in
set_option maxHeartbeats 4000000 in
theorem kX8_pattern_b147 {X : XT} {b N sz : Nat} {ok : Nat → Prop} {r : RR} {w : Int32 × HH} (hX : XOK X RX8 cX8_pattern 1 4) (hM : N ≤ MM) (hW : WT KM lnM ok N r) (p0 : Nat) (t0 : KM p0 = 8 ∧ ok p0) (hR : XR X b KM lnM MM (some FieldType.int) 0 0 N sz (some (.int w.1)) w.2 r) (h : HH) (u0 : Nat) (s1 : Int32) (s2 : Int32) (ts0 : KM u0 = 8 ∧ ok u0) (hF : fX8_pattern_b147 r p0 h u0 s1 s2 = some w) : GX X b KM lnM MM 1 0 0 N sz 147 [(0, .ref (b + p0))] [.int s2, .int s1, .ref (b + u0)] h r := by
  rw [fX8_pattern_b147] at hF
  refine g_ior hX dX8_pattern_147 ?_
  obtain ⟨z148, hF⟩ := bz_some hF
  obtain ⟨h148, e148, hF⟩ := lt_some hF
  refine pf_X8_211 hX dX8_pattern_148 (ty1 hW ts0) hM z148 e148 ?_
  refine g_aload_n hX dX8_pattern_151 (i := 0) rfl (j := 0) rfl ?_
  refine g_iconst (v := 0) hX dX8_pattern_152 (by decide) ?_
  obtain ⟨h153, e153, hF⟩ := lt_some hF
  refine pf_X8_208 hX dX8_pattern_153 (ty1 hW t0) hM e153 ?_
  refine g_aload_n hX dX8_pattern_156 (i := 0) rfl (j := 0) rfl ?_
  refine gf_X8_211 hX dX8_pattern_157 (ty1 hW t0) ?_
  refine g_if_eq (tgt := 171) hX dX8_pattern_160 (by decide) (fun c160 => ?_) (fun c160 => ?_)
  · have hF := ite_t hF c160
    refine g_aload_n hX dX8_pattern_171 (i := 0) rfl (j := 0) rfl ?_
    refine g_dup hX dX8_pattern_172 rfl ?_
    refine gf_X8_230 hX dX8_pattern_173 (ty1 hW t0) ?_
    refine g_iconst (v := 1) hX dX8_pattern_176 (by decide) ?_
    refine g_iadd hX dX8_pattern_177 ?_
    obtain ⟨h178, e178, hF⟩ := lt_some hF
    refine pf_X8_230 hX dX8_pattern_178 (ty1 hW t0) hM e178 ?_
    refine g_aload_n hX dX8_pattern_181 (i := 0) rfl (j := 0) rfl ?_
    refine gf_X8_230 hX dX8_pattern_182 (ty1 hW t0) ?_
    refine g_iconst (v := 1) hX dX8_pattern_185 (by decide) ?_
    refine g_isub hX dX8_pattern_186 ?_
    obtain rfl := Option.some.inj hF
    exact g_iret hX dX8_pattern_187 hR
  · have hF := ite_f hF c160
    refine g_bipush (v := (-100)) hX dX8_pattern_163 (by decide) ?_
    refine g_aload_n hX dX8_pattern_165 (i := 0) rfl (j := 0) rfl ?_
    refine gf_X8_221 hX dX8_pattern_166 (ty1 hW t0) ?_
    refine g_isub hX dX8_pattern_169 ?_
    obtain rfl := Option.some.inj hF
    exact g_iret hX dX8_pattern_170 hR
set_option maxRecDepth 100000 in
set_option maxHeartbeats 4000000 in
theorem kX8_pattern_b130 {X : XT} {b N sz : Nat} {ok : Nat → Prop} {r : RR} {w : Int32 × HH} (hX : XOK X RX8 cX8_pattern 1 4) (hM : N ≤ MM) (hW : WT KM lnM ok N r) (p0 : Nat) (t0 : KM p0 = 8 ∧ ok p0) (hR : XR X b KM lnM MM (some FieldType.int) 0 0 N sz (some (.int w.1)) w.2 r) (h : HH) (hF : fX8_pattern_b130 r p0 h = some w) : GX X b KM lnM MM 1 0 0 N sz 130 [(0, .ref (b + p0))] [] h r := by
  rw [fX8_pattern_b130] at hF
  refine g_aload_n hX dX8_pattern_130 (i := 0) rfl (j := 0) rfl ?_
  refine g_dup hX dX8_pattern_131 rfl ?_
  refine gf_X8_211 hX dX8_pattern_132 (ty1 hW t0) ?_
  refine g_aload_n hX dX8_pattern_135 (i := 0) rfl (j := 0) rfl ?_
  refine gf_X8_224 hX dX8_pattern_136 (ty1 hW t0) ?_
  refine g_if_eq (tgt := 146) hX dX8_pattern_139 (by decide) (fun c139 => ?_) (fun c139 => ?_)
  · have hF := ite_t hF c139
    refine g_iconst (v := 0) hX dX8_pattern_146 (by decide) ?_
    refine g_sub (L' := [(0, .ref (b + p0))]) [0] rfl ?_
    exact kX8_pattern_b147 hX hM hW p0 t0 hR h p0 (h p0 21) 0 t0 hF
  · have hF := ite_f hF c139
    refine g_iconst (v := 1) hX dX8_pattern_142 (by decide) ?_
    refine g_goto (tgt := 147) hX dX8_pattern_143 (by decide) ?_
    refine g_sub (L' := [(0, .ref (b + p0))]) [0] rfl ?_
    exact kX8_pattern_b147 hX hM hW p0 t0 hR h p0 (h p0 21) 1 t0 hF
set_option maxRecDepth 100000 in
set_option maxHeartbeats 4000000 in
theorem kX8_pattern_b119 {X : XT} {b N sz : Nat} {ok : Nat → Prop} {r : RR} {w : Int32 × HH} (hX : XOK X RX8 cX8_pattern 1 4) (hM : N ≤ MM) (hW : WT KM lnM ok N r) (p0 : Nat) (t0 : KM p0 = 8 ∧ ok p0) (hR : XR X b KM lnM MM (some FieldType.int) 0 0 N sz (some (.int w.1)) w.2 r) (k85 : HH → Option (Int32 × HH)) (hk85 : ∀ (h : HH), k85 h = some w → GX X b KM lnM MM 1 0 0 N sz 85 [(0, .ref (b + p0))] [] h r) (h : HH) (hF : fX8_pattern_b119 r p0 k85 h = some w) : GX X b KM lnM MM 1 0 0 N sz 119 [(0, .ref (b + p0))] [] h r := by
  rw [fX8_pattern_b119] at hF
  refine g_aload_n hX dX8_pattern_119 (i := 0) rfl (j := 0) rfl ?_
  obtain ⟨h120, e120, hF⟩ := bi_some hF
  refine g_callV (As := []) (rest := []) (stk := []) hX dX8_pattern_120 (ctX8_next hM hW p0 t0 e120) (by decide) (by decide) wm_X8_233 wi_X8_next ws_X8_next wz_X8 wc_X8_next hyX8_next rfl (ci := 8) rfl (by decide) t0.1 (hW.1 _ t0.2).1 (hW.1 _ t0.2).2 (Nat.le_of_ble_eq_true rfl) rfl rfl ?_ rfl rfl
  refine g_aload_n hX dX8_pattern_123 (i := 0) rfl (j := 0) rfl ?_
  obtain ⟨h124, e124, hF⟩ := bi_some hF
  refine g_callV (As := []) (rest := []) (stk := []) hX dX8_pattern_124 (ctX8_part hM hW p0 t0 e124) (by decide) (by decide) wm_X8_236 wi_X8_part ws_X8_part wz_X8 wc_X8_part hyX8_part rfl (ci := 8) rfl (by decide) t0.1 (hW.1 _ t0.2).1 (hW.1 _ t0.2).2 (Nat.le_of_ble_eq_true rfl) rfl rfl ?_ rfl rfl
  refine g_goto (tgt := 85) hX dX8_pattern_127 (by decide) ?_
  refine g_sub (L' := [(0, .ref (b + p0))]) [0] rfl ?_
  exact hk85 h124 hF
set_option maxRecDepth 100000 in
set_option maxHeartbeats 4000000 in
theorem kX8_pattern_b85 {X : XT} {b N sz : Nat} {ok : Nat → Prop} {r : RR} {w : Int32 × HH} (hX : XOK X RX8 cX8_pattern 1 4) (hM : N ≤ MM) (hW : WT KM lnM ok N r) (p0 : Nat) (t0 : KM p0 = 8 ∧ ok p0) (hR : XR X b KM lnM MM (some FieldType.int) 0 0 N sz (some (.int w.1)) w.2 r) : ∀ (n : Nat) (h : HH), fX8_pattern_b85 r p0 n h = some w → GX X b KM lnM MM 1 0 0 N sz 85 [(0, .ref (b + p0))] [] h r := by
  intro n
  induction n with
  | zero =>
    intro h hF
    cases hF
  | succ n ih =>
    intro h hF
    rw [fX8_pattern_b85] at hF
    refine g_aload_n hX dX8_pattern_85 (i := 0) rfl (j := 0) rfl ?_
    refine gf_X8_211 hX dX8_pattern_86 (ty1 hW t0) ?_
    refine g_if_ne (tgt := 130) hX dX8_pattern_89 (by decide) (fun c89 => ?_) (fun c89 => ?_)
    · have hF := ite_t hF c89
      refine g_sub (L' := [(0, .ref (b + p0))]) [0] rfl ?_
      exact kX8_pattern_b130 hX hM hW p0 t0 hR h hF
    · have hF := ite_f hF (fun z => z c89)
      refine g_aload_n hX dX8_pattern_92 (i := 0) rfl (j := 0) rfl ?_
      refine gf_X8_224 hX dX8_pattern_93 (ty1 hW t0) ?_
      refine g_iconst (v := 3) hX dX8_pattern_96 (by decide) ?_
      refine g_icmp_ne (tgt := 130) hX dX8_pattern_97 (by decide) (fun c97 => ?_) (fun c97 => ?_)
      · have hF := ite_t hF c97
        refine g_sub (L' := [(0, .ref (b + p0))]) [0] rfl ?_
        exact kX8_pattern_b130 hX hM hW p0 t0 hR h hF
      · have hF := ite_f hF (fun z => z c97)
        refine g_aload_n hX dX8_pattern_100 (i := 0) rfl (j := 0) rfl ?_
        have tf101 := (tyF (k := 13) hW t0 (by decide) rfl (by decide) : KM (r p0 13) = 9 ∧ ok (r p0 13))
        refine gf_X8_39 hX dX8_pattern_101 (ty1 hW t0) (hW.1 _ tf101.2).1 ?_
        refine g_aload_n hX dX8_pattern_104 (i := 0) rfl (j := 0) rfl ?_
        refine gf_X8_230 hX dX8_pattern_105 (ty1 hW t0) ?_
        obtain ⟨g108, hF⟩ := gd_some hF
        refine g_iald hX dX8_pattern_108 tf101.1 (hW.1 _ tf101.2).1 (hW.1 _ tf101.2).2 g108 ?_
        refine g_bipush (v := 8) hX dX8_pattern_109 (by decide) ?_
        refine g_icmp_ne (tgt := 119) hX dX8_pattern_111 (by decide) (fun c111 => ?_) (fun c111 => ?_)
        · have hF := ite_t hF c111
          refine g_sub (L' := [(0, .ref (b + p0))]) [0] rfl ?_
          exact kX8_pattern_b119 hX hM hW p0 t0 hR (fun h_ => fX8_pattern_b85 r p0 n h_) ih h hF
        · have hF := ite_f hF (fun z => z c111)
          refine g_aload_n hX dX8_pattern_114 (i := 0) rfl (j := 0) rfl ?_
          refine g_iconst (v := 1) hX dX8_pattern_115 (by decide) ?_
          obtain ⟨h116, e116, hF⟩ := lt_some hF
          refine pf_X8_211 hX dX8_pattern_116 (ty1 hW t0) hM (by decide) e116 ?_
          refine g_sub (L' := [(0, .ref (b + p0))]) [0] rfl ?_
          exact kX8_pattern_b119 hX hM hW p0 t0 hR (fun h_ => fX8_pattern_b85 r p0 n h_) ih h116 hF
set_option maxRecDepth 100000 in
set_option maxHeartbeats 4000000 in
theorem kX8_pattern_b81 {X : XT} {b N sz : Nat} {ok : Nat → Prop} {r : RR} {w : Int32 × HH} (hX : XOK X RX8 cX8_pattern 1 4) (hM : N ≤ MM) (hW : WT KM lnM ok N r) (p0 : Nat) (t0 : KM p0 = 8 ∧ ok p0) (hR : XR X b KM lnM MM (some FieldType.int) 0 0 N sz (some (.int w.1)) w.2 r) (h : HH) (hF : fX8_pattern_b81 r p0 h = some w) : GX X b KM lnM MM 1 0 0 N sz 81 [(0, .ref (b + p0))] [] h r := by
  rw [fX8_pattern_b81] at hF
  refine g_aload_n hX dX8_pattern_81 (i := 0) rfl (j := 0) rfl ?_
  obtain ⟨h82, e82, hF⟩ := bi_some hF
  refine g_callV (As := []) (rest := []) (stk := []) hX dX8_pattern_82 (ctX8_part hM hW p0 t0 e82) (by decide) (by decide) wm_X8_236 wi_X8_part ws_X8_part wz_X8 wc_X8_part hyX8_part rfl (ci := 8) rfl (by decide) t0.1 (hW.1 _ t0.2).1 (hW.1 _ t0.2).2 (Nat.le_of_ble_eq_true rfl) rfl rfl ?_ rfl rfl
  refine g_sub (L' := [(0, .ref (b + p0))]) [0] rfl ?_
  exact kX8_pattern_b85 hX hM hW p0 t0 hR lpF h82 hF
set_option maxRecDepth 100000 in
set_option maxHeartbeats 4000000 in
theorem kX8_pattern_b64 {X : XT} {b N sz : Nat} {ok : Nat → Prop} {r : RR} {w : Int32 × HH} (hX : XOK X RX8 cX8_pattern 1 4) (hM : N ≤ MM) (hW : WT KM lnM ok N r) (p0 : Nat) (t0 : KM p0 = 8 ∧ ok p0) (hR : XR X b KM lnM MM (some FieldType.int) 0 0 N sz (some (.int w.1)) w.2 r) (h : HH) (u0 : Nat) (s1 : Int32) (s2 : Int32) (ts0 : KM u0 = 10 ∧ ok u0) (hF : fX8_pattern_b64 r p0 h u0 s1 s2 = some w) : GX X b KM lnM MM 1 0 0 N sz 64 [(0, .ref (b + p0))] [.int s2, .int s1, .ref (b + u0)] h r := by
  rw [fX8_pattern_b64] at hF
  obtain ⟨g64, hF⟩ := gd_some hF
  obtain ⟨h64, e64, hF⟩ := lt_some hF
  refine g_bast hX dX8_pattern_64 ts0.1 (hW.1 _ ts0.2).1 (hW.1 _ ts0.2).2 hM g64 e64 ?_
  refine g_aload_n hX dX8_pattern_65 (i := 0) rfl (j := 0) rfl ?_
  have tf66 := (tyF (k := 12) hW t0 (by decide) rfl (by decide) : KM (r p0 12) = 10 ∧ ok (r p0 12))
  refine gf_X8_36 hX dX8_pattern_66 (ty1 hW t0) (hW.1 _ tf66.2).1 ?_
  refine g_aload_n hX dX8_pattern_69 (i := 0) rfl (j := 0) rfl ?_
  refine gf_X8_230 hX dX8_pattern_70 (ty1 hW t0) ?_
  obtain ⟨g73, hF⟩ := gd_some hF
  refine g_bald hX dX8_pattern_73 tf66.1 (hW.1 _ tf66.2).1 (hW.1 _ tf66.2).2 g73 ?_
  refine g_if_eq (tgt := 81) hX dX8_pattern_74 (by decide) (fun c74 => ?_) (fun c74 => ?_)
  · have hF := ite_t hF c74
    refine g_sub (L' := [(0, .ref (b + p0))]) [0] rfl ?_
    exact kX8_pattern_b81 hX hM hW p0 t0 hR h64 hF
  · have hF := ite_f hF c74
    refine g_aload_n hX dX8_pattern_77 (i := 0) rfl (j := 0) rfl ?_
    obtain ⟨h78, e78, hF⟩ := bi_some hF
    refine g_callV (As := []) (rest := []) (stk := []) hX dX8_pattern_78 (ctX8_next hM hW p0 t0 e78) (by decide) (by decide) wm_X8_233 wi_X8_next ws_X8_next wz_X8 wc_X8_next hyX8_next rfl (ci := 8) rfl (by decide) t0.1 (hW.1 _ t0.2).1 (hW.1 _ t0.2).2 (Nat.le_of_ble_eq_true rfl) rfl rfl ?_ rfl rfl
    refine g_sub (L' := [(0, .ref (b + p0))]) [0] rfl ?_
    exact kX8_pattern_b81 hX hM hW p0 t0 hR h78 hF
set_option maxRecDepth 100000 in
set_option maxHeartbeats 4000000 in
theorem kX8_pattern_b63 {X : XT} {b N sz : Nat} {ok : Nat → Prop} {r : RR} {w : Int32 × HH} (hX : XOK X RX8 cX8_pattern 1 4) (hM : N ≤ MM) (hW : WT KM lnM ok N r) (p0 : Nat) (t0 : KM p0 = 8 ∧ ok p0) (hR : XR X b KM lnM MM (some FieldType.int) 0 0 N sz (some (.int w.1)) w.2 r) (h : HH) (u0 : Nat) (s1 : Int32) (ts0 : KM u0 = 10 ∧ ok u0) (hF : fX8_pattern_b63 r p0 h u0 s1 = some w) : GX X b KM lnM MM 1 0 0 N sz 63 [(0, .ref (b + p0))] [.int s1, .ref (b + u0)] h r := by
  rw [fX8_pattern_b63] at hF
  refine g_iconst (v := 0) hX dX8_pattern_63 (by decide) ?_
  refine g_sub (L' := [(0, .ref (b + p0))]) [0] rfl ?_
  exact kX8_pattern_b64 hX hM hW p0 t0 hR h u0 s1 0 ts0 hF
set_option maxRecDepth 100000 in
set_option maxHeartbeats 4000000 in
theorem kX8_pattern {X : XT} {b N sz : Nat} {ok : Nat → Prop} {h : HH} {r : RR} {w : Int32 × HH} (hX : XOK X RX8 cX8_pattern 1 4) (hM : N ≤ MM) (hW : WT KM lnM ok N r) (p0 : Nat) (t0 : KM p0 = 8 ∧ ok p0) (hR : XR X b KM lnM MM (some FieldType.int) 0 0 N sz (some (.int w.1)) w.2 r) (hF : fX8_pattern h r p0 = some w) : GX X b KM lnM MM 1 0 0 N sz 0 [(0, .ref (b + p0))] [] h r := by
  rw [fX8_pattern] at hF
  refine g_aload_n hX dX8_pattern_0 (i := 0) rfl (j := 0) rfl ?_
  refine gf_X8_230 hX dX8_pattern_1 (ty1 hW t0) ?_
  refine g_bipush (v := 6) hX dX8_pattern_4 (by decide) ?_
  refine g_icmp_ne (tgt := 12) hX dX8_pattern_6 (by decide) (fun c6 => ?_) (fun c6 => ?_)
  · have hF := ite_t hF c6
    refine g_aload_n hX dX8_pattern_12 (i := 0) rfl (j := 0) rfl ?_
    refine g_iconst (v := 0) hX dX8_pattern_13 (by decide) ?_
    obtain ⟨h14, e14, hF⟩ := lt_some hF
    refine pf_X8_215 hX dX8_pattern_14 (ty1 hW t0) hM e14 ?_
    refine g_aload_n hX dX8_pattern_17 (i := 0) rfl (j := 0) rfl ?_
    refine g_iconst (v := 0) hX dX8_pattern_18 (by decide) ?_
    obtain ⟨h19, e19, hF⟩ := lt_some hF
    refine pf_X8_211 hX dX8_pattern_19 (ty1 hW t0) hM (by decide) e19 ?_
    refine g_aload_n hX dX8_pattern_22 (i := 0) rfl (j := 0) rfl ?_
    have tf23 := (tyF (k := 13) hW t0 (by decide) rfl (by decide) : KM (r p0 13) = 9 ∧ ok (r p0 13))
    refine gf_X8_39 hX dX8_pattern_23 (ty1 hW t0) (hW.1 _ tf23.2).1 ?_
    refine g_aload_n hX dX8_pattern_26 (i := 0) rfl (j := 0) rfl ?_
    refine gf_X8_230 hX dX8_pattern_27 (ty1 hW t0) ?_
    refine g_iconst (v := 0) hX dX8_pattern_30 (by decide) ?_
    obtain ⟨g31, hF⟩ := gd_some hF
    obtain ⟨h31, e31, hF⟩ := lt_some hF
    refine g_iast hX dX8_pattern_31 tf23.1 (hW.1 _ tf23.2).1 (hW.1 _ tf23.2).2 hM g31 e31 ?_
    refine g_aload_n hX dX8_pattern_32 (i := 0) rfl (j := 0) rfl ?_
    obtain ⟨h33, e33, hF⟩ := bi_some hF
    refine g_callV (As := []) (rest := []) (stk := []) hX dX8_pattern_33 (ctX8_next hM hW p0 t0 e33) (by decide) (by decide) wm_X8_233 wi_X8_next ws_X8_next wz_X8 wc_X8_next hyX8_next rfl (ci := 8) rfl (by decide) t0.1 (hW.1 _ t0.2).1 (hW.1 _ t0.2).2 (Nat.le_of_ble_eq_true rfl) rfl rfl ?_ rfl rfl
    refine g_aload_n hX dX8_pattern_36 (i := 0) rfl (j := 0) rfl ?_
    have tf37 := (tyF (k := 12) hW t0 (by decide) rfl (by decide) : KM (r p0 12) = 10 ∧ ok (r p0 12))
    refine gf_X8_36 hX dX8_pattern_37 (ty1 hW t0) (hW.1 _ tf37.2).1 ?_
    refine g_aload_n hX dX8_pattern_40 (i := 0) rfl (j := 0) rfl ?_
    refine gf_X8_230 hX dX8_pattern_41 (ty1 hW t0) ?_
    refine g_aload_n hX dX8_pattern_44 (i := 0) rfl (j := 0) rfl ?_
    refine gf_X8_211 hX dX8_pattern_45 (ty1 hW t0) ?_
    refine g_if_ne (tgt := 63) hX dX8_pattern_48 (by decide) (fun c48 => ?_) (fun c48 => ?_)
    · have hF := ite_t hF c48
      refine g_sub (L' := [(0, .ref (b + p0))]) [0] rfl ?_
      exact kX8_pattern_b63 hX hM hW p0 t0 hR h33 (r p0 12) (h33 p0 11) tf37 hF
    · have hF := ite_f hF (fun z => z c48)
      refine g_aload_n hX dX8_pattern_51 (i := 0) rfl (j := 0) rfl ?_
      refine gf_X8_224 hX dX8_pattern_52 (ty1 hW t0) ?_
      refine g_iconst (v := 2) hX dX8_pattern_55 (by decide) ?_
      refine g_icmp_ne (tgt := 63) hX dX8_pattern_56 (by decide) (fun c56 => ?_) (fun c56 => ?_)
      · have hF := ite_t hF c56
        refine g_sub (L' := [(0, .ref (b + p0))]) [0] rfl ?_
        exact kX8_pattern_b63 hX hM hW p0 t0 hR h33 (r p0 12) (h33 p0 11) tf37 hF
      · have hF := ite_f hF (fun z => z c56)
        refine g_iconst (v := 1) hX dX8_pattern_59 (by decide) ?_
        refine g_goto (tgt := 64) hX dX8_pattern_60 (by decide) ?_
        refine g_sub (L' := [(0, .ref (b + p0))]) [0] rfl ?_
        exact kX8_pattern_b64 hX hM hW p0 t0 hR h33 (r p0 12) (h33 p0 11) 1 tf37 hF
  · have hF := ite_f hF (fun z => z c6)
    refine g_bipush (v := (-4)) hX dX8_pattern_9 (by decide) ?_
    obtain rfl := Option.some.inj hF
    exact g_iret hX dX8_pattern_11 hR
theorem ctX8_pattern {b N sz : Nat} {ok : Nat → Prop} {h : HH} {r : RR} {w : Int32 × HH} (hM : N ≤ MM) (hW : WT KM lnM ok N r) (p0 : Nat) (t0 : KM p0 = 8 ∧ ok p0) (hF : fX8_pattern h r p0 = some w) : CT yX8_pattern cX8_pattern 1 (some FieldType.int) 4 b KM lnM MM N sz [.ref (b + p0)] h r N sz (some (.int w.1)) w.2 r 0 0 :=
  CT_of (by decide) rfl (Nat.le_of_ble_eq_true rfl) (by decide) trivial (fun X hX hR => kX8_pattern hX hM hW p0 t0 hR hF)
/-! X8_drop -/
def fX8_drop (h : HH) (r : RR) (p0 : Nat) : Option (Int32 × HH) := if ¬ (h p0 11) = 0 then (lt (up h p0 11 ((h p0 11) - 1)) (fun h17 => some (h17 p0 11, h17))) else (some ((-3), h))
set_option maxRecDepth 100000 in
set_option maxHeartbeats 4000000 in
theorem kX8_drop {X : XT} {b N sz : Nat} {ok : Nat → Prop} {h : HH} {r : RR} {w : Int32 × HH} (hX : XOK X RX8 cX8_drop 1 1) (hM : N ≤ MM) (hW : WT KM lnM ok N r) (p0 : Nat) (t0 : KM p0 = 8 ∧ ok p0) (hR : XR X b KM lnM MM (some FieldType.int) 0 0 N sz (some (.int w.1)) w.2 r) (hF : fX8_drop h r p0 = some w) : GX X b KM lnM MM 1 0 0 N sz 0 [(0, .ref (b + p0))] [] h r := by
  rw [fX8_drop] at hF
  refine g_aload_n hX dX8_drop_0 (i := 0) rfl (j := 0) rfl ?_
  refine gf_X8_230 hX dX8_drop_1 (ty1 hW t0) ?_
  refine g_if_ne (tgt := 10) hX dX8_drop_4 (by decide) (fun c4 => ?_) (fun c4 => ?_)
  · have hF := ite_t hF c4
    refine g_aload_n hX dX8_drop_10 (i := 0) rfl (j := 0) rfl ?_
    refine g_dup hX dX8_drop_11 rfl ?_
    refine gf_X8_230 hX dX8_drop_12 (ty1 hW t0) ?_
    refine g_iconst (v := 1) hX dX8_drop_15 (by decide) ?_
    refine g_isub hX dX8_drop_16 ?_
    obtain ⟨h17, e17, hF⟩ := lt_some hF
    refine pf_X8_230 hX dX8_drop_17 (ty1 hW t0) hM e17 ?_
    refine g_aload_n hX dX8_drop_20 (i := 0) rfl (j := 0) rfl ?_
    refine gf_X8_230 hX dX8_drop_21 (ty1 hW t0) ?_
    obtain rfl := Option.some.inj hF
    exact g_iret hX dX8_drop_24 hR
  · have hF := ite_f hF (fun z => z c4)
    refine g_bipush (v := (-3)) hX dX8_drop_7 (by decide) ?_
    obtain rfl := Option.some.inj hF
    exact g_iret hX dX8_drop_9 hR
theorem ctX8_drop {b N sz : Nat} {ok : Nat → Prop} {h : HH} {r : RR} {w : Int32 × HH} (hM : N ≤ MM) (hW : WT KM lnM ok N r) (p0 : Nat) (t0 : KM p0 = 8 ∧ ok p0) (hF : fX8_drop h r p0 = some w) : CT yX8_drop cX8_drop 1 (some FieldType.int) 1 b KM lnM MM N sz [.ref (b + p0)] h r N sz (some (.int w.1)) w.2 r 0 0 :=
  CT_of (by decide) rfl (Nat.le_of_ble_eq_true rfl) (by decide) trivial (fun X hX hR => kX8_drop hX hM hW p0 t0 hR hF)
/-! X8_matches -/
def fX8_matches (h : HH) (r : RR) (p0 : Nat) (a1 : Int32) (a2 : Int32) (a3 : Int32) : Option (Int32 × HH) := (fX8_in h r a1 0 ((h p0 11) - 1)).bind (fun v8 => if v8 = 0 then (some ((-2), h)) else ((fX8_isPlace h r a2).bind (fun v15 => if v15 = 0 then (some ((-2), h)) else ((fX8_isThing h r p0 a3).bind (fun v23 => if ¬ v23 = 0 then (gd (inb a2 (lnM (r p0 3))) (gd (inb a3 (lnM (r (r p0 3) (ix a2)))) (if ¬ (h (r (r p0 3) (ix a2)) (ix a3)) = 0 then ((fX8_tellPath h r p0 a2 a3).bind (fun h49 => bi2 (fX8_doesMatch h49 r p0 a1) (fun v54 h54 => if v54 = 0 then (some (0, h54)) else (some (1, h54))))) else (some ((-3), h))))) else (some ((-2), h)))))))
set_option maxRecDepth 100000 in
set_option maxHeartbeats 4000000 in
theorem kX8_matches {X : XT} {b N sz : Nat} {ok : Nat → Prop} {h : HH} {r : RR} {w : Int32 × HH} (hX : XOK X RX8 cX8_matches 4 3) (hM : N ≤ MM) (hW : WT KM lnM ok N r) (p0 : Nat) (a1 : Int32) (a2 : Int32) (a3 : Int32) (t0 : KM p0 = 8 ∧ ok p0) (hR : XR X b KM lnM MM (some FieldType.int) 0 0 N sz (some (.int w.1)) w.2 r) (hF : fX8_matches h r p0 a1 a2 a3 = some w) : GX X b KM lnM MM 4 0 0 N sz 0 [(0, .ref (b + p0)), (1, .int a1), (2, .int a2), (3, .int a3)] [] h r := by
  rw [fX8_matches] at hF
  refine g_iload_n hX dX8_matches_0 (i := 1) rfl (j := 1) rfl ?_
  refine g_iconst (v := 0) hX dX8_matches_1 (by decide) ?_
  refine g_aload_n hX dX8_matches_2 (i := 0) rfl (j := 0) rfl ?_
  refine gf_X8_230 hX dX8_matches_3 (ty1 hW t0) ?_
  refine g_iconst (v := 1) hX dX8_matches_6 (by decide) ?_
  refine g_isub hX dX8_matches_7 ?_
  obtain ⟨v8, e8, hF⟩ := bi_some hF
  refine g_callS (As := [.int a1, .int 0, .int ((h p0 11) - 1)]) (rest := []) (stk := [.int v8]) hX dX8_matches_8 (ctX8_in hM hW a1 0 ((h p0 11) - 1) e8) (by decide) (by decide) wm_X8_133 wt_X8_in wz_X8 wc_X8_in hyX8_in rfl (Nat.le_of_ble_eq_true rfl) rfl rfl ?_ rfl rfl
  refine g_if_eq (tgt := 29) hX dX8_matches_11 (by decide) (fun c11 => ?_) (fun c11 => ?_)
  · have hF := ite_t hF c11
    refine g_bipush (v := (-2)) hX dX8_matches_29 (by decide) ?_
    obtain rfl := Option.some.inj hF
    exact g_iret hX dX8_matches_31 hR
  · have hF := ite_f hF c11
    refine g_iload_n hX dX8_matches_14 (i := 2) rfl (j := 2) rfl ?_
    obtain ⟨v15, e15, hF⟩ := bi_some hF
    refine g_callS (As := [.int a2]) (rest := []) (stk := [.int v15]) hX dX8_matches_15 (ctX8_isPlace hM hW a2 e15) (by decide) (by decide) wm_X8_187 wt_X8_isPlace wz_X8 wc_X8_isPlace hyX8_isPlace rfl (Nat.le_of_ble_eq_true rfl) rfl rfl ?_ rfl rfl
    refine g_if_eq (tgt := 29) hX dX8_matches_18 (by decide) (fun c18 => ?_) (fun c18 => ?_)
    · have hF := ite_t hF c18
      refine g_bipush (v := (-2)) hX dX8_matches_29 (by decide) ?_
      obtain rfl := Option.some.inj hF
      exact g_iret hX dX8_matches_31 hR
    · have hF := ite_f hF c18
      refine g_aload_n hX dX8_matches_21 (i := 0) rfl (j := 0) rfl ?_
      refine g_iload_n hX dX8_matches_22 (i := 3) rfl (j := 3) rfl ?_
      obtain ⟨v23, e23, hF⟩ := bi_some hF
      refine g_callV (As := [.int a3]) (rest := []) (stk := [.int v23]) hX dX8_matches_23 (ctX8_isThing hM hW p0 a3 t0 e23) (by decide) (by decide) wm_X8_137 wi_X8_isThing ws_X8_isThing wz_X8 wc_X8_isThing hyX8_isThing rfl (ci := 8) rfl (by decide) t0.1 (hW.1 _ t0.2).1 (hW.1 _ t0.2).2 (Nat.le_of_ble_eq_true rfl) rfl rfl ?_ rfl rfl
      refine g_if_ne (tgt := 32) hX dX8_matches_26 (by decide) (fun c26 => ?_) (fun c26 => ?_)
      · have hF := ite_t hF c26
        refine g_aload_n hX dX8_matches_32 (i := 0) rfl (j := 0) rfl ?_
        have tf33 := (tyF (k := 3) hW t0 (by decide) rfl (by decide) : KM (r p0 3) = 15 ∧ ok (r p0 3))
        refine gf_X8_15 hX dX8_matches_33 (ty1 hW t0) (hW.1 _ tf33.2).1 ?_
        refine g_iload_n hX dX8_matches_36 (i := 2) rfl (j := 2) rfl ?_
        obtain ⟨g37, hF⟩ := gd_some hF
        have ta37 : KM (r (r p0 3) (ix a2)) = 10 ∧ ok (r (r p0 3) (ix a2)) := tyA hW tf33 (by decide) rfl (by decide) g37
        refine g_aald hX dX8_matches_37 tf33.1 (by decide) (by decide) (hW.1 _ tf33.2).1 (hW.1 _ tf33.2).2 g37 (hW.1 _ ta37.2).1 ?_
        refine g_iload_n hX dX8_matches_38 (i := 3) rfl (j := 3) rfl ?_
        obtain ⟨g39, hF⟩ := gd_some hF
        refine g_bald hX dX8_matches_39 ta37.1 (hW.1 _ ta37.2).1 (hW.1 _ ta37.2).2 g39 ?_
        refine g_if_ne (tgt := 46) hX dX8_matches_40 (by decide) (fun c40 => ?_) (fun c40 => ?_)
        · have hF := ite_t hF c40
          refine g_aload_n hX dX8_matches_46 (i := 0) rfl (j := 0) rfl ?_
          refine g_iload_n hX dX8_matches_47 (i := 2) rfl (j := 2) rfl ?_
          refine g_iload_n hX dX8_matches_48 (i := 3) rfl (j := 3) rfl ?_
          obtain ⟨h49, e49, hF⟩ := bi_some hF
          refine g_callV (As := [.int a2, .int a3]) (rest := []) (stk := []) hX dX8_matches_49 (ctX8_tellPath hM hW p0 a2 a3 t0 e49) (by decide) (by decide) wm_X8_242 wi_X8_tellPath ws_X8_tellPath wz_X8 wc_X8_tellPath hyX8_tellPath rfl (ci := 8) rfl (by decide) t0.1 (hW.1 _ t0.2).1 (hW.1 _ t0.2).2 (Nat.le_of_ble_eq_true rfl) rfl rfl ?_ rfl rfl
          refine g_aload_n hX dX8_matches_52 (i := 0) rfl (j := 0) rfl ?_
          refine g_iload_n hX dX8_matches_53 (i := 1) rfl (j := 1) rfl ?_
          obtain ⟨v54, h54, e54, hF⟩ := bi2_some hF
          refine g_callV (As := [.int a1]) (rest := []) (stk := [.int v54]) hX dX8_matches_54 (ctX8_doesMatch hM hW p0 a1 t0 e54) (by decide) (by decide) wm_X8_246 wi_X8_doesMatch ws_X8_doesMatch wz_X8 wc_X8_doesMatch hyX8_doesMatch rfl (ci := 8) rfl (by decide) t0.1 (hW.1 _ t0.2).1 (hW.1 _ t0.2).2 (Nat.le_of_ble_eq_true rfl) rfl rfl ?_ rfl rfl
          refine g_if_eq (tgt := 64) hX dX8_matches_57 (by decide) (fun c57 => ?_) (fun c57 => ?_)
          · have hF := ite_t hF c57
            refine g_iconst (v := 0) hX dX8_matches_64 (by decide) ?_
            obtain rfl := Option.some.inj hF
            exact g_iret hX dX8_matches_65 hR
          · have hF := ite_f hF c57
            refine g_iconst (v := 1) hX dX8_matches_60 (by decide) ?_
            refine g_goto (tgt := 65) hX dX8_matches_61 (by decide) ?_
            obtain rfl := Option.some.inj hF
            exact g_iret hX dX8_matches_65 hR
        · have hF := ite_f hF (fun z => z c40)
          refine g_bipush (v := (-3)) hX dX8_matches_43 (by decide) ?_
          obtain rfl := Option.some.inj hF
          exact g_iret hX dX8_matches_45 hR
      · have hF := ite_f hF (fun z => z c26)
        refine g_bipush (v := (-2)) hX dX8_matches_29 (by decide) ?_
        obtain rfl := Option.some.inj hF
        exact g_iret hX dX8_matches_31 hR
theorem ctX8_matches {b N sz : Nat} {ok : Nat → Prop} {h : HH} {r : RR} {w : Int32 × HH} (hM : N ≤ MM) (hW : WT KM lnM ok N r) (p0 : Nat) (a1 : Int32) (a2 : Int32) (a3 : Int32) (t0 : KM p0 = 8 ∧ ok p0) (hF : fX8_matches h r p0 a1 a2 a3 = some w) : CT yX8_matches cX8_matches 4 (some FieldType.int) 3 b KM lnM MM N sz [.ref (b + p0), .int a1, .int a2, .int a3] h r N sz (some (.int w.1)) w.2 r 0 0 :=
  CT_of (by decide) rfl (Nat.le_of_ble_eq_true rfl) (by decide) trivial (fun X hX hR => kX8_matches hX hM hW p0 a1 a2 a3 t0 hR hF)
/-! X8_clashes -/
def fX8_clashes (h : HH) (r : RR) (p0 : Nat) (a1 : Int32) (a2 : Int32) : Option (HH) := gd (inb (h p0 26) (lnM (r p0 28))) (lt (up h (r p0 28) (ix (h p0 26)) a1) (fun h9 => gd (inb (h9 p0 26) (lnM (r p0 29))) (lt (up h9 (r p0 29) (ix (h9 p0 26)) a2) (fun h19 => lt (up h19 p0 26 ((h19 p0 26) + 1)) (fun h27 => some h27)))))
set_option maxRecDepth 100000 in
set_option maxHeartbeats 4000000 in
theorem kX8_clashes {X : XT} {b N sz : Nat} {ok : Nat → Prop} {h : HH} {r : RR} {w : HH} (hX : XOK X RX8 cX8_clashes 3 1) (hM : N ≤ MM) (hW : WT KM lnM ok N r) (p0 : Nat) (a1 : Int32) (a2 : Int32) (t0 : KM p0 = 8 ∧ ok p0) (hR : XR X b KM lnM MM (none) 0 0 N sz none w r) (hF : fX8_clashes h r p0 a1 a2 = some w) : GX X b KM lnM MM 3 0 0 N sz 0 [(0, .ref (b + p0)), (1, .int a1), (2, .int a2)] [] h r := by
  rw [fX8_clashes] at hF
  refine g_aload_n hX dX8_clashes_0 (i := 0) rfl (j := 0) rfl ?_
  have tf1 := (tyF (k := 28) hW t0 (by decide) rfl (by decide) : KM (r p0 28) = 9 ∧ ok (r p0 28))
  refine gf_X8_58 hX dX8_clashes_1 (ty1 hW t0) (hW.1 _ tf1.2).1 ?_
  refine g_aload_n hX dX8_clashes_4 (i := 0) rfl (j := 0) rfl ?_
  refine gf_X8_249 hX dX8_clashes_5 (ty1 hW t0) ?_
  refine g_iload_n hX dX8_clashes_8 (i := 1) rfl (j := 1) rfl ?_
  obtain ⟨g9, hF⟩ := gd_some hF
  obtain ⟨h9, e9, hF⟩ := lt_some hF
  refine g_iast hX dX8_clashes_9 tf1.1 (hW.1 _ tf1.2).1 (hW.1 _ tf1.2).2 hM g9 e9 ?_
  refine g_aload_n hX dX8_clashes_10 (i := 0) rfl (j := 0) rfl ?_
  have tf11 := (tyF (k := 29) hW t0 (by decide) rfl (by decide) : KM (r p0 29) = 9 ∧ ok (r p0 29))
  refine gf_X8_61 hX dX8_clashes_11 (ty1 hW t0) (hW.1 _ tf11.2).1 ?_
  refine g_aload_n hX dX8_clashes_14 (i := 0) rfl (j := 0) rfl ?_
  refine gf_X8_249 hX dX8_clashes_15 (ty1 hW t0) ?_
  refine g_iload_n hX dX8_clashes_18 (i := 2) rfl (j := 2) rfl ?_
  obtain ⟨g19, hF⟩ := gd_some hF
  obtain ⟨h19, e19, hF⟩ := lt_some hF
  refine g_iast hX dX8_clashes_19 tf11.1 (hW.1 _ tf11.2).1 (hW.1 _ tf11.2).2 hM g19 e19 ?_
  refine g_aload_n hX dX8_clashes_20 (i := 0) rfl (j := 0) rfl ?_
  refine g_dup hX dX8_clashes_21 rfl ?_
  refine gf_X8_249 hX dX8_clashes_22 (ty1 hW t0) ?_
  refine g_iconst (v := 1) hX dX8_clashes_25 (by decide) ?_
  refine g_iadd hX dX8_clashes_26 ?_
  obtain ⟨h27, e27, hF⟩ := lt_some hF
  refine pf_X8_249 hX dX8_clashes_27 (ty1 hW t0) hM e27 ?_
  obtain rfl := Option.some.inj hF
  exact g_vret hX dX8_clashes_30 hR
theorem ctX8_clashes {b N sz : Nat} {ok : Nat → Prop} {h : HH} {r : RR} {w : HH} (hM : N ≤ MM) (hW : WT KM lnM ok N r) (p0 : Nat) (a1 : Int32) (a2 : Int32) (t0 : KM p0 = 8 ∧ ok p0) (hF : fX8_clashes h r p0 a1 a2 = some w) : CT yX8_clashes cX8_clashes 3 (none) 1 b KM lnM MM N sz [.ref (b + p0), .int a1, .int a2] h r N sz none w r 0 0 :=
  CT_of (by decide) rfl (Nat.le_of_ble_eq_true rfl) (by decide) trivial (fun X hX hR => kX8_clashes hX hM hW p0 a1 a2 t0 hR hF)
/-! X8_isStirred -/
def fX8_isStirred_b57 (h : HH) (r : RR) (p0 : Nat) (a1 : Int32) (a2 : Int32) (k16 : Int32 → Option (Int32)) (x3 : Int32) : Option (Int32) := k16 (x3 + 1)
def fX8_isStirred_b16 (h : HH) (r : RR) (p0 : Nat) (a1 : Int32) (a2 : Int32) : Nat → Int32 → Option (Int32)
  | 0, _ => none
  | n + 1, x3 => if (h p0 0) ≤ x3 then (some (0)) else ((fX8_isInner h r p0 a1 x3 a2).bind (fun v28 => if v28 = 0 then (fX8_isStirred_b57 h r p0 a1 a2 (fun z3_ => fX8_isStirred_b16 h r p0 a1 a2 n z3_) x3) else (gd (inb x3 (lnM (r p0 25))) (if ¬ (h (r p0 25) (ix x3)) = 0 then (some (1)) else ((fX8_changed h r p0 a1 x3).bind (fun v46 => if (v46 &&& 13) = 0 then (fX8_isStirred_b57 h r p0 a1 a2 (fun z3_ => fX8_isStirred_b16 h r p0 a1 a2 n z3_) x3) else (some (1))))))))
def fX8_isStirred (h : HH) (r : RR) (p0 : Nat) (a1 : Int32) (a2 : Int32) : Option (Int32) := (fX8_changed h r p0 a1 a2).bind (fun v3 => if (v3 &&& 12) = 0 then (fX8_isStirred_b16 h r p0 a1 a2 lpF 0) else (some (1)))
set_option maxRecDepth 100000 in
set_option maxHeartbeats 4000000 in
theorem kX8_isStirred_b57 {X : XT} {b N sz : Nat} {ok : Nat → Prop} {h : HH} {r : RR} {w : Int32} (hX : XOK X RX8 cX8_isStirred 4 3) (hM : N ≤ MM) (hW : WT KM lnM ok N r) (p0 : Nat) (a1 : Int32) (a2 : Int32) (t0 : KM p0 = 8 ∧ ok p0) (hR : XR X b KM lnM MM (some FieldType.boolean) 0 0 N sz (some (.int w)) h r) (k16 : Int32 → Option (Int32)) (hk16 : ∀ (x3 : Int32), k16 x3 = some w → GX X b KM lnM MM 4 0 0 N sz 16 [(0, .ref (b + p0)), (1, .int a1), (2, .int a2), (3, .int x3)] [] h r) (x3 : Int32) (hF : fX8_isStirred_b57 h r p0 a1 a2 k16 x3 = some w) : GX X b KM lnM MM 4 0 0 N sz 57 [(0, .ref (b + p0)), (1, .int a1), (2, .int a2), (3, .int x3)] [] h r := by
  rw [fX8_isStirred_b57] at hF
  refine g_iinc (L' := [(3, .int (x3 + 1)), (0, .ref (b + p0)), (1, .int a1), (2, .int a2)]) (j := 3) hX dX8_isStirred_57 rfl rfl (by decide) rfl ?_
  refine g_goto (tgt := 16) hX dX8_isStirred_60 (by decide) ?_
  refine g_sub (L' := [(0, .ref (b + p0)), (1, .int a1), (2, .int a2), (3, .int (x3 + 1))]) [1, 2, 3, 0] rfl ?_
  exact hk16 (x3 + 1) hF
set_option maxRecDepth 100000 in
set_option maxHeartbeats 4000000 in
theorem kX8_isStirred_b16 {X : XT} {b N sz : Nat} {ok : Nat → Prop} {h : HH} {r : RR} {w : Int32} (hX : XOK X RX8 cX8_isStirred 4 3) (hM : N ≤ MM) (hW : WT KM lnM ok N r) (p0 : Nat) (a1 : Int32) (a2 : Int32) (t0 : KM p0 = 8 ∧ ok p0) (hR : XR X b KM lnM MM (some FieldType.boolean) 0 0 N sz (some (.int w)) h r) : ∀ (n : Nat) (x3 : Int32), fX8_isStirred_b16 h r p0 a1 a2 n x3 = some w → GX X b KM lnM MM 4 0 0 N sz 16 [(0, .ref (b + p0)), (1, .int a1), (2, .int a2), (3, .int x3)] [] h r := by
  intro n
  induction n with
  | zero =>
    intro x3 hF
    cases hF
  | succ n ih =>
    intro x3 hF
    rw [fX8_isStirred_b16] at hF
    refine g_iload_n hX dX8_isStirred_16 (i := 3) rfl (j := 3) rfl ?_
    refine g_aload_n hX dX8_isStirred_17 (i := 0) rfl (j := 0) rfl ?_
    refine gf_X8_130 hX dX8_isStirred_18 (ty1 hW t0) ?_
    refine g_icmp_ge (tgt := 63) hX dX8_isStirred_21 (by decide) (fun c21 => ?_) (fun c21 => ?_)
    · have hF := ite_t hF c21
      refine g_iconst (v := 0) hX dX8_isStirred_63 (by decide) ?_
      obtain rfl := Option.some.inj hF
      exact g_zret hX dX8_isStirred_64 (by decide) hR
    · have hF := ite_f hF c21
      refine g_aload_n hX dX8_isStirred_24 (i := 0) rfl (j := 0) rfl ?_
      refine g_iload_n hX dX8_isStirred_25 (i := 1) rfl (j := 1) rfl ?_
      refine g_iload_n hX dX8_isStirred_26 (i := 3) rfl (j := 3) rfl ?_
      refine g_iload_n hX dX8_isStirred_27 (i := 2) rfl (j := 2) rfl ?_
      obtain ⟨v28, e28, hF⟩ := bi_some hF
      refine g_callV (As := [.int a1, .int x3, .int a2]) (rest := []) (stk := [.int v28]) hX dX8_isStirred_28 (ctX8_isInner hM hW p0 a1 x3 a2 t0 e28) (by decide) (by decide) wm_X8_181 wi_X8_isInner ws_X8_isInner wz_X8 wc_X8_isInner hyX8_isInner rfl (ci := 8) rfl (by decide) t0.1 (hW.1 _ t0.2).1 (hW.1 _ t0.2).2 (Nat.le_of_ble_eq_true rfl) rfl rfl ?_ rfl rfl
      refine g_if_eq (tgt := 57) hX dX8_isStirred_31 (by decide) (fun c31 => ?_) (fun c31 => ?_)
      · have hF := ite_t hF c31
        refine g_sub (L' := [(0, .ref (b + p0)), (1, .int a1), (2, .int a2), (3, .int x3)]) [0, 1, 2, 3] rfl ?_
        exact kX8_isStirred_b57 hX hM hW p0 a1 a2 t0 hR (fun z3_ => fX8_isStirred_b16 h r p0 a1 a2 n z3_) ih x3 hF
      · have hF := ite_f hF c31
        refine g_aload_n hX dX8_isStirred_34 (i := 0) rfl (j := 0) rfl ?_
        have tf35 := (tyF (k := 25) hW t0 (by decide) rfl (by decide) : KM (r p0 25) = 10 ∧ ok (r p0 25))
        refine gf_X8_55 hX dX8_isStirred_35 (ty1 hW t0) (hW.1 _ tf35.2).1 ?_
        refine g_iload_n hX dX8_isStirred_38 (i := 3) rfl (j := 3) rfl ?_
        obtain ⟨g39, hF⟩ := gd_some hF
        refine g_bald hX dX8_isStirred_39 tf35.1 (hW.1 _ tf35.2).1 (hW.1 _ tf35.2).2 g39 ?_
        refine g_if_ne (tgt := 55) hX dX8_isStirred_40 (by decide) (fun c40 => ?_) (fun c40 => ?_)
        · have hF := ite_t hF c40
          refine g_iconst (v := 1) hX dX8_isStirred_55 (by decide) ?_
          obtain rfl := Option.some.inj hF
          exact g_zret hX dX8_isStirred_56 (by decide) hR
        · have hF := ite_f hF (fun z => z c40)
          refine g_aload_n hX dX8_isStirred_43 (i := 0) rfl (j := 0) rfl ?_
          refine g_iload_n hX dX8_isStirred_44 (i := 1) rfl (j := 1) rfl ?_
          refine g_iload_n hX dX8_isStirred_45 (i := 3) rfl (j := 3) rfl ?_
          obtain ⟨v46, e46, hF⟩ := bi_some hF
          refine g_callV (As := [.int a1, .int x3]) (rest := []) (stk := [.int v46]) hX dX8_isStirred_46 (ctX8_changed hM hW p0 a1 x3 t0 e46) (by decide) (by decide) wm_X8_199 wi_X8_changed ws_X8_changed wz_X8 wc_X8_changed hyX8_changed rfl (ci := 8) rfl (by decide) t0.1 (hW.1 _ t0.2).1 (hW.1 _ t0.2).2 (Nat.le_of_ble_eq_true rfl) rfl rfl ?_ rfl rfl
          refine g_bipush (v := 13) hX dX8_isStirred_49 (by decide) ?_
          refine g_iand hX dX8_isStirred_51 ?_
          refine g_if_eq (tgt := 57) hX dX8_isStirred_52 (by decide) (fun c52 => ?_) (fun c52 => ?_)
          · have hF := ite_t hF c52
            refine g_sub (L' := [(0, .ref (b + p0)), (1, .int a1), (2, .int a2), (3, .int x3)]) [0, 1, 2, 3] rfl ?_
            exact kX8_isStirred_b57 hX hM hW p0 a1 a2 t0 hR (fun z3_ => fX8_isStirred_b16 h r p0 a1 a2 n z3_) ih x3 hF
          · have hF := ite_f hF c52
            refine g_iconst (v := 1) hX dX8_isStirred_55 (by decide) ?_
            obtain rfl := Option.some.inj hF
            exact g_zret hX dX8_isStirred_56 (by decide) hR
set_option maxRecDepth 100000 in
set_option maxHeartbeats 4000000 in
theorem kX8_isStirred {X : XT} {b N sz : Nat} {ok : Nat → Prop} {h : HH} {r : RR} {w : Int32} (hX : XOK X RX8 cX8_isStirred 4 3) (hM : N ≤ MM) (hW : WT KM lnM ok N r) (p0 : Nat) (a1 : Int32) (a2 : Int32) (t0 : KM p0 = 8 ∧ ok p0) (hR : XR X b KM lnM MM (some FieldType.boolean) 0 0 N sz (some (.int w)) h r) (hF : fX8_isStirred h r p0 a1 a2 = some w) : GX X b KM lnM MM 4 0 0 N sz 0 [(0, .ref (b + p0)), (1, .int a1), (2, .int a2)] [] h r := by
  rw [fX8_isStirred] at hF
  refine g_aload_n hX dX8_isStirred_0 (i := 0) rfl (j := 0) rfl ?_
  refine g_iload_n hX dX8_isStirred_1 (i := 1) rfl (j := 1) rfl ?_
  refine g_iload_n hX dX8_isStirred_2 (i := 2) rfl (j := 2) rfl ?_
  obtain ⟨v3, e3, hF⟩ := bi_some hF
  refine g_callV (As := [.int a1, .int a2]) (rest := []) (stk := [.int v3]) hX dX8_isStirred_3 (ctX8_changed hM hW p0 a1 a2 t0 e3) (by decide) (by decide) wm_X8_199 wi_X8_changed ws_X8_changed wz_X8 wc_X8_changed hyX8_changed rfl (ci := 8) rfl (by decide) t0.1 (hW.1 _ t0.2).1 (hW.1 _ t0.2).2 (Nat.le_of_ble_eq_true rfl) rfl rfl ?_ rfl rfl
  refine g_bipush (v := 12) hX dX8_isStirred_6 (by decide) ?_
  refine g_iand hX dX8_isStirred_8 ?_
  refine g_if_eq (tgt := 14) hX dX8_isStirred_9 (by decide) (fun c9 => ?_) (fun c9 => ?_)
  · have hF := ite_t hF c9
    refine g_iconst (v := 0) hX dX8_isStirred_14 (by decide) ?_
    refine g_istore_n (L' := [(3, .int 0), (0, .ref (b + p0)), (1, .int a1), (2, .int a2)]) hX dX8_isStirred_15 (i := 3) rfl (by decide) rfl ?_
    refine g_sub (L' := [(0, .ref (b + p0)), (1, .int a1), (2, .int a2), (3, .int 0)]) [1, 2, 3, 0] rfl ?_
    exact kX8_isStirred_b16 hX hM hW p0 a1 a2 t0 hR lpF 0 hF
  · have hF := ite_f hF c9
    refine g_iconst (v := 1) hX dX8_isStirred_12 (by decide) ?_
    obtain rfl := Option.some.inj hF
    exact g_zret hX dX8_isStirred_13 (by decide) hR
theorem ctX8_isStirred {b N sz : Nat} {ok : Nat → Prop} {h : HH} {r : RR} {w : Int32} (hM : N ≤ MM) (hW : WT KM lnM ok N r) (p0 : Nat) (a1 : Int32) (a2 : Int32) (t0 : KM p0 = 8 ∧ ok p0) (hF : fX8_isStirred h r p0 a1 a2 = some w) : CT yX8_isStirred cX8_isStirred 4 (some FieldType.boolean) 3 b KM lnM MM N sz [.ref (b + p0), .int a1, .int a2] h r N sz (some (.int w)) h r 0 0 :=
  CT_of (by decide) rfl (Nat.le_of_ble_eq_true rfl) (by decide) trivial (fun X hX hR => kX8_isStirred hX hM hW p0 a1 a2 t0 hR hF)
/-! X8_whoIs -/
def fX8_whoIs_b53 (r : RR) (p0 : Nat) (a1 : Int32) (h : HH) : Option (HH) := gd (inb a1 (lnM (r p0 30))) (lt (up h (r p0 30) (ix a1) (zn 1)) (fun h59 => some h59))
def fX8_whoIs_b139 (r : RR) (p0 : Nat) (a1 : Int32) (h : HH) (u0 : Nat) (s1 : Int32) : Option (HH) := (fX8_isStirred h r u0 s1 a1).bind (fun v140 => if v140 = 0 then (some h) else (gd (inb a1 (lnM (r p0 30))) (lt (up h (r p0 30) (ix a1) (zn 1)) (fun h152 => (fX8_clashes h152 r p0 0 a1).bind (fun h156 => some h156)))))
def fX8_whoIs_b125 (r : RR) (p0 : Nat) (a1 : Int32) (h : HH) (s0 : Int32) (s1 : Int32) (x2 : Int32) : Option (HH) := if s0 = s1 then (some h) else (if ¬ x2 = 2 then (fX8_whoIs_b139 r p0 a1 h p0 0) else (fX8_whoIs_b139 r p0 a1 h p0 1))
def fX8_whoIs_b115 (r : RR) (p0 : Nat) (a1 : Int32) (h : HH) (s0 : Int32) (x2 : Int32) (x3 : Int32) : Option (HH) := if ¬ x3 = 2 then (fX8_whoIs_b125 r p0 a1 h s0 0 x2) else (fX8_whoIs_b125 r p0 a1 h s0 1 x2)
def fX8_whoIs_b94 (r : RR) (p0 : Nat) (a1 : Int32) (h : HH) (x2 : Int32) (x3 : Int32) : Option (HH) := gd (inb 2 (lnM (r p0 3))) (gd (inb a1 (lnM (r (r p0 3) (ix 2)))) (if (h (r (r p0 3) (ix 2)) (ix a1)) = 0 then (some h) else (if ¬ x2 = 2 then (fX8_whoIs_b115 r p0 a1 h 0 x2 x3) else (fX8_whoIs_b115 r p0 a1 h 1 x2 x3))))
def fX8_whoIs (h : HH) (r : RR) (p0 : Nat) (a1 : Int32) : Option (HH) := (fX8_changed h r p0 0 a1).bind (fun v3 => (fX8_changed h r p0 1 a1).bind (fun v10 => gd (inb a1 (lnM (r p0 30))) (lt (up h (r p0 30) (ix a1) (zn 0)) (fun h20 => gd (inb a1 (lnM (r p0 2))) (gd (inb a1 (lnM (r p0 31))) (lt (up h20 (r p0 31) (ix a1) (zn (h20 (r p0 2) (ix a1)))) (fun h32 => gd (inb a1 (lnM (r p0 25))) (if (h32 (r p0 25) (ix a1)) = 0 then (if v3 = 1 then (fX8_whoIs_b53 r p0 a1 h32) else (if ¬ v10 = 1 then (gd (inb 2 (lnM (r p0 3))) (gd (inb a1 (lnM (r (r p0 3) (ix 2)))) (if (h32 (r (r p0 3) (ix 2)) (ix a1)) = 0 then (fX8_whoIs_b94 r p0 a1 h32 v3 v10) else (if v3 = 2 then (fX8_whoIs_b94 r p0 a1 h32 v3 v10) else (if v10 = 2 then (fX8_whoIs_b94 r p0 a1 h32 v3 v10) else (gd (inb a1 (lnM (r p0 30))) (lt (up h32 (r p0 30) (ix a1) (zn 1)) (fun h90 => some h90)))))))) else (fX8_whoIs_b53 r p0 a1 h32))) else (some h32)))))))))
set_option maxRecDepth 100000 in
set_option maxHeartbeats 4000000 in
theorem kX8_whoIs_b53 {X : XT} {b N sz : Nat} {ok : Nat → Prop} {r : RR} {w : HH} (hX : XOK X RX8 cX8_whoIs 4 4) (hM : N ≤ MM) (hW : WT KM lnM ok N r) (p0 : Nat) (a1 : Int32) (t0 : KM p0 = 8 ∧ ok p0) (hR : XR X b KM lnM MM (none) 0 0 N sz none w r) (h : HH) (hF : fX8_whoIs_b53 r p0 a1 h = some w) : GX X b KM lnM MM 4 0 0 N sz 53 [(0, .ref (b + p0)), (1, .int a1)] [] h r := by
  rw [fX8_whoIs_b53] at hF
  refine g_aload_n hX dX8_whoIs_53 (i := 0) rfl (j := 0) rfl ?_
  have tf54 := (tyF (k := 30) hW t0 (by decide) rfl (by decide) : KM (r p0 30) = 10 ∧ ok (r p0 30))
  refine gf_X8_64 hX dX8_whoIs_54 (ty1 hW t0) (hW.1 _ tf54.2).1 ?_
  refine g_iload_n hX dX8_whoIs_57 (i := 1) rfl (j := 1) rfl ?_
  refine g_iconst (v := 1) hX dX8_whoIs_58 (by decide) ?_
  obtain ⟨g59, hF⟩ := gd_some hF
  obtain ⟨h59, e59, hF⟩ := lt_some hF
  refine g_bast hX dX8_whoIs_59 tf54.1 (hW.1 _ tf54.2).1 (hW.1 _ tf54.2).2 hM g59 e59 ?_
  refine g_goto (tgt := 159) hX dX8_whoIs_60 (by decide) ?_
  obtain rfl := Option.some.inj hF
  exact g_vret hX dX8_whoIs_159 hR
set_option maxRecDepth 100000 in
set_option maxHeartbeats 4000000 in
theorem kX8_whoIs_b139 {X : XT} {b N sz : Nat} {ok : Nat → Prop} {r : RR} {w : HH} (hX : XOK X RX8 cX8_whoIs 4 4) (hM : N ≤ MM) (hW : WT KM lnM ok N r) (p0 : Nat) (a1 : Int32) (t0 : KM p0 = 8 ∧ ok p0) (hR : XR X b KM lnM MM (none) 0 0 N sz none w r) (h : HH) (u0 : Nat) (s1 : Int32) (ts0 : KM u0 = 8 ∧ ok u0) (hF : fX8_whoIs_b139 r p0 a1 h u0 s1 = some w) : GX X b KM lnM MM 4 0 0 N sz 139 [(0, .ref (b + p0)), (1, .int a1)] [.int s1, .ref (b + u0)] h r := by
  rw [fX8_whoIs_b139] at hF
  refine g_iload_n hX dX8_whoIs_139 (i := 1) rfl (j := 1) rfl ?_
  obtain ⟨v140, e140, hF⟩ := bi_some hF
  refine g_callV (As := [.int s1, .int a1]) (rest := []) (stk := [.int v140]) hX dX8_whoIs_140 (ctX8_isStirred hM hW u0 s1 a1 ts0 e140) (by decide) (by decide) wm_X8_252 wi_X8_isStirred ws_X8_isStirred wz_X8 wc_X8_isStirred hyX8_isStirred rfl (ci := 8) rfl (by decide) ts0.1 (hW.1 _ ts0.2).1 (hW.1 _ ts0.2).2 (Nat.le_of_ble_eq_true rfl) rfl rfl ?_ rfl rfl
  refine g_if_eq (tgt := 159) hX dX8_whoIs_143 (by decide) (fun c143 => ?_) (fun c143 => ?_)
  · have hF := ite_t hF c143
    obtain rfl := Option.some.inj hF
    exact g_vret hX dX8_whoIs_159 hR
  · have hF := ite_f hF c143
    refine g_aload_n hX dX8_whoIs_146 (i := 0) rfl (j := 0) rfl ?_
    have tf147 := (tyF (k := 30) hW t0 (by decide) rfl (by decide) : KM (r p0 30) = 10 ∧ ok (r p0 30))
    refine gf_X8_64 hX dX8_whoIs_147 (ty1 hW t0) (hW.1 _ tf147.2).1 ?_
    refine g_iload_n hX dX8_whoIs_150 (i := 1) rfl (j := 1) rfl ?_
    refine g_iconst (v := 1) hX dX8_whoIs_151 (by decide) ?_
    obtain ⟨g152, hF⟩ := gd_some hF
    obtain ⟨h152, e152, hF⟩ := lt_some hF
    refine g_bast hX dX8_whoIs_152 tf147.1 (hW.1 _ tf147.2).1 (hW.1 _ tf147.2).2 hM g152 e152 ?_
    refine g_aload_n hX dX8_whoIs_153 (i := 0) rfl (j := 0) rfl ?_
    refine g_iconst (v := 0) hX dX8_whoIs_154 (by decide) ?_
    refine g_iload_n hX dX8_whoIs_155 (i := 1) rfl (j := 1) rfl ?_
    obtain ⟨h156, e156, hF⟩ := bi_some hF
    refine g_callV (As := [.int 0, .int a1]) (rest := []) (stk := []) hX dX8_whoIs_156 (ctX8_clashes hM hW p0 0 a1 t0 e156) (by decide) (by decide) wm_X8_255 wi_X8_clashes ws_X8_clashes wz_X8 wc_X8_clashes hyX8_clashes rfl (ci := 8) rfl (by decide) t0.1 (hW.1 _ t0.2).1 (hW.1 _ t0.2).2 (Nat.le_of_ble_eq_true rfl) rfl rfl ?_ rfl rfl
    obtain rfl := Option.some.inj hF
    exact g_vret hX dX8_whoIs_159 hR
set_option maxRecDepth 100000 in
set_option maxHeartbeats 4000000 in
theorem kX8_whoIs_b125 {X : XT} {b N sz : Nat} {ok : Nat → Prop} {r : RR} {w : HH} (hX : XOK X RX8 cX8_whoIs 4 4) (hM : N ≤ MM) (hW : WT KM lnM ok N r) (p0 : Nat) (a1 : Int32) (t0 : KM p0 = 8 ∧ ok p0) (hR : XR X b KM lnM MM (none) 0 0 N sz none w r) (h : HH) (s0 : Int32) (s1 : Int32) (x2 : Int32) (hF : fX8_whoIs_b125 r p0 a1 h s0 s1 x2 = some w) : GX X b KM lnM MM 4 0 0 N sz 125 [(0, .ref (b + p0)), (1, .int a1), (2, .int x2)] [.int s1, .int s0] h r := by
  rw [fX8_whoIs_b125] at hF
  refine g_icmp_eq (tgt := 159) hX dX8_whoIs_125 (by decide) (fun c125 => ?_) (fun c125 => ?_)
  · have hF := ite_t hF c125
    obtain rfl := Option.some.inj hF
    exact g_vret hX dX8_whoIs_159 hR
  · have hF := ite_f hF c125
    refine g_aload_n hX dX8_whoIs_128 (i := 0) rfl (j := 0) rfl ?_
    refine g_iload_n hX dX8_whoIs_129 (i := 2) rfl (j := 2) rfl ?_
    refine g_iconst (v := 2) hX dX8_whoIs_130 (by decide) ?_
    refine g_icmp_ne (tgt := 138) hX dX8_whoIs_131 (by decide) (fun c131 => ?_) (fun c131 => ?_)
    · have hF := ite_t hF c131
      refine g_iconst (v := 0) hX dX8_whoIs_138 (by decide) ?_
      refine g_sub (L' := [(0, .ref (b + p0)), (1, .int a1)]) [0, 1] rfl ?_
      exact kX8_whoIs_b139 hX hM hW p0 a1 t0 hR h p0 0 t0 hF
    · have hF := ite_f hF (fun z => z c131)
      refine g_iconst (v := 1) hX dX8_whoIs_134 (by decide) ?_
      refine g_goto (tgt := 139) hX dX8_whoIs_135 (by decide) ?_
      refine g_sub (L' := [(0, .ref (b + p0)), (1, .int a1)]) [0, 1] rfl ?_
      exact kX8_whoIs_b139 hX hM hW p0 a1 t0 hR h p0 1 t0 hF
set_option maxRecDepth 100000 in
set_option maxHeartbeats 4000000 in
theorem kX8_whoIs_b115 {X : XT} {b N sz : Nat} {ok : Nat → Prop} {r : RR} {w : HH} (hX : XOK X RX8 cX8_whoIs 4 4) (hM : N ≤ MM) (hW : WT KM lnM ok N r) (p0 : Nat) (a1 : Int32) (t0 : KM p0 = 8 ∧ ok p0) (hR : XR X b KM lnM MM (none) 0 0 N sz none w r) (h : HH) (s0 : Int32) (x2 : Int32) (x3 : Int32) (hF : fX8_whoIs_b115 r p0 a1 h s0 x2 x3 = some w) : GX X b KM lnM MM 4 0 0 N sz 115 [(0, .ref (b + p0)), (1, .int a1), (2, .int x2), (3, .int x3)] [.int s0] h r := by
  rw [fX8_whoIs_b115] at hF
  refine g_iload_n hX dX8_whoIs_115 (i := 3) rfl (j := 3) rfl ?_
  refine g_iconst (v := 2) hX dX8_whoIs_116 (by decide) ?_
  refine g_icmp_ne (tgt := 124) hX dX8_whoIs_117 (by decide) (fun c117 => ?_) (fun c117 => ?_)
  · have hF := ite_t hF c117
    refine g_iconst (v := 0) hX dX8_whoIs_124 (by decide) ?_
    refine g_sub (L' := [(0, .ref (b + p0)), (1, .int a1), (2, .int x2)]) [0, 1, 2] rfl ?_
    exact kX8_whoIs_b125 hX hM hW p0 a1 t0 hR h s0 0 x2 hF
  · have hF := ite_f hF (fun z => z c117)
    refine g_iconst (v := 1) hX dX8_whoIs_120 (by decide) ?_
    refine g_goto (tgt := 125) hX dX8_whoIs_121 (by decide) ?_
    refine g_sub (L' := [(0, .ref (b + p0)), (1, .int a1), (2, .int x2)]) [0, 1, 2] rfl ?_
    exact kX8_whoIs_b125 hX hM hW p0 a1 t0 hR h s0 1 x2 hF
set_option maxRecDepth 100000 in
set_option maxHeartbeats 4000000 in
theorem kX8_whoIs_b94 {X : XT} {b N sz : Nat} {ok : Nat → Prop} {r : RR} {w : HH} (hX : XOK X RX8 cX8_whoIs 4 4) (hM : N ≤ MM) (hW : WT KM lnM ok N r) (p0 : Nat) (a1 : Int32) (t0 : KM p0 = 8 ∧ ok p0) (hR : XR X b KM lnM MM (none) 0 0 N sz none w r) (h : HH) (x2 : Int32) (x3 : Int32) (hF : fX8_whoIs_b94 r p0 a1 h x2 x3 = some w) : GX X b KM lnM MM 4 0 0 N sz 94 [(0, .ref (b + p0)), (1, .int a1), (2, .int x2), (3, .int x3)] [] h r := by
  rw [fX8_whoIs_b94] at hF
  refine g_aload_n hX dX8_whoIs_94 (i := 0) rfl (j := 0) rfl ?_
  have tf95 := (tyF (k := 3) hW t0 (by decide) rfl (by decide) : KM (r p0 3) = 15 ∧ ok (r p0 3))
  refine gf_X8_15 hX dX8_whoIs_95 (ty1 hW t0) (hW.1 _ tf95.2).1 ?_
  refine g_iconst (v := 2) hX dX8_whoIs_98 (by decide) ?_
  obtain ⟨g99, hF⟩ := gd_some hF
  have ta99 : KM (r (r p0 3) (ix 2)) = 10 ∧ ok (r (r p0 3) (ix 2)) := tyA hW tf95 (by decide) rfl (by decide) g99
  refine g_aald hX dX8_whoIs_99 tf95.1 (by decide) (by decide) (hW.1 _ tf95.2).1 (hW.1 _ tf95.2).2 g99 (hW.1 _ ta99.2).1 ?_
  refine g_iload_n hX dX8_whoIs_100 (i := 1) rfl (j := 1) rfl ?_
  obtain ⟨g101, hF⟩ := gd_some hF
  refine g_bald hX dX8_whoIs_101 ta99.1 (hW.1 _ ta99.2).1 (hW.1 _ ta99.2).2 g101 ?_
  refine g_if_eq (tgt := 159) hX dX8_whoIs_102 (by decide) (fun c102 => ?_) (fun c102 => ?_)
  · have hF := ite_t hF c102
    obtain rfl := Option.some.inj hF
    exact g_vret hX dX8_whoIs_159 hR
  · have hF := ite_f hF c102
    refine g_iload_n hX dX8_whoIs_105 (i := 2) rfl (j := 2) rfl ?_
    refine g_iconst (v := 2) hX dX8_whoIs_106 (by decide) ?_
    refine g_icmp_ne (tgt := 114) hX dX8_whoIs_107 (by decide) (fun c107 => ?_) (fun c107 => ?_)
    · have hF := ite_t hF c107
      refine g_iconst (v := 0) hX dX8_whoIs_114 (by decide) ?_
      refine g_sub (L' := [(0, .ref (b + p0)), (1, .int a1), (2, .int x2), (3, .int x3)]) [0, 1, 2, 3] rfl ?_
      exact kX8_whoIs_b115 hX hM hW p0 a1 t0 hR h 0 x2 x3 hF
    · have hF := ite_f hF (fun z => z c107)
      refine g_iconst (v := 1) hX dX8_whoIs_110 (by decide) ?_
      refine g_goto (tgt := 115) hX dX8_whoIs_111 (by decide) ?_
      refine g_sub (L' := [(0, .ref (b + p0)), (1, .int a1), (2, .int x2), (3, .int x3)]) [0, 1, 2, 3] rfl ?_
      exact kX8_whoIs_b115 hX hM hW p0 a1 t0 hR h 1 x2 x3 hF
set_option maxRecDepth 100000 in
set_option maxHeartbeats 4000000 in
theorem kX8_whoIs {X : XT} {b N sz : Nat} {ok : Nat → Prop} {h : HH} {r : RR} {w : HH} (hX : XOK X RX8 cX8_whoIs 4 4) (hM : N ≤ MM) (hW : WT KM lnM ok N r) (p0 : Nat) (a1 : Int32) (t0 : KM p0 = 8 ∧ ok p0) (hR : XR X b KM lnM MM (none) 0 0 N sz none w r) (hF : fX8_whoIs h r p0 a1 = some w) : GX X b KM lnM MM 4 0 0 N sz 0 [(0, .ref (b + p0)), (1, .int a1)] [] h r := by
  rw [fX8_whoIs] at hF
  refine g_aload_n hX dX8_whoIs_0 (i := 0) rfl (j := 0) rfl ?_
  refine g_iconst (v := 0) hX dX8_whoIs_1 (by decide) ?_
  refine g_iload_n hX dX8_whoIs_2 (i := 1) rfl (j := 1) rfl ?_
  obtain ⟨v3, e3, hF⟩ := bi_some hF
  refine g_callV (As := [.int 0, .int a1]) (rest := []) (stk := [.int v3]) hX dX8_whoIs_3 (ctX8_changed hM hW p0 0 a1 t0 e3) (by decide) (by decide) wm_X8_199 wi_X8_changed ws_X8_changed wz_X8 wc_X8_changed hyX8_changed rfl (ci := 8) rfl (by decide) t0.1 (hW.1 _ t0.2).1 (hW.1 _ t0.2).2 (Nat.le_of_ble_eq_true rfl) rfl rfl ?_ rfl rfl
  refine g_istore_n (L' := [(2, .int v3), (0, .ref (b + p0)), (1, .int a1)]) hX dX8_whoIs_6 (i := 2) rfl (by decide) rfl ?_
  refine g_aload_n hX dX8_whoIs_7 (i := 0) rfl (j := 1) rfl ?_
  refine g_iconst (v := 1) hX dX8_whoIs_8 (by decide) ?_
  refine g_iload_n hX dX8_whoIs_9 (i := 1) rfl (j := 2) rfl ?_
  obtain ⟨v10, e10, hF⟩ := bi_some hF
  refine g_callV (As := [.int 1, .int a1]) (rest := []) (stk := [.int v10]) hX dX8_whoIs_10 (ctX8_changed hM hW p0 1 a1 t0 e10) (by decide) (by decide) wm_X8_199 wi_X8_changed ws_X8_changed wz_X8 wc_X8_changed hyX8_changed rfl (ci := 8) rfl (by decide) t0.1 (hW.1 _ t0.2).1 (hW.1 _ t0.2).2 (Nat.le_of_ble_eq_true rfl) rfl rfl ?_ rfl rfl
  refine g_istore_n (L' := [(3, .int v10), (2, .int v3), (0, .ref (b + p0)), (1, .int a1)]) hX dX8_whoIs_13 (i := 3) rfl (by decide) rfl ?_
  refine g_aload_n hX dX8_whoIs_14 (i := 0) rfl (j := 2) rfl ?_
  have tf15 := (tyF (k := 30) hW t0 (by decide) rfl (by decide) : KM (r p0 30) = 10 ∧ ok (r p0 30))
  refine gf_X8_64 hX dX8_whoIs_15 (ty1 hW t0) (hW.1 _ tf15.2).1 ?_
  refine g_iload_n hX dX8_whoIs_18 (i := 1) rfl (j := 3) rfl ?_
  refine g_iconst (v := 0) hX dX8_whoIs_19 (by decide) ?_
  obtain ⟨g20, hF⟩ := gd_some hF
  obtain ⟨h20, e20, hF⟩ := lt_some hF
  refine g_bast hX dX8_whoIs_20 tf15.1 (hW.1 _ tf15.2).1 (hW.1 _ tf15.2).2 hM g20 e20 ?_
  refine g_aload_n hX dX8_whoIs_21 (i := 0) rfl (j := 2) rfl ?_
  have tf22 := (tyF (k := 31) hW t0 (by decide) rfl (by decide) : KM (r p0 31) = 10 ∧ ok (r p0 31))
  refine gf_X8_67 hX dX8_whoIs_22 (ty1 hW t0) (hW.1 _ tf22.2).1 ?_
  refine g_iload_n hX dX8_whoIs_25 (i := 1) rfl (j := 3) rfl ?_
  refine g_aload_n hX dX8_whoIs_26 (i := 0) rfl (j := 2) rfl ?_
  have tf27 := (tyF (k := 2) hW t0 (by decide) rfl (by decide) : KM (r p0 2) = 10 ∧ ok (r p0 2))
  refine gf_X8_9 hX dX8_whoIs_27 (ty1 hW t0) (hW.1 _ tf27.2).1 ?_
  refine g_iload_n hX dX8_whoIs_30 (i := 1) rfl (j := 3) rfl ?_
  obtain ⟨g31, hF⟩ := gd_some hF
  refine g_bald hX dX8_whoIs_31 tf27.1 (hW.1 _ tf27.2).1 (hW.1 _ tf27.2).2 g31 ?_
  obtain ⟨g32, hF⟩ := gd_some hF
  obtain ⟨h32, e32, hF⟩ := lt_some hF
  refine g_bast hX dX8_whoIs_32 tf22.1 (hW.1 _ tf22.2).1 (hW.1 _ tf22.2).2 hM g32 e32 ?_
  refine g_aload_n hX dX8_whoIs_33 (i := 0) rfl (j := 2) rfl ?_
  have tf34 := (tyF (k := 25) hW t0 (by decide) rfl (by decide) : KM (r p0 25) = 10 ∧ ok (r p0 25))
  refine gf_X8_55 hX dX8_whoIs_34 (ty1 hW t0) (hW.1 _ tf34.2).1 ?_
  refine g_iload_n hX dX8_whoIs_37 (i := 1) rfl (j := 3) rfl ?_
  obtain ⟨g38, hF⟩ := gd_some hF
  refine g_bald hX dX8_whoIs_38 tf34.1 (hW.1 _ tf34.2).1 (hW.1 _ tf34.2).2 g38 ?_
  refine g_if_eq (tgt := 43) hX dX8_whoIs_39 (by decide) (fun c39 => ?_) (fun c39 => ?_)
  · have hF := ite_t hF c39
    refine g_iload_n hX dX8_whoIs_43 (i := 2) rfl (j := 1) rfl ?_
    refine g_iconst (v := 1) hX dX8_whoIs_44 (by decide) ?_
    refine g_icmp_eq (tgt := 53) hX dX8_whoIs_45 (by decide) (fun c45 => ?_) (fun c45 => ?_)
    · have hF := ite_t hF c45
      refine g_sub (L' := [(0, .ref (b + p0)), (1, .int a1)]) [2, 3] rfl ?_
      exact kX8_whoIs_b53 hX hM hW p0 a1 t0 hR h32 hF
    · have hF := ite_f hF c45
      refine g_iload_n hX dX8_whoIs_48 (i := 3) rfl (j := 0) rfl ?_
      refine g_iconst (v := 1) hX dX8_whoIs_49 (by decide) ?_
      refine g_icmp_ne (tgt := 63) hX dX8_whoIs_50 (by decide) (fun c50 => ?_) (fun c50 => ?_)
      · have hF := ite_t hF c50
        refine g_aload_n hX dX8_whoIs_63 (i := 0) rfl (j := 2) rfl ?_
        have tf64 := (tyF (k := 3) hW t0 (by decide) rfl (by decide) : KM (r p0 3) = 15 ∧ ok (r p0 3))
        refine gf_X8_15 hX dX8_whoIs_64 (ty1 hW t0) (hW.1 _ tf64.2).1 ?_
        refine g_iconst (v := 2) hX dX8_whoIs_67 (by decide) ?_
        obtain ⟨g68, hF⟩ := gd_some hF
        have ta68 : KM (r (r p0 3) (ix 2)) = 10 ∧ ok (r (r p0 3) (ix 2)) := tyA hW tf64 (by decide) rfl (by decide) g68
        refine g_aald hX dX8_whoIs_68 tf64.1 (by decide) (by decide) (hW.1 _ tf64.2).1 (hW.1 _ tf64.2).2 g68 (hW.1 _ ta68.2).1 ?_
        refine g_iload_n hX dX8_whoIs_69 (i := 1) rfl (j := 3) rfl ?_
        obtain ⟨g70, hF⟩ := gd_some hF
        refine g_bald hX dX8_whoIs_70 ta68.1 (hW.1 _ ta68.2).1 (hW.1 _ ta68.2).2 g70 ?_
        refine g_if_eq (tgt := 94) hX dX8_whoIs_71 (by decide) (fun c71 => ?_) (fun c71 => ?_)
        · have hF := ite_t hF c71
          refine g_sub (L' := [(0, .ref (b + p0)), (1, .int a1), (2, .int v3), (3, .int v10)]) [2, 3, 1, 0] rfl ?_
          exact kX8_whoIs_b94 hX hM hW p0 a1 t0 hR h32 v3 v10 hF
        · have hF := ite_f hF c71
          refine g_iload_n hX dX8_whoIs_74 (i := 2) rfl (j := 1) rfl ?_
          refine g_iconst (v := 2) hX dX8_whoIs_75 (by decide) ?_
          refine g_icmp_eq (tgt := 94) hX dX8_whoIs_76 (by decide) (fun c76 => ?_) (fun c76 => ?_)
          · have hF := ite_t hF c76
            refine g_sub (L' := [(0, .ref (b + p0)), (1, .int a1), (2, .int v3), (3, .int v10)]) [2, 3, 1, 0] rfl ?_
            exact kX8_whoIs_b94 hX hM hW p0 a1 t0 hR h32 v3 v10 hF
          · have hF := ite_f hF c76
            refine g_iload_n hX dX8_whoIs_79 (i := 3) rfl (j := 0) rfl ?_
            refine g_iconst (v := 2) hX dX8_whoIs_80 (by decide) ?_
            refine g_icmp_eq (tgt := 94) hX dX8_whoIs_81 (by decide) (fun c81 => ?_) (fun c81 => ?_)
            · have hF := ite_t hF c81
              refine g_sub (L' := [(0, .ref (b + p0)), (1, .int a1), (2, .int v3), (3, .int v10)]) [2, 3, 1, 0] rfl ?_
              exact kX8_whoIs_b94 hX hM hW p0 a1 t0 hR h32 v3 v10 hF
            · have hF := ite_f hF c81
              refine g_aload_n hX dX8_whoIs_84 (i := 0) rfl (j := 2) rfl ?_
              have tf85 := (tyF (k := 30) hW t0 (by decide) rfl (by decide) : KM (r p0 30) = 10 ∧ ok (r p0 30))
              refine gf_X8_64 hX dX8_whoIs_85 (ty1 hW t0) (hW.1 _ tf85.2).1 ?_
              refine g_iload_n hX dX8_whoIs_88 (i := 1) rfl (j := 3) rfl ?_
              refine g_iconst (v := 1) hX dX8_whoIs_89 (by decide) ?_
              obtain ⟨g90, hF⟩ := gd_some hF
              obtain ⟨h90, e90, hF⟩ := lt_some hF
              refine g_bast hX dX8_whoIs_90 tf85.1 (hW.1 _ tf85.2).1 (hW.1 _ tf85.2).2 hM g90 e90 ?_
              refine g_goto (tgt := 159) hX dX8_whoIs_91 (by decide) ?_
              obtain rfl := Option.some.inj hF
              exact g_vret hX dX8_whoIs_159 hR
      · have hF := ite_f hF (fun z => z c50)
        refine g_sub (L' := [(0, .ref (b + p0)), (1, .int a1)]) [2, 3] rfl ?_
        exact kX8_whoIs_b53 hX hM hW p0 a1 t0 hR h32 hF
  · have hF := ite_f hF c39
    obtain rfl := Option.some.inj hF
    exact g_vret hX dX8_whoIs_42 hR
theorem ctX8_whoIs {b N sz : Nat} {ok : Nat → Prop} {h : HH} {r : RR} {w : HH} (hM : N ≤ MM) (hW : WT KM lnM ok N r) (p0 : Nat) (a1 : Int32) (t0 : KM p0 = 8 ∧ ok p0) (hF : fX8_whoIs h r p0 a1 = some w) : CT yX8_whoIs cX8_whoIs 4 (none) 4 b KM lnM MM N sz [.ref (b + p0), .int a1] h r N sz none w r 0 0 :=
  CT_of (by decide) rfl (Nat.le_of_ble_eq_true rfl) (by decide) trivial (fun X hX hR => kX8_whoIs hX hM hW p0 a1 t0 hR hF)
/-! X8_sideFor -/
def fX8_sideFor_b112 (h : HH) (r : RR) (p0 : Nat) (a1 : Int32) (a2 : Int32) (a3 : Int32) (x7 : Int32) (x8 : Int32) : Option (Int32) := if x7 = 0 then (if x8 = 0 then (some (2)) else (some (1))) else (some (0))
def fX8_sideFor_b96 (h : HH) (r : RR) (p0 : Nat) (a1 : Int32) (a2 : Int32) (a3 : Int32) (s0 : Int32) (x7 : Int32) : Option (Int32) := if x7 = 0 then (fX8_sideFor_b112 h r p0 a1 a2 a3 x7 s0) else (if s0 = 0 then (fX8_sideFor_b112 h r p0 a1 a2 a3 x7 s0) else (some (a3)))
def fX8_sideFor_b82 (h : HH) (r : RR) (p0 : Nat) (a1 : Int32) (a2 : Int32) (a3 : Int32) (s0 : Int32) (x5 : Int32) : Option (Int32) := if (x5 &&& a2) = 0 then (fX8_sideFor_b96 h r p0 a1 a2 a3 0 s0) else (fX8_sideFor_b96 h r p0 a1 a2 a3 1 s0)
def fX8_sideFor_b44 (h : HH) (r : RR) (p0 : Nat) (a1 : Int32) (a2 : Int32) (a3 : Int32) (s0 : Int32) (x4 : Int32) (x5 : Int32) : Option (Int32) := if ¬ s0 = 0 then (if (x4 &&& a2) = 0 then (fX8_sideFor_b82 h r p0 a1 a2 a3 0 x5) else (fX8_sideFor_b82 h r p0 a1 a2 a3 1 x5)) else (gd (inb a3 (lnM (r p0 3))) (gd (inb a1 (lnM (r (r p0 3) (ix a3)))) (if (h (r (r p0 3) (ix a3)) (ix a1)) = 0 then (some (1 - a3)) else (some (a3)))))
def fX8_sideFor_b43 (h : HH) (r : RR) (p0 : Nat) (a1 : Int32) (a2 : Int32) (a3 : Int32) (x4 : Int32) (x5 : Int32) : Option (Int32) := fX8_sideFor_b44 h r p0 a1 a2 a3 0 x4 x5
def fX8_sideFor (h : HH) (r : RR) (p0 : Nat) (a1 : Int32) (a2 : Int32) (a3 : Int32) : Option (Int32) := (fX8_changed h r p0 0 a1).bind (fun v3 => (fX8_changed h r p0 1 a1).bind (fun v11 => gd (inb 2 (lnM (r p0 3))) (gd (inb a1 (lnM (r (r p0 3) (ix 2)))) (if (h (r (r p0 3) (ix 2)) (ix a1)) = 0 then (fX8_sideFor_b43 h r p0 a1 a2 a3 v3 v11) else (if v3 = 2 then (fX8_sideFor_b43 h r p0 a1 a2 a3 v3 v11) else (if v11 = 2 then (fX8_sideFor_b43 h r p0 a1 a2 a3 v3 v11) else (fX8_sideFor_b44 h r p0 a1 a2 a3 1 v3 v11)))))))
set_option maxRecDepth 100000 in
set_option maxHeartbeats 4000000 in
theorem kX8_sideFor_b112 {X : XT} {b N sz : Nat} {ok : Nat → Prop} {h : HH} {r : RR} {w : Int32} (hX : XOK X RX8 cX8_sideFor 9 2) (hM : N ≤ MM) (hW : WT KM lnM ok N r) (p0 : Nat) (a1 : Int32) (a2 : Int32) (a3 : Int32) (t0 : KM p0 = 8 ∧ ok p0) (hR : XR X b KM lnM MM (some FieldType.int) 0 0 N sz (some (.int w)) h r) (x7 : Int32) (x8 : Int32) (hF : fX8_sideFor_b112 h r p0 a1 a2 a3 x7 x8 = some w) : GX X b KM lnM MM 9 0 0 N sz 112 [(0, .ref (b + p0)), (1, .int a1), (2, .int a2), (3, .int a3), (7, .int x7), (8, .int x8)] [] h r := by
  rw [fX8_sideFor_b112] at hF
  refine g_iload hX dX8_sideFor_112 (j := 4) rfl ?_
  refine g_if_eq (tgt := 121) hX dX8_sideFor_114 (by decide) (fun c114 => ?_) (fun c114 => ?_)
  · have hF := ite_t hF c114
    refine g_iload hX dX8_sideFor_121 (j := 5) rfl ?_
    refine g_if_eq (tgt := 130) hX dX8_sideFor_123 (by decide) (fun c123 => ?_) (fun c123 => ?_)
    · have hF := ite_t hF c123
      refine g_iconst (v := 2) hX dX8_sideFor_130 (by decide) ?_
      obtain rfl := Option.some.inj hF
      exact g_iret hX dX8_sideFor_131 hR
    · have hF := ite_f hF c123
      refine g_iconst (v := 1) hX dX8_sideFor_126 (by decide) ?_
      refine g_goto (tgt := 131) hX dX8_sideFor_127 (by decide) ?_
      obtain rfl := Option.some.inj hF
      exact g_iret hX dX8_sideFor_131 hR
  · have hF := ite_f hF c114
    refine g_iconst (v := 0) hX dX8_sideFor_117 (by decide) ?_
    refine g_goto (tgt := 131) hX dX8_sideFor_118 (by decide) ?_
    obtain rfl := Option.some.inj hF
    exact g_iret hX dX8_sideFor_131 hR
set_option maxRecDepth 100000 in
set_option maxHeartbeats 4000000 in
theorem kX8_sideFor_b96 {X : XT} {b N sz : Nat} {ok : Nat → Prop} {h : HH} {r : RR} {w : Int32} (hX : XOK X RX8 cX8_sideFor 9 2) (hM : N ≤ MM) (hW : WT KM lnM ok N r) (p0 : Nat) (a1 : Int32) (a2 : Int32) (a3 : Int32) (t0 : KM p0 = 8 ∧ ok p0) (hR : XR X b KM lnM MM (some FieldType.int) 0 0 N sz (some (.int w)) h r) (s0 : Int32) (x7 : Int32) (hF : fX8_sideFor_b96 h r p0 a1 a2 a3 s0 x7 = some w) : GX X b KM lnM MM 9 0 0 N sz 96 [(0, .ref (b + p0)), (1, .int a1), (2, .int a2), (3, .int a3), (7, .int x7)] [.int s0] h r := by
  rw [fX8_sideFor_b96] at hF
  refine g_istore (L' := [(8, .int s0), (0, .ref (b + p0)), (1, .int a1), (2, .int a2), (3, .int a3), (7, .int x7)]) hX dX8_sideFor_96 (by decide) rfl ?_
  refine g_iload hX dX8_sideFor_98 (j := 5) rfl ?_
  refine g_if_eq (tgt := 112) hX dX8_sideFor_100 (by decide) (fun c100 => ?_) (fun c100 => ?_)
  · have hF := ite_t hF c100
    refine g_sub (L' := [(0, .ref (b + p0)), (1, .int a1), (2, .int a2), (3, .int a3), (7, .int x7), (8, .int s0)]) [1, 2, 3, 4, 5, 0] rfl ?_
    exact kX8_sideFor_b112 hX hM hW p0 a1 a2 a3 t0 hR x7 s0 hF
  · have hF := ite_f hF c100
    refine g_iload hX dX8_sideFor_103 (j := 0) rfl ?_
    refine g_if_eq (tgt := 112) hX dX8_sideFor_105 (by decide) (fun c105 => ?_) (fun c105 => ?_)
    · have hF := ite_t hF c105
      refine g_sub (L' := [(0, .ref (b + p0)), (1, .int a1), (2, .int a2), (3, .int a3), (7, .int x7), (8, .int s0)]) [1, 2, 3, 4, 5, 0] rfl ?_
      exact kX8_sideFor_b112 hX hM hW p0 a1 a2 a3 t0 hR x7 s0 hF
    · have hF := ite_f hF c105
      refine g_iload_n hX dX8_sideFor_108 (i := 3) rfl (j := 4) rfl ?_
      refine g_goto (tgt := 131) hX dX8_sideFor_109 (by decide) ?_
      obtain rfl := Option.some.inj hF
      exact g_iret hX dX8_sideFor_131 hR
set_option maxRecDepth 100000 in
set_option maxHeartbeats 4000000 in
theorem kX8_sideFor_b82 {X : XT} {b N sz : Nat} {ok : Nat → Prop} {h : HH} {r : RR} {w : Int32} (hX : XOK X RX8 cX8_sideFor 9 2) (hM : N ≤ MM) (hW : WT KM lnM ok N r) (p0 : Nat) (a1 : Int32) (a2 : Int32) (a3 : Int32) (t0 : KM p0 = 8 ∧ ok p0) (hR : XR X b KM lnM MM (some FieldType.int) 0 0 N sz (some (.int w)) h r) (s0 : Int32) (x5 : Int32) (hF : fX8_sideFor_b82 h r p0 a1 a2 a3 s0 x5 = some w) : GX X b KM lnM MM 9 0 0 N sz 82 [(0, .ref (b + p0)), (1, .int a1), (2, .int a2), (3, .int a3), (5, .int x5)] [.int s0] h r := by
  rw [fX8_sideFor_b82] at hF
  refine g_istore (L' := [(7, .int s0), (0, .ref (b + p0)), (1, .int a1), (2, .int a2), (3, .int a3), (5, .int x5)]) hX dX8_sideFor_82 (by decide) rfl ?_
  refine g_iload hX dX8_sideFor_84 (j := 5) rfl ?_
  refine g_iload_n hX dX8_sideFor_86 (i := 2) rfl (j := 3) rfl ?_
  refine g_iand hX dX8_sideFor_87 ?_
  refine g_if_eq (tgt := 95) hX dX8_sideFor_88 (by decide) (fun c88 => ?_) (fun c88 => ?_)
  · have hF := ite_t hF c88
    refine g_iconst (v := 0) hX dX8_sideFor_95 (by decide) ?_
    refine g_sub (L' := [(0, .ref (b + p0)), (1, .int a1), (2, .int a2), (3, .int a3), (7, .int s0)]) [1, 2, 3, 4, 0] rfl ?_
    exact kX8_sideFor_b96 hX hM hW p0 a1 a2 a3 t0 hR 0 s0 hF
  · have hF := ite_f hF c88
    refine g_iconst (v := 1) hX dX8_sideFor_91 (by decide) ?_
    refine g_goto (tgt := 96) hX dX8_sideFor_92 (by decide) ?_
    refine g_sub (L' := [(0, .ref (b + p0)), (1, .int a1), (2, .int a2), (3, .int a3), (7, .int s0)]) [1, 2, 3, 4, 0] rfl ?_
    exact kX8_sideFor_b96 hX hM hW p0 a1 a2 a3 t0 hR 1 s0 hF
set_option maxRecDepth 100000 in
set_option maxHeartbeats 4000000 in
theorem kX8_sideFor_b44 {X : XT} {b N sz : Nat} {ok : Nat → Prop} {h : HH} {r : RR} {w : Int32} (hX : XOK X RX8 cX8_sideFor 9 2) (hM : N ≤ MM) (hW : WT KM lnM ok N r) (p0 : Nat) (a1 : Int32) (a2 : Int32) (a3 : Int32) (t0 : KM p0 = 8 ∧ ok p0) (hR : XR X b KM lnM MM (some FieldType.int) 0 0 N sz (some (.int w)) h r) (s0 : Int32) (x4 : Int32) (x5 : Int32) (hF : fX8_sideFor_b44 h r p0 a1 a2 a3 s0 x4 x5 = some w) : GX X b KM lnM MM 9 0 0 N sz 44 [(0, .ref (b + p0)), (1, .int a1), (2, .int a2), (3, .int a3), (4, .int x4), (5, .int x5)] [.int s0] h r := by
  rw [fX8_sideFor_b44] at hF
  refine g_istore (L' := [(6, .int s0), (0, .ref (b + p0)), (1, .int a1), (2, .int a2), (3, .int a3), (4, .int x4), (5, .int x5)]) hX dX8_sideFor_44 (by decide) rfl ?_
  refine g_iload hX dX8_sideFor_46 (j := 0) rfl ?_
  refine g_if_ne (tgt := 70) hX dX8_sideFor_48 (by decide) (fun c48 => ?_) (fun c48 => ?_)
  · have hF := ite_t hF c48
    refine g_iload hX dX8_sideFor_70 (j := 5) rfl ?_
    refine g_iload_n hX dX8_sideFor_72 (i := 2) rfl (j := 3) rfl ?_
    refine g_iand hX dX8_sideFor_73 ?_
    refine g_if_eq (tgt := 81) hX dX8_sideFor_74 (by decide) (fun c74 => ?_) (fun c74 => ?_)
    · have hF := ite_t hF c74
      refine g_iconst (v := 0) hX dX8_sideFor_81 (by decide) ?_
      refine g_sub (L' := [(0, .ref (b + p0)), (1, .int a1), (2, .int a2), (3, .int a3), (5, .int x5)]) [1, 2, 3, 4, 6] rfl ?_
      exact kX8_sideFor_b82 hX hM hW p0 a1 a2 a3 t0 hR 0 x5 hF
    · have hF := ite_f hF c74
      refine g_iconst (v := 1) hX dX8_sideFor_77 (by decide) ?_
      refine g_goto (tgt := 82) hX dX8_sideFor_78 (by decide) ?_
      refine g_sub (L' := [(0, .ref (b + p0)), (1, .int a1), (2, .int a2), (3, .int a3), (5, .int x5)]) [1, 2, 3, 4, 6] rfl ?_
      exact kX8_sideFor_b82 hX hM hW p0 a1 a2 a3 t0 hR 1 x5 hF
  · have hF := ite_f hF (fun z => z c48)
    refine g_aload_n hX dX8_sideFor_51 (i := 0) rfl (j := 1) rfl ?_
    have tf52 := (tyF (k := 3) hW t0 (by decide) rfl (by decide) : KM (r p0 3) = 15 ∧ ok (r p0 3))
    refine gf_X8_15 hX dX8_sideFor_52 (ty1 hW t0) (hW.1 _ tf52.2).1 ?_
    refine g_iload_n hX dX8_sideFor_55 (i := 3) rfl (j := 4) rfl ?_
    obtain ⟨g56, hF⟩ := gd_some hF
    have ta56 : KM (r (r p0 3) (ix a3)) = 10 ∧ ok (r (r p0 3) (ix a3)) := tyA hW tf52 (by decide) rfl (by decide) g56
    refine g_aald hX dX8_sideFor_56 tf52.1 (by decide) (by decide) (hW.1 _ tf52.2).1 (hW.1 _ tf52.2).2 g56 (hW.1 _ ta56.2).1 ?_
    refine g_iload_n hX dX8_sideFor_57 (i := 1) rfl (j := 2) rfl ?_
    obtain ⟨g58, hF⟩ := gd_some hF
    refine g_bald hX dX8_sideFor_58 ta56.1 (hW.1 _ ta56.2).1 (hW.1 _ ta56.2).2 g58 ?_
    refine g_if_eq (tgt := 66) hX dX8_sideFor_59 (by decide) (fun c59 => ?_) (fun c59 => ?_)
    · have hF := ite_t hF c59
      refine g_iconst (v := 1) hX dX8_sideFor_66 (by decide) ?_
      refine g_iload_n hX dX8_sideFor_67 (i := 3) rfl (j := 4) rfl ?_
      refine g_isub hX dX8_sideFor_68 ?_
      obtain rfl := Option.some.inj hF
      exact g_iret hX dX8_sideFor_69 hR
    · have hF := ite_f hF c59
      refine g_iload_n hX dX8_sideFor_62 (i := 3) rfl (j := 4) rfl ?_
      refine g_goto (tgt := 69) hX dX8_sideFor_63 (by decide) ?_
      obtain rfl := Option.some.inj hF
      exact g_iret hX dX8_sideFor_69 hR
set_option maxRecDepth 100000 in
set_option maxHeartbeats 4000000 in
theorem kX8_sideFor_b43 {X : XT} {b N sz : Nat} {ok : Nat → Prop} {h : HH} {r : RR} {w : Int32} (hX : XOK X RX8 cX8_sideFor 9 2) (hM : N ≤ MM) (hW : WT KM lnM ok N r) (p0 : Nat) (a1 : Int32) (a2 : Int32) (a3 : Int32) (t0 : KM p0 = 8 ∧ ok p0) (hR : XR X b KM lnM MM (some FieldType.int) 0 0 N sz (some (.int w)) h r) (x4 : Int32) (x5 : Int32) (hF : fX8_sideFor_b43 h r p0 a1 a2 a3 x4 x5 = some w) : GX X b KM lnM MM 9 0 0 N sz 43 [(0, .ref (b + p0)), (1, .int a1), (2, .int a2), (3, .int a3), (4, .int x4), (5, .int x5)] [] h r := by
  rw [fX8_sideFor_b43] at hF
  refine g_iconst (v := 0) hX dX8_sideFor_43 (by decide) ?_
  refine g_sub (L' := [(0, .ref (b + p0)), (1, .int a1), (2, .int a2), (3, .int a3), (4, .int x4), (5, .int x5)]) [0, 1, 2, 3, 4, 5] rfl ?_
  exact kX8_sideFor_b44 hX hM hW p0 a1 a2 a3 t0 hR 0 x4 x5 hF
set_option maxRecDepth 100000 in
set_option maxHeartbeats 4000000 in
theorem kX8_sideFor {X : XT} {b N sz : Nat} {ok : Nat → Prop} {h : HH} {r : RR} {w : Int32} (hX : XOK X RX8 cX8_sideFor 9 2) (hM : N ≤ MM) (hW : WT KM lnM ok N r) (p0 : Nat) (a1 : Int32) (a2 : Int32) (a3 : Int32) (t0 : KM p0 = 8 ∧ ok p0) (hR : XR X b KM lnM MM (some FieldType.int) 0 0 N sz (some (.int w)) h r) (hF : fX8_sideFor h r p0 a1 a2 a3 = some w) : GX X b KM lnM MM 9 0 0 N sz 0 [(0, .ref (b + p0)), (1, .int a1), (2, .int a2), (3, .int a3)] [] h r := by
  rw [fX8_sideFor] at hF
  refine g_aload_n hX dX8_sideFor_0 (i := 0) rfl (j := 0) rfl ?_
  refine g_iconst (v := 0) hX dX8_sideFor_1 (by decide) ?_
  refine g_iload_n hX dX8_sideFor_2 (i := 1) rfl (j := 1) rfl ?_
  obtain ⟨v3, e3, hF⟩ := bi_some hF
  refine g_callV (As := [.int 0, .int a1]) (rest := []) (stk := [.int v3]) hX dX8_sideFor_3 (ctX8_changed hM hW p0 0 a1 t0 e3) (by decide) (by decide) wm_X8_199 wi_X8_changed ws_X8_changed wz_X8 wc_X8_changed hyX8_changed rfl (ci := 8) rfl (by decide) t0.1 (hW.1 _ t0.2).1 (hW.1 _ t0.2).2 (Nat.le_of_ble_eq_true rfl) rfl rfl ?_ rfl rfl
  refine g_istore (L' := [(4, .int v3), (0, .ref (b + p0)), (1, .int a1), (2, .int a2), (3, .int a3)]) hX dX8_sideFor_6 (by decide) rfl ?_
  refine g_aload_n hX dX8_sideFor_8 (i := 0) rfl (j := 1) rfl ?_
  refine g_iconst (v := 1) hX dX8_sideFor_9 (by decide) ?_
  refine g_iload_n hX dX8_sideFor_10 (i := 1) rfl (j := 2) rfl ?_
  obtain ⟨v11, e11, hF⟩ := bi_some hF
  refine g_callV (As := [.int 1, .int a1]) (rest := []) (stk := [.int v11]) hX dX8_sideFor_11 (ctX8_changed hM hW p0 1 a1 t0 e11) (by decide) (by decide) wm_X8_199 wi_X8_changed ws_X8_changed wz_X8 wc_X8_changed hyX8_changed rfl (ci := 8) rfl (by decide) t0.1 (hW.1 _ t0.2).1 (hW.1 _ t0.2).2 (Nat.le_of_ble_eq_true rfl) rfl rfl ?_ rfl rfl
  refine g_istore (L' := [(5, .int v11), (4, .int v3), (0, .ref (b + p0)), (1, .int a1), (2, .int a2), (3, .int a3)]) hX dX8_sideFor_14 (by decide) rfl ?_
  refine g_aload_n hX dX8_sideFor_16 (i := 0) rfl (j := 2) rfl ?_
  have tf17 := (tyF (k := 3) hW t0 (by decide) rfl (by decide) : KM (r p0 3) = 15 ∧ ok (r p0 3))
  refine gf_X8_15 hX dX8_sideFor_17 (ty1 hW t0) (hW.1 _ tf17.2).1 ?_
  refine g_iconst (v := 2) hX dX8_sideFor_20 (by decide) ?_
  obtain ⟨g21, hF⟩ := gd_some hF
  have ta21 : KM (r (r p0 3) (ix 2)) = 10 ∧ ok (r (r p0 3) (ix 2)) := tyA hW tf17 (by decide) rfl (by decide) g21
  refine g_aald hX dX8_sideFor_21 tf17.1 (by decide) (by decide) (hW.1 _ tf17.2).1 (hW.1 _ tf17.2).2 g21 (hW.1 _ ta21.2).1 ?_
  refine g_iload_n hX dX8_sideFor_22 (i := 1) rfl (j := 3) rfl ?_
  obtain ⟨g23, hF⟩ := gd_some hF
  refine g_bald hX dX8_sideFor_23 ta21.1 (hW.1 _ ta21.2).1 (hW.1 _ ta21.2).2 g23 ?_
  refine g_if_eq (tgt := 43) hX dX8_sideFor_24 (by decide) (fun c24 => ?_) (fun c24 => ?_)
  · have hF := ite_t hF c24
    refine g_sub (L' := [(0, .ref (b + p0)), (1, .int a1), (2, .int a2), (3, .int a3), (4, .int v3), (5, .int v11)]) [2, 3, 4, 5, 1, 0] rfl ?_
    exact kX8_sideFor_b43 hX hM hW p0 a1 a2 a3 t0 hR v3 v11 hF
  · have hF := ite_f hF c24
    refine g_iload hX dX8_sideFor_27 (j := 1) rfl ?_
    refine g_iconst (v := 2) hX dX8_sideFor_29 (by decide) ?_
    refine g_icmp_eq (tgt := 43) hX dX8_sideFor_30 (by decide) (fun c30 => ?_) (fun c30 => ?_)
    · have hF := ite_t hF c30
      refine g_sub (L' := [(0, .ref (b + p0)), (1, .int a1), (2, .int a2), (3, .int a3), (4, .int v3), (5, .int v11)]) [2, 3, 4, 5, 1, 0] rfl ?_
      exact kX8_sideFor_b43 hX hM hW p0 a1 a2 a3 t0 hR v3 v11 hF
    · have hF := ite_f hF c30
      refine g_iload hX dX8_sideFor_33 (j := 0) rfl ?_
      refine g_iconst (v := 2) hX dX8_sideFor_35 (by decide) ?_
      refine g_icmp_eq (tgt := 43) hX dX8_sideFor_36 (by decide) (fun c36 => ?_) (fun c36 => ?_)
      · have hF := ite_t hF c36
        refine g_sub (L' := [(0, .ref (b + p0)), (1, .int a1), (2, .int a2), (3, .int a3), (4, .int v3), (5, .int v11)]) [2, 3, 4, 5, 1, 0] rfl ?_
        exact kX8_sideFor_b43 hX hM hW p0 a1 a2 a3 t0 hR v3 v11 hF
      · have hF := ite_f hF c36
        refine g_iconst (v := 1) hX dX8_sideFor_39 (by decide) ?_
        refine g_goto (tgt := 44) hX dX8_sideFor_40 (by decide) ?_
        refine g_sub (L' := [(0, .ref (b + p0)), (1, .int a1), (2, .int a2), (3, .int a3), (4, .int v3), (5, .int v11)]) [2, 3, 4, 5, 1, 0] rfl ?_
        exact kX8_sideFor_b44 hX hM hW p0 a1 a2 a3 t0 hR 1 v3 v11 hF
theorem ctX8_sideFor {b N sz : Nat} {ok : Nat → Prop} {h : HH} {r : RR} {w : Int32} (hM : N ≤ MM) (hW : WT KM lnM ok N r) (p0 : Nat) (a1 : Int32) (a2 : Int32) (a3 : Int32) (t0 : KM p0 = 8 ∧ ok p0) (hF : fX8_sideFor h r p0 a1 a2 a3 = some w) : CT yX8_sideFor cX8_sideFor 9 (some FieldType.int) 2 b KM lnM MM N sz [.ref (b + p0), .int a1, .int a2, .int a3] h r N sz (some (.int w)) h r 0 0 :=
  CT_of (by decide) rfl (Nat.le_of_ble_eq_true rfl) (by decide) trivial (fun X hX hR => kX8_sideFor hX hM hW p0 a1 a2 a3 t0 hR hF)
/-! X8_places -/
def fX8_places_b119 (r : RR) (p0 : Nat) (a1 : Int32) (a2 : Int32) (h : HH) : Option (HH) := (fX8_clashes h r p0 1 a1).bind (fun h122 => some h122)
def fX8_places_b74 (r : RR) (p0 : Nat) (a1 : Int32) (a2 : Int32) (h : HH) (s0 : Int32) : Option (HH) := if s0 = 0 then (some h) else (gd (inb 0 (lnM (r p0 4))) (gd (inb a1 (lnM (r (r p0 4) (ix 0)))) (gd (inb 1 (lnM (r p0 4))) (gd (inb a1 (lnM (r (r p0 4) (ix 1)))) (if ¬ (h (r (r p0 4) (ix 0)) (ix a1)) = (h (r (r p0 4) (ix 1)) (ix a1)) then (fX8_places_b119 r p0 a1 a2 h) else (gd (inb 0 (lnM (r p0 5))) (gd (inb a1 (lnM (r (r p0 5) (ix 0)))) (gd (inb 1 (lnM (r p0 5))) (gd (inb a1 (lnM (r (r p0 5) (ix 1)))) (if (h (r (r p0 5) (ix 0)) (ix a1)) = (h (r (r p0 5) (ix 1)) (ix a1)) then (some h) else (fX8_places_b119 r p0 a1 a2 h)))))))))))
def fX8_places_b73 (r : RR) (p0 : Nat) (a1 : Int32) (a2 : Int32) (h : HH) : Option (HH) := fX8_places_b74 r p0 a1 a2 h 0
def fX8_places (h : HH) (r : RR) (p0 : Nat) (a1 : Int32) (a2 : Int32) : Option (HH) := (fX8_sideFor h r p0 a1 4 a2).bind (fun v4 => gd (inb v4 (lnM (r p0 4))) (gd (inb a1 (lnM (r (r p0 4) (ix v4)))) (gd (inb a1 (lnM (r p0 32))) (lt (up h (r p0 32) (ix a1) (h (r (r p0 4) (ix v4)) (ix a1))) (fun h21 => gd (inb v4 (lnM (r p0 5))) (gd (inb a1 (lnM (r (r p0 5) (ix v4)))) (gd (inb a1 (lnM (r p0 33))) (lt (up h21 (r p0 33) (ix a1) (h21 (r (r p0 5) (ix v4)) (ix a1))) (fun h35 => gd (inb 2 (lnM (r p0 3))) (gd (inb a1 (lnM (r (r p0 3) (ix 2)))) (if (h35 (r (r p0 3) (ix 2)) (ix a1)) = 0 then (fX8_places_b73 r p0 a1 a2 h35) else ((fX8_changed h35 r p0 0 a1).bind (fun v50 => if (v50 &&& 4) = 0 then (fX8_places_b73 r p0 a1 a2 h35) else ((fX8_changed h35 r p0 1 a1).bind (fun v61 => if (v61 &&& 4) = 0 then (fX8_places_b73 r p0 a1 a2 h35) else (fX8_places_b74 r p0 a1 a2 h35 1))))))))))))))))
set_option maxRecDepth 100000 in
set_option maxHeartbeats 4000000 in
theorem kX8_places_b119 {X : XT} {b N sz : Nat} {ok : Nat → Prop} {r : RR} {w : HH} (hX : XOK X RX8 cX8_places 5 3) (hM : N ≤ MM) (hW : WT KM lnM ok N r) (p0 : Nat) (a1 : Int32) (a2 : Int32) (t0 : KM p0 = 8 ∧ ok p0) (hR : XR X b KM lnM MM (none) 0 0 N sz none w r) (h : HH) (hF : fX8_places_b119 r p0 a1 a2 h = some w) : GX X b KM lnM MM 5 0 0 N sz 119 [(0, .ref (b + p0)), (1, .int a1), (2, .int a2)] [] h r := by
  rw [fX8_places_b119] at hF
  refine g_aload_n hX dX8_places_119 (i := 0) rfl (j := 0) rfl ?_
  refine g_iconst (v := 1) hX dX8_places_120 (by decide) ?_
  refine g_iload_n hX dX8_places_121 (i := 1) rfl (j := 1) rfl ?_
  obtain ⟨h122, e122, hF⟩ := bi_some hF
  refine g_callV (As := [.int 1, .int a1]) (rest := []) (stk := []) hX dX8_places_122 (ctX8_clashes hM hW p0 1 a1 t0 e122) (by decide) (by decide) wm_X8_255 wi_X8_clashes ws_X8_clashes wz_X8 wc_X8_clashes hyX8_clashes rfl (ci := 8) rfl (by decide) t0.1 (hW.1 _ t0.2).1 (hW.1 _ t0.2).2 (Nat.le_of_ble_eq_true rfl) rfl rfl ?_ rfl rfl
  obtain rfl := Option.some.inj hF
  exact g_vret hX dX8_places_125 hR
set_option maxRecDepth 100000 in
set_option maxHeartbeats 4000000 in
theorem kX8_places_b74 {X : XT} {b N sz : Nat} {ok : Nat → Prop} {r : RR} {w : HH} (hX : XOK X RX8 cX8_places 5 3) (hM : N ≤ MM) (hW : WT KM lnM ok N r) (p0 : Nat) (a1 : Int32) (a2 : Int32) (t0 : KM p0 = 8 ∧ ok p0) (hR : XR X b KM lnM MM (none) 0 0 N sz none w r) (h : HH) (s0 : Int32) (hF : fX8_places_b74 r p0 a1 a2 h s0 = some w) : GX X b KM lnM MM 5 0 0 N sz 74 [(0, .ref (b + p0)), (1, .int a1), (2, .int a2)] [.int s0] h r := by
  rw [fX8_places_b74] at hF
  refine g_istore (L' := [(4, .int s0), (0, .ref (b + p0)), (1, .int a1), (2, .int a2)]) hX dX8_places_74 (by decide) rfl ?_
  refine g_iload hX dX8_places_76 (j := 0) rfl ?_
  refine g_if_eq (tgt := 125) hX dX8_places_78 (by decide) (fun c78 => ?_) (fun c78 => ?_)
  · have hF := ite_t hF c78
    obtain rfl := Option.some.inj hF
    exact g_vret hX dX8_places_125 hR
  · have hF := ite_f hF c78
    refine g_aload_n hX dX8_places_81 (i := 0) rfl (j := 1) rfl ?_
    have tf82 := (tyF (k := 4) hW t0 (by decide) rfl (by decide) : KM (r p0 4) = 14 ∧ ok (r p0 4))
    refine gf_X8_20 hX dX8_places_82 (ty1 hW t0) (hW.1 _ tf82.2).1 ?_
    refine g_iconst (v := 0) hX dX8_places_85 (by decide) ?_
    obtain ⟨g86, hF⟩ := gd_some hF
    have ta86 : KM (r (r p0 4) (ix 0)) = 9 ∧ ok (r (r p0 4) (ix 0)) := tyA hW tf82 (by decide) rfl (by decide) g86
    refine g_aald hX dX8_places_86 tf82.1 (by decide) (by decide) (hW.1 _ tf82.2).1 (hW.1 _ tf82.2).2 g86 (hW.1 _ ta86.2).1 ?_
    refine g_iload_n hX dX8_places_87 (i := 1) rfl (j := 2) rfl ?_
    obtain ⟨g88, hF⟩ := gd_some hF
    refine g_iald hX dX8_places_88 ta86.1 (hW.1 _ ta86.2).1 (hW.1 _ ta86.2).2 g88 ?_
    refine g_aload_n hX dX8_places_89 (i := 0) rfl (j := 1) rfl ?_
    have tf90 := (tyF (k := 4) hW t0 (by decide) rfl (by decide) : KM (r p0 4) = 14 ∧ ok (r p0 4))
    refine gf_X8_20 hX dX8_places_90 (ty1 hW t0) (hW.1 _ tf90.2).1 ?_
    refine g_iconst (v := 1) hX dX8_places_93 (by decide) ?_
    obtain ⟨g94, hF⟩ := gd_some hF
    have ta94 : KM (r (r p0 4) (ix 1)) = 9 ∧ ok (r (r p0 4) (ix 1)) := tyA hW tf90 (by decide) rfl (by decide) g94
    refine g_aald hX dX8_places_94 tf90.1 (by decide) (by decide) (hW.1 _ tf90.2).1 (hW.1 _ tf90.2).2 g94 (hW.1 _ ta94.2).1 ?_
    refine g_iload_n hX dX8_places_95 (i := 1) rfl (j := 2) rfl ?_
    obtain ⟨g96, hF⟩ := gd_some hF
    refine g_iald hX dX8_places_96 ta94.1 (hW.1 _ ta94.2).1 (hW.1 _ ta94.2).2 g96 ?_
    refine g_icmp_ne (tgt := 119) hX dX8_places_97 (by decide) (fun c97 => ?_) (fun c97 => ?_)
    · have hF := ite_t hF c97
      refine g_sub (L' := [(0, .ref (b + p0)), (1, .int a1), (2, .int a2)]) [1, 2, 3] rfl ?_
      exact kX8_places_b119 hX hM hW p0 a1 a2 t0 hR h hF
    · have hF := ite_f hF (fun z => z c97)
      refine g_aload_n hX dX8_places_100 (i := 0) rfl (j := 1) rfl ?_
      have tf101 := (tyF (k := 5) hW t0 (by decide) rfl (by decide) : KM (r p0 5) = 14 ∧ ok (r p0 5))
      refine gf_X8_23 hX dX8_places_101 (ty1 hW t0) (hW.1 _ tf101.2).1 ?_
      refine g_iconst (v := 0) hX dX8_places_104 (by decide) ?_
      obtain ⟨g105, hF⟩ := gd_some hF
      have ta105 : KM (r (r p0 5) (ix 0)) = 9 ∧ ok (r (r p0 5) (ix 0)) := tyA hW tf101 (by decide) rfl (by decide) g105
      refine g_aald hX dX8_places_105 tf101.1 (by decide) (by decide) (hW.1 _ tf101.2).1 (hW.1 _ tf101.2).2 g105 (hW.1 _ ta105.2).1 ?_
      refine g_iload_n hX dX8_places_106 (i := 1) rfl (j := 2) rfl ?_
      obtain ⟨g107, hF⟩ := gd_some hF
      refine g_iald hX dX8_places_107 ta105.1 (hW.1 _ ta105.2).1 (hW.1 _ ta105.2).2 g107 ?_
      refine g_aload_n hX dX8_places_108 (i := 0) rfl (j := 1) rfl ?_
      have tf109 := (tyF (k := 5) hW t0 (by decide) rfl (by decide) : KM (r p0 5) = 14 ∧ ok (r p0 5))
      refine gf_X8_23 hX dX8_places_109 (ty1 hW t0) (hW.1 _ tf109.2).1 ?_
      refine g_iconst (v := 1) hX dX8_places_112 (by decide) ?_
      obtain ⟨g113, hF⟩ := gd_some hF
      have ta113 : KM (r (r p0 5) (ix 1)) = 9 ∧ ok (r (r p0 5) (ix 1)) := tyA hW tf109 (by decide) rfl (by decide) g113
      refine g_aald hX dX8_places_113 tf109.1 (by decide) (by decide) (hW.1 _ tf109.2).1 (hW.1 _ tf109.2).2 g113 (hW.1 _ ta113.2).1 ?_
      refine g_iload_n hX dX8_places_114 (i := 1) rfl (j := 2) rfl ?_
      obtain ⟨g115, hF⟩ := gd_some hF
      refine g_iald hX dX8_places_115 ta113.1 (hW.1 _ ta113.2).1 (hW.1 _ ta113.2).2 g115 ?_
      refine g_icmp_eq (tgt := 125) hX dX8_places_116 (by decide) (fun c116 => ?_) (fun c116 => ?_)
      · have hF := ite_t hF c116
        obtain rfl := Option.some.inj hF
        exact g_vret hX dX8_places_125 hR
      · have hF := ite_f hF c116
        refine g_sub (L' := [(0, .ref (b + p0)), (1, .int a1), (2, .int a2)]) [1, 2, 3] rfl ?_
        exact kX8_places_b119 hX hM hW p0 a1 a2 t0 hR h hF
set_option maxRecDepth 100000 in
set_option maxHeartbeats 4000000 in
theorem kX8_places_b73 {X : XT} {b N sz : Nat} {ok : Nat → Prop} {r : RR} {w : HH} (hX : XOK X RX8 cX8_places 5 3) (hM : N ≤ MM) (hW : WT KM lnM ok N r) (p0 : Nat) (a1 : Int32) (a2 : Int32) (t0 : KM p0 = 8 ∧ ok p0) (hR : XR X b KM lnM MM (none) 0 0 N sz none w r) (h : HH) (hF : fX8_places_b73 r p0 a1 a2 h = some w) : GX X b KM lnM MM 5 0 0 N sz 73 [(0, .ref (b + p0)), (1, .int a1), (2, .int a2)] [] h r := by
  rw [fX8_places_b73] at hF
  refine g_iconst (v := 0) hX dX8_places_73 (by decide) ?_
  refine g_sub (L' := [(0, .ref (b + p0)), (1, .int a1), (2, .int a2)]) [0, 1, 2] rfl ?_
  exact kX8_places_b74 hX hM hW p0 a1 a2 t0 hR h 0 hF
set_option maxRecDepth 100000 in
set_option maxHeartbeats 4000000 in
theorem kX8_places {X : XT} {b N sz : Nat} {ok : Nat → Prop} {h : HH} {r : RR} {w : HH} (hX : XOK X RX8 cX8_places 5 3) (hM : N ≤ MM) (hW : WT KM lnM ok N r) (p0 : Nat) (a1 : Int32) (a2 : Int32) (t0 : KM p0 = 8 ∧ ok p0) (hR : XR X b KM lnM MM (none) 0 0 N sz none w r) (hF : fX8_places h r p0 a1 a2 = some w) : GX X b KM lnM MM 5 0 0 N sz 0 [(0, .ref (b + p0)), (1, .int a1), (2, .int a2)] [] h r := by
  rw [fX8_places] at hF
  refine g_aload_n hX dX8_places_0 (i := 0) rfl (j := 0) rfl ?_
  refine g_iload_n hX dX8_places_1 (i := 1) rfl (j := 1) rfl ?_
  refine g_iconst (v := 4) hX dX8_places_2 (by decide) ?_
  refine g_iload_n hX dX8_places_3 (i := 2) rfl (j := 2) rfl ?_
  obtain ⟨v4, e4, hF⟩ := bi_some hF
  refine g_callV (As := [.int a1, .int 4, .int a2]) (rest := []) (stk := [.int v4]) hX dX8_places_4 (ctX8_sideFor hM hW p0 a1 4 a2 t0 e4) (by decide) (by decide) wm_X8_257 wi_X8_sideFor ws_X8_sideFor wz_X8 wc_X8_sideFor hyX8_sideFor rfl (ci := 8) rfl (by decide) t0.1 (hW.1 _ t0.2).1 (hW.1 _ t0.2).2 (Nat.le_of_ble_eq_true rfl) rfl rfl ?_ rfl rfl
  refine g_istore_n (L' := [(3, .int v4), (0, .ref (b + p0)), (1, .int a1), (2, .int a2)]) hX dX8_places_7 (i := 3) rfl (by decide) rfl ?_
  refine g_aload_n hX dX8_places_8 (i := 0) rfl (j := 1) rfl ?_
  have tf9 := (tyF (k := 32) hW t0 (by decide) rfl (by decide) : KM (r p0 32) = 9 ∧ ok (r p0 32))
  refine gf_X8_70 hX dX8_places_9 (ty1 hW t0) (hW.1 _ tf9.2).1 ?_
  refine g_iload_n hX dX8_places_12 (i := 1) rfl (j := 2) rfl ?_
  refine g_aload_n hX dX8_places_13 (i := 0) rfl (j := 1) rfl ?_
  have tf14 := (tyF (k := 4) hW t0 (by decide) rfl (by decide) : KM (r p0 4) = 14 ∧ ok (r p0 4))
  refine gf_X8_20 hX dX8_places_14 (ty1 hW t0) (hW.1 _ tf14.2).1 ?_
  refine g_iload_n hX dX8_places_17 (i := 3) rfl (j := 0) rfl ?_
  obtain ⟨g18, hF⟩ := gd_some hF
  have ta18 : KM (r (r p0 4) (ix v4)) = 9 ∧ ok (r (r p0 4) (ix v4)) := tyA hW tf14 (by decide) rfl (by decide) g18
  refine g_aald hX dX8_places_18 tf14.1 (by decide) (by decide) (hW.1 _ tf14.2).1 (hW.1 _ tf14.2).2 g18 (hW.1 _ ta18.2).1 ?_
  refine g_iload_n hX dX8_places_19 (i := 1) rfl (j := 2) rfl ?_
  obtain ⟨g20, hF⟩ := gd_some hF
  refine g_iald hX dX8_places_20 ta18.1 (hW.1 _ ta18.2).1 (hW.1 _ ta18.2).2 g20 ?_
  obtain ⟨g21, hF⟩ := gd_some hF
  obtain ⟨h21, e21, hF⟩ := lt_some hF
  refine g_iast hX dX8_places_21 tf9.1 (hW.1 _ tf9.2).1 (hW.1 _ tf9.2).2 hM g21 e21 ?_
  refine g_aload_n hX dX8_places_22 (i := 0) rfl (j := 1) rfl ?_
  have tf23 := (tyF (k := 33) hW t0 (by decide) rfl (by decide) : KM (r p0 33) = 9 ∧ ok (r p0 33))
  refine gf_X8_73 hX dX8_places_23 (ty1 hW t0) (hW.1 _ tf23.2).1 ?_
  refine g_iload_n hX dX8_places_26 (i := 1) rfl (j := 2) rfl ?_
  refine g_aload_n hX dX8_places_27 (i := 0) rfl (j := 1) rfl ?_
  have tf28 := (tyF (k := 5) hW t0 (by decide) rfl (by decide) : KM (r p0 5) = 14 ∧ ok (r p0 5))
  refine gf_X8_23 hX dX8_places_28 (ty1 hW t0) (hW.1 _ tf28.2).1 ?_
  refine g_iload_n hX dX8_places_31 (i := 3) rfl (j := 0) rfl ?_
  obtain ⟨g32, hF⟩ := gd_some hF
  have ta32 : KM (r (r p0 5) (ix v4)) = 9 ∧ ok (r (r p0 5) (ix v4)) := tyA hW tf28 (by decide) rfl (by decide) g32
  refine g_aald hX dX8_places_32 tf28.1 (by decide) (by decide) (hW.1 _ tf28.2).1 (hW.1 _ tf28.2).2 g32 (hW.1 _ ta32.2).1 ?_
  refine g_iload_n hX dX8_places_33 (i := 1) rfl (j := 2) rfl ?_
  obtain ⟨g34, hF⟩ := gd_some hF
  refine g_iald hX dX8_places_34 ta32.1 (hW.1 _ ta32.2).1 (hW.1 _ ta32.2).2 g34 ?_
  obtain ⟨g35, hF⟩ := gd_some hF
  obtain ⟨h35, e35, hF⟩ := lt_some hF
  refine g_iast hX dX8_places_35 tf23.1 (hW.1 _ tf23.2).1 (hW.1 _ tf23.2).2 hM g35 e35 ?_
  refine g_aload_n hX dX8_places_36 (i := 0) rfl (j := 1) rfl ?_
  have tf37 := (tyF (k := 3) hW t0 (by decide) rfl (by decide) : KM (r p0 3) = 15 ∧ ok (r p0 3))
  refine gf_X8_15 hX dX8_places_37 (ty1 hW t0) (hW.1 _ tf37.2).1 ?_
  refine g_iconst (v := 2) hX dX8_places_40 (by decide) ?_
  obtain ⟨g41, hF⟩ := gd_some hF
  have ta41 : KM (r (r p0 3) (ix 2)) = 10 ∧ ok (r (r p0 3) (ix 2)) := tyA hW tf37 (by decide) rfl (by decide) g41
  refine g_aald hX dX8_places_41 tf37.1 (by decide) (by decide) (hW.1 _ tf37.2).1 (hW.1 _ tf37.2).2 g41 (hW.1 _ ta41.2).1 ?_
  refine g_iload_n hX dX8_places_42 (i := 1) rfl (j := 2) rfl ?_
  obtain ⟨g43, hF⟩ := gd_some hF
  refine g_bald hX dX8_places_43 ta41.1 (hW.1 _ ta41.2).1 (hW.1 _ ta41.2).2 g43 ?_
  refine g_if_eq (tgt := 73) hX dX8_places_44 (by decide) (fun c44 => ?_) (fun c44 => ?_)
  · have hF := ite_t hF c44
    refine g_sub (L' := [(0, .ref (b + p0)), (1, .int a1), (2, .int a2)]) [1, 2, 3] rfl ?_
    exact kX8_places_b73 hX hM hW p0 a1 a2 t0 hR h35 hF
  · have hF := ite_f hF c44
    refine g_aload_n hX dX8_places_47 (i := 0) rfl (j := 1) rfl ?_
    refine g_iconst (v := 0) hX dX8_places_48 (by decide) ?_
    refine g_iload_n hX dX8_places_49 (i := 1) rfl (j := 2) rfl ?_
    obtain ⟨v50, e50, hF⟩ := bi_some hF
    refine g_callV (As := [.int 0, .int a1]) (rest := []) (stk := [.int v50]) hX dX8_places_50 (ctX8_changed hM hW p0 0 a1 t0 e50) (by decide) (by decide) wm_X8_199 wi_X8_changed ws_X8_changed wz_X8 wc_X8_changed hyX8_changed rfl (ci := 8) rfl (by decide) t0.1 (hW.1 _ t0.2).1 (hW.1 _ t0.2).2 (Nat.le_of_ble_eq_true rfl) rfl rfl ?_ rfl rfl
    refine g_iconst (v := 4) hX dX8_places_53 (by decide) ?_
    refine g_iand hX dX8_places_54 ?_
    refine g_if_eq (tgt := 73) hX dX8_places_55 (by decide) (fun c55 => ?_) (fun c55 => ?_)
    · have hF := ite_t hF c55
      refine g_sub (L' := [(0, .ref (b + p0)), (1, .int a1), (2, .int a2)]) [1, 2, 3] rfl ?_
      exact kX8_places_b73 hX hM hW p0 a1 a2 t0 hR h35 hF
    · have hF := ite_f hF c55
      refine g_aload_n hX dX8_places_58 (i := 0) rfl (j := 1) rfl ?_
      refine g_iconst (v := 1) hX dX8_places_59 (by decide) ?_
      refine g_iload_n hX dX8_places_60 (i := 1) rfl (j := 2) rfl ?_
      obtain ⟨v61, e61, hF⟩ := bi_some hF
      refine g_callV (As := [.int 1, .int a1]) (rest := []) (stk := [.int v61]) hX dX8_places_61 (ctX8_changed hM hW p0 1 a1 t0 e61) (by decide) (by decide) wm_X8_199 wi_X8_changed ws_X8_changed wz_X8 wc_X8_changed hyX8_changed rfl (ci := 8) rfl (by decide) t0.1 (hW.1 _ t0.2).1 (hW.1 _ t0.2).2 (Nat.le_of_ble_eq_true rfl) rfl rfl ?_ rfl rfl
      refine g_iconst (v := 4) hX dX8_places_64 (by decide) ?_
      refine g_iand hX dX8_places_65 ?_
      refine g_if_eq (tgt := 73) hX dX8_places_66 (by decide) (fun c66 => ?_) (fun c66 => ?_)
      · have hF := ite_t hF c66
        refine g_sub (L' := [(0, .ref (b + p0)), (1, .int a1), (2, .int a2)]) [1, 2, 3] rfl ?_
        exact kX8_places_b73 hX hM hW p0 a1 a2 t0 hR h35 hF
      · have hF := ite_f hF c66
        refine g_iconst (v := 1) hX dX8_places_69 (by decide) ?_
        refine g_goto (tgt := 74) hX dX8_places_70 (by decide) ?_
        refine g_sub (L' := [(0, .ref (b + p0)), (1, .int a1), (2, .int a2)]) [1, 2, 3] rfl ?_
        exact kX8_places_b74 hX hM hW p0 a1 a2 t0 hR h35 1 hF
theorem ctX8_places {b N sz : Nat} {ok : Nat → Prop} {h : HH} {r : RR} {w : HH} (hM : N ≤ MM) (hW : WT KM lnM ok N r) (p0 : Nat) (a1 : Int32) (a2 : Int32) (t0 : KM p0 = 8 ∧ ok p0) (hF : fX8_places h r p0 a1 a2 = some w) : CT yX8_places cX8_places 5 (none) 3 b KM lnM MM N sz [.ref (b + p0), .int a1, .int a2] h r N sz none w r 0 0 :=
  CT_of (by decide) rfl (Nat.le_of_ble_eq_true rfl) (by decide) trivial (fun X hX hR => kX8_places hX hM hW p0 a1 a2 t0 hR hF)
/-! X8_fills -/
def fX8_fills_b63 (r : RR) (p0 : Nat) (a1 : Int32) (a2 : Int32) (h : HH) (s0 : Int32) : Option (HH) := if s0 = 0 then (some h) else (gd (inb 0 (lnM (r p0 6))) (gd (inb a1 (lnM (r (r p0 6) (ix 0)))) (gd (inb 1 (lnM (r p0 6))) (gd (inb a1 (lnM (r (r p0 6) (ix 1)))) (if ¬ (h (r (r p0 6) (ix 0)) (ix a1)) = (h (r (r p0 6) (ix 1)) (ix a1)) then ((fX8_clashes h r p0 2 a1).bind (fun h93 => if ¬ (h93 p0 27) = 30 then (gd (inb (h93 p0 27) (lnM (r p0 30))) (lt (up h93 (r p0 30) (ix (h93 p0 27)) (zn 1)) (fun h115 => gd (inb (h115 p0 27) (lnM (r p0 31))) (lt (up h115 (r p0 31) (ix (h115 p0 27)) (zn 0)) (fun h125 => gd (inb a1 (lnM (r p0 32))) (gd (inb (h125 p0 27) (lnM (r p0 32))) (lt (up h125 (r p0 32) (ix (h125 p0 27)) (h125 (r p0 32) (ix a1))) (fun h140 => gd (inb a1 (lnM (r p0 33))) (gd (inb (h140 p0 27) (lnM (r p0 33))) (lt (up h140 (r p0 33) (ix (h140 p0 27)) (h140 (r p0 33) (ix a1))) (fun h155 => gd (inb (1 - a2) (lnM (r p0 6))) (gd (inb a1 (lnM (r (r p0 6) (ix (1 - a2))))) (gd (inb (h155 p0 27) (lnM (r p0 34))) (lt (up h155 (r p0 34) (ix (h155 p0 27)) (h155 (r (r p0 6) (ix (1 - a2))) (ix a1))) (fun h174 => lt (up h174 p0 27 ((h174 p0 27) + 1)) (fun h182 => some h182)))))))))))))))) else (some h93))) else (some h))))))
def fX8_fills_b62 (r : RR) (p0 : Nat) (a1 : Int32) (a2 : Int32) (h : HH) : Option (HH) := fX8_fills_b63 r p0 a1 a2 h 0
def fX8_fills (h : HH) (r : RR) (p0 : Nat) (a1 : Int32) (a2 : Int32) : Option (HH) := (fX8_sideFor h r p0 a1 8 a2).bind (fun v5 => gd (inb v5 (lnM (r p0 6))) (gd (inb a1 (lnM (r (r p0 6) (ix v5)))) (gd (inb a1 (lnM (r p0 34))) (lt (up h (r p0 34) (ix a1) (h (r (r p0 6) (ix v5)) (ix a1))) (fun h22 => gd (inb 2 (lnM (r p0 3))) (gd (inb a1 (lnM (r (r p0 3) (ix 2)))) (if (h22 (r (r p0 3) (ix 2)) (ix a1)) = 0 then (fX8_fills_b62 r p0 a1 a2 h22) else ((fX8_changed h22 r p0 0 a1).bind (fun v37 => if (v37 &&& 8) = 0 then (fX8_fills_b62 r p0 a1 a2 h22) else ((fX8_changed h22 r p0 1 a1).bind (fun v49 => if (v49 &&& 8) = 0 then (fX8_fills_b62 r p0 a1 a2 h22) else (fX8_fills_b63 r p0 a1 a2 h22 1))))))))))))
set_option maxRecDepth 100000 in
set_option maxHeartbeats 4000000 in
theorem kX8_fills_b63 {X : XT} {b N sz : Nat} {ok : Nat → Prop} {r : RR} {w : HH} (hX : XOK X RX8 cX8_fills 5 3) (hM : N ≤ MM) (hW : WT KM lnM ok N r) (p0 : Nat) (a1 : Int32) (a2 : Int32) (t0 : KM p0 = 8 ∧ ok p0) (hR : XR X b KM lnM MM (none) 0 0 N sz none w r) (h : HH) (s0 : Int32) (hF : fX8_fills_b63 r p0 a1 a2 h s0 = some w) : GX X b KM lnM MM 5 0 0 N sz 63 [(0, .ref (b + p0)), (1, .int a1), (2, .int a2)] [.int s0] h r := by
  rw [fX8_fills_b63] at hF
  refine g_istore (L' := [(4, .int s0), (0, .ref (b + p0)), (1, .int a1), (2, .int a2)]) hX dX8_fills_63 (by decide) rfl ?_
  refine g_iload hX dX8_fills_65 (j := 0) rfl ?_
  refine g_if_eq (tgt := 89) hX dX8_fills_67 (by decide) (fun c67 => ?_) (fun c67 => ?_)
  · have hF := ite_t hF c67
    obtain rfl := Option.some.inj hF
    exact g_vret hX dX8_fills_89 hR
  · have hF := ite_f hF c67
    refine g_aload_n hX dX8_fills_70 (i := 0) rfl (j := 1) rfl ?_
    have tf71 := (tyF (k := 6) hW t0 (by decide) rfl (by decide) : KM (r p0 6) = 14 ∧ ok (r p0 6))
    refine gf_X8_26 hX dX8_fills_71 (ty1 hW t0) (hW.1 _ tf71.2).1 ?_
    refine g_iconst (v := 0) hX dX8_fills_74 (by decide) ?_
    obtain ⟨g75, hF⟩ := gd_some hF
    have ta75 : KM (r (r p0 6) (ix 0)) = 9 ∧ ok (r (r p0 6) (ix 0)) := tyA hW tf71 (by decide) rfl (by decide) g75
    refine g_aald hX dX8_fills_75 tf71.1 (by decide) (by decide) (hW.1 _ tf71.2).1 (hW.1 _ tf71.2).2 g75 (hW.1 _ ta75.2).1 ?_
    refine g_iload_n hX dX8_fills_76 (i := 1) rfl (j := 2) rfl ?_
    obtain ⟨g77, hF⟩ := gd_some hF
    refine g_iald hX dX8_fills_77 ta75.1 (hW.1 _ ta75.2).1 (hW.1 _ ta75.2).2 g77 ?_
    refine g_aload_n hX dX8_fills_78 (i := 0) rfl (j := 1) rfl ?_
    have tf79 := (tyF (k := 6) hW t0 (by decide) rfl (by decide) : KM (r p0 6) = 14 ∧ ok (r p0 6))
    refine gf_X8_26 hX dX8_fills_79 (ty1 hW t0) (hW.1 _ tf79.2).1 ?_
    refine g_iconst (v := 1) hX dX8_fills_82 (by decide) ?_
    obtain ⟨g83, hF⟩ := gd_some hF
    have ta83 : KM (r (r p0 6) (ix 1)) = 9 ∧ ok (r (r p0 6) (ix 1)) := tyA hW tf79 (by decide) rfl (by decide) g83
    refine g_aald hX dX8_fills_83 tf79.1 (by decide) (by decide) (hW.1 _ tf79.2).1 (hW.1 _ tf79.2).2 g83 (hW.1 _ ta83.2).1 ?_
    refine g_iload_n hX dX8_fills_84 (i := 1) rfl (j := 2) rfl ?_
    obtain ⟨g85, hF⟩ := gd_some hF
    refine g_iald hX dX8_fills_85 ta83.1 (hW.1 _ ta83.2).1 (hW.1 _ ta83.2).2 g85 ?_
    refine g_icmp_ne (tgt := 90) hX dX8_fills_86 (by decide) (fun c86 => ?_) (fun c86 => ?_)
    · have hF := ite_t hF c86
      refine g_aload_n hX dX8_fills_90 (i := 0) rfl (j := 1) rfl ?_
      refine g_iconst (v := 2) hX dX8_fills_91 (by decide) ?_
      refine g_iload_n hX dX8_fills_92 (i := 1) rfl (j := 2) rfl ?_
      obtain ⟨h93, e93, hF⟩ := bi_some hF
      refine g_callV (As := [.int 2, .int a1]) (rest := []) (stk := []) hX dX8_fills_93 (ctX8_clashes hM hW p0 2 a1 t0 e93) (by decide) (by decide) wm_X8_255 wi_X8_clashes ws_X8_clashes wz_X8 wc_X8_clashes hyX8_clashes rfl (ci := 8) rfl (by decide) t0.1 (hW.1 _ t0.2).1 (hW.1 _ t0.2).2 (Nat.le_of_ble_eq_true rfl) rfl rfl ?_ rfl rfl
      refine g_aload_n hX dX8_fills_96 (i := 0) rfl (j := 1) rfl ?_
      refine gf_X8_260 hX dX8_fills_97 (ty1 hW t0) ?_
      refine g_bipush (v := 30) hX dX8_fills_100 (by decide) ?_
      refine g_icmp_ne (tgt := 106) hX dX8_fills_102 (by decide) (fun c102 => ?_) (fun c102 => ?_)
      · have hF := ite_t hF c102
        refine g_aload_n hX dX8_fills_106 (i := 0) rfl (j := 1) rfl ?_
        have tf107 := (tyF (k := 30) hW t0 (by decide) rfl (by decide) : KM (r p0 30) = 10 ∧ ok (r p0 30))
        refine gf_X8_64 hX dX8_fills_107 (ty1 hW t0) (hW.1 _ tf107.2).1 ?_
        refine g_aload_n hX dX8_fills_110 (i := 0) rfl (j := 1) rfl ?_
        refine gf_X8_260 hX dX8_fills_111 (ty1 hW t0) ?_
        refine g_iconst (v := 1) hX dX8_fills_114 (by decide) ?_
        obtain ⟨g115, hF⟩ := gd_some hF
        obtain ⟨h115, e115, hF⟩ := lt_some hF
        refine g_bast hX dX8_fills_115 tf107.1 (hW.1 _ tf107.2).1 (hW.1 _ tf107.2).2 hM g115 e115 ?_
        refine g_aload_n hX dX8_fills_116 (i := 0) rfl (j := 1) rfl ?_
        have tf117 := (tyF (k := 31) hW t0 (by decide) rfl (by decide) : KM (r p0 31) = 10 ∧ ok (r p0 31))
        refine gf_X8_67 hX dX8_fills_117 (ty1 hW t0) (hW.1 _ tf117.2).1 ?_
        refine g_aload_n hX dX8_fills_120 (i := 0) rfl (j := 1) rfl ?_
        refine gf_X8_260 hX dX8_fills_121 (ty1 hW t0) ?_
        refine g_iconst (v := 0) hX dX8_fills_124 (by decide) ?_
        obtain ⟨g125, hF⟩ := gd_some hF
        obtain ⟨h125, e125, hF⟩ := lt_some hF
        refine g_bast hX dX8_fills_125 tf117.1 (hW.1 _ tf117.2).1 (hW.1 _ tf117.2).2 hM g125 e125 ?_
        refine g_aload_n hX dX8_fills_126 (i := 0) rfl (j := 1) rfl ?_
        have tf127 := (tyF (k := 32) hW t0 (by decide) rfl (by decide) : KM (r p0 32) = 9 ∧ ok (r p0 32))
        refine gf_X8_70 hX dX8_fills_127 (ty1 hW t0) (hW.1 _ tf127.2).1 ?_
        refine g_aload_n hX dX8_fills_130 (i := 0) rfl (j := 1) rfl ?_
        refine gf_X8_260 hX dX8_fills_131 (ty1 hW t0) ?_
        refine g_aload_n hX dX8_fills_134 (i := 0) rfl (j := 1) rfl ?_
        have tf135 := (tyF (k := 32) hW t0 (by decide) rfl (by decide) : KM (r p0 32) = 9 ∧ ok (r p0 32))
        refine gf_X8_70 hX dX8_fills_135 (ty1 hW t0) (hW.1 _ tf135.2).1 ?_
        refine g_iload_n hX dX8_fills_138 (i := 1) rfl (j := 2) rfl ?_
        obtain ⟨g139, hF⟩ := gd_some hF
        refine g_iald hX dX8_fills_139 tf135.1 (hW.1 _ tf135.2).1 (hW.1 _ tf135.2).2 g139 ?_
        obtain ⟨g140, hF⟩ := gd_some hF
        obtain ⟨h140, e140, hF⟩ := lt_some hF
        refine g_iast hX dX8_fills_140 tf127.1 (hW.1 _ tf127.2).1 (hW.1 _ tf127.2).2 hM g140 e140 ?_
        refine g_aload_n hX dX8_fills_141 (i := 0) rfl (j := 1) rfl ?_
        have tf142 := (tyF (k := 33) hW t0 (by decide) rfl (by decide) : KM (r p0 33) = 9 ∧ ok (r p0 33))
        refine gf_X8_73 hX dX8_fills_142 (ty1 hW t0) (hW.1 _ tf142.2).1 ?_
        refine g_aload_n hX dX8_fills_145 (i := 0) rfl (j := 1) rfl ?_
        refine gf_X8_260 hX dX8_fills_146 (ty1 hW t0) ?_
        refine g_aload_n hX dX8_fills_149 (i := 0) rfl (j := 1) rfl ?_
        have tf150 := (tyF (k := 33) hW t0 (by decide) rfl (by decide) : KM (r p0 33) = 9 ∧ ok (r p0 33))
        refine gf_X8_73 hX dX8_fills_150 (ty1 hW t0) (hW.1 _ tf150.2).1 ?_
        refine g_iload_n hX dX8_fills_153 (i := 1) rfl (j := 2) rfl ?_
        obtain ⟨g154, hF⟩ := gd_some hF
        refine g_iald hX dX8_fills_154 tf150.1 (hW.1 _ tf150.2).1 (hW.1 _ tf150.2).2 g154 ?_
        obtain ⟨g155, hF⟩ := gd_some hF
        obtain ⟨h155, e155, hF⟩ := lt_some hF
        refine g_iast hX dX8_fills_155 tf142.1 (hW.1 _ tf142.2).1 (hW.1 _ tf142.2).2 hM g155 e155 ?_
        refine g_aload_n hX dX8_fills_156 (i := 0) rfl (j := 1) rfl ?_
        have tf157 := (tyF (k := 34) hW t0 (by decide) rfl (by decide) : KM (r p0 34) = 9 ∧ ok (r p0 34))
        refine gf_X8_76 hX dX8_fills_157 (ty1 hW t0) (hW.1 _ tf157.2).1 ?_
        refine g_aload_n hX dX8_fills_160 (i := 0) rfl (j := 1) rfl ?_
        refine gf_X8_260 hX dX8_fills_161 (ty1 hW t0) ?_
        refine g_aload_n hX dX8_fills_164 (i := 0) rfl (j := 1) rfl ?_
        have tf165 := (tyF (k := 6) hW t0 (by decide) rfl (by decide) : KM (r p0 6) = 14 ∧ ok (r p0 6))
        refine gf_X8_26 hX dX8_fills_165 (ty1 hW t0) (hW.1 _ tf165.2).1 ?_
        refine g_iconst (v := 1) hX dX8_fills_168 (by decide) ?_
        refine g_iload_n hX dX8_fills_169 (i := 2) rfl (j := 3) rfl ?_
        refine g_isub hX dX8_fills_170 ?_
        obtain ⟨g171, hF⟩ := gd_some hF
        have ta171 : KM (r (r p0 6) (ix (1 - a2))) = 9 ∧ ok (r (r p0 6) (ix (1 - a2))) := tyA hW tf165 (by decide) rfl (by decide) g171
        refine g_aald hX dX8_fills_171 tf165.1 (by decide) (by decide) (hW.1 _ tf165.2).1 (hW.1 _ tf165.2).2 g171 (hW.1 _ ta171.2).1 ?_
        refine g_iload_n hX dX8_fills_172 (i := 1) rfl (j := 2) rfl ?_
        obtain ⟨g173, hF⟩ := gd_some hF
        refine g_iald hX dX8_fills_173 ta171.1 (hW.1 _ ta171.2).1 (hW.1 _ ta171.2).2 g173 ?_
        obtain ⟨g174, hF⟩ := gd_some hF
        obtain ⟨h174, e174, hF⟩ := lt_some hF
        refine g_iast hX dX8_fills_174 tf157.1 (hW.1 _ tf157.2).1 (hW.1 _ tf157.2).2 hM g174 e174 ?_
        refine g_aload_n hX dX8_fills_175 (i := 0) rfl (j := 1) rfl ?_
        refine g_dup hX dX8_fills_176 rfl ?_
        refine gf_X8_260 hX dX8_fills_177 (ty1 hW t0) ?_
        refine g_iconst (v := 1) hX dX8_fills_180 (by decide) ?_
        refine g_iadd hX dX8_fills_181 ?_
        obtain ⟨h182, e182, hF⟩ := lt_some hF
        refine pf_X8_260 hX dX8_fills_182 (ty1 hW t0) hM e182 ?_
        obtain rfl := Option.some.inj hF
        exact g_vret hX dX8_fills_185 hR
      · have hF := ite_f hF (fun z => z c102)
        obtain rfl := Option.some.inj hF
        exact g_vret hX dX8_fills_105 hR
    · have hF := ite_f hF (fun z => z c86)
      obtain rfl := Option.some.inj hF
      exact g_vret hX dX8_fills_89 hR
set_option maxRecDepth 100000 in
set_option maxHeartbeats 4000000 in
theorem kX8_fills_b62 {X : XT} {b N sz : Nat} {ok : Nat → Prop} {r : RR} {w : HH} (hX : XOK X RX8 cX8_fills 5 3) (hM : N ≤ MM) (hW : WT KM lnM ok N r) (p0 : Nat) (a1 : Int32) (a2 : Int32) (t0 : KM p0 = 8 ∧ ok p0) (hR : XR X b KM lnM MM (none) 0 0 N sz none w r) (h : HH) (hF : fX8_fills_b62 r p0 a1 a2 h = some w) : GX X b KM lnM MM 5 0 0 N sz 62 [(0, .ref (b + p0)), (1, .int a1), (2, .int a2)] [] h r := by
  rw [fX8_fills_b62] at hF
  refine g_iconst (v := 0) hX dX8_fills_62 (by decide) ?_
  refine g_sub (L' := [(0, .ref (b + p0)), (1, .int a1), (2, .int a2)]) [0, 1, 2] rfl ?_
  exact kX8_fills_b63 hX hM hW p0 a1 a2 t0 hR h 0 hF
set_option maxRecDepth 100000 in
set_option maxHeartbeats 4000000 in
theorem kX8_fills {X : XT} {b N sz : Nat} {ok : Nat → Prop} {h : HH} {r : RR} {w : HH} (hX : XOK X RX8 cX8_fills 5 3) (hM : N ≤ MM) (hW : WT KM lnM ok N r) (p0 : Nat) (a1 : Int32) (a2 : Int32) (t0 : KM p0 = 8 ∧ ok p0) (hR : XR X b KM lnM MM (none) 0 0 N sz none w r) (hF : fX8_fills h r p0 a1 a2 = some w) : GX X b KM lnM MM 5 0 0 N sz 0 [(0, .ref (b + p0)), (1, .int a1), (2, .int a2)] [] h r := by
  rw [fX8_fills] at hF
  refine g_aload_n hX dX8_fills_0 (i := 0) rfl (j := 0) rfl ?_
  refine g_iload_n hX dX8_fills_1 (i := 1) rfl (j := 1) rfl ?_
  refine g_bipush (v := 8) hX dX8_fills_2 (by decide) ?_
  refine g_iload_n hX dX8_fills_4 (i := 2) rfl (j := 2) rfl ?_
  obtain ⟨v5, e5, hF⟩ := bi_some hF
  refine g_callV (As := [.int a1, .int 8, .int a2]) (rest := []) (stk := [.int v5]) hX dX8_fills_5 (ctX8_sideFor hM hW p0 a1 8 a2 t0 e5) (by decide) (by decide) wm_X8_257 wi_X8_sideFor ws_X8_sideFor wz_X8 wc_X8_sideFor hyX8_sideFor rfl (ci := 8) rfl (by decide) t0.1 (hW.1 _ t0.2).1 (hW.1 _ t0.2).2 (Nat.le_of_ble_eq_true rfl) rfl rfl ?_ rfl rfl
  refine g_istore_n (L' := [(3, .int v5), (0, .ref (b + p0)), (1, .int a1), (2, .int a2)]) hX dX8_fills_8 (i := 3) rfl (by decide) rfl ?_
  refine g_aload_n hX dX8_fills_9 (i := 0) rfl (j := 1) rfl ?_
  have tf10 := (tyF (k := 34) hW t0 (by decide) rfl (by decide) : KM (r p0 34) = 9 ∧ ok (r p0 34))
  refine gf_X8_76 hX dX8_fills_10 (ty1 hW t0) (hW.1 _ tf10.2).1 ?_
  refine g_iload_n hX dX8_fills_13 (i := 1) rfl (j := 2) rfl ?_
  refine g_aload_n hX dX8_fills_14 (i := 0) rfl (j := 1) rfl ?_
  have tf15 := (tyF (k := 6) hW t0 (by decide) rfl (by decide) : KM (r p0 6) = 14 ∧ ok (r p0 6))
  refine gf_X8_26 hX dX8_fills_15 (ty1 hW t0) (hW.1 _ tf15.2).1 ?_
  refine g_iload_n hX dX8_fills_18 (i := 3) rfl (j := 0) rfl ?_
  obtain ⟨g19, hF⟩ := gd_some hF
  have ta19 : KM (r (r p0 6) (ix v5)) = 9 ∧ ok (r (r p0 6) (ix v5)) := tyA hW tf15 (by decide) rfl (by decide) g19
  refine g_aald hX dX8_fills_19 tf15.1 (by decide) (by decide) (hW.1 _ tf15.2).1 (hW.1 _ tf15.2).2 g19 (hW.1 _ ta19.2).1 ?_
  refine g_iload_n hX dX8_fills_20 (i := 1) rfl (j := 2) rfl ?_
  obtain ⟨g21, hF⟩ := gd_some hF
  refine g_iald hX dX8_fills_21 ta19.1 (hW.1 _ ta19.2).1 (hW.1 _ ta19.2).2 g21 ?_
  obtain ⟨g22, hF⟩ := gd_some hF
  obtain ⟨h22, e22, hF⟩ := lt_some hF
  refine g_iast hX dX8_fills_22 tf10.1 (hW.1 _ tf10.2).1 (hW.1 _ tf10.2).2 hM g22 e22 ?_
  refine g_aload_n hX dX8_fills_23 (i := 0) rfl (j := 1) rfl ?_
  have tf24 := (tyF (k := 3) hW t0 (by decide) rfl (by decide) : KM (r p0 3) = 15 ∧ ok (r p0 3))
  refine gf_X8_15 hX dX8_fills_24 (ty1 hW t0) (hW.1 _ tf24.2).1 ?_
  refine g_iconst (v := 2) hX dX8_fills_27 (by decide) ?_
  obtain ⟨g28, hF⟩ := gd_some hF
  have ta28 : KM (r (r p0 3) (ix 2)) = 10 ∧ ok (r (r p0 3) (ix 2)) := tyA hW tf24 (by decide) rfl (by decide) g28
  refine g_aald hX dX8_fills_28 tf24.1 (by decide) (by decide) (hW.1 _ tf24.2).1 (hW.1 _ tf24.2).2 g28 (hW.1 _ ta28.2).1 ?_
  refine g_iload_n hX dX8_fills_29 (i := 1) rfl (j := 2) rfl ?_
  obtain ⟨g30, hF⟩ := gd_some hF
  refine g_bald hX dX8_fills_30 ta28.1 (hW.1 _ ta28.2).1 (hW.1 _ ta28.2).2 g30 ?_
  refine g_if_eq (tgt := 62) hX dX8_fills_31 (by decide) (fun c31 => ?_) (fun c31 => ?_)
  · have hF := ite_t hF c31
    refine g_sub (L' := [(0, .ref (b + p0)), (1, .int a1), (2, .int a2)]) [1, 2, 3] rfl ?_
    exact kX8_fills_b62 hX hM hW p0 a1 a2 t0 hR h22 hF
  · have hF := ite_f hF c31
    refine g_aload_n hX dX8_fills_34 (i := 0) rfl (j := 1) rfl ?_
    refine g_iconst (v := 0) hX dX8_fills_35 (by decide) ?_
    refine g_iload_n hX dX8_fills_36 (i := 1) rfl (j := 2) rfl ?_
    obtain ⟨v37, e37, hF⟩ := bi_some hF
    refine g_callV (As := [.int 0, .int a1]) (rest := []) (stk := [.int v37]) hX dX8_fills_37 (ctX8_changed hM hW p0 0 a1 t0 e37) (by decide) (by decide) wm_X8_199 wi_X8_changed ws_X8_changed wz_X8 wc_X8_changed hyX8_changed rfl (ci := 8) rfl (by decide) t0.1 (hW.1 _ t0.2).1 (hW.1 _ t0.2).2 (Nat.le_of_ble_eq_true rfl) rfl rfl ?_ rfl rfl
    refine g_bipush (v := 8) hX dX8_fills_40 (by decide) ?_
    refine g_iand hX dX8_fills_42 ?_
    refine g_if_eq (tgt := 62) hX dX8_fills_43 (by decide) (fun c43 => ?_) (fun c43 => ?_)
    · have hF := ite_t hF c43
      refine g_sub (L' := [(0, .ref (b + p0)), (1, .int a1), (2, .int a2)]) [1, 2, 3] rfl ?_
      exact kX8_fills_b62 hX hM hW p0 a1 a2 t0 hR h22 hF
    · have hF := ite_f hF c43
      refine g_aload_n hX dX8_fills_46 (i := 0) rfl (j := 1) rfl ?_
      refine g_iconst (v := 1) hX dX8_fills_47 (by decide) ?_
      refine g_iload_n hX dX8_fills_48 (i := 1) rfl (j := 2) rfl ?_
      obtain ⟨v49, e49, hF⟩ := bi_some hF
      refine g_callV (As := [.int 1, .int a1]) (rest := []) (stk := [.int v49]) hX dX8_fills_49 (ctX8_changed hM hW p0 1 a1 t0 e49) (by decide) (by decide) wm_X8_199 wi_X8_changed ws_X8_changed wz_X8 wc_X8_changed hyX8_changed rfl (ci := 8) rfl (by decide) t0.1 (hW.1 _ t0.2).1 (hW.1 _ t0.2).2 (Nat.le_of_ble_eq_true rfl) rfl rfl ?_ rfl rfl
      refine g_bipush (v := 8) hX dX8_fills_52 (by decide) ?_
      refine g_iand hX dX8_fills_54 ?_
      refine g_if_eq (tgt := 62) hX dX8_fills_55 (by decide) (fun c55 => ?_) (fun c55 => ?_)
      · have hF := ite_t hF c55
        refine g_sub (L' := [(0, .ref (b + p0)), (1, .int a1), (2, .int a2)]) [1, 2, 3] rfl ?_
        exact kX8_fills_b62 hX hM hW p0 a1 a2 t0 hR h22 hF
      · have hF := ite_f hF c55
        refine g_iconst (v := 1) hX dX8_fills_58 (by decide) ?_
        refine g_goto (tgt := 63) hX dX8_fills_59 (by decide) ?_
        refine g_sub (L' := [(0, .ref (b + p0)), (1, .int a1), (2, .int a2)]) [1, 2, 3] rfl ?_
        exact kX8_fills_b63 hX hM hW p0 a1 a2 t0 hR h22 1 hF
theorem ctX8_fills {b N sz : Nat} {ok : Nat → Prop} {h : HH} {r : RR} {w : HH} (hM : N ≤ MM) (hW : WT KM lnM ok N r) (p0 : Nat) (a1 : Int32) (a2 : Int32) (t0 : KM p0 = 8 ∧ ok p0) (hF : fX8_fills h r p0 a1 a2 = some w) : CT yX8_fills cX8_fills 5 (none) 3 b KM lnM MM N sz [.ref (b + p0), .int a1, .int a2] h r N sz none w r 0 0 :=
  CT_of (by decide) rfl (Nat.le_of_ble_eq_true rfl) (by decide) trivial (fun X hX hR => kX8_fills hX hM hW p0 a1 a2 t0 hR hF)
