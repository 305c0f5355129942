/-! X7_find -/
def fX7_find (h : HH) (r : RR) (p0 : Nat) (a1 : Int32) (a2 : Int32) (a3 : Int32) : Option (Int32) := (fX7_isTree h r a1).bind (fun v1 => if v1 = 0 then (some (-2)) else ((fX6_isPlace h r (r p0 0) a2).bind (fun v12 => if ¬ v12 = 0 then (gd (inb a1 (lnA (r (r p0 0) 2))) ((fX5_standing h r (r (r (r p0 0) 2) (ix a1)) a2 a3).bind (fun v32 => some (v32)))) else (some (-2)))))
set_option maxRecDepth 100000 in
set_option maxHeartbeats 4000000 in
theorem kX7_find {X : XT} {b N sz : Nat} {ok : Nat → Prop} {h : HH} {r : RR} {w : Int32} (hX : XOK X RX7 cX7_find 4 3) (hM : N ≤ MA) (hW : WT KA lnA ok N r) (p0 : Nat) (a1 : Int32) (a2 : Int32) (a3 : Int32) (t0 : KA p0 = 7 ∧ ok p0) (hR : XR X b KA lnA MA (some FieldType.int) 0 0 N sz (some (.int w)) h r) (hF : fX7_find h r p0 a1 a2 a3 = some w) : GX X b KA lnA MA 4 0 0 N sz 0 [(0, .ref (b + p0)), (1, .int a1), (2, .int a2), (3, .int a3)] [] h r := by
  rw [fX7_find] at hF
  refine g_iload_n hX dX7_find_0 (i := 1) rfl (j := 1) rfl ?_
  obtain ⟨v1, e1, hF⟩ := bi_some hF
  refine g_callS (As := [.int a1]) (rest := []) (stk := [.int v1]) hX dX7_find_1 (ctX7_isTree hM hW a1 e1) (by decide) (by decide) wm_X7_71 wt_X7_isTree wz_X7 wc_X7_isTree hyX7_isTree rfl (Nat.le_of_ble_eq_true rfl) rfl rfl ?_ rfl rfl
  refine g_if_eq (tgt := 18) hX dX7_find_4 (by decide) (fun c4 => ?_) (fun c4 => ?_)
  · have hF := ite_t hF c4
    refine g_bipush (v := (-2)) hX dX7_find_18 (by decide) ?_
    obtain rfl := Option.some.inj hF
    exact g_iret hX dX7_find_20 hR
  · have hF := ite_f hF c4
    refine g_aload_n hX dX7_find_7 (i := 0) rfl (j := 0) rfl ?_
    have tf8 := (tyF (k := 0) hW t0 (by decide) rfl (by decide) : KA (r p0 0) = 6 ∧ ok (r p0 0))
    refine gf_X7_12 hX dX7_find_8 (ty1 hW t0) (hW.1 _ tf8.2).1 ?_
    refine g_iload_n hX dX7_find_11 (i := 2) rfl (j := 2) rfl ?_
    obtain ⟨v12, e12, hF⟩ := bi_some hF
    refine g_callV (As := [.int a2]) (rest := []) (stk := [.int v12]) hX dX7_find_12 (ctX6_isPlace hM hW (r p0 0) a2 tf8 e12) (by decide) (by decide) wm_X7_126 wi_X6_isPlace ws_X6_isPlace wz_X6 wc_X6_isPlace hyX6_isPlace rfl (ci := 6) rfl (by decide) tf8.1 (hW.1 _ tf8.2).1 (hW.1 _ tf8.2).2 (Nat.le_of_ble_eq_true rfl) rfl rfl ?_ rfl rfl
    refine g_if_ne (tgt := 21) hX dX7_find_15 (by decide) (fun c15 => ?_) (fun c15 => ?_)
    · have hF := ite_t hF c15
      refine g_aload_n hX dX7_find_21 (i := 0) rfl (j := 0) rfl ?_
      have tf22 := (tyF (k := 0) hW t0 (by decide) rfl (by decide) : KA (r p0 0) = 6 ∧ ok (r p0 0))
      refine gf_X7_12 hX dX7_find_22 (ty1 hW t0) (hW.1 _ tf22.2).1 ?_
      have tf25 := (tyF (k := 2) hW tf22 (by decide) rfl (by decide) : KA (r (r p0 0) 2) = 13 ∧ ok (r (r p0 0) 2))
      refine gf_X7_78 hX dX7_find_25 (ty1 hW tf22) (hW.1 _ tf25.2).1 ?_
      refine g_iload_n hX dX7_find_28 (i := 1) rfl (j := 1) rfl ?_
      obtain ⟨g29, hF⟩ := gd_some hF
      have ta29 : KA (r (r (r p0 0) 2) (ix a1)) = 5 ∧ ok (r (r (r p0 0) 2) (ix a1)) := tyA hW tf25 (by decide) rfl (by decide) g29
      refine g_aald hX dX7_find_29 tf25.1 (by decide) (by decide) (hW.1 _ tf25.2).1 (hW.1 _ tf25.2).2 g29 (hW.1 _ ta29.2).1 ?_
      refine g_iload_n hX dX7_find_30 (i := 2) rfl (j := 2) rfl ?_
      refine g_iload_n hX dX7_find_31 (i := 3) rfl (j := 3) rfl ?_
      obtain ⟨v32, e32, hF⟩ := bi_some hF
      refine g_callV (As := [.int a2, .int a3]) (rest := []) (stk := [.int v32]) hX dX7_find_32 (ctX5_standing hM hW (r (r (r p0 0) 2) (ix a1)) a2 a3 ta29 e32) (by decide) (by decide) wm_X7_129 wi_X5_standing ws_X5_standing wz_X5 wc_X5_standing hyX5_standing rfl (ci := 5) rfl (by decide) ta29.1 (hW.1 _ ta29.2).1 (hW.1 _ ta29.2).2 (Nat.le_of_ble_eq_true rfl) rfl rfl ?_ rfl rfl
      obtain rfl := Option.some.inj hF
      exact g_iret hX dX7_find_35 hR
    · have hF := ite_f hF (fun z => z c15)
      refine g_bipush (v := (-2)) hX dX7_find_18 (by decide) ?_
      obtain rfl := Option.some.inj hF
      exact g_iret hX dX7_find_20 hR
theorem ctX7_find {b N sz : Nat} {ok : Nat → Prop} {h : HH} {r : RR} {w : Int32} (hM : N ≤ MA) (hW : WT KA lnA ok N r) (p0 : Nat) (a1 : Int32) (a2 : Int32) (a3 : Int32) (t0 : KA p0 = 7 ∧ ok p0) (hF : fX7_find h r p0 a1 a2 a3 = some w) : CT yX7_find cX7_find 4 (some FieldType.int) 3 b KA lnA MA N sz [.ref (b + p0), .int a1, .int a2, .int a3] h r N sz (some (.int w)) h r 0 0 :=
  CT_of (by decide) rfl (Nat.le_of_ble_eq_true rfl) (by decide) trivial (fun X hX hR => kX7_find hX hM hW p0 a1 a2 a3 t0 hR hF)
/-! X7_taken -/
def fX7_taken_b77 (h : HH) (r : RR) (p0 : Nat) (a1 : Int32) (a2 : Int32) (x3 : Int32) : Option (Int32) := if x3 = 0 then (some (-13)) else (some (a1))
def fX7_taken_b46 (h : HH) (r : RR) (p0 : Nat) (a1 : Int32) (a2 : Int32) (s0 : Int32) : Option (Int32) := fX7_taken_b77 h r p0 a1 a2 s0
def fX7_taken_b76 (h : HH) (r : RR) (p0 : Nat) (a1 : Int32) (a2 : Int32) (s0 : Int32) : Option (Int32) := fX7_taken_b77 h r p0 a1 a2 s0
def fX7_taken (h : HH) (r : RR) (p0 : Nat) (a1 : Int32) (a2 : Int32) : Option (Int32) := (fX6_isThing h r (r p0 0) a1).bind (fun v5 => if v5 = 0 then (some (-2)) else (if a2 < 0 then (some (-2)) else (if a2 ≤ 2 then (gd (inb a1 (lnA (r (r p0 0) 1))) (lt (h (r (r p0 0) 1) (ix a1)) (fun y32 => if ¬ a2 = 0 then (if ¬ a2 = 2 then (fX7_taken_b77 h r p0 a1 a2 y32) else (gd (inb 0 (lnA (r (r p0 0) 2))) ((fX5_innerOnes h r (r (r (r p0 0) 2) (ix 0)) a1).bind (fun v65 => if v65 ≤ 0 then (fX7_taken_b76 h r p0 a1 a2 0) else (fX7_taken_b76 h r p0 a1 a2 1))))) else (if ¬ y32 = 0 then (fX7_taken_b46 h r p0 a1 a2 0) else (fX7_taken_b46 h r p0 a1 a2 1))))) else (some (-2)))))
set_option maxRecDepth 100000 in
set_option maxHeartbeats 4000000 in
theorem kX7_taken_b77 {X : XT} {b N sz : Nat} {ok : Nat → Prop} {h : HH} {r : RR} {w : Int32} (hX : XOK X RX7 cX7_taken 4 4) (hM : N ≤ MA) (hW : WT KA lnA ok N r) (p0 : Nat) (a1 : Int32) (a2 : Int32) (t0 : KA p0 = 7 ∧ ok p0) (hR : XR X b KA lnA MA (some FieldType.int) 0 0 N sz (some (.int w)) h r) (x3 : Int32) (hF : fX7_taken_b77 h r p0 a1 a2 x3 = some w) : GX X b KA lnA MA 4 0 0 N sz 77 [(0, .ref (b + p0)), (1, .int a1), (2, .int a2), (3, .int x3)] [] h r := by
  rw [fX7_taken_b77] at hF
  refine g_iload_n hX dX7_taken_77 (i := 3) rfl (j := 3) rfl ?_
  refine g_if_eq (tgt := 85) hX dX7_taken_78 (by decide) (fun c78 => ?_) (fun c78 => ?_)
  · have hF := ite_t hF c78
    refine g_bipush (v := (-13)) hX dX7_taken_85 (by decide) ?_
    obtain rfl := Option.some.inj hF
    exact g_iret hX dX7_taken_87 hR
  · have hF := ite_f hF c78
    refine g_iload_n hX dX7_taken_81 (i := 1) rfl (j := 1) rfl ?_
    refine g_goto (tgt := 87) hX dX7_taken_82 (by decide) ?_
    obtain rfl := Option.some.inj hF
    exact g_iret hX dX7_taken_87 hR
set_option maxRecDepth 100000 in
set_option maxHeartbeats 4000000 in
theorem kX7_taken_b46 {X : XT} {b N sz : Nat} {ok : Nat → Prop} {h : HH} {r : RR} {w : Int32} (hX : XOK X RX7 cX7_taken 4 4) (hM : N ≤ MA) (hW : WT KA lnA ok N r) (p0 : Nat) (a1 : Int32) (a2 : Int32) (t0 : KA p0 = 7 ∧ ok p0) (hR : XR X b KA lnA MA (some FieldType.int) 0 0 N sz (some (.int w)) h r) (s0 : Int32) (hF : fX7_taken_b46 h r p0 a1 a2 s0 = some w) : GX X b KA lnA MA 4 0 0 N sz 46 [(0, .ref (b + p0)), (1, .int a1), (2, .int a2)] [.int s0] h r := by
  rw [fX7_taken_b46] at hF
  refine g_istore_n (L' := [(3, .int s0), (0, .ref (b + p0)), (1, .int a1), (2, .int a2)]) hX dX7_taken_46 (i := 3) rfl (by decide) rfl ?_
  refine g_goto (tgt := 77) hX dX7_taken_47 (by decide) ?_
  refine g_sub (L' := [(0, .ref (b + p0)), (1, .int a1), (2, .int a2), (3, .int s0)]) [1, 2, 3, 0] rfl ?_
  exact kX7_taken_b77 hX hM hW p0 a1 a2 t0 hR s0 hF
set_option maxRecDepth 100000 in
set_option maxHeartbeats 4000000 in
theorem kX7_taken_b76 {X : XT} {b N sz : Nat} {ok : Nat → Prop} {h : HH} {r : RR} {w : Int32} (hX : XOK X RX7 cX7_taken 4 4) (hM : N ≤ MA) (hW : WT KA lnA ok N r) (p0 : Nat) (a1 : Int32) (a2 : Int32) (t0 : KA p0 = 7 ∧ ok p0) (hR : XR X b KA lnA MA (some FieldType.int) 0 0 N sz (some (.int w)) h r) (s0 : Int32) (hF : fX7_taken_b76 h r p0 a1 a2 s0 = some w) : GX X b KA lnA MA 4 0 0 N sz 76 [(0, .ref (b + p0)), (1, .int a1), (2, .int a2)] [.int s0] h r := by
  rw [fX7_taken_b76] at hF
  refine g_istore_n (L' := [(3, .int s0), (0, .ref (b + p0)), (1, .int a1), (2, .int a2)]) hX dX7_taken_76 (i := 3) rfl (by decide) rfl ?_
  refine g_sub (L' := [(0, .ref (b + p0)), (1, .int a1), (2, .int a2), (3, .int s0)]) [1, 2, 3, 0] rfl ?_
  exact kX7_taken_b77 hX hM hW p0 a1 a2 t0 hR s0 hF
set_option maxRecDepth 100000 in
set_option maxHeartbeats 4000000 in
theorem kX7_taken {X : XT} {b N sz : Nat} {ok : Nat → Prop} {h : HH} {r : RR} {w : Int32} (hX : XOK X RX7 cX7_taken 4 4) (hM : N ≤ MA) (hW : WT KA lnA ok N r) (p0 : Nat) (a1 : Int32) (a2 : Int32) (t0 : KA p0 = 7 ∧ ok p0) (hR : XR X b KA lnA MA (some FieldType.int) 0 0 N sz (some (.int w)) h r) (hF : fX7_taken h r p0 a1 a2 = some w) : GX X b KA lnA MA 4 0 0 N sz 0 [(0, .ref (b + p0)), (1, .int a1), (2, .int a2)] [] h r := by
  rw [fX7_taken] at hF
  refine g_aload_n hX dX7_taken_0 (i := 0) rfl (j := 0) rfl ?_
  have tf1 := (tyF (k := 0) hW t0 (by decide) rfl (by decide) : KA (r p0 0) = 6 ∧ ok (r p0 0))
  refine gf_X7_12 hX dX7_taken_1 (ty1 hW t0) (hW.1 _ tf1.2).1 ?_
  refine g_iload_n hX dX7_taken_4 (i := 1) rfl (j := 1) rfl ?_
  obtain ⟨v5, e5, hF⟩ := bi_some hF
  refine g_callV (As := [.int a1]) (rest := []) (stk := [.int v5]) hX dX7_taken_5 (ctX6_isThing hM hW (r p0 0) a1 tf1 e5) (by decide) (by decide) wm_X7_75 wi_X6_isThing ws_X6_isThing wz_X6 wc_X6_isThing hyX6_isThing rfl (ci := 6) rfl (by decide) tf1.1 (hW.1 _ tf1.2).1 (hW.1 _ tf1.2).2 (Nat.le_of_ble_eq_true rfl) rfl rfl ?_ rfl rfl
  refine g_if_eq (tgt := 20) hX dX7_taken_8 (by decide) (fun c8 => ?_) (fun c8 => ?_)
  · have hF := ite_t hF c8
    refine g_bipush (v := (-2)) hX dX7_taken_20 (by decide) ?_
    obtain rfl := Option.some.inj hF
    exact g_iret hX dX7_taken_22 hR
  · have hF := ite_f hF c8
    refine g_iload_n hX dX7_taken_11 (i := 2) rfl (j := 2) rfl ?_
    refine g_if_lt (tgt := 20) hX dX7_taken_12 (by decide) (fun c12 => ?_) (fun c12 => ?_)
    · have hF := ite_t hF c12
      refine g_bipush (v := (-2)) hX dX7_taken_20 (by decide) ?_
      obtain rfl := Option.some.inj hF
      exact g_iret hX dX7_taken_22 hR
    · have hF := ite_f hF c12
      refine g_iload_n hX dX7_taken_15 (i := 2) rfl (j := 2) rfl ?_
      refine g_iconst (v := 2) hX dX7_taken_16 (by decide) ?_
      refine g_icmp_le (tgt := 23) hX dX7_taken_17 (by decide) (fun c17 => ?_) (fun c17 => ?_)
      · have hF := ite_t hF c17
        refine g_aload_n hX dX7_taken_23 (i := 0) rfl (j := 0) rfl ?_
        have tf24 := (tyF (k := 0) hW t0 (by decide) rfl (by decide) : KA (r p0 0) = 6 ∧ ok (r p0 0))
        refine gf_X7_12 hX dX7_taken_24 (ty1 hW t0) (hW.1 _ tf24.2).1 ?_
        have tf27 := (tyF (k := 1) hW tf24 (by decide) rfl (by decide) : KA (r (r p0 0) 1) = 10 ∧ ok (r (r p0 0) 1))
        refine gf_X7_112 hX dX7_taken_27 (ty1 hW tf24) (hW.1 _ tf27.2).1 ?_
        refine g_iload_n hX dX7_taken_30 (i := 1) rfl (j := 1) rfl ?_
        obtain ⟨g31, hF⟩ := gd_some hF
        refine g_bald hX dX7_taken_31 tf27.1 (hW.1 _ tf27.2).1 (hW.1 _ tf27.2).2 g31 ?_
        obtain ⟨y32, e32, hF⟩ := lt_some hF
        refine g_topi e32 ?_
        refine g_istore_n (L' := [(3, .int y32), (0, .ref (b + p0)), (1, .int a1), (2, .int a2)]) hX dX7_taken_32 (i := 3) rfl (by decide) rfl ?_
        refine g_iload_n hX dX7_taken_33 (i := 2) rfl (j := 3) rfl ?_
        refine g_if_ne (tgt := 50) hX dX7_taken_34 (by decide) (fun c34 => ?_) (fun c34 => ?_)
        · have hF := ite_t hF c34
          refine g_iload_n hX dX7_taken_50 (i := 2) rfl (j := 3) rfl ?_
          refine g_iconst (v := 2) hX dX7_taken_51 (by decide) ?_
          refine g_icmp_ne (tgt := 77) hX dX7_taken_52 (by decide) (fun c52 => ?_) (fun c52 => ?_)
          · have hF := ite_t hF c52
            refine g_sub (L' := [(0, .ref (b + p0)), (1, .int a1), (2, .int a2), (3, .int y32)]) [1, 2, 3, 0] rfl ?_
            exact kX7_taken_b77 hX hM hW p0 a1 a2 t0 hR y32 hF
          · have hF := ite_f hF (fun z => z c52)
            refine g_aload_n hX dX7_taken_55 (i := 0) rfl (j := 1) rfl ?_
            have tf56 := (tyF (k := 0) hW t0 (by decide) rfl (by decide) : KA (r p0 0) = 6 ∧ ok (r p0 0))
            refine gf_X7_12 hX dX7_taken_56 (ty1 hW t0) (hW.1 _ tf56.2).1 ?_
            have tf59 := (tyF (k := 2) hW tf56 (by decide) rfl (by decide) : KA (r (r p0 0) 2) = 13 ∧ ok (r (r p0 0) 2))
            refine gf_X7_78 hX dX7_taken_59 (ty1 hW tf56) (hW.1 _ tf59.2).1 ?_
            refine g_iconst (v := 0) hX dX7_taken_62 (by decide) ?_
            obtain ⟨g63, hF⟩ := gd_some hF
            have ta63 : KA (r (r (r p0 0) 2) (ix 0)) = 5 ∧ ok (r (r (r p0 0) 2) (ix 0)) := tyA hW tf59 (by decide) rfl (by decide) g63
            refine g_aald hX dX7_taken_63 tf59.1 (by decide) (by decide) (hW.1 _ tf59.2).1 (hW.1 _ tf59.2).2 g63 (hW.1 _ ta63.2).1 ?_
            refine g_iload_n hX dX7_taken_64 (i := 1) rfl (j := 2) rfl ?_
            obtain ⟨v65, e65, hF⟩ := bi_some hF
            refine g_callV (As := [.int a1]) (rest := []) (stk := [.int v65]) hX dX7_taken_65 (ctX5_innerOnes hM hW (r (r (r p0 0) 2) (ix 0)) a1 ta63 e65) (by decide) (by decide) wm_X7_101 wi_X5_innerOnes ws_X5_innerOnes wz_X5 wc_X5_innerOnes hyX5_innerOnes rfl (ci := 5) rfl (by decide) ta63.1 (hW.1 _ ta63.2).1 (hW.1 _ ta63.2).2 (Nat.le_of_ble_eq_true rfl) rfl rfl ?_ rfl rfl
            refine g_if_le (tgt := 75) hX dX7_taken_68 (by decide) (fun c68 => ?_) (fun c68 => ?_)
            · have hF := ite_t hF c68
              refine g_iconst (v := 0) hX dX7_taken_75 (by decide) ?_
              refine g_sub (L' := [(0, .ref (b + p0)), (1, .int a1), (2, .int a2)]) [1, 2, 3] rfl ?_
              exact kX7_taken_b76 hX hM hW p0 a1 a2 t0 hR 0 hF
            · have hF := ite_f hF c68
              refine g_iconst (v := 1) hX dX7_taken_71 (by decide) ?_
              refine g_goto (tgt := 76) hX dX7_taken_72 (by decide) ?_
              refine g_sub (L' := [(0, .ref (b + p0)), (1, .int a1), (2, .int a2)]) [1, 2, 3] rfl ?_
              exact kX7_taken_b76 hX hM hW p0 a1 a2 t0 hR 1 hF
        · have hF := ite_f hF (fun z => z c34)
          refine g_iload_n hX dX7_taken_37 (i := 3) rfl (j := 0) rfl ?_
          refine g_if_ne (tgt := 45) hX dX7_taken_38 (by decide) (fun c38 => ?_) (fun c38 => ?_)
          · have hF := ite_t hF c38
            refine g_iconst (v := 0) hX dX7_taken_45 (by decide) ?_
            refine g_sub (L' := [(0, .ref (b + p0)), (1, .int a1), (2, .int a2)]) [1, 2, 3] rfl ?_
            exact kX7_taken_b46 hX hM hW p0 a1 a2 t0 hR 0 hF
          · have hF := ite_f hF (fun z => z c38)
            refine g_iconst (v := 1) hX dX7_taken_41 (by decide) ?_
            refine g_goto (tgt := 46) hX dX7_taken_42 (by decide) ?_
            refine g_sub (L' := [(0, .ref (b + p0)), (1, .int a1), (2, .int a2)]) [1, 2, 3] rfl ?_
            exact kX7_taken_b46 hX hM hW p0 a1 a2 t0 hR 1 hF
      · have hF := ite_f hF c17
        refine g_bipush (v := (-2)) hX dX7_taken_20 (by decide) ?_
        obtain rfl := Option.some.inj hF
        exact g_iret hX dX7_taken_22 hR
theorem ctX7_taken {b N sz : Nat} {ok : Nat → Prop} {h : HH} {r : RR} {w : Int32} (hM : N ≤ MA) (hW : WT KA lnA ok N r) (p0 : Nat) (a1 : Int32) (a2 : Int32) (t0 : KA p0 = 7 ∧ ok p0) (hF : fX7_taken h r p0 a1 a2 = some w) : CT yX7_taken cX7_taken 4 (some FieldType.int) 4 b KA lnA MA N sz [.ref (b + p0), .int a1, .int a2] h r N sz (some (.int w)) h r 0 0 :=
  CT_of (by decide) rfl (Nat.le_of_ble_eq_true rfl) (by decide) trivial (fun X hX hR => kX7_taken hX hM hW p0 a1 a2 t0 hR hF)
/-! X7_latest -/
def fX7_latest (h : HH) (r : RR) (p0 : Nat) (a1 : Int32) : Option (Int32) := if a1 = 0 then (some (h (r p0 0) 6)) else (if a1 = 1 then (some (h (r p0 0) 7)) else (if a1 = 2 then (some (h (r p0 0) 8)) else (some (-2))))
set_option maxRecDepth 100000 in
set_option maxHeartbeats 4000000 in
theorem kX7_latest {X : XT} {b N sz : Nat} {ok : Nat → Prop} {h : HH} {r : RR} {w : Int32} (hX : XOK X RX7 cX7_latest 2 1) (hM : N ≤ MA) (hW : WT KA lnA ok N r) (p0 : Nat) (a1 : Int32) (t0 : KA p0 = 7 ∧ ok p0) (hR : XR X b KA lnA MA (some FieldType.int) 0 0 N sz (some (.int w)) h r) (hF : fX7_latest h r p0 a1 = some w) : GX X b KA lnA MA 2 0 0 N sz 0 [(0, .ref (b + p0)), (1, .int a1)] [] h r := by
  rw [fX7_latest] at hF
  refine g_iload_n hX dX7_latest_0 (i := 1) rfl (j := 1) rfl ?_
  by_cases c1_0 : a1 = 0
  · have hF := ite_t hF c1_0
    refine g_tin (tgt := 28) hX dX7_latest_1 c1_0 (by decide) (by decide) rfl (by decide) ?_
    refine g_aload_n hX dX7_latest_28 (i := 0) rfl (j := 0) rfl ?_
    have tf29 := (tyF (k := 0) hW t0 (by decide) rfl (by decide) : KA (r p0 0) = 6 ∧ ok (r p0 0))
    refine gf_X7_12 hX dX7_latest_29 (ty1 hW t0) (hW.1 _ tf29.2).1 ?_
    refine gf_X7_132 hX dX7_latest_32 (ty1 hW tf29) ?_
    obtain rfl := Option.some.inj hF
    exact g_iret hX dX7_latest_35 hR
  have hF := ite_f hF c1_0
  by_cases c1_1 : a1 = 1
  · have hF := ite_t hF c1_1
    refine g_tin (tgt := 36) hX dX7_latest_1 c1_1 (by decide) (by decide) rfl (by decide) ?_
    refine g_aload_n hX dX7_latest_36 (i := 0) rfl (j := 0) rfl ?_
    have tf37 := (tyF (k := 0) hW t0 (by decide) rfl (by decide) : KA (r p0 0) = 6 ∧ ok (r p0 0))
    refine gf_X7_12 hX dX7_latest_37 (ty1 hW t0) (hW.1 _ tf37.2).1 ?_
    refine gf_X7_136 hX dX7_latest_40 (ty1 hW tf37) ?_
    obtain rfl := Option.some.inj hF
    exact g_iret hX dX7_latest_43 hR
  have hF := ite_f hF c1_1
  by_cases c1_2 : a1 = 2
  · have hF := ite_t hF c1_2
    refine g_tin (tgt := 44) hX dX7_latest_1 c1_2 (by decide) (by decide) rfl (by decide) ?_
    refine g_aload_n hX dX7_latest_44 (i := 0) rfl (j := 0) rfl ?_
    have tf45 := (tyF (k := 0) hW t0 (by decide) rfl (by decide) : KA (r p0 0) = 6 ∧ ok (r p0 0))
    refine gf_X7_12 hX dX7_latest_45 (ty1 hW t0) (hW.1 _ tf45.2).1 ?_
    refine gf_X7_139 hX dX7_latest_48 (ty1 hW tf45) ?_
    obtain rfl := Option.some.inj hF
    exact g_iret hX dX7_latest_51 hR
  have hF := ite_f hF c1_2
  have n1_0 := lv_neT c1_0 (a := 0) (by decide)
  have n1_1 := lv_neT c1_1 (a := 1) (by decide)
  have n1_2 := lv_neT c1_2 (a := 2) (by decide)
  refine g_tout (tgt := 52) hX dX7_latest_1 (by omega) (by decide) ?_
  refine g_bipush (v := (-2)) hX dX7_latest_52 (by decide) ?_
  obtain rfl := Option.some.inj hF
  exact g_iret hX dX7_latest_54 hR
theorem ctX7_latest {b N sz : Nat} {ok : Nat → Prop} {h : HH} {r : RR} {w : Int32} (hM : N ≤ MA) (hW : WT KA lnA ok N r) (p0 : Nat) (a1 : Int32) (t0 : KA p0 = 7 ∧ ok p0) (hF : fX7_latest h r p0 a1 = some w) : CT yX7_latest cX7_latest 2 (some FieldType.int) 1 b KA lnA MA N sz [.ref (b + p0), .int a1] h r N sz (some (.int w)) h r 0 0 :=
  CT_of (by decide) rfl (Nat.le_of_ble_eq_true rfl) (by decide) trivial (fun X hX hR => kX7_latest hX hM hW p0 a1 t0 hR hF)
/-! X7_isByte -/
def fX7_isByte_b15 (h : HH) (r : RR) (a0 : Int32) : Option (Int32) := some (0)
def fX7_isByte (h : HH) (r : RR) (a0 : Int32) : Option (Int32) := if a0 < 0 then (fX7_isByte_b15 h r a0) else (if 255 < a0 then (fX7_isByte_b15 h r a0) else (some (1)))
set_option maxRecDepth 100000 in
set_option maxHeartbeats 4000000 in
theorem kX7_isByte_b15 {X : XT} {b N sz : Nat} {ok : Nat → Prop} {h : HH} {r : RR} {w : Int32} (hX : XOK X RX7 cX7_isByte 1 1) (hM : N ≤ MA) (hW : WT KA lnA ok N r) (a0 : Int32) (hR : XR X b KA lnA MA (some FieldType.boolean) 0 0 N sz (some (.int w)) h r) (hF : fX7_isByte_b15 h r a0 = some w) : GX X b KA lnA MA 1 0 0 N sz 15 [(0, .int a0)] [] h r := by
  rw [fX7_isByte_b15] at hF
  refine g_iconst (v := 0) hX dX7_isByte_15 (by decide) ?_
  obtain rfl := Option.some.inj hF
  exact g_zret hX dX7_isByte_16 (by decide) hR
set_option maxRecDepth 100000 in
set_option maxHeartbeats 4000000 in
theorem kX7_isByte {X : XT} {b N sz : Nat} {ok : Nat → Prop} {h : HH} {r : RR} {w : Int32} (hX : XOK X RX7 cX7_isByte 1 1) (hM : N ≤ MA) (hW : WT KA lnA ok N r) (a0 : Int32) (hR : XR X b KA lnA MA (some FieldType.boolean) 0 0 N sz (some (.int w)) h r) (hF : fX7_isByte h r a0 = some w) : GX X b KA lnA MA 1 0 0 N sz 0 [(0, .int a0)] [] h r := by
  rw [fX7_isByte] at hF
  refine g_iload_n hX dX7_isByte_0 (i := 0) rfl (j := 0) rfl ?_
  refine g_if_lt (tgt := 15) hX dX7_isByte_1 (by decide) (fun c1 => ?_) (fun c1 => ?_)
  · have hF := ite_t hF c1
    refine g_sub (L' := [(0, .int a0)]) [0] rfl ?_
    exact kX7_isByte_b15 hX hM hW a0 hR hF
  · have hF := ite_f hF c1
    refine g_iload_n hX dX7_isByte_4 (i := 0) rfl (j := 0) rfl ?_
    refine g_sipush (v := 255) hX dX7_isByte_5 (by decide) ?_
    refine g_icmp_gt (tgt := 15) hX dX7_isByte_8 (by decide) (fun c8 => ?_) (fun c8 => ?_)
    · have hF := ite_t hF c8
      refine g_sub (L' := [(0, .int a0)]) [0] rfl ?_
      exact kX7_isByte_b15 hX hM hW a0 hR hF
    · have hF := ite_f hF c8
      refine g_iconst (v := 1) hX dX7_isByte_11 (by decide) ?_
      refine g_goto (tgt := 16) hX dX7_isByte_12 (by decide) ?_
      obtain rfl := Option.some.inj hF
      exact g_zret hX dX7_isByte_16 (by decide) hR
theorem ctX7_isByte {b N sz : Nat} {ok : Nat → Prop} {h : HH} {r : RR} {w : Int32} (hM : N ≤ MA) (hW : WT KA lnA ok N r) (a0 : Int32) (hF : fX7_isByte h r a0 = some w) : CT yX7_isByte cX7_isByte 1 (some FieldType.boolean) 1 b KA lnA MA N sz [.int a0] h r N sz (some (.int w)) h r 0 0 :=
  CT_of (by decide) rfl (Nat.le_of_ble_eq_true rfl) (by decide) trivial (fun X hX hR => kX7_isByte hX hM hW a0 hR hF)
/-! X7_feed -/
def fX7_feed_b117 (r : RR) (p0 : Nat) (a1 : Int32) (a2 : Int32) (a3 : Int32) (a4 : Int32) (a5 : Int32) (a6 : Int32) (h : HH) : Option (Int32 × HH) := if a1 ≤ 4 then (some (h (r p0 4) 1, h)) else ((fX4_append h r (r p0 4) a6).bind (fun h128 => some (h128 (r p0 4) 1, h128)))
def fX7_feed_b103 (r : RR) (p0 : Nat) (a1 : Int32) (a2 : Int32) (a3 : Int32) (a4 : Int32) (a5 : Int32) (a6 : Int32) (h : HH) : Option (Int32 × HH) := if a1 ≤ 3 then (fX7_feed_b117 r p0 a1 a2 a3 a4 a5 a6 h) else ((fX4_append h r (r p0 4) a5).bind (fun h114 => fX7_feed_b117 r p0 a1 a2 a3 a4 a5 a6 h114))
def fX7_feed_b89 (r : RR) (p0 : Nat) (a1 : Int32) (a2 : Int32) (a3 : Int32) (a4 : Int32) (a5 : Int32) (a6 : Int32) (h : HH) : Option (Int32 × HH) := if a1 ≤ 2 then (fX7_feed_b103 r p0 a1 a2 a3 a4 a5 a6 h) else ((fX4_append h r (r p0 4) a4).bind (fun h100 => fX7_feed_b103 r p0 a1 a2 a3 a4 a5 a6 h100))
def fX7_feed (h : HH) (r : RR) (p0 : Nat) (a1 : Int32) (a2 : Int32) (a3 : Int32) (a4 : Int32) (a5 : Int32) (a6 : Int32) : Option (Int32 × HH) := if a1 < 1 then (some ((-2), h)) else (if 5 < a1 then (some ((-2), h)) else ((fX7_isByte h r a2).bind (fun v11 => if v11 = 0 then (some ((-2), h)) else ((fX7_isByte h r a3).bind (fun v18 => if v18 = 0 then (some ((-2), h)) else ((fX7_isByte h r a4).bind (fun v26 => if v26 = 0 then (some ((-2), h)) else ((fX7_isByte h r a5).bind (fun v34 => if v34 = 0 then (some ((-2), h)) else ((fX7_isByte h r a6).bind (fun v42 => if ¬ v42 = 0 then (if ((h (r p0 4) 1) + a1) ≤ 40 then ((fX4_append h r (r p0 4) a2).bind (fun h73 => if a1 ≤ 1 then (fX7_feed_b89 r p0 a1 a2 a3 a4 a5 a6 h73) else ((fX4_append h73 r (r p0 4) a3).bind (fun h86 => fX7_feed_b89 r p0 a1 a2 a3 a4 a5 a6 h86)))) else (some ((-4), h))) else (some ((-2), h)))))))))))))
set_option maxRecDepth 100000 in
set_option maxHeartbeats 4000000 in
theorem kX7_feed_b117 {X : XT} {b N sz : Nat} {ok : Nat → Prop} {r : RR} {w : Int32 × HH} (hX : XOK X RX7 cX7_feed 7 2) (hM : N ≤ MA) (hW : WT KA lnA ok N r) (p0 : Nat) (a1 : Int32) (a2 : Int32) (a3 : Int32) (a4 : Int32) (a5 : Int32) (a6 : Int32) (t0 : KA p0 = 7 ∧ ok p0) (hR : XR X b KA lnA MA (some FieldType.int) 0 0 N sz (some (.int w.1)) w.2 r) (h : HH) (hF : fX7_feed_b117 r p0 a1 a2 a3 a4 a5 a6 h = some w) : GX X b KA lnA MA 7 0 0 N sz 117 [(0, .ref (b + p0)), (1, .int a1), (2, .int a2), (3, .int a3), (4, .int a4), (5, .int a5), (6, .int a6)] [] h r := by
  rw [fX7_feed_b117] at hF
  refine g_iload_n hX dX7_feed_117 (i := 1) rfl (j := 1) rfl ?_
  refine g_iconst (v := 4) hX dX7_feed_118 (by decide) ?_
  refine g_icmp_le (tgt := 131) hX dX7_feed_119 (by decide) (fun c119 => ?_) (fun c119 => ?_)
  · have hF := ite_t hF c119
    refine g_aload_n hX dX7_feed_131 (i := 0) rfl (j := 0) rfl ?_
    have tf132 := (tyF (k := 4) hW t0 (by decide) rfl (by decide) : KA (r p0 4) = 4 ∧ ok (r p0 4))
    refine gf_X7_29 hX dX7_feed_132 (ty1 hW t0) (hW.1 _ tf132.2).1 ?_
    refine gf_X7_145 hX dX7_feed_135 (ty1 hW tf132) ?_
    obtain rfl := Option.some.inj hF
    exact g_iret hX dX7_feed_138 hR
  · have hF := ite_f hF c119
    refine g_aload_n hX dX7_feed_122 (i := 0) rfl (j := 0) rfl ?_
    have tf123 := (tyF (k := 4) hW t0 (by decide) rfl (by decide) : KA (r p0 4) = 4 ∧ ok (r p0 4))
    refine gf_X7_29 hX dX7_feed_123 (ty1 hW t0) (hW.1 _ tf123.2).1 ?_
    refine g_iload hX dX7_feed_126 (j := 6) rfl ?_
    obtain ⟨h128, e128, hF⟩ := bi_some hF
    refine g_callV (As := [.int a6]) (rest := []) (stk := []) hX dX7_feed_128 (ctX4_append hM hW (r p0 4) a6 tf123 e128) (by decide) (by decide) wm_X7_148 wi_X4_append ws_X4_append wz_X4 wc_X4_append hyX4_append rfl (ci := 4) rfl (by decide) tf123.1 (hW.1 _ tf123.2).1 (hW.1 _ tf123.2).2 (Nat.le_of_ble_eq_true rfl) rfl rfl ?_ rfl rfl
    refine g_aload_n hX dX7_feed_131 (i := 0) rfl (j := 0) rfl ?_
    have tf132 := (tyF (k := 4) hW t0 (by decide) rfl (by decide) : KA (r p0 4) = 4 ∧ ok (r p0 4))
    refine gf_X7_29 hX dX7_feed_132 (ty1 hW t0) (hW.1 _ tf132.2).1 ?_
    refine gf_X7_145 hX dX7_feed_135 (ty1 hW tf132) ?_
    obtain rfl := Option.some.inj hF
    exact g_iret hX dX7_feed_138 hR
set_option maxRecDepth 100000 in
set_option maxHeartbeats 4000000 in
theorem kX7_feed_b103 {X : XT} {b N sz : Nat} {ok : Nat → Prop} {r : RR} {w : Int32 × HH} (hX : XOK X RX7 cX7_feed 7 2) (hM : N ≤ MA) (hW : WT KA lnA ok N r) (p0 : Nat) (a1 : Int32) (a2 : Int32) (a3 : Int32) (a4 : Int32) (a5 : Int32) (a6 : Int32) (t0 : KA p0 = 7 ∧ ok p0) (hR : XR X b KA lnA MA (some FieldType.int) 0 0 N sz (some (.int w.1)) w.2 r) (h : HH) (hF : fX7_feed_b103 r p0 a1 a2 a3 a4 a5 a6 h = some w) : GX X b KA lnA MA 7 0 0 N sz 103 [(0, .ref (b + p0)), (1, .int a1), (2, .int a2), (3, .int a3), (4, .int a4), (5, .int a5), (6, .int a6)] [] h r := by
  rw [fX7_feed_b103] at hF
  refine g_iload_n hX dX7_feed_103 (i := 1) rfl (j := 1) rfl ?_
  refine g_iconst (v := 3) hX dX7_feed_104 (by decide) ?_
  refine g_icmp_le (tgt := 117) hX dX7_feed_105 (by decide) (fun c105 => ?_) (fun c105 => ?_)
  · have hF := ite_t hF c105
    refine g_sub (L' := [(0, .ref (b + p0)), (1, .int a1), (2, .int a2), (3, .int a3), (4, .int a4), (5, .int a5), (6, .int a6)]) [0, 1, 2, 3, 4, 5, 6] rfl ?_
    exact kX7_feed_b117 hX hM hW p0 a1 a2 a3 a4 a5 a6 t0 hR h hF
  · have hF := ite_f hF c105
    refine g_aload_n hX dX7_feed_108 (i := 0) rfl (j := 0) rfl ?_
    have tf109 := (tyF (k := 4) hW t0 (by decide) rfl (by decide) : KA (r p0 4) = 4 ∧ ok (r p0 4))
    refine gf_X7_29 hX dX7_feed_109 (ty1 hW t0) (hW.1 _ tf109.2).1 ?_
    refine g_iload hX dX7_feed_112 (j := 5) rfl ?_
    obtain ⟨h114, e114, hF⟩ := bi_some hF
    refine g_callV (As := [.int a5]) (rest := []) (stk := []) hX dX7_feed_114 (ctX4_append hM hW (r p0 4) a5 tf109 e114) (by decide) (by decide) wm_X7_148 wi_X4_append ws_X4_append wz_X4 wc_X4_append hyX4_append rfl (ci := 4) rfl (by decide) tf109.1 (hW.1 _ tf109.2).1 (hW.1 _ tf109.2).2 (Nat.le_of_ble_eq_true rfl) rfl rfl ?_ rfl rfl
    refine g_sub (L' := [(0, .ref (b + p0)), (1, .int a1), (2, .int a2), (3, .int a3), (4, .int a4), (5, .int a5), (6, .int a6)]) [0, 1, 2, 3, 4, 5, 6] rfl ?_
    exact kX7_feed_b117 hX hM hW p0 a1 a2 a3 a4 a5 a6 t0 hR h114 hF
set_option maxRecDepth 100000 in
set_option maxHeartbeats 4000000 in
theorem kX7_feed_b89 {X : XT} {b N sz : Nat} {ok : Nat → Prop} {r : RR} {w : Int32 × HH} (hX : XOK X RX7 cX7_feed 7 2) (hM : N ≤ MA) (hW : WT KA lnA ok N r) (p0 : Nat) (a1 : Int32) (a2 : Int32) (a3 : Int32) (a4 : Int32) (a5 : Int32) (a6 : Int32) (t0 : KA p0 = 7 ∧ ok p0) (hR : XR X b KA lnA MA (some FieldType.int) 0 0 N sz (some (.int w.1)) w.2 r) (h : HH) (hF : fX7_feed_b89 r p0 a1 a2 a3 a4 a5 a6 h = some w) : GX X b KA lnA MA 7 0 0 N sz 89 [(0, .ref (b + p0)), (1, .int a1), (2, .int a2), (3, .int a3), (4, .int a4), (5, .int a5), (6, .int a6)] [] h r := by
  rw [fX7_feed_b89] at hF
  refine g_iload_n hX dX7_feed_89 (i := 1) rfl (j := 1) rfl ?_
  refine g_iconst (v := 2) hX dX7_feed_90 (by decide) ?_
  refine g_icmp_le (tgt := 103) hX dX7_feed_91 (by decide) (fun c91 => ?_) (fun c91 => ?_)
  · have hF := ite_t hF c91
    refine g_sub (L' := [(0, .ref (b + p0)), (1, .int a1), (2, .int a2), (3, .int a3), (4, .int a4), (5, .int a5), (6, .int a6)]) [0, 1, 2, 3, 4, 5, 6] rfl ?_
    exact kX7_feed_b103 hX hM hW p0 a1 a2 a3 a4 a5 a6 t0 hR h hF
  · have hF := ite_f hF c91
    refine g_aload_n hX dX7_feed_94 (i := 0) rfl (j := 0) rfl ?_
    have tf95 := (tyF (k := 4) hW t0 (by decide) rfl (by decide) : KA (r p0 4) = 4 ∧ ok (r p0 4))
    refine gf_X7_29 hX dX7_feed_95 (ty1 hW t0) (hW.1 _ tf95.2).1 ?_
    refine g_iload hX dX7_feed_98 (j := 4) rfl ?_
    obtain ⟨h100, e100, hF⟩ := bi_some hF
    refine g_callV (As := [.int a4]) (rest := []) (stk := []) hX dX7_feed_100 (ctX4_append hM hW (r p0 4) a4 tf95 e100) (by decide) (by decide) wm_X7_148 wi_X4_append ws_X4_append wz_X4 wc_X4_append hyX4_append rfl (ci := 4) rfl (by decide) tf95.1 (hW.1 _ tf95.2).1 (hW.1 _ tf95.2).2 (Nat.le_of_ble_eq_true rfl) rfl rfl ?_ rfl rfl
    refine g_sub (L' := [(0, .ref (b + p0)), (1, .int a1), (2, .int a2), (3, .int a3), (4, .int a4), (5, .int a5), (6, .int a6)]) [0, 1, 2, 3, 4, 5, 6] rfl ?_
    exact kX7_feed_b103 hX hM hW p0 a1 a2 a3 a4 a5 a6 t0 hR h100 hF
set_option maxRecDepth 100000 in
set_option maxHeartbeats 4000000 in
theorem kX7_feed {X : XT} {b N sz : Nat} {ok : Nat → Prop} {h : HH} {r : RR} {w : Int32 × HH} (hX : XOK X RX7 cX7_feed 7 2) (hM : N ≤ MA) (hW : WT KA lnA ok N r) (p0 : Nat) (a1 : Int32) (a2 : Int32) (a3 : Int32) (a4 : Int32) (a5 : Int32) (a6 : Int32) (t0 : KA p0 = 7 ∧ ok p0) (hR : XR X b KA lnA MA (some FieldType.int) 0 0 N sz (some (.int w.1)) w.2 r) (hF : fX7_feed h r p0 a1 a2 a3 a4 a5 a6 = some w) : GX X b KA lnA MA 7 0 0 N sz 0 [(0, .ref (b + p0)), (1, .int a1), (2, .int a2), (3, .int a3), (4, .int a4), (5, .int a5), (6, .int a6)] [] h r := by
  rw [fX7_feed] at hF
  refine g_iload_n hX dX7_feed_0 (i := 1) rfl (j := 1) rfl ?_
  refine g_iconst (v := 1) hX dX7_feed_1 (by decide) ?_
  refine g_icmp_lt (tgt := 48) hX dX7_feed_2 (by decide) (fun c2 => ?_) (fun c2 => ?_)
  · have hF := ite_t hF c2
    refine g_bipush (v := (-2)) hX dX7_feed_48 (by decide) ?_
    obtain rfl := Option.some.inj hF
    exact g_iret hX dX7_feed_50 hR
  · have hF := ite_f hF c2
    refine g_iload_n hX dX7_feed_5 (i := 1) rfl (j := 1) rfl ?_
    refine g_iconst (v := 5) hX dX7_feed_6 (by decide) ?_
    refine g_icmp_gt (tgt := 48) hX dX7_feed_7 (by decide) (fun c7 => ?_) (fun c7 => ?_)
    · have hF := ite_t hF c7
      refine g_bipush (v := (-2)) hX dX7_feed_48 (by decide) ?_
      obtain rfl := Option.some.inj hF
      exact g_iret hX dX7_feed_50 hR
    · have hF := ite_f hF c7
      refine g_iload_n hX dX7_feed_10 (i := 2) rfl (j := 2) rfl ?_
      obtain ⟨v11, e11, hF⟩ := bi_some hF
      refine g_callS (As := [.int a2]) (rest := []) (stk := [.int v11]) hX dX7_feed_11 (ctX7_isByte hM hW a2 e11) (by decide) (by decide) wm_X7_142 wt_X7_isByte wz_X7 wc_X7_isByte hyX7_isByte rfl (Nat.le_of_ble_eq_true rfl) rfl rfl ?_ rfl rfl
      refine g_if_eq (tgt := 48) hX dX7_feed_14 (by decide) (fun c14 => ?_) (fun c14 => ?_)
      · have hF := ite_t hF c14
        refine g_bipush (v := (-2)) hX dX7_feed_48 (by decide) ?_
        obtain rfl := Option.some.inj hF
        exact g_iret hX dX7_feed_50 hR
      · have hF := ite_f hF c14
        refine g_iload_n hX dX7_feed_17 (i := 3) rfl (j := 3) rfl ?_
        obtain ⟨v18, e18, hF⟩ := bi_some hF
        refine g_callS (As := [.int a3]) (rest := []) (stk := [.int v18]) hX dX7_feed_18 (ctX7_isByte hM hW a3 e18) (by decide) (by decide) wm_X7_142 wt_X7_isByte wz_X7 wc_X7_isByte hyX7_isByte rfl (Nat.le_of_ble_eq_true rfl) rfl rfl ?_ rfl rfl
        refine g_if_eq (tgt := 48) hX dX7_feed_21 (by decide) (fun c21 => ?_) (fun c21 => ?_)
        · have hF := ite_t hF c21
          refine g_bipush (v := (-2)) hX dX7_feed_48 (by decide) ?_
          obtain rfl := Option.some.inj hF
          exact g_iret hX dX7_feed_50 hR
        · have hF := ite_f hF c21
          refine g_iload hX dX7_feed_24 (j := 4) rfl ?_
          obtain ⟨v26, e26, hF⟩ := bi_some hF
          refine g_callS (As := [.int a4]) (rest := []) (stk := [.int v26]) hX dX7_feed_26 (ctX7_isByte hM hW a4 e26) (by decide) (by decide) wm_X7_142 wt_X7_isByte wz_X7 wc_X7_isByte hyX7_isByte rfl (Nat.le_of_ble_eq_true rfl) rfl rfl ?_ rfl rfl
          refine g_if_eq (tgt := 48) hX dX7_feed_29 (by decide) (fun c29 => ?_) (fun c29 => ?_)
          · have hF := ite_t hF c29
            refine g_bipush (v := (-2)) hX dX7_feed_48 (by decide) ?_
            obtain rfl := Option.some.inj hF
            exact g_iret hX dX7_feed_50 hR
          · have hF := ite_f hF c29
            refine g_iload hX dX7_feed_32 (j := 5) rfl ?_
            obtain ⟨v34, e34, hF⟩ := bi_some hF
            refine g_callS (As := [.int a5]) (rest := []) (stk := [.int v34]) hX dX7_feed_34 (ctX7_isByte hM hW a5 e34) (by decide) (by decide) wm_X7_142 wt_X7_isByte wz_X7 wc_X7_isByte hyX7_isByte rfl (Nat.le_of_ble_eq_true rfl) rfl rfl ?_ rfl rfl
            refine g_if_eq (tgt := 48) hX dX7_feed_37 (by decide) (fun c37 => ?_) (fun c37 => ?_)
            · have hF := ite_t hF c37
              refine g_bipush (v := (-2)) hX dX7_feed_48 (by decide) ?_
              obtain rfl := Option.some.inj hF
              exact g_iret hX dX7_feed_50 hR
            · have hF := ite_f hF c37
              refine g_iload hX dX7_feed_40 (j := 6) rfl ?_
              obtain ⟨v42, e42, hF⟩ := bi_some hF
              refine g_callS (As := [.int a6]) (rest := []) (stk := [.int v42]) hX dX7_feed_42 (ctX7_isByte hM hW a6 e42) (by decide) (by decide) wm_X7_142 wt_X7_isByte wz_X7 wc_X7_isByte hyX7_isByte rfl (Nat.le_of_ble_eq_true rfl) rfl rfl ?_ rfl rfl
              refine g_if_ne (tgt := 51) hX dX7_feed_45 (by decide) (fun c45 => ?_) (fun c45 => ?_)
              · have hF := ite_t hF c45
                refine g_aload_n hX dX7_feed_51 (i := 0) rfl (j := 0) rfl ?_
                have tf52 := (tyF (k := 4) hW t0 (by decide) rfl (by decide) : KA (r p0 4) = 4 ∧ ok (r p0 4))
                refine gf_X7_29 hX dX7_feed_52 (ty1 hW t0) (hW.1 _ tf52.2).1 ?_
                refine gf_X7_145 hX dX7_feed_55 (ty1 hW tf52) ?_
                refine g_iload_n hX dX7_feed_58 (i := 1) rfl (j := 1) rfl ?_
                refine g_iadd hX dX7_feed_59 ?_
                refine g_bipush (v := 40) hX dX7_feed_60 (by decide) ?_
                refine g_icmp_le (tgt := 68) hX dX7_feed_62 (by decide) (fun c62 => ?_) (fun c62 => ?_)
                · have hF := ite_t hF c62
                  refine g_aload_n hX dX7_feed_68 (i := 0) rfl (j := 0) rfl ?_
                  have tf69 := (tyF (k := 4) hW t0 (by decide) rfl (by decide) : KA (r p0 4) = 4 ∧ ok (r p0 4))
                  refine gf_X7_29 hX dX7_feed_69 (ty1 hW t0) (hW.1 _ tf69.2).1 ?_
                  refine g_iload_n hX dX7_feed_72 (i := 2) rfl (j := 2) rfl ?_
                  obtain ⟨h73, e73, hF⟩ := bi_some hF
                  refine g_callV (As := [.int a2]) (rest := []) (stk := []) hX dX7_feed_73 (ctX4_append hM hW (r p0 4) a2 tf69 e73) (by decide) (by decide) wm_X7_148 wi_X4_append ws_X4_append wz_X4 wc_X4_append hyX4_append rfl (ci := 4) rfl (by decide) tf69.1 (hW.1 _ tf69.2).1 (hW.1 _ tf69.2).2 (Nat.le_of_ble_eq_true rfl) rfl rfl ?_ rfl rfl
                  refine g_iload_n hX dX7_feed_76 (i := 1) rfl (j := 1) rfl ?_
                  refine g_iconst (v := 1) hX dX7_feed_77 (by decide) ?_
                  refine g_icmp_le (tgt := 89) hX dX7_feed_78 (by decide) (fun c78 => ?_) (fun c78 => ?_)
                  · have hF := ite_t hF c78
                    refine g_sub (L' := [(0, .ref (b + p0)), (1, .int a1), (2, .int a2), (3, .int a3), (4, .int a4), (5, .int a5), (6, .int a6)]) [0, 1, 2, 3, 4, 5, 6] rfl ?_
                    exact kX7_feed_b89 hX hM hW p0 a1 a2 a3 a4 a5 a6 t0 hR h73 hF
                  · have hF := ite_f hF c78
                    refine g_aload_n hX dX7_feed_81 (i := 0) rfl (j := 0) rfl ?_
                    have tf82 := (tyF (k := 4) hW t0 (by decide) rfl (by decide) : KA (r p0 4) = 4 ∧ ok (r p0 4))
                    refine gf_X7_29 hX dX7_feed_82 (ty1 hW t0) (hW.1 _ tf82.2).1 ?_
                    refine g_iload_n hX dX7_feed_85 (i := 3) rfl (j := 3) rfl ?_
                    obtain ⟨h86, e86, hF⟩ := bi_some hF
                    refine g_callV (As := [.int a3]) (rest := []) (stk := []) hX dX7_feed_86 (ctX4_append hM hW (r p0 4) a3 tf82 e86) (by decide) (by decide) wm_X7_148 wi_X4_append ws_X4_append wz_X4 wc_X4_append hyX4_append rfl (ci := 4) rfl (by decide) tf82.1 (hW.1 _ tf82.2).1 (hW.1 _ tf82.2).2 (Nat.le_of_ble_eq_true rfl) rfl rfl ?_ rfl rfl
                    refine g_sub (L' := [(0, .ref (b + p0)), (1, .int a1), (2, .int a2), (3, .int a3), (4, .int a4), (5, .int a5), (6, .int a6)]) [0, 1, 2, 3, 4, 5, 6] rfl ?_
                    exact kX7_feed_b89 hX hM hW p0 a1 a2 a3 a4 a5 a6 t0 hR h86 hF
                · have hF := ite_f hF c62
                  refine g_bipush (v := (-4)) hX dX7_feed_65 (by decide) ?_
                  obtain rfl := Option.some.inj hF
                  exact g_iret hX dX7_feed_67 hR
              · have hF := ite_f hF (fun z => z c45)
                refine g_bipush (v := (-2)) hX dX7_feed_48 (by decide) ?_
                obtain rfl := Option.some.inj hF
                exact g_iret hX dX7_feed_50 hR
theorem ctX7_feed {b N sz : Nat} {ok : Nat → Prop} {h : HH} {r : RR} {w : Int32 × HH} (hM : N ≤ MA) (hW : WT KA lnA ok N r) (p0 : Nat) (a1 : Int32) (a2 : Int32) (a3 : Int32) (a4 : Int32) (a5 : Int32) (a6 : Int32) (t0 : KA p0 = 7 ∧ ok p0) (hF : fX7_feed h r p0 a1 a2 a3 a4 a5 a6 = some w) : CT yX7_feed cX7_feed 7 (some FieldType.int) 2 b KA lnA MA N sz [.ref (b + p0), .int a1, .int a2, .int a3, .int a4, .int a5, .int a6] h r N sz (some (.int w.1)) w.2 r 0 0 :=
  CT_of (by decide) rfl (Nat.le_of_ble_eq_true rfl) (by decide) trivial (fun X hX hR => kX7_feed hX hM hW p0 a1 a2 a3 a4 a5 a6 t0 hR hF)
/-! X7_pattern -/
def fX7_pattern (h : HH) (r : RR) (p0 : Nat) : Option (Int32 × HH) := if (h (r p0 0) 4) < 6 then (gd (inb (h (r p0 0) 4) (lnA (r (r p0 0) 3))) (bi2 (fX4_read h r (r p0 4) (r (r (r p0 0) 3) (ix (h (r p0 0) 4)))) (fun v34 h34 => lt (up h34 (r p0 4) 1 0) (fun h43 => if v34 = (-1) then (lt (up h43 (r p0 0) 4 ((h43 (r p0 0) 4) + 1)) (fun h66 => some ((h66 (r p0 0) 4) - 1, h66))) else (some ((-100) - v34, h43)))))) else (some ((-4), h))
set_option maxRecDepth 100000 in
set_option maxHeartbeats 4000000 in
theorem kX7_pattern {X : XT} {b N sz : Nat} {ok : Nat → Prop} {h : HH} {r : RR} {w : Int32 × HH} (hX : XOK X RX7 cX7_pattern 2 5) (hM : N ≤ MA) (hW : WT KA lnA ok N r) (p0 : Nat) (t0 : KA p0 = 7 ∧ ok p0) (hR : XR X b KA lnA MA (some FieldType.int) 0 0 N sz (some (.int w.1)) w.2 r) (hF : fX7_pattern h r p0 = some w) : GX X b KA lnA MA 2 0 0 N sz 0 [(0, .ref (b + p0))] [] h r := by
  rw [fX7_pattern] at hF
  refine g_aload_n hX dX7_pattern_0 (i := 0) rfl (j := 0) rfl ?_
  have tf1 := (tyF (k := 0) hW t0 (by decide) rfl (by decide) : KA (r p0 0) = 6 ∧ ok (r p0 0))
  refine gf_X7_12 hX dX7_pattern_1 (ty1 hW t0) (hW.1 _ tf1.2).1 ?_
  refine gf_X7_152 hX dX7_pattern_4 (ty1 hW tf1) ?_
  refine g_bipush (v := 6) hX dX7_pattern_7 (by decide) ?_
  refine g_icmp_lt (tgt := 15) hX dX7_pattern_9 (by decide) (fun c9 => ?_) (fun c9 => ?_)
  · have hF := ite_t hF c9
    refine g_aload_n hX dX7_pattern_15 (i := 0) rfl (j := 0) rfl ?_
    have tf16 := (tyF (k := 4) hW t0 (by decide) rfl (by decide) : KA (r p0 4) = 4 ∧ ok (r p0 4))
    refine gf_X7_29 hX dX7_pattern_16 (ty1 hW t0) (hW.1 _ tf16.2).1 ?_
    refine g_aload_n hX dX7_pattern_19 (i := 0) rfl (j := 0) rfl ?_
    have tf20 := (tyF (k := 0) hW t0 (by decide) rfl (by decide) : KA (r p0 0) = 6 ∧ ok (r p0 0))
    refine gf_X7_12 hX dX7_pattern_20 (ty1 hW t0) (hW.1 _ tf20.2).1 ?_
    have tf23 := (tyF (k := 3) hW tf20 (by decide) rfl (by decide) : KA (r (r p0 0) 3) = 11 ∧ ok (r (r p0 0) 3))
    refine gf_X7_155 hX dX7_pattern_23 (ty1 hW tf20) (hW.1 _ tf23.2).1 ?_
    refine g_aload_n hX dX7_pattern_26 (i := 0) rfl (j := 0) rfl ?_
    have tf27 := (tyF (k := 0) hW t0 (by decide) rfl (by decide) : KA (r p0 0) = 6 ∧ ok (r p0 0))
    refine gf_X7_12 hX dX7_pattern_27 (ty1 hW t0) (hW.1 _ tf27.2).1 ?_
    refine gf_X7_152 hX dX7_pattern_30 (ty1 hW tf27) ?_
    obtain ⟨g33, hF⟩ := gd_some hF
    have ta33 : KA (r (r (r p0 0) 3) (ix (h (r p0 0) 4))) = 1 ∧ ok (r (r (r p0 0) 3) (ix (h (r p0 0) 4))) := tyA hW tf23 (by decide) rfl (by decide) g33
    refine g_aald hX dX7_pattern_33 tf23.1 (by decide) (by decide) (hW.1 _ tf23.2).1 (hW.1 _ tf23.2).2 g33 (hW.1 _ ta33.2).1 ?_
    obtain ⟨v34, h34, e34, hF⟩ := bi2_some hF
    refine g_callV (As := [.ref (b + (r (r (r p0 0) 3) (ix (h (r p0 0) 4))))]) (rest := []) (stk := [.int v34]) hX dX7_pattern_34 (ctX4_read hM hW (r p0 4) (r (r (r p0 0) 3) (ix (h (r p0 0) 4))) tf16 ta33 e34) (by decide) (by decide) wm_X7_159 wi_X4_read ws_X4_read wz_X4 wc_X4_read hyX4_read rfl (ci := 4) rfl (by decide) tf16.1 (hW.1 _ tf16.2).1 (hW.1 _ tf16.2).2 (Nat.le_of_ble_eq_true rfl) rfl rfl ?_ rfl rfl
    refine g_istore_n (L' := [(1, .int v34), (0, .ref (b + p0))]) hX dX7_pattern_37 (i := 1) rfl (by decide) rfl ?_
    refine g_aload_n hX dX7_pattern_38 (i := 0) rfl (j := 1) rfl ?_
    have tf39 := (tyF (k := 4) hW t0 (by decide) rfl (by decide) : KA (r p0 4) = 4 ∧ ok (r p0 4))
    refine gf_X7_29 hX dX7_pattern_39 (ty1 hW t0) (hW.1 _ tf39.2).1 ?_
    refine g_iconst (v := 0) hX dX7_pattern_42 (by decide) ?_
    obtain ⟨h43, e43, hF⟩ := lt_some hF
    refine pf_X7_145 hX dX7_pattern_43 (ty1 hW tf39) hM e43 ?_
    refine g_iload_n hX dX7_pattern_46 (i := 1) rfl (j := 0) rfl ?_
    refine g_iconst (v := (-1)) hX dX7_pattern_47 (by decide) ?_
    refine g_icmp_eq (tgt := 56) hX dX7_pattern_48 (by decide) (fun c48 => ?_) (fun c48 => ?_)
    · have hF := ite_t hF c48
      refine g_aload_n hX dX7_pattern_56 (i := 0) rfl (j := 1) rfl ?_
      have tf57 := (tyF (k := 0) hW t0 (by decide) rfl (by decide) : KA (r p0 0) = 6 ∧ ok (r p0 0))
      refine gf_X7_12 hX dX7_pattern_57 (ty1 hW t0) (hW.1 _ tf57.2).1 ?_
      refine g_dup hX dX7_pattern_60 rfl ?_
      refine gf_X7_152 hX dX7_pattern_61 (ty1 hW tf57) ?_
      refine g_iconst (v := 1) hX dX7_pattern_64 (by decide) ?_
      refine g_iadd hX dX7_pattern_65 ?_
      obtain ⟨h66, e66, hF⟩ := lt_some hF
      refine pf_X7_152 hX dX7_pattern_66 (ty1 hW tf57) hM e66 ?_
      refine g_aload_n hX dX7_pattern_69 (i := 0) rfl (j := 1) rfl ?_
      have tf70 := (tyF (k := 0) hW t0 (by decide) rfl (by decide) : KA (r p0 0) = 6 ∧ ok (r p0 0))
      refine gf_X7_12 hX dX7_pattern_70 (ty1 hW t0) (hW.1 _ tf70.2).1 ?_
      refine gf_X7_152 hX dX7_pattern_73 (ty1 hW tf70) ?_
      refine g_iconst (v := 1) hX dX7_pattern_76 (by decide) ?_
      refine g_isub hX dX7_pattern_77 ?_
      obtain rfl := Option.some.inj hF
      exact g_iret hX dX7_pattern_78 hR
    · have hF := ite_f hF c48
      refine g_bipush (v := (-100)) hX dX7_pattern_51 (by decide) ?_
      refine g_iload_n hX dX7_pattern_53 (i := 1) rfl (j := 0) rfl ?_
      refine g_isub hX dX7_pattern_54 ?_
      obtain rfl := Option.some.inj hF
      exact g_iret hX dX7_pattern_55 hR
  · have hF := ite_f hF c9
    refine g_bipush (v := (-4)) hX dX7_pattern_12 (by decide) ?_
    obtain rfl := Option.some.inj hF
    exact g_iret hX dX7_pattern_14 hR
theorem ctX7_pattern {b N sz : Nat} {ok : Nat → Prop} {h : HH} {r : RR} {w : Int32 × HH} (hM : N ≤ MA) (hW : WT KA lnA ok N r) (p0 : Nat) (t0 : KA p0 = 7 ∧ ok p0) (hF : fX7_pattern h r p0 = some w) : CT yX7_pattern cX7_pattern 2 (some FieldType.int) 5 b KA lnA MA N sz [.ref (b + p0)] h r N sz (some (.int w.1)) w.2 r 0 0 :=
  CT_of (by decide) rfl (Nat.le_of_ble_eq_true rfl) (by decide) trivial (fun X hX hR => kX7_pattern hX hM hW p0 t0 hR hF)
/-! X7_drop -/
def fX7_drop (h : HH) (r : RR) (p0 : Nat) : Option (Int32 × HH) := if ¬ (h (r p0 0) 4) = 0 then (lt (up h (r p0 0) 4 ((h (r p0 0) 4) - 1)) (fun h23 => some (h23 (r p0 0) 4, h23))) else (some ((-3), h))
set_option maxRecDepth 100000 in
set_option maxHeartbeats 4000000 in
theorem kX7_drop {X : XT} {b N sz : Nat} {ok : Nat → Prop} {h : HH} {r : RR} {w : Int32 × HH} (hX : XOK X RX7 cX7_drop 1 1) (hM : N ≤ MA) (hW : WT KA lnA ok N r) (p0 : Nat) (t0 : KA p0 = 7 ∧ ok p0) (hR : XR X b KA lnA MA (some FieldType.int) 0 0 N sz (some (.int w.1)) w.2 r) (hF : fX7_drop h r p0 = some w) : GX X b KA lnA MA 1 0 0 N sz 0 [(0, .ref (b + p0))] [] h r := by
  rw [fX7_drop] at hF
  refine g_aload_n hX dX7_drop_0 (i := 0) rfl (j := 0) rfl ?_
  have tf1 := (tyF (k := 0) hW t0 (by decide) rfl (by decide) : KA (r p0 0) = 6 ∧ ok (r p0 0))
  refine gf_X7_12 hX dX7_drop_1 (ty1 hW t0) (hW.1 _ tf1.2).1 ?_
  refine gf_X7_152 hX dX7_drop_4 (ty1 hW tf1) ?_
  refine g_if_ne (tgt := 13) hX dX7_drop_7 (by decide) (fun c7 => ?_) (fun c7 => ?_)
  · have hF := ite_t hF c7
    refine g_aload_n hX dX7_drop_13 (i := 0) rfl (j := 0) rfl ?_
    have tf14 := (tyF (k := 0) hW t0 (by decide) rfl (by decide) : KA (r p0 0) = 6 ∧ ok (r p0 0))
    refine gf_X7_12 hX dX7_drop_14 (ty1 hW t0) (hW.1 _ tf14.2).1 ?_
    refine g_dup hX dX7_drop_17 rfl ?_
    refine gf_X7_152 hX dX7_drop_18 (ty1 hW tf14) ?_
    refine g_iconst (v := 1) hX dX7_drop_21 (by decide) ?_
    refine g_isub hX dX7_drop_22 ?_
    obtain ⟨h23, e23, hF⟩ := lt_some hF
    refine pf_X7_152 hX dX7_drop_23 (ty1 hW tf14) hM e23 ?_
    refine g_aload_n hX dX7_drop_26 (i := 0) rfl (j := 0) rfl ?_
    have tf27 := (tyF (k := 0) hW t0 (by decide) rfl (by decide) : KA (r p0 0) = 6 ∧ ok (r p0 0))
    refine gf_X7_12 hX dX7_drop_27 (ty1 hW t0) (hW.1 _ tf27.2).1 ?_
    refine gf_X7_152 hX dX7_drop_30 (ty1 hW tf27) ?_
    obtain rfl := Option.some.inj hF
    exact g_iret hX dX7_drop_33 hR
  · have hF := ite_f hF (fun z => z c7)
    refine g_bipush (v := (-3)) hX dX7_drop_10 (by decide) ?_
    obtain rfl := Option.some.inj hF
    exact g_iret hX dX7_drop_12 hR
theorem ctX7_drop {b N sz : Nat} {ok : Nat → Prop} {h : HH} {r : RR} {w : Int32 × HH} (hM : N ≤ MA) (hW : WT KA lnA ok N r) (p0 : Nat) (t0 : KA p0 = 7 ∧ ok p0) (hF : fX7_drop h r p0 = some w) : CT yX7_drop cX7_drop 1 (some FieldType.int) 1 b KA lnA MA N sz [.ref (b + p0)] h r N sz (some (.int w.1)) w.2 r 0 0 :=
  CT_of (by decide) rfl (Nat.le_of_ble_eq_true rfl) (by decide) trivial (fun X hX hR => kX7_drop hX hM hW p0 t0 hR hF)
/-! X7_matches -/
def fX7_matches_b108 (r : RR) (p0 : Nat) (a1 : Int32) (a2 : Int32) (a3 : Int32) (h : HH) (s0 : Int32) : Option (Int32 × HH) := (fX7_bit h r s0).bind (fun v108 => some (v108, h))
def fX7_matches (h : HH) (r : RR) (p0 : Nat) (a1 : Int32) (a2 : Int32) (a3 : Int32) : Option (Int32 × HH) := if a1 < 0 then (some ((-2), h)) else (if (h (r p0 0) 4) ≤ a1 then (some ((-2), h)) else ((fX7_isTree h r a2).bind (fun v16 => if v16 = 0 then (some ((-2), h)) else ((fX6_isThing h r (r p0 0) a3).bind (fun v27 => if ¬ v27 = 0 then (gd (inb a2 (lnA (r (r p0 0) 2))) ((fX5_has h r (r (r (r p0 0) 2) (ix a2)) a3).bind (fun v46 => if ¬ v46 = 0 then (gd (inb a2 (lnA (r (r p0 0) 2))) (bi2 (fX5_pathOf h r (r (r (r p0 0) 2) (ix a2)) a3 (r (r p0 0) 9)) (fun v72 h72 => gd (inb a1 (lnA (r (r p0 0) 3))) ((fX1_longestFit h72 r (r (r (r p0 0) 3) (ix a1)) (r (r p0 0) 9) v72).bind (fun v95 => if ¬ v95 = v72 then (fX7_matches_b108 r p0 a1 a2 a3 h72 0) else (fX7_matches_b108 r p0 a1 a2 a3 h72 1)))))) else (some ((-3), h))))) else (some ((-2), h)))))))
set_option maxRecDepth 100000 in
set_option maxHeartbeats 4000000 in
theorem kX7_matches_b108 {X : XT} {b N sz : Nat} {ok : Nat → Prop} {r : RR} {w : Int32 × HH} (hX : XOK X RX7 cX7_matches 5 3) (hM : N ≤ MA) (hW : WT KA lnA ok N r) (p0 : Nat) (a1 : Int32) (a2 : Int32) (a3 : Int32) (t0 : KA p0 = 7 ∧ ok p0) (hR : XR X b KA lnA MA (some FieldType.int) 0 0 N sz (some (.int w.1)) w.2 r) (h : HH) (s0 : Int32) (hF : fX7_matches_b108 r p0 a1 a2 a3 h s0 = some w) : GX X b KA lnA MA 5 0 0 N sz 108 [(0, .ref (b + p0)), (1, .int a1), (2, .int a2), (3, .int a3)] [.int s0] h r := by
  rw [fX7_matches_b108] at hF
  obtain ⟨v108, e108, hF⟩ := bi_some hF
  refine g_callS (As := [.int s0]) (rest := []) (stk := [.int v108]) hX dX7_matches_108 (ctX7_bit hM hW s0 e108) (by decide) (by decide) wm_X7_87 wt_X7_bit wz_X7 wc_X7_bit hyX7_bit rfl (Nat.le_of_ble_eq_true rfl) rfl rfl ?_ rfl rfl
  obtain rfl := Option.some.inj hF
  exact g_iret hX dX7_matches_111 hR
set_option maxRecDepth 100000 in
set_option maxHeartbeats 4000000 in
theorem kX7_matches {X : XT} {b N sz : Nat} {ok : Nat → Prop} {h : HH} {r : RR} {w : Int32 × HH} (hX : XOK X RX7 cX7_matches 5 3) (hM : N ≤ MA) (hW : WT KA lnA ok N r) (p0 : Nat) (a1 : Int32) (a2 : Int32) (a3 : Int32) (t0 : KA p0 = 7 ∧ ok p0) (hR : XR X b KA lnA MA (some FieldType.int) 0 0 N sz (some (.int w.1)) w.2 r) (hF : fX7_matches h r p0 a1 a2 a3 = some w) : GX X b KA lnA MA 5 0 0 N sz 0 [(0, .ref (b + p0)), (1, .int a1), (2, .int a2), (3, .int a3)] [] h r := by
  rw [fX7_matches] at hF
  refine g_iload_n hX dX7_matches_0 (i := 1) rfl (j := 1) rfl ?_
  refine g_if_lt (tgt := 33) hX dX7_matches_1 (by decide) (fun c1 => ?_) (fun c1 => ?_)
  · have hF := ite_t hF c1
    refine g_bipush (v := (-2)) hX dX7_matches_33 (by decide) ?_
    obtain rfl := Option.some.inj hF
    exact g_iret hX dX7_matches_35 hR
  · have hF := ite_f hF c1
    refine g_iload_n hX dX7_matches_4 (i := 1) rfl (j := 1) rfl ?_
    refine g_aload_n hX dX7_matches_5 (i := 0) rfl (j := 0) rfl ?_
    have tf6 := (tyF (k := 0) hW t0 (by decide) rfl (by decide) : KA (r p0 0) = 6 ∧ ok (r p0 0))
    refine gf_X7_12 hX dX7_matches_6 (ty1 hW t0) (hW.1 _ tf6.2).1 ?_
    refine gf_X7_152 hX dX7_matches_9 (ty1 hW tf6) ?_
    refine g_icmp_ge (tgt := 33) hX dX7_matches_12 (by decide) (fun c12 => ?_) (fun c12 => ?_)
    · have hF := ite_t hF c12
      refine g_bipush (v := (-2)) hX dX7_matches_33 (by decide) ?_
      obtain rfl := Option.some.inj hF
      exact g_iret hX dX7_matches_35 hR
    · have hF := ite_f hF c12
      refine g_iload_n hX dX7_matches_15 (i := 2) rfl (j := 2) rfl ?_
      obtain ⟨v16, e16, hF⟩ := bi_some hF
      refine g_callS (As := [.int a2]) (rest := []) (stk := [.int v16]) hX dX7_matches_16 (ctX7_isTree hM hW a2 e16) (by decide) (by decide) wm_X7_71 wt_X7_isTree wz_X7 wc_X7_isTree hyX7_isTree rfl (Nat.le_of_ble_eq_true rfl) rfl rfl ?_ rfl rfl
      refine g_if_eq (tgt := 33) hX dX7_matches_19 (by decide) (fun c19 => ?_) (fun c19 => ?_)
      · have hF := ite_t hF c19
        refine g_bipush (v := (-2)) hX dX7_matches_33 (by decide) ?_
        obtain rfl := Option.some.inj hF
        exact g_iret hX dX7_matches_35 hR
      · have hF := ite_f hF c19
        refine g_aload_n hX dX7_matches_22 (i := 0) rfl (j := 0) rfl ?_
        have tf23 := (tyF (k := 0) hW t0 (by decide) rfl (by decide) : KA (r p0 0) = 6 ∧ ok (r p0 0))
        refine gf_X7_12 hX dX7_matches_23 (ty1 hW t0) (hW.1 _ tf23.2).1 ?_
        refine g_iload_n hX dX7_matches_26 (i := 3) rfl (j := 3) rfl ?_
        obtain ⟨v27, e27, hF⟩ := bi_some hF
        refine g_callV (As := [.int a3]) (rest := []) (stk := [.int v27]) hX dX7_matches_27 (ctX6_isThing hM hW (r p0 0) a3 tf23 e27) (by decide) (by decide) wm_X7_75 wi_X6_isThing ws_X6_isThing wz_X6 wc_X6_isThing hyX6_isThing rfl (ci := 6) rfl (by decide) tf23.1 (hW.1 _ tf23.2).1 (hW.1 _ tf23.2).2 (Nat.le_of_ble_eq_true rfl) rfl rfl ?_ rfl rfl
        refine g_if_ne (tgt := 36) hX dX7_matches_30 (by decide) (fun c30 => ?_) (fun c30 => ?_)
        · have hF := ite_t hF c30
          refine g_aload_n hX dX7_matches_36 (i := 0) rfl (j := 0) rfl ?_
          have tf37 := (tyF (k := 0) hW t0 (by decide) rfl (by decide) : KA (r p0 0) = 6 ∧ ok (r p0 0))
          refine gf_X7_12 hX dX7_matches_37 (ty1 hW t0) (hW.1 _ tf37.2).1 ?_
          have tf40 := (tyF (k := 2) hW tf37 (by decide) rfl (by decide) : KA (r (r p0 0) 2) = 13 ∧ ok (r (r p0 0) 2))
          refine gf_X7_78 hX dX7_matches_40 (ty1 hW tf37) (hW.1 _ tf40.2).1 ?_
          refine g_iload_n hX dX7_matches_43 (i := 2) rfl (j := 2) rfl ?_
          obtain ⟨g44, hF⟩ := gd_some hF
          have ta44 : KA (r (r (r p0 0) 2) (ix a2)) = 5 ∧ ok (r (r (r p0 0) 2) (ix a2)) := tyA hW tf40 (by decide) rfl (by decide) g44
          refine g_aald hX dX7_matches_44 tf40.1 (by decide) (by decide) (hW.1 _ tf40.2).1 (hW.1 _ tf40.2).2 g44 (hW.1 _ ta44.2).1 ?_
          refine g_iload_n hX dX7_matches_45 (i := 3) rfl (j := 3) rfl ?_
          obtain ⟨v46, e46, hF⟩ := bi_some hF
          refine g_callV (As := [.int a3]) (rest := []) (stk := [.int v46]) hX dX7_matches_46 (ctX5_has hM hW (r (r (r p0 0) 2) (ix a2)) a3 ta44 e46) (by decide) (by decide) wm_X7_82 wi_X5_has ws_X5_has wz_X5 wc_X5_has hyX5_has rfl (ci := 5) rfl (by decide) ta44.1 (hW.1 _ ta44.2).1 (hW.1 _ ta44.2).2 (Nat.le_of_ble_eq_true rfl) rfl rfl ?_ rfl rfl
          refine g_if_ne (tgt := 55) hX dX7_matches_49 (by decide) (fun c49 => ?_) (fun c49 => ?_)
          · have hF := ite_t hF c49
            refine g_aload_n hX dX7_matches_55 (i := 0) rfl (j := 0) rfl ?_
            have tf56 := (tyF (k := 0) hW t0 (by decide) rfl (by decide) : KA (r p0 0) = 6 ∧ ok (r p0 0))
            refine gf_X7_12 hX dX7_matches_56 (ty1 hW t0) (hW.1 _ tf56.2).1 ?_
            have tf59 := (tyF (k := 2) hW tf56 (by decide) rfl (by decide) : KA (r (r p0 0) 2) = 13 ∧ ok (r (r p0 0) 2))
            refine gf_X7_78 hX dX7_matches_59 (ty1 hW tf56) (hW.1 _ tf59.2).1 ?_
            refine g_iload_n hX dX7_matches_62 (i := 2) rfl (j := 2) rfl ?_
            obtain ⟨g63, hF⟩ := gd_some hF
            have ta63 : KA (r (r (r p0 0) 2) (ix a2)) = 5 ∧ ok (r (r (r p0 0) 2) (ix a2)) := tyA hW tf59 (by decide) rfl (by decide) g63
            refine g_aald hX dX7_matches_63 tf59.1 (by decide) (by decide) (hW.1 _ tf59.2).1 (hW.1 _ tf59.2).2 g63 (hW.1 _ ta63.2).1 ?_
            refine g_iload_n hX dX7_matches_64 (i := 3) rfl (j := 3) rfl ?_
            refine g_aload_n hX dX7_matches_65 (i := 0) rfl (j := 0) rfl ?_
            have tf66 := (tyF (k := 0) hW t0 (by decide) rfl (by decide) : KA (r p0 0) = 6 ∧ ok (r p0 0))
            refine gf_X7_12 hX dX7_matches_66 (ty1 hW t0) (hW.1 _ tf66.2).1 ?_
            have tf69 := (tyF (k := 9) hW tf66 (by decide) rfl (by decide) : KA (r (r p0 0) 9) = 9 ∧ ok (r (r p0 0) 9))
            refine gf_X7_163 hX dX7_matches_69 (ty1 hW tf66) (hW.1 _ tf69.2).1 ?_
            obtain ⟨v72, h72, e72, hF⟩ := bi2_some hF
            refine g_callV (As := [.int a3, .ref (b + (r (r p0 0) 9))]) (rest := []) (stk := [.int v72]) hX dX7_matches_72 (ctX5_pathOf hM hW (r (r (r p0 0) 2) (ix a2)) a3 (r (r p0 0) 9) ta63 tf69 e72) (by decide) (by decide) wm_X7_166 wi_X5_pathOf ws_X5_pathOf wz_X5 wc_X5_pathOf hyX5_pathOf rfl (ci := 5) rfl (by decide) ta63.1 (hW.1 _ ta63.2).1 (hW.1 _ ta63.2).2 (Nat.le_of_ble_eq_true rfl) rfl rfl ?_ rfl rfl
            refine g_istore (L' := [(4, .int v72), (0, .ref (b + p0)), (1, .int a1), (2, .int a2), (3, .int a3)]) hX dX7_matches_75 (by decide) rfl ?_
            refine g_aload_n hX dX7_matches_77 (i := 0) rfl (j := 1) rfl ?_
            have tf78 := (tyF (k := 0) hW t0 (by decide) rfl (by decide) : KA (r p0 0) = 6 ∧ ok (r p0 0))
            refine gf_X7_12 hX dX7_matches_78 (ty1 hW t0) (hW.1 _ tf78.2).1 ?_
            have tf81 := (tyF (k := 3) hW tf78 (by decide) rfl (by decide) : KA (r (r p0 0) 3) = 11 ∧ ok (r (r p0 0) 3))
            refine gf_X7_155 hX dX7_matches_81 (ty1 hW tf78) (hW.1 _ tf81.2).1 ?_
            refine g_iload_n hX dX7_matches_84 (i := 1) rfl (j := 2) rfl ?_
            obtain ⟨g85, hF⟩ := gd_some hF
            have ta85 : KA (r (r (r p0 0) 3) (ix a1)) = 1 ∧ ok (r (r (r p0 0) 3) (ix a1)) := tyA hW tf81 (by decide) rfl (by decide) g85
            refine g_aald hX dX7_matches_85 tf81.1 (by decide) (by decide) (hW.1 _ tf81.2).1 (hW.1 _ tf81.2).2 g85 (hW.1 _ ta85.2).1 ?_
            refine g_aload_n hX dX7_matches_86 (i := 0) rfl (j := 1) rfl ?_
            have tf87 := (tyF (k := 0) hW t0 (by decide) rfl (by decide) : KA (r p0 0) = 6 ∧ ok (r p0 0))
            refine gf_X7_12 hX dX7_matches_87 (ty1 hW t0) (hW.1 _ tf87.2).1 ?_
            have tf90 := (tyF (k := 9) hW tf87 (by decide) rfl (by decide) : KA (r (r p0 0) 9) = 9 ∧ ok (r (r p0 0) 9))
            refine gf_X7_163 hX dX7_matches_90 (ty1 hW tf87) (hW.1 _ tf90.2).1 ?_
            refine g_iload hX dX7_matches_93 (j := 0) rfl ?_
            obtain ⟨v95, e95, hF⟩ := bi_some hF
            refine g_callV (As := [.ref (b + (r (r p0 0) 9)), .int v72]) (rest := []) (stk := [.int v95]) hX dX7_matches_95 (ctX1_longestFit hM hW (r (r (r p0 0) 3) (ix a1)) (r (r p0 0) 9) v72 ta85 tf90 e95) (by decide) (by decide) wm_X7_170 wi_X1_longestFit ws_X1_longestFit wz_X1 wc_X1_longestFit hyX1_longestFit rfl (ci := 1) rfl (by decide) ta85.1 (hW.1 _ ta85.2).1 (hW.1 _ ta85.2).2 (Nat.le_of_ble_eq_true rfl) rfl rfl ?_ rfl rfl
            refine g_iload hX dX7_matches_98 (j := 0) rfl ?_
            refine g_icmp_ne (tgt := 107) hX dX7_matches_100 (by decide) (fun c100 => ?_) (fun c100 => ?_)
            · have hF := ite_t hF c100
              refine g_iconst (v := 0) hX dX7_matches_107 (by decide) ?_
              refine g_sub (L' := [(0, .ref (b + p0)), (1, .int a1), (2, .int a2), (3, .int a3)]) [1, 2, 3, 4] rfl ?_
              exact kX7_matches_b108 hX hM hW p0 a1 a2 a3 t0 hR h72 0 hF
            · have hF := ite_f hF (fun z => z c100)
              refine g_iconst (v := 1) hX dX7_matches_103 (by decide) ?_
              refine g_goto (tgt := 108) hX dX7_matches_104 (by decide) ?_
              refine g_sub (L' := [(0, .ref (b + p0)), (1, .int a1), (2, .int a2), (3, .int a3)]) [1, 2, 3, 4] rfl ?_
              exact kX7_matches_b108 hX hM hW p0 a1 a2 a3 t0 hR h72 1 hF
          · have hF := ite_f hF (fun z => z c49)
            refine g_bipush (v := (-3)) hX dX7_matches_52 (by decide) ?_
            obtain rfl := Option.some.inj hF
            exact g_iret hX dX7_matches_54 hR
        · have hF := ite_f hF (fun z => z c30)
          refine g_bipush (v := (-2)) hX dX7_matches_33 (by decide) ?_
          obtain rfl := Option.some.inj hF
          exact g_iret hX dX7_matches_35 hR
theorem ctX7_matches {b N sz : Nat} {ok : Nat → Prop} {h : HH} {r : RR} {w : Int32 × HH} (hM : N ≤ MA) (hW : WT KA lnA ok N r) (p0 : Nat) (a1 : Int32) (a2 : Int32) (a3 : Int32) (t0 : KA p0 = 7 ∧ ok p0) (hF : fX7_matches h r p0 a1 a2 a3 = some w) : CT yX7_matches cX7_matches 5 (some FieldType.int) 3 b KA lnA MA N sz [.ref (b + p0), .int a1, .int a2, .int a3] h r N sz (some (.int w.1)) w.2 r 0 0 :=
  CT_of (by decide) rfl (Nat.le_of_ble_eq_true rfl) (by decide) trivial (fun X hX hR => kX7_matches hX hM hW p0 a1 a2 a3 t0 hR hF)
/-! X7_prefer -/
def fX7_prefer (h : HH) (r : RR) (p0 : Nat) (a1 : Int32) : Option (Int32 × HH) := (fX7_isSide h r a1).bind (fun v1 => if ¬ v1 = 0 then (lt (h (r p0 0) 5) (fun y17 => lt (up h (r p0 0) 5 a1) (fun h23 => some (y17, h23)))) else (some ((-2), h)))
set_option maxRecDepth 100000 in
set_option maxHeartbeats 4000000 in
theorem kX7_prefer {X : XT} {b N sz : Nat} {ok : Nat → Prop} {h : HH} {r : RR} {w : Int32 × HH} (hX : XOK X RX7 cX7_prefer 3 2) (hM : N ≤ MA) (hW : WT KA lnA ok N r) (p0 : Nat) (a1 : Int32) (t0 : KA p0 = 7 ∧ ok p0) (hR : XR X b KA lnA MA (some FieldType.int) 0 0 N sz (some (.int w.1)) w.2 r) (hF : fX7_prefer h r p0 a1 = some w) : GX X b KA lnA MA 3 0 0 N sz 0 [(0, .ref (b + p0)), (1, .int a1)] [] h r := by
  rw [fX7_prefer] at hF
  refine g_iload_n hX dX7_prefer_0 (i := 1) rfl (j := 1) rfl ?_
  obtain ⟨v1, e1, hF⟩ := bi_some hF
  refine g_callS (As := [.int a1]) (rest := []) (stk := [.int v1]) hX dX7_prefer_1 (ctX7_isSide hM hW a1 e1) (by decide) (by decide) wm_X7_176 wt_X7_isSide wz_X7 wc_X7_isSide hyX7_isSide rfl (Nat.le_of_ble_eq_true rfl) rfl rfl ?_ rfl rfl
  refine g_if_ne (tgt := 10) hX dX7_prefer_4 (by decide) (fun c4 => ?_) (fun c4 => ?_)
  · have hF := ite_t hF c4
    refine g_aload_n hX dX7_prefer_10 (i := 0) rfl (j := 0) rfl ?_
    have tf11 := (tyF (k := 0) hW t0 (by decide) rfl (by decide) : KA (r p0 0) = 6 ∧ ok (r p0 0))
    refine gf_X7_12 hX dX7_prefer_11 (ty1 hW t0) (hW.1 _ tf11.2).1 ?_
    refine gf_X7_179 hX dX7_prefer_14 (ty1 hW tf11) ?_
    obtain ⟨y17, e17, hF⟩ := lt_some hF
    refine g_topi e17 ?_
    refine g_istore_n (L' := [(2, .int y17), (0, .ref (b + p0)), (1, .int a1)]) hX dX7_prefer_17 (i := 2) rfl (by decide) rfl ?_
    refine g_aload_n hX dX7_prefer_18 (i := 0) rfl (j := 1) rfl ?_
    have tf19 := (tyF (k := 0) hW t0 (by decide) rfl (by decide) : KA (r p0 0) = 6 ∧ ok (r p0 0))
    refine gf_X7_12 hX dX7_prefer_19 (ty1 hW t0) (hW.1 _ tf19.2).1 ?_
    refine g_iload_n hX dX7_prefer_22 (i := 1) rfl (j := 2) rfl ?_
    obtain ⟨h23, e23, hF⟩ := lt_some hF
    refine pf_X7_179 hX dX7_prefer_23 (ty1 hW tf19) hM e23 ?_
    refine g_iload_n hX dX7_prefer_26 (i := 2) rfl (j := 0) rfl ?_
    obtain rfl := Option.some.inj hF
    exact g_iret hX dX7_prefer_27 hR
  · have hF := ite_f hF (fun z => z c4)
    refine g_bipush (v := (-2)) hX dX7_prefer_7 (by decide) ?_
    obtain rfl := Option.some.inj hF
    exact g_iret hX dX7_prefer_9 hR
theorem ctX7_prefer {b N sz : Nat} {ok : Nat → Prop} {h : HH} {r : RR} {w : Int32 × HH} (hM : N ≤ MA) (hW : WT KA lnA ok N r) (p0 : Nat) (a1 : Int32) (t0 : KA p0 = 7 ∧ ok p0) (hF : fX7_prefer h r p0 a1 = some w) : CT yX7_prefer cX7_prefer 3 (some FieldType.int) 2 b KA lnA MA N sz [.ref (b + p0), .int a1] h r N sz (some (.int w.1)) w.2 r 0 0 :=
  CT_of (by decide) rfl (Nat.le_of_ble_eq_true rfl) (by decide) trivial (fun X hX hR => kX7_prefer hX hM hW p0 a1 t0 hR hF)
/-! X7_stepsOf -/
def fX7_stepsOf (h : HH) (r : RR) (p0 : Nat) (a1 : Int32) : Option (Int32 × HH) := (fX2_lay h r (r p0 6) (r p0 5) a1).bind (fun h9 => some (h9 (r p0 6) 4, h9))
set_option maxRecDepth 100000 in
set_option maxHeartbeats 4000000 in
theorem kX7_stepsOf {X : XT} {b N sz : Nat} {ok : Nat → Prop} {h : HH} {r : RR} {w : Int32 × HH} (hX : XOK X RX7 cX7_stepsOf 2 4) (hM : N ≤ MA) (hW : WT KA lnA ok N r) (hA : ∀ p, KA p < 16 → ok p) (p0 : Nat) (a1 : Int32) (t0 : KA p0 = 7 ∧ ok p0) (hR : XR X b KA lnA MA (some FieldType.int) 0 0 N sz (some (.int w.1)) w.2 r) (hF : fX7_stepsOf h r p0 a1 = some w) : GX X b KA lnA MA 2 0 0 N sz 0 [(0, .ref (b + p0)), (1, .int a1)] [] h r := by
  rw [fX7_stepsOf] at hF
  refine g_aload_n hX dX7_stepsOf_0 (i := 0) rfl (j := 0) rfl ?_
  have tf1 := (tyF (k := 6) hW t0 (by decide) rfl (by decide) : KA (r p0 6) = 2 ∧ ok (r p0 6))
  refine gf_X7_45 hX dX7_stepsOf_1 (ty1 hW t0) (hW.1 _ tf1.2).1 ?_
  refine g_aload_n hX dX7_stepsOf_4 (i := 0) rfl (j := 0) rfl ?_
  have tf5 := (tyF (k := 5) hW t0 (by decide) rfl (by decide) : KA (r p0 5) = 0 ∧ ok (r p0 5))
  refine gf_X7_38 hX dX7_stepsOf_5 (ty1 hW t0) (hW.1 _ tf5.2).1 ?_
  refine g_iload_n hX dX7_stepsOf_8 (i := 1) rfl (j := 1) rfl ?_
  obtain ⟨h9, e9, hF⟩ := bi_some hF
  refine g_callV (As := [.ref (b + (r p0 5)), .int a1]) (rest := []) (stk := []) hX dX7_stepsOf_9 (ctX2_lay hM hW hA (r p0 6) (r p0 5) a1 tf1 tf5 e9) (by decide) (by decide) wm_X7_265 wi_X2_lay ws_X2_lay wz_X2 wc_X2_lay hyX2_lay rfl (ci := 2) rfl (by decide) tf1.1 (hW.1 _ tf1.2).1 (hW.1 _ tf1.2).2 (Nat.le_of_ble_eq_true rfl) rfl rfl ?_ rfl rfl
  refine g_aload_n hX dX7_stepsOf_12 (i := 0) rfl (j := 0) rfl ?_
  have tf13 := (tyF (k := 6) hW t0 (by decide) rfl (by decide) : KA (r p0 6) = 2 ∧ ok (r p0 6))
  refine gf_X7_45 hX dX7_stepsOf_13 (ty1 hW t0) (hW.1 _ tf13.2).1 ?_
  refine gf_X7_269 hX dX7_stepsOf_16 (ty1 hW tf13) ?_
  obtain rfl := Option.some.inj hF
  exact g_iret hX dX7_stepsOf_19 hR
theorem ctX7_stepsOf {b N sz : Nat} {ok : Nat → Prop} {h : HH} {r : RR} {w : Int32 × HH} (hM : N ≤ MA) (hW : WT KA lnA ok N r) (hA : ∀ p, KA p < 16 → ok p) (p0 : Nat) (a1 : Int32) (t0 : KA p0 = 7 ∧ ok p0) (hF : fX7_stepsOf h r p0 a1 = some w) : CT yX7_stepsOf cX7_stepsOf 2 (some FieldType.int) 4 b KA lnA MA N sz [.ref (b + p0), .int a1] h r N sz (some (.int w.1)) w.2 r 0 0 :=
  CT_of (by decide) rfl (Nat.le_of_ble_eq_true rfl) (by decide) trivial (fun X hX hR => kX7_stepsOf hX hM hW hA p0 a1 t0 hR hF)
/-! X7_sync -/
def fX7_sync (h : HH) (r : RR) (p0 : Nat) : Option (Int32 × HH) := (fX0_settle h r (r p0 5) (r p0 0) (h (r p0 0) 5)).bind (fun h15 => bi2 (fX7_stepsOf h15 r p0 0) (fun v20 h20 => bi2 (fX7_stepsOf h20 r p0 1) (fun v25 h25 => lt (v20 + v25) (fun y29 => (fX0_carryOut h25 r (r p0 5)).bind (fun h34 => some (y29, h34))))))
set_option maxRecDepth 100000 in
set_option maxHeartbeats 4000000 in
theorem kX7_sync {X : XT} {b N sz : Nat} {ok : Nat → Prop} {h : HH} {r : RR} {w : Int32 × HH} (hX : XOK X RX7 cX7_sync 2 6) (hM : N ≤ MA) (hW : WT KA lnA ok N r) (hA : ∀ p, KA p < 16 → ok p) (p0 : Nat) (t0 : KA p0 = 7 ∧ ok p0) (hR : XR X b KA lnA MA (some FieldType.int) 0 0 N sz (some (.int w.1)) w.2 r) (hF : fX7_sync h r p0 = some w) : GX X b KA lnA MA 2 0 0 N sz 0 [(0, .ref (b + p0))] [] h r := by
  rw [fX7_sync] at hF
  refine g_aload_n hX dX7_sync_0 (i := 0) rfl (j := 0) rfl ?_
  have tf1 := (tyF (k := 5) hW t0 (by decide) rfl (by decide) : KA (r p0 5) = 0 ∧ ok (r p0 5))
  refine gf_X7_38 hX dX7_sync_1 (ty1 hW t0) (hW.1 _ tf1.2).1 ?_
  refine g_aload_n hX dX7_sync_4 (i := 0) rfl (j := 0) rfl ?_
  have tf5 := (tyF (k := 0) hW t0 (by decide) rfl (by decide) : KA (r p0 0) = 6 ∧ ok (r p0 0))
  refine gf_X7_12 hX dX7_sync_5 (ty1 hW t0) (hW.1 _ tf5.2).1 ?_
  refine g_aload_n hX dX7_sync_8 (i := 0) rfl (j := 0) rfl ?_
  have tf9 := (tyF (k := 0) hW t0 (by decide) rfl (by decide) : KA (r p0 0) = 6 ∧ ok (r p0 0))
  refine gf_X7_12 hX dX7_sync_9 (ty1 hW t0) (hW.1 _ tf9.2).1 ?_
  refine gf_X7_179 hX dX7_sync_12 (ty1 hW tf9) ?_
  obtain ⟨h15, e15, hF⟩ := bi_some hF
  refine g_callV (As := [.ref (b + (r p0 0)), .int (h (r p0 0) 5)]) (rest := []) (stk := []) hX dX7_sync_15 (ctX0_settle hM hW hA (r p0 5) (r p0 0) (h (r p0 0) 5) tf1 tf5 e15) (by decide) (by decide) wm_X7_182 wi_X0_settle ws_X0_settle wz_X0 wc_X0_settle hyX0_settle rfl (ci := 0) rfl (by decide) tf1.1 (hW.1 _ tf1.2).1 (hW.1 _ tf1.2).2 (Nat.le_of_ble_eq_true rfl) rfl rfl ?_ rfl rfl
  refine g_aload_n hX dX7_sync_18 (i := 0) rfl (j := 0) rfl ?_
  refine g_iconst (v := 0) hX dX7_sync_19 (by decide) ?_
  obtain ⟨v20, h20, e20, hF⟩ := bi2_some hF
  refine g_callV (As := [.int 0]) (rest := []) (stk := [.int v20]) hX dX7_sync_20 (ctX7_stepsOf hM hW hA p0 0 t0 e20) (by decide) (by decide) wm_X7_186 wi_X7_stepsOf ws_X7_stepsOf wz_X7 wc_X7_stepsOf hyX7_stepsOf rfl (ci := 7) rfl (by decide) t0.1 (hW.1 _ t0.2).1 (hW.1 _ t0.2).2 (Nat.le_of_ble_eq_true rfl) rfl rfl ?_ rfl rfl
  refine g_aload_n hX dX7_sync_23 (i := 0) rfl (j := 0) rfl ?_
  refine g_iconst (v := 1) hX dX7_sync_24 (by decide) ?_
  obtain ⟨v25, h25, e25, hF⟩ := bi2_some hF
  refine g_callV (As := [.int 1]) (rest := [.int v20]) (stk := [.int v25, .int v20]) hX dX7_sync_25 (ctX7_stepsOf hM hW hA p0 1 t0 e25) (by decide) (by decide) wm_X7_186 wi_X7_stepsOf ws_X7_stepsOf wz_X7 wc_X7_stepsOf hyX7_stepsOf rfl (ci := 7) rfl (by decide) t0.1 (hW.1 _ t0.2).1 (hW.1 _ t0.2).2 (Nat.le_of_ble_eq_true rfl) rfl rfl ?_ rfl rfl
  refine g_iadd hX dX7_sync_28 ?_
  obtain ⟨y29, e29, hF⟩ := lt_some hF
  refine g_topi e29 ?_
  refine g_istore_n (L' := [(1, .int y29), (0, .ref (b + p0))]) hX dX7_sync_29 (i := 1) rfl (by decide) rfl ?_
  refine g_aload_n hX dX7_sync_30 (i := 0) rfl (j := 1) rfl ?_
  have tf31 := (tyF (k := 5) hW t0 (by decide) rfl (by decide) : KA (r p0 5) = 0 ∧ ok (r p0 5))
  refine gf_X7_38 hX dX7_sync_31 (ty1 hW t0) (hW.1 _ tf31.2).1 ?_
  obtain ⟨h34, e34, hF⟩ := bi_some hF
  refine g_callV (As := []) (rest := []) (stk := []) hX dX7_sync_34 (ctX0_carryOut hM hW hA (r p0 5) tf31 e34) (by decide) (by decide) wm_X7_189 wi_X0_carryOut ws_X0_carryOut wz_X0 wc_X0_carryOut hyX0_carryOut rfl (ci := 0) rfl (by decide) tf31.1 (hW.1 _ tf31.2).1 (hW.1 _ tf31.2).2 (Nat.le_of_ble_eq_true rfl) rfl rfl ?_ rfl rfl
  refine g_iload_n hX dX7_sync_37 (i := 1) rfl (j := 0) rfl ?_
  obtain rfl := Option.some.inj hF
  exact g_iret hX dX7_sync_38 hR
theorem ctX7_sync {b N sz : Nat} {ok : Nat → Prop} {h : HH} {r : RR} {w : Int32 × HH} (hM : N ≤ MA) (hW : WT KA lnA ok N r) (hA : ∀ p, KA p < 16 → ok p) (p0 : Nat) (t0 : KA p0 = 7 ∧ ok p0) (hF : fX7_sync h r p0 = some w) : CT yX7_sync cX7_sync 2 (some FieldType.int) 6 b KA lnA MA N sz [.ref (b + p0)] h r N sz (some (.int w.1)) w.2 r 0 0 :=
  CT_of (by decide) rfl (Nat.le_of_ble_eq_true rfl) (by decide) trivial (fun X hX hR => kX7_sync hX hM hW hA p0 t0 hR hF)
/-! X7_target -/
def fX7_target (h : HH) (r : RR) (p0 : Nat) (a1 : Int32) (a2 : Int32) : Option (Int32 × HH) := if a1 < 0 then (some ((-2), h)) else (if 30 ≤ a1 then (some ((-2), h)) else (if a2 < 0 then (some ((-2), h)) else (if a2 ≤ 3 then ((fX0_settle h r (r p0 5) (r p0 0) (h (r p0 0) 5)).bind (fun h37 => if a2 = 0 then (gd (inb a1 (lnA (r (r (r p0 5) 3) 1))) (some (h37 (r (r (r p0 5) 3) 1) (ix a1), h37))) else (if a2 = 1 then (gd (inb a1 (lnA (r (r (r p0 5) 3) 2))) (some (h37 (r (r (r p0 5) 3) 2) (ix a1), h37))) else (if a2 = 2 then (gd (inb a1 (lnA (r (r (r p0 5) 3) 3))) (some (h37 (r (r (r p0 5) 3) 3) (ix a1), h37))) else ((fX5_depth h37 r (r (r p0 5) 3) a1).bind (fun v115 => some (v115, h37))))))) else (some ((-2), h)))))
set_option maxRecDepth 100000 in
set_option maxHeartbeats 4000000 in
theorem kX7_target {X : XT} {b N sz : Nat} {ok : Nat → Prop} {h : HH} {r : RR} {w : Int32 × HH} (hX : XOK X RX7 cX7_target 3 6) (hM : N ≤ MA) (hW : WT KA lnA ok N r) (hA : ∀ p, KA p < 16 → ok p) (p0 : Nat) (a1 : Int32) (a2 : Int32) (t0 : KA p0 = 7 ∧ ok p0) (hR : XR X b KA lnA MA (some FieldType.int) 0 0 N sz (some (.int w.1)) w.2 r) (hF : fX7_target h r p0 a1 a2 = some w) : GX X b KA lnA MA 3 0 0 N sz 0 [(0, .ref (b + p0)), (1, .int a1), (2, .int a2)] [] h r := by
  rw [fX7_target] at hF
  refine g_iload_n hX dX7_target_0 (i := 1) rfl (j := 1) rfl ?_
  refine g_if_lt (tgt := 19) hX dX7_target_1 (by decide) (fun c1 => ?_) (fun c1 => ?_)
  · have hF := ite_t hF c1
    refine g_bipush (v := (-2)) hX dX7_target_19 (by decide) ?_
    obtain rfl := Option.some.inj hF
    exact g_iret hX dX7_target_21 hR
  · have hF := ite_f hF c1
    refine g_iload_n hX dX7_target_4 (i := 1) rfl (j := 1) rfl ?_
    refine g_bipush (v := 30) hX dX7_target_5 (by decide) ?_
    refine g_icmp_ge (tgt := 19) hX dX7_target_7 (by decide) (fun c7 => ?_) (fun c7 => ?_)
    · have hF := ite_t hF c7
      refine g_bipush (v := (-2)) hX dX7_target_19 (by decide) ?_
      obtain rfl := Option.some.inj hF
      exact g_iret hX dX7_target_21 hR
    · have hF := ite_f hF c7
      refine g_iload_n hX dX7_target_10 (i := 2) rfl (j := 2) rfl ?_
      refine g_if_lt (tgt := 19) hX dX7_target_11 (by decide) (fun c11 => ?_) (fun c11 => ?_)
      · have hF := ite_t hF c11
        refine g_bipush (v := (-2)) hX dX7_target_19 (by decide) ?_
        obtain rfl := Option.some.inj hF
        exact g_iret hX dX7_target_21 hR
      · have hF := ite_f hF c11
        refine g_iload_n hX dX7_target_14 (i := 2) rfl (j := 2) rfl ?_
        refine g_iconst (v := 3) hX dX7_target_15 (by decide) ?_
        refine g_icmp_le (tgt := 22) hX dX7_target_16 (by decide) (fun c16 => ?_) (fun c16 => ?_)
        · have hF := ite_t hF c16
          refine g_aload_n hX dX7_target_22 (i := 0) rfl (j := 0) rfl ?_
          have tf23 := (tyF (k := 5) hW t0 (by decide) rfl (by decide) : KA (r p0 5) = 0 ∧ ok (r p0 5))
          refine gf_X7_38 hX dX7_target_23 (ty1 hW t0) (hW.1 _ tf23.2).1 ?_
          refine g_aload_n hX dX7_target_26 (i := 0) rfl (j := 0) rfl ?_
          have tf27 := (tyF (k := 0) hW t0 (by decide) rfl (by decide) : KA (r p0 0) = 6 ∧ ok (r p0 0))
          refine gf_X7_12 hX dX7_target_27 (ty1 hW t0) (hW.1 _ tf27.2).1 ?_
          refine g_aload_n hX dX7_target_30 (i := 0) rfl (j := 0) rfl ?_
          have tf31 := (tyF (k := 0) hW t0 (by decide) rfl (by decide) : KA (r p0 0) = 6 ∧ ok (r p0 0))
          refine gf_X7_12 hX dX7_target_31 (ty1 hW t0) (hW.1 _ tf31.2).1 ?_
          refine gf_X7_179 hX dX7_target_34 (ty1 hW tf31) ?_
          obtain ⟨h37, e37, hF⟩ := bi_some hF
          refine g_callV (As := [.ref (b + (r p0 0)), .int (h (r p0 0) 5)]) (rest := []) (stk := []) hX dX7_target_37 (ctX0_settle hM hW hA (r p0 5) (r p0 0) (h (r p0 0) 5) tf23 tf27 e37) (by decide) (by decide) wm_X7_182 wi_X0_settle ws_X0_settle wz_X0 wc_X0_settle hyX0_settle rfl (ci := 0) rfl (by decide) tf23.1 (hW.1 _ tf23.2).1 (hW.1 _ tf23.2).2 (Nat.le_of_ble_eq_true rfl) rfl rfl ?_ rfl rfl
          refine g_iload_n hX dX7_target_40 (i := 2) rfl (j := 2) rfl ?_
          by_cases c41_0 : a2 = 0
          · have hF := ite_t hF c41_0
            refine g_tin (tgt := 68) hX dX7_target_41 c41_0 (by decide) (by decide) rfl (by decide) ?_
            refine g_aload_n hX dX7_target_68 (i := 0) rfl (j := 0) rfl ?_
            have tf69 := (tyF (k := 5) hW t0 (by decide) rfl (by decide) : KA (r p0 5) = 0 ∧ ok (r p0 5))
            refine gf_X7_38 hX dX7_target_69 (ty1 hW t0) (hW.1 _ tf69.2).1 ?_
            have tf72 := (tyF (k := 3) hW tf69 (by decide) rfl (by decide) : KA (r (r p0 5) 3) = 5 ∧ ok (r (r p0 5) 3))
            refine gf_X7_192 hX dX7_target_72 (ty1 hW tf69) (hW.1 _ tf72.2).1 ?_
            have tf75 := (tyF (k := 1) hW tf72 (by decide) rfl (by decide) : KA (r (r (r p0 5) 3) 1) = 9 ∧ ok (r (r (r p0 5) 3) 1))
            refine gf_X7_91 hX dX7_target_75 (ty1 hW tf72) (hW.1 _ tf75.2).1 ?_
            refine g_iload_n hX dX7_target_78 (i := 1) rfl (j := 1) rfl ?_
            obtain ⟨g79, hF⟩ := gd_some hF
            refine g_iald hX dX7_target_79 tf75.1 (hW.1 _ tf75.2).1 (hW.1 _ tf75.2).2 g79 ?_
            obtain rfl := Option.some.inj hF
            exact g_iret hX dX7_target_80 hR
          have hF := ite_f hF c41_0
          by_cases c41_1 : a2 = 1
          · have hF := ite_t hF c41_1
            refine g_tin (tgt := 81) hX dX7_target_41 c41_1 (by decide) (by decide) rfl (by decide) ?_
            refine g_aload_n hX dX7_target_81 (i := 0) rfl (j := 0) rfl ?_
            have tf82 := (tyF (k := 5) hW t0 (by decide) rfl (by decide) : KA (r p0 5) = 0 ∧ ok (r p0 5))
            refine gf_X7_38 hX dX7_target_82 (ty1 hW t0) (hW.1 _ tf82.2).1 ?_
            have tf85 := (tyF (k := 3) hW tf82 (by decide) rfl (by decide) : KA (r (r p0 5) 3) = 5 ∧ ok (r (r p0 5) 3))
            refine gf_X7_192 hX dX7_target_85 (ty1 hW tf82) (hW.1 _ tf85.2).1 ?_
            have tf88 := (tyF (k := 2) hW tf85 (by decide) rfl (by decide) : KA (r (r (r p0 5) 3) 2) = 9 ∧ ok (r (r (r p0 5) 3) 2))
            refine gf_X7_95 hX dX7_target_88 (ty1 hW tf85) (hW.1 _ tf88.2).1 ?_
            refine g_iload_n hX dX7_target_91 (i := 1) rfl (j := 1) rfl ?_
            obtain ⟨g92, hF⟩ := gd_some hF
            refine g_iald hX dX7_target_92 tf88.1 (hW.1 _ tf88.2).1 (hW.1 _ tf88.2).2 g92 ?_
            obtain rfl := Option.some.inj hF
            exact g_iret hX dX7_target_93 hR
          have hF := ite_f hF c41_1
          by_cases c41_2 : a2 = 2
          · have hF := ite_t hF c41_2
            refine g_tin (tgt := 94) hX dX7_target_41 c41_2 (by decide) (by decide) rfl (by decide) ?_
            refine g_aload_n hX dX7_target_94 (i := 0) rfl (j := 0) rfl ?_
            have tf95 := (tyF (k := 5) hW t0 (by decide) rfl (by decide) : KA (r p0 5) = 0 ∧ ok (r p0 5))
            refine gf_X7_38 hX dX7_target_95 (ty1 hW t0) (hW.1 _ tf95.2).1 ?_
            have tf98 := (tyF (k := 3) hW tf95 (by decide) rfl (by decide) : KA (r (r p0 5) 3) = 5 ∧ ok (r (r p0 5) 3))
            refine gf_X7_192 hX dX7_target_98 (ty1 hW tf95) (hW.1 _ tf98.2).1 ?_
            have tf101 := (tyF (k := 3) hW tf98 (by decide) rfl (by decide) : KA (r (r (r p0 5) 3) 3) = 9 ∧ ok (r (r (r p0 5) 3) 3))
            refine gf_X7_98 hX dX7_target_101 (ty1 hW tf98) (hW.1 _ tf101.2).1 ?_
            refine g_iload_n hX dX7_target_104 (i := 1) rfl (j := 1) rfl ?_
            obtain ⟨g105, hF⟩ := gd_some hF
            refine g_iald hX dX7_target_105 tf101.1 (hW.1 _ tf101.2).1 (hW.1 _ tf101.2).2 g105 ?_
            obtain rfl := Option.some.inj hF
            exact g_iret hX dX7_target_106 hR
          have hF := ite_f hF c41_2
          have n41_0 := lv_neT c41_0 (a := 0) (by decide)
          have n41_1 := lv_neT c41_1 (a := 1) (by decide)
          have n41_2 := lv_neT c41_2 (a := 2) (by decide)
          refine g_tout (tgt := 107) hX dX7_target_41 (by omega) (by decide) ?_
          refine g_aload_n hX dX7_target_107 (i := 0) rfl (j := 0) rfl ?_
          have tf108 := (tyF (k := 5) hW t0 (by decide) rfl (by decide) : KA (r p0 5) = 0 ∧ ok (r p0 5))
          refine gf_X7_38 hX dX7_target_108 (ty1 hW t0) (hW.1 _ tf108.2).1 ?_
          have tf111 := (tyF (k := 3) hW tf108 (by decide) rfl (by decide) : KA (r (r p0 5) 3) = 5 ∧ ok (r (r p0 5) 3))
          refine gf_X7_192 hX dX7_target_111 (ty1 hW tf108) (hW.1 _ tf111.2).1 ?_
          refine g_iload_n hX dX7_target_114 (i := 1) rfl (j := 1) rfl ?_
          obtain ⟨v115, e115, hF⟩ := bi_some hF
          refine g_callV (As := [.int a1]) (rest := []) (stk := [.int v115]) hX dX7_target_115 (ctX5_depth hM hW (r (r p0 5) 3) a1 tf111 e115) (by decide) (by decide) wm_X7_105 wi_X5_depth ws_X5_depth wz_X5 wc_X5_depth hyX5_depth rfl (ci := 5) rfl (by decide) tf111.1 (hW.1 _ tf111.2).1 (hW.1 _ tf111.2).2 (Nat.le_of_ble_eq_true rfl) rfl rfl ?_ rfl rfl
          obtain rfl := Option.some.inj hF
          exact g_iret hX dX7_target_118 hR
        · have hF := ite_f hF c16
          refine g_bipush (v := (-2)) hX dX7_target_19 (by decide) ?_
          obtain rfl := Option.some.inj hF
          exact g_iret hX dX7_target_21 hR
theorem ctX7_target {b N sz : Nat} {ok : Nat → Prop} {h : HH} {r : RR} {w : Int32 × HH} (hM : N ≤ MA) (hW : WT KA lnA ok N r) (hA : ∀ p, KA p < 16 → ok p) (p0 : Nat) (a1 : Int32) (a2 : Int32) (t0 : KA p0 = 7 ∧ ok p0) (hF : fX7_target h r p0 a1 a2 = some w) : CT yX7_target cX7_target 3 (some FieldType.int) 6 b KA lnA MA N sz [.ref (b + p0), .int a1, .int a2] h r N sz (some (.int w.1)) w.2 r 0 0 :=
  CT_of (by decide) rfl (Nat.le_of_ble_eq_true rfl) (by decide) trivial (fun X hX hR => kX7_target hX hM hW hA p0 a1 a2 t0 hR hF)
/-! X7_clash -/
def fX7_clash (h : HH) (r : RR) (p0 : Nat) (a1 : Int32) (a2 : Int32) : Option (Int32 × HH) := if a2 < 0 then (some ((-2), h)) else (if a2 ≤ 1 then ((fX0_settle h r (r p0 5) (r p0 0) (h (r p0 0) 5)).bind (fun h27 => if a1 < 0 then (some ((-12), h27)) else (if a1 < (h27 (r p0 5) 8) then (if ¬ a2 = 0 then (gd (inb a1 (lnA (r (r p0 5) 7))) (some (h27 (r (r p0 5) 7) (ix a1), h27))) else (gd (inb a1 (lnA (r (r p0 5) 6))) (some (h27 (r (r p0 5) 6) (ix a1), h27)))) else (some ((-12), h27))))) else (some ((-2), h)))
set_option maxRecDepth 100000 in
set_option maxHeartbeats 4000000 in
theorem kX7_clash {X : XT} {b N sz : Nat} {ok : Nat → Prop} {h : HH} {r : RR} {w : Int32 × HH} (hX : XOK X RX7 cX7_clash 3 6) (hM : N ≤ MA) (hW : WT KA lnA ok N r) (hA : ∀ p, KA p < 16 → ok p) (p0 : Nat) (a1 : Int32) (a2 : Int32) (t0 : KA p0 = 7 ∧ ok p0) (hR : XR X b KA lnA MA (some FieldType.int) 0 0 N sz (some (.int w.1)) w.2 r) (hF : fX7_clash h r p0 a1 a2 = some w) : GX X b KA lnA MA 3 0 0 N sz 0 [(0, .ref (b + p0)), (1, .int a1), (2, .int a2)] [] h r := by
  rw [fX7_clash] at hF
  refine g_iload_n hX dX7_clash_0 (i := 2) rfl (j := 2) rfl ?_
  refine g_if_lt (tgt := 9) hX dX7_clash_1 (by decide) (fun c1 => ?_) (fun c1 => ?_)
  · have hF := ite_t hF c1
    refine g_bipush (v := (-2)) hX dX7_clash_9 (by decide) ?_
    obtain rfl := Option.some.inj hF
    exact g_iret hX dX7_clash_11 hR
  · have hF := ite_f hF c1
    refine g_iload_n hX dX7_clash_4 (i := 2) rfl (j := 2) rfl ?_
    refine g_iconst (v := 1) hX dX7_clash_5 (by decide) ?_
    refine g_icmp_le (tgt := 12) hX dX7_clash_6 (by decide) (fun c6 => ?_) (fun c6 => ?_)
    · have hF := ite_t hF c6
      refine g_aload_n hX dX7_clash_12 (i := 0) rfl (j := 0) rfl ?_
      have tf13 := (tyF (k := 5) hW t0 (by decide) rfl (by decide) : KA (r p0 5) = 0 ∧ ok (r p0 5))
      refine gf_X7_38 hX dX7_clash_13 (ty1 hW t0) (hW.1 _ tf13.2).1 ?_
      refine g_aload_n hX dX7_clash_16 (i := 0) rfl (j := 0) rfl ?_
      have tf17 := (tyF (k := 0) hW t0 (by decide) rfl (by decide) : KA (r p0 0) = 6 ∧ ok (r p0 0))
      refine gf_X7_12 hX dX7_clash_17 (ty1 hW t0) (hW.1 _ tf17.2).1 ?_
      refine g_aload_n hX dX7_clash_20 (i := 0) rfl (j := 0) rfl ?_
      have tf21 := (tyF (k := 0) hW t0 (by decide) rfl (by decide) : KA (r p0 0) = 6 ∧ ok (r p0 0))
      refine gf_X7_12 hX dX7_clash_21 (ty1 hW t0) (hW.1 _ tf21.2).1 ?_
      refine gf_X7_179 hX dX7_clash_24 (ty1 hW tf21) ?_
      obtain ⟨h27, e27, hF⟩ := bi_some hF
      refine g_callV (As := [.ref (b + (r p0 0)), .int (h (r p0 0) 5)]) (rest := []) (stk := []) hX dX7_clash_27 (ctX0_settle hM hW hA (r p0 5) (r p0 0) (h (r p0 0) 5) tf13 tf17 e27) (by decide) (by decide) wm_X7_182 wi_X0_settle ws_X0_settle wz_X0 wc_X0_settle hyX0_settle rfl (ci := 0) rfl (by decide) tf13.1 (hW.1 _ tf13.2).1 (hW.1 _ tf13.2).2 (Nat.le_of_ble_eq_true rfl) rfl rfl ?_ rfl rfl
      refine g_iload_n hX dX7_clash_30 (i := 1) rfl (j := 1) rfl ?_
      refine g_if_lt (tgt := 45) hX dX7_clash_31 (by decide) (fun c31 => ?_) (fun c31 => ?_)
      · have hF := ite_t hF c31
        refine g_bipush (v := (-12)) hX dX7_clash_45 (by decide) ?_
        obtain rfl := Option.some.inj hF
        exact g_iret hX dX7_clash_47 hR
      · have hF := ite_f hF c31
        refine g_iload_n hX dX7_clash_34 (i := 1) rfl (j := 1) rfl ?_
        refine g_aload_n hX dX7_clash_35 (i := 0) rfl (j := 0) rfl ?_
        have tf36 := (tyF (k := 5) hW t0 (by decide) rfl (by decide) : KA (r p0 5) = 0 ∧ ok (r p0 5))
        refine gf_X7_38 hX dX7_clash_36 (ty1 hW t0) (hW.1 _ tf36.2).1 ?_
        refine gf_X7_196 hX dX7_clash_39 (ty1 hW tf36) ?_
        refine g_icmp_lt (tgt := 48) hX dX7_clash_42 (by decide) (fun c42 => ?_) (fun c42 => ?_)
        · have hF := ite_t hF c42
          refine g_iload_n hX dX7_clash_48 (i := 2) rfl (j := 2) rfl ?_
          refine g_if_ne (tgt := 64) hX dX7_clash_49 (by decide) (fun c49 => ?_) (fun c49 => ?_)
          · have hF := ite_t hF c49
            refine g_aload_n hX dX7_clash_64 (i := 0) rfl (j := 0) rfl ?_
            have tf65 := (tyF (k := 5) hW t0 (by decide) rfl (by decide) : KA (r p0 5) = 0 ∧ ok (r p0 5))
            refine gf_X7_38 hX dX7_clash_65 (ty1 hW t0) (hW.1 _ tf65.2).1 ?_
            have tf68 := (tyF (k := 7) hW tf65 (by decide) rfl (by decide) : KA (r (r p0 5) 7) = 9 ∧ ok (r (r p0 5) 7))
            refine gf_X7_202 hX dX7_clash_68 (ty1 hW tf65) (hW.1 _ tf68.2).1 ?_
            refine g_iload_n hX dX7_clash_71 (i := 1) rfl (j := 1) rfl ?_
            obtain ⟨g72, hF⟩ := gd_some hF
            refine g_iald hX dX7_clash_72 tf68.1 (hW.1 _ tf68.2).1 (hW.1 _ tf68.2).2 g72 ?_
            obtain rfl := Option.some.inj hF
            exact g_iret hX dX7_clash_73 hR
          · have hF := ite_f hF (fun z => z c49)
            refine g_aload_n hX dX7_clash_52 (i := 0) rfl (j := 0) rfl ?_
            have tf53 := (tyF (k := 5) hW t0 (by decide) rfl (by decide) : KA (r p0 5) = 0 ∧ ok (r p0 5))
            refine gf_X7_38 hX dX7_clash_53 (ty1 hW t0) (hW.1 _ tf53.2).1 ?_
            have tf56 := (tyF (k := 6) hW tf53 (by decide) rfl (by decide) : KA (r (r p0 5) 6) = 9 ∧ ok (r (r p0 5) 6))
            refine gf_X7_199 hX dX7_clash_56 (ty1 hW tf53) (hW.1 _ tf56.2).1 ?_
            refine g_iload_n hX dX7_clash_59 (i := 1) rfl (j := 1) rfl ?_
            obtain ⟨g60, hF⟩ := gd_some hF
            refine g_iald hX dX7_clash_60 tf56.1 (hW.1 _ tf56.2).1 (hW.1 _ tf56.2).2 g60 ?_
            refine g_goto (tgt := 73) hX dX7_clash_61 (by decide) ?_
            obtain rfl := Option.some.inj hF
            exact g_iret hX dX7_clash_73 hR
        · have hF := ite_f hF c42
          refine g_bipush (v := (-12)) hX dX7_clash_45 (by decide) ?_
          obtain rfl := Option.some.inj hF
          exact g_iret hX dX7_clash_47 hR
    · have hF := ite_f hF c6
      refine g_bipush (v := (-2)) hX dX7_clash_9 (by decide) ?_
      obtain rfl := Option.some.inj hF
      exact g_iret hX dX7_clash_11 hR
theorem ctX7_clash {b N sz : Nat} {ok : Nat → Prop} {h : HH} {r : RR} {w : Int32 × HH} (hM : N ≤ MA) (hW : WT KA lnA ok N r) (hA : ∀ p, KA p < 16 → ok p) (p0 : Nat) (a1 : Int32) (a2 : Int32) (t0 : KA p0 = 7 ∧ ok p0) (hF : fX7_clash h r p0 a1 a2 = some w) : CT yX7_clash cX7_clash 3 (some FieldType.int) 6 b KA lnA MA N sz [.ref (b + p0), .int a1, .int a2] h r N sz (some (.int w.1)) w.2 r 0 0 :=
  CT_of (by decide) rfl (Nat.le_of_ble_eq_true rfl) (by decide) trivial (fun X hX hR => kX7_clash hX hM hW hA p0 a1 a2 t0 hR hF)
/-! X7_step -/
def fX7_step (h : HH) (r : RR) (p0 : Nat) (a1 : Int32) (a2 : Int32) (a3 : Int32) : Option (Int32 × HH) := (fX7_isSide h r a1).bind (fun v1 => if v1 = 0 then (some ((-2), h)) else (if a3 < 0 then (some ((-2), h)) else (if a3 ≤ 4 then ((fX0_settle h r (r p0 5) (r p0 0) (h (r p0 0) 5)).bind (fun h34 => if a2 < 0 then (some ((-12), h34)) else (bi2 (fX7_stepsOf h34 r p0 a1) (fun v44 h44 => if a2 < v44 then ((fX2_tell h44 r (r p0 6) (r (r p0 5) 3) a2 a3).bind (fun v66 => some (v66, h44))) else (some ((-12), h44)))))) else (some ((-2), h)))))
set_option maxRecDepth 100000 in
set_option maxHeartbeats 4000000 in
theorem kX7_step {X : XT} {b N sz : Nat} {ok : Nat → Prop} {h : HH} {r : RR} {w : Int32 × HH} (hX : XOK X RX7 cX7_step 4 6) (hM : N ≤ MA) (hW : WT KA lnA ok N r) (hA : ∀ p, KA p < 16 → ok p) (p0 : Nat) (a1 : Int32) (a2 : Int32) (a3 : Int32) (t0 : KA p0 = 7 ∧ ok p0) (hR : XR X b KA lnA MA (some FieldType.int) 0 0 N sz (some (.int w.1)) w.2 r) (hF : fX7_step h r p0 a1 a2 a3 = some w) : GX X b KA lnA MA 4 0 0 N sz 0 [(0, .ref (b + p0)), (1, .int a1), (2, .int a2), (3, .int a3)] [] h r := by
  rw [fX7_step] at hF
  refine g_iload_n hX dX7_step_0 (i := 1) rfl (j := 1) rfl ?_
  obtain ⟨v1, e1, hF⟩ := bi_some hF
  refine g_callS (As := [.int a1]) (rest := []) (stk := [.int v1]) hX dX7_step_1 (ctX7_isSide hM hW a1 e1) (by decide) (by decide) wm_X7_176 wt_X7_isSide wz_X7 wc_X7_isSide hyX7_isSide rfl (Nat.le_of_ble_eq_true rfl) rfl rfl ?_ rfl rfl
  refine g_if_eq (tgt := 16) hX dX7_step_4 (by decide) (fun c4 => ?_) (fun c4 => ?_)
  · have hF := ite_t hF c4
    refine g_bipush (v := (-2)) hX dX7_step_16 (by decide) ?_
    obtain rfl := Option.some.inj hF
    exact g_iret hX dX7_step_18 hR
  · have hF := ite_f hF c4
    refine g_iload_n hX dX7_step_7 (i := 3) rfl (j := 3) rfl ?_
    refine g_if_lt (tgt := 16) hX dX7_step_8 (by decide) (fun c8 => ?_) (fun c8 => ?_)
    · have hF := ite_t hF c8
      refine g_bipush (v := (-2)) hX dX7_step_16 (by decide) ?_
      obtain rfl := Option.some.inj hF
      exact g_iret hX dX7_step_18 hR
    · have hF := ite_f hF c8
      refine g_iload_n hX dX7_step_11 (i := 3) rfl (j := 3) rfl ?_
      refine g_iconst (v := 4) hX dX7_step_12 (by decide) ?_
      refine g_icmp_le (tgt := 19) hX dX7_step_13 (by decide) (fun c13 => ?_) (fun c13 => ?_)
      · have hF := ite_t hF c13
        refine g_aload_n hX dX7_step_19 (i := 0) rfl (j := 0) rfl ?_
        have tf20 := (tyF (k := 5) hW t0 (by decide) rfl (by decide) : KA (r p0 5) = 0 ∧ ok (r p0 5))
        refine gf_X7_38 hX dX7_step_20 (ty1 hW t0) (hW.1 _ tf20.2).1 ?_
        refine g_aload_n hX dX7_step_23 (i := 0) rfl (j := 0) rfl ?_
        have tf24 := (tyF (k := 0) hW t0 (by decide) rfl (by decide) : KA (r p0 0) = 6 ∧ ok (r p0 0))
        refine gf_X7_12 hX dX7_step_24 (ty1 hW t0) (hW.1 _ tf24.2).1 ?_
        refine g_aload_n hX dX7_step_27 (i := 0) rfl (j := 0) rfl ?_
        have tf28 := (tyF (k := 0) hW t0 (by decide) rfl (by decide) : KA (r p0 0) = 6 ∧ ok (r p0 0))
        refine gf_X7_12 hX dX7_step_28 (ty1 hW t0) (hW.1 _ tf28.2).1 ?_
        refine gf_X7_179 hX dX7_step_31 (ty1 hW tf28) ?_
        obtain ⟨h34, e34, hF⟩ := bi_some hF
        refine g_callV (As := [.ref (b + (r p0 0)), .int (h (r p0 0) 5)]) (rest := []) (stk := []) hX dX7_step_34 (ctX0_settle hM hW hA (r p0 5) (r p0 0) (h (r p0 0) 5) tf20 tf24 e34) (by decide) (by decide) wm_X7_182 wi_X0_settle ws_X0_settle wz_X0 wc_X0_settle hyX0_settle rfl (ci := 0) rfl (by decide) tf20.1 (hW.1 _ tf20.2).1 (hW.1 _ tf20.2).2 (Nat.le_of_ble_eq_true rfl) rfl rfl ?_ rfl rfl
        refine g_iload_n hX dX7_step_37 (i := 2) rfl (j := 2) rfl ?_
        refine g_if_lt (tgt := 50) hX dX7_step_38 (by decide) (fun c38 => ?_) (fun c38 => ?_)
        · have hF := ite_t hF c38
          refine g_bipush (v := (-12)) hX dX7_step_50 (by decide) ?_
          obtain rfl := Option.some.inj hF
          exact g_iret hX dX7_step_52 hR
        · have hF := ite_f hF c38
          refine g_iload_n hX dX7_step_41 (i := 2) rfl (j := 2) rfl ?_
          refine g_aload_n hX dX7_step_42 (i := 0) rfl (j := 0) rfl ?_
          refine g_iload_n hX dX7_step_43 (i := 1) rfl (j := 1) rfl ?_
          obtain ⟨v44, h44, e44, hF⟩ := bi2_some hF
          refine g_callV (As := [.int a1]) (rest := [.int a2]) (stk := [.int v44, .int a2]) hX dX7_step_44 (ctX7_stepsOf hM hW hA p0 a1 t0 e44) (by decide) (by decide) wm_X7_186 wi_X7_stepsOf ws_X7_stepsOf wz_X7 wc_X7_stepsOf hyX7_stepsOf rfl (ci := 7) rfl (by decide) t0.1 (hW.1 _ t0.2).1 (hW.1 _ t0.2).2 (Nat.le_of_ble_eq_true rfl) rfl rfl ?_ rfl rfl
          refine g_icmp_lt (tgt := 53) hX dX7_step_47 (by decide) (fun c47 => ?_) (fun c47 => ?_)
          · have hF := ite_t hF c47
            refine g_aload_n hX dX7_step_53 (i := 0) rfl (j := 0) rfl ?_
            have tf54 := (tyF (k := 6) hW t0 (by decide) rfl (by decide) : KA (r p0 6) = 2 ∧ ok (r p0 6))
            refine gf_X7_45 hX dX7_step_54 (ty1 hW t0) (hW.1 _ tf54.2).1 ?_
            refine g_aload_n hX dX7_step_57 (i := 0) rfl (j := 0) rfl ?_
            have tf58 := (tyF (k := 5) hW t0 (by decide) rfl (by decide) : KA (r p0 5) = 0 ∧ ok (r p0 5))
            refine gf_X7_38 hX dX7_step_58 (ty1 hW t0) (hW.1 _ tf58.2).1 ?_
            have tf61 := (tyF (k := 3) hW tf58 (by decide) rfl (by decide) : KA (r (r p0 5) 3) = 5 ∧ ok (r (r p0 5) 3))
            refine gf_X7_192 hX dX7_step_61 (ty1 hW tf58) (hW.1 _ tf61.2).1 ?_
            refine g_iload_n hX dX7_step_64 (i := 2) rfl (j := 2) rfl ?_
            refine g_iload_n hX dX7_step_65 (i := 3) rfl (j := 3) rfl ?_
            obtain ⟨v66, e66, hF⟩ := bi_some hF
            refine g_callV (As := [.ref (b + (r (r p0 5) 3)), .int a2, .int a3]) (rest := []) (stk := [.int v66]) hX dX7_step_66 (ctX2_tell hM hW (r p0 6) (r (r p0 5) 3) a2 a3 tf54 tf61 e66) (by decide) (by decide) wm_X7_205 wi_X2_tell ws_X2_tell wz_X2 wc_X2_tell hyX2_tell rfl (ci := 2) rfl (by decide) tf54.1 (hW.1 _ tf54.2).1 (hW.1 _ tf54.2).2 (Nat.le_of_ble_eq_true rfl) rfl rfl ?_ rfl rfl
            obtain rfl := Option.some.inj hF
            exact g_iret hX dX7_step_69 hR
          · have hF := ite_f hF c47
            refine g_bipush (v := (-12)) hX dX7_step_50 (by decide) ?_
            obtain rfl := Option.some.inj hF
            exact g_iret hX dX7_step_52 hR
      · have hF := ite_f hF c13
        refine g_bipush (v := (-2)) hX dX7_step_16 (by decide) ?_
        obtain rfl := Option.some.inj hF
        exact g_iret hX dX7_step_18 hR
theorem ctX7_step {b N sz : Nat} {ok : Nat → Prop} {h : HH} {r : RR} {w : Int32 × HH} (hM : N ≤ MA) (hW : WT KA lnA ok N r) (hA : ∀ p, KA p < 16 → ok p) (p0 : Nat) (a1 : Int32) (a2 : Int32) (a3 : Int32) (t0 : KA p0 = 7 ∧ ok p0) (hF : fX7_step h r p0 a1 a2 a3 = some w) : CT yX7_step cX7_step 4 (some FieldType.int) 6 b KA lnA MA N sz [.ref (b + p0), .int a1, .int a2, .int a3] h r N sz (some (.int w.1)) w.2 r 0 0 :=
  CT_of (by decide) rfl (Nat.le_of_ble_eq_true rfl) (by decide) trivial (fun X hX hR => kX7_step hX hM hW hA p0 a1 a2 a3 t0 hR hF)
/-! X7_would -/
def fX7_would (h : HH) (r : RR) (p0 : Nat) (a1 : Int32) : Option (Int32 × HH) := if a1 < 0 then (some ((-2), h)) else (if a1 ≤ 3 then ((fX0_settle h r (r p0 5) (r p0 0) (h (r p0 0) 5)).bind (fun h27 => if a1 = 0 then (some (h27 (r p0 5) 8, h27)) else (if a1 = 1 then (bi2 (fX7_stepsOf h27 r p0 0) (fun v66 h66 => some (v66, h66))) else (if a1 = 2 then (bi2 (fX7_stepsOf h27 r p0 1) (fun v72 h72 => some (v72, h72))) else ((fX0_areAlike h27 r (r p0 5)).bind (fun v80 => (fX7_bit h27 r v80).bind (fun v83 => some (v83, h27)))))))) else (some ((-2), h)))
set_option maxRecDepth 100000 in
set_option maxHeartbeats 4000000 in
theorem kX7_would {X : XT} {b N sz : Nat} {ok : Nat → Prop} {h : HH} {r : RR} {w : Int32 × HH} (hX : XOK X RX7 cX7_would 2 6) (hM : N ≤ MA) (hW : WT KA lnA ok N r) (hA : ∀ p, KA p < 16 → ok p) (p0 : Nat) (a1 : Int32) (t0 : KA p0 = 7 ∧ ok p0) (hR : XR X b KA lnA MA (some FieldType.int) 0 0 N sz (some (.int w.1)) w.2 r) (hF : fX7_would h r p0 a1 = some w) : GX X b KA lnA MA 2 0 0 N sz 0 [(0, .ref (b + p0)), (1, .int a1)] [] h r := by
  rw [fX7_would] at hF
  refine g_iload_n hX dX7_would_0 (i := 1) rfl (j := 1) rfl ?_
  refine g_if_lt (tgt := 9) hX dX7_would_1 (by decide) (fun c1 => ?_) (fun c1 => ?_)
  · have hF := ite_t hF c1
    refine g_bipush (v := (-2)) hX dX7_would_9 (by decide) ?_
    obtain rfl := Option.some.inj hF
    exact g_iret hX dX7_would_11 hR
  · have hF := ite_f hF c1
    refine g_iload_n hX dX7_would_4 (i := 1) rfl (j := 1) rfl ?_
    refine g_iconst (v := 3) hX dX7_would_5 (by decide) ?_
    refine g_icmp_le (tgt := 12) hX dX7_would_6 (by decide) (fun c6 => ?_) (fun c6 => ?_)
    · have hF := ite_t hF c6
      refine g_aload_n hX dX7_would_12 (i := 0) rfl (j := 0) rfl ?_
      have tf13 := (tyF (k := 5) hW t0 (by decide) rfl (by decide) : KA (r p0 5) = 0 ∧ ok (r p0 5))
      refine gf_X7_38 hX dX7_would_13 (ty1 hW t0) (hW.1 _ tf13.2).1 ?_
      refine g_aload_n hX dX7_would_16 (i := 0) rfl (j := 0) rfl ?_
      have tf17 := (tyF (k := 0) hW t0 (by decide) rfl (by decide) : KA (r p0 0) = 6 ∧ ok (r p0 0))
      refine gf_X7_12 hX dX7_would_17 (ty1 hW t0) (hW.1 _ tf17.2).1 ?_
      refine g_aload_n hX dX7_would_20 (i := 0) rfl (j := 0) rfl ?_
      have tf21 := (tyF (k := 0) hW t0 (by decide) rfl (by decide) : KA (r p0 0) = 6 ∧ ok (r p0 0))
      refine gf_X7_12 hX dX7_would_21 (ty1 hW t0) (hW.1 _ tf21.2).1 ?_
      refine gf_X7_179 hX dX7_would_24 (ty1 hW tf21) ?_
      obtain ⟨h27, e27, hF⟩ := bi_some hF
      refine g_callV (As := [.ref (b + (r p0 0)), .int (h (r p0 0) 5)]) (rest := []) (stk := []) hX dX7_would_27 (ctX0_settle hM hW hA (r p0 5) (r p0 0) (h (r p0 0) 5) tf13 tf17 e27) (by decide) (by decide) wm_X7_182 wi_X0_settle ws_X0_settle wz_X0 wc_X0_settle hyX0_settle rfl (ci := 0) rfl (by decide) tf13.1 (hW.1 _ tf13.2).1 (hW.1 _ tf13.2).2 (Nat.le_of_ble_eq_true rfl) rfl rfl ?_ rfl rfl
      refine g_iload_n hX dX7_would_30 (i := 1) rfl (j := 1) rfl ?_
      by_cases c31_0 : a1 = 0
      · have hF := ite_t hF c31_0
        refine g_tin (tgt := 56) hX dX7_would_31 c31_0 (by decide) (by decide) rfl (by decide) ?_
        refine g_aload_n hX dX7_would_56 (i := 0) rfl (j := 0) rfl ?_
        have tf57 := (tyF (k := 5) hW t0 (by decide) rfl (by decide) : KA (r p0 5) = 0 ∧ ok (r p0 5))
        refine gf_X7_38 hX dX7_would_57 (ty1 hW t0) (hW.1 _ tf57.2).1 ?_
        refine gf_X7_196 hX dX7_would_60 (ty1 hW tf57) ?_
        obtain rfl := Option.some.inj hF
        exact g_iret hX dX7_would_63 hR
      have hF := ite_f hF c31_0
      by_cases c31_1 : a1 = 1
      · have hF := ite_t hF c31_1
        refine g_tin (tgt := 64) hX dX7_would_31 c31_1 (by decide) (by decide) rfl (by decide) ?_
        refine g_aload_n hX dX7_would_64 (i := 0) rfl (j := 0) rfl ?_
        refine g_iconst (v := 0) hX dX7_would_65 (by decide) ?_
        obtain ⟨v66, h66, e66, hF⟩ := bi2_some hF
        refine g_callV (As := [.int 0]) (rest := []) (stk := [.int v66]) hX dX7_would_66 (ctX7_stepsOf hM hW hA p0 0 t0 e66) (by decide) (by decide) wm_X7_186 wi_X7_stepsOf ws_X7_stepsOf wz_X7 wc_X7_stepsOf hyX7_stepsOf rfl (ci := 7) rfl (by decide) t0.1 (hW.1 _ t0.2).1 (hW.1 _ t0.2).2 (Nat.le_of_ble_eq_true rfl) rfl rfl ?_ rfl rfl
        obtain rfl := Option.some.inj hF
        exact g_iret hX dX7_would_69 hR
      have hF := ite_f hF c31_1
      by_cases c31_2 : a1 = 2
      · have hF := ite_t hF c31_2
        refine g_tin (tgt := 70) hX dX7_would_31 c31_2 (by decide) (by decide) rfl (by decide) ?_
        refine g_aload_n hX dX7_would_70 (i := 0) rfl (j := 0) rfl ?_
        refine g_iconst (v := 1) hX dX7_would_71 (by decide) ?_
        obtain ⟨v72, h72, e72, hF⟩ := bi2_some hF
        refine g_callV (As := [.int 1]) (rest := []) (stk := [.int v72]) hX dX7_would_72 (ctX7_stepsOf hM hW hA p0 1 t0 e72) (by decide) (by decide) wm_X7_186 wi_X7_stepsOf ws_X7_stepsOf wz_X7 wc_X7_stepsOf hyX7_stepsOf rfl (ci := 7) rfl (by decide) t0.1 (hW.1 _ t0.2).1 (hW.1 _ t0.2).2 (Nat.le_of_ble_eq_true rfl) rfl rfl ?_ rfl rfl
        obtain rfl := Option.some.inj hF
        exact g_iret hX dX7_would_75 hR
      have hF := ite_f hF c31_2
      have n31_0 := lv_neT c31_0 (a := 0) (by decide)
      have n31_1 := lv_neT c31_1 (a := 1) (by decide)
      have n31_2 := lv_neT c31_2 (a := 2) (by decide)
      refine g_tout (tgt := 76) hX dX7_would_31 (by omega) (by decide) ?_
      refine g_aload_n hX dX7_would_76 (i := 0) rfl (j := 0) rfl ?_
      have tf77 := (tyF (k := 5) hW t0 (by decide) rfl (by decide) : KA (r p0 5) = 0 ∧ ok (r p0 5))
      refine gf_X7_38 hX dX7_would_77 (ty1 hW t0) (hW.1 _ tf77.2).1 ?_
      obtain ⟨v80, e80, hF⟩ := bi_some hF
      refine g_callV (As := []) (rest := []) (stk := [.int v80]) hX dX7_would_80 (ctX0_areAlike hM hW hA (r p0 5) tf77 e80) (by decide) (by decide) wm_X7_209 wi_X0_areAlike ws_X0_areAlike wz_X0 wc_X0_areAlike hyX0_areAlike rfl (ci := 0) rfl (by decide) tf77.1 (hW.1 _ tf77.2).1 (hW.1 _ tf77.2).2 (Nat.le_of_ble_eq_true rfl) rfl rfl ?_ rfl rfl
      obtain ⟨v83, e83, hF⟩ := bi_some hF
      refine g_callS (As := [.int v80]) (rest := []) (stk := [.int v83]) hX dX7_would_83 (ctX7_bit hM hW v80 e83) (by decide) (by decide) wm_X7_87 wt_X7_bit wz_X7 wc_X7_bit hyX7_bit rfl (Nat.le_of_ble_eq_true rfl) rfl rfl ?_ rfl rfl
      obtain rfl := Option.some.inj hF
      exact g_iret hX dX7_would_86 hR
    · have hF := ite_f hF c6
      refine g_bipush (v := (-2)) hX dX7_would_9 (by decide) ?_
      obtain rfl := Option.some.inj hF
      exact g_iret hX dX7_would_11 hR
theorem ctX7_would {b N sz : Nat} {ok : Nat → Prop} {h : HH} {r : RR} {w : Int32 × HH} (hM : N ≤ MA) (hW : WT KA lnA ok N r) (hA : ∀ p, KA p < 16 → ok p) (p0 : Nat) (a1 : Int32) (t0 : KA p0 = 7 ∧ ok p0) (hF : fX7_would h r p0 a1 = some w) : CT yX7_would cX7_would 2 (some FieldType.int) 6 b KA lnA MA N sz [.ref (b + p0), .int a1] h r N sz (some (.int w.1)) w.2 r 0 0 :=
  CT_of (by decide) rfl (Nat.le_of_ble_eq_true rfl) (by decide) trivial (fun X hX hR => kX7_would hX hM hW hA p0 a1 t0 hR hF)
/-! X7_spared -/
def fX7_spared (h : HH) (r : RR) (p0 : Nat) (a1 : Int32) (a2 : Int32) : Option (Int32 × HH) := (fX7_isSide h r a1).bind (fun v1 => if v1 = 0 then (some ((-2), h)) else ((fX6_isThing h r (r p0 0) a2).bind (fun v12 => if ¬ v12 = 0 then ((fX0_settle h r (r p0 5) (r p0 0) (h (r p0 0) 5)).bind (fun h36 => gd (inb a1 (lnA (r (r p0 5) 2))) (gd (inb a2 (lnA (r (r (r p0 5) 2) (ix a1)))) (if ¬ ((h36 (r (r (r p0 5) 2) (ix a1)) (ix a2)) &&& 8) = 0 then (lt (h36 (r p0 5) 8) (fun y66 => (fX6_become h36 r (r p0 2) (r p0 0)).bind (fun h75 => gd (inb a1 (lnA (r (r p0 2) 2))) (gd (inb 2 (lnA (r (r p0 0) 2))) (gd (inb a2 (lnA (r (r (r (r p0 0) 2) (ix 2)) 3))) (gd (inb a2 (lnA (r (r (r (r p0 2) 2) (ix a1)) 3))) (lt (up h75 (r (r (r (r p0 2) 2) (ix a1)) 3) (ix a2) (h75 (r (r (r (r p0 0) 2) (ix 2)) 3) (ix a2))) (fun h105 => (fX0_settle h105 r (r p0 5) (r p0 2) (h105 (r p0 2) 5)).bind (fun h121 => some (y66 - (h121 (r p0 5) 8), h121)))))))))) else (some ((-3), h36)))))) else (some ((-2), h)))))
set_option maxRecDepth 100000 in
set_option maxHeartbeats 4000000 in
theorem kX7_spared {X : XT} {b N sz : Nat} {ok : Nat → Prop} {h : HH} {r : RR} {w : Int32 × HH} (hX : XOK X RX7 cX7_spared 4 6) (hM : N ≤ MA) (hW : WT KA lnA ok N r) (hA : ∀ p, KA p < 16 → ok p) (p0 : Nat) (a1 : Int32) (a2 : Int32) (t0 : KA p0 = 7 ∧ ok p0) (hR : XR X b KA lnA MA (some FieldType.int) 0 0 N sz (some (.int w.1)) w.2 r) (hF : fX7_spared h r p0 a1 a2 = some w) : GX X b KA lnA MA 4 0 0 N sz 0 [(0, .ref (b + p0)), (1, .int a1), (2, .int a2)] [] h r := by
  rw [fX7_spared] at hF
  refine g_iload_n hX dX7_spared_0 (i := 1) rfl (j := 1) rfl ?_
  obtain ⟨v1, e1, hF⟩ := bi_some hF
  refine g_callS (As := [.int a1]) (rest := []) (stk := [.int v1]) hX dX7_spared_1 (ctX7_isSide hM hW a1 e1) (by decide) (by decide) wm_X7_176 wt_X7_isSide wz_X7 wc_X7_isSide hyX7_isSide rfl (Nat.le_of_ble_eq_true rfl) rfl rfl ?_ rfl rfl
  refine g_if_eq (tgt := 18) hX dX7_spared_4 (by decide) (fun c4 => ?_) (fun c4 => ?_)
  · have hF := ite_t hF c4
    refine g_bipush (v := (-2)) hX dX7_spared_18 (by decide) ?_
    obtain rfl := Option.some.inj hF
    exact g_iret hX dX7_spared_20 hR
  · have hF := ite_f hF c4
    refine g_aload_n hX dX7_spared_7 (i := 0) rfl (j := 0) rfl ?_
    have tf8 := (tyF (k := 0) hW t0 (by decide) rfl (by decide) : KA (r p0 0) = 6 ∧ ok (r p0 0))
    refine gf_X7_12 hX dX7_spared_8 (ty1 hW t0) (hW.1 _ tf8.2).1 ?_
    refine g_iload_n hX dX7_spared_11 (i := 2) rfl (j := 2) rfl ?_
    obtain ⟨v12, e12, hF⟩ := bi_some hF
    refine g_callV (As := [.int a2]) (rest := []) (stk := [.int v12]) hX dX7_spared_12 (ctX6_isThing hM hW (r p0 0) a2 tf8 e12) (by decide) (by decide) wm_X7_75 wi_X6_isThing ws_X6_isThing wz_X6 wc_X6_isThing hyX6_isThing rfl (ci := 6) rfl (by decide) tf8.1 (hW.1 _ tf8.2).1 (hW.1 _ tf8.2).2 (Nat.le_of_ble_eq_true rfl) rfl rfl ?_ rfl rfl
    refine g_if_ne (tgt := 21) hX dX7_spared_15 (by decide) (fun c15 => ?_) (fun c15 => ?_)
    · have hF := ite_t hF c15
      refine g_aload_n hX dX7_spared_21 (i := 0) rfl (j := 0) rfl ?_
      have tf22 := (tyF (k := 5) hW t0 (by decide) rfl (by decide) : KA (r p0 5) = 0 ∧ ok (r p0 5))
      refine gf_X7_38 hX dX7_spared_22 (ty1 hW t0) (hW.1 _ tf22.2).1 ?_
      refine g_aload_n hX dX7_spared_25 (i := 0) rfl (j := 0) rfl ?_
      have tf26 := (tyF (k := 0) hW t0 (by decide) rfl (by decide) : KA (r p0 0) = 6 ∧ ok (r p0 0))
      refine gf_X7_12 hX dX7_spared_26 (ty1 hW t0) (hW.1 _ tf26.2).1 ?_
      refine g_aload_n hX dX7_spared_29 (i := 0) rfl (j := 0) rfl ?_
      have tf30 := (tyF (k := 0) hW t0 (by decide) rfl (by decide) : KA (r p0 0) = 6 ∧ ok (r p0 0))
      refine gf_X7_12 hX dX7_spared_30 (ty1 hW t0) (hW.1 _ tf30.2).1 ?_
      refine gf_X7_179 hX dX7_spared_33 (ty1 hW tf30) ?_
      obtain ⟨h36, e36, hF⟩ := bi_some hF
      refine g_callV (As := [.ref (b + (r p0 0)), .int (h (r p0 0) 5)]) (rest := []) (stk := []) hX dX7_spared_36 (ctX0_settle hM hW hA (r p0 5) (r p0 0) (h (r p0 0) 5) tf22 tf26 e36) (by decide) (by decide) wm_X7_182 wi_X0_settle ws_X0_settle wz_X0 wc_X0_settle hyX0_settle rfl (ci := 0) rfl (by decide) tf22.1 (hW.1 _ tf22.2).1 (hW.1 _ tf22.2).2 (Nat.le_of_ble_eq_true rfl) rfl rfl ?_ rfl rfl
      refine g_aload_n hX dX7_spared_39 (i := 0) rfl (j := 0) rfl ?_
      have tf40 := (tyF (k := 5) hW t0 (by decide) rfl (by decide) : KA (r p0 5) = 0 ∧ ok (r p0 5))
      refine gf_X7_38 hX dX7_spared_40 (ty1 hW t0) (hW.1 _ tf40.2).1 ?_
      have tf43 := (tyF (k := 2) hW tf40 (by decide) rfl (by decide) : KA (r (r p0 5) 2) = 14 ∧ ok (r (r p0 5) 2))
      refine gf_X7_122 hX dX7_spared_43 (ty1 hW tf40) (hW.1 _ tf43.2).1 ?_
      refine g_iload_n hX dX7_spared_46 (i := 1) rfl (j := 1) rfl ?_
      obtain ⟨g47, hF⟩ := gd_some hF
      have ta47 : KA (r (r (r p0 5) 2) (ix a1)) = 9 ∧ ok (r (r (r p0 5) 2) (ix a1)) := tyA hW tf43 (by decide) rfl (by decide) g47
      refine g_aald hX dX7_spared_47 tf43.1 (by decide) (by decide) (hW.1 _ tf43.2).1 (hW.1 _ tf43.2).2 g47 (hW.1 _ ta47.2).1 ?_
      refine g_iload_n hX dX7_spared_48 (i := 2) rfl (j := 2) rfl ?_
      obtain ⟨g49, hF⟩ := gd_some hF
      refine g_iald hX dX7_spared_49 ta47.1 (hW.1 _ ta47.2).1 (hW.1 _ ta47.2).2 g49 ?_
      refine g_bipush (v := 8) hX dX7_spared_50 (by decide) ?_
      refine g_iand hX dX7_spared_52 ?_
      refine g_if_ne (tgt := 59) hX dX7_spared_53 (by decide) (fun c53 => ?_) (fun c53 => ?_)
      · have hF := ite_t hF c53
        refine g_aload_n hX dX7_spared_59 (i := 0) rfl (j := 0) rfl ?_
        have tf60 := (tyF (k := 5) hW t0 (by decide) rfl (by decide) : KA (r p0 5) = 0 ∧ ok (r p0 5))
        refine gf_X7_38 hX dX7_spared_60 (ty1 hW t0) (hW.1 _ tf60.2).1 ?_
        refine gf_X7_196 hX dX7_spared_63 (ty1 hW tf60) ?_
        obtain ⟨y66, e66, hF⟩ := lt_some hF
        refine g_topi e66 ?_
        refine g_istore_n (L' := [(3, .int y66), (0, .ref (b + p0)), (1, .int a1), (2, .int a2)]) hX dX7_spared_66 (i := 3) rfl (by decide) rfl ?_
        refine g_aload_n hX dX7_spared_67 (i := 0) rfl (j := 1) rfl ?_
        have tf68 := (tyF (k := 2) hW t0 (by decide) rfl (by decide) : KA (r p0 2) = 6 ∧ ok (r p0 2))
        refine gf_X7_19 hX dX7_spared_68 (ty1 hW t0) (hW.1 _ tf68.2).1 ?_
        refine g_aload_n hX dX7_spared_71 (i := 0) rfl (j := 1) rfl ?_
        have tf72 := (tyF (k := 0) hW t0 (by decide) rfl (by decide) : KA (r p0 0) = 6 ∧ ok (r p0 0))
        refine gf_X7_12 hX dX7_spared_72 (ty1 hW t0) (hW.1 _ tf72.2).1 ?_
        obtain ⟨h75, e75, hF⟩ := bi_some hF
        refine g_callV (As := [.ref (b + (r p0 0))]) (rest := []) (stk := []) hX dX7_spared_75 (ctX6_become hM hW (r p0 2) (r p0 0) tf68 tf72 e75) (by decide) (by decide) wm_X7_213 wi_X6_become ws_X6_become wz_X6 wc_X6_become hyX6_become rfl (ci := 6) rfl (by decide) tf68.1 (hW.1 _ tf68.2).1 (hW.1 _ tf68.2).2 (Nat.le_of_ble_eq_true rfl) rfl rfl ?_ rfl rfl
        refine g_aload_n hX dX7_spared_78 (i := 0) rfl (j := 1) rfl ?_
        have tf79 := (tyF (k := 2) hW t0 (by decide) rfl (by decide) : KA (r p0 2) = 6 ∧ ok (r p0 2))
        refine gf_X7_19 hX dX7_spared_79 (ty1 hW t0) (hW.1 _ tf79.2).1 ?_
        have tf82 := (tyF (k := 2) hW tf79 (by decide) rfl (by decide) : KA (r (r p0 2) 2) = 13 ∧ ok (r (r p0 2) 2))
        refine gf_X7_78 hX dX7_spared_82 (ty1 hW tf79) (hW.1 _ tf82.2).1 ?_
        refine g_iload_n hX dX7_spared_85 (i := 1) rfl (j := 2) rfl ?_
        obtain ⟨g86, hF⟩ := gd_some hF
        have ta86 : KA (r (r (r p0 2) 2) (ix a1)) = 5 ∧ ok (r (r (r p0 2) 2) (ix a1)) := tyA hW tf82 (by decide) rfl (by decide) g86
        refine g_aald hX dX7_spared_86 tf82.1 (by decide) (by decide) (hW.1 _ tf82.2).1 (hW.1 _ tf82.2).2 g86 (hW.1 _ ta86.2).1 ?_
        have tf87 := (tyF (k := 3) hW ta86 (by decide) rfl (by decide) : KA (r (r (r (r p0 2) 2) (ix a1)) 3) = 9 ∧ ok (r (r (r (r p0 2) 2) (ix a1)) 3))
        refine gf_X7_98 hX dX7_spared_87 (ty1 hW ta86) (hW.1 _ tf87.2).1 ?_
        refine g_iload_n hX dX7_spared_90 (i := 2) rfl (j := 3) rfl ?_
        refine g_aload_n hX dX7_spared_91 (i := 0) rfl (j := 1) rfl ?_
        have tf92 := (tyF (k := 0) hW t0 (by decide) rfl (by decide) : KA (r p0 0) = 6 ∧ ok (r p0 0))
        refine gf_X7_12 hX dX7_spared_92 (ty1 hW t0) (hW.1 _ tf92.2).1 ?_
        have tf95 := (tyF (k := 2) hW tf92 (by decide) rfl (by decide) : KA (r (r p0 0) 2) = 13 ∧ ok (r (r p0 0) 2))
        refine gf_X7_78 hX dX7_spared_95 (ty1 hW tf92) (hW.1 _ tf95.2).1 ?_
        refine g_iconst (v := 2) hX dX7_spared_98 (by decide) ?_
        obtain ⟨g99, hF⟩ := gd_some hF
        have ta99 : KA (r (r (r p0 0) 2) (ix 2)) = 5 ∧ ok (r (r (r p0 0) 2) (ix 2)) := tyA hW tf95 (by decide) rfl (by decide) g99
        refine g_aald hX dX7_spared_99 tf95.1 (by decide) (by decide) (hW.1 _ tf95.2).1 (hW.1 _ tf95.2).2 g99 (hW.1 _ ta99.2).1 ?_
        have tf100 := (tyF (k := 3) hW ta99 (by decide) rfl (by decide) : KA (r (r (r (r p0 0) 2) (ix 2)) 3) = 9 ∧ ok (r (r (r (r p0 0) 2) (ix 2)) 3))
        refine gf_X7_98 hX dX7_spared_100 (ty1 hW ta99) (hW.1 _ tf100.2).1 ?_
        refine g_iload_n hX dX7_spared_103 (i := 2) rfl (j := 3) rfl ?_
        obtain ⟨g104, hF⟩ := gd_some hF
        refine g_iald hX dX7_spared_104 tf100.1 (hW.1 _ tf100.2).1 (hW.1 _ tf100.2).2 g104 ?_
        obtain ⟨g105, hF⟩ := gd_some hF
        obtain ⟨h105, e105, hF⟩ := lt_some hF
        refine g_iast hX dX7_spared_105 tf87.1 (hW.1 _ tf87.2).1 (hW.1 _ tf87.2).2 hM g105 e105 ?_
        refine g_aload_n hX dX7_spared_106 (i := 0) rfl (j := 1) rfl ?_
        have tf107 := (tyF (k := 5) hW t0 (by decide) rfl (by decide) : KA (r p0 5) = 0 ∧ ok (r p0 5))
        refine gf_X7_38 hX dX7_spared_107 (ty1 hW t0) (hW.1 _ tf107.2).1 ?_
        refine g_aload_n hX dX7_spared_110 (i := 0) rfl (j := 1) rfl ?_
        have tf111 := (tyF (k := 2) hW t0 (by decide) rfl (by decide) : KA (r p0 2) = 6 ∧ ok (r p0 2))
        refine gf_X7_19 hX dX7_spared_111 (ty1 hW t0) (hW.1 _ tf111.2).1 ?_
        refine g_aload_n hX dX7_spared_114 (i := 0) rfl (j := 1) rfl ?_
        have tf115 := (tyF (k := 2) hW t0 (by decide) rfl (by decide) : KA (r p0 2) = 6 ∧ ok (r p0 2))
        refine gf_X7_19 hX dX7_spared_115 (ty1 hW t0) (hW.1 _ tf115.2).1 ?_
        refine gf_X7_179 hX dX7_spared_118 (ty1 hW tf115) ?_
        obtain ⟨h121, e121, hF⟩ := bi_some hF
        refine g_callV (As := [.ref (b + (r p0 2)), .int (h105 (r p0 2) 5)]) (rest := []) (stk := []) hX dX7_spared_121 (ctX0_settle hM hW hA (r p0 5) (r p0 2) (h105 (r p0 2) 5) tf107 tf111 e121) (by decide) (by decide) wm_X7_182 wi_X0_settle ws_X0_settle wz_X0 wc_X0_settle hyX0_settle rfl (ci := 0) rfl (by decide) tf107.1 (hW.1 _ tf107.2).1 (hW.1 _ tf107.2).2 (Nat.le_of_ble_eq_true rfl) rfl rfl ?_ rfl rfl
        refine g_iload_n hX dX7_spared_124 (i := 3) rfl (j := 0) rfl ?_
        refine g_aload_n hX dX7_spared_125 (i := 0) rfl (j := 1) rfl ?_
        have tf126 := (tyF (k := 5) hW t0 (by decide) rfl (by decide) : KA (r p0 5) = 0 ∧ ok (r p0 5))
        refine gf_X7_38 hX dX7_spared_126 (ty1 hW t0) (hW.1 _ tf126.2).1 ?_
        refine gf_X7_196 hX dX7_spared_129 (ty1 hW tf126) ?_
        refine g_isub hX dX7_spared_132 ?_
        obtain rfl := Option.some.inj hF
        exact g_iret hX dX7_spared_133 hR
      · have hF := ite_f hF (fun z => z c53)
        refine g_bipush (v := (-3)) hX dX7_spared_56 (by decide) ?_
        obtain rfl := Option.some.inj hF
        exact g_iret hX dX7_spared_58 hR
    · have hF := ite_f hF (fun z => z c15)
      refine g_bipush (v := (-2)) hX dX7_spared_18 (by decide) ?_
      obtain rfl := Option.some.inj hF
      exact g_iret hX dX7_spared_20 hR
theorem ctX7_spared {b N sz : Nat} {ok : Nat → Prop} {h : HH} {r : RR} {w : Int32 × HH} (hM : N ≤ MA) (hW : WT KA lnA ok N r) (hA : ∀ p, KA p < 16 → ok p) (p0 : Nat) (a1 : Int32) (a2 : Int32) (t0 : KA p0 = 7 ∧ ok p0) (hF : fX7_spared h r p0 a1 a2 = some w) : CT yX7_spared cX7_spared 4 (some FieldType.int) 6 b KA lnA MA N sz [.ref (b + p0), .int a1, .int a2] h r N sz (some (.int w.1)) w.2 r 0 0 :=
  CT_of (by decide) rfl (Nat.le_of_ble_eq_true rfl) (by decide) trivial (fun X hX hR => kX7_spared hX hM hW hA p0 a1 a2 t0 hR hF)
/-! X7_nextSeed -/
def fX7_nextSeed (h : HH) (r : RR) (a0 : Int32) : Option (Int32) := some ((a0 * 1103515245) + 12345)
set_option maxRecDepth 100000 in
set_option maxHeartbeats 4000000 in
theorem kX7_nextSeed {X : XT} {b N sz : Nat} {ok : Nat → Prop} {h : HH} {r : RR} {w : Int32} (hX : XOK X RX7 cX7_nextSeed 1 1) (hM : N ≤ MA) (hW : WT KA lnA ok N r) (a0 : Int32) (hR : XR X b KA lnA MA (some FieldType.int) 0 0 N sz (some (.int w)) h r) (hF : fX7_nextSeed h r a0 = some w) : GX X b KA lnA MA 1 0 0 N sz 0 [(0, .int a0)] [] h r := by
  rw [fX7_nextSeed] at hF
  refine g_iload_n hX dX7_nextSeed_0 (i := 0) rfl (j := 0) rfl ?_
  refine g_ldcw hX dX7_nextSeed_1 wk_X7_278 ?_
  refine g_imul hX dX7_nextSeed_4 ?_
  refine g_sipush (v := 12345) hX dX7_nextSeed_5 (by decide) ?_
  refine g_iadd hX dX7_nextSeed_8 ?_
  obtain rfl := Option.some.inj hF
  exact g_iret hX dX7_nextSeed_9 hR
theorem ctX7_nextSeed {b N sz : Nat} {ok : Nat → Prop} {h : HH} {r : RR} {w : Int32} (hM : N ≤ MA) (hW : WT KA lnA ok N r) (a0 : Int32) (hF : fX7_nextSeed h r a0 = some w) : CT yX7_nextSeed cX7_nextSeed 1 (some FieldType.int) 1 b KA lnA MA N sz [.int a0] h r N sz (some (.int w)) h r 0 0 :=
  CT_of (by decide) rfl (Nat.le_of_ble_eq_true rfl) (by decide) trivial (fun X hX hR => kX7_nextSeed hX hM hW a0 hR hF)
/-! X7_clashesDrawn -/
def fX7_clashesDrawn_b158 (r : RR) (p0 : Nat) (a1 : Int32) (a2 : Int32) (k29 : HH → Int32 → Int32 → Int32 → Option (Int32 × HH)) (h : HH) (x3 : Int32) (x4 : Int32) (x5 : Int32) : Option (Int32 × HH) := k29 h x3 x4 (x5 + 1)
def fX7_clashesDrawn_b29 (r : RR) (p0 : Nat) (a1 : Int32) (a2 : Int32) : Nat → HH → Int32 → Int32 → Int32 → Option (Int32 × HH)
  | 0, _, _, _, _ => none
  | n + 1, h, x3, x4, x5 => if a2 ≤ x5 then ((fX0_settle h r (r p0 5) (r p0 2) (h (r p0 2) 5)).bind (fun h179 => some (h179 (r p0 5) 8, h179))) else ((fX7_nextSeed h r x4).bind (fun v37 => gd (decide (¬ 2 = 0)) (lt (irm (ushr v37 9) 2) (fun y49 => (fX7_nextSeed h r v37).bind (fun v53 => gd (decide (¬ x3 = 0)) (lt (irm (ushr v53 9) x3) (fun y65 => (fX7_nextSeed h r v53).bind (fun v69 => gd (decide (¬ 3 = 0)) (lt (irm (ushr v69 9) 3) (fun y81 => (fX7_nextSeed h r v69).bind (fun v85 => gd (decide (¬ 50 = 0)) (lt (irm (ushr v85 9) 50) (fun y98 => if ¬ y81 = 0 then (if ¬ y81 = 1 then (bi2 (fX6_erase h r (r p0 2) y49 y65) (fun v154 h154 => fX7_clashesDrawn_b158 r p0 a1 a2 (fun h_ z3_ z4_ z5_ => fX7_clashesDrawn_b29 r p0 a1 a2 n h_ z3_ z4_ z5_) h154 x3 v85 x5)) else (bi2 (fX6_carry h r (r p0 2) y49 y65 (-1) y98) (fun v139 h139 => fX7_clashesDrawn_b158 r p0 a1 a2 (fun h_ z3_ z4_ z5_ => fX7_clashesDrawn_b29 r p0 a1 a2 n h_ z3_ z4_ z5_) h139 x3 v85 x5))) else (bi2 (fX6_rewrite h r (r p0 2) y49 y65 y98) (fun v115 h115 => fX7_clashesDrawn_b158 r p0 a1 a2 (fun h_ z3_ z4_ z5_ => fX7_clashesDrawn_b29 r p0 a1 a2 n h_ z3_ z4_ z5_) h115 x3 v85 x5)))))))))))))))
def fX7_clashesDrawn (h : HH) (r : RR) (p0 : Nat) (a1 : Int32) (a2 : Int32) : Option (Int32 × HH) := (fX6_become h r (r p0 2) (r p0 0)).bind (fun h8 => lt (mx (h8 (r p0 2) 0) 1) (fun y22 => fX7_clashesDrawn_b29 r p0 a1 a2 lpF h8 y22 a1 0))
set_option maxRecDepth 100000 in
set_option maxHeartbeats 4000000 in
theorem kX7_clashesDrawn_b158 {X : XT} {b N sz : Nat} {ok : Nat → Prop} {r : RR} {w : Int32 × HH} (hX : XOK X RX7 cX7_clashesDrawn 10 6) (hM : N ≤ MA) (hW : WT KA lnA ok N r) (hA : ∀ p, KA p < 16 → ok p) (p0 : Nat) (a1 : Int32) (a2 : Int32) (t0 : KA p0 = 7 ∧ ok p0) (hR : XR X b KA lnA MA (some FieldType.int) 0 0 N sz (some (.int w.1)) w.2 r) (k29 : HH → Int32 → Int32 → Int32 → Option (Int32 × HH)) (hk29 : ∀ (h : HH) (x3 : Int32) (x4 : Int32) (x5 : Int32), k29 h x3 x4 x5 = some w → GX X b KA lnA MA 10 0 0 N sz 29 [(0, .ref (b + p0)), (1, .int a1), (2, .int a2), (3, .int x3), (4, .int x4), (5, .int x5)] [] h r) (h : HH) (x3 : Int32) (x4 : Int32) (x5 : Int32) (hF : fX7_clashesDrawn_b158 r p0 a1 a2 k29 h x3 x4 x5 = some w) : GX X b KA lnA MA 10 0 0 N sz 158 [(0, .ref (b + p0)), (1, .int a1), (2, .int a2), (3, .int x3), (4, .int x4), (5, .int x5)] [] h r := by
  rw [fX7_clashesDrawn_b158] at hF
  refine g_iinc (L' := [(5, .int (x5 + 1)), (0, .ref (b + p0)), (1, .int a1), (2, .int a2), (3, .int x3), (4, .int x4)]) (j := 5) hX dX7_clashesDrawn_158 rfl rfl (by decide) rfl ?_
  refine g_goto (tgt := 29) hX dX7_clashesDrawn_161 (by decide) ?_
  refine g_sub (L' := [(0, .ref (b + p0)), (1, .int a1), (2, .int a2), (3, .int x3), (4, .int x4), (5, .int (x5 + 1))]) [1, 2, 3, 4, 5, 0] rfl ?_
  exact hk29 h x3 x4 (x5 + 1) hF
set_option maxRecDepth 100000 in
set_option maxHeartbeats 4000000 in
theorem kX7_clashesDrawn_b29 {X : XT} {b N sz : Nat} {ok : Nat → Prop} {r : RR} {w : Int32 × HH} (hX : XOK X RX7 cX7_clashesDrawn 10 6) (hM : N ≤ MA) (hW : WT KA lnA ok N r) (hA : ∀ p, KA p < 16 → ok p) (p0 : Nat) (a1 : Int32) (a2 : Int32) (t0 : KA p0 = 7 ∧ ok p0) (hR : XR X b KA lnA MA (some FieldType.int) 0 0 N sz (some (.int w.1)) w.2 r) : ∀ (n : Nat) (h : HH) (x3 : Int32) (x4 : Int32) (x5 : Int32), fX7_clashesDrawn_b29 r p0 a1 a2 n h x3 x4 x5 = some w → GX X b KA lnA MA 10 0 0 N sz 29 [(0, .ref (b + p0)), (1, .int a1), (2, .int a2), (3, .int x3), (4, .int x4), (5, .int x5)] [] h r := by
  intro n
  induction n with
  | zero =>
    intro h x3 x4 x5 hF
    cases hF
  | succ n ih =>
    intro h x3 x4 x5 hF
    rw [fX7_clashesDrawn_b29] at hF
    refine g_iload hX dX7_clashesDrawn_29 (j := 5) rfl ?_
    refine g_iload_n hX dX7_clashesDrawn_31 (i := 2) rfl (j := 2) rfl ?_
    refine g_icmp_ge (tgt := 164) hX dX7_clashesDrawn_32 (by decide) (fun c32 => ?_) (fun c32 => ?_)
    · have hF := ite_t hF c32
      refine g_aload_n hX dX7_clashesDrawn_164 (i := 0) rfl (j := 0) rfl ?_
      have tf165 := (tyF (k := 5) hW t0 (by decide) rfl (by decide) : KA (r p0 5) = 0 ∧ ok (r p0 5))
      refine gf_X7_38 hX dX7_clashesDrawn_165 (ty1 hW t0) (hW.1 _ tf165.2).1 ?_
      refine g_aload_n hX dX7_clashesDrawn_168 (i := 0) rfl (j := 0) rfl ?_
      have tf169 := (tyF (k := 2) hW t0 (by decide) rfl (by decide) : KA (r p0 2) = 6 ∧ ok (r p0 2))
      refine gf_X7_19 hX dX7_clashesDrawn_169 (ty1 hW t0) (hW.1 _ tf169.2).1 ?_
      refine g_aload_n hX dX7_clashesDrawn_172 (i := 0) rfl (j := 0) rfl ?_
      have tf173 := (tyF (k := 2) hW t0 (by decide) rfl (by decide) : KA (r p0 2) = 6 ∧ ok (r p0 2))
      refine gf_X7_19 hX dX7_clashesDrawn_173 (ty1 hW t0) (hW.1 _ tf173.2).1 ?_
      refine gf_X7_179 hX dX7_clashesDrawn_176 (ty1 hW tf173) ?_
      obtain ⟨h179, e179, hF⟩ := bi_some hF
      refine g_callV (As := [.ref (b + (r p0 2)), .int (h (r p0 2) 5)]) (rest := []) (stk := []) hX dX7_clashesDrawn_179 (ctX0_settle hM hW hA (r p0 5) (r p0 2) (h (r p0 2) 5) tf165 tf169 e179) (by decide) (by decide) wm_X7_182 wi_X0_settle ws_X0_settle wz_X0 wc_X0_settle hyX0_settle rfl (ci := 0) rfl (by decide) tf165.1 (hW.1 _ tf165.2).1 (hW.1 _ tf165.2).2 (Nat.le_of_ble_eq_true rfl) rfl rfl ?_ rfl rfl
      refine g_aload_n hX dX7_clashesDrawn_182 (i := 0) rfl (j := 0) rfl ?_
      have tf183 := (tyF (k := 5) hW t0 (by decide) rfl (by decide) : KA (r p0 5) = 0 ∧ ok (r p0 5))
      refine gf_X7_38 hX dX7_clashesDrawn_183 (ty1 hW t0) (hW.1 _ tf183.2).1 ?_
      refine gf_X7_196 hX dX7_clashesDrawn_186 (ty1 hW tf183) ?_
      obtain rfl := Option.some.inj hF
      exact g_iret hX dX7_clashesDrawn_189 hR
    · have hF := ite_f hF c32
      refine g_iload hX dX7_clashesDrawn_35 (j := 4) rfl ?_
      obtain ⟨v37, e37, hF⟩ := bi_some hF
      refine g_callS (As := [.int x4]) (rest := []) (stk := [.int v37]) hX dX7_clashesDrawn_37 (ctX7_nextSeed hM hW x4 e37) (by decide) (by decide) wm_X7_275 wt_X7_nextSeed wz_X7 wc_X7_nextSeed hyX7_nextSeed rfl (Nat.le_of_ble_eq_true rfl) rfl rfl ?_ rfl rfl
      refine g_istore (L' := [(4, .int v37), (0, .ref (b + p0)), (1, .int a1), (2, .int a2), (3, .int x3), (5, .int x5)]) hX dX7_clashesDrawn_40 (by decide) rfl ?_
      refine g_iload hX dX7_clashesDrawn_42 (j := 0) rfl ?_
      refine g_bipush (v := 9) hX dX7_clashesDrawn_44 (by decide) ?_
      refine g_iushr hX dX7_clashesDrawn_46 ?_
      refine g_iconst (v := 2) hX dX7_clashesDrawn_47 (by decide) ?_
      obtain ⟨g48, hF⟩ := gd_some hF
      refine g_irem hX dX7_clashesDrawn_48 (of_decide_eq_true g48) ?_
      obtain ⟨y49, e49, hF⟩ := lt_some hF
      refine g_topi e49 ?_
      refine g_istore (L' := [(6, .int y49), (4, .int v37), (0, .ref (b + p0)), (1, .int a1), (2, .int a2), (3, .int x3), (5, .int x5)]) hX dX7_clashesDrawn_49 (by decide) rfl ?_
      refine g_iload hX dX7_clashesDrawn_51 (j := 1) rfl ?_
      obtain ⟨v53, e53, hF⟩ := bi_some hF
      refine g_callS (As := [.int v37]) (rest := []) (stk := [.int v53]) hX dX7_clashesDrawn_53 (ctX7_nextSeed hM hW v37 e53) (by decide) (by decide) wm_X7_275 wt_X7_nextSeed wz_X7 wc_X7_nextSeed hyX7_nextSeed rfl (Nat.le_of_ble_eq_true rfl) rfl rfl ?_ rfl rfl
      refine g_istore (L' := [(4, .int v53), (6, .int y49), (0, .ref (b + p0)), (1, .int a1), (2, .int a2), (3, .int x3), (5, .int x5)]) hX dX7_clashesDrawn_56 (by decide) rfl ?_
      refine g_iload hX dX7_clashesDrawn_58 (j := 0) rfl ?_
      refine g_bipush (v := 9) hX dX7_clashesDrawn_60 (by decide) ?_
      refine g_iushr hX dX7_clashesDrawn_62 ?_
      refine g_iload_n hX dX7_clashesDrawn_63 (i := 3) rfl (j := 5) rfl ?_
      obtain ⟨g64, hF⟩ := gd_some hF
      refine g_irem hX dX7_clashesDrawn_64 (of_decide_eq_true g64) ?_
      obtain ⟨y65, e65, hF⟩ := lt_some hF
      refine g_topi e65 ?_
      refine g_istore (L' := [(7, .int y65), (4, .int v53), (6, .int y49), (0, .ref (b + p0)), (1, .int a1), (2, .int a2), (3, .int x3), (5, .int x5)]) hX dX7_clashesDrawn_65 (by decide) rfl ?_
      refine g_iload hX dX7_clashesDrawn_67 (j := 1) rfl ?_
      obtain ⟨v69, e69, hF⟩ := bi_some hF
      refine g_callS (As := [.int v53]) (rest := []) (stk := [.int v69]) hX dX7_clashesDrawn_69 (ctX7_nextSeed hM hW v53 e69) (by decide) (by decide) wm_X7_275 wt_X7_nextSeed wz_X7 wc_X7_nextSeed hyX7_nextSeed rfl (Nat.le_of_ble_eq_true rfl) rfl rfl ?_ rfl rfl
      refine g_istore (L' := [(4, .int v69), (7, .int y65), (6, .int y49), (0, .ref (b + p0)), (1, .int a1), (2, .int a2), (3, .int x3), (5, .int x5)]) hX dX7_clashesDrawn_72 (by decide) rfl ?_
      refine g_iload hX dX7_clashesDrawn_74 (j := 0) rfl ?_
      refine g_bipush (v := 9) hX dX7_clashesDrawn_76 (by decide) ?_
      refine g_iushr hX dX7_clashesDrawn_78 ?_
      refine g_iconst (v := 3) hX dX7_clashesDrawn_79 (by decide) ?_
      obtain ⟨g80, hF⟩ := gd_some hF
      refine g_irem hX dX7_clashesDrawn_80 (of_decide_eq_true g80) ?_
      obtain ⟨y81, e81, hF⟩ := lt_some hF
      refine g_topi e81 ?_
      refine g_istore (L' := [(8, .int y81), (4, .int v69), (7, .int y65), (6, .int y49), (0, .ref (b + p0)), (1, .int a1), (2, .int a2), (3, .int x3), (5, .int x5)]) hX dX7_clashesDrawn_81 (by decide) rfl ?_
      refine g_iload hX dX7_clashesDrawn_83 (j := 1) rfl ?_
      obtain ⟨v85, e85, hF⟩ := bi_some hF
      refine g_callS (As := [.int v69]) (rest := []) (stk := [.int v85]) hX dX7_clashesDrawn_85 (ctX7_nextSeed hM hW v69 e85) (by decide) (by decide) wm_X7_275 wt_X7_nextSeed wz_X7 wc_X7_nextSeed hyX7_nextSeed rfl (Nat.le_of_ble_eq_true rfl) rfl rfl ?_ rfl rfl
      refine g_istore (L' := [(4, .int v85), (8, .int y81), (7, .int y65), (6, .int y49), (0, .ref (b + p0)), (1, .int a1), (2, .int a2), (3, .int x3), (5, .int x5)]) hX dX7_clashesDrawn_88 (by decide) rfl ?_
      refine g_iload hX dX7_clashesDrawn_90 (j := 0) rfl ?_
      refine g_bipush (v := 9) hX dX7_clashesDrawn_92 (by decide) ?_
      refine g_iushr hX dX7_clashesDrawn_94 ?_
      refine g_bipush (v := 50) hX dX7_clashesDrawn_95 (by decide) ?_
      obtain ⟨g97, hF⟩ := gd_some hF
      refine g_irem hX dX7_clashesDrawn_97 (of_decide_eq_true g97) ?_
      obtain ⟨y98, e98, hF⟩ := lt_some hF
      refine g_topi e98 ?_
      refine g_istore (L' := [(9, .int y98), (4, .int v85), (8, .int y81), (7, .int y65), (6, .int y49), (0, .ref (b + p0)), (1, .int a1), (2, .int a2), (3, .int x3), (5, .int x5)]) hX dX7_clashesDrawn_98 (by decide) rfl ?_
      refine g_iload hX dX7_clashesDrawn_100 (j := 2) rfl ?_
      refine g_if_ne (tgt := 122) hX dX7_clashesDrawn_102 (by decide) (fun c102 => ?_) (fun c102 => ?_)
      · have hF := ite_t hF c102
        refine g_iload hX dX7_clashesDrawn_122 (j := 2) rfl ?_
        refine g_iconst (v := 1) hX dX7_clashesDrawn_124 (by decide) ?_
        refine g_icmp_ne (tgt := 146) hX dX7_clashesDrawn_125 (by decide) (fun c125 => ?_) (fun c125 => ?_)
        · have hF := ite_t hF c125
          refine g_aload_n hX dX7_clashesDrawn_146 (i := 0) rfl (j := 5) rfl ?_
          have tf147 := (tyF (k := 2) hW t0 (by decide) rfl (by decide) : KA (r p0 2) = 6 ∧ ok (r p0 2))
          refine gf_X7_19 hX dX7_clashesDrawn_147 (ty1 hW t0) (hW.1 _ tf147.2).1 ?_
          refine g_iload hX dX7_clashesDrawn_150 (j := 4) rfl ?_
          refine g_iload hX dX7_clashesDrawn_152 (j := 3) rfl ?_
          obtain ⟨v154, h154, e154, hF⟩ := bi2_some hF
          refine g_callV (As := [.int y49, .int y65]) (rest := []) (stk := [.int v154]) hX dX7_clashesDrawn_154 (ctX6_erase hM hW (r p0 2) y49 y65 tf147 e154) (by decide) (by decide) wm_X7_67 wi_X6_erase ws_X6_erase wz_X6 wc_X6_erase hyX6_erase rfl (ci := 6) rfl (by decide) tf147.1 (hW.1 _ tf147.2).1 (hW.1 _ tf147.2).2 (Nat.le_of_ble_eq_true rfl) rfl rfl ?_ rfl rfl
          refine g_pop hX dX7_clashesDrawn_157 rfl ?_
          refine g_sub (L' := [(0, .ref (b + p0)), (1, .int a1), (2, .int a2), (3, .int x3), (4, .int v85), (5, .int x5)]) [5, 6, 7, 8, 1, 9] rfl ?_
          exact kX7_clashesDrawn_b158 hX hM hW hA p0 a1 a2 t0 hR (fun h_ z3_ z4_ z5_ => fX7_clashesDrawn_b29 r p0 a1 a2 n h_ z3_ z4_ z5_) ih h154 x3 v85 x5 hF
        · have hF := ite_f hF (fun z => z c125)
          refine g_aload_n hX dX7_clashesDrawn_128 (i := 0) rfl (j := 5) rfl ?_
          have tf129 := (tyF (k := 2) hW t0 (by decide) rfl (by decide) : KA (r p0 2) = 6 ∧ ok (r p0 2))
          refine gf_X7_19 hX dX7_clashesDrawn_129 (ty1 hW t0) (hW.1 _ tf129.2).1 ?_
          refine g_iload hX dX7_clashesDrawn_132 (j := 4) rfl ?_
          refine g_iload hX dX7_clashesDrawn_134 (j := 3) rfl ?_
          refine g_iconst (v := (-1)) hX dX7_clashesDrawn_136 (by decide) ?_
          refine g_iload hX dX7_clashesDrawn_137 (j := 0) rfl ?_
          obtain ⟨v139, h139, e139, hF⟩ := bi2_some hF
          refine g_callV (As := [.int y49, .int y65, .int (-1), .int y98]) (rest := []) (stk := [.int v139]) hX dX7_clashesDrawn_139 (ctX6_carry hM hW (r p0 2) y49 y65 (-1) y98 tf129 e139) (by decide) (by decide) wm_X7_64 wi_X6_carry ws_X6_carry wz_X6 wc_X6_carry hyX6_carry rfl (ci := 6) rfl (by decide) tf129.1 (hW.1 _ tf129.2).1 (hW.1 _ tf129.2).2 (Nat.le_of_ble_eq_true rfl) rfl rfl ?_ rfl rfl
          refine g_pop hX dX7_clashesDrawn_142 rfl ?_
          refine g_goto (tgt := 158) hX dX7_clashesDrawn_143 (by decide) ?_
          refine g_sub (L' := [(0, .ref (b + p0)), (1, .int a1), (2, .int a2), (3, .int x3), (4, .int v85), (5, .int x5)]) [5, 6, 7, 8, 1, 9] rfl ?_
          exact kX7_clashesDrawn_b158 hX hM hW hA p0 a1 a2 t0 hR (fun h_ z3_ z4_ z5_ => fX7_clashesDrawn_b29 r p0 a1 a2 n h_ z3_ z4_ z5_) ih h139 x3 v85 x5 hF
      · have hF := ite_f hF (fun z => z c102)
        refine g_aload_n hX dX7_clashesDrawn_105 (i := 0) rfl (j := 5) rfl ?_
        have tf106 := (tyF (k := 2) hW t0 (by decide) rfl (by decide) : KA (r p0 2) = 6 ∧ ok (r p0 2))
        refine gf_X7_19 hX dX7_clashesDrawn_106 (ty1 hW t0) (hW.1 _ tf106.2).1 ?_
        refine g_iload hX dX7_clashesDrawn_109 (j := 4) rfl ?_
        refine g_iload hX dX7_clashesDrawn_111 (j := 3) rfl ?_
        refine g_iload hX dX7_clashesDrawn_113 (j := 0) rfl ?_
        obtain ⟨v115, h115, e115, hF⟩ := bi2_some hF
        refine g_callV (As := [.int y49, .int y65, .int y98]) (rest := []) (stk := [.int v115]) hX dX7_clashesDrawn_115 (ctX6_rewrite hM hW (r p0 2) y49 y65 y98 tf106 e115) (by decide) (by decide) wm_X7_60 wi_X6_rewrite ws_X6_rewrite wz_X6 wc_X6_rewrite hyX6_rewrite rfl (ci := 6) rfl (by decide) tf106.1 (hW.1 _ tf106.2).1 (hW.1 _ tf106.2).2 (Nat.le_of_ble_eq_true rfl) rfl rfl ?_ rfl rfl
        refine g_pop hX dX7_clashesDrawn_118 rfl ?_
        refine g_goto (tgt := 158) hX dX7_clashesDrawn_119 (by decide) ?_
        refine g_sub (L' := [(0, .ref (b + p0)), (1, .int a1), (2, .int a2), (3, .int x3), (4, .int v85), (5, .int x5)]) [5, 6, 7, 8, 1, 9] rfl ?_
        exact kX7_clashesDrawn_b158 hX hM hW hA p0 a1 a2 t0 hR (fun h_ z3_ z4_ z5_ => fX7_clashesDrawn_b29 r p0 a1 a2 n h_ z3_ z4_ z5_) ih h115 x3 v85 x5 hF
set_option maxRecDepth 100000 in
set_option maxHeartbeats 4000000 in
theorem kX7_clashesDrawn {X : XT} {b N sz : Nat} {ok : Nat → Prop} {h : HH} {r : RR} {w : Int32 × HH} (hX : XOK X RX7 cX7_clashesDrawn 10 6) (hM : N ≤ MA) (hW : WT KA lnA ok N r) (hA : ∀ p, KA p < 16 → ok p) (p0 : Nat) (a1 : Int32) (a2 : Int32) (t0 : KA p0 = 7 ∧ ok p0) (hR : XR X b KA lnA MA (some FieldType.int) 0 0 N sz (some (.int w.1)) w.2 r) (hF : fX7_clashesDrawn h r p0 a1 a2 = some w) : GX X b KA lnA MA 10 0 0 N sz 0 [(0, .ref (b + p0)), (1, .int a1), (2, .int a2)] [] h r := by
  rw [fX7_clashesDrawn] at hF
  refine g_aload_n hX dX7_clashesDrawn_0 (i := 0) rfl (j := 0) rfl ?_
  have tf1 := (tyF (k := 2) hW t0 (by decide) rfl (by decide) : KA (r p0 2) = 6 ∧ ok (r p0 2))
  refine gf_X7_19 hX dX7_clashesDrawn_1 (ty1 hW t0) (hW.1 _ tf1.2).1 ?_
  refine g_aload_n hX dX7_clashesDrawn_4 (i := 0) rfl (j := 0) rfl ?_
  have tf5 := (tyF (k := 0) hW t0 (by decide) rfl (by decide) : KA (r p0 0) = 6 ∧ ok (r p0 0))
  refine gf_X7_12 hX dX7_clashesDrawn_5 (ty1 hW t0) (hW.1 _ tf5.2).1 ?_
  obtain ⟨h8, e8, hF⟩ := bi_some hF
  refine g_callV (As := [.ref (b + (r p0 0))]) (rest := []) (stk := []) hX dX7_clashesDrawn_8 (ctX6_become hM hW (r p0 2) (r p0 0) tf1 tf5 e8) (by decide) (by decide) wm_X7_213 wi_X6_become ws_X6_become wz_X6 wc_X6_become hyX6_become rfl (ci := 6) rfl (by decide) tf1.1 (hW.1 _ tf1.2).1 (hW.1 _ tf1.2).2 (Nat.le_of_ble_eq_true rfl) rfl rfl ?_ rfl rfl
  refine g_aload_n hX dX7_clashesDrawn_11 (i := 0) rfl (j := 0) rfl ?_
  have tf12 := (tyF (k := 2) hW t0 (by decide) rfl (by decide) : KA (r p0 2) = 6 ∧ ok (r p0 2))
  refine gf_X7_19 hX dX7_clashesDrawn_12 (ty1 hW t0) (hW.1 _ tf12.2).1 ?_
  refine gf_X7_244 hX dX7_clashesDrawn_15 (ty1 hW tf12) ?_
  refine g_iconst (v := 1) hX dX7_clashesDrawn_18 (by decide) ?_
  refine g_max hX dX7_clashesDrawn_19 wm_X7_270 (by decide) (Nat.le_of_ble_eq_true rfl) ?_ rfl rfl
  obtain ⟨y22, e22, hF⟩ := lt_some hF
  refine g_topi e22 ?_
  refine g_istore_n (L' := [(3, .int y22), (0, .ref (b + p0)), (1, .int a1), (2, .int a2)]) hX dX7_clashesDrawn_22 (i := 3) rfl (by decide) rfl ?_
  refine g_iload_n hX dX7_clashesDrawn_23 (i := 1) rfl (j := 2) rfl ?_
  refine g_istore (L' := [(4, .int a1), (3, .int y22), (0, .ref (b + p0)), (1, .int a1), (2, .int a2)]) hX dX7_clashesDrawn_24 (by decide) rfl ?_
  refine g_iconst (v := 0) hX dX7_clashesDrawn_26 (by decide) ?_
  refine g_istore (L' := [(5, .int 0), (4, .int a1), (3, .int y22), (0, .ref (b + p0)), (1, .int a1), (2, .int a2)]) hX dX7_clashesDrawn_27 (by decide) rfl ?_
  refine g_sub (L' := [(0, .ref (b + p0)), (1, .int a1), (2, .int a2), (3, .int y22), (4, .int a1), (5, .int 0)]) [3, 4, 5, 2, 1, 0] rfl ?_
  exact kX7_clashesDrawn_b29 hX hM hW hA p0 a1 a2 t0 hR lpF h8 y22 a1 0 hF
theorem ctX7_clashesDrawn {b N sz : Nat} {ok : Nat → Prop} {h : HH} {r : RR} {w : Int32 × HH} (hM : N ≤ MA) (hW : WT KA lnA ok N r) (hA : ∀ p, KA p < 16 → ok p) (p0 : Nat) (a1 : Int32) (a2 : Int32) (t0 : KA p0 = 7 ∧ ok p0) (hF : fX7_clashesDrawn h r p0 a1 a2 = some w) : CT yX7_clashesDrawn cX7_clashesDrawn 10 (some FieldType.int) 6 b KA lnA MA N sz [.ref (b + p0), .int a1, .int a2] h r N sz (some (.int w.1)) w.2 r 0 0 :=
  CT_of (by decide) rfl (Nat.le_of_ble_eq_true rfl) (by decide) trivial (fun X hX hR => kX7_clashesDrawn hX hM hW hA p0 a1 a2 t0 hR hF)
/-! X7_drawn -/
def fX7_drawn (h : HH) (r : RR) (p0 : Nat) (a1 : Int32) (a2 : Int32) : Option (Int32 × HH) := if a2 < 0 then (some ((-2), h)) else (if a2 ≤ 20 then (bi2 (fX7_clashesDrawn h r p0 a1 a2) (fun v16 h16 => some (v16, h16))) else (some ((-2), h)))
set_option maxRecDepth 100000 in
set_option maxHeartbeats 4000000 in
theorem kX7_drawn {X : XT} {b N sz : Nat} {ok : Nat → Prop} {h : HH} {r : RR} {w : Int32 × HH} (hX : XOK X RX7 cX7_drawn 3 7) (hM : N ≤ MA) (hW : WT KA lnA ok N r) (hA : ∀ p, KA p < 16 → ok p) (p0 : Nat) (a1 : Int32) (a2 : Int32) (t0 : KA p0 = 7 ∧ ok p0) (hR : XR X b KA lnA MA (some FieldType.int) 0 0 N sz (some (.int w.1)) w.2 r) (hF : fX7_drawn h r p0 a1 a2 = some w) : GX X b KA lnA MA 3 0 0 N sz 0 [(0, .ref (b + p0)), (1, .int a1), (2, .int a2)] [] h r := by
  rw [fX7_drawn] at hF
  refine g_iload_n hX dX7_drawn_0 (i := 2) rfl (j := 2) rfl ?_
  refine g_if_lt (tgt := 10) hX dX7_drawn_1 (by decide) (fun c1 => ?_) (fun c1 => ?_)
  · have hF := ite_t hF c1
    refine g_bipush (v := (-2)) hX dX7_drawn_10 (by decide) ?_
    obtain rfl := Option.some.inj hF
    exact g_iret hX dX7_drawn_12 hR
  · have hF := ite_f hF c1
    refine g_iload_n hX dX7_drawn_4 (i := 2) rfl (j := 2) rfl ?_
    refine g_bipush (v := 20) hX dX7_drawn_5 (by decide) ?_
    refine g_icmp_le (tgt := 13) hX dX7_drawn_7 (by decide) (fun c7 => ?_) (fun c7 => ?_)
    · have hF := ite_t hF c7
      refine g_aload_n hX dX7_drawn_13 (i := 0) rfl (j := 0) rfl ?_
      refine g_iload_n hX dX7_drawn_14 (i := 1) rfl (j := 1) rfl ?_
      refine g_iload_n hX dX7_drawn_15 (i := 2) rfl (j := 2) rfl ?_
      obtain ⟨v16, h16, e16, hF⟩ := bi2_some hF
      refine g_callV (As := [.int a1, .int a2]) (rest := []) (stk := [.int v16]) hX dX7_drawn_16 (ctX7_clashesDrawn hM hW hA p0 a1 a2 t0 e16) (by decide) (by decide) wm_X7_216 wi_X7_clashesDrawn ws_X7_clashesDrawn wz_X7 wc_X7_clashesDrawn hyX7_clashesDrawn rfl (ci := 7) rfl (by decide) t0.1 (hW.1 _ t0.2).1 (hW.1 _ t0.2).2 (Nat.le_of_ble_eq_true rfl) rfl rfl ?_ rfl rfl
      obtain rfl := Option.some.inj hF
      exact g_iret hX dX7_drawn_19 hR
    · have hF := ite_f hF c7
      refine g_bipush (v := (-2)) hX dX7_drawn_10 (by decide) ?_
      obtain rfl := Option.some.inj hF
      exact g_iret hX dX7_drawn_12 hR
theorem ctX7_drawn {b N sz : Nat} {ok : Nat → Prop} {h : HH} {r : RR} {w : Int32 × HH} (hM : N ≤ MA) (hW : WT KA lnA ok N r) (hA : ∀ p, KA p < 16 → ok p) (p0 : Nat) (a1 : Int32) (a2 : Int32) (t0 : KA p0 = 7 ∧ ok p0) (hF : fX7_drawn h r p0 a1 a2 = some w) : CT yX7_drawn cX7_drawn 3 (some FieldType.int) 7 b KA lnA MA N sz [.ref (b + p0), .int a1, .int a2] h r N sz (some (.int w.1)) w.2 r 0 0 :=
  CT_of (by decide) rfl (Nat.le_of_ble_eq_true rfl) (by decide) trivial (fun X hX hR => kX7_drawn hX hM hW hA p0 a1 a2 t0 hR hF)
/-! X7_greatestDivisor -/
def fX7_greatestDivisor_b21 (h : HH) (r : RR) (a0 : Int32) (a1 : Int32) (k2 : Int32 → Option (Int32)) (x2 : Int32) : Option (Int32) := k2 (x2 + (-1))
def fX7_greatestDivisor_b2 (h : HH) (r : RR) (a0 : Int32) (a1 : Int32) : Nat → Int32 → Option (Int32)
  | 0, _ => none
  | n + 1, x2 => if x2 ≤ 1 then (some (1)) else (gd (decide (¬ x2 = 0)) (if ¬ (irm a0 x2) = 0 then (fX7_greatestDivisor_b21 h r a0 a1 (fun z2_ => fX7_greatestDivisor_b2 h r a0 a1 n z2_) x2) else (gd (decide (¬ x2 = 0)) (if ¬ (irm a1 x2) = 0 then (fX7_greatestDivisor_b21 h r a0 a1 (fun z2_ => fX7_greatestDivisor_b2 h r a0 a1 n z2_) x2) else (some (x2))))))
def fX7_greatestDivisor (h : HH) (r : RR) (a0 : Int32) (a1 : Int32) : Option (Int32) := fX7_greatestDivisor_b2 h r a0 a1 lpF a1
set_option maxRecDepth 100000 in
set_option maxHeartbeats 4000000 in
theorem kX7_greatestDivisor_b21 {X : XT} {b N sz : Nat} {ok : Nat → Prop} {h : HH} {r : RR} {w : Int32} (hX : XOK X RX7 cX7_greatestDivisor 3 1) (hM : N ≤ MA) (hW : WT KA lnA ok N r) (a0 : Int32) (a1 : Int32) (hR : XR X b KA lnA MA (some FieldType.int) 0 0 N sz (some (.int w)) h r) (k2 : Int32 → Option (Int32)) (hk2 : ∀ (x2 : Int32), k2 x2 = some w → GX X b KA lnA MA 3 0 0 N sz 2 [(0, .int a0), (1, .int a1), (2, .int x2)] [] h r) (x2 : Int32) (hF : fX7_greatestDivisor_b21 h r a0 a1 k2 x2 = some w) : GX X b KA lnA MA 3 0 0 N sz 21 [(0, .int a0), (1, .int a1), (2, .int x2)] [] h r := by
  rw [fX7_greatestDivisor_b21] at hF
  refine g_iinc (L' := [(2, .int (x2 + (-1))), (0, .int a0), (1, .int a1)]) (j := 2) hX dX7_greatestDivisor_21 rfl rfl (by decide) rfl ?_
  refine g_goto (tgt := 2) hX dX7_greatestDivisor_24 (by decide) ?_
  refine g_sub (L' := [(0, .int a0), (1, .int a1), (2, .int (x2 + (-1)))]) [1, 2, 0] rfl ?_
  exact hk2 (x2 + (-1)) hF
set_option maxRecDepth 100000 in
set_option maxHeartbeats 4000000 in
theorem kX7_greatestDivisor_b2 {X : XT} {b N sz : Nat} {ok : Nat → Prop} {h : HH} {r : RR} {w : Int32} (hX : XOK X RX7 cX7_greatestDivisor 3 1) (hM : N ≤ MA) (hW : WT KA lnA ok N r) (a0 : Int32) (a1 : Int32) (hR : XR X b KA lnA MA (some FieldType.int) 0 0 N sz (some (.int w)) h r) : ∀ (n : Nat) (x2 : Int32), fX7_greatestDivisor_b2 h r a0 a1 n x2 = some w → GX X b KA lnA MA 3 0 0 N sz 2 [(0, .int a0), (1, .int a1), (2, .int x2)] [] h r := by
  intro n
  induction n with
  | zero =>
    intro x2 hF
    cases hF
  | succ n ih =>
    intro x2 hF
    rw [fX7_greatestDivisor_b2] at hF
    refine g_iload_n hX dX7_greatestDivisor_2 (i := 2) rfl (j := 2) rfl ?_
    refine g_iconst (v := 1) hX dX7_greatestDivisor_3 (by decide) ?_
    refine g_icmp_le (tgt := 27) hX dX7_greatestDivisor_4 (by decide) (fun c4 => ?_) (fun c4 => ?_)
    · have hF := ite_t hF c4
      refine g_iconst (v := 1) hX dX7_greatestDivisor_27 (by decide) ?_
      obtain rfl := Option.some.inj hF
      exact g_iret hX dX7_greatestDivisor_28 hR
    · have hF := ite_f hF c4
      refine g_iload_n hX dX7_greatestDivisor_7 (i := 0) rfl (j := 0) rfl ?_
      refine g_iload_n hX dX7_greatestDivisor_8 (i := 2) rfl (j := 2) rfl ?_
      obtain ⟨g9, hF⟩ := gd_some hF
      refine g_irem hX dX7_greatestDivisor_9 (of_decide_eq_true g9) ?_
      refine g_if_ne (tgt := 21) hX dX7_greatestDivisor_10 (by decide) (fun c10 => ?_) (fun c10 => ?_)
      · have hF := ite_t hF c10
        refine g_sub (L' := [(0, .int a0), (1, .int a1), (2, .int x2)]) [0, 1, 2] rfl ?_
        exact kX7_greatestDivisor_b21 hX hM hW a0 a1 hR (fun z2_ => fX7_greatestDivisor_b2 h r a0 a1 n z2_) ih x2 hF
      · have hF := ite_f hF (fun z => z c10)
        refine g_iload_n hX dX7_greatestDivisor_13 (i := 1) rfl (j := 1) rfl ?_
        refine g_iload_n hX dX7_greatestDivisor_14 (i := 2) rfl (j := 2) rfl ?_
        obtain ⟨g15, hF⟩ := gd_some hF
        refine g_irem hX dX7_greatestDivisor_15 (of_decide_eq_true g15) ?_
        refine g_if_ne (tgt := 21) hX dX7_greatestDivisor_16 (by decide) (fun c16 => ?_) (fun c16 => ?_)
        · have hF := ite_t hF c16
          refine g_sub (L' := [(0, .int a0), (1, .int a1), (2, .int x2)]) [0, 1, 2] rfl ?_
          exact kX7_greatestDivisor_b21 hX hM hW a0 a1 hR (fun z2_ => fX7_greatestDivisor_b2 h r a0 a1 n z2_) ih x2 hF
        · have hF := ite_f hF (fun z => z c16)
          refine g_iload_n hX dX7_greatestDivisor_19 (i := 2) rfl (j := 2) rfl ?_
          obtain rfl := Option.some.inj hF
          exact g_iret hX dX7_greatestDivisor_20 hR
set_option maxRecDepth 100000 in
set_option maxHeartbeats 4000000 in
theorem kX7_greatestDivisor {X : XT} {b N sz : Nat} {ok : Nat → Prop} {h : HH} {r : RR} {w : Int32} (hX : XOK X RX7 cX7_greatestDivisor 3 1) (hM : N ≤ MA) (hW : WT KA lnA ok N r) (a0 : Int32) (a1 : Int32) (hR : XR X b KA lnA MA (some FieldType.int) 0 0 N sz (some (.int w)) h r) (hF : fX7_greatestDivisor h r a0 a1 = some w) : GX X b KA lnA MA 3 0 0 N sz 0 [(0, .int a0), (1, .int a1)] [] h r := by
  rw [fX7_greatestDivisor] at hF
  refine g_iload_n hX dX7_greatestDivisor_0 (i := 1) rfl (j := 1) rfl ?_
  refine g_istore_n (L' := [(2, .int a1), (0, .int a0), (1, .int a1)]) hX dX7_greatestDivisor_1 (i := 2) rfl (by decide) rfl ?_
  refine g_sub (L' := [(0, .int a0), (1, .int a1), (2, .int a1)]) [1, 2, 0] rfl ?_
  exact kX7_greatestDivisor_b2 hX hM hW a0 a1 hR lpF a1 hF
theorem ctX7_greatestDivisor {b N sz : Nat} {ok : Nat → Prop} {h : HH} {r : RR} {w : Int32} (hM : N ≤ MA) (hW : WT KA lnA ok N r) (a0 : Int32) (a1 : Int32) (hF : fX7_greatestDivisor h r a0 a1 = some w) : CT yX7_greatestDivisor cX7_greatestDivisor 3 (some FieldType.int) 1 b KA lnA MA N sz [.int a0, .int a1] h r N sz (some (.int w)) h r 0 0 :=
  CT_of (by decide) rfl (Nat.le_of_ble_eq_true rfl) (by decide) trivial (fun X hX hR => kX7_greatestDivisor hX hM hW a0 a1 hR hF)
/-! X7_chance -/
def fX7_chance_b51 (r : RR) (p0 : Nat) (a1 : Int32) (a2 : Int32) (a3 : Int32) (k29 : HH → Int32 → Int32 → Option (Int32 × HH)) (h : HH) (x4 : Int32) (x5 : Int32) : Option (Int32 × HH) := k29 h x4 (x5 + 1)
def fX7_chance_b29 (r : RR) (p0 : Nat) (a1 : Int32) (a2 : Int32) (a3 : Int32) : Nat → HH → Int32 → Int32 → Option (Int32 × HH)
  | 0, _, _, _ => none
  | n + 1, h, x4, x5 => if a2 ≤ x5 then ((fX7_greatestDivisor h r x4 a2).bind (fun v60 => if ¬ a3 = 0 then (gd (decide (¬ v60 = 0)) (some (a2 / v60, h))) else (gd (decide (¬ v60 = 0)) (some (x4 / v60, h))))) else (bi2 (fX7_clashesDrawn h r p0 (a1 + x5) 8) (fun v42 h42 => if v42 ≤ 0 then (fX7_chance_b51 r p0 a1 a2 a3 (fun h_ z4_ z5_ => fX7_chance_b29 r p0 a1 a2 a3 n h_ z4_ z5_) h42 x4 x5) else (fX7_chance_b51 r p0 a1 a2 a3 (fun h_ z4_ z5_ => fX7_chance_b29 r p0 a1 a2 a3 n h_ z4_ z5_) h42 (x4 + 1) x5)))
def fX7_chance (h : HH) (r : RR) (p0 : Nat) (a1 : Int32) (a2 : Int32) (a3 : Int32) : Option (Int32 × HH) := if a2 < 1 then (some ((-2), h)) else (if 10 < a2 then (some ((-2), h)) else (if a3 < 0 then (some ((-2), h)) else (if a3 ≤ 1 then (fX7_chance_b29 r p0 a1 a2 a3 lpF h 0 0) else (some ((-2), h)))))
set_option maxRecDepth 100000 in
set_option maxHeartbeats 4000000 in
theorem kX7_chance_b51 {X : XT} {b N sz : Nat} {ok : Nat → Prop} {r : RR} {w : Int32 × HH} (hX : XOK X RX7 cX7_chance 6 7) (hM : N ≤ MA) (hW : WT KA lnA ok N r) (hA : ∀ p, KA p < 16 → ok p) (p0 : Nat) (a1 : Int32) (a2 : Int32) (a3 : Int32) (t0 : KA p0 = 7 ∧ ok p0) (hR : XR X b KA lnA MA (some FieldType.int) 0 0 N sz (some (.int w.1)) w.2 r) (k29 : HH → Int32 → Int32 → Option (Int32 × HH)) (hk29 : ∀ (h : HH) (x4 : Int32) (x5 : Int32), k29 h x4 x5 = some w → GX X b KA lnA MA 6 0 0 N sz 29 [(0, .ref (b + p0)), (1, .int a1), (2, .int a2), (3, .int a3), (4, .int x4), (5, .int x5)] [] h r) (h : HH) (x4 : Int32) (x5 : Int32) (hF : fX7_chance_b51 r p0 a1 a2 a3 k29 h x4 x5 = some w) : GX X b KA lnA MA 6 0 0 N sz 51 [(0, .ref (b + p0)), (1, .int a1), (2, .int a2), (3, .int a3), (4, .int x4), (5, .int x5)] [] h r := by
  rw [fX7_chance_b51] at hF
  refine g_iinc (L' := [(5, .int (x5 + 1)), (0, .ref (b + p0)), (1, .int a1), (2, .int a2), (3, .int a3), (4, .int x4)]) (j := 5) hX dX7_chance_51 rfl rfl (by decide) rfl ?_
  refine g_goto (tgt := 29) hX dX7_chance_54 (by decide) ?_
  refine g_sub (L' := [(0, .ref (b + p0)), (1, .int a1), (2, .int a2), (3, .int a3), (4, .int x4), (5, .int (x5 + 1))]) [1, 2, 3, 4, 5, 0] rfl ?_
  exact hk29 h x4 (x5 + 1) hF
set_option maxRecDepth 100000 in
set_option maxHeartbeats 4000000 in
theorem kX7_chance_b29 {X : XT} {b N sz : Nat} {ok : Nat → Prop} {r : RR} {w : Int32 × HH} (hX : XOK X RX7 cX7_chance 6 7) (hM : N ≤ MA) (hW : WT KA lnA ok N r) (hA : ∀ p, KA p < 16 → ok p) (p0 : Nat) (a1 : Int32) (a2 : Int32) (a3 : Int32) (t0 : KA p0 = 7 ∧ ok p0) (hR : XR X b KA lnA MA (some FieldType.int) 0 0 N sz (some (.int w.1)) w.2 r) : ∀ (n : Nat) (h : HH) (x4 : Int32) (x5 : Int32), fX7_chance_b29 r p0 a1 a2 a3 n h x4 x5 = some w → GX X b KA lnA MA 6 0 0 N sz 29 [(0, .ref (b + p0)), (1, .int a1), (2, .int a2), (3, .int a3), (4, .int x4), (5, .int x5)] [] h r := by
  intro n
  induction n with
  | zero =>
    intro h x4 x5 hF
    cases hF
  | succ n ih =>
    intro h x4 x5 hF
    rw [fX7_chance_b29] at hF
    refine g_iload hX dX7_chance_29 (j := 5) rfl ?_
    refine g_iload_n hX dX7_chance_31 (i := 2) rfl (j := 2) rfl ?_
    refine g_icmp_ge (tgt := 57) hX dX7_chance_32 (by decide) (fun c32 => ?_) (fun c32 => ?_)
    · have hF := ite_t hF c32
      refine g_iload hX dX7_chance_57 (j := 4) rfl ?_
      refine g_iload_n hX dX7_chance_59 (i := 2) rfl (j := 2) rfl ?_
      obtain ⟨v60, e60, hF⟩ := bi_some hF
      refine g_callS (As := [.int x4, .int a2]) (rest := []) (stk := [.int v60]) hX dX7_chance_60 (ctX7_greatestDivisor hM hW x4 a2 e60) (by decide) (by decide) wm_X7_219 wt_X7_greatestDivisor wz_X7 wc_X7_greatestDivisor hyX7_greatestDivisor rfl (Nat.le_of_ble_eq_true rfl) rfl rfl ?_ rfl rfl
      refine g_istore (L' := [(5, .int v60), (0, .ref (b + p0)), (1, .int a1), (2, .int a2), (3, .int a3), (4, .int x4)]) hX dX7_chance_63 (by decide) rfl ?_
      refine g_iload_n hX dX7_chance_65 (i := 3) rfl (j := 4) rfl ?_
      refine g_if_ne (tgt := 74) hX dX7_chance_66 (by decide) (fun c66 => ?_) (fun c66 => ?_)
      · have hF := ite_t hF c66
        refine g_iload_n hX dX7_chance_74 (i := 2) rfl (j := 3) rfl ?_
        refine g_iload hX dX7_chance_75 (j := 0) rfl ?_
        obtain ⟨g77, hF⟩ := gd_some hF
        refine g_idiv hX dX7_chance_77 (of_decide_eq_true g77) ?_
        obtain rfl := Option.some.inj hF
        exact g_iret hX dX7_chance_78 hR
      · have hF := ite_f hF (fun z => z c66)
        refine g_iload hX dX7_chance_69 (j := 5) rfl ?_
        refine g_goto (tgt := 75) hX dX7_chance_71 (by decide) ?_
        refine g_iload hX dX7_chance_75 (j := 0) rfl ?_
        obtain ⟨g77, hF⟩ := gd_some hF
        refine g_idiv hX dX7_chance_77 (of_decide_eq_true g77) ?_
        obtain rfl := Option.some.inj hF
        exact g_iret hX dX7_chance_78 hR
    · have hF := ite_f hF c32
      refine g_aload_n hX dX7_chance_35 (i := 0) rfl (j := 0) rfl ?_
      refine g_iload_n hX dX7_chance_36 (i := 1) rfl (j := 1) rfl ?_
      refine g_iload hX dX7_chance_37 (j := 5) rfl ?_
      refine g_iadd hX dX7_chance_39 ?_
      refine g_bipush (v := 8) hX dX7_chance_40 (by decide) ?_
      obtain ⟨v42, h42, e42, hF⟩ := bi2_some hF
      refine g_callV (As := [.int (a1 + x5), .int 8]) (rest := []) (stk := [.int v42]) hX dX7_chance_42 (ctX7_clashesDrawn hM hW hA p0 (a1 + x5) 8 t0 e42) (by decide) (by decide) wm_X7_216 wi_X7_clashesDrawn ws_X7_clashesDrawn wz_X7 wc_X7_clashesDrawn hyX7_clashesDrawn rfl (ci := 7) rfl (by decide) t0.1 (hW.1 _ t0.2).1 (hW.1 _ t0.2).2 (Nat.le_of_ble_eq_true rfl) rfl rfl ?_ rfl rfl
      refine g_if_le (tgt := 51) hX dX7_chance_45 (by decide) (fun c45 => ?_) (fun c45 => ?_)
      · have hF := ite_t hF c45
        refine g_sub (L' := [(0, .ref (b + p0)), (1, .int a1), (2, .int a2), (3, .int a3), (4, .int x4), (5, .int x5)]) [0, 1, 2, 3, 4, 5] rfl ?_
        exact kX7_chance_b51 hX hM hW hA p0 a1 a2 a3 t0 hR (fun h_ z4_ z5_ => fX7_chance_b29 r p0 a1 a2 a3 n h_ z4_ z5_) ih h42 x4 x5 hF
      · have hF := ite_f hF c45
        refine g_iinc (L' := [(4, .int (x4 + 1)), (0, .ref (b + p0)), (1, .int a1), (2, .int a2), (3, .int a3), (5, .int x5)]) (j := 4) hX dX7_chance_48 rfl rfl (by decide) rfl ?_
        refine g_sub (L' := [(0, .ref (b + p0)), (1, .int a1), (2, .int a2), (3, .int a3), (4, .int (x4 + 1)), (5, .int x5)]) [1, 2, 3, 4, 0, 5] rfl ?_
        exact kX7_chance_b51 hX hM hW hA p0 a1 a2 a3 t0 hR (fun h_ z4_ z5_ => fX7_chance_b29 r p0 a1 a2 a3 n h_ z4_ z5_) ih h42 (x4 + 1) x5 hF
set_option maxRecDepth 100000 in
set_option maxHeartbeats 4000000 in
theorem kX7_chance {X : XT} {b N sz : Nat} {ok : Nat → Prop} {h : HH} {r : RR} {w : Int32 × HH} (hX : XOK X RX7 cX7_chance 6 7) (hM : N ≤ MA) (hW : WT KA lnA ok N r) (hA : ∀ p, KA p < 16 → ok p) (p0 : Nat) (a1 : Int32) (a2 : Int32) (a3 : Int32) (t0 : KA p0 = 7 ∧ ok p0) (hR : XR X b KA lnA MA (some FieldType.int) 0 0 N sz (some (.int w.1)) w.2 r) (hF : fX7_chance h r p0 a1 a2 a3 = some w) : GX X b KA lnA MA 6 0 0 N sz 0 [(0, .ref (b + p0)), (1, .int a1), (2, .int a2), (3, .int a3)] [] h r := by
  rw [fX7_chance] at hF
  refine g_iload_n hX dX7_chance_0 (i := 2) rfl (j := 2) rfl ?_
  refine g_iconst (v := 1) hX dX7_chance_1 (by decide) ?_
  refine g_icmp_lt (tgt := 20) hX dX7_chance_2 (by decide) (fun c2 => ?_) (fun c2 => ?_)
  · have hF := ite_t hF c2
    refine g_bipush (v := (-2)) hX dX7_chance_20 (by decide) ?_
    obtain rfl := Option.some.inj hF
    exact g_iret hX dX7_chance_22 hR
  · have hF := ite_f hF c2
    refine g_iload_n hX dX7_chance_5 (i := 2) rfl (j := 2) rfl ?_
    refine g_bipush (v := 10) hX dX7_chance_6 (by decide) ?_
    refine g_icmp_gt (tgt := 20) hX dX7_chance_8 (by decide) (fun c8 => ?_) (fun c8 => ?_)
    · have hF := ite_t hF c8
      refine g_bipush (v := (-2)) hX dX7_chance_20 (by decide) ?_
      obtain rfl := Option.some.inj hF
      exact g_iret hX dX7_chance_22 hR
    · have hF := ite_f hF c8
      refine g_iload_n hX dX7_chance_11 (i := 3) rfl (j := 3) rfl ?_
      refine g_if_lt (tgt := 20) hX dX7_chance_12 (by decide) (fun c12 => ?_) (fun c12 => ?_)
      · have hF := ite_t hF c12
        refine g_bipush (v := (-2)) hX dX7_chance_20 (by decide) ?_
        obtain rfl := Option.some.inj hF
        exact g_iret hX dX7_chance_22 hR
      · have hF := ite_f hF c12
        refine g_iload_n hX dX7_chance_15 (i := 3) rfl (j := 3) rfl ?_
        refine g_iconst (v := 1) hX dX7_chance_16 (by decide) ?_
        refine g_icmp_le (tgt := 23) hX dX7_chance_17 (by decide) (fun c17 => ?_) (fun c17 => ?_)
        · have hF := ite_t hF c17
          refine g_iconst (v := 0) hX dX7_chance_23 (by decide) ?_
          refine g_istore (L' := [(4, .int 0), (0, .ref (b + p0)), (1, .int a1), (2, .int a2), (3, .int a3)]) hX dX7_chance_24 (by decide) rfl ?_
          refine g_iconst (v := 0) hX dX7_chance_26 (by decide) ?_
          refine g_istore (L' := [(5, .int 0), (4, .int 0), (0, .ref (b + p0)), (1, .int a1), (2, .int a2), (3, .int a3)]) hX dX7_chance_27 (by decide) rfl ?_
          refine g_sub (L' := [(0, .ref (b + p0)), (1, .int a1), (2, .int a2), (3, .int a3), (4, .int 0), (5, .int 0)]) [2, 3, 4, 5, 1, 0] rfl ?_
          exact kX7_chance_b29 hX hM hW hA p0 a1 a2 a3 t0 hR lpF h 0 0 hF
        · have hF := ite_f hF c17
          refine g_bipush (v := (-2)) hX dX7_chance_20 (by decide) ?_
          obtain rfl := Option.some.inj hF
          exact g_iret hX dX7_chance_22 hR
theorem ctX7_chance {b N sz : Nat} {ok : Nat → Prop} {h : HH} {r : RR} {w : Int32 × HH} (hM : N ≤ MA) (hW : WT KA lnA ok N r) (hA : ∀ p, KA p < 16 → ok p) (p0 : Nat) (a1 : Int32) (a2 : Int32) (a3 : Int32) (t0 : KA p0 = 7 ∧ ok p0) (hF : fX7_chance h r p0 a1 a2 a3 = some w) : CT yX7_chance cX7_chance 6 (some FieldType.int) 7 b KA lnA MA N sz [.ref (b + p0), .int a1, .int a2, .int a3] h r N sz (some (.int w.1)) w.2 r 0 0 :=
  CT_of (by decide) rfl (Nat.le_of_ble_eq_true rfl) (by decide) trivial (fun X hX hR => kX7_chance hX hM hW hA p0 a1 a2 a3 t0 hR hF)
/-! X7_isSheet -/
def fX7_isSheet_b13 (h : HH) (r : RR) (a0 : Int32) : Option (Int32) := some (0)
def fX7_isSheet (h : HH) (r : RR) (a0 : Int32) : Option (Int32) := if a0 < 0 then (fX7_isSheet_b13 h r a0) else (if 4 ≤ a0 then (fX7_isSheet_b13 h r a0) else (some (1)))
set_option maxRecDepth 100000 in
set_option maxHeartbeats 4000000 in
theorem kX7_isSheet_b13 {X : XT} {b N sz : Nat} {ok : Nat → Prop} {h : HH} {r : RR} {w : Int32} (hX : XOK X RX7 cX7_isSheet 1 1) (hM : N ≤ MA) (hW : WT KA lnA ok N r) (a0 : Int32) (hR : XR X b KA lnA MA (some FieldType.boolean) 0 0 N sz (some (.int w)) h r) (hF : fX7_isSheet_b13 h r a0 = some w) : GX X b KA lnA MA 1 0 0 N sz 13 [(0, .int a0)] [] h r := by
  rw [fX7_isSheet_b13] at hF
  refine g_iconst (v := 0) hX dX7_isSheet_13 (by decide) ?_
  obtain rfl := Option.some.inj hF
  exact g_zret hX dX7_isSheet_14 (by decide) hR
set_option maxRecDepth 100000 in
set_option maxHeartbeats 4000000 in
theorem kX7_isSheet {X : XT} {b N sz : Nat} {ok : Nat → Prop} {h : HH} {r : RR} {w : Int32} (hX : XOK X RX7 cX7_isSheet 1 1) (hM : N ≤ MA) (hW : WT KA lnA ok N r) (a0 : Int32) (hR : XR X b KA lnA MA (some FieldType.boolean) 0 0 N sz (some (.int w)) h r) (hF : fX7_isSheet h r a0 = some w) : GX X b KA lnA MA 1 0 0 N sz 0 [(0, .int a0)] [] h r := by
  rw [fX7_isSheet] at hF
  refine g_iload_n hX dX7_isSheet_0 (i := 0) rfl (j := 0) rfl ?_
  refine g_if_lt (tgt := 13) hX dX7_isSheet_1 (by decide) (fun c1 => ?_) (fun c1 => ?_)
  · have hF := ite_t hF c1
    refine g_sub (L' := [(0, .int a0)]) [0] rfl ?_
    exact kX7_isSheet_b13 hX hM hW a0 hR hF
  · have hF := ite_f hF c1
    refine g_iload_n hX dX7_isSheet_4 (i := 0) rfl (j := 0) rfl ?_
    refine g_iconst (v := 4) hX dX7_isSheet_5 (by decide) ?_
    refine g_icmp_ge (tgt := 13) hX dX7_isSheet_6 (by decide) (fun c6 => ?_) (fun c6 => ?_)
    · have hF := ite_t hF c6
      refine g_sub (L' := [(0, .int a0)]) [0] rfl ?_
      exact kX7_isSheet_b13 hX hM hW a0 hR hF
    · have hF := ite_f hF c6
      refine g_iconst (v := 1) hX dX7_isSheet_9 (by decide) ?_
      refine g_goto (tgt := 14) hX dX7_isSheet_10 (by decide) ?_
      obtain rfl := Option.some.inj hF
      exact g_zret hX dX7_isSheet_14 (by decide) hR
theorem ctX7_isSheet {b N sz : Nat} {ok : Nat → Prop} {h : HH} {r : RR} {w : Int32} (hM : N ≤ MA) (hW : WT KA lnA ok N r) (a0 : Int32) (hF : fX7_isSheet h r a0 = some w) : CT yX7_isSheet cX7_isSheet 1 (some FieldType.boolean) 1 b KA lnA MA N sz [.int a0] h r N sz (some (.int w)) h r 0 0 :=
  CT_of (by decide) rfl (Nat.le_of_ble_eq_true rfl) (by decide) trivial (fun X hX hR => kX7_isSheet hX hM hW a0 hR hF)
/-! X7_whereJustSo -/
def fX7_whereJustSo_b32 (r : RR) (p0 : Nat) (p1 : Nat) (k4 : HH → Int32 → Int32 → Option (Int32 × HH)) (h : HH) (x2 : Int32) (x3 : Int32) : Option (Int32 × HH) := k4 h x2 (x3 + 1)
def fX7_whereJustSo_b80 (r : RR) (p0 : Nat) (p1 : Nat) (k40 : HH → Int32 → Int32 → Option (Int32 × HH)) (h : HH) (x2 : Int32) (x3 : Int32) : Option (Int32 × HH) := k40 h x2 (x3 + 1)
def fX7_whereJustSo_b40 (r : RR) (p0 : Nat) (p1 : Nat) : Nat → HH → Int32 → Int32 → Option (Int32 × HH)
  | 0, _, _, _ => none
  | n + 1, h, x2, x3 => if 2 ≤ x3 then (some (x2, h)) else ((fX0_settle h r (r p0 5) (r p0 0) x3).bind (fun h54 => (fX3_firstUnlike h54 r p1 (r (r p0 5) 3)).bind (fun v65 => if ¬ v65 = (-1) then (fX7_whereJustSo_b80 r p0 p1 (fun h_ z2_ z3_ => fX7_whereJustSo_b40 r p0 p1 n h_ z2_ z3_) h54 x2 x3) else (lt (x2 ||| (1 <<< ((3 + x3) &&& 31))) (fun y79 => fX7_whereJustSo_b80 r p0 p1 (fun h_ z2_ z3_ => fX7_whereJustSo_b40 r p0 p1 n h_ z2_ z3_) h54 y79 x3)))))
def fX7_whereJustSo_b4 (r : RR) (p0 : Nat) (p1 : Nat) : Nat → HH → Int32 → Int32 → Option (Int32 × HH)
  | 0, _, _, _ => none
  | n + 1, h, x2, x3 => if 3 ≤ x3 then (fX7_whereJustSo_b40 r p0 p1 lpF h x2 0) else (gd (inb x3 (lnA (r (r p0 0) 2))) ((fX3_firstUnlike h r p1 (r (r (r p0 0) 2) (ix x3))).bind (fun v19 => if ¬ v19 = (-1) then (fX7_whereJustSo_b32 r p0 p1 (fun h_ z2_ z3_ => fX7_whereJustSo_b4 r p0 p1 n h_ z2_ z3_) h x2 x3) else (lt (x2 ||| (1 <<< (x3 &&& 31))) (fun y31 => fX7_whereJustSo_b32 r p0 p1 (fun h_ z2_ z3_ => fX7_whereJustSo_b4 r p0 p1 n h_ z2_ z3_) h y31 x3)))))
def fX7_whereJustSo (h : HH) (r : RR) (p0 : Nat) (p1 : Nat) : Option (Int32 × HH) := fX7_whereJustSo_b4 r p0 p1 lpF h 0 0
set_option maxRecDepth 100000 in
set_option maxHeartbeats 4000000 in
theorem kX7_whereJustSo_b32 {X : XT} {b N sz : Nat} {ok : Nat → Prop} {r : RR} {w : Int32 × HH} (hX : XOK X RX7 cX7_whereJustSo 4 6) (hM : N ≤ MA) (hW : WT KA lnA ok N r) (hA : ∀ p, KA p < 16 → ok p) (p0 : Nat) (p1 : Nat) (t0 : KA p0 = 7 ∧ ok p0) (t1 : KA p1 = 3 ∧ ok p1) (hR : XR X b KA lnA MA (some FieldType.int) 0 0 N sz (some (.int w.1)) w.2 r) (k4 : HH → Int32 → Int32 → Option (Int32 × HH)) (hk4 : ∀ (h : HH) (x2 : Int32) (x3 : Int32), k4 h x2 x3 = some w → GX X b KA lnA MA 4 0 0 N sz 4 [(0, .ref (b + p0)), (1, .ref (b + p1)), (2, .int x2), (3, .int x3)] [] h r) (h : HH) (x2 : Int32) (x3 : Int32) (hF : fX7_whereJustSo_b32 r p0 p1 k4 h x2 x3 = some w) : GX X b KA lnA MA 4 0 0 N sz 32 [(0, .ref (b + p0)), (1, .ref (b + p1)), (2, .int x2), (3, .int x3)] [] h r := by
  rw [fX7_whereJustSo_b32] at hF
  refine g_iinc (L' := [(3, .int (x3 + 1)), (0, .ref (b + p0)), (1, .ref (b + p1)), (2, .int x2)]) (j := 3) hX dX7_whereJustSo_32 rfl rfl (by decide) rfl ?_
  refine g_goto (tgt := 4) hX dX7_whereJustSo_35 (by decide) ?_
  refine g_sub (L' := [(0, .ref (b + p0)), (1, .ref (b + p1)), (2, .int x2), (3, .int (x3 + 1))]) [1, 2, 3, 0] rfl ?_
  exact hk4 h x2 (x3 + 1) hF
set_option maxRecDepth 100000 in
set_option maxHeartbeats 4000000 in
theorem kX7_whereJustSo_b80 {X : XT} {b N sz : Nat} {ok : Nat → Prop} {r : RR} {w : Int32 × HH} (hX : XOK X RX7 cX7_whereJustSo 4 6) (hM : N ≤ MA) (hW : WT KA lnA ok N r) (hA : ∀ p, KA p < 16 → ok p) (p0 : Nat) (p1 : Nat) (t0 : KA p0 = 7 ∧ ok p0) (t1 : KA p1 = 3 ∧ ok p1) (hR : XR X b KA lnA MA (some FieldType.int) 0 0 N sz (some (.int w.1)) w.2 r) (k40 : HH → Int32 → Int32 → Option (Int32 × HH)) (hk40 : ∀ (h : HH) (x2 : Int32) (x3 : Int32), k40 h x2 x3 = some w → GX X b KA lnA MA 4 0 0 N sz 40 [(0, .ref (b + p0)), (1, .ref (b + p1)), (2, .int x2), (3, .int x3)] [] h r) (h : HH) (x2 : Int32) (x3 : Int32) (hF : fX7_whereJustSo_b80 r p0 p1 k40 h x2 x3 = some w) : GX X b KA lnA MA 4 0 0 N sz 80 [(0, .ref (b + p0)), (1, .ref (b + p1)), (2, .int x2), (3, .int x3)] [] h r := by
  rw [fX7_whereJustSo_b80] at hF
  refine g_iinc (L' := [(3, .int (x3 + 1)), (0, .ref (b + p0)), (1, .ref (b + p1)), (2, .int x2)]) (j := 3) hX dX7_whereJustSo_80 rfl rfl (by decide) rfl ?_
  refine g_goto (tgt := 40) hX dX7_whereJustSo_83 (by decide) ?_
  refine g_sub (L' := [(0, .ref (b + p0)), (1, .ref (b + p1)), (2, .int x2), (3, .int (x3 + 1))]) [1, 2, 3, 0] rfl ?_
  exact hk40 h x2 (x3 + 1) hF
set_option maxRecDepth 100000 in
set_option maxHeartbeats 4000000 in
theorem kX7_whereJustSo_b40 {X : XT} {b N sz : Nat} {ok : Nat → Prop} {r : RR} {w : Int32 × HH} (hX : XOK X RX7 cX7_whereJustSo 4 6) (hM : N ≤ MA) (hW : WT KA lnA ok N r) (hA : ∀ p, KA p < 16 → ok p) (p0 : Nat) (p1 : Nat) (t0 : KA p0 = 7 ∧ ok p0) (t1 : KA p1 = 3 ∧ ok p1) (hR : XR X b KA lnA MA (some FieldType.int) 0 0 N sz (some (.int w.1)) w.2 r) : ∀ (n : Nat) (h : HH) (x2 : Int32) (x3 : Int32), fX7_whereJustSo_b40 r p0 p1 n h x2 x3 = some w → GX X b KA lnA MA 4 0 0 N sz 40 [(0, .ref (b + p0)), (1, .ref (b + p1)), (2, .int x2), (3, .int x3)] [] h r := by
  intro n
  induction n with
  | zero =>
    intro h x2 x3 hF
    cases hF
  | succ n ih =>
    intro h x2 x3 hF
    rw [fX7_whereJustSo_b40] at hF
    refine g_iload_n hX dX7_whereJustSo_40 (i := 3) rfl (j := 3) rfl ?_
    refine g_iconst (v := 2) hX dX7_whereJustSo_41 (by decide) ?_
    refine g_icmp_ge (tgt := 86) hX dX7_whereJustSo_42 (by decide) (fun c42 => ?_) (fun c42 => ?_)
    · have hF := ite_t hF c42
      refine g_iload_n hX dX7_whereJustSo_86 (i := 2) rfl (j := 2) rfl ?_
      obtain rfl := Option.some.inj hF
      exact g_iret hX dX7_whereJustSo_87 hR
    · have hF := ite_f hF c42
      refine g_aload_n hX dX7_whereJustSo_45 (i := 0) rfl (j := 0) rfl ?_
      have tf46 := (tyF (k := 5) hW t0 (by decide) rfl (by decide) : KA (r p0 5) = 0 ∧ ok (r p0 5))
      refine gf_X7_38 hX dX7_whereJustSo_46 (ty1 hW t0) (hW.1 _ tf46.2).1 ?_
      refine g_aload_n hX dX7_whereJustSo_49 (i := 0) rfl (j := 0) rfl ?_
      have tf50 := (tyF (k := 0) hW t0 (by decide) rfl (by decide) : KA (r p0 0) = 6 ∧ ok (r p0 0))
      refine gf_X7_12 hX dX7_whereJustSo_50 (ty1 hW t0) (hW.1 _ tf50.2).1 ?_
      refine g_iload_n hX dX7_whereJustSo_53 (i := 3) rfl (j := 3) rfl ?_
      obtain ⟨h54, e54, hF⟩ := bi_some hF
      refine g_callV (As := [.ref (b + (r p0 0)), .int x3]) (rest := []) (stk := []) hX dX7_whereJustSo_54 (ctX0_settle hM hW hA (r p0 5) (r p0 0) x3 tf46 tf50 e54) (by decide) (by decide) wm_X7_182 wi_X0_settle ws_X0_settle wz_X0 wc_X0_settle hyX0_settle rfl (ci := 0) rfl (by decide) tf46.1 (hW.1 _ tf46.2).1 (hW.1 _ tf46.2).2 (Nat.le_of_ble_eq_true rfl) rfl rfl ?_ rfl rfl
      refine g_aload_n hX dX7_whereJustSo_57 (i := 1) rfl (j := 1) rfl ?_
      refine g_aload_n hX dX7_whereJustSo_58 (i := 0) rfl (j := 0) rfl ?_
      have tf59 := (tyF (k := 5) hW t0 (by decide) rfl (by decide) : KA (r p0 5) = 0 ∧ ok (r p0 5))
      refine gf_X7_38 hX dX7_whereJustSo_59 (ty1 hW t0) (hW.1 _ tf59.2).1 ?_
      have tf62 := (tyF (k := 3) hW tf59 (by decide) rfl (by decide) : KA (r (r p0 5) 3) = 5 ∧ ok (r (r p0 5) 3))
      refine gf_X7_192 hX dX7_whereJustSo_62 (ty1 hW tf59) (hW.1 _ tf62.2).1 ?_
      obtain ⟨v65, e65, hF⟩ := bi_some hF
      refine g_callV (As := [.ref (b + (r (r p0 5) 3))]) (rest := []) (stk := [.int v65]) hX dX7_whereJustSo_65 (ctX3_firstUnlike hM hW p1 (r (r p0 5) 3) t1 tf62 e65) (by decide) (by decide) wm_X7_229 wi_X3_firstUnlike ws_X3_firstUnlike wz_X3 wc_X3_firstUnlike hyX3_firstUnlike rfl (ci := 3) rfl (by decide) t1.1 (hW.1 _ t1.2).1 (hW.1 _ t1.2).2 (Nat.le_of_ble_eq_true rfl) rfl rfl ?_ rfl rfl
      refine g_iconst (v := (-1)) hX dX7_whereJustSo_68 (by decide) ?_
      refine g_icmp_ne (tgt := 80) hX dX7_whereJustSo_69 (by decide) (fun c69 => ?_) (fun c69 => ?_)
      · have hF := ite_t hF c69
        refine g_sub (L' := [(0, .ref (b + p0)), (1, .ref (b + p1)), (2, .int x2), (3, .int x3)]) [0, 1, 2, 3] rfl ?_
        exact kX7_whereJustSo_b80 hX hM hW hA p0 p1 t0 t1 hR (fun h_ z2_ z3_ => fX7_whereJustSo_b40 r p0 p1 n h_ z2_ z3_) ih h54 x2 x3 hF
      · have hF := ite_f hF (fun z => z c69)
        refine g_iload_n hX dX7_whereJustSo_72 (i := 2) rfl (j := 2) rfl ?_
        refine g_iconst (v := 1) hX dX7_whereJustSo_73 (by decide) ?_
        refine g_iconst (v := 3) hX dX7_whereJustSo_74 (by decide) ?_
        refine g_iload_n hX dX7_whereJustSo_75 (i := 3) rfl (j := 3) rfl ?_
        refine g_iadd hX dX7_whereJustSo_76 ?_
        refine g_ishl hX dX7_whereJustSo_77 ?_
        refine g_ior hX dX7_whereJustSo_78 ?_
        obtain ⟨y79, e79, hF⟩ := lt_some hF
        refine g_topi e79 ?_
        refine g_istore_n (L' := [(2, .int y79), (0, .ref (b + p0)), (1, .ref (b + p1)), (3, .int x3)]) hX dX7_whereJustSo_79 (i := 2) rfl (by decide) rfl ?_
        refine g_sub (L' := [(0, .ref (b + p0)), (1, .ref (b + p1)), (2, .int y79), (3, .int x3)]) [1, 2, 0, 3] rfl ?_
        exact kX7_whereJustSo_b80 hX hM hW hA p0 p1 t0 t1 hR (fun h_ z2_ z3_ => fX7_whereJustSo_b40 r p0 p1 n h_ z2_ z3_) ih h54 y79 x3 hF
set_option maxRecDepth 100000 in
set_option maxHeartbeats 4000000 in
theorem kX7_whereJustSo_b4 {X : XT} {b N sz : Nat} {ok : Nat → Prop} {r : RR} {w : Int32 × HH} (hX : XOK X RX7 cX7_whereJustSo 4 6) (hM : N ≤ MA) (hW : WT KA lnA ok N r) (hA : ∀ p, KA p < 16 → ok p) (p0 : Nat) (p1 : Nat) (t0 : KA p0 = 7 ∧ ok p0) (t1 : KA p1 = 3 ∧ ok p1) (hR : XR X b KA lnA MA (some FieldType.int) 0 0 N sz (some (.int w.1)) w.2 r) : ∀ (n : Nat) (h : HH) (x2 : Int32) (x3 : Int32), fX7_whereJustSo_b4 r p0 p1 n h x2 x3 = some w → GX X b KA lnA MA 4 0 0 N sz 4 [(0, .ref (b + p0)), (1, .ref (b + p1)), (2, .int x2), (3, .int x3)] [] h r := by
  intro n
  induction n with
  | zero =>
    intro h x2 x3 hF
    cases hF
  | succ n ih =>
    intro h x2 x3 hF
    rw [fX7_whereJustSo_b4] at hF
    refine g_iload_n hX dX7_whereJustSo_4 (i := 3) rfl (j := 3) rfl ?_
    refine g_iconst (v := 3) hX dX7_whereJustSo_5 (by decide) ?_
    refine g_icmp_ge (tgt := 38) hX dX7_whereJustSo_6 (by decide) (fun c6 => ?_) (fun c6 => ?_)
    · have hF := ite_t hF c6
      refine g_iconst (v := 0) hX dX7_whereJustSo_38 (by decide) ?_
      refine g_istore_n (L' := [(3, .int 0), (0, .ref (b + p0)), (1, .ref (b + p1)), (2, .int x2)]) hX dX7_whereJustSo_39 (i := 3) rfl (by decide) rfl ?_
      refine g_sub (L' := [(0, .ref (b + p0)), (1, .ref (b + p1)), (2, .int x2), (3, .int 0)]) [1, 2, 3, 0] rfl ?_
      exact kX7_whereJustSo_b40 hX hM hW hA p0 p1 t0 t1 hR lpF h x2 0 hF
    · have hF := ite_f hF c6
      refine g_aload_n hX dX7_whereJustSo_9 (i := 1) rfl (j := 1) rfl ?_
      refine g_aload_n hX dX7_whereJustSo_10 (i := 0) rfl (j := 0) rfl ?_
      have tf11 := (tyF (k := 0) hW t0 (by decide) rfl (by decide) : KA (r p0 0) = 6 ∧ ok (r p0 0))
      refine gf_X7_12 hX dX7_whereJustSo_11 (ty1 hW t0) (hW.1 _ tf11.2).1 ?_
      have tf14 := (tyF (k := 2) hW tf11 (by decide) rfl (by decide) : KA (r (r p0 0) 2) = 13 ∧ ok (r (r p0 0) 2))
      refine gf_X7_78 hX dX7_whereJustSo_14 (ty1 hW tf11) (hW.1 _ tf14.2).1 ?_
      refine g_iload_n hX dX7_whereJustSo_17 (i := 3) rfl (j := 3) rfl ?_
      obtain ⟨g18, hF⟩ := gd_some hF
      have ta18 : KA (r (r (r p0 0) 2) (ix x3)) = 5 ∧ ok (r (r (r p0 0) 2) (ix x3)) := tyA hW tf14 (by decide) rfl (by decide) g18
      refine g_aald hX dX7_whereJustSo_18 tf14.1 (by decide) (by decide) (hW.1 _ tf14.2).1 (hW.1 _ tf14.2).2 g18 (hW.1 _ ta18.2).1 ?_
      obtain ⟨v19, e19, hF⟩ := bi_some hF
      refine g_callV (As := [.ref (b + (r (r (r p0 0) 2) (ix x3)))]) (rest := []) (stk := [.int v19]) hX dX7_whereJustSo_19 (ctX3_firstUnlike hM hW p1 (r (r (r p0 0) 2) (ix x3)) t1 ta18 e19) (by decide) (by decide) wm_X7_229 wi_X3_firstUnlike ws_X3_firstUnlike wz_X3 wc_X3_firstUnlike hyX3_firstUnlike rfl (ci := 3) rfl (by decide) t1.1 (hW.1 _ t1.2).1 (hW.1 _ t1.2).2 (Nat.le_of_ble_eq_true rfl) rfl rfl ?_ rfl rfl
      refine g_iconst (v := (-1)) hX dX7_whereJustSo_22 (by decide) ?_
      refine g_icmp_ne (tgt := 32) hX dX7_whereJustSo_23 (by decide) (fun c23 => ?_) (fun c23 => ?_)
      · have hF := ite_t hF c23
        refine g_sub (L' := [(0, .ref (b + p0)), (1, .ref (b + p1)), (2, .int x2), (3, .int x3)]) [0, 1, 2, 3] rfl ?_
        exact kX7_whereJustSo_b32 hX hM hW hA p0 p1 t0 t1 hR (fun h_ z2_ z3_ => fX7_whereJustSo_b4 r p0 p1 n h_ z2_ z3_) ih h x2 x3 hF
      · have hF := ite_f hF (fun z => z c23)
        refine g_iload_n hX dX7_whereJustSo_26 (i := 2) rfl (j := 2) rfl ?_
        refine g_iconst (v := 1) hX dX7_whereJustSo_27 (by decide) ?_
        refine g_iload_n hX dX7_whereJustSo_28 (i := 3) rfl (j := 3) rfl ?_
        refine g_ishl hX dX7_whereJustSo_29 ?_
        refine g_ior hX dX7_whereJustSo_30 ?_
        obtain ⟨y31, e31, hF⟩ := lt_some hF
        refine g_topi e31 ?_
        refine g_istore_n (L' := [(2, .int y31), (0, .ref (b + p0)), (1, .ref (b + p1)), (3, .int x3)]) hX dX7_whereJustSo_31 (i := 2) rfl (by decide) rfl ?_
        refine g_sub (L' := [(0, .ref (b + p0)), (1, .ref (b + p1)), (2, .int y31), (3, .int x3)]) [1, 2, 0, 3] rfl ?_
        exact kX7_whereJustSo_b32 hX hM hW hA p0 p1 t0 t1 hR (fun h_ z2_ z3_ => fX7_whereJustSo_b4 r p0 p1 n h_ z2_ z3_) ih h y31 x3 hF
set_option maxRecDepth 100000 in
set_option maxHeartbeats 4000000 in
theorem kX7_whereJustSo {X : XT} {b N sz : Nat} {ok : Nat → Prop} {h : HH} {r : RR} {w : Int32 × HH} (hX : XOK X RX7 cX7_whereJustSo 4 6) (hM : N ≤ MA) (hW : WT KA lnA ok N r) (hA : ∀ p, KA p < 16 → ok p) (p0 : Nat) (p1 : Nat) (t0 : KA p0 = 7 ∧ ok p0) (t1 : KA p1 = 3 ∧ ok p1) (hR : XR X b KA lnA MA (some FieldType.int) 0 0 N sz (some (.int w.1)) w.2 r) (hF : fX7_whereJustSo h r p0 p1 = some w) : GX X b KA lnA MA 4 0 0 N sz 0 [(0, .ref (b + p0)), (1, .ref (b + p1))] [] h r := by
  rw [fX7_whereJustSo] at hF
  refine g_iconst (v := 0) hX dX7_whereJustSo_0 (by decide) ?_
  refine g_istore_n (L' := [(2, .int 0), (0, .ref (b + p0)), (1, .ref (b + p1))]) hX dX7_whereJustSo_1 (i := 2) rfl (by decide) rfl ?_
  refine g_iconst (v := 0) hX dX7_whereJustSo_2 (by decide) ?_
  refine g_istore_n (L' := [(3, .int 0), (2, .int 0), (0, .ref (b + p0)), (1, .ref (b + p1))]) hX dX7_whereJustSo_3 (i := 3) rfl (by decide) rfl ?_
  refine g_sub (L' := [(0, .ref (b + p0)), (1, .ref (b + p1)), (2, .int 0), (3, .int 0)]) [2, 3, 1, 0] rfl ?_
  exact kX7_whereJustSo_b4 hX hM hW hA p0 p1 t0 t1 hR lpF h 0 0 hF
theorem ctX7_whereJustSo {b N sz : Nat} {ok : Nat → Prop} {h : HH} {r : RR} {w : Int32 × HH} (hM : N ≤ MA) (hW : WT KA lnA ok N r) (hA : ∀ p, KA p < 16 → ok p) (p0 : Nat) (p1 : Nat) (t0 : KA p0 = 7 ∧ ok p0) (t1 : KA p1 = 3 ∧ ok p1) (hF : fX7_whereJustSo h r p0 p1 = some w) : CT yX7_whereJustSo cX7_whereJustSo 4 (some FieldType.int) 6 b KA lnA MA N sz [.ref (b + p0), .ref (b + p1)] h r N sz (some (.int w.1)) w.2 r 0 0 :=
  CT_of (by decide) rfl (Nat.le_of_ble_eq_true rfl) (by decide) trivial (fun X hX hR => kX7_whereJustSo hX hM hW hA p0 p1 t0 t1 hR hF)
/-! X7_tells -/
def fX7_tells (h : HH) (r : RR) (p0 : Nat) (a1 : Int32) (a2 : Int32) (a3 : Int32) : Option (Int32 × HH) := (fX7_isSheet h r a1).bind (fun v1 => if v1 = 0 then (some ((-2), h)) else ((fX7_isTree h r a2).bind (fun v8 => if v8 = 0 then (some ((-2), h)) else (if a3 < 0 then (some ((-2), h)) else (if a3 ≤ 1 then (gd (inb a1 (lnA (r p0 7))) ((fX3_isMissing h r (r (r p0 7) (ix a1))).bind (fun v36 => if v36 = 0 then (if (h (r (r p0 7) (ix a1)) 1) ≤ 30 then (if ¬ a3 = 0 then (bi2 (fX7_whereJustSo h r p0 (r (r p0 7) (ix a1))) (fun v82 h82 => some (v82, h82))) else (gd (inb a2 (lnA (r (r p0 0) 2))) ((fX3_firstUnlike h r (r (r p0 7) (ix a1)) (r (r (r p0 0) 2) (ix a2))).bind (fun v73 => some (v73, h))))) else (some ((-2), h))) else (some ((-11), h))))) else (some ((-2), h)))))))
set_option maxRecDepth 100000 in
set_option maxHeartbeats 4000000 in
theorem kX7_tells {X : XT} {b N sz : Nat} {ok : Nat → Prop} {h : HH} {r : RR} {w : Int32 × HH} (hX : XOK X RX7 cX7_tells 5 7) (hM : N ≤ MA) (hW : WT KA lnA ok N r) (hA : ∀ p, KA p < 16 → ok p) (p0 : Nat) (a1 : Int32) (a2 : Int32) (a3 : Int32) (t0 : KA p0 = 7 ∧ ok p0) (hR : XR X b KA lnA MA (some FieldType.int) 0 0 N sz (some (.int w.1)) w.2 r) (hF : fX7_tells h r p0 a1 a2 a3 = some w) : GX X b KA lnA MA 5 0 0 N sz 0 [(0, .ref (b + p0)), (1, .int a1), (2, .int a2), (3, .int a3)] [] h r := by
  rw [fX7_tells] at hF
  refine g_iload_n hX dX7_tells_0 (i := 1) rfl (j := 1) rfl ?_
  obtain ⟨v1, e1, hF⟩ := bi_some hF
  refine g_callS (As := [.int a1]) (rest := []) (stk := [.int v1]) hX dX7_tells_1 (ctX7_isSheet hM hW a1 e1) (by decide) (by decide) wm_X7_222 wt_X7_isSheet wz_X7 wc_X7_isSheet hyX7_isSheet rfl (Nat.le_of_ble_eq_true rfl) rfl rfl ?_ rfl rfl
  refine g_if_eq (tgt := 23) hX dX7_tells_4 (by decide) (fun c4 => ?_) (fun c4 => ?_)
  · have hF := ite_t hF c4
    refine g_bipush (v := (-2)) hX dX7_tells_23 (by decide) ?_
    obtain rfl := Option.some.inj hF
    exact g_iret hX dX7_tells_25 hR
  · have hF := ite_f hF c4
    refine g_iload_n hX dX7_tells_7 (i := 2) rfl (j := 2) rfl ?_
    obtain ⟨v8, e8, hF⟩ := bi_some hF
    refine g_callS (As := [.int a2]) (rest := []) (stk := [.int v8]) hX dX7_tells_8 (ctX7_isTree hM hW a2 e8) (by decide) (by decide) wm_X7_71 wt_X7_isTree wz_X7 wc_X7_isTree hyX7_isTree rfl (Nat.le_of_ble_eq_true rfl) rfl rfl ?_ rfl rfl
    refine g_if_eq (tgt := 23) hX dX7_tells_11 (by decide) (fun c11 => ?_) (fun c11 => ?_)
    · have hF := ite_t hF c11
      refine g_bipush (v := (-2)) hX dX7_tells_23 (by decide) ?_
      obtain rfl := Option.some.inj hF
      exact g_iret hX dX7_tells_25 hR
    · have hF := ite_f hF c11
      refine g_iload_n hX dX7_tells_14 (i := 3) rfl (j := 3) rfl ?_
      refine g_if_lt (tgt := 23) hX dX7_tells_15 (by decide) (fun c15 => ?_) (fun c15 => ?_)
      · have hF := ite_t hF c15
        refine g_bipush (v := (-2)) hX dX7_tells_23 (by decide) ?_
        obtain rfl := Option.some.inj hF
        exact g_iret hX dX7_tells_25 hR
      · have hF := ite_f hF c15
        refine g_iload_n hX dX7_tells_18 (i := 3) rfl (j := 3) rfl ?_
        refine g_iconst (v := 1) hX dX7_tells_19 (by decide) ?_
        refine g_icmp_le (tgt := 26) hX dX7_tells_20 (by decide) (fun c20 => ?_) (fun c20 => ?_)
        · have hF := ite_t hF c20
          refine g_aload_n hX dX7_tells_26 (i := 0) rfl (j := 0) rfl ?_
          have tf27 := (tyF (k := 7) hW t0 (by decide) rfl (by decide) : KA (r p0 7) = 12 ∧ ok (r p0 7))
          refine gf_X7_51 hX dX7_tells_27 (ty1 hW t0) (hW.1 _ tf27.2).1 ?_
          refine g_iload_n hX dX7_tells_30 (i := 1) rfl (j := 1) rfl ?_
          obtain ⟨g31, hF⟩ := gd_some hF
          have ta31 : KA (r (r p0 7) (ix a1)) = 3 ∧ ok (r (r p0 7) (ix a1)) := tyA hW tf27 (by decide) rfl (by decide) g31
          refine g_aald hX dX7_tells_31 tf27.1 (by decide) (by decide) (hW.1 _ tf27.2).1 (hW.1 _ tf27.2).2 g31 (hW.1 _ ta31.2).1 ?_
          refine g_astore (L' := [(4, .ref (b + (r (r p0 7) (ix a1)))), (0, .ref (b + p0)), (1, .int a1), (2, .int a2), (3, .int a3)]) hX dX7_tells_32 (by decide) rfl ?_
          refine g_aload hX dX7_tells_34 (j := 0) rfl ?_
          obtain ⟨v36, e36, hF⟩ := bi_some hF
          refine g_callV (As := []) (rest := []) (stk := [.int v36]) hX dX7_tells_36 (ctX3_isMissing hM hW (r (r p0 7) (ix a1)) ta31 e36) (by decide) (by decide) wm_X7_225 wi_X3_isMissing ws_X3_isMissing wz_X3 wc_X3_isMissing hyX3_isMissing rfl (ci := 3) rfl (by decide) ta31.1 (hW.1 _ ta31.2).1 (hW.1 _ ta31.2).2 (Nat.le_of_ble_eq_true rfl) rfl rfl ?_ rfl rfl
          refine g_if_eq (tgt := 45) hX dX7_tells_39 (by decide) (fun c39 => ?_) (fun c39 => ?_)
          · have hF := ite_t hF c39
            refine g_aload hX dX7_tells_45 (j := 0) rfl ?_
            refine gf_X7_228 hX dX7_tells_47 (ty1 hW ta31) ?_
            refine g_bipush (v := 30) hX dX7_tells_50 (by decide) ?_
            refine g_icmp_le (tgt := 58) hX dX7_tells_52 (by decide) (fun c52 => ?_) (fun c52 => ?_)
            · have hF := ite_t hF c52
              refine g_iload_n hX dX7_tells_58 (i := 3) rfl (j := 4) rfl ?_
              refine g_if_ne (tgt := 79) hX dX7_tells_59 (by decide) (fun c59 => ?_) (fun c59 => ?_)
              · have hF := ite_t hF c59
                refine g_aload_n hX dX7_tells_79 (i := 0) rfl (j := 1) rfl ?_
                refine g_aload hX dX7_tells_80 (j := 0) rfl ?_
                obtain ⟨v82, h82, e82, hF⟩ := bi2_some hF
                refine g_callV (As := [.ref (b + (r (r p0 7) (ix a1)))]) (rest := []) (stk := [.int v82]) hX dX7_tells_82 (ctX7_whereJustSo hM hW hA p0 (r (r p0 7) (ix a1)) t0 ta31 e82) (by decide) (by decide) wm_X7_233 wi_X7_whereJustSo ws_X7_whereJustSo wz_X7 wc_X7_whereJustSo hyX7_whereJustSo rfl (ci := 7) rfl (by decide) t0.1 (hW.1 _ t0.2).1 (hW.1 _ t0.2).2 (Nat.le_of_ble_eq_true rfl) rfl rfl ?_ rfl rfl
                obtain rfl := Option.some.inj hF
                exact g_iret hX dX7_tells_85 hR
              · have hF := ite_f hF (fun z => z c59)
                refine g_aload hX dX7_tells_62 (j := 0) rfl ?_
                refine g_aload_n hX dX7_tells_64 (i := 0) rfl (j := 1) rfl ?_
                have tf65 := (tyF (k := 0) hW t0 (by decide) rfl (by decide) : KA (r p0 0) = 6 ∧ ok (r p0 0))
                refine gf_X7_12 hX dX7_tells_65 (ty1 hW t0) (hW.1 _ tf65.2).1 ?_
                have tf68 := (tyF (k := 2) hW tf65 (by decide) rfl (by decide) : KA (r (r p0 0) 2) = 13 ∧ ok (r (r p0 0) 2))
                refine gf_X7_78 hX dX7_tells_68 (ty1 hW tf65) (hW.1 _ tf68.2).1 ?_
                refine g_iload_n hX dX7_tells_71 (i := 2) rfl (j := 3) rfl ?_
                obtain ⟨g72, hF⟩ := gd_some hF
                have ta72 : KA (r (r (r p0 0) 2) (ix a2)) = 5 ∧ ok (r (r (r p0 0) 2) (ix a2)) := tyA hW tf68 (by decide) rfl (by decide) g72
                refine g_aald hX dX7_tells_72 tf68.1 (by decide) (by decide) (hW.1 _ tf68.2).1 (hW.1 _ tf68.2).2 g72 (hW.1 _ ta72.2).1 ?_
                obtain ⟨v73, e73, hF⟩ := bi_some hF
                refine g_callV (As := [.ref (b + (r (r (r p0 0) 2) (ix a2)))]) (rest := []) (stk := [.int v73]) hX dX7_tells_73 (ctX3_firstUnlike hM hW (r (r p0 7) (ix a1)) (r (r (r p0 0) 2) (ix a2)) ta31 ta72 e73) (by decide) (by decide) wm_X7_229 wi_X3_firstUnlike ws_X3_firstUnlike wz_X3 wc_X3_firstUnlike hyX3_firstUnlike rfl (ci := 3) rfl (by decide) ta31.1 (hW.1 _ ta31.2).1 (hW.1 _ ta31.2).2 (Nat.le_of_ble_eq_true rfl) rfl rfl ?_ rfl rfl
                refine g_goto (tgt := 85) hX dX7_tells_76 (by decide) ?_
                obtain rfl := Option.some.inj hF
                exact g_iret hX dX7_tells_85 hR
            · have hF := ite_f hF c52
              refine g_bipush (v := (-2)) hX dX7_tells_55 (by decide) ?_
              obtain rfl := Option.some.inj hF
              exact g_iret hX dX7_tells_57 hR
          · have hF := ite_f hF c39
            refine g_bipush (v := (-11)) hX dX7_tells_42 (by decide) ?_
            obtain rfl := Option.some.inj hF
            exact g_iret hX dX7_tells_44 hR
        · have hF := ite_f hF c20
          refine g_bipush (v := (-2)) hX dX7_tells_23 (by decide) ?_
          obtain rfl := Option.some.inj hF
          exact g_iret hX dX7_tells_25 hR
theorem ctX7_tells {b N sz : Nat} {ok : Nat → Prop} {h : HH} {r : RR} {w : Int32 × HH} (hM : N ≤ MA) (hW : WT KA lnA ok N r) (hA : ∀ p, KA p < 16 → ok p) (p0 : Nat) (a1 : Int32) (a2 : Int32) (a3 : Int32) (t0 : KA p0 = 7 ∧ ok p0) (hF : fX7_tells h r p0 a1 a2 a3 = some w) : CT yX7_tells cX7_tells 5 (some FieldType.int) 7 b KA lnA MA N sz [.ref (b + p0), .int a1, .int a2, .int a3] h r N sz (some (.int w.1)) w.2 r 0 0 :=
  CT_of (by decide) rfl (Nat.le_of_ble_eq_true rfl) (by decide) trivial (fun X hX hR => kX7_tells hX hM hW hA p0 a1 a2 a3 t0 hR hF)
/-! X7_film -/
def fX7_film_b45 (r : RR) (p0 : Nat) (a1 : Int32) (a2 : Int32) (a3 : Int32) : Nat → HH → Nat → Int32 → Option (Int32 × HH)
  | 0, _, _, _ => none
  | n + 1, h, q4, x5 => if a3 ≤ x5 then (some (a3, h)) else (gd (inb a2 (lnA (r (r p0 0) 2))) (gd (inb x5 (lnA (r (r (r (r p0 0) 2) (ix a2)) 3))) ((fX3_put h r q4 x5 (h (r (r (r (r p0 0) 2) (ix a2)) 3) (ix x5))).bind (fun h70 => fX7_film_b45 r p0 a1 a2 a3 n h70 q4 (x5 + 1)))))
def fX7_film (h : HH) (r : RR) (p0 : Nat) (a1 : Int32) (a2 : Int32) (a3 : Int32) : Option (Int32 × HH) := (fX7_isSheet h r a1).bind (fun v1 => if v1 = 0 then (some ((-2), h)) else ((fX7_isTree h r a2).bind (fun v8 => if v8 = 0 then (some ((-2), h)) else (if a3 < 0 then (some ((-2), h)) else (if a3 ≤ 30 then (gd (inb a1 (lnA (r p0 7))) ((fX3_renew h r (r (r p0 7) (ix a1)) 1 a3).bind (fun h39 => fX7_film_b45 r p0 a1 a2 a3 lpF h39 (r (r p0 7) (ix a1)) 0))) else (some ((-2), h)))))))
set_option maxRecDepth 100000 in
set_option maxHeartbeats 4000000 in
theorem kX7_film_b45 {X : XT} {b N sz : Nat} {ok : Nat → Prop} {r : RR} {w : Int32 × HH} (hX : XOK X RX7 cX7_film 6 3) (hM : N ≤ MA) (hW : WT KA lnA ok N r) (p0 : Nat) (a1 : Int32) (a2 : Int32) (a3 : Int32) (t0 : KA p0 = 7 ∧ ok p0) (hR : XR X b KA lnA MA (some FieldType.int) 0 0 N sz (some (.int w.1)) w.2 r) : ∀ (n : Nat) (h : HH) (q4 : Nat) (x5 : Int32), (KA q4 = 3 ∧ ok q4) → fX7_film_b45 r p0 a1 a2 a3 n h q4 x5 = some w → GX X b KA lnA MA 6 0 0 N sz 45 [(0, .ref (b + p0)), (1, .int a1), (2, .int a2), (3, .int a3), (4, .ref (b + q4)), (5, .int x5)] [] h r := by
  intro n
  induction n with
  | zero =>
    intro h q4 x5 t4 hF
    cases hF
  | succ n ih =>
    intro h q4 x5 t4 hF
    rw [fX7_film_b45] at hF
    refine g_iload hX dX7_film_45 (j := 5) rfl ?_
    refine g_iload_n hX dX7_film_47 (i := 3) rfl (j := 3) rfl ?_
    refine g_icmp_ge (tgt := 79) hX dX7_film_48 (by decide) (fun c48 => ?_) (fun c48 => ?_)
    · have hF := ite_t hF c48
      refine g_iload_n hX dX7_film_79 (i := 3) rfl (j := 3) rfl ?_
      obtain rfl := Option.some.inj hF
      exact g_iret hX dX7_film_80 hR
    · have hF := ite_f hF c48
      refine g_aload hX dX7_film_51 (j := 4) rfl ?_
      refine g_iload hX dX7_film_53 (j := 5) rfl ?_
      refine g_aload_n hX dX7_film_55 (i := 0) rfl (j := 0) rfl ?_
      have tf56 := (tyF (k := 0) hW t0 (by decide) rfl (by decide) : KA (r p0 0) = 6 ∧ ok (r p0 0))
      refine gf_X7_12 hX dX7_film_56 (ty1 hW t0) (hW.1 _ tf56.2).1 ?_
      have tf59 := (tyF (k := 2) hW tf56 (by decide) rfl (by decide) : KA (r (r p0 0) 2) = 13 ∧ ok (r (r p0 0) 2))
      refine gf_X7_78 hX dX7_film_59 (ty1 hW tf56) (hW.1 _ tf59.2).1 ?_
      refine g_iload_n hX dX7_film_62 (i := 2) rfl (j := 2) rfl ?_
      obtain ⟨g63, hF⟩ := gd_some hF
      have ta63 : KA (r (r (r p0 0) 2) (ix a2)) = 5 ∧ ok (r (r (r p0 0) 2) (ix a2)) := tyA hW tf59 (by decide) rfl (by decide) g63
      refine g_aald hX dX7_film_63 tf59.1 (by decide) (by decide) (hW.1 _ tf59.2).1 (hW.1 _ tf59.2).2 g63 (hW.1 _ ta63.2).1 ?_
      have tf64 := (tyF (k := 3) hW ta63 (by decide) rfl (by decide) : KA (r (r (r (r p0 0) 2) (ix a2)) 3) = 9 ∧ ok (r (r (r (r p0 0) 2) (ix a2)) 3))
      refine gf_X7_98 hX dX7_film_64 (ty1 hW ta63) (hW.1 _ tf64.2).1 ?_
      refine g_iload hX dX7_film_67 (j := 5) rfl ?_
      obtain ⟨g69, hF⟩ := gd_some hF
      refine g_iald hX dX7_film_69 tf64.1 (hW.1 _ tf64.2).1 (hW.1 _ tf64.2).2 g69 ?_
      obtain ⟨h70, e70, hF⟩ := bi_some hF
      refine g_callV (As := [.int x5, .int (h (r (r (r (r p0 0) 2) (ix a2)) 3) (ix x5))]) (rest := []) (stk := []) hX dX7_film_70 (ctX3_put hM hW q4 x5 (h (r (r (r (r p0 0) 2) (ix a2)) 3) (ix x5)) t4 e70) (by decide) (by decide) wm_X7_241 wi_X3_put ws_X3_put wz_X3 wc_X3_put hyX3_put rfl (ci := 3) rfl (by decide) t4.1 (hW.1 _ t4.2).1 (hW.1 _ t4.2).2 (Nat.le_of_ble_eq_true rfl) rfl rfl ?_ rfl rfl
      refine g_iinc (L' := [(5, .int (x5 + 1)), (0, .ref (b + p0)), (1, .int a1), (2, .int a2), (3, .int a3), (4, .ref (b + q4))]) (j := 5) hX dX7_film_73 rfl rfl (by decide) rfl ?_
      refine g_goto (tgt := 45) hX dX7_film_76 (by decide) ?_
      refine g_sub (L' := [(0, .ref (b + p0)), (1, .int a1), (2, .int a2), (3, .int a3), (4, .ref (b + q4)), (5, .int (x5 + 1))]) [1, 2, 3, 4, 5, 0] rfl ?_
      exact ih h70 q4 (x5 + 1) t4 hF
set_option maxRecDepth 100000 in
set_option maxHeartbeats 4000000 in
theorem kX7_film {X : XT} {b N sz : Nat} {ok : Nat → Prop} {h : HH} {r : RR} {w : Int32 × HH} (hX : XOK X RX7 cX7_film 6 3) (hM : N ≤ MA) (hW : WT KA lnA ok N r) (p0 : Nat) (a1 : Int32) (a2 : Int32) (a3 : Int32) (t0 : KA p0 = 7 ∧ ok p0) (hR : XR X b KA lnA MA (some FieldType.int) 0 0 N sz (some (.int w.1)) w.2 r) (hF : fX7_film h r p0 a1 a2 a3 = some w) : GX X b KA lnA MA 6 0 0 N sz 0 [(0, .ref (b + p0)), (1, .int a1), (2, .int a2), (3, .int a3)] [] h r := by
  rw [fX7_film] at hF
  refine g_iload_n hX dX7_film_0 (i := 1) rfl (j := 1) rfl ?_
  obtain ⟨v1, e1, hF⟩ := bi_some hF
  refine g_callS (As := [.int a1]) (rest := []) (stk := [.int v1]) hX dX7_film_1 (ctX7_isSheet hM hW a1 e1) (by decide) (by decide) wm_X7_222 wt_X7_isSheet wz_X7 wc_X7_isSheet hyX7_isSheet rfl (Nat.le_of_ble_eq_true rfl) rfl rfl ?_ rfl rfl
  refine g_if_eq (tgt := 24) hX dX7_film_4 (by decide) (fun c4 => ?_) (fun c4 => ?_)
  · have hF := ite_t hF c4
    refine g_bipush (v := (-2)) hX dX7_film_24 (by decide) ?_
    obtain rfl := Option.some.inj hF
    exact g_iret hX dX7_film_26 hR
  · have hF := ite_f hF c4
    refine g_iload_n hX dX7_film_7 (i := 2) rfl (j := 2) rfl ?_
    obtain ⟨v8, e8, hF⟩ := bi_some hF
    refine g_callS (As := [.int a2]) (rest := []) (stk := [.int v8]) hX dX7_film_8 (ctX7_isTree hM hW a2 e8) (by decide) (by decide) wm_X7_71 wt_X7_isTree wz_X7 wc_X7_isTree hyX7_isTree rfl (Nat.le_of_ble_eq_true rfl) rfl rfl ?_ rfl rfl
    refine g_if_eq (tgt := 24) hX dX7_film_11 (by decide) (fun c11 => ?_) (fun c11 => ?_)
    · have hF := ite_t hF c11
      refine g_bipush (v := (-2)) hX dX7_film_24 (by decide) ?_
      obtain rfl := Option.some.inj hF
      exact g_iret hX dX7_film_26 hR
    · have hF := ite_f hF c11
      refine g_iload_n hX dX7_film_14 (i := 3) rfl (j := 3) rfl ?_
      refine g_if_lt (tgt := 24) hX dX7_film_15 (by decide) (fun c15 => ?_) (fun c15 => ?_)
      · have hF := ite_t hF c15
        refine g_bipush (v := (-2)) hX dX7_film_24 (by decide) ?_
        obtain rfl := Option.some.inj hF
        exact g_iret hX dX7_film_26 hR
      · have hF := ite_f hF c15
        refine g_iload_n hX dX7_film_18 (i := 3) rfl (j := 3) rfl ?_
        refine g_bipush (v := 30) hX dX7_film_19 (by decide) ?_
        refine g_icmp_le (tgt := 27) hX dX7_film_21 (by decide) (fun c21 => ?_) (fun c21 => ?_)
        · have hF := ite_t hF c21
          refine g_aload_n hX dX7_film_27 (i := 0) rfl (j := 0) rfl ?_
          have tf28 := (tyF (k := 7) hW t0 (by decide) rfl (by decide) : KA (r p0 7) = 12 ∧ ok (r p0 7))
          refine gf_X7_51 hX dX7_film_28 (ty1 hW t0) (hW.1 _ tf28.2).1 ?_
          refine g_iload_n hX dX7_film_31 (i := 1) rfl (j := 1) rfl ?_
          obtain ⟨g32, hF⟩ := gd_some hF
          have ta32 : KA (r (r p0 7) (ix a1)) = 3 ∧ ok (r (r p0 7) (ix a1)) := tyA hW tf28 (by decide) rfl (by decide) g32
          refine g_aald hX dX7_film_32 tf28.1 (by decide) (by decide) (hW.1 _ tf28.2).1 (hW.1 _ tf28.2).2 g32 (hW.1 _ ta32.2).1 ?_
          refine g_astore (L' := [(4, .ref (b + (r (r p0 7) (ix a1)))), (0, .ref (b + p0)), (1, .int a1), (2, .int a2), (3, .int a3)]) hX dX7_film_33 (by decide) rfl ?_
          refine g_aload hX dX7_film_35 (j := 0) rfl ?_
          refine g_iconst (v := 1) hX dX7_film_37 (by decide) ?_
          refine g_iload_n hX dX7_film_38 (i := 3) rfl (j := 4) rfl ?_
          obtain ⟨h39, e39, hF⟩ := bi_some hF
          refine g_callV (As := [.int 1, .int a3]) (rest := []) (stk := []) hX dX7_film_39 (ctX3_renew hM hW (r (r p0 7) (ix a1)) 1 a3 ta32 e39) (by decide) (by decide) wm_X7_237 wi_X3_renew ws_X3_renew wz_X3 wc_X3_renew hyX3_renew rfl (ci := 3) rfl (by decide) ta32.1 (hW.1 _ ta32.2).1 (hW.1 _ ta32.2).2 (Nat.le_of_ble_eq_true rfl) rfl rfl ?_ rfl rfl
          refine g_iconst (v := 0) hX dX7_film_42 (by decide) ?_
          refine g_istore (L' := [(5, .int 0), (4, .ref (b + (r (r p0 7) (ix a1)))), (0, .ref (b + p0)), (1, .int a1), (2, .int a2), (3, .int a3)]) hX dX7_film_43 (by decide) rfl ?_
          refine g_sub (L' := [(0, .ref (b + p0)), (1, .int a1), (2, .int a2), (3, .int a3), (4, .ref (b + (r (r p0 7) (ix a1)))), (5, .int 0)]) [2, 3, 4, 5, 1, 0] rfl ?_
          exact kX7_film_b45 hX hM hW p0 a1 a2 a3 t0 hR lpF h39 (r (r p0 7) (ix a1)) 0 ta32 hF
        · have hF := ite_f hF c21
          refine g_bipush (v := (-2)) hX dX7_film_24 (by decide) ?_
          obtain rfl := Option.some.inj hF
          exact g_iret hX dX7_film_26 hR
theorem ctX7_film {b N sz : Nat} {ok : Nat → Prop} {h : HH} {r : RR} {w : Int32 × HH} (hM : N ≤ MA) (hW : WT KA lnA ok N r) (p0 : Nat) (a1 : Int32) (a2 : Int32) (a3 : Int32) (t0 : KA p0 = 7 ∧ ok p0) (hF : fX7_film h r p0 a1 a2 a3 = some w) : CT yX7_film cX7_film 6 (some FieldType.int) 3 b KA lnA MA N sz [.ref (b + p0), .int a1, .int a2, .int a3] h r N sz (some (.int w.1)) w.2 r 0 0 :=
  CT_of (by decide) rfl (Nat.le_of_ble_eq_true rfl) (by decide) trivial (fun X hX hR => kX7_film hX hM hW p0 a1 a2 a3 t0 hR hF)
/-! X7_image -/
def fX7_image (h : HH) (r : RR) (p0 : Nat) : Option (Int32 × HH) := (fX6_become h r (r p0 1) (r p0 0)).bind (fun h8 => lt (up h8 p0 3 1) (fun h13 => some (h13 (r p0 0) 0, h13)))
set_option maxRecDepth 100000 in
set_option maxHeartbeats 4000000 in
theorem kX7_image {X : XT} {b N sz : Nat} {ok : Nat → Prop} {h : HH} {r : RR} {w : Int32 × HH} (hX : XOK X RX7 cX7_image 1 4) (hM : N ≤ MA) (hW : WT KA lnA ok N r) (p0 : Nat) (t0 : KA p0 = 7 ∧ ok p0) (hR : XR X b KA lnA MA (some FieldType.int) 0 0 N sz (some (.int w.1)) w.2 r) (hF : fX7_image h r p0 = some w) : GX X b KA lnA MA 1 0 0 N sz 0 [(0, .ref (b + p0))] [] h r := by
  rw [fX7_image] at hF
  refine g_aload_n hX dX7_image_0 (i := 0) rfl (j := 0) rfl ?_
  have tf1 := (tyF (k := 1) hW t0 (by decide) rfl (by decide) : KA (r p0 1) = 6 ∧ ok (r p0 1))
  refine gf_X7_16 hX dX7_image_1 (ty1 hW t0) (hW.1 _ tf1.2).1 ?_
  refine g_aload_n hX dX7_image_4 (i := 0) rfl (j := 0) rfl ?_
  have tf5 := (tyF (k := 0) hW t0 (by decide) rfl (by decide) : KA (r p0 0) = 6 ∧ ok (r p0 0))
  refine gf_X7_12 hX dX7_image_5 (ty1 hW t0) (hW.1 _ tf5.2).1 ?_
  obtain ⟨h8, e8, hF⟩ := bi_some hF
  refine g_callV (As := [.ref (b + (r p0 0))]) (rest := []) (stk := []) hX dX7_image_8 (ctX6_become hM hW (r p0 1) (r p0 0) tf1 tf5 e8) (by decide) (by decide) wm_X7_213 wi_X6_become ws_X6_become wz_X6 wc_X6_become hyX6_become rfl (ci := 6) rfl (by decide) tf1.1 (hW.1 _ tf1.2).1 (hW.1 _ tf1.2).2 (Nat.le_of_ble_eq_true rfl) rfl rfl ?_ rfl rfl
  refine g_aload_n hX dX7_image_11 (i := 0) rfl (j := 0) rfl ?_
  refine g_iconst (v := 1) hX dX7_image_12 (by decide) ?_
  obtain ⟨h13, e13, hF⟩ := lt_some hF
  refine pf_X7_22 hX dX7_image_13 (ty1 hW t0) hM (by decide) e13 ?_
  refine g_aload_n hX dX7_image_16 (i := 0) rfl (j := 0) rfl ?_
  have tf17 := (tyF (k := 0) hW t0 (by decide) rfl (by decide) : KA (r p0 0) = 6 ∧ ok (r p0 0))
  refine gf_X7_12 hX dX7_image_17 (ty1 hW t0) (hW.1 _ tf17.2).1 ?_
  refine gf_X7_244 hX dX7_image_20 (ty1 hW tf17) ?_
  obtain rfl := Option.some.inj hF
  exact g_iret hX dX7_image_23 hR
theorem ctX7_image {b N sz : Nat} {ok : Nat → Prop} {h : HH} {r : RR} {w : Int32 × HH} (hM : N ≤ MA) (hW : WT KA lnA ok N r) (p0 : Nat) (t0 : KA p0 = 7 ∧ ok p0) (hF : fX7_image h r p0 = some w) : CT yX7_image cX7_image 1 (some FieldType.int) 4 b KA lnA MA N sz [.ref (b + p0)] h r N sz (some (.int w.1)) w.2 r 0 0 :=
  CT_of (by decide) rfl (Nat.le_of_ble_eq_true rfl) (by decide) trivial (fun X hX hR => kX7_image hX hM hW p0 t0 hR hF)
/-! X7_back -/
def fX7_back (h : HH) (r : RR) (p0 : Nat) : Option (Int32 × HH) := if ¬ (h p0 3) = 0 then ((fX6_become h r (r p0 0) (r p0 1)).bind (fun h18 => some (h18 (r p0 0) 0, h18))) else (some ((-3), h))
set_option maxRecDepth 100000 in
set_option maxHeartbeats 4000000 in
theorem kX7_back {X : XT} {b N sz : Nat} {ok : Nat → Prop} {h : HH} {r : RR} {w : Int32 × HH} (hX : XOK X RX7 cX7_back 1 4) (hM : N ≤ MA) (hW : WT KA lnA ok N r) (p0 : Nat) (t0 : KA p0 = 7 ∧ ok p0) (hR : XR X b KA lnA MA (some FieldType.int) 0 0 N sz (some (.int w.1)) w.2 r) (hF : fX7_back h r p0 = some w) : GX X b KA lnA MA 1 0 0 N sz 0 [(0, .ref (b + p0))] [] h r := by
  rw [fX7_back] at hF
  refine g_aload_n hX dX7_back_0 (i := 0) rfl (j := 0) rfl ?_
  refine gf_X7_22 hX dX7_back_1 (ty1 hW t0) ?_
  refine g_if_ne (tgt := 10) hX dX7_back_4 (by decide) (fun c4 => ?_) (fun c4 => ?_)
  · have hF := ite_t hF c4
    refine g_aload_n hX dX7_back_10 (i := 0) rfl (j := 0) rfl ?_
    have tf11 := (tyF (k := 0) hW t0 (by decide) rfl (by decide) : KA (r p0 0) = 6 ∧ ok (r p0 0))
    refine gf_X7_12 hX dX7_back_11 (ty1 hW t0) (hW.1 _ tf11.2).1 ?_
    refine g_aload_n hX dX7_back_14 (i := 0) rfl (j := 0) rfl ?_
    have tf15 := (tyF (k := 1) hW t0 (by decide) rfl (by decide) : KA (r p0 1) = 6 ∧ ok (r p0 1))
    refine gf_X7_16 hX dX7_back_15 (ty1 hW t0) (hW.1 _ tf15.2).1 ?_
    obtain ⟨h18, e18, hF⟩ := bi_some hF
    refine g_callV (As := [.ref (b + (r p0 1))]) (rest := []) (stk := []) hX dX7_back_18 (ctX6_become hM hW (r p0 0) (r p0 1) tf11 tf15 e18) (by decide) (by decide) wm_X7_213 wi_X6_become ws_X6_become wz_X6 wc_X6_become hyX6_become rfl (ci := 6) rfl (by decide) tf11.1 (hW.1 _ tf11.2).1 (hW.1 _ tf11.2).2 (Nat.le_of_ble_eq_true rfl) rfl rfl ?_ rfl rfl
    refine g_aload_n hX dX7_back_21 (i := 0) rfl (j := 0) rfl ?_
    have tf22 := (tyF (k := 0) hW t0 (by decide) rfl (by decide) : KA (r p0 0) = 6 ∧ ok (r p0 0))
    refine gf_X7_12 hX dX7_back_22 (ty1 hW t0) (hW.1 _ tf22.2).1 ?_
    refine gf_X7_244 hX dX7_back_25 (ty1 hW tf22) ?_
    obtain rfl := Option.some.inj hF
    exact g_iret hX dX7_back_28 hR
  · have hF := ite_f hF (fun z => z c4)
    refine g_bipush (v := (-3)) hX dX7_back_7 (by decide) ?_
    obtain rfl := Option.some.inj hF
    exact g_iret hX dX7_back_9 hR
theorem ctX7_back {b N sz : Nat} {ok : Nat → Prop} {h : HH} {r : RR} {w : Int32 × HH} (hM : N ≤ MA) (hW : WT KA lnA ok N r) (p0 : Nat) (t0 : KA p0 = 7 ∧ ok p0) (hF : fX7_back h r p0 = some w) : CT yX7_back cX7_back 1 (some FieldType.int) 4 b KA lnA MA N sz [.ref (b + p0)] h r N sz (some (.int w.1)) w.2 r 0 0 :=
  CT_of (by decide) rfl (Nat.le_of_ble_eq_true rfl) (by decide) trivial (fun X hX hR => kX7_back hX hM hW p0 t0 hR hF)
/-! X7_count -/
def fX7_count (h : HH) (r : RR) (p0 : Nat) (a1 : Int32) : Option (Int32) := if a1 = 0 then (gd (inb a1 (lnA (r (r p0 0) 2))) ((fX5_size h r (r (r (r p0 0) 2) (ix a1))).bind (fun v53 => some (v53)))) else (if a1 = 1 then (gd (inb a1 (lnA (r (r p0 0) 2))) ((fX5_size h r (r (r (r p0 0) 2) (ix a1))).bind (fun v53 => some (v53)))) else (if a1 = 2 then (gd (inb a1 (lnA (r (r p0 0) 2))) ((fX5_size h r (r (r (r p0 0) 2) (ix a1))).bind (fun v53 => some (v53)))) else (if a1 = 3 then (some (h (r p0 0) 0)) else (if a1 = 4 then (some (h (r p0 0) 4)) else (if a1 = 5 then (some (h (r p0 4) 1)) else (if a1 = 6 then (some (h (r p0 0) 5)) else (some (-2))))))))
set_option maxRecDepth 100000 in
set_option maxHeartbeats 4000000 in
theorem kX7_count {X : XT} {b N sz : Nat} {ok : Nat → Prop} {h : HH} {r : RR} {w : Int32} (hX : XOK X RX7 cX7_count 2 2) (hM : N ≤ MA) (hW : WT KA lnA ok N r) (p0 : Nat) (a1 : Int32) (t0 : KA p0 = 7 ∧ ok p0) (hR : XR X b KA lnA MA (some FieldType.int) 0 0 N sz (some (.int w)) h r) (hF : fX7_count h r p0 a1 = some w) : GX X b KA lnA MA 2 0 0 N sz 0 [(0, .ref (b + p0)), (1, .int a1)] [] h r := by
  rw [fX7_count] at hF
  refine g_iload_n hX dX7_count_0 (i := 1) rfl (j := 1) rfl ?_
  by_cases c1_0 : a1 = 0
  · have hF := ite_t hF c1_0
    refine g_tin (tgt := 44) hX dX7_count_1 c1_0 (by decide) (by decide) rfl (by decide) ?_
    refine g_aload_n hX dX7_count_44 (i := 0) rfl (j := 0) rfl ?_
    have tf45 := (tyF (k := 0) hW t0 (by decide) rfl (by decide) : KA (r p0 0) = 6 ∧ ok (r p0 0))
    refine gf_X7_12 hX dX7_count_45 (ty1 hW t0) (hW.1 _ tf45.2).1 ?_
    have tf48 := (tyF (k := 2) hW tf45 (by decide) rfl (by decide) : KA (r (r p0 0) 2) = 13 ∧ ok (r (r p0 0) 2))
    refine gf_X7_78 hX dX7_count_48 (ty1 hW tf45) (hW.1 _ tf48.2).1 ?_
    refine g_iload_n hX dX7_count_51 (i := 1) rfl (j := 1) rfl ?_
    obtain ⟨g52, hF⟩ := gd_some hF
    have ta52 : KA (r (r (r p0 0) 2) (ix a1)) = 5 ∧ ok (r (r (r p0 0) 2) (ix a1)) := tyA hW tf48 (by decide) rfl (by decide) g52
    refine g_aald hX dX7_count_52 tf48.1 (by decide) (by decide) (hW.1 _ tf48.2).1 (hW.1 _ tf48.2).2 g52 (hW.1 _ ta52.2).1 ?_
    obtain ⟨v53, e53, hF⟩ := bi_some hF
    refine g_callV (As := []) (rest := []) (stk := [.int v53]) hX dX7_count_53 (ctX5_size hM hW (r (r (r p0 0) 2) (ix a1)) ta52 e53) (by decide) (by decide) wm_X7_247 wi_X5_size ws_X5_size wz_X5 wc_X5_size hyX5_size rfl (ci := 5) rfl (by decide) ta52.1 (hW.1 _ ta52.2).1 (hW.1 _ ta52.2).2 (Nat.le_of_ble_eq_true rfl) rfl rfl ?_ rfl rfl
    obtain rfl := Option.some.inj hF
    exact g_iret hX dX7_count_56 hR
  have hF := ite_f hF c1_0
  by_cases c1_1 : a1 = 1
  · have hF := ite_t hF c1_1
    refine g_tin (tgt := 44) hX dX7_count_1 c1_1 (by decide) (by decide) rfl (by decide) ?_
    refine g_aload_n hX dX7_count_44 (i := 0) rfl (j := 0) rfl ?_
    have tf45 := (tyF (k := 0) hW t0 (by decide) rfl (by decide) : KA (r p0 0) = 6 ∧ ok (r p0 0))
    refine gf_X7_12 hX dX7_count_45 (ty1 hW t0) (hW.1 _ tf45.2).1 ?_
    have tf48 := (tyF (k := 2) hW tf45 (by decide) rfl (by decide) : KA (r (r p0 0) 2) = 13 ∧ ok (r (r p0 0) 2))
    refine gf_X7_78 hX dX7_count_48 (ty1 hW tf45) (hW.1 _ tf48.2).1 ?_
    refine g_iload_n hX dX7_count_51 (i := 1) rfl (j := 1) rfl ?_
    obtain ⟨g52, hF⟩ := gd_some hF
    have ta52 : KA (r (r (r p0 0) 2) (ix a1)) = 5 ∧ ok (r (r (r p0 0) 2) (ix a1)) := tyA hW tf48 (by decide) rfl (by decide) g52
    refine g_aald hX dX7_count_52 tf48.1 (by decide) (by decide) (hW.1 _ tf48.2).1 (hW.1 _ tf48.2).2 g52 (hW.1 _ ta52.2).1 ?_
    obtain ⟨v53, e53, hF⟩ := bi_some hF
    refine g_callV (As := []) (rest := []) (stk := [.int v53]) hX dX7_count_53 (ctX5_size hM hW (r (r (r p0 0) 2) (ix a1)) ta52 e53) (by decide) (by decide) wm_X7_247 wi_X5_size ws_X5_size wz_X5 wc_X5_size hyX5_size rfl (ci := 5) rfl (by decide) ta52.1 (hW.1 _ ta52.2).1 (hW.1 _ ta52.2).2 (Nat.le_of_ble_eq_true rfl) rfl rfl ?_ rfl rfl
    obtain rfl := Option.some.inj hF
    exact g_iret hX dX7_count_56 hR
  have hF := ite_f hF c1_1
  by_cases c1_2 : a1 = 2
  · have hF := ite_t hF c1_2
    refine g_tin (tgt := 44) hX dX7_count_1 c1_2 (by decide) (by decide) rfl (by decide) ?_
    refine g_aload_n hX dX7_count_44 (i := 0) rfl (j := 0) rfl ?_
    have tf45 := (tyF (k := 0) hW t0 (by decide) rfl (by decide) : KA (r p0 0) = 6 ∧ ok (r p0 0))
    refine gf_X7_12 hX dX7_count_45 (ty1 hW t0) (hW.1 _ tf45.2).1 ?_
    have tf48 := (tyF (k := 2) hW tf45 (by decide) rfl (by decide) : KA (r (r p0 0) 2) = 13 ∧ ok (r (r p0 0) 2))
    refine gf_X7_78 hX dX7_count_48 (ty1 hW tf45) (hW.1 _ tf48.2).1 ?_
    refine g_iload_n hX dX7_count_51 (i := 1) rfl (j := 1) rfl ?_
    obtain ⟨g52, hF⟩ := gd_some hF
    have ta52 : KA (r (r (r p0 0) 2) (ix a1)) = 5 ∧ ok (r (r (r p0 0) 2) (ix a1)) := tyA hW tf48 (by decide) rfl (by decide) g52
    refine g_aald hX dX7_count_52 tf48.1 (by decide) (by decide) (hW.1 _ tf48.2).1 (hW.1 _ tf48.2).2 g52 (hW.1 _ ta52.2).1 ?_
    obtain ⟨v53, e53, hF⟩ := bi_some hF
    refine g_callV (As := []) (rest := []) (stk := [.int v53]) hX dX7_count_53 (ctX5_size hM hW (r (r (r p0 0) 2) (ix a1)) ta52 e53) (by decide) (by decide) wm_X7_247 wi_X5_size ws_X5_size wz_X5 wc_X5_size hyX5_size rfl (ci := 5) rfl (by decide) ta52.1 (hW.1 _ ta52.2).1 (hW.1 _ ta52.2).2 (Nat.le_of_ble_eq_true rfl) rfl rfl ?_ rfl rfl
    obtain rfl := Option.some.inj hF
    exact g_iret hX dX7_count_56 hR
  have hF := ite_f hF c1_2
  by_cases c1_3 : a1 = 3
  · have hF := ite_t hF c1_3
    refine g_tin (tgt := 57) hX dX7_count_1 c1_3 (by decide) (by decide) rfl (by decide) ?_
    refine g_aload_n hX dX7_count_57 (i := 0) rfl (j := 0) rfl ?_
    have tf58 := (tyF (k := 0) hW t0 (by decide) rfl (by decide) : KA (r p0 0) = 6 ∧ ok (r p0 0))
    refine gf_X7_12 hX dX7_count_58 (ty1 hW t0) (hW.1 _ tf58.2).1 ?_
    refine gf_X7_244 hX dX7_count_61 (ty1 hW tf58) ?_
    obtain rfl := Option.some.inj hF
    exact g_iret hX dX7_count_64 hR
  have hF := ite_f hF c1_3
  by_cases c1_4 : a1 = 4
  · have hF := ite_t hF c1_4
    refine g_tin (tgt := 65) hX dX7_count_1 c1_4 (by decide) (by decide) rfl (by decide) ?_
    refine g_aload_n hX dX7_count_65 (i := 0) rfl (j := 0) rfl ?_
    have tf66 := (tyF (k := 0) hW t0 (by decide) rfl (by decide) : KA (r p0 0) = 6 ∧ ok (r p0 0))
    refine gf_X7_12 hX dX7_count_66 (ty1 hW t0) (hW.1 _ tf66.2).1 ?_
    refine gf_X7_152 hX dX7_count_69 (ty1 hW tf66) ?_
    obtain rfl := Option.some.inj hF
    exact g_iret hX dX7_count_72 hR
  have hF := ite_f hF c1_4
  by_cases c1_5 : a1 = 5
  · have hF := ite_t hF c1_5
    refine g_tin (tgt := 73) hX dX7_count_1 c1_5 (by decide) (by decide) rfl (by decide) ?_
    refine g_aload_n hX dX7_count_73 (i := 0) rfl (j := 0) rfl ?_
    have tf74 := (tyF (k := 4) hW t0 (by decide) rfl (by decide) : KA (r p0 4) = 4 ∧ ok (r p0 4))
    refine gf_X7_29 hX dX7_count_74 (ty1 hW t0) (hW.1 _ tf74.2).1 ?_
    refine gf_X7_145 hX dX7_count_77 (ty1 hW tf74) ?_
    obtain rfl := Option.some.inj hF
    exact g_iret hX dX7_count_80 hR
  have hF := ite_f hF c1_5
  by_cases c1_6 : a1 = 6
  · have hF := ite_t hF c1_6
    refine g_tin (tgt := 81) hX dX7_count_1 c1_6 (by decide) (by decide) rfl (by decide) ?_
    refine g_aload_n hX dX7_count_81 (i := 0) rfl (j := 0) rfl ?_
    have tf82 := (tyF (k := 0) hW t0 (by decide) rfl (by decide) : KA (r p0 0) = 6 ∧ ok (r p0 0))
    refine gf_X7_12 hX dX7_count_82 (ty1 hW t0) (hW.1 _ tf82.2).1 ?_
    refine gf_X7_179 hX dX7_count_85 (ty1 hW tf82) ?_
    obtain rfl := Option.some.inj hF
    exact g_iret hX dX7_count_88 hR
  have hF := ite_f hF c1_6
  have n1_0 := lv_neT c1_0 (a := 0) (by decide)
  have n1_1 := lv_neT c1_1 (a := 1) (by decide)
  have n1_2 := lv_neT c1_2 (a := 2) (by decide)
  have n1_3 := lv_neT c1_3 (a := 3) (by decide)
  have n1_4 := lv_neT c1_4 (a := 4) (by decide)
  have n1_5 := lv_neT c1_5 (a := 5) (by decide)
  have n1_6 := lv_neT c1_6 (a := 6) (by decide)
  refine g_tout (tgt := 89) hX dX7_count_1 (by omega) (by decide) ?_
  refine g_bipush (v := (-2)) hX dX7_count_89 (by decide) ?_
  obtain rfl := Option.some.inj hF
  exact g_iret hX dX7_count_91 hR
theorem ctX7_count {b N sz : Nat} {ok : Nat → Prop} {h : HH} {r : RR} {w : Int32} (hM : N ≤ MA) (hW : WT KA lnA ok N r) (p0 : Nat) (a1 : Int32) (t0 : KA p0 = 7 ∧ ok p0) (hF : fX7_count h r p0 a1 = some w) : CT yX7_count cX7_count 2 (some FieldType.int) 2 b KA lnA MA N sz [.ref (b + p0), .int a1] h r N sz (some (.int w)) h r 0 0 :=
  CT_of (by decide) rfl (Nat.le_of_ble_eq_true rfl) (by decide) trivial (fun X hX hR => kX7_count hX hM hW p0 a1 t0 hR hF)
/-! X7_sheet -/
def fX7_sheet (h : HH) (r : RR) (p0 : Nat) (a1 : Int32) (a2 : Int32) (a3 : Int32) : Option (Int32 × HH) := (fX7_isSheet h r a1).bind (fun v1 => if v1 = 0 then (some ((-2), h)) else (if a2 < (-1) then (some ((-2), h)) else (if a2 ≤ 1 then (if ¬ a2 = (-1) then (if a3 ≤ 40 then (if 0 ≤ a3 then (gd (inb a1 (lnA (r p0 7))) ((fX3_renew h r (r (r p0 7) (ix a1)) a2 a3).bind (fun h62 => some (1, h62)))) else (some ((-14), h))) else (some ((-2), h))) else (gd (inb a1 (lnA (r p0 7))) ((fX3_renew h r (r (r p0 7) (ix a1)) (-1) 0).bind (fun h33 => some (1, h33))))) else (some ((-2), h)))))
set_option maxRecDepth 100000 in
set_option maxHeartbeats 4000000 in
theorem kX7_sheet {X : XT} {b N sz : Nat} {ok : Nat → Prop} {h : HH} {r : RR} {w : Int32 × HH} (hX : XOK X RX7 cX7_sheet 4 2) (hM : N ≤ MA) (hW : WT KA lnA ok N r) (p0 : Nat) (a1 : Int32) (a2 : Int32) (a3 : Int32) (t0 : KA p0 = 7 ∧ ok p0) (hR : XR X b KA lnA MA (some FieldType.int) 0 0 N sz (some (.int w.1)) w.2 r) (hF : fX7_sheet h r p0 a1 a2 a3 = some w) : GX X b KA lnA MA 4 0 0 N sz 0 [(0, .ref (b + p0)), (1, .int a1), (2, .int a2), (3, .int a3)] [] h r := by
  rw [fX7_sheet] at hF
  refine g_iload_n hX dX7_sheet_0 (i := 1) rfl (j := 1) rfl ?_
  obtain ⟨v1, e1, hF⟩ := bi_some hF
  refine g_callS (As := [.int a1]) (rest := []) (stk := [.int v1]) hX dX7_sheet_1 (ctX7_isSheet hM hW a1 e1) (by decide) (by decide) wm_X7_222 wt_X7_isSheet wz_X7 wc_X7_isSheet hyX7_isSheet rfl (Nat.le_of_ble_eq_true rfl) rfl rfl ?_ rfl rfl
  refine g_if_eq (tgt := 17) hX dX7_sheet_4 (by decide) (fun c4 => ?_) (fun c4 => ?_)
  · have hF := ite_t hF c4
    refine g_bipush (v := (-2)) hX dX7_sheet_17 (by decide) ?_
    obtain rfl := Option.some.inj hF
    exact g_iret hX dX7_sheet_19 hR
  · have hF := ite_f hF c4
    refine g_iload_n hX dX7_sheet_7 (i := 2) rfl (j := 2) rfl ?_
    refine g_iconst (v := (-1)) hX dX7_sheet_8 (by decide) ?_
    refine g_icmp_lt (tgt := 17) hX dX7_sheet_9 (by decide) (fun c9 => ?_) (fun c9 => ?_)
    · have hF := ite_t hF c9
      refine g_bipush (v := (-2)) hX dX7_sheet_17 (by decide) ?_
      obtain rfl := Option.some.inj hF
      exact g_iret hX dX7_sheet_19 hR
    · have hF := ite_f hF c9
      refine g_iload_n hX dX7_sheet_12 (i := 2) rfl (j := 2) rfl ?_
      refine g_iconst (v := 1) hX dX7_sheet_13 (by decide) ?_
      refine g_icmp_le (tgt := 20) hX dX7_sheet_14 (by decide) (fun c14 => ?_) (fun c14 => ?_)
      · have hF := ite_t hF c14
        refine g_iload_n hX dX7_sheet_20 (i := 2) rfl (j := 2) rfl ?_
        refine g_iconst (v := (-1)) hX dX7_sheet_21 (by decide) ?_
        refine g_icmp_ne (tgt := 38) hX dX7_sheet_22 (by decide) (fun c22 => ?_) (fun c22 => ?_)
        · have hF := ite_t hF c22
          refine g_iload_n hX dX7_sheet_38 (i := 3) rfl (j := 3) rfl ?_
          refine g_bipush (v := 40) hX dX7_sheet_39 (by decide) ?_
          refine g_icmp_le (tgt := 47) hX dX7_sheet_41 (by decide) (fun c41 => ?_) (fun c41 => ?_)
          · have hF := ite_t hF c41
            refine g_iload_n hX dX7_sheet_47 (i := 3) rfl (j := 3) rfl ?_
            refine g_if_ge (tgt := 54) hX dX7_sheet_48 (by decide) (fun c48 => ?_) (fun c48 => ?_)
            · have hF := ite_t hF c48
              refine g_aload_n hX dX7_sheet_54 (i := 0) rfl (j := 0) rfl ?_
              have tf55 := (tyF (k := 7) hW t0 (by decide) rfl (by decide) : KA (r p0 7) = 12 ∧ ok (r p0 7))
              refine gf_X7_51 hX dX7_sheet_55 (ty1 hW t0) (hW.1 _ tf55.2).1 ?_
              refine g_iload_n hX dX7_sheet_58 (i := 1) rfl (j := 1) rfl ?_
              obtain ⟨g59, hF⟩ := gd_some hF
              have ta59 : KA (r (r p0 7) (ix a1)) = 3 ∧ ok (r (r p0 7) (ix a1)) := tyA hW tf55 (by decide) rfl (by decide) g59
              refine g_aald hX dX7_sheet_59 tf55.1 (by decide) (by decide) (hW.1 _ tf55.2).1 (hW.1 _ tf55.2).2 g59 (hW.1 _ ta59.2).1 ?_
              refine g_iload_n hX dX7_sheet_60 (i := 2) rfl (j := 2) rfl ?_
              refine g_iload_n hX dX7_sheet_61 (i := 3) rfl (j := 3) rfl ?_
              obtain ⟨h62, e62, hF⟩ := bi_some hF
              refine g_callV (As := [.int a2, .int a3]) (rest := []) (stk := []) hX dX7_sheet_62 (ctX3_renew hM hW (r (r p0 7) (ix a1)) a2 a3 ta59 e62) (by decide) (by decide) wm_X7_237 wi_X3_renew ws_X3_renew wz_X3 wc_X3_renew hyX3_renew rfl (ci := 3) rfl (by decide) ta59.1 (hW.1 _ ta59.2).1 (hW.1 _ ta59.2).2 (Nat.le_of_ble_eq_true rfl) rfl rfl ?_ rfl rfl
              refine g_iconst (v := 1) hX dX7_sheet_65 (by decide) ?_
              obtain rfl := Option.some.inj hF
              exact g_iret hX dX7_sheet_66 hR
            · have hF := ite_f hF c48
              refine g_bipush (v := (-14)) hX dX7_sheet_51 (by decide) ?_
              obtain rfl := Option.some.inj hF
              exact g_iret hX dX7_sheet_53 hR
          · have hF := ite_f hF c41
            refine g_bipush (v := (-2)) hX dX7_sheet_44 (by decide) ?_
            obtain rfl := Option.some.inj hF
            exact g_iret hX dX7_sheet_46 hR
        · have hF := ite_f hF (fun z => z c22)
          refine g_aload_n hX dX7_sheet_25 (i := 0) rfl (j := 0) rfl ?_
          have tf26 := (tyF (k := 7) hW t0 (by decide) rfl (by decide) : KA (r p0 7) = 12 ∧ ok (r p0 7))
          refine gf_X7_51 hX dX7_sheet_26 (ty1 hW t0) (hW.1 _ tf26.2).1 ?_
          refine g_iload_n hX dX7_sheet_29 (i := 1) rfl (j := 1) rfl ?_
          obtain ⟨g30, hF⟩ := gd_some hF
          have ta30 : KA (r (r p0 7) (ix a1)) = 3 ∧ ok (r (r p0 7) (ix a1)) := tyA hW tf26 (by decide) rfl (by decide) g30
          refine g_aald hX dX7_sheet_30 tf26.1 (by decide) (by decide) (hW.1 _ tf26.2).1 (hW.1 _ tf26.2).2 g30 (hW.1 _ ta30.2).1 ?_
          refine g_iconst (v := (-1)) hX dX7_sheet_31 (by decide) ?_
          refine g_iconst (v := 0) hX dX7_sheet_32 (by decide) ?_
          obtain ⟨h33, e33, hF⟩ := bi_some hF
          refine g_callV (As := [.int (-1), .int 0]) (rest := []) (stk := []) hX dX7_sheet_33 (ctX3_renew hM hW (r (r p0 7) (ix a1)) (-1) 0 ta30 e33) (by decide) (by decide) wm_X7_237 wi_X3_renew ws_X3_renew wz_X3 wc_X3_renew hyX3_renew rfl (ci := 3) rfl (by decide) ta30.1 (hW.1 _ ta30.2).1 (hW.1 _ ta30.2).2 (Nat.le_of_ble_eq_true rfl) rfl rfl ?_ rfl rfl
          refine g_iconst (v := 1) hX dX7_sheet_36 (by decide) ?_
          obtain rfl := Option.some.inj hF
          exact g_iret hX dX7_sheet_37 hR
      · have hF := ite_f hF c14
        refine g_bipush (v := (-2)) hX dX7_sheet_17 (by decide) ?_
        obtain rfl := Option.some.inj hF
        exact g_iret hX dX7_sheet_19 hR
theorem ctX7_sheet {b N sz : Nat} {ok : Nat → Prop} {h : HH} {r : RR} {w : Int32 × HH} (hM : N ≤ MA) (hW : WT KA lnA ok N r) (p0 : Nat) (a1 : Int32) (a2 : Int32) (a3 : Int32) (t0 : KA p0 = 7 ∧ ok p0) (hF : fX7_sheet h r p0 a1 a2 a3 = some w) : CT yX7_sheet cX7_sheet 4 (some FieldType.int) 2 b KA lnA MA N sz [.ref (b + p0), .int a1, .int a2, .int a3] h r N sz (some (.int w.1)) w.2 r 0 0 :=
  CT_of (by decide) rfl (Nat.le_of_ble_eq_true rfl) (by decide) trivial (fun X hX hR => kX7_sheet hX hM hW p0 a1 a2 a3 t0 hR hF)
