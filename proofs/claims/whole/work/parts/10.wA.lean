/-! X5_has -/
def fX5_has_b23 (h : HH) (r : RR) (p0 : Nat) (a1 : Int32) : Option (Int32) := some (0)
def fX5_has (h : HH) (r : RR) (p0 : Nat) (a1 : Int32) : Option (Int32) := if a1 < 0 then (fX5_has_b23 h r p0 a1) else (if 30 ≤ a1 then (fX5_has_b23 h r p0 a1) else (gd (inb a1 (lnA (r p0 0))) (if (h (r p0 0) (ix a1)) = 0 then (fX5_has_b23 h r p0 a1) else (some (1)))))
set_option maxRecDepth 100000 in
set_option maxHeartbeats 4000000 in
theorem kX5_has_b23 {X : XT} {b N sz : Nat} {ok : Nat → Prop} {h : HH} {r : RR} {w : Int32} (hX : XOK X RX5 cX5_has 2 1) (hM : N ≤ MA) (hW : WT KA lnA ok N r) (p0 : Nat) (a1 : Int32) (t0 : KA p0 = 5 ∧ ok p0) (hR : XR X b KA lnA MA (some FieldType.boolean) 0 0 N sz (some (.int w)) h r) (hF : fX5_has_b23 h r p0 a1 = some w) : GX X b KA lnA MA 2 0 0 N sz 23 [(0, .ref (b + p0)), (1, .int a1)] [] h r := by
  rw [fX5_has_b23] at hF
  refine g_iconst (v := 0) hX dX5_has_23 (by decide) ?_
  obtain rfl := Option.some.inj hF
  exact g_zret hX dX5_has_24 (by decide) hR
set_option maxRecDepth 100000 in
set_option maxHeartbeats 4000000 in
theorem kX5_has {X : XT} {b N sz : Nat} {ok : Nat → Prop} {h : HH} {r : RR} {w : Int32} (hX : XOK X RX5 cX5_has 2 1) (hM : N ≤ MA) (hW : WT KA lnA ok N r) (p0 : Nat) (a1 : Int32) (t0 : KA p0 = 5 ∧ ok p0) (hR : XR X b KA lnA MA (some FieldType.boolean) 0 0 N sz (some (.int w)) h r) (hF : fX5_has h r p0 a1 = some w) : GX X b KA lnA MA 2 0 0 N sz 0 [(0, .ref (b + p0)), (1, .int a1)] [] h r := by
  rw [fX5_has] at hF
  refine g_iload_n hX dX5_has_0 (i := 1) rfl (j := 1) rfl ?_
  refine g_if_lt (tgt := 23) hX dX5_has_1 (by decide) (fun c1 => ?_) (fun c1 => ?_)
  · have hF := ite_t hF c1
    refine g_sub (L' := [(0, .ref (b + p0)), (1, .int a1)]) [0, 1] rfl ?_
    exact kX5_has_b23 hX hM hW p0 a1 t0 hR hF
  · have hF := ite_f hF c1
    refine g_iload_n hX dX5_has_4 (i := 1) rfl (j := 1) rfl ?_
    refine g_bipush (v := 30) hX dX5_has_5 (by decide) ?_
    refine g_icmp_ge (tgt := 23) hX dX5_has_7 (by decide) (fun c7 => ?_) (fun c7 => ?_)
    · have hF := ite_t hF c7
      refine g_sub (L' := [(0, .ref (b + p0)), (1, .int a1)]) [0, 1] rfl ?_
      exact kX5_has_b23 hX hM hW p0 a1 t0 hR hF
    · have hF := ite_f hF c7
      refine g_aload_n hX dX5_has_10 (i := 0) rfl (j := 0) rfl ?_
      have tf11 := (tyF (k := 0) hW t0 (by decide) rfl (by decide) : KA (r p0 0) = 10 ∧ ok (r p0 0))
      refine gf_X5_9 hX dX5_has_11 (ty1 hW t0) (hW.1 _ tf11.2).1 ?_
      refine g_iload_n hX dX5_has_14 (i := 1) rfl (j := 1) rfl ?_
      obtain ⟨g15, hF⟩ := gd_some hF
      refine g_bald hX dX5_has_15 tf11.1 (hW.1 _ tf11.2).1 (hW.1 _ tf11.2).2 g15 ?_
      refine g_if_eq (tgt := 23) hX dX5_has_16 (by decide) (fun c16 => ?_) (fun c16 => ?_)
      · have hF := ite_t hF c16
        refine g_sub (L' := [(0, .ref (b + p0)), (1, .int a1)]) [0, 1] rfl ?_
        exact kX5_has_b23 hX hM hW p0 a1 t0 hR hF
      · have hF := ite_f hF c16
        refine g_iconst (v := 1) hX dX5_has_19 (by decide) ?_
        refine g_goto (tgt := 24) hX dX5_has_20 (by decide) ?_
        obtain rfl := Option.some.inj hF
        exact g_zret hX dX5_has_24 (by decide) hR
theorem ctX5_has {b N sz : Nat} {ok : Nat → Prop} {h : HH} {r : RR} {w : Int32} (hM : N ≤ MA) (hW : WT KA lnA ok N r) (p0 : Nat) (a1 : Int32) (t0 : KA p0 = 5 ∧ ok p0) (hF : fX5_has h r p0 a1 = some w) : CT yX5_has cX5_has 2 (some FieldType.boolean) 1 b KA lnA MA N sz [.ref (b + p0), .int a1] h r N sz (some (.int w)) h r 0 0 :=
  CT_of (by decide) rfl (Nat.le_of_ble_eq_true rfl) (by decide) trivial (fun X hX hR => kX5_has hX hM hW p0 a1 t0 hR hF)
/-! X5_depth -/
def fX5_depth_b4 (h : HH) (r : RR) (p0 : Nat) (a1 : Int32) : Nat → Int32 → Int32 → Option (Int32)
  | 0, _, _ => none
  | n + 1, x2, x3 => if 30 ≤ x2 then (some (x2 - 1)) else (if x3 < 0 then (some (x2 - 1)) else (if 30 ≤ x3 then (some (x2 - 1)) else (gd (inb x3 (lnA (r p0 0))) (if (h (r p0 0) (ix x3)) = 0 then (some (x2 - 1)) else (gd (inb x3 (lnA (r p0 1))) (lt (h (r p0 1) (ix x3)) (fun y38 => fX5_depth_b4 h r p0 a1 n (x2 + 1) y38)))))))
def fX5_depth (h : HH) (r : RR) (p0 : Nat) (a1 : Int32) : Option (Int32) := fX5_depth_b4 h r p0 a1 lpF 0 a1
set_option maxRecDepth 100000 in
set_option maxHeartbeats 4000000 in
theorem kX5_depth_b4 {X : XT} {b N sz : Nat} {ok : Nat → Prop} {h : HH} {r : RR} {w : Int32} (hX : XOK X RX5 cX5_depth 4 1) (hM : N ≤ MA) (hW : WT KA lnA ok N r) (p0 : Nat) (a1 : Int32) (t0 : KA p0 = 5 ∧ ok p0) (hR : XR X b KA lnA MA (some FieldType.int) 0 0 N sz (some (.int w)) h r) : ∀ (n : Nat) (x2 : Int32) (x3 : Int32), fX5_depth_b4 h r p0 a1 n x2 x3 = some w → GX X b KA lnA MA 4 0 0 N sz 4 [(0, .ref (b + p0)), (1, .int a1), (2, .int x2), (3, .int x3)] [] h r := by
  intro n
  induction n with
  | zero =>
    intro x2 x3 hF
    cases hF
  | succ n ih =>
    intro x2 x3 hF
    rw [fX5_depth_b4] at hF
    refine g_iload_n hX dX5_depth_4 (i := 2) rfl (j := 2) rfl ?_
    refine g_bipush (v := 30) hX dX5_depth_5 (by decide) ?_
    refine g_icmp_ge (tgt := 42) hX dX5_depth_7 (by decide) (fun c7 => ?_) (fun c7 => ?_)
    · have hF := ite_t hF c7
      refine g_iload_n hX dX5_depth_42 (i := 2) rfl (j := 2) rfl ?_
      refine g_iconst (v := 1) hX dX5_depth_43 (by decide) ?_
      refine g_isub hX dX5_depth_44 ?_
      obtain rfl := Option.some.inj hF
      exact g_iret hX dX5_depth_45 hR
    · have hF := ite_f hF c7
      refine g_iload_n hX dX5_depth_10 (i := 3) rfl (j := 3) rfl ?_
      refine g_if_lt (tgt := 42) hX dX5_depth_11 (by decide) (fun c11 => ?_) (fun c11 => ?_)
      · have hF := ite_t hF c11
        refine g_iload_n hX dX5_depth_42 (i := 2) rfl (j := 2) rfl ?_
        refine g_iconst (v := 1) hX dX5_depth_43 (by decide) ?_
        refine g_isub hX dX5_depth_44 ?_
        obtain rfl := Option.some.inj hF
        exact g_iret hX dX5_depth_45 hR
      · have hF := ite_f hF c11
        refine g_iload_n hX dX5_depth_14 (i := 3) rfl (j := 3) rfl ?_
        refine g_bipush (v := 30) hX dX5_depth_15 (by decide) ?_
        refine g_icmp_ge (tgt := 42) hX dX5_depth_17 (by decide) (fun c17 => ?_) (fun c17 => ?_)
        · have hF := ite_t hF c17
          refine g_iload_n hX dX5_depth_42 (i := 2) rfl (j := 2) rfl ?_
          refine g_iconst (v := 1) hX dX5_depth_43 (by decide) ?_
          refine g_isub hX dX5_depth_44 ?_
          obtain rfl := Option.some.inj hF
          exact g_iret hX dX5_depth_45 hR
        · have hF := ite_f hF c17
          refine g_aload_n hX dX5_depth_20 (i := 0) rfl (j := 0) rfl ?_
          have tf21 := (tyF (k := 0) hW t0 (by decide) rfl (by decide) : KA (r p0 0) = 10 ∧ ok (r p0 0))
          refine gf_X5_9 hX dX5_depth_21 (ty1 hW t0) (hW.1 _ tf21.2).1 ?_
          refine g_iload_n hX dX5_depth_24 (i := 3) rfl (j := 3) rfl ?_
          obtain ⟨g25, hF⟩ := gd_some hF
          refine g_bald hX dX5_depth_25 tf21.1 (hW.1 _ tf21.2).1 (hW.1 _ tf21.2).2 g25 ?_
          refine g_if_eq (tgt := 42) hX dX5_depth_26 (by decide) (fun c26 => ?_) (fun c26 => ?_)
          · have hF := ite_t hF c26
            refine g_iload_n hX dX5_depth_42 (i := 2) rfl (j := 2) rfl ?_
            refine g_iconst (v := 1) hX dX5_depth_43 (by decide) ?_
            refine g_isub hX dX5_depth_44 ?_
            obtain rfl := Option.some.inj hF
            exact g_iret hX dX5_depth_45 hR
          · have hF := ite_f hF c26
            refine g_iinc (L' := [(2, .int (x2 + 1)), (0, .ref (b + p0)), (1, .int a1), (3, .int x3)]) (j := 2) hX dX5_depth_29 rfl rfl (by decide) rfl ?_
            refine g_aload_n hX dX5_depth_32 (i := 0) rfl (j := 1) rfl ?_
            have tf33 := (tyF (k := 1) hW t0 (by decide) rfl (by decide) : KA (r p0 1) = 9 ∧ ok (r p0 1))
            refine gf_X5_15 hX dX5_depth_33 (ty1 hW t0) (hW.1 _ tf33.2).1 ?_
            refine g_iload_n hX dX5_depth_36 (i := 3) rfl (j := 3) rfl ?_
            obtain ⟨g37, hF⟩ := gd_some hF
            refine g_iald hX dX5_depth_37 tf33.1 (hW.1 _ tf33.2).1 (hW.1 _ tf33.2).2 g37 ?_
            obtain ⟨y38, e38, hF⟩ := lt_some hF
            refine g_topi e38 ?_
            refine g_istore_n (L' := [(3, .int y38), (2, .int (x2 + 1)), (0, .ref (b + p0)), (1, .int a1)]) hX dX5_depth_38 (i := 3) rfl (by decide) rfl ?_
            refine g_goto (tgt := 4) hX dX5_depth_39 (by decide) ?_
            refine g_sub (L' := [(0, .ref (b + p0)), (1, .int a1), (2, .int (x2 + 1)), (3, .int y38)]) [2, 3, 1, 0] rfl ?_
            exact ih (x2 + 1) y38 hF
set_option maxRecDepth 100000 in
set_option maxHeartbeats 4000000 in
theorem kX5_depth {X : XT} {b N sz : Nat} {ok : Nat → Prop} {h : HH} {r : RR} {w : Int32} (hX : XOK X RX5 cX5_depth 4 1) (hM : N ≤ MA) (hW : WT KA lnA ok N r) (p0 : Nat) (a1 : Int32) (t0 : KA p0 = 5 ∧ ok p0) (hR : XR X b KA lnA MA (some FieldType.int) 0 0 N sz (some (.int w)) h r) (hF : fX5_depth h r p0 a1 = some w) : GX X b KA lnA MA 4 0 0 N sz 0 [(0, .ref (b + p0)), (1, .int a1)] [] h r := by
  rw [fX5_depth] at hF
  refine g_iconst (v := 0) hX dX5_depth_0 (by decide) ?_
  refine g_istore_n (L' := [(2, .int 0), (0, .ref (b + p0)), (1, .int a1)]) hX dX5_depth_1 (i := 2) rfl (by decide) rfl ?_
  refine g_iload_n hX dX5_depth_2 (i := 1) rfl (j := 2) rfl ?_
  refine g_istore_n (L' := [(3, .int a1), (2, .int 0), (0, .ref (b + p0)), (1, .int a1)]) hX dX5_depth_3 (i := 3) rfl (by decide) rfl ?_
  refine g_sub (L' := [(0, .ref (b + p0)), (1, .int a1), (2, .int 0), (3, .int a1)]) [2, 3, 1, 0] rfl ?_
  exact kX5_depth_b4 hX hM hW p0 a1 t0 hR lpF 0 a1 hF
theorem ctX5_depth {b N sz : Nat} {ok : Nat → Prop} {h : HH} {r : RR} {w : Int32} (hM : N ≤ MA) (hW : WT KA lnA ok N r) (p0 : Nat) (a1 : Int32) (t0 : KA p0 = 5 ∧ ok p0) (hF : fX5_depth h r p0 a1 = some w) : CT yX5_depth cX5_depth 4 (some FieldType.int) 1 b KA lnA MA N sz [.ref (b + p0), .int a1] h r N sz (some (.int w)) h r 0 0 :=
  CT_of (by decide) rfl (Nat.le_of_ble_eq_true rfl) (by decide) trivial (fun X hX hR => kX5_depth hX hM hW p0 a1 t0 hR hF)
/-! X5_pathOf -/
def fX5_pathOf_b16 (r : RR) (p0 : Nat) (a1 : Int32) (p2 : Nat) : Nat → HH → Int32 → Int32 → Int32 → Option (Int32 × HH)
  | 0, _, _, _, _ => none
  | n + 1, h, x3, x4, x5 => if x5 < 0 then (some (x3, h)) else (if (Int32.ofNat (lnA p2)) ≤ x5 then (some (x3, h)) else ((fX5_has h r p0 x4).bind (fun v31 => if v31 = 0 then (some (x3, h)) else (gd (inb x4 (lnA (r p0 2))) (gd (inb x5 (lnA p2)) (lt (up h p2 (ix x5) (h (r p0 2) (ix x4))) (fun h47 => gd (inb x4 (lnA (r p0 1))) (lt (h47 (r p0 1) (ix x4)) (fun y55 => fX5_pathOf_b16 r p0 a1 p2 n h47 x3 y55 (x5 + (-1)))))))))))
def fX5_pathOf (h : HH) (r : RR) (p0 : Nat) (a1 : Int32) (p2 : Nat) : Option (Int32 × HH) := (fX5_depth h r p0 a1).bind (fun v2 => lt (v2 + 1) (fun y7 => lt (y7 - 1) (fun y14 => fX5_pathOf_b16 r p0 a1 p2 lpF h y7 a1 y14)))
set_option maxRecDepth 100000 in
set_option maxHeartbeats 4000000 in
theorem kX5_pathOf_b16 {X : XT} {b N sz : Nat} {ok : Nat → Prop} {r : RR} {w : Int32 × HH} (hX : XOK X RX5 cX5_pathOf 6 2) (hM : N ≤ MA) (hW : WT KA lnA ok N r) (p0 : Nat) (a1 : Int32) (p2 : Nat) (t0 : KA p0 = 5 ∧ ok p0) (t2 : KA p2 = 9 ∧ ok p2) (hR : XR X b KA lnA MA (some FieldType.int) 0 0 N sz (some (.int w.1)) w.2 r) : ∀ (n : Nat) (h : HH) (x3 : Int32) (x4 : Int32) (x5 : Int32), fX5_pathOf_b16 r p0 a1 p2 n h x3 x4 x5 = some w → GX X b KA lnA MA 6 0 0 N sz 16 [(0, .ref (b + p0)), (1, .int a1), (2, .ref (b + p2)), (3, .int x3), (4, .int x4), (5, .int x5)] [] h r := by
  intro n
  induction n with
  | zero =>
    intro h x3 x4 x5 hF
    cases hF
  | succ n ih =>
    intro h x3 x4 x5 hF
    rw [fX5_pathOf_b16] at hF
    refine g_iload hX dX5_pathOf_16 (j := 5) rfl ?_
    refine g_if_lt (tgt := 63) hX dX5_pathOf_18 (by decide) (fun c18 => ?_) (fun c18 => ?_)
    · have hF := ite_t hF c18
      refine g_iload_n hX dX5_pathOf_63 (i := 3) rfl (j := 3) rfl ?_
      obtain rfl := Option.some.inj hF
      exact g_iret hX dX5_pathOf_64 hR
    · have hF := ite_f hF c18
      refine g_iload hX dX5_pathOf_21 (j := 5) rfl ?_
      refine g_aload_n hX dX5_pathOf_23 (i := 2) rfl (j := 2) rfl ?_
      refine g_alen hX dX5_pathOf_24 t2.1 (by decide) (hW.1 _ t2.2).1 (hW.1 _ t2.2).2 ?_
      refine g_icmp_ge (tgt := 63) hX dX5_pathOf_25 (by decide) (fun c25 => ?_) (fun c25 => ?_)
      · have hF := ite_t hF c25
        refine g_iload_n hX dX5_pathOf_63 (i := 3) rfl (j := 3) rfl ?_
        obtain rfl := Option.some.inj hF
        exact g_iret hX dX5_pathOf_64 hR
      · have hF := ite_f hF c25
        refine g_aload_n hX dX5_pathOf_28 (i := 0) rfl (j := 0) rfl ?_
        refine g_iload hX dX5_pathOf_29 (j := 4) rfl ?_
        obtain ⟨v31, e31, hF⟩ := bi_some hF
        refine g_callV (As := [.int x4]) (rest := []) (stk := [.int v31]) hX dX5_pathOf_31 (ctX5_has hM hW p0 x4 t0 e31) (by decide) (by decide) wm_X5_40 wi_X5_has ws_X5_has wz_X5 wc_X5_has hyX5_has rfl (ci := 5) rfl (by decide) t0.1 (hW.1 _ t0.2).1 (hW.1 _ t0.2).2 (Nat.le_of_ble_eq_true rfl) rfl rfl ?_ rfl rfl
        refine g_if_eq (tgt := 63) hX dX5_pathOf_34 (by decide) (fun c34 => ?_) (fun c34 => ?_)
        · have hF := ite_t hF c34
          refine g_iload_n hX dX5_pathOf_63 (i := 3) rfl (j := 3) rfl ?_
          obtain rfl := Option.some.inj hF
          exact g_iret hX dX5_pathOf_64 hR
        · have hF := ite_f hF c34
          refine g_aload_n hX dX5_pathOf_37 (i := 2) rfl (j := 2) rfl ?_
          refine g_iload hX dX5_pathOf_38 (j := 5) rfl ?_
          refine g_aload_n hX dX5_pathOf_40 (i := 0) rfl (j := 0) rfl ?_
          have tf41 := (tyF (k := 2) hW t0 (by decide) rfl (by decide) : KA (r p0 2) = 9 ∧ ok (r p0 2))
          refine gf_X5_19 hX dX5_pathOf_41 (ty1 hW t0) (hW.1 _ tf41.2).1 ?_
          refine g_iload hX dX5_pathOf_44 (j := 4) rfl ?_
          obtain ⟨g46, hF⟩ := gd_some hF
          refine g_iald hX dX5_pathOf_46 tf41.1 (hW.1 _ tf41.2).1 (hW.1 _ tf41.2).2 g46 ?_
          obtain ⟨g47, hF⟩ := gd_some hF
          obtain ⟨h47, e47, hF⟩ := lt_some hF
          refine g_iast hX dX5_pathOf_47 t2.1 (hW.1 _ t2.2).1 (hW.1 _ t2.2).2 hM g47 e47 ?_
          refine g_aload_n hX dX5_pathOf_48 (i := 0) rfl (j := 0) rfl ?_
          have tf49 := (tyF (k := 1) hW t0 (by decide) rfl (by decide) : KA (r p0 1) = 9 ∧ ok (r p0 1))
          refine gf_X5_15 hX dX5_pathOf_49 (ty1 hW t0) (hW.1 _ tf49.2).1 ?_
          refine g_iload hX dX5_pathOf_52 (j := 4) rfl ?_
          obtain ⟨g54, hF⟩ := gd_some hF
          refine g_iald hX dX5_pathOf_54 tf49.1 (hW.1 _ tf49.2).1 (hW.1 _ tf49.2).2 g54 ?_
          obtain ⟨y55, e55, hF⟩ := lt_some hF
          refine g_topi e55 ?_
          refine g_istore (L' := [(4, .int y55), (0, .ref (b + p0)), (1, .int a1), (2, .ref (b + p2)), (3, .int x3), (5, .int x5)]) hX dX5_pathOf_55 (by decide) rfl ?_
          refine g_iinc (L' := [(5, .int (x5 + (-1))), (4, .int y55), (0, .ref (b + p0)), (1, .int a1), (2, .ref (b + p2)), (3, .int x3)]) (j := 5) hX dX5_pathOf_57 rfl rfl (by decide) rfl ?_
          refine g_goto (tgt := 16) hX dX5_pathOf_60 (by decide) ?_
          refine g_sub (L' := [(0, .ref (b + p0)), (1, .int a1), (2, .ref (b + p2)), (3, .int x3), (4, .int y55), (5, .int (x5 + (-1)))]) [2, 3, 4, 5, 1, 0] rfl ?_
          exact ih h47 x3 y55 (x5 + (-1)) hF
set_option maxRecDepth 100000 in
set_option maxHeartbeats 4000000 in
theorem kX5_pathOf {X : XT} {b N sz : Nat} {ok : Nat → Prop} {h : HH} {r : RR} {w : Int32 × HH} (hX : XOK X RX5 cX5_pathOf 6 2) (hM : N ≤ MA) (hW : WT KA lnA ok N r) (p0 : Nat) (a1 : Int32) (p2 : Nat) (t0 : KA p0 = 5 ∧ ok p0) (t2 : KA p2 = 9 ∧ ok p2) (hR : XR X b KA lnA MA (some FieldType.int) 0 0 N sz (some (.int w.1)) w.2 r) (hF : fX5_pathOf h r p0 a1 p2 = some w) : GX X b KA lnA MA 6 0 0 N sz 0 [(0, .ref (b + p0)), (1, .int a1), (2, .ref (b + p2))] [] h r := by
  rw [fX5_pathOf] at hF
  refine g_aload_n hX dX5_pathOf_0 (i := 0) rfl (j := 0) rfl ?_
  refine g_iload_n hX dX5_pathOf_1 (i := 1) rfl (j := 1) rfl ?_
  obtain ⟨v2, e2, hF⟩ := bi_some hF
  refine g_callV (As := [.int a1]) (rest := []) (stk := [.int v2]) hX dX5_pathOf_2 (ctX5_depth hM hW p0 a1 t0 e2) (by decide) (by decide) wm_X5_52 wi_X5_depth ws_X5_depth wz_X5 wc_X5_depth hyX5_depth rfl (ci := 5) rfl (by decide) t0.1 (hW.1 _ t0.2).1 (hW.1 _ t0.2).2 (Nat.le_of_ble_eq_true rfl) rfl rfl ?_ rfl rfl
  refine g_iconst (v := 1) hX dX5_pathOf_5 (by decide) ?_
  refine g_iadd hX dX5_pathOf_6 ?_
  obtain ⟨y7, e7, hF⟩ := lt_some hF
  refine g_topi e7 ?_
  refine g_istore_n (L' := [(3, .int y7), (0, .ref (b + p0)), (1, .int a1), (2, .ref (b + p2))]) hX dX5_pathOf_7 (i := 3) rfl (by decide) rfl ?_
  refine g_iload_n hX dX5_pathOf_8 (i := 1) rfl (j := 2) rfl ?_
  refine g_istore (L' := [(4, .int a1), (3, .int y7), (0, .ref (b + p0)), (1, .int a1), (2, .ref (b + p2))]) hX dX5_pathOf_9 (by decide) rfl ?_
  refine g_iload_n hX dX5_pathOf_11 (i := 3) rfl (j := 1) rfl ?_
  refine g_iconst (v := 1) hX dX5_pathOf_12 (by decide) ?_
  refine g_isub hX dX5_pathOf_13 ?_
  obtain ⟨y14, e14, hF⟩ := lt_some hF
  refine g_topi e14 ?_
  refine g_istore (L' := [(5, .int y14), (4, .int a1), (3, .int y7), (0, .ref (b + p0)), (1, .int a1), (2, .ref (b + p2))]) hX dX5_pathOf_14 (by decide) rfl ?_
  refine g_sub (L' := [(0, .ref (b + p0)), (1, .int a1), (2, .ref (b + p2)), (3, .int y7), (4, .int a1), (5, .int y14)]) [3, 4, 5, 2, 1, 0] rfl ?_
  exact kX5_pathOf_b16 hX hM hW p0 a1 p2 t0 t2 hR lpF h y7 a1 y14 hF
theorem ctX5_pathOf {b N sz : Nat} {ok : Nat → Prop} {h : HH} {r : RR} {w : Int32 × HH} (hM : N ≤ MA) (hW : WT KA lnA ok N r) (p0 : Nat) (a1 : Int32) (p2 : Nat) (t0 : KA p0 = 5 ∧ ok p0) (t2 : KA p2 = 9 ∧ ok p2) (hF : fX5_pathOf h r p0 a1 p2 = some w) : CT yX5_pathOf cX5_pathOf 6 (some FieldType.int) 2 b KA lnA MA N sz [.ref (b + p0), .int a1, .ref (b + p2)] h r N sz (some (.int w.1)) w.2 r 0 0 :=
  CT_of (by decide) rfl (Nat.le_of_ble_eq_true rfl) (by decide) trivial (fun X hX hR => kX5_pathOf hX hM hW p0 a1 p2 t0 t2 hR hF)
/-! X1_passMany -/
def fX1_passMany_b39 (h : HH) (r : RR) (p0 : Nat) (a1 : Int32) (k4 : Int32 → Int32 → Option (Int32)) (x2 : Int32) (x3 : Int32) : Option (Int32) := k4 x2 (x3 + 1)
def fX1_passMany_b4 (h : HH) (r : RR) (p0 : Nat) (a1 : Int32) : Nat → Int32 → Int32 → Option (Int32)
  | 0, _, _ => none
  | n + 1, x2, x3 => if (h p0 1) ≤ x3 then (some (x2)) else (if (x2 &&& (1 <<< (x3 &&& 31))) = 0 then (fX1_passMany_b39 h r p0 a1 (fun z2_ z3_ => fX1_passMany_b4 h r p0 a1 n z2_ z3_) x2 x3) else (gd (inb x3 (lnA (r p0 0))) (if ¬ (h (r p0 0) (ix x3)) = (-2) then (fX1_passMany_b39 h r p0 a1 (fun z2_ z3_ => fX1_passMany_b4 h r p0 a1 n z2_ z3_) x2 x3) else (lt (x2 ||| (1 <<< ((x3 + 1) &&& 31))) (fun y38 => fX1_passMany_b39 h r p0 a1 (fun z2_ z3_ => fX1_passMany_b4 h r p0 a1 n z2_ z3_) y38 x3)))))
def fX1_passMany (h : HH) (r : RR) (p0 : Nat) (a1 : Int32) : Option (Int32) := fX1_passMany_b4 h r p0 a1 lpF a1 0
set_option maxRecDepth 100000 in
set_option maxHeartbeats 4000000 in
theorem kX1_passMany_b39 {X : XT} {b N sz : Nat} {ok : Nat → Prop} {h : HH} {r : RR} {w : Int32} (hX : XOK X RX1 cX1_passMany 4 1) (hM : N ≤ MA) (hW : WT KA lnA ok N r) (p0 : Nat) (a1 : Int32) (t0 : KA p0 = 1 ∧ ok p0) (hR : XR X b KA lnA MA (some FieldType.int) 0 0 N sz (some (.int w)) h r) (k4 : Int32 → Int32 → Option (Int32)) (hk4 : ∀ (x2 : Int32) (x3 : Int32), k4 x2 x3 = some w → GX X b KA lnA MA 4 0 0 N sz 4 [(0, .ref (b + p0)), (1, .int a1), (2, .int x2), (3, .int x3)] [] h r) (x2 : Int32) (x3 : Int32) (hF : fX1_passMany_b39 h r p0 a1 k4 x2 x3 = some w) : GX X b KA lnA MA 4 0 0 N sz 39 [(0, .ref (b + p0)), (1, .int a1), (2, .int x2), (3, .int x3)] [] h r := by
  rw [fX1_passMany_b39] at hF
  refine g_iinc (L' := [(3, .int (x3 + 1)), (0, .ref (b + p0)), (1, .int a1), (2, .int x2)]) (j := 3) hX dX1_passMany_39 rfl rfl (by decide) rfl ?_
  refine g_goto (tgt := 4) hX dX1_passMany_42 (by decide) ?_
  refine g_sub (L' := [(0, .ref (b + p0)), (1, .int a1), (2, .int x2), (3, .int (x3 + 1))]) [1, 2, 3, 0] rfl ?_
  exact hk4 x2 (x3 + 1) hF
set_option maxRecDepth 100000 in
set_option maxHeartbeats 4000000 in
theorem kX1_passMany_b4 {X : XT} {b N sz : Nat} {ok : Nat → Prop} {h : HH} {r : RR} {w : Int32} (hX : XOK X RX1 cX1_passMany 4 1) (hM : N ≤ MA) (hW : WT KA lnA ok N r) (p0 : Nat) (a1 : Int32) (t0 : KA p0 = 1 ∧ ok p0) (hR : XR X b KA lnA MA (some FieldType.int) 0 0 N sz (some (.int w)) h r) : ∀ (n : Nat) (x2 : Int32) (x3 : Int32), fX1_passMany_b4 h r p0 a1 n x2 x3 = some w → GX X b KA lnA MA 4 0 0 N sz 4 [(0, .ref (b + p0)), (1, .int a1), (2, .int x2), (3, .int x3)] [] h r := by
  intro n
  induction n with
  | zero =>
    intro x2 x3 hF
    cases hF
  | succ n ih =>
    intro x2 x3 hF
    rw [fX1_passMany_b4] at hF
    refine g_iload_n hX dX1_passMany_4 (i := 3) rfl (j := 3) rfl ?_
    refine g_aload_n hX dX1_passMany_5 (i := 0) rfl (j := 0) rfl ?_
    refine gf_X1_23 hX dX1_passMany_6 (ty1 hW t0) ?_
    refine g_icmp_ge (tgt := 45) hX dX1_passMany_9 (by decide) (fun c9 => ?_) (fun c9 => ?_)
    · have hF := ite_t hF c9
      refine g_iload_n hX dX1_passMany_45 (i := 2) rfl (j := 2) rfl ?_
      obtain rfl := Option.some.inj hF
      exact g_iret hX dX1_passMany_46 hR
    · have hF := ite_f hF c9
      refine g_iload_n hX dX1_passMany_12 (i := 2) rfl (j := 2) rfl ?_
      refine g_iconst (v := 1) hX dX1_passMany_13 (by decide) ?_
      refine g_iload_n hX dX1_passMany_14 (i := 3) rfl (j := 3) rfl ?_
      refine g_ishl hX dX1_passMany_15 ?_
      refine g_iand hX dX1_passMany_16 ?_
      refine g_if_eq (tgt := 39) hX dX1_passMany_17 (by decide) (fun c17 => ?_) (fun c17 => ?_)
      · have hF := ite_t hF c17
        refine g_sub (L' := [(0, .ref (b + p0)), (1, .int a1), (2, .int x2), (3, .int x3)]) [0, 1, 2, 3] rfl ?_
        exact kX1_passMany_b39 hX hM hW p0 a1 t0 hR (fun z2_ z3_ => fX1_passMany_b4 h r p0 a1 n z2_ z3_) ih x2 x3 hF
      · have hF := ite_f hF c17
        refine g_aload_n hX dX1_passMany_20 (i := 0) rfl (j := 0) rfl ?_
        have tf21 := (tyF (k := 0) hW t0 (by decide) rfl (by decide) : KA (r p0 0) = 9 ∧ ok (r p0 0))
        refine gf_X1_9 hX dX1_passMany_21 (ty1 hW t0) (hW.1 _ tf21.2).1 ?_
        refine g_iload_n hX dX1_passMany_24 (i := 3) rfl (j := 3) rfl ?_
        obtain ⟨g25, hF⟩ := gd_some hF
        refine g_iald hX dX1_passMany_25 tf21.1 (hW.1 _ tf21.2).1 (hW.1 _ tf21.2).2 g25 ?_
        refine g_bipush (v := (-2)) hX dX1_passMany_26 (by decide) ?_
        refine g_icmp_ne (tgt := 39) hX dX1_passMany_28 (by decide) (fun c28 => ?_) (fun c28 => ?_)
        · have hF := ite_t hF c28
          refine g_sub (L' := [(0, .ref (b + p0)), (1, .int a1), (2, .int x2), (3, .int x3)]) [0, 1, 2, 3] rfl ?_
          exact kX1_passMany_b39 hX hM hW p0 a1 t0 hR (fun z2_ z3_ => fX1_passMany_b4 h r p0 a1 n z2_ z3_) ih x2 x3 hF
        · have hF := ite_f hF (fun z => z c28)
          refine g_iload_n hX dX1_passMany_31 (i := 2) rfl (j := 2) rfl ?_
          refine g_iconst (v := 1) hX dX1_passMany_32 (by decide) ?_
          refine g_iload_n hX dX1_passMany_33 (i := 3) rfl (j := 3) rfl ?_
          refine g_iconst (v := 1) hX dX1_passMany_34 (by decide) ?_
          refine g_iadd hX dX1_passMany_35 ?_
          refine g_ishl hX dX1_passMany_36 ?_
          refine g_ior hX dX1_passMany_37 ?_
          obtain ⟨y38, e38, hF⟩ := lt_some hF
          refine g_topi e38 ?_
          refine g_istore_n (L' := [(2, .int y38), (0, .ref (b + p0)), (1, .int a1), (3, .int x3)]) hX dX1_passMany_38 (i := 2) rfl (by decide) rfl ?_
          refine g_sub (L' := [(0, .ref (b + p0)), (1, .int a1), (2, .int y38), (3, .int x3)]) [1, 2, 0, 3] rfl ?_
          exact kX1_passMany_b39 hX hM hW p0 a1 t0 hR (fun z2_ z3_ => fX1_passMany_b4 h r p0 a1 n z2_ z3_) ih y38 x3 hF
set_option maxRecDepth 100000 in
set_option maxHeartbeats 4000000 in
theorem kX1_passMany {X : XT} {b N sz : Nat} {ok : Nat → Prop} {h : HH} {r : RR} {w : Int32} (hX : XOK X RX1 cX1_passMany 4 1) (hM : N ≤ MA) (hW : WT KA lnA ok N r) (p0 : Nat) (a1 : Int32) (t0 : KA p0 = 1 ∧ ok p0) (hR : XR X b KA lnA MA (some FieldType.int) 0 0 N sz (some (.int w)) h r) (hF : fX1_passMany h r p0 a1 = some w) : GX X b KA lnA MA 4 0 0 N sz 0 [(0, .ref (b + p0)), (1, .int a1)] [] h r := by
  rw [fX1_passMany] at hF
  refine g_iload_n hX dX1_passMany_0 (i := 1) rfl (j := 1) rfl ?_
  refine g_istore_n (L' := [(2, .int a1), (0, .ref (b + p0)), (1, .int a1)]) hX dX1_passMany_1 (i := 2) rfl (by decide) rfl ?_
  refine g_iconst (v := 0) hX dX1_passMany_2 (by decide) ?_
  refine g_istore_n (L' := [(3, .int 0), (2, .int a1), (0, .ref (b + p0)), (1, .int a1)]) hX dX1_passMany_3 (i := 3) rfl (by decide) rfl ?_
  refine g_sub (L' := [(0, .ref (b + p0)), (1, .int a1), (2, .int a1), (3, .int 0)]) [2, 3, 1, 0] rfl ?_
  exact kX1_passMany_b4 hX hM hW p0 a1 t0 hR lpF a1 0 hF
theorem ctX1_passMany {b N sz : Nat} {ok : Nat → Prop} {h : HH} {r : RR} {w : Int32} (hM : N ≤ MA) (hW : WT KA lnA ok N r) (p0 : Nat) (a1 : Int32) (t0 : KA p0 = 1 ∧ ok p0) (hF : fX1_passMany h r p0 a1 = some w) : CT yX1_passMany cX1_passMany 4 (some FieldType.int) 1 b KA lnA MA N sz [.ref (b + p0), .int a1] h r N sz (some (.int w)) h r 0 0 :=
  CT_of (by decide) rfl (Nat.le_of_ble_eq_true rfl) (by decide) trivial (fun X hX hR => kX1_passMany hX hM hW p0 a1 t0 hR hF)
/-! X1_afterName -/
def fX1_afterName_b79 (h : HH) (r : RR) (p0 : Nat) (a1 : Int32) (a2 : Int32) (k5 : Int32 → Int32 → Option (Int32)) (x3 : Int32) (x4 : Int32) : Option (Int32) := k5 x3 (x4 + 1)
def fX1_afterName_b70 (h : HH) (r : RR) (p0 : Nat) (a1 : Int32) (a2 : Int32) (k5 : Int32 → Int32 → Option (Int32)) (x3 : Int32) (x4 : Int32) : Option (Int32) := lt (x3 ||| (1 <<< ((x4 + 1) &&& 31))) (fun y78 => fX1_afterName_b79 h r p0 a1 a2 k5 y78 x4)
def fX1_afterName_b5 (h : HH) (r : RR) (p0 : Nat) (a1 : Int32) (a2 : Int32) : Nat → Int32 → Int32 → Option (Int32)
  | 0, _, _ => none
  | n + 1, x3, x4 => if (h p0 1) ≤ x4 then (some (x3)) else (if ¬ (a1 &&& (1 <<< (x4 &&& 31))) = 0 then (gd (inb x4 (lnA (r p0 0))) (if ¬ (h (r p0 0) (ix x4)) = (-2) then (gd (inb x4 (lnA (r p0 0))) (if (h (r p0 0) (ix x4)) = (-1) then (fX1_afterName_b70 h r p0 a1 a2 (fun z3_ z4_ => fX1_afterName_b5 h r p0 a1 a2 n z3_ z4_) x3 x4) else (gd (inb x4 (lnA (r p0 0))) (if ¬ (h (r p0 0) (ix x4)) = a2 then (fX1_afterName_b79 h r p0 a1 a2 (fun z3_ z4_ => fX1_afterName_b5 h r p0 a1 a2 n z3_ z4_) x3 x4) else (fX1_afterName_b70 h r p0 a1 a2 (fun z3_ z4_ => fX1_afterName_b5 h r p0 a1 a2 n z3_ z4_) x3 x4))))) else (lt (x3 ||| (1 <<< (x4 &&& 31))) (fun y44 => fX1_afterName_b79 h r p0 a1 a2 (fun z3_ z4_ => fX1_afterName_b5 h r p0 a1 a2 n z3_ z4_) y44 x4)))) else (fX1_afterName_b79 h r p0 a1 a2 (fun z3_ z4_ => fX1_afterName_b5 h r p0 a1 a2 n z3_ z4_) x3 x4))
def fX1_afterName (h : HH) (r : RR) (p0 : Nat) (a1 : Int32) (a2 : Int32) : Option (Int32) := fX1_afterName_b5 h r p0 a1 a2 lpF 0 0
set_option maxRecDepth 100000 in
set_option maxHeartbeats 4000000 in
theorem kX1_afterName_b79 {X : XT} {b N sz : Nat} {ok : Nat → Prop} {h : HH} {r : RR} {w : Int32} (hX : XOK X RX1 cX1_afterName 5 1) (hM : N ≤ MA) (hW : WT KA lnA ok N r) (p0 : Nat) (a1 : Int32) (a2 : Int32) (t0 : KA p0 = 1 ∧ ok p0) (hR : XR X b KA lnA MA (some FieldType.int) 0 0 N sz (some (.int w)) h r) (k5 : Int32 → Int32 → Option (Int32)) (hk5 : ∀ (x3 : Int32) (x4 : Int32), k5 x3 x4 = some w → GX X b KA lnA MA 5 0 0 N sz 5 [(0, .ref (b + p0)), (1, .int a1), (2, .int a2), (3, .int x3), (4, .int x4)] [] h r) (x3 : Int32) (x4 : Int32) (hF : fX1_afterName_b79 h r p0 a1 a2 k5 x3 x4 = some w) : GX X b KA lnA MA 5 0 0 N sz 79 [(0, .ref (b + p0)), (1, .int a1), (2, .int a2), (3, .int x3), (4, .int x4)] [] h r := by
  rw [fX1_afterName_b79] at hF
  refine g_iinc (L' := [(4, .int (x4 + 1)), (0, .ref (b + p0)), (1, .int a1), (2, .int a2), (3, .int x3)]) (j := 4) hX dX1_afterName_79 rfl rfl (by decide) rfl ?_
  refine g_goto (tgt := 5) hX dX1_afterName_82 (by decide) ?_
  refine g_sub (L' := [(0, .ref (b + p0)), (1, .int a1), (2, .int a2), (3, .int x3), (4, .int (x4 + 1))]) [1, 2, 3, 4, 0] rfl ?_
  exact hk5 x3 (x4 + 1) hF
set_option maxRecDepth 100000 in
set_option maxHeartbeats 4000000 in
theorem kX1_afterName_b70 {X : XT} {b N sz : Nat} {ok : Nat → Prop} {h : HH} {r : RR} {w : Int32} (hX : XOK X RX1 cX1_afterName 5 1) (hM : N ≤ MA) (hW : WT KA lnA ok N r) (p0 : Nat) (a1 : Int32) (a2 : Int32) (t0 : KA p0 = 1 ∧ ok p0) (hR : XR X b KA lnA MA (some FieldType.int) 0 0 N sz (some (.int w)) h r) (k5 : Int32 → Int32 → Option (Int32)) (hk5 : ∀ (x3 : Int32) (x4 : Int32), k5 x3 x4 = some w → GX X b KA lnA MA 5 0 0 N sz 5 [(0, .ref (b + p0)), (1, .int a1), (2, .int a2), (3, .int x3), (4, .int x4)] [] h r) (x3 : Int32) (x4 : Int32) (hF : fX1_afterName_b70 h r p0 a1 a2 k5 x3 x4 = some w) : GX X b KA lnA MA 5 0 0 N sz 70 [(0, .ref (b + p0)), (1, .int a1), (2, .int a2), (3, .int x3), (4, .int x4)] [] h r := by
  rw [fX1_afterName_b70] at hF
  refine g_iload_n hX dX1_afterName_70 (i := 3) rfl (j := 3) rfl ?_
  refine g_iconst (v := 1) hX dX1_afterName_71 (by decide) ?_
  refine g_iload hX dX1_afterName_72 (j := 4) rfl ?_
  refine g_iconst (v := 1) hX dX1_afterName_74 (by decide) ?_
  refine g_iadd hX dX1_afterName_75 ?_
  refine g_ishl hX dX1_afterName_76 ?_
  refine g_ior hX dX1_afterName_77 ?_
  obtain ⟨y78, e78, hF⟩ := lt_some hF
  refine g_topi e78 ?_
  refine g_istore_n (L' := [(3, .int y78), (0, .ref (b + p0)), (1, .int a1), (2, .int a2), (4, .int x4)]) hX dX1_afterName_78 (i := 3) rfl (by decide) rfl ?_
  refine g_sub (L' := [(0, .ref (b + p0)), (1, .int a1), (2, .int a2), (3, .int y78), (4, .int x4)]) [1, 2, 3, 0, 4] rfl ?_
  exact kX1_afterName_b79 hX hM hW p0 a1 a2 t0 hR k5 hk5 y78 x4 hF
set_option maxRecDepth 100000 in
set_option maxHeartbeats 4000000 in
theorem kX1_afterName_b5 {X : XT} {b N sz : Nat} {ok : Nat → Prop} {h : HH} {r : RR} {w : Int32} (hX : XOK X RX1 cX1_afterName 5 1) (hM : N ≤ MA) (hW : WT KA lnA ok N r) (p0 : Nat) (a1 : Int32) (a2 : Int32) (t0 : KA p0 = 1 ∧ ok p0) (hR : XR X b KA lnA MA (some FieldType.int) 0 0 N sz (some (.int w)) h r) : ∀ (n : Nat) (x3 : Int32) (x4 : Int32), fX1_afterName_b5 h r p0 a1 a2 n x3 x4 = some w → GX X b KA lnA MA 5 0 0 N sz 5 [(0, .ref (b + p0)), (1, .int a1), (2, .int a2), (3, .int x3), (4, .int x4)] [] h r := by
  intro n
  induction n with
  | zero =>
    intro x3 x4 hF
    cases hF
  | succ n ih =>
    intro x3 x4 hF
    rw [fX1_afterName_b5] at hF
    refine g_iload hX dX1_afterName_5 (j := 4) rfl ?_
    refine g_aload_n hX dX1_afterName_7 (i := 0) rfl (j := 0) rfl ?_
    refine gf_X1_23 hX dX1_afterName_8 (ty1 hW t0) ?_
    refine g_icmp_ge (tgt := 85) hX dX1_afterName_11 (by decide) (fun c11 => ?_) (fun c11 => ?_)
    · have hF := ite_t hF c11
      refine g_iload_n hX dX1_afterName_85 (i := 3) rfl (j := 3) rfl ?_
      obtain rfl := Option.some.inj hF
      exact g_iret hX dX1_afterName_86 hR
    · have hF := ite_f hF c11
      refine g_iload_n hX dX1_afterName_14 (i := 1) rfl (j := 1) rfl ?_
      refine g_iconst (v := 1) hX dX1_afterName_15 (by decide) ?_
      refine g_iload hX dX1_afterName_16 (j := 4) rfl ?_
      refine g_ishl hX dX1_afterName_18 ?_
      refine g_iand hX dX1_afterName_19 ?_
      refine g_if_ne (tgt := 26) hX dX1_afterName_20 (by decide) (fun c20 => ?_) (fun c20 => ?_)
      · have hF := ite_t hF c20
        refine g_aload_n hX dX1_afterName_26 (i := 0) rfl (j := 0) rfl ?_
        have tf27 := (tyF (k := 0) hW t0 (by decide) rfl (by decide) : KA (r p0 0) = 9 ∧ ok (r p0 0))
        refine gf_X1_9 hX dX1_afterName_27 (ty1 hW t0) (hW.1 _ tf27.2).1 ?_
        refine g_iload hX dX1_afterName_30 (j := 4) rfl ?_
        obtain ⟨g32, hF⟩ := gd_some hF
        refine g_iald hX dX1_afterName_32 tf27.1 (hW.1 _ tf27.2).1 (hW.1 _ tf27.2).2 g32 ?_
        refine g_bipush (v := (-2)) hX dX1_afterName_33 (by decide) ?_
        refine g_icmp_ne (tgt := 48) hX dX1_afterName_35 (by decide) (fun c35 => ?_) (fun c35 => ?_)
        · have hF := ite_t hF c35
          refine g_aload_n hX dX1_afterName_48 (i := 0) rfl (j := 0) rfl ?_
          have tf49 := (tyF (k := 0) hW t0 (by decide) rfl (by decide) : KA (r p0 0) = 9 ∧ ok (r p0 0))
          refine gf_X1_9 hX dX1_afterName_49 (ty1 hW t0) (hW.1 _ tf49.2).1 ?_
          refine g_iload hX dX1_afterName_52 (j := 4) rfl ?_
          obtain ⟨g54, hF⟩ := gd_some hF
          refine g_iald hX dX1_afterName_54 tf49.1 (hW.1 _ tf49.2).1 (hW.1 _ tf49.2).2 g54 ?_
          refine g_iconst (v := (-1)) hX dX1_afterName_55 (by decide) ?_
          refine g_icmp_eq (tgt := 70) hX dX1_afterName_56 (by decide) (fun c56 => ?_) (fun c56 => ?_)
          · have hF := ite_t hF c56
            refine g_sub (L' := [(0, .ref (b + p0)), (1, .int a1), (2, .int a2), (3, .int x3), (4, .int x4)]) [0, 1, 2, 3, 4] rfl ?_
            exact kX1_afterName_b70 hX hM hW p0 a1 a2 t0 hR (fun z3_ z4_ => fX1_afterName_b5 h r p0 a1 a2 n z3_ z4_) ih x3 x4 hF
          · have hF := ite_f hF c56
            refine g_aload_n hX dX1_afterName_59 (i := 0) rfl (j := 0) rfl ?_
            have tf60 := (tyF (k := 0) hW t0 (by decide) rfl (by decide) : KA (r p0 0) = 9 ∧ ok (r p0 0))
            refine gf_X1_9 hX dX1_afterName_60 (ty1 hW t0) (hW.1 _ tf60.2).1 ?_
            refine g_iload hX dX1_afterName_63 (j := 4) rfl ?_
            obtain ⟨g65, hF⟩ := gd_some hF
            refine g_iald hX dX1_afterName_65 tf60.1 (hW.1 _ tf60.2).1 (hW.1 _ tf60.2).2 g65 ?_
            refine g_iload_n hX dX1_afterName_66 (i := 2) rfl (j := 2) rfl ?_
            refine g_icmp_ne (tgt := 79) hX dX1_afterName_67 (by decide) (fun c67 => ?_) (fun c67 => ?_)
            · have hF := ite_t hF c67
              refine g_sub (L' := [(0, .ref (b + p0)), (1, .int a1), (2, .int a2), (3, .int x3), (4, .int x4)]) [0, 1, 2, 3, 4] rfl ?_
              exact kX1_afterName_b79 hX hM hW p0 a1 a2 t0 hR (fun z3_ z4_ => fX1_afterName_b5 h r p0 a1 a2 n z3_ z4_) ih x3 x4 hF
            · have hF := ite_f hF (fun z => z c67)
              refine g_sub (L' := [(0, .ref (b + p0)), (1, .int a1), (2, .int a2), (3, .int x3), (4, .int x4)]) [0, 1, 2, 3, 4] rfl ?_
              exact kX1_afterName_b70 hX hM hW p0 a1 a2 t0 hR (fun z3_ z4_ => fX1_afterName_b5 h r p0 a1 a2 n z3_ z4_) ih x3 x4 hF
        · have hF := ite_f hF (fun z => z c35)
          refine g_iload_n hX dX1_afterName_38 (i := 3) rfl (j := 3) rfl ?_
          refine g_iconst (v := 1) hX dX1_afterName_39 (by decide) ?_
          refine g_iload hX dX1_afterName_40 (j := 4) rfl ?_
          refine g_ishl hX dX1_afterName_42 ?_
          refine g_ior hX dX1_afterName_43 ?_
          obtain ⟨y44, e44, hF⟩ := lt_some hF
          refine g_topi e44 ?_
          refine g_istore_n (L' := [(3, .int y44), (0, .ref (b + p0)), (1, .int a1), (2, .int a2), (4, .int x4)]) hX dX1_afterName_44 (i := 3) rfl (by decide) rfl ?_
          refine g_goto (tgt := 79) hX dX1_afterName_45 (by decide) ?_
          refine g_sub (L' := [(0, .ref (b + p0)), (1, .int a1), (2, .int a2), (3, .int y44), (4, .int x4)]) [1, 2, 3, 0, 4] rfl ?_
          exact kX1_afterName_b79 hX hM hW p0 a1 a2 t0 hR (fun z3_ z4_ => fX1_afterName_b5 h r p0 a1 a2 n z3_ z4_) ih y44 x4 hF
      · have hF := ite_f hF (fun z => z c20)
        refine g_goto (tgt := 79) hX dX1_afterName_23 (by decide) ?_
        refine g_sub (L' := [(0, .ref (b + p0)), (1, .int a1), (2, .int a2), (3, .int x3), (4, .int x4)]) [0, 1, 2, 3, 4] rfl ?_
        exact kX1_afterName_b79 hX hM hW p0 a1 a2 t0 hR (fun z3_ z4_ => fX1_afterName_b5 h r p0 a1 a2 n z3_ z4_) ih x3 x4 hF
set_option maxRecDepth 100000 in
set_option maxHeartbeats 4000000 in
theorem kX1_afterName {X : XT} {b N sz : Nat} {ok : Nat → Prop} {h : HH} {r : RR} {w : Int32} (hX : XOK X RX1 cX1_afterName 5 1) (hM : N ≤ MA) (hW : WT KA lnA ok N r) (p0 : Nat) (a1 : Int32) (a2 : Int32) (t0 : KA p0 = 1 ∧ ok p0) (hR : XR X b KA lnA MA (some FieldType.int) 0 0 N sz (some (.int w)) h r) (hF : fX1_afterName h r p0 a1 a2 = some w) : GX X b KA lnA MA 5 0 0 N sz 0 [(0, .ref (b + p0)), (1, .int a1), (2, .int a2)] [] h r := by
  rw [fX1_afterName] at hF
  refine g_iconst (v := 0) hX dX1_afterName_0 (by decide) ?_
  refine g_istore_n (L' := [(3, .int 0), (0, .ref (b + p0)), (1, .int a1), (2, .int a2)]) hX dX1_afterName_1 (i := 3) rfl (by decide) rfl ?_
  refine g_iconst (v := 0) hX dX1_afterName_2 (by decide) ?_
  refine g_istore (L' := [(4, .int 0), (3, .int 0), (0, .ref (b + p0)), (1, .int a1), (2, .int a2)]) hX dX1_afterName_3 (by decide) rfl ?_
  refine g_sub (L' := [(0, .ref (b + p0)), (1, .int a1), (2, .int a2), (3, .int 0), (4, .int 0)]) [2, 3, 4, 1, 0] rfl ?_
  exact kX1_afterName_b5 hX hM hW p0 a1 a2 t0 hR lpF 0 0 hF
theorem ctX1_afterName {b N sz : Nat} {ok : Nat → Prop} {h : HH} {r : RR} {w : Int32} (hM : N ≤ MA) (hW : WT KA lnA ok N r) (p0 : Nat) (a1 : Int32) (a2 : Int32) (t0 : KA p0 = 1 ∧ ok p0) (hF : fX1_afterName h r p0 a1 a2 = some w) : CT yX1_afterName cX1_afterName 5 (some FieldType.int) 1 b KA lnA MA N sz [.ref (b + p0), .int a1, .int a2] h r N sz (some (.int w)) h r 0 0 :=
  CT_of (by decide) rfl (Nat.le_of_ble_eq_true rfl) (by decide) trivial (fun X hX hR => kX1_afterName hX hM hW p0 a1 a2 t0 hR hF)
/-! X1_longestFit -/
def fX1_longestFit_b56 (h : HH) (r : RR) (p0 : Nat) (p1 : Nat) (a2 : Int32) (k12 : Int32 → Int32 → Int32 → Option (Int32)) (x3 : Int32) (x4 : Int32) (x5 : Int32) : Option (Int32) := k12 x3 x4 (x5 + 1)
def fX1_longestFit_b12 (h : HH) (r : RR) (p0 : Nat) (p1 : Nat) (a2 : Int32) : Nat → Int32 → Int32 → Int32 → Option (Int32)
  | 0, _, _, _ => none
  | n + 1, x3, x4, x5 => if a2 ≤ x5 then (some (x4)) else (if (Int32.ofNat (lnA p1)) ≤ x5 then (some (x4)) else (gd (inb x5 (lnA p1)) ((fX1_afterName h r p0 x3 (h p1 (ix x5))).bind (fun v32 => (fX1_passMany h r p0 v32).bind (fun v35 => if (v35 &&& (1 <<< ((h p0 1) &&& 31))) = 0 then (fX1_longestFit_b56 h r p0 p1 a2 (fun z3_ z4_ z5_ => fX1_longestFit_b12 h r p0 p1 a2 n z3_ z4_ z5_) v35 x4 x5) else (lt (x5 + 1) (fun y54 => fX1_longestFit_b56 h r p0 p1 a2 (fun z3_ z4_ z5_ => fX1_longestFit_b12 h r p0 p1 a2 n z3_ z4_ z5_) v35 y54 x5)))))))
def fX1_longestFit (h : HH) (r : RR) (p0 : Nat) (p1 : Nat) (a2 : Int32) : Option (Int32) := (fX1_passMany h r p0 1).bind (fun v2 => fX1_longestFit_b12 h r p0 p1 a2 lpF v2 0 0)
set_option maxRecDepth 100000 in
set_option maxHeartbeats 4000000 in
theorem kX1_longestFit_b56 {X : XT} {b N sz : Nat} {ok : Nat → Prop} {h : HH} {r : RR} {w : Int32} (hX : XOK X RX1 cX1_longestFit 6 2) (hM : N ≤ MA) (hW : WT KA lnA ok N r) (p0 : Nat) (p1 : Nat) (a2 : Int32) (t0 : KA p0 = 1 ∧ ok p0) (t1 : KA p1 = 9 ∧ ok p1) (hR : XR X b KA lnA MA (some FieldType.int) 0 0 N sz (some (.int w)) h r) (k12 : Int32 → Int32 → Int32 → Option (Int32)) (hk12 : ∀ (x3 : Int32) (x4 : Int32) (x5 : Int32), k12 x3 x4 x5 = some w → GX X b KA lnA MA 6 0 0 N sz 12 [(0, .ref (b + p0)), (1, .ref (b + p1)), (2, .int a2), (3, .int x3), (4, .int x4), (5, .int x5)] [] h r) (x3 : Int32) (x4 : Int32) (x5 : Int32) (hF : fX1_longestFit_b56 h r p0 p1 a2 k12 x3 x4 x5 = some w) : GX X b KA lnA MA 6 0 0 N sz 56 [(0, .ref (b + p0)), (1, .ref (b + p1)), (2, .int a2), (3, .int x3), (4, .int x4), (5, .int x5)] [] h r := by
  rw [fX1_longestFit_b56] at hF
  refine g_iinc (L' := [(5, .int (x5 + 1)), (0, .ref (b + p0)), (1, .ref (b + p1)), (2, .int a2), (3, .int x3), (4, .int x4)]) (j := 5) hX dX1_longestFit_56 rfl rfl (by decide) rfl ?_
  refine g_goto (tgt := 12) hX dX1_longestFit_59 (by decide) ?_
  refine g_sub (L' := [(0, .ref (b + p0)), (1, .ref (b + p1)), (2, .int a2), (3, .int x3), (4, .int x4), (5, .int (x5 + 1))]) [1, 2, 3, 4, 5, 0] rfl ?_
  exact hk12 x3 x4 (x5 + 1) hF
set_option maxRecDepth 100000 in
set_option maxHeartbeats 4000000 in
theorem kX1_longestFit_b12 {X : XT} {b N sz : Nat} {ok : Nat → Prop} {h : HH} {r : RR} {w : Int32} (hX : XOK X RX1 cX1_longestFit 6 2) (hM : N ≤ MA) (hW : WT KA lnA ok N r) (p0 : Nat) (p1 : Nat) (a2 : Int32) (t0 : KA p0 = 1 ∧ ok p0) (t1 : KA p1 = 9 ∧ ok p1) (hR : XR X b KA lnA MA (some FieldType.int) 0 0 N sz (some (.int w)) h r) : ∀ (n : Nat) (x3 : Int32) (x4 : Int32) (x5 : Int32), fX1_longestFit_b12 h r p0 p1 a2 n x3 x4 x5 = some w → GX X b KA lnA MA 6 0 0 N sz 12 [(0, .ref (b + p0)), (1, .ref (b + p1)), (2, .int a2), (3, .int x3), (4, .int x4), (5, .int x5)] [] h r := by
  intro n
  induction n with
  | zero =>
    intro x3 x4 x5 hF
    cases hF
  | succ n ih =>
    intro x3 x4 x5 hF
    rw [fX1_longestFit_b12] at hF
    refine g_iload hX dX1_longestFit_12 (j := 5) rfl ?_
    refine g_iload_n hX dX1_longestFit_14 (i := 2) rfl (j := 2) rfl ?_
    refine g_icmp_ge (tgt := 62) hX dX1_longestFit_15 (by decide) (fun c15 => ?_) (fun c15 => ?_)
    · have hF := ite_t hF c15
      refine g_iload hX dX1_longestFit_62 (j := 4) rfl ?_
      obtain rfl := Option.some.inj hF
      exact g_iret hX dX1_longestFit_64 hR
    · have hF := ite_f hF c15
      refine g_iload hX dX1_longestFit_18 (j := 5) rfl ?_
      refine g_aload_n hX dX1_longestFit_20 (i := 1) rfl (j := 1) rfl ?_
      refine g_alen hX dX1_longestFit_21 t1.1 (by decide) (hW.1 _ t1.2).1 (hW.1 _ t1.2).2 ?_
      refine g_icmp_ge (tgt := 62) hX dX1_longestFit_22 (by decide) (fun c22 => ?_) (fun c22 => ?_)
      · have hF := ite_t hF c22
        refine g_iload hX dX1_longestFit_62 (j := 4) rfl ?_
        obtain rfl := Option.some.inj hF
        exact g_iret hX dX1_longestFit_64 hR
      · have hF := ite_f hF c22
        refine g_aload_n hX dX1_longestFit_25 (i := 0) rfl (j := 0) rfl ?_
        refine g_aload_n hX dX1_longestFit_26 (i := 0) rfl (j := 0) rfl ?_
        refine g_iload_n hX dX1_longestFit_27 (i := 3) rfl (j := 3) rfl ?_
        refine g_aload_n hX dX1_longestFit_28 (i := 1) rfl (j := 1) rfl ?_
        refine g_iload hX dX1_longestFit_29 (j := 5) rfl ?_
        obtain ⟨g31, hF⟩ := gd_some hF
        refine g_iald hX dX1_longestFit_31 t1.1 (hW.1 _ t1.2).1 (hW.1 _ t1.2).2 g31 ?_
        obtain ⟨v32, e32, hF⟩ := bi_some hF
        refine g_callV (As := [.int x3, .int (h p1 (ix x5))]) (rest := [.ref (b + p0)]) (stk := [.int v32, .ref (b + p0)]) hX dX1_longestFit_32 (ctX1_afterName hM hW p0 x3 (h p1 (ix x5)) t0 e32) (by decide) (by decide) wm_X1_19 wi_X1_afterName ws_X1_afterName wz_X1 wc_X1_afterName hyX1_afterName rfl (ci := 1) rfl (by decide) t0.1 (hW.1 _ t0.2).1 (hW.1 _ t0.2).2 (Nat.le_of_ble_eq_true rfl) rfl rfl ?_ rfl rfl
        obtain ⟨v35, e35, hF⟩ := bi_some hF
        refine g_callV (As := [.int v32]) (rest := []) (stk := [.int v35]) hX dX1_longestFit_35 (ctX1_passMany hM hW p0 v32 t0 e35) (by decide) (by decide) wm_X1_15 wi_X1_passMany ws_X1_passMany wz_X1 wc_X1_passMany hyX1_passMany rfl (ci := 1) rfl (by decide) t0.1 (hW.1 _ t0.2).1 (hW.1 _ t0.2).2 (Nat.le_of_ble_eq_true rfl) rfl rfl ?_ rfl rfl
        refine g_istore_n (L' := [(3, .int v35), (0, .ref (b + p0)), (1, .ref (b + p1)), (2, .int a2), (4, .int x4), (5, .int x5)]) hX dX1_longestFit_38 (i := 3) rfl (by decide) rfl ?_
        refine g_iload_n hX dX1_longestFit_39 (i := 3) rfl (j := 0) rfl ?_
        refine g_iconst (v := 1) hX dX1_longestFit_40 (by decide) ?_
        refine g_aload_n hX dX1_longestFit_41 (i := 0) rfl (j := 1) rfl ?_
        refine gf_X1_23 hX dX1_longestFit_42 (ty1 hW t0) ?_
        refine g_ishl hX dX1_longestFit_45 ?_
        refine g_iand hX dX1_longestFit_46 ?_
        refine g_if_eq (tgt := 56) hX dX1_longestFit_47 (by decide) (fun c47 => ?_) (fun c47 => ?_)
        · have hF := ite_t hF c47
          refine g_sub (L' := [(0, .ref (b + p0)), (1, .ref (b + p1)), (2, .int a2), (3, .int v35), (4, .int x4), (5, .int x5)]) [1, 2, 3, 0, 4, 5] rfl ?_
          exact kX1_longestFit_b56 hX hM hW p0 p1 a2 t0 t1 hR (fun z3_ z4_ z5_ => fX1_longestFit_b12 h r p0 p1 a2 n z3_ z4_ z5_) ih v35 x4 x5 hF
        · have hF := ite_f hF c47
          refine g_iload hX dX1_longestFit_50 (j := 5) rfl ?_
          refine g_iconst (v := 1) hX dX1_longestFit_52 (by decide) ?_
          refine g_iadd hX dX1_longestFit_53 ?_
          obtain ⟨y54, e54, hF⟩ := lt_some hF
          refine g_topi e54 ?_
          refine g_istore (L' := [(4, .int y54), (3, .int v35), (0, .ref (b + p0)), (1, .ref (b + p1)), (2, .int a2), (5, .int x5)]) hX dX1_longestFit_54 (by decide) rfl ?_
          refine g_sub (L' := [(0, .ref (b + p0)), (1, .ref (b + p1)), (2, .int a2), (3, .int v35), (4, .int y54), (5, .int x5)]) [2, 3, 4, 1, 0, 5] rfl ?_
          exact kX1_longestFit_b56 hX hM hW p0 p1 a2 t0 t1 hR (fun z3_ z4_ z5_ => fX1_longestFit_b12 h r p0 p1 a2 n z3_ z4_ z5_) ih v35 y54 x5 hF
set_option maxRecDepth 100000 in
set_option maxHeartbeats 4000000 in
theorem kX1_longestFit {X : XT} {b N sz : Nat} {ok : Nat → Prop} {h : HH} {r : RR} {w : Int32} (hX : XOK X RX1 cX1_longestFit 6 2) (hM : N ≤ MA) (hW : WT KA lnA ok N r) (p0 : Nat) (p1 : Nat) (a2 : Int32) (t0 : KA p0 = 1 ∧ ok p0) (t1 : KA p1 = 9 ∧ ok p1) (hR : XR X b KA lnA MA (some FieldType.int) 0 0 N sz (some (.int w)) h r) (hF : fX1_longestFit h r p0 p1 a2 = some w) : GX X b KA lnA MA 6 0 0 N sz 0 [(0, .ref (b + p0)), (1, .ref (b + p1)), (2, .int a2)] [] h r := by
  rw [fX1_longestFit] at hF
  refine g_aload_n hX dX1_longestFit_0 (i := 0) rfl (j := 0) rfl ?_
  refine g_iconst (v := 1) hX dX1_longestFit_1 (by decide) ?_
  obtain ⟨v2, e2, hF⟩ := bi_some hF
  refine g_callV (As := [.int 1]) (rest := []) (stk := [.int v2]) hX dX1_longestFit_2 (ctX1_passMany hM hW p0 1 t0 e2) (by decide) (by decide) wm_X1_15 wi_X1_passMany ws_X1_passMany wz_X1 wc_X1_passMany hyX1_passMany rfl (ci := 1) rfl (by decide) t0.1 (hW.1 _ t0.2).1 (hW.1 _ t0.2).2 (Nat.le_of_ble_eq_true rfl) rfl rfl ?_ rfl rfl
  refine g_istore_n (L' := [(3, .int v2), (0, .ref (b + p0)), (1, .ref (b + p1)), (2, .int a2)]) hX dX1_longestFit_5 (i := 3) rfl (by decide) rfl ?_
  refine g_iconst (v := 0) hX dX1_longestFit_6 (by decide) ?_
  refine g_istore (L' := [(4, .int 0), (3, .int v2), (0, .ref (b + p0)), (1, .ref (b + p1)), (2, .int a2)]) hX dX1_longestFit_7 (by decide) rfl ?_
  refine g_iconst (v := 0) hX dX1_longestFit_9 (by decide) ?_
  refine g_istore (L' := [(5, .int 0), (4, .int 0), (3, .int v2), (0, .ref (b + p0)), (1, .ref (b + p1)), (2, .int a2)]) hX dX1_longestFit_10 (by decide) rfl ?_
  refine g_sub (L' := [(0, .ref (b + p0)), (1, .ref (b + p1)), (2, .int a2), (3, .int v2), (4, .int 0), (5, .int 0)]) [3, 4, 5, 2, 1, 0] rfl ?_
  exact kX1_longestFit_b12 hX hM hW p0 p1 a2 t0 t1 hR lpF v2 0 0 hF
theorem ctX1_longestFit {b N sz : Nat} {ok : Nat → Prop} {h : HH} {r : RR} {w : Int32} (hM : N ≤ MA) (hW : WT KA lnA ok N r) (p0 : Nat) (p1 : Nat) (a2 : Int32) (t0 : KA p0 = 1 ∧ ok p0) (t1 : KA p1 = 9 ∧ ok p1) (hF : fX1_longestFit h r p0 p1 a2 = some w) : CT yX1_longestFit cX1_longestFit 6 (some FieldType.int) 2 b KA lnA MA N sz [.ref (b + p0), .ref (b + p1), .int a2] h r N sz (some (.int w)) h r 0 0 :=
  CT_of (by decide) rfl (Nat.le_of_ble_eq_true rfl) (by decide) trivial (fun X hX hR => kX1_longestFit hX hM hW p0 p1 a2 t0 t1 hR hF)
/-! X6_isIgnoredThere -/
def fX6_isIgnoredThere_b114 (r : RR) (p0 : Nat) (a1 : Int32) (a2 : Int32) (k44 : HH → Int32 → Int32 → Int32 → Int32 → Option (Int32 × HH)) (h : HH) (x4 : Int32) (x5 : Int32) (x6 : Int32) (x7 : Int32) : Option (Int32 × HH) := k44 h x4 x5 x6 (x7 + 1)
def fX6_isIgnoredThere_b112 (r : RR) (p0 : Nat) (a1 : Int32) (a2 : Int32) (k44 : HH → Int32 → Int32 → Int32 → Int32 → Option (Int32 × HH)) (h : HH) (s0 : Int32) (x4 : Int32) (x5 : Int32) (x7 : Int32) : Option (Int32 × HH) := fX6_isIgnoredThere_b114 r p0 a1 a2 k44 h x4 x5 s0 x7
def fX6_isIgnoredThere_b44 (r : RR) (p0 : Nat) (a1 : Int32) (a2 : Int32) : Nat → HH → Int32 → Int32 → Int32 → Int32 → Option (Int32 × HH)
  | 0, _, _, _, _, _ => none
  | n + 1, h, x4, x5, x6, x7 => if (h p0 4) ≤ x7 then (bz x6 (some (x6, h))) else (if 6 ≤ x7 then (bz x6 (some (x6, h))) else (gd (inb x7 (lnA (r p0 3))) ((fX1_longestFit h r (r (r p0 3) (ix x7)) (r p0 9) x4).bind (fun v73 => if v73 ≤ 0 then (fX6_isIgnoredThere_b114 r p0 a1 a2 (fun h_ z4_ z5_ z6_ z7_ => fX6_isIgnoredThere_b44 r p0 a1 a2 n h_ z4_ z5_ z6_ z7_) h x4 x5 x6 x7) else (if v73 < x5 then (fX6_isIgnoredThere_b114 r p0 a1 a2 (fun h_ z4_ z5_ z6_ z7_ => fX6_isIgnoredThere_b44 r p0 a1 a2 n h_ z4_ z5_ z6_ z7_) h x4 x5 x6 x7) else (gd (inb x7 (lnA (r p0 3))) (if ¬ (h (r (r p0 3) (ix x7)) 2) = 0 then (fX6_isIgnoredThere_b112 r p0 a1 a2 (fun h_ z4_ z5_ z6_ z7_ => fX6_isIgnoredThere_b44 r p0 a1 a2 n h_ z4_ z5_ z6_ z7_) h 0 x4 v73 x7) else (fX6_isIgnoredThere_b112 r p0 a1 a2 (fun h_ z4_ z5_ z6_ z7_ => fX6_isIgnoredThere_b44 r p0 a1 a2 n h_ z4_ z5_ z6_ z7_) h 1 x4 v73 x7))))))))
def fX6_isIgnoredThere (h : HH) (r : RR) (p0 : Nat) (a1 : Int32) (a2 : Int32) : Option (Int32 × HH) := gd (inb a1 (lnA (r p0 2))) (if (h p0 4) = 0 then (some (0, h)) else ((fX5_has h r (r (r p0 2) (ix a1)) a2).bind (fun v16 => if ¬ v16 = 0 then (bi2 (fX5_pathOf h r (r (r p0 2) (ix a1)) a2 (r p0 9)) (fun v30 h30 => fX6_isIgnoredThere_b44 r p0 a1 a2 lpF h30 v30 0 0 0)) else (some (0, h)))))
set_option maxRecDepth 100000 in
set_option maxHeartbeats 4000000 in
theorem kX6_isIgnoredThere_b114 {X : XT} {b N sz : Nat} {ok : Nat → Prop} {r : RR} {w : Int32 × HH} (hX : XOK X RX6 cX6_isIgnoredThere 9 3) (hM : N ≤ MA) (hW : WT KA lnA ok N r) (p0 : Nat) (a1 : Int32) (a2 : Int32) (t0 : KA p0 = 6 ∧ ok p0) (hR : XR X b KA lnA MA (some FieldType.boolean) 0 0 N sz (some (.int w.1)) w.2 r) (k44 : HH → Int32 → Int32 → Int32 → Int32 → Option (Int32 × HH)) (hk44 : ∀ (h : HH) (x4 : Int32) (x5 : Int32) (x6 : Int32) (x7 : Int32), k44 h x4 x5 x6 x7 = some w → GX X b KA lnA MA 9 0 0 N sz 44 [(0, .ref (b + p0)), (1, .int a1), (2, .int a2), (4, .int x4), (5, .int x5), (6, .int x6), (7, .int x7)] [] h r) (h : HH) (x4 : Int32) (x5 : Int32) (x6 : Int32) (x7 : Int32) (hF : fX6_isIgnoredThere_b114 r p0 a1 a2 k44 h x4 x5 x6 x7 = some w) : GX X b KA lnA MA 9 0 0 N sz 114 [(0, .ref (b + p0)), (1, .int a1), (2, .int a2), (4, .int x4), (5, .int x5), (6, .int x6), (7, .int x7)] [] h r := by
  rw [fX6_isIgnoredThere_b114] at hF
  refine g_iinc (L' := [(7, .int (x7 + 1)), (0, .ref (b + p0)), (1, .int a1), (2, .int a2), (4, .int x4), (5, .int x5), (6, .int x6)]) (j := 6) hX dX6_isIgnoredThere_114 rfl rfl (by decide) rfl ?_
  refine g_goto (tgt := 44) hX dX6_isIgnoredThere_117 (by decide) ?_
  refine g_sub (L' := [(0, .ref (b + p0)), (1, .int a1), (2, .int a2), (4, .int x4), (5, .int x5), (6, .int x6), (7, .int (x7 + 1))]) [1, 2, 3, 4, 5, 6, 0] rfl ?_
  exact hk44 h x4 x5 x6 (x7 + 1) hF
set_option maxRecDepth 100000 in
set_option maxHeartbeats 4000000 in
theorem kX6_isIgnoredThere_b112 {X : XT} {b N sz : Nat} {ok : Nat → Prop} {r : RR} {w : Int32 × HH} (hX : XOK X RX6 cX6_isIgnoredThere 9 3) (hM : N ≤ MA) (hW : WT KA lnA ok N r) (p0 : Nat) (a1 : Int32) (a2 : Int32) (t0 : KA p0 = 6 ∧ ok p0) (hR : XR X b KA lnA MA (some FieldType.boolean) 0 0 N sz (some (.int w.1)) w.2 r) (k44 : HH → Int32 → Int32 → Int32 → Int32 → Option (Int32 × HH)) (hk44 : ∀ (h : HH) (x4 : Int32) (x5 : Int32) (x6 : Int32) (x7 : Int32), k44 h x4 x5 x6 x7 = some w → GX X b KA lnA MA 9 0 0 N sz 44 [(0, .ref (b + p0)), (1, .int a1), (2, .int a2), (4, .int x4), (5, .int x5), (6, .int x6), (7, .int x7)] [] h r) (h : HH) (s0 : Int32) (x4 : Int32) (x5 : Int32) (x7 : Int32) (hF : fX6_isIgnoredThere_b112 r p0 a1 a2 k44 h s0 x4 x5 x7 = some w) : GX X b KA lnA MA 9 0 0 N sz 112 [(0, .ref (b + p0)), (1, .int a1), (2, .int a2), (4, .int x4), (5, .int x5), (7, .int x7)] [.int s0] h r := by
  rw [fX6_isIgnoredThere_b112] at hF
  refine g_istore (L' := [(6, .int s0), (0, .ref (b + p0)), (1, .int a1), (2, .int a2), (4, .int x4), (5, .int x5), (7, .int x7)]) hX dX6_isIgnoredThere_112 (by decide) rfl ?_
  refine g_sub (L' := [(0, .ref (b + p0)), (1, .int a1), (2, .int a2), (4, .int x4), (5, .int x5), (6, .int s0), (7, .int x7)]) [1, 2, 3, 4, 5, 0, 6] rfl ?_
  exact kX6_isIgnoredThere_b114 hX hM hW p0 a1 a2 t0 hR k44 hk44 h x4 x5 s0 x7 hF
set_option maxRecDepth 100000 in
set_option maxHeartbeats 4000000 in
theorem kX6_isIgnoredThere_b44 {X : XT} {b N sz : Nat} {ok : Nat → Prop} {r : RR} {w : Int32 × HH} (hX : XOK X RX6 cX6_isIgnoredThere 9 3) (hM : N ≤ MA) (hW : WT KA lnA ok N r) (p0 : Nat) (a1 : Int32) (a2 : Int32) (t0 : KA p0 = 6 ∧ ok p0) (hR : XR X b KA lnA MA (some FieldType.boolean) 0 0 N sz (some (.int w.1)) w.2 r) : ∀ (n : Nat) (h : HH) (x4 : Int32) (x5 : Int32) (x6 : Int32) (x7 : Int32), fX6_isIgnoredThere_b44 r p0 a1 a2 n h x4 x5 x6 x7 = some w → GX X b KA lnA MA 9 0 0 N sz 44 [(0, .ref (b + p0)), (1, .int a1), (2, .int a2), (4, .int x4), (5, .int x5), (6, .int x6), (7, .int x7)] [] h r := by
  intro n
  induction n with
  | zero =>
    intro h x4 x5 x6 x7 hF
    cases hF
  | succ n ih =>
    intro h x4 x5 x6 x7 hF
    rw [fX6_isIgnoredThere_b44] at hF
    refine g_iload hX dX6_isIgnoredThere_44 (j := 6) rfl ?_
    refine g_aload_n hX dX6_isIgnoredThere_46 (i := 0) rfl (j := 0) rfl ?_
    refine gf_X6_31 hX dX6_isIgnoredThere_47 (ty1 hW t0) ?_
    refine g_icmp_ge (tgt := 120) hX dX6_isIgnoredThere_50 (by decide) (fun c50 => ?_) (fun c50 => ?_)
    · have hF := ite_t hF c50
      refine g_iload hX dX6_isIgnoredThere_120 (j := 5) rfl ?_
      obtain ⟨z122, hF⟩ := bz_some hF
      obtain rfl := Option.some.inj hF
      exact g_zret hX dX6_isIgnoredThere_122 z122 hR
    · have hF := ite_f hF c50
      refine g_iload hX dX6_isIgnoredThere_53 (j := 6) rfl ?_
      refine g_bipush (v := 6) hX dX6_isIgnoredThere_55 (by decide) ?_
      refine g_icmp_ge (tgt := 120) hX dX6_isIgnoredThere_57 (by decide) (fun c57 => ?_) (fun c57 => ?_)
      · have hF := ite_t hF c57
        refine g_iload hX dX6_isIgnoredThere_120 (j := 5) rfl ?_
        obtain ⟨z122, hF⟩ := bz_some hF
        obtain rfl := Option.some.inj hF
        exact g_zret hX dX6_isIgnoredThere_122 z122 hR
      · have hF := ite_f hF c57
        refine g_aload_n hX dX6_isIgnoredThere_60 (i := 0) rfl (j := 0) rfl ?_
        have tf61 := (tyF (k := 3) hW t0 (by decide) rfl (by decide) : KA (r p0 3) = 11 ∧ ok (r p0 3))
        refine gf_X6_27 hX dX6_isIgnoredThere_61 (ty1 hW t0) (hW.1 _ tf61.2).1 ?_
        refine g_iload hX dX6_isIgnoredThere_64 (j := 6) rfl ?_
        obtain ⟨g66, hF⟩ := gd_some hF
        have ta66 : KA (r (r p0 3) (ix x7)) = 1 ∧ ok (r (r p0 3) (ix x7)) := tyA hW tf61 (by decide) rfl (by decide) g66
        refine g_aald hX dX6_isIgnoredThere_66 tf61.1 (by decide) (by decide) (hW.1 _ tf61.2).1 (hW.1 _ tf61.2).2 g66 (hW.1 _ ta66.2).1 ?_
        refine g_aload_n hX dX6_isIgnoredThere_67 (i := 0) rfl (j := 0) rfl ?_
        have tf68 := (tyF (k := 9) hW t0 (by decide) rfl (by decide) : KA (r p0 9) = 9 ∧ ok (r p0 9))
        refine gf_X6_46 hX dX6_isIgnoredThere_68 (ty1 hW t0) (hW.1 _ tf68.2).1 ?_
        refine g_iload hX dX6_isIgnoredThere_71 (j := 3) rfl ?_
        obtain ⟨v73, e73, hF⟩ := bi_some hF
        refine g_callV (As := [.ref (b + (r p0 9)), .int x4]) (rest := []) (stk := [.int v73]) hX dX6_isIgnoredThere_73 (ctX1_longestFit hM hW (r (r p0 3) (ix x7)) (r p0 9) x4 ta66 tf68 e73) (by decide) (by decide) wm_X6_126 wi_X1_longestFit ws_X1_longestFit wz_X1 wc_X1_longestFit hyX1_longestFit rfl (ci := 1) rfl (by decide) ta66.1 (hW.1 _ ta66.2).1 (hW.1 _ ta66.2).2 (Nat.le_of_ble_eq_true rfl) rfl rfl ?_ rfl rfl
        refine g_istore (L' := [(8, .int v73), (0, .ref (b + p0)), (1, .int a1), (2, .int a2), (4, .int x4), (5, .int x5), (6, .int x6), (7, .int x7)]) hX dX6_isIgnoredThere_76 (by decide) rfl ?_
        refine g_iload hX dX6_isIgnoredThere_78 (j := 0) rfl ?_
        refine g_if_le (tgt := 114) hX dX6_isIgnoredThere_80 (by decide) (fun c80 => ?_) (fun c80 => ?_)
        · have hF := ite_t hF c80
          refine g_sub (L' := [(0, .ref (b + p0)), (1, .int a1), (2, .int a2), (4, .int x4), (5, .int x5), (6, .int x6), (7, .int x7)]) [1, 2, 3, 4, 5, 6, 7] rfl ?_
          exact kX6_isIgnoredThere_b114 hX hM hW p0 a1 a2 t0 hR (fun h_ z4_ z5_ z6_ z7_ => fX6_isIgnoredThere_b44 r p0 a1 a2 n h_ z4_ z5_ z6_ z7_) ih h x4 x5 x6 x7 hF
        · have hF := ite_f hF c80
          refine g_iload hX dX6_isIgnoredThere_83 (j := 0) rfl ?_
          refine g_iload hX dX6_isIgnoredThere_85 (j := 5) rfl ?_
          refine g_icmp_lt (tgt := 114) hX dX6_isIgnoredThere_87 (by decide) (fun c87 => ?_) (fun c87 => ?_)
          · have hF := ite_t hF c87
            refine g_sub (L' := [(0, .ref (b + p0)), (1, .int a1), (2, .int a2), (4, .int x4), (5, .int x5), (6, .int x6), (7, .int x7)]) [1, 2, 3, 4, 5, 6, 7] rfl ?_
            exact kX6_isIgnoredThere_b114 hX hM hW p0 a1 a2 t0 hR (fun h_ z4_ z5_ z6_ z7_ => fX6_isIgnoredThere_b44 r p0 a1 a2 n h_ z4_ z5_ z6_ z7_) ih h x4 x5 x6 x7 hF
          · have hF := ite_f hF c87
            refine g_iload hX dX6_isIgnoredThere_90 (j := 0) rfl ?_
            refine g_istore (L' := [(5, .int v73), (8, .int v73), (0, .ref (b + p0)), (1, .int a1), (2, .int a2), (4, .int x4), (6, .int x6), (7, .int x7)]) hX dX6_isIgnoredThere_92 (by decide) rfl ?_
            refine g_aload_n hX dX6_isIgnoredThere_94 (i := 0) rfl (j := 2) rfl ?_
            have tf95 := (tyF (k := 3) hW t0 (by decide) rfl (by decide) : KA (r p0 3) = 11 ∧ ok (r p0 3))
            refine gf_X6_27 hX dX6_isIgnoredThere_95 (ty1 hW t0) (hW.1 _ tf95.2).1 ?_
            refine g_iload hX dX6_isIgnoredThere_98 (j := 7) rfl ?_
            obtain ⟨g100, hF⟩ := gd_some hF
            have ta100 : KA (r (r p0 3) (ix x7)) = 1 ∧ ok (r (r p0 3) (ix x7)) := tyA hW tf95 (by decide) rfl (by decide) g100
            refine g_aald hX dX6_isIgnoredThere_100 tf95.1 (by decide) (by decide) (hW.1 _ tf95.2).1 (hW.1 _ tf95.2).2 g100 (hW.1 _ ta100.2).1 ?_
            refine gf_X6_130 hX dX6_isIgnoredThere_101 (ty1 hW ta100) ?_
            refine g_if_ne (tgt := 111) hX dX6_isIgnoredThere_104 (by decide) (fun c104 => ?_) (fun c104 => ?_)
            · have hF := ite_t hF c104
              refine g_iconst (v := 0) hX dX6_isIgnoredThere_111 (by decide) ?_
              refine g_sub (L' := [(0, .ref (b + p0)), (1, .int a1), (2, .int a2), (4, .int x4), (5, .int v73), (7, .int x7)]) [2, 3, 4, 5, 0, 7] rfl ?_
              exact kX6_isIgnoredThere_b112 hX hM hW p0 a1 a2 t0 hR (fun h_ z4_ z5_ z6_ z7_ => fX6_isIgnoredThere_b44 r p0 a1 a2 n h_ z4_ z5_ z6_ z7_) ih h 0 x4 v73 x7 hF
            · have hF := ite_f hF (fun z => z c104)
              refine g_iconst (v := 1) hX dX6_isIgnoredThere_107 (by decide) ?_
              refine g_goto (tgt := 112) hX dX6_isIgnoredThere_108 (by decide) ?_
              refine g_sub (L' := [(0, .ref (b + p0)), (1, .int a1), (2, .int a2), (4, .int x4), (5, .int v73), (7, .int x7)]) [2, 3, 4, 5, 0, 7] rfl ?_
              exact kX6_isIgnoredThere_b112 hX hM hW p0 a1 a2 t0 hR (fun h_ z4_ z5_ z6_ z7_ => fX6_isIgnoredThere_b44 r p0 a1 a2 n h_ z4_ z5_ z6_ z7_) ih h 1 x4 v73 x7 hF
set_option maxRecDepth 100000 in
set_option maxHeartbeats 4000000 in
theorem kX6_isIgnoredThere {X : XT} {b N sz : Nat} {ok : Nat → Prop} {h : HH} {r : RR} {w : Int32 × HH} (hX : XOK X RX6 cX6_isIgnoredThere 9 3) (hM : N ≤ MA) (hW : WT KA lnA ok N r) (p0 : Nat) (a1 : Int32) (a2 : Int32) (t0 : KA p0 = 6 ∧ ok p0) (hR : XR X b KA lnA MA (some FieldType.boolean) 0 0 N sz (some (.int w.1)) w.2 r) (hF : fX6_isIgnoredThere h r p0 a1 a2 = some w) : GX X b KA lnA MA 9 0 0 N sz 0 [(0, .ref (b + p0)), (1, .int a1), (2, .int a2)] [] h r := by
  rw [fX6_isIgnoredThere] at hF
  refine g_aload_n hX dX6_isIgnoredThere_0 (i := 0) rfl (j := 0) rfl ?_
  have tf1 := (tyF (k := 2) hW t0 (by decide) rfl (by decide) : KA (r p0 2) = 13 ∧ ok (r p0 2))
  refine gf_X6_21 hX dX6_isIgnoredThere_1 (ty1 hW t0) (hW.1 _ tf1.2).1 ?_
  refine g_iload_n hX dX6_isIgnoredThere_4 (i := 1) rfl (j := 1) rfl ?_
  obtain ⟨g5, hF⟩ := gd_some hF
  have ta5 : KA (r (r p0 2) (ix a1)) = 5 ∧ ok (r (r p0 2) (ix a1)) := tyA hW tf1 (by decide) rfl (by decide) g5
  refine g_aald hX dX6_isIgnoredThere_5 tf1.1 (by decide) (by decide) (hW.1 _ tf1.2).1 (hW.1 _ tf1.2).2 g5 (hW.1 _ ta5.2).1 ?_
  refine g_astore_n (L' := [(3, .ref (b + (r (r p0 2) (ix a1)))), (0, .ref (b + p0)), (1, .int a1), (2, .int a2)]) hX dX6_isIgnoredThere_6 (i := 3) rfl (by decide) rfl ?_
  refine g_aload_n hX dX6_isIgnoredThere_7 (i := 0) rfl (j := 1) rfl ?_
  refine gf_X6_31 hX dX6_isIgnoredThere_8 (ty1 hW t0) ?_
  refine g_if_eq (tgt := 22) hX dX6_isIgnoredThere_11 (by decide) (fun c11 => ?_) (fun c11 => ?_)
  · have hF := ite_t hF c11
    refine g_iconst (v := 0) hX dX6_isIgnoredThere_22 (by decide) ?_
    obtain rfl := Option.some.inj hF
    exact g_zret hX dX6_isIgnoredThere_23 (by decide) hR
  · have hF := ite_f hF c11
    refine g_aload_n hX dX6_isIgnoredThere_14 (i := 3) rfl (j := 0) rfl ?_
    refine g_iload_n hX dX6_isIgnoredThere_15 (i := 2) rfl (j := 3) rfl ?_
    obtain ⟨v16, e16, hF⟩ := bi_some hF
    refine g_callV (As := [.int a2]) (rest := []) (stk := [.int v16]) hX dX6_isIgnoredThere_16 (ctX5_has hM hW (r (r p0 2) (ix a1)) a2 ta5 e16) (by decide) (by decide) wm_X6_66 wi_X5_has ws_X5_has wz_X5 wc_X5_has hyX5_has rfl (ci := 5) rfl (by decide) ta5.1 (hW.1 _ ta5.2).1 (hW.1 _ ta5.2).2 (Nat.le_of_ble_eq_true rfl) rfl rfl ?_ rfl rfl
    refine g_if_ne (tgt := 24) hX dX6_isIgnoredThere_19 (by decide) (fun c19 => ?_) (fun c19 => ?_)
    · have hF := ite_t hF c19
      refine g_aload_n hX dX6_isIgnoredThere_24 (i := 3) rfl (j := 0) rfl ?_
      refine g_iload_n hX dX6_isIgnoredThere_25 (i := 2) rfl (j := 3) rfl ?_
      refine g_aload_n hX dX6_isIgnoredThere_26 (i := 0) rfl (j := 1) rfl ?_
      have tf27 := (tyF (k := 9) hW t0 (by decide) rfl (by decide) : KA (r p0 9) = 9 ∧ ok (r p0 9))
      refine gf_X6_46 hX dX6_isIgnoredThere_27 (ty1 hW t0) (hW.1 _ tf27.2).1 ?_
      obtain ⟨v30, h30, e30, hF⟩ := bi2_some hF
      refine g_callV (As := [.int a2, .ref (b + (r p0 9))]) (rest := []) (stk := [.int v30]) hX dX6_isIgnoredThere_30 (ctX5_pathOf hM hW (r (r p0 2) (ix a1)) a2 (r p0 9) ta5 tf27 e30) (by decide) (by decide) wm_X6_122 wi_X5_pathOf ws_X5_pathOf wz_X5 wc_X5_pathOf hyX5_pathOf rfl (ci := 5) rfl (by decide) ta5.1 (hW.1 _ ta5.2).1 (hW.1 _ ta5.2).2 (Nat.le_of_ble_eq_true rfl) rfl rfl ?_ rfl rfl
      refine g_istore (L' := [(4, .int v30), (3, .ref (b + (r (r p0 2) (ix a1)))), (0, .ref (b + p0)), (1, .int a1), (2, .int a2)]) hX dX6_isIgnoredThere_33 (by decide) rfl ?_
      refine g_iconst (v := 0) hX dX6_isIgnoredThere_35 (by decide) ?_
      refine g_istore (L' := [(5, .int 0), (4, .int v30), (3, .ref (b + (r (r p0 2) (ix a1)))), (0, .ref (b + p0)), (1, .int a1), (2, .int a2)]) hX dX6_isIgnoredThere_36 (by decide) rfl ?_
      refine g_iconst (v := 0) hX dX6_isIgnoredThere_38 (by decide) ?_
      refine g_istore (L' := [(6, .int 0), (5, .int 0), (4, .int v30), (3, .ref (b + (r (r p0 2) (ix a1)))), (0, .ref (b + p0)), (1, .int a1), (2, .int a2)]) hX dX6_isIgnoredThere_39 (by decide) rfl ?_
      refine g_iconst (v := 0) hX dX6_isIgnoredThere_41 (by decide) ?_
      refine g_istore (L' := [(7, .int 0), (6, .int 0), (5, .int 0), (4, .int v30), (3, .ref (b + (r (r p0 2) (ix a1)))), (0, .ref (b + p0)), (1, .int a1), (2, .int a2)]) hX dX6_isIgnoredThere_42 (by decide) rfl ?_
      refine g_sub (L' := [(0, .ref (b + p0)), (1, .int a1), (2, .int a2), (4, .int v30), (5, .int 0), (6, .int 0), (7, .int 0)]) [5, 6, 7, 3, 2, 1, 0] rfl ?_
      exact kX6_isIgnoredThere_b44 hX hM hW p0 a1 a2 t0 hR lpF h30 v30 0 0 0 hF
    · have hF := ite_f hF (fun z => z c19)
      refine g_iconst (v := 0) hX dX6_isIgnoredThere_22 (by decide) ?_
      obtain rfl := Option.some.inj hF
      exact g_zret hX dX6_isIgnoredThere_23 (by decide) hR
theorem ctX6_isIgnoredThere {b N sz : Nat} {ok : Nat → Prop} {h : HH} {r : RR} {w : Int32 × HH} (hM : N ≤ MA) (hW : WT KA lnA ok N r) (p0 : Nat) (a1 : Int32) (a2 : Int32) (t0 : KA p0 = 6 ∧ ok p0) (hF : fX6_isIgnoredThere h r p0 a1 a2 = some w) : CT yX6_isIgnoredThere cX6_isIgnoredThere 9 (some FieldType.boolean) 3 b KA lnA MA N sz [.ref (b + p0), .int a1, .int a2] h r N sz (some (.int w.1)) w.2 r 0 0 :=
  CT_of (by decide) rfl (Nat.le_of_ble_eq_true rfl) (by decide) trivial (fun X hX hR => kX6_isIgnoredThere hX hM hW p0 a1 a2 t0 hR hF)
/-! X0_standsInIgnored -/
def fX0_standsInIgnored_b43 (h : HH) (r : RR) (p0 : Nat) (a1 : Int32) (k2 : Int32 → Option (Int32)) (x2 : Int32) : Option (Int32) := k2 (x2 + 1)
def fX0_standsInIgnored_b2 (h : HH) (r : RR) (p0 : Nat) (a1 : Int32) : Nat → Int32 → Option (Int32)
  | 0, _ => none
  | n + 1, x2 => if 3 ≤ x2 then (some (0)) else (gwd (h p0 0) (fun q_8 => gd (inb x2 (lnA (r q_8 2))) (gd (inb a1 (lnA (r (r (r q_8 2) (ix x2)) 1))) (lt (h (r (r (r q_8 2) (ix x2)) 1) (ix a1)) (fun y21 => if y21 < 0 then (fX0_standsInIgnored_b43 h r p0 a1 (fun z2_ => fX0_standsInIgnored_b2 h r p0 a1 n z2_) x2) else (if 30 ≤ y21 then (fX0_standsInIgnored_b43 h r p0 a1 (fun z2_ => fX0_standsInIgnored_b2 h r p0 a1 n z2_) x2) else (gd (inb y21 (lnA (r p0 1))) (if (h (r p0 1) (ix y21)) = 0 then (fX0_standsInIgnored_b43 h r p0 a1 (fun z2_ => fX0_standsInIgnored_b2 h r p0 a1 n z2_) x2) else (some (1))))))))))
def fX0_standsInIgnored (h : HH) (r : RR) (p0 : Nat) (a1 : Int32) : Option (Int32) := fX0_standsInIgnored_b2 h r p0 a1 lpF 0
set_option maxRecDepth 100000 in
set_option maxHeartbeats 4000000 in
theorem kX0_standsInIgnored_b43 {X : XT} {b N sz : Nat} {ok : Nat → Prop} {h : HH} {r : RR} {w : Int32} (hX : XOK X RX0 cX0_standsInIgnored 4 1) (hM : N ≤ MA) (hW : WT KA lnA ok N r) (hA : ∀ p, KA p < 16 → ok p) (p0 : Nat) (a1 : Int32) (t0 : KA p0 = 0 ∧ ok p0) (hR : XR X b KA lnA MA (some FieldType.boolean) 0 0 N sz (some (.int w)) h r) (k2 : Int32 → Option (Int32)) (hk2 : ∀ (x2 : Int32), k2 x2 = some w → GX X b KA lnA MA 4 0 0 N sz 2 [(0, .ref (b + p0)), (1, .int a1), (2, .int x2)] [] h r) (x2 : Int32) (hF : fX0_standsInIgnored_b43 h r p0 a1 k2 x2 = some w) : GX X b KA lnA MA 4 0 0 N sz 43 [(0, .ref (b + p0)), (1, .int a1), (2, .int x2)] [] h r := by
  rw [fX0_standsInIgnored_b43] at hF
  refine g_iinc (L' := [(2, .int (x2 + 1)), (0, .ref (b + p0)), (1, .int a1)]) (j := 2) hX dX0_standsInIgnored_43 rfl rfl (by decide) rfl ?_
  refine g_goto (tgt := 2) hX dX0_standsInIgnored_46 (by decide) ?_
  refine g_sub (L' := [(0, .ref (b + p0)), (1, .int a1), (2, .int (x2 + 1))]) [1, 2, 0] rfl ?_
  exact hk2 (x2 + 1) hF
set_option maxRecDepth 100000 in
set_option maxHeartbeats 4000000 in
theorem kX0_standsInIgnored_b2 {X : XT} {b N sz : Nat} {ok : Nat → Prop} {h : HH} {r : RR} {w : Int32} (hX : XOK X RX0 cX0_standsInIgnored 4 1) (hM : N ≤ MA) (hW : WT KA lnA ok N r) (hA : ∀ p, KA p < 16 → ok p) (p0 : Nat) (a1 : Int32) (t0 : KA p0 = 0 ∧ ok p0) (hR : XR X b KA lnA MA (some FieldType.boolean) 0 0 N sz (some (.int w)) h r) : ∀ (n : Nat) (x2 : Int32), fX0_standsInIgnored_b2 h r p0 a1 n x2 = some w → GX X b KA lnA MA 4 0 0 N sz 2 [(0, .ref (b + p0)), (1, .int a1), (2, .int x2)] [] h r := by
  intro n
  induction n with
  | zero =>
    intro x2 hF
    cases hF
  | succ n ih =>
    intro x2 hF
    rw [fX0_standsInIgnored_b2] at hF
    refine g_iload_n hX dX0_standsInIgnored_2 (i := 2) rfl (j := 2) rfl ?_
    refine g_iconst (v := 3) hX dX0_standsInIgnored_3 (by decide) ?_
    refine g_icmp_ge (tgt := 49) hX dX0_standsInIgnored_4 (by decide) (fun c4 => ?_) (fun c4 => ?_)
    · have hF := ite_t hF c4
      refine g_iconst (v := 0) hX dX0_standsInIgnored_49 (by decide) ?_
      obtain rfl := Option.some.inj hF
      exact g_zret hX dX0_standsInIgnored_50 (by decide) hR
    · have hF := ite_f hF c4
      refine g_aload_n hX dX0_standsInIgnored_7 (i := 0) rfl (j := 0) rfl ?_
      obtain ⟨q_8, w8, z8, hF⟩ := gwd_some hF
      have tw8 := ty_w hA z8
      refine gw_X0_44 hX dX0_standsInIgnored_8 (ty1 hW t0) w8 (hW.1 _ tw8.2).1 ?_
      have tf11 := (tyF (k := 2) hW tw8 (by decide) rfl (by decide) : KA (r q_8 2) = 13 ∧ ok (r q_8 2))
      refine gf_X0_57 hX dX0_standsInIgnored_11 (ty1 hW tw8) (hW.1 _ tf11.2).1 ?_
      refine g_iload_n hX dX0_standsInIgnored_14 (i := 2) rfl (j := 2) rfl ?_
      obtain ⟨g15, hF⟩ := gd_some hF
      have ta15 : KA (r (r q_8 2) (ix x2)) = 5 ∧ ok (r (r q_8 2) (ix x2)) := tyA hW tf11 (by decide) rfl (by decide) g15
      refine g_aald hX dX0_standsInIgnored_15 tf11.1 (by decide) (by decide) (hW.1 _ tf11.2).1 (hW.1 _ tf11.2).2 g15 (hW.1 _ ta15.2).1 ?_
      have tf16 := (tyF (k := 1) hW ta15 (by decide) rfl (by decide) : KA (r (r (r q_8 2) (ix x2)) 1) = 9 ∧ ok (r (r (r q_8 2) (ix x2)) 1))
      refine gf_X0_69 hX dX0_standsInIgnored_16 (ty1 hW ta15) (hW.1 _ tf16.2).1 ?_
      refine g_iload_n hX dX0_standsInIgnored_19 (i := 1) rfl (j := 1) rfl ?_
      obtain ⟨g20, hF⟩ := gd_some hF
      refine g_iald hX dX0_standsInIgnored_20 tf16.1 (hW.1 _ tf16.2).1 (hW.1 _ tf16.2).2 g20 ?_
      obtain ⟨y21, e21, hF⟩ := lt_some hF
      refine g_topi e21 ?_
      refine g_istore_n (L' := [(3, .int y21), (0, .ref (b + p0)), (1, .int a1), (2, .int x2)]) hX dX0_standsInIgnored_21 (i := 3) rfl (by decide) rfl ?_
      refine g_iload_n hX dX0_standsInIgnored_22 (i := 3) rfl (j := 0) rfl ?_
      refine g_if_lt (tgt := 43) hX dX0_standsInIgnored_23 (by decide) (fun c23 => ?_) (fun c23 => ?_)
      · have hF := ite_t hF c23
        refine g_sub (L' := [(0, .ref (b + p0)), (1, .int a1), (2, .int x2)]) [1, 2, 3] rfl ?_
        exact kX0_standsInIgnored_b43 hX hM hW hA p0 a1 t0 hR (fun z2_ => fX0_standsInIgnored_b2 h r p0 a1 n z2_) ih x2 hF
      · have hF := ite_f hF c23
        refine g_iload_n hX dX0_standsInIgnored_26 (i := 3) rfl (j := 0) rfl ?_
        refine g_bipush (v := 30) hX dX0_standsInIgnored_27 (by decide) ?_
        refine g_icmp_ge (tgt := 43) hX dX0_standsInIgnored_29 (by decide) (fun c29 => ?_) (fun c29 => ?_)
        · have hF := ite_t hF c29
          refine g_sub (L' := [(0, .ref (b + p0)), (1, .int a1), (2, .int x2)]) [1, 2, 3] rfl ?_
          exact kX0_standsInIgnored_b43 hX hM hW hA p0 a1 t0 hR (fun z2_ => fX0_standsInIgnored_b2 h r p0 a1 n z2_) ih x2 hF
        · have hF := ite_f hF c29
          refine g_aload_n hX dX0_standsInIgnored_32 (i := 0) rfl (j := 1) rfl ?_
          have tf33 := (tyF (k := 1) hW t0 (by decide) rfl (by decide) : KA (r p0 1) = 10 ∧ ok (r p0 1))
          refine gf_X0_9 hX dX0_standsInIgnored_33 (ty1 hW t0) (hW.1 _ tf33.2).1 ?_
          refine g_iload_n hX dX0_standsInIgnored_36 (i := 3) rfl (j := 0) rfl ?_
          obtain ⟨g37, hF⟩ := gd_some hF
          refine g_bald hX dX0_standsInIgnored_37 tf33.1 (hW.1 _ tf33.2).1 (hW.1 _ tf33.2).2 g37 ?_
          refine g_if_eq (tgt := 43) hX dX0_standsInIgnored_38 (by decide) (fun c38 => ?_) (fun c38 => ?_)
          · have hF := ite_t hF c38
            refine g_sub (L' := [(0, .ref (b + p0)), (1, .int a1), (2, .int x2)]) [1, 2, 3] rfl ?_
            exact kX0_standsInIgnored_b43 hX hM hW hA p0 a1 t0 hR (fun z2_ => fX0_standsInIgnored_b2 h r p0 a1 n z2_) ih x2 hF
          · have hF := ite_f hF c38
            refine g_iconst (v := 1) hX dX0_standsInIgnored_41 (by decide) ?_
            obtain rfl := Option.some.inj hF
            exact g_zret hX dX0_standsInIgnored_42 (by decide) hR
set_option maxRecDepth 100000 in
set_option maxHeartbeats 4000000 in
theorem kX0_standsInIgnored {X : XT} {b N sz : Nat} {ok : Nat → Prop} {h : HH} {r : RR} {w : Int32} (hX : XOK X RX0 cX0_standsInIgnored 4 1) (hM : N ≤ MA) (hW : WT KA lnA ok N r) (hA : ∀ p, KA p < 16 → ok p) (p0 : Nat) (a1 : Int32) (t0 : KA p0 = 0 ∧ ok p0) (hR : XR X b KA lnA MA (some FieldType.boolean) 0 0 N sz (some (.int w)) h r) (hF : fX0_standsInIgnored h r p0 a1 = some w) : GX X b KA lnA MA 4 0 0 N sz 0 [(0, .ref (b + p0)), (1, .int a1)] [] h r := by
  rw [fX0_standsInIgnored] at hF
  refine g_iconst (v := 0) hX dX0_standsInIgnored_0 (by decide) ?_
  refine g_istore_n (L' := [(2, .int 0), (0, .ref (b + p0)), (1, .int a1)]) hX dX0_standsInIgnored_1 (i := 2) rfl (by decide) rfl ?_
  refine g_sub (L' := [(0, .ref (b + p0)), (1, .int a1), (2, .int 0)]) [1, 2, 0] rfl ?_
  exact kX0_standsInIgnored_b2 hX hM hW hA p0 a1 t0 hR lpF 0 hF
theorem ctX0_standsInIgnored {b N sz : Nat} {ok : Nat → Prop} {h : HH} {r : RR} {w : Int32} (hM : N ≤ MA) (hW : WT KA lnA ok N r) (hA : ∀ p, KA p < 16 → ok p) (p0 : Nat) (a1 : Int32) (t0 : KA p0 = 0 ∧ ok p0) (hF : fX0_standsInIgnored h r p0 a1 = some w) : CT yX0_standsInIgnored cX0_standsInIgnored 4 (some FieldType.boolean) 1 b KA lnA MA N sz [.ref (b + p0), .int a1] h r N sz (some (.int w)) h r 0 0 :=
  CT_of (by decide) rfl (Nat.le_of_ble_eq_true rfl) (by decide) trivial (fun X hX hR => kX0_standsInIgnored hX hM hW hA p0 a1 t0 hR hF)
/-! X0_ignoreWithin -/
def fX0_ignoreWithin_b50 (r : RR) (p0 : Nat) (k4 : HH → Int32 → Int32 → Option (HH)) (k18 : HH → Int32 → Int32 → Int32 → Option (HH)) (h : HH) (x1 : Int32) (x2 : Int32) (x3 : Int32) : Option (HH) := k18 h x1 x2 (x3 + 1)
def fX0_ignoreWithin_b18 (r : RR) (p0 : Nat) (k4 : HH → Int32 → Int32 → Option (HH)) : Nat → HH → Int32 → Int32 → Int32 → Option (HH)
  | 0, _, _, _, _ => none
  | n + 1, h, x1, x2, x3 => if 30 ≤ x3 then (k4 h x1 (x2 + 1)) else (gd (inb x3 (lnA (r p0 1))) (if ¬ (h (r p0 1) (ix x3)) = 0 then (fX0_ignoreWithin_b50 r p0 k4 (fun h_ z1_ z2_ z3_ => fX0_ignoreWithin_b18 r p0 k4 n h_ z1_ z2_ z3_) h x1 x2 x3) else ((fX0_standsInIgnored h r p0 x3).bind (fun v35 => if v35 = 0 then (fX0_ignoreWithin_b50 r p0 k4 (fun h_ z1_ z2_ z3_ => fX0_ignoreWithin_b18 r p0 k4 n h_ z1_ z2_ z3_) h x1 x2 x3) else (gd (inb x3 (lnA (r p0 1))) (lt (up h (r p0 1) (ix x3) (zn 1)) (fun h47 => fX0_ignoreWithin_b50 r p0 k4 (fun h_ z1_ z2_ z3_ => fX0_ignoreWithin_b18 r p0 k4 n h_ z1_ z2_ z3_) h47 1 x2 x3)))))))
def fX0_ignoreWithin_b4 (r : RR) (p0 : Nat) : Nat → HH → Int32 → Int32 → Option (HH)
  | 0, _, _, _ => none
  | n + 1, h, x1, x2 => if 30 ≤ x2 then (some h) else (if x1 = 0 then (some h) else (fX0_ignoreWithin_b18 r p0 (fun h_ z1_ z2_ => fX0_ignoreWithin_b4 r p0 n h_ z1_ z2_) lpF h 0 x2 0))
def fX0_ignoreWithin (h : HH) (r : RR) (p0 : Nat) : Option (HH) := fX0_ignoreWithin_b4 r p0 lpF h 1 0
set_option maxRecDepth 100000 in
set_option maxHeartbeats 4000000 in
theorem kX0_ignoreWithin_b50 {X : XT} {b N sz : Nat} {ok : Nat → Prop} {r : RR} {w : HH} (hX : XOK X RX0 cX0_ignoreWithin 4 2) (hM : N ≤ MA) (hW : WT KA lnA ok N r) (hA : ∀ p, KA p < 16 → ok p) (p0 : Nat) (t0 : KA p0 = 0 ∧ ok p0) (hR : XR X b KA lnA MA (none) 0 0 N sz none w r) (k4 : HH → Int32 → Int32 → Option (HH)) (hk4 : ∀ (h : HH) (x1 : Int32) (x2 : Int32), k4 h x1 x2 = some w → GX X b KA lnA MA 4 0 0 N sz 4 [(0, .ref (b + p0)), (1, .int x1), (2, .int x2)] [] h r) (k18 : HH → Int32 → Int32 → Int32 → Option (HH)) (hk18 : ∀ (h : HH) (x1 : Int32) (x2 : Int32) (x3 : Int32), k18 h x1 x2 x3 = some w → GX X b KA lnA MA 4 0 0 N sz 18 [(0, .ref (b + p0)), (1, .int x1), (2, .int x2), (3, .int x3)] [] h r) (h : HH) (x1 : Int32) (x2 : Int32) (x3 : Int32) (hF : fX0_ignoreWithin_b50 r p0 k4 k18 h x1 x2 x3 = some w) : GX X b KA lnA MA 4 0 0 N sz 50 [(0, .ref (b + p0)), (1, .int x1), (2, .int x2), (3, .int x3)] [] h r := by
  rw [fX0_ignoreWithin_b50] at hF
  refine g_iinc (L' := [(3, .int (x3 + 1)), (0, .ref (b + p0)), (1, .int x1), (2, .int x2)]) (j := 3) hX dX0_ignoreWithin_50 rfl rfl (by decide) rfl ?_
  refine g_goto (tgt := 18) hX dX0_ignoreWithin_53 (by decide) ?_
  refine g_sub (L' := [(0, .ref (b + p0)), (1, .int x1), (2, .int x2), (3, .int (x3 + 1))]) [1, 2, 3, 0] rfl ?_
  exact hk18 h x1 x2 (x3 + 1) hF
set_option maxRecDepth 100000 in
set_option maxHeartbeats 4000000 in
theorem kX0_ignoreWithin_b18 {X : XT} {b N sz : Nat} {ok : Nat → Prop} {r : RR} {w : HH} (hX : XOK X RX0 cX0_ignoreWithin 4 2) (hM : N ≤ MA) (hW : WT KA lnA ok N r) (hA : ∀ p, KA p < 16 → ok p) (p0 : Nat) (t0 : KA p0 = 0 ∧ ok p0) (hR : XR X b KA lnA MA (none) 0 0 N sz none w r) (k4 : HH → Int32 → Int32 → Option (HH)) (hk4 : ∀ (h : HH) (x1 : Int32) (x2 : Int32), k4 h x1 x2 = some w → GX X b KA lnA MA 4 0 0 N sz 4 [(0, .ref (b + p0)), (1, .int x1), (2, .int x2)] [] h r) : ∀ (n : Nat) (h : HH) (x1 : Int32) (x2 : Int32) (x3 : Int32), fX0_ignoreWithin_b18 r p0 k4 n h x1 x2 x3 = some w → GX X b KA lnA MA 4 0 0 N sz 18 [(0, .ref (b + p0)), (1, .int x1), (2, .int x2), (3, .int x3)] [] h r := by
  intro n
  induction n with
  | zero =>
    intro h x1 x2 x3 hF
    cases hF
  | succ n ih =>
    intro h x1 x2 x3 hF
    rw [fX0_ignoreWithin_b18] at hF
    refine g_iload_n hX dX0_ignoreWithin_18 (i := 3) rfl (j := 3) rfl ?_
    refine g_bipush (v := 30) hX dX0_ignoreWithin_19 (by decide) ?_
    refine g_icmp_ge (tgt := 56) hX dX0_ignoreWithin_21 (by decide) (fun c21 => ?_) (fun c21 => ?_)
    · have hF := ite_t hF c21
      refine g_iinc (L' := [(2, .int (x2 + 1)), (0, .ref (b + p0)), (1, .int x1), (3, .int x3)]) (j := 2) hX dX0_ignoreWithin_56 rfl rfl (by decide) rfl ?_
      refine g_goto (tgt := 4) hX dX0_ignoreWithin_59 (by decide) ?_
      refine g_sub (L' := [(0, .ref (b + p0)), (1, .int x1), (2, .int (x2 + 1))]) [1, 2, 0] rfl ?_
      exact hk4 h x1 (x2 + 1) hF
    · have hF := ite_f hF c21
      refine g_aload_n hX dX0_ignoreWithin_24 (i := 0) rfl (j := 0) rfl ?_
      have tf25 := (tyF (k := 1) hW t0 (by decide) rfl (by decide) : KA (r p0 1) = 10 ∧ ok (r p0 1))
      refine gf_X0_9 hX dX0_ignoreWithin_25 (ty1 hW t0) (hW.1 _ tf25.2).1 ?_
      refine g_iload_n hX dX0_ignoreWithin_28 (i := 3) rfl (j := 3) rfl ?_
      obtain ⟨g29, hF⟩ := gd_some hF
      refine g_bald hX dX0_ignoreWithin_29 tf25.1 (hW.1 _ tf25.2).1 (hW.1 _ tf25.2).2 g29 ?_
      refine g_if_ne (tgt := 50) hX dX0_ignoreWithin_30 (by decide) (fun c30 => ?_) (fun c30 => ?_)
      · have hF := ite_t hF c30
        refine g_sub (L' := [(0, .ref (b + p0)), (1, .int x1), (2, .int x2), (3, .int x3)]) [0, 1, 2, 3] rfl ?_
        exact kX0_ignoreWithin_b50 hX hM hW hA p0 t0 hR k4 hk4 (fun h_ z1_ z2_ z3_ => fX0_ignoreWithin_b18 r p0 k4 n h_ z1_ z2_ z3_) ih h x1 x2 x3 hF
      · have hF := ite_f hF (fun z => z c30)
        refine g_aload_n hX dX0_ignoreWithin_33 (i := 0) rfl (j := 0) rfl ?_
        refine g_iload_n hX dX0_ignoreWithin_34 (i := 3) rfl (j := 3) rfl ?_
        obtain ⟨v35, e35, hF⟩ := bi_some hF
        refine g_callV (As := [.int x3]) (rest := []) (stk := [.int v35]) hX dX0_ignoreWithin_35 (ctX0_standsInIgnored hM hW hA p0 x3 t0 e35) (by decide) (by decide) wm_X0_65 wi_X0_standsInIgnored ws_X0_standsInIgnored wz_X0 wc_X0_standsInIgnored hyX0_standsInIgnored rfl (ci := 0) rfl (by decide) t0.1 (hW.1 _ t0.2).1 (hW.1 _ t0.2).2 (Nat.le_of_ble_eq_true rfl) rfl rfl ?_ rfl rfl
        refine g_if_eq (tgt := 50) hX dX0_ignoreWithin_38 (by decide) (fun c38 => ?_) (fun c38 => ?_)
        · have hF := ite_t hF c38
          refine g_sub (L' := [(0, .ref (b + p0)), (1, .int x1), (2, .int x2), (3, .int x3)]) [0, 1, 2, 3] rfl ?_
          exact kX0_ignoreWithin_b50 hX hM hW hA p0 t0 hR k4 hk4 (fun h_ z1_ z2_ z3_ => fX0_ignoreWithin_b18 r p0 k4 n h_ z1_ z2_ z3_) ih h x1 x2 x3 hF
        · have hF := ite_f hF c38
          refine g_aload_n hX dX0_ignoreWithin_41 (i := 0) rfl (j := 0) rfl ?_
          have tf42 := (tyF (k := 1) hW t0 (by decide) rfl (by decide) : KA (r p0 1) = 10 ∧ ok (r p0 1))
          refine gf_X0_9 hX dX0_ignoreWithin_42 (ty1 hW t0) (hW.1 _ tf42.2).1 ?_
          refine g_iload_n hX dX0_ignoreWithin_45 (i := 3) rfl (j := 3) rfl ?_
          refine g_iconst (v := 1) hX dX0_ignoreWithin_46 (by decide) ?_
          obtain ⟨g47, hF⟩ := gd_some hF
          obtain ⟨h47, e47, hF⟩ := lt_some hF
          refine g_bast hX dX0_ignoreWithin_47 tf42.1 (hW.1 _ tf42.2).1 (hW.1 _ tf42.2).2 hM g47 e47 ?_
          refine g_iconst (v := 1) hX dX0_ignoreWithin_48 (by decide) ?_
          refine g_istore_n (L' := [(1, .int 1), (0, .ref (b + p0)), (2, .int x2), (3, .int x3)]) hX dX0_ignoreWithin_49 (i := 1) rfl (by decide) rfl ?_
          refine g_sub (L' := [(0, .ref (b + p0)), (1, .int 1), (2, .int x2), (3, .int x3)]) [1, 0, 2, 3] rfl ?_
          exact kX0_ignoreWithin_b50 hX hM hW hA p0 t0 hR k4 hk4 (fun h_ z1_ z2_ z3_ => fX0_ignoreWithin_b18 r p0 k4 n h_ z1_ z2_ z3_) ih h47 1 x2 x3 hF
set_option maxRecDepth 100000 in
set_option maxHeartbeats 4000000 in
theorem kX0_ignoreWithin_b4 {X : XT} {b N sz : Nat} {ok : Nat → Prop} {r : RR} {w : HH} (hX : XOK X RX0 cX0_ignoreWithin 4 2) (hM : N ≤ MA) (hW : WT KA lnA ok N r) (hA : ∀ p, KA p < 16 → ok p) (p0 : Nat) (t0 : KA p0 = 0 ∧ ok p0) (hR : XR X b KA lnA MA (none) 0 0 N sz none w r) : ∀ (n : Nat) (h : HH) (x1 : Int32) (x2 : Int32), fX0_ignoreWithin_b4 r p0 n h x1 x2 = some w → GX X b KA lnA MA 4 0 0 N sz 4 [(0, .ref (b + p0)), (1, .int x1), (2, .int x2)] [] h r := by
  intro n
  induction n with
  | zero =>
    intro h x1 x2 hF
    cases hF
  | succ n ih =>
    intro h x1 x2 hF
    rw [fX0_ignoreWithin_b4] at hF
    refine g_iload_n hX dX0_ignoreWithin_4 (i := 2) rfl (j := 2) rfl ?_
    refine g_bipush (v := 30) hX dX0_ignoreWithin_5 (by decide) ?_
    refine g_icmp_ge (tgt := 62) hX dX0_ignoreWithin_7 (by decide) (fun c7 => ?_) (fun c7 => ?_)
    · have hF := ite_t hF c7
      obtain rfl := Option.some.inj hF
      exact g_vret hX dX0_ignoreWithin_62 hR
    · have hF := ite_f hF c7
      refine g_iload_n hX dX0_ignoreWithin_10 (i := 1) rfl (j := 1) rfl ?_
      refine g_if_eq (tgt := 62) hX dX0_ignoreWithin_11 (by decide) (fun c11 => ?_) (fun c11 => ?_)
      · have hF := ite_t hF c11
        obtain rfl := Option.some.inj hF
        exact g_vret hX dX0_ignoreWithin_62 hR
      · have hF := ite_f hF c11
        refine g_iconst (v := 0) hX dX0_ignoreWithin_14 (by decide) ?_
        refine g_istore_n (L' := [(1, .int 0), (0, .ref (b + p0)), (2, .int x2)]) hX dX0_ignoreWithin_15 (i := 1) rfl (by decide) rfl ?_
        refine g_iconst (v := 0) hX dX0_ignoreWithin_16 (by decide) ?_
        refine g_istore_n (L' := [(3, .int 0), (1, .int 0), (0, .ref (b + p0)), (2, .int x2)]) hX dX0_ignoreWithin_17 (i := 3) rfl (by decide) rfl ?_
        refine g_sub (L' := [(0, .ref (b + p0)), (1, .int 0), (2, .int x2), (3, .int 0)]) [2, 1, 3, 0] rfl ?_
        exact kX0_ignoreWithin_b18 hX hM hW hA p0 t0 hR (fun h_ z1_ z2_ => fX0_ignoreWithin_b4 r p0 n h_ z1_ z2_) ih lpF h 0 x2 0 hF
set_option maxRecDepth 100000 in
set_option maxHeartbeats 4000000 in
theorem kX0_ignoreWithin {X : XT} {b N sz : Nat} {ok : Nat → Prop} {h : HH} {r : RR} {w : HH} (hX : XOK X RX0 cX0_ignoreWithin 4 2) (hM : N ≤ MA) (hW : WT KA lnA ok N r) (hA : ∀ p, KA p < 16 → ok p) (p0 : Nat) (t0 : KA p0 = 0 ∧ ok p0) (hR : XR X b KA lnA MA (none) 0 0 N sz none w r) (hF : fX0_ignoreWithin h r p0 = some w) : GX X b KA lnA MA 4 0 0 N sz 0 [(0, .ref (b + p0))] [] h r := by
  rw [fX0_ignoreWithin] at hF
  refine g_iconst (v := 1) hX dX0_ignoreWithin_0 (by decide) ?_
  refine g_istore_n (L' := [(1, .int 1), (0, .ref (b + p0))]) hX dX0_ignoreWithin_1 (i := 1) rfl (by decide) rfl ?_
  refine g_iconst (v := 0) hX dX0_ignoreWithin_2 (by decide) ?_
  refine g_istore_n (L' := [(2, .int 0), (1, .int 1), (0, .ref (b + p0))]) hX dX0_ignoreWithin_3 (i := 2) rfl (by decide) rfl ?_
  refine g_sub (L' := [(0, .ref (b + p0)), (1, .int 1), (2, .int 0)]) [2, 1, 0] rfl ?_
  exact kX0_ignoreWithin_b4 hX hM hW hA p0 t0 hR lpF h 1 0 hF
theorem ctX0_ignoreWithin {b N sz : Nat} {ok : Nat → Prop} {h : HH} {r : RR} {w : HH} (hM : N ≤ MA) (hW : WT KA lnA ok N r) (hA : ∀ p, KA p < 16 → ok p) (p0 : Nat) (t0 : KA p0 = 0 ∧ ok p0) (hF : fX0_ignoreWithin h r p0 = some w) : CT yX0_ignoreWithin cX0_ignoreWithin 4 (none) 2 b KA lnA MA N sz [.ref (b + p0)] h r N sz none w r 0 0 :=
  CT_of (by decide) rfl (Nat.le_of_ble_eq_true rfl) (by decide) trivial (fun X hX hR => kX0_ignoreWithin hX hM hW hA p0 t0 hR hF)
/-! X5_placesAsIn -/
def fX5_placesAsIn_b34 (h : HH) (r : RR) (p0 : Nat) (p1 : Nat) (a2 : Int32) : Option (Int32) := some (0)
def fX5_placesAsIn (h : HH) (r : RR) (p0 : Nat) (p1 : Nat) (a2 : Int32) : Option (Int32) := gd (inb a2 (lnA (r p0 1))) (gd (inb a2 (lnA (r p1 1))) (if ¬ (h (r p0 1) (ix a2)) = (h (r p1 1) (ix a2)) then (fX5_placesAsIn_b34 h r p0 p1 a2) else (gd (inb a2 (lnA (r p0 2))) (gd (inb a2 (lnA (r p1 2))) (if ¬ (h (r p0 2) (ix a2)) = (h (r p1 2) (ix a2)) then (fX5_placesAsIn_b34 h r p0 p1 a2) else (some (1)))))))
set_option maxRecDepth 100000 in
set_option maxHeartbeats 4000000 in
theorem kX5_placesAsIn_b34 {X : XT} {b N sz : Nat} {ok : Nat → Prop} {h : HH} {r : RR} {w : Int32} (hX : XOK X RX5 cX5_placesAsIn 3 1) (hM : N ≤ MA) (hW : WT KA lnA ok N r) (p0 : Nat) (p1 : Nat) (a2 : Int32) (t0 : KA p0 = 5 ∧ ok p0) (t1 : KA p1 = 5 ∧ ok p1) (hR : XR X b KA lnA MA (some FieldType.boolean) 0 0 N sz (some (.int w)) h r) (hF : fX5_placesAsIn_b34 h r p0 p1 a2 = some w) : GX X b KA lnA MA 3 0 0 N sz 34 [(0, .ref (b + p0)), (1, .ref (b + p1)), (2, .int a2)] [] h r := by
  rw [fX5_placesAsIn_b34] at hF
  refine g_iconst (v := 0) hX dX5_placesAsIn_34 (by decide) ?_
  obtain rfl := Option.some.inj hF
  exact g_zret hX dX5_placesAsIn_35 (by decide) hR
set_option maxRecDepth 100000 in
set_option maxHeartbeats 4000000 in
theorem kX5_placesAsIn {X : XT} {b N sz : Nat} {ok : Nat → Prop} {h : HH} {r : RR} {w : Int32} (hX : XOK X RX5 cX5_placesAsIn 3 1) (hM : N ≤ MA) (hW : WT KA lnA ok N r) (p0 : Nat) (p1 : Nat) (a2 : Int32) (t0 : KA p0 = 5 ∧ ok p0) (t1 : KA p1 = 5 ∧ ok p1) (hR : XR X b KA lnA MA (some FieldType.boolean) 0 0 N sz (some (.int w)) h r) (hF : fX5_placesAsIn h r p0 p1 a2 = some w) : GX X b KA lnA MA 3 0 0 N sz 0 [(0, .ref (b + p0)), (1, .ref (b + p1)), (2, .int a2)] [] h r := by
  rw [fX5_placesAsIn] at hF
  refine g_aload_n hX dX5_placesAsIn_0 (i := 0) rfl (j := 0) rfl ?_
  have tf1 := (tyF (k := 1) hW t0 (by decide) rfl (by decide) : KA (r p0 1) = 9 ∧ ok (r p0 1))
  refine gf_X5_15 hX dX5_placesAsIn_1 (ty1 hW t0) (hW.1 _ tf1.2).1 ?_
  refine g_iload_n hX dX5_placesAsIn_4 (i := 2) rfl (j := 2) rfl ?_
  obtain ⟨g5, hF⟩ := gd_some hF
  refine g_iald hX dX5_placesAsIn_5 tf1.1 (hW.1 _ tf1.2).1 (hW.1 _ tf1.2).2 g5 ?_
  refine g_aload_n hX dX5_placesAsIn_6 (i := 1) rfl (j := 1) rfl ?_
  have tf7 := (tyF (k := 1) hW t1 (by decide) rfl (by decide) : KA (r p1 1) = 9 ∧ ok (r p1 1))
  refine gf_X5_15 hX dX5_placesAsIn_7 (ty1 hW t1) (hW.1 _ tf7.2).1 ?_
  refine g_iload_n hX dX5_placesAsIn_10 (i := 2) rfl (j := 2) rfl ?_
  obtain ⟨g11, hF⟩ := gd_some hF
  refine g_iald hX dX5_placesAsIn_11 tf7.1 (hW.1 _ tf7.2).1 (hW.1 _ tf7.2).2 g11 ?_
  refine g_icmp_ne (tgt := 34) hX dX5_placesAsIn_12 (by decide) (fun c12 => ?_) (fun c12 => ?_)
  · have hF := ite_t hF c12
    refine g_sub (L' := [(0, .ref (b + p0)), (1, .ref (b + p1)), (2, .int a2)]) [0, 1, 2] rfl ?_
    exact kX5_placesAsIn_b34 hX hM hW p0 p1 a2 t0 t1 hR hF
  · have hF := ite_f hF (fun z => z c12)
    refine g_aload_n hX dX5_placesAsIn_15 (i := 0) rfl (j := 0) rfl ?_
    have tf16 := (tyF (k := 2) hW t0 (by decide) rfl (by decide) : KA (r p0 2) = 9 ∧ ok (r p0 2))
    refine gf_X5_19 hX dX5_placesAsIn_16 (ty1 hW t0) (hW.1 _ tf16.2).1 ?_
    refine g_iload_n hX dX5_placesAsIn_19 (i := 2) rfl (j := 2) rfl ?_
    obtain ⟨g20, hF⟩ := gd_some hF
    refine g_iald hX dX5_placesAsIn_20 tf16.1 (hW.1 _ tf16.2).1 (hW.1 _ tf16.2).2 g20 ?_
    refine g_aload_n hX dX5_placesAsIn_21 (i := 1) rfl (j := 1) rfl ?_
    have tf22 := (tyF (k := 2) hW t1 (by decide) rfl (by decide) : KA (r p1 2) = 9 ∧ ok (r p1 2))
    refine gf_X5_19 hX dX5_placesAsIn_22 (ty1 hW t1) (hW.1 _ tf22.2).1 ?_
    refine g_iload_n hX dX5_placesAsIn_25 (i := 2) rfl (j := 2) rfl ?_
    obtain ⟨g26, hF⟩ := gd_some hF
    refine g_iald hX dX5_placesAsIn_26 tf22.1 (hW.1 _ tf22.2).1 (hW.1 _ tf22.2).2 g26 ?_
    refine g_icmp_ne (tgt := 34) hX dX5_placesAsIn_27 (by decide) (fun c27 => ?_) (fun c27 => ?_)
    · have hF := ite_t hF c27
      refine g_sub (L' := [(0, .ref (b + p0)), (1, .ref (b + p1)), (2, .int a2)]) [0, 1, 2] rfl ?_
      exact kX5_placesAsIn_b34 hX hM hW p0 p1 a2 t0 t1 hR hF
    · have hF := ite_f hF (fun z => z c27)
      refine g_iconst (v := 1) hX dX5_placesAsIn_30 (by decide) ?_
      refine g_goto (tgt := 35) hX dX5_placesAsIn_31 (by decide) ?_
      obtain rfl := Option.some.inj hF
      exact g_zret hX dX5_placesAsIn_35 (by decide) hR
theorem ctX5_placesAsIn {b N sz : Nat} {ok : Nat → Prop} {h : HH} {r : RR} {w : Int32} (hM : N ≤ MA) (hW : WT KA lnA ok N r) (p0 : Nat) (p1 : Nat) (a2 : Int32) (t0 : KA p0 = 5 ∧ ok p0) (t1 : KA p1 = 5 ∧ ok p1) (hF : fX5_placesAsIn h r p0 p1 a2 = some w) : CT yX5_placesAsIn cX5_placesAsIn 3 (some FieldType.boolean) 1 b KA lnA MA N sz [.ref (b + p0), .ref (b + p1), .int a2] h r N sz (some (.int w)) h r 0 0 :=
  CT_of (by decide) rfl (Nat.le_of_ble_eq_true rfl) (by decide) trivial (fun X hX hR => kX5_placesAsIn hX hM hW p0 p1 a2 t0 t1 hR hF)
/-! X5_holdsAsIn -/
def fX5_holdsAsIn (h : HH) (r : RR) (p0 : Nat) (p1 : Nat) (a2 : Int32) : Option (Int32) := gd (inb a2 (lnA (r p0 3))) (gd (inb a2 (lnA (r p1 3))) (if ¬ (h (r p0 3) (ix a2)) = (h (r p1 3) (ix a2)) then (some (0)) else (some (1))))
set_option maxRecDepth 100000 in
set_option maxHeartbeats 4000000 in
theorem kX5_holdsAsIn {X : XT} {b N sz : Nat} {ok : Nat → Prop} {h : HH} {r : RR} {w : Int32} (hX : XOK X RX5 cX5_holdsAsIn 3 1) (hM : N ≤ MA) (hW : WT KA lnA ok N r) (p0 : Nat) (p1 : Nat) (a2 : Int32) (t0 : KA p0 = 5 ∧ ok p0) (t1 : KA p1 = 5 ∧ ok p1) (hR : XR X b KA lnA MA (some FieldType.boolean) 0 0 N sz (some (.int w)) h r) (hF : fX5_holdsAsIn h r p0 p1 a2 = some w) : GX X b KA lnA MA 3 0 0 N sz 0 [(0, .ref (b + p0)), (1, .ref (b + p1)), (2, .int a2)] [] h r := by
  rw [fX5_holdsAsIn] at hF
  refine g_aload_n hX dX5_holdsAsIn_0 (i := 0) rfl (j := 0) rfl ?_
  have tf1 := (tyF (k := 3) hW t0 (by decide) rfl (by decide) : KA (r p0 3) = 9 ∧ ok (r p0 3))
  refine gf_X5_22 hX dX5_holdsAsIn_1 (ty1 hW t0) (hW.1 _ tf1.2).1 ?_
  refine g_iload_n hX dX5_holdsAsIn_4 (i := 2) rfl (j := 2) rfl ?_
  obtain ⟨g5, hF⟩ := gd_some hF
  refine g_iald hX dX5_holdsAsIn_5 tf1.1 (hW.1 _ tf1.2).1 (hW.1 _ tf1.2).2 g5 ?_
  refine g_aload_n hX dX5_holdsAsIn_6 (i := 1) rfl (j := 1) rfl ?_
  have tf7 := (tyF (k := 3) hW t1 (by decide) rfl (by decide) : KA (r p1 3) = 9 ∧ ok (r p1 3))
  refine gf_X5_22 hX dX5_holdsAsIn_7 (ty1 hW t1) (hW.1 _ tf7.2).1 ?_
  refine g_iload_n hX dX5_holdsAsIn_10 (i := 2) rfl (j := 2) rfl ?_
  obtain ⟨g11, hF⟩ := gd_some hF
  refine g_iald hX dX5_holdsAsIn_11 tf7.1 (hW.1 _ tf7.2).1 (hW.1 _ tf7.2).2 g11 ?_
  refine g_icmp_ne (tgt := 19) hX dX5_holdsAsIn_12 (by decide) (fun c12 => ?_) (fun c12 => ?_)
  · have hF := ite_t hF c12
    refine g_iconst (v := 0) hX dX5_holdsAsIn_19 (by decide) ?_
    obtain rfl := Option.some.inj hF
    exact g_zret hX dX5_holdsAsIn_20 (by decide) hR
  · have hF := ite_f hF (fun z => z c12)
    refine g_iconst (v := 1) hX dX5_holdsAsIn_15 (by decide) ?_
    refine g_goto (tgt := 20) hX dX5_holdsAsIn_16 (by decide) ?_
    obtain rfl := Option.some.inj hF
    exact g_zret hX dX5_holdsAsIn_20 (by decide) hR
theorem ctX5_holdsAsIn {b N sz : Nat} {ok : Nat → Prop} {h : HH} {r : RR} {w : Int32} (hM : N ≤ MA) (hW : WT KA lnA ok N r) (p0 : Nat) (p1 : Nat) (a2 : Int32) (t0 : KA p0 = 5 ∧ ok p0) (t1 : KA p1 = 5 ∧ ok p1) (hF : fX5_holdsAsIn h r p0 p1 a2 = some w) : CT yX5_holdsAsIn cX5_holdsAsIn 3 (some FieldType.boolean) 1 b KA lnA MA N sz [.ref (b + p0), .ref (b + p1), .int a2] h r N sz (some (.int w)) h r 0 0 :=
  CT_of (by decide) rfl (Nat.le_of_ble_eq_true rfl) (by decide) trivial (fun X hX hR => kX5_holdsAsIn hX hM hW p0 p1 a2 t0 t1 hR hF)
/-! X0_changeOf -/
def fX0_changeOf_b56 (h : HH) (r : RR) (p0 : Nat) (p1 : Nat) (a2 : Int32) (s0 : Int32) (q3 : Nat) : Option (Int32) := (fX5_holdsAsIn h r p1 q3 a2).bind (fun v61 => if v61 = 0 then (some (s0 ||| 8)) else (some (s0)))
def fX0_changeOf (h : HH) (r : RR) (p0 : Nat) (p1 : Nat) (a2 : Int32) : Option (Int32) := gwd (h p0 0) (fun q_1 => gd (inb 2 (lnA (r q_1 2))) ((fX5_has h r (r (r q_1 2) (ix 2)) a2).bind (fun v12 => if ¬ v12 = 0 then ((fX5_has h r p1 a2).bind (fun v34 => if ¬ v34 = 0 then ((fX5_placesAsIn h r p1 (r (r q_1 2) (ix 2)) a2).bind (fun v45 => if v45 = 0 then (fX0_changeOf_b56 h r p0 p1 a2 4 (r (r q_1 2) (ix 2))) else (fX0_changeOf_b56 h r p0 p1 a2 0 (r (r q_1 2) (ix 2))))) else (some (2)))) else ((fX5_has h r p1 a2).bind (fun v20 => if v20 = 0 then (some (0)) else (some (1)))))))
set_option maxRecDepth 100000 in
set_option maxHeartbeats 4000000 in
theorem kX0_changeOf_b56 {X : XT} {b N sz : Nat} {ok : Nat → Prop} {h : HH} {r : RR} {w : Int32} (hX : XOK X RX0 cX0_changeOf 5 2) (hM : N ≤ MA) (hW : WT KA lnA ok N r) (hA : ∀ p, KA p < 16 → ok p) (p0 : Nat) (p1 : Nat) (a2 : Int32) (t0 : KA p0 = 0 ∧ ok p0) (t1 : KA p1 = 5 ∧ ok p1) (hR : XR X b KA lnA MA (some FieldType.int) 0 0 N sz (some (.int w)) h r) (s0 : Int32) (q3 : Nat) (t3 : KA q3 = 5 ∧ ok q3) (hF : fX0_changeOf_b56 h r p0 p1 a2 s0 q3 = some w) : GX X b KA lnA MA 5 0 0 N sz 56 [(0, .ref (b + p0)), (1, .ref (b + p1)), (2, .int a2), (3, .ref (b + q3))] [.int s0] h r := by
  rw [fX0_changeOf_b56] at hF
  refine g_istore (L' := [(4, .int s0), (0, .ref (b + p0)), (1, .ref (b + p1)), (2, .int a2), (3, .ref (b + q3))]) hX dX0_changeOf_56 (by decide) rfl ?_
  refine g_aload_n hX dX0_changeOf_58 (i := 1) rfl (j := 2) rfl ?_
  refine g_aload_n hX dX0_changeOf_59 (i := 3) rfl (j := 4) rfl ?_
  refine g_iload_n hX dX0_changeOf_60 (i := 2) rfl (j := 3) rfl ?_
  obtain ⟨v61, e61, hF⟩ := bi_some hF
  refine g_callV (As := [.ref (b + q3), .int a2]) (rest := []) (stk := [.int v61]) hX dX0_changeOf_61 (ctX5_holdsAsIn hM hW p1 q3 a2 t1 t3 e61) (by decide) (by decide) wm_X0_79 wi_X5_holdsAsIn ws_X5_holdsAsIn wz_X5 wc_X5_holdsAsIn hyX5_holdsAsIn rfl (ci := 5) rfl (by decide) t1.1 (hW.1 _ t1.2).1 (hW.1 _ t1.2).2 (Nat.le_of_ble_eq_true rfl) rfl rfl ?_ rfl rfl
  refine g_if_eq (tgt := 72) hX dX0_changeOf_64 (by decide) (fun c64 => ?_) (fun c64 => ?_)
  · have hF := ite_t hF c64
    refine g_iload hX dX0_changeOf_72 (j := 0) rfl ?_
    refine g_bipush (v := 8) hX dX0_changeOf_74 (by decide) ?_
    refine g_ior hX dX0_changeOf_76 ?_
    obtain rfl := Option.some.inj hF
    exact g_iret hX dX0_changeOf_77 hR
  · have hF := ite_f hF c64
    refine g_iload hX dX0_changeOf_67 (j := 0) rfl ?_
    refine g_goto (tgt := 77) hX dX0_changeOf_69 (by decide) ?_
    obtain rfl := Option.some.inj hF
    exact g_iret hX dX0_changeOf_77 hR
set_option maxRecDepth 100000 in
set_option maxHeartbeats 4000000 in
theorem kX0_changeOf {X : XT} {b N sz : Nat} {ok : Nat → Prop} {h : HH} {r : RR} {w : Int32} (hX : XOK X RX0 cX0_changeOf 5 2) (hM : N ≤ MA) (hW : WT KA lnA ok N r) (hA : ∀ p, KA p < 16 → ok p) (p0 : Nat) (p1 : Nat) (a2 : Int32) (t0 : KA p0 = 0 ∧ ok p0) (t1 : KA p1 = 5 ∧ ok p1) (hR : XR X b KA lnA MA (some FieldType.int) 0 0 N sz (some (.int w)) h r) (hF : fX0_changeOf h r p0 p1 a2 = some w) : GX X b KA lnA MA 5 0 0 N sz 0 [(0, .ref (b + p0)), (1, .ref (b + p1)), (2, .int a2)] [] h r := by
  rw [fX0_changeOf] at hF
  refine g_aload_n hX dX0_changeOf_0 (i := 0) rfl (j := 0) rfl ?_
  obtain ⟨q_1, w1, z1, hF⟩ := gwd_some hF
  have tw1 := ty_w hA z1
  refine gw_X0_44 hX dX0_changeOf_1 (ty1 hW t0) w1 (hW.1 _ tw1.2).1 ?_
  have tf4 := (tyF (k := 2) hW tw1 (by decide) rfl (by decide) : KA (r q_1 2) = 13 ∧ ok (r q_1 2))
  refine gf_X0_57 hX dX0_changeOf_4 (ty1 hW tw1) (hW.1 _ tf4.2).1 ?_
  refine g_iconst (v := 2) hX dX0_changeOf_7 (by decide) ?_
  obtain ⟨g8, hF⟩ := gd_some hF
  have ta8 : KA (r (r q_1 2) (ix 2)) = 5 ∧ ok (r (r q_1 2) (ix 2)) := tyA hW tf4 (by decide) rfl (by decide) g8
  refine g_aald hX dX0_changeOf_8 tf4.1 (by decide) (by decide) (hW.1 _ tf4.2).1 (hW.1 _ tf4.2).2 g8 (hW.1 _ ta8.2).1 ?_
  refine g_astore_n (L' := [(3, .ref (b + (r (r q_1 2) (ix 2)))), (0, .ref (b + p0)), (1, .ref (b + p1)), (2, .int a2)]) hX dX0_changeOf_9 (i := 3) rfl (by decide) rfl ?_
  refine g_aload_n hX dX0_changeOf_10 (i := 3) rfl (j := 0) rfl ?_
  refine g_iload_n hX dX0_changeOf_11 (i := 2) rfl (j := 3) rfl ?_
  obtain ⟨v12, e12, hF⟩ := bi_some hF
  refine g_callV (As := [.int a2]) (rest := []) (stk := [.int v12]) hX dX0_changeOf_12 (ctX5_has hM hW (r (r q_1 2) (ix 2)) a2 ta8 e12) (by decide) (by decide) wm_X0_72 wi_X5_has ws_X5_has wz_X5 wc_X5_has hyX5_has rfl (ci := 5) rfl (by decide) ta8.1 (hW.1 _ ta8.2).1 (hW.1 _ ta8.2).2 (Nat.le_of_ble_eq_true rfl) rfl rfl ?_ rfl rfl
  refine g_if_ne (tgt := 32) hX dX0_changeOf_15 (by decide) (fun c15 => ?_) (fun c15 => ?_)
  · have hF := ite_t hF c15
    refine g_aload_n hX dX0_changeOf_32 (i := 1) rfl (j := 2) rfl ?_
    refine g_iload_n hX dX0_changeOf_33 (i := 2) rfl (j := 3) rfl ?_
    obtain ⟨v34, e34, hF⟩ := bi_some hF
    refine g_callV (As := [.int a2]) (rest := []) (stk := [.int v34]) hX dX0_changeOf_34 (ctX5_has hM hW p1 a2 t1 e34) (by decide) (by decide) wm_X0_72 wi_X5_has ws_X5_has wz_X5 wc_X5_has hyX5_has rfl (ci := 5) rfl (by decide) t1.1 (hW.1 _ t1.2).1 (hW.1 _ t1.2).2 (Nat.le_of_ble_eq_true rfl) rfl rfl ?_ rfl rfl
    refine g_if_ne (tgt := 42) hX dX0_changeOf_37 (by decide) (fun c37 => ?_) (fun c37 => ?_)
    · have hF := ite_t hF c37
      refine g_aload_n hX dX0_changeOf_42 (i := 1) rfl (j := 2) rfl ?_
      refine g_aload_n hX dX0_changeOf_43 (i := 3) rfl (j := 0) rfl ?_
      refine g_iload_n hX dX0_changeOf_44 (i := 2) rfl (j := 3) rfl ?_
      obtain ⟨v45, e45, hF⟩ := bi_some hF
      refine g_callV (As := [.ref (b + (r (r q_1 2) (ix 2))), .int a2]) (rest := []) (stk := [.int v45]) hX dX0_changeOf_45 (ctX5_placesAsIn hM hW p1 (r (r q_1 2) (ix 2)) a2 t1 ta8 e45) (by decide) (by decide) wm_X0_75 wi_X5_placesAsIn ws_X5_placesAsIn wz_X5 wc_X5_placesAsIn hyX5_placesAsIn rfl (ci := 5) rfl (by decide) t1.1 (hW.1 _ t1.2).1 (hW.1 _ t1.2).2 (Nat.le_of_ble_eq_true rfl) rfl rfl ?_ rfl rfl
      refine g_if_eq (tgt := 55) hX dX0_changeOf_48 (by decide) (fun c48 => ?_) (fun c48 => ?_)
      · have hF := ite_t hF c48
        refine g_iconst (v := 4) hX dX0_changeOf_55 (by decide) ?_
        refine g_sub (L' := [(0, .ref (b + p0)), (1, .ref (b + p1)), (2, .int a2), (3, .ref (b + (r (r q_1 2) (ix 2))))]) [1, 2, 3, 0] rfl ?_
        exact kX0_changeOf_b56 hX hM hW hA p0 p1 a2 t0 t1 hR 4 (r (r q_1 2) (ix 2)) ta8 hF
      · have hF := ite_f hF c48
        refine g_iconst (v := 0) hX dX0_changeOf_51 (by decide) ?_
        refine g_goto (tgt := 56) hX dX0_changeOf_52 (by decide) ?_
        refine g_sub (L' := [(0, .ref (b + p0)), (1, .ref (b + p1)), (2, .int a2), (3, .ref (b + (r (r q_1 2) (ix 2))))]) [1, 2, 3, 0] rfl ?_
        exact kX0_changeOf_b56 hX hM hW hA p0 p1 a2 t0 t1 hR 0 (r (r q_1 2) (ix 2)) ta8 hF
    · have hF := ite_f hF (fun z => z c37)
      refine g_iconst (v := 2) hX dX0_changeOf_40 (by decide) ?_
      obtain rfl := Option.some.inj hF
      exact g_iret hX dX0_changeOf_41 hR
  · have hF := ite_f hF (fun z => z c15)
    refine g_aload_n hX dX0_changeOf_18 (i := 1) rfl (j := 2) rfl ?_
    refine g_iload_n hX dX0_changeOf_19 (i := 2) rfl (j := 3) rfl ?_
    obtain ⟨v20, e20, hF⟩ := bi_some hF
    refine g_callV (As := [.int a2]) (rest := []) (stk := [.int v20]) hX dX0_changeOf_20 (ctX5_has hM hW p1 a2 t1 e20) (by decide) (by decide) wm_X0_72 wi_X5_has ws_X5_has wz_X5 wc_X5_has hyX5_has rfl (ci := 5) rfl (by decide) t1.1 (hW.1 _ t1.2).1 (hW.1 _ t1.2).2 (Nat.le_of_ble_eq_true rfl) rfl rfl ?_ rfl rfl
    refine g_if_eq (tgt := 30) hX dX0_changeOf_23 (by decide) (fun c23 => ?_) (fun c23 => ?_)
    · have hF := ite_t hF c23
      refine g_iconst (v := 0) hX dX0_changeOf_30 (by decide) ?_
      obtain rfl := Option.some.inj hF
      exact g_iret hX dX0_changeOf_31 hR
    · have hF := ite_f hF c23
      refine g_iconst (v := 1) hX dX0_changeOf_26 (by decide) ?_
      refine g_goto (tgt := 31) hX dX0_changeOf_27 (by decide) ?_
      obtain rfl := Option.some.inj hF
      exact g_iret hX dX0_changeOf_31 hR
theorem ctX0_changeOf {b N sz : Nat} {ok : Nat → Prop} {h : HH} {r : RR} {w : Int32} (hM : N ≤ MA) (hW : WT KA lnA ok N r) (hA : ∀ p, KA p < 16 → ok p) (p0 : Nat) (p1 : Nat) (a2 : Int32) (t0 : KA p0 = 0 ∧ ok p0) (t1 : KA p1 = 5 ∧ ok p1) (hF : fX0_changeOf h r p0 p1 a2 = some w) : CT yX0_changeOf cX0_changeOf 5 (some FieldType.int) 2 b KA lnA MA N sz [.ref (b + p0), .ref (b + p1), .int a2] h r N sz (some (.int w)) h r 0 0 :=
  CT_of (by decide) rfl (Nat.le_of_ble_eq_true rfl) (by decide) trivial (fun X hX hR => kX0_changeOf hX hM hW hA p0 p1 a2 t0 t1 hR hF)
/-! X0_compare -/
def fX0_compare_b59 (r : RR) (p0 : Nat) (p1 : Nat) (k7 : HH → Int32 → Option (HH)) (h : HH) (u0 : Nat) (s1 : Int32) (s2 : Int32) (x2 : Int32) : Option (HH) := gd (inb s1 (lnA u0)) (lt (up h u0 (ix s1) (zn s2)) (fun h59 => k7 h59 (x2 + 1)))
def fX0_compare_b54 (r : RR) (p0 : Nat) (p1 : Nat) (k7 : HH → Int32 → Option (HH)) (h : HH) (u0 : Nat) (s1 : Int32) (x2 : Int32) : Option (HH) := fX0_compare_b59 r p0 p1 k7 h u0 s1 1 x2
def fX0_compare_b147 (r : RR) (p0 : Nat) (p1 : Nat) (k72 : HH → Int32 → Option (HH)) (h : HH) (u0 : Nat) (s1 : Int32) (s2 : Int32) (x2 : Int32) : Option (HH) := gd (inb s1 (lnA u0)) (lt (up h u0 (ix s1) s2) (fun h147 => k72 h147 (x2 + 1)))
def fX0_compare_b112 (r : RR) (p0 : Nat) (p1 : Nat) (k72 : HH → Int32 → Option (HH)) (h : HH) (u0 : Nat) (s1 : Int32) (s2 : Int32) (x2 : Int32) : Option (HH) := gd (inb s1 (lnA u0)) (lt (up h u0 (ix s1) s2) (fun h112 => gd (inb 1 (lnA (r p0 2))) (gd (inb x2 (lnA (r p0 1))) (if (h112 (r p0 1) (ix x2)) = 0 then (gwd (h112 p0 0) (fun q_135 => gd (inb 1 (lnA (r q_135 2))) ((fX0_changeOf h112 r p0 (r (r q_135 2) (ix 1)) x2).bind (fun v144 => fX0_compare_b147 r p0 p1 k72 h112 (r (r p0 2) (ix 1)) x2 v144 x2)))) else (fX0_compare_b147 r p0 p1 k72 h112 (r (r p0 2) (ix 1)) x2 0 x2)))))
def fX0_compare_b72 (r : RR) (p0 : Nat) (p1 : Nat) : Nat → HH → Int32 → Option (HH)
  | 0, _, _ => none
  | n + 1, h, x2 => if 30 ≤ x2 then (some h) else (gd (inb 0 (lnA (r p0 2))) (gd (inb x2 (lnA (r p0 1))) (if (h (r p0 1) (ix x2)) = 0 then (gwd (h p0 0) (fun q_100 => gd (inb 0 (lnA (r q_100 2))) ((fX0_changeOf h r p0 (r (r q_100 2) (ix 0)) x2).bind (fun v109 => fX0_compare_b112 r p0 p1 (fun h_ z2_ => fX0_compare_b72 r p0 p1 n h_ z2_) h (r (r p0 2) (ix 0)) x2 v109 x2)))) else (fX0_compare_b112 r p0 p1 (fun h_ z2_ => fX0_compare_b72 r p0 p1 n h_ z2_) h (r (r p0 2) (ix 0)) x2 0 x2))))
def fX0_compare_b7 (r : RR) (p0 : Nat) (p1 : Nat) : Nat → HH → Int32 → Option (HH)
  | 0, _, _ => none
  | n + 1, h, x2 => if 30 ≤ x2 then ((fX0_ignoreWithin h r p0).bind (fun h67 => fX0_compare_b72 r p0 p1 lpF h67 0)) else (gwd (h p0 0) (fun q_19 => bi2 (fX6_isIgnoredThere h r q_19 0 x2) (fun v24 h24 => if ¬ v24 = 0 then (fX0_compare_b54 r p0 p1 (fun h_ z2_ => fX0_compare_b7 r p0 p1 n h_ z2_) h24 (r p0 1) x2 x2) else (gwd (h24 p0 0) (fun q_31 => bi2 (fX6_isIgnoredThere h24 r q_31 1 x2) (fun v36 h36 => if ¬ v36 = 0 then (fX0_compare_b54 r p0 p1 (fun h_ z2_ => fX0_compare_b7 r p0 p1 n h_ z2_) h36 (r p0 1) x2 x2) else (gwd (h36 p0 0) (fun q_43 => bi2 (fX6_isIgnoredThere h36 r q_43 2 x2) (fun v48 h48 => if v48 = 0 then (fX0_compare_b59 r p0 p1 (fun h_ z2_ => fX0_compare_b7 r p0 p1 n h_ z2_) h48 (r p0 1) x2 0 x2) else (fX0_compare_b54 r p0 p1 (fun h_ z2_ => fX0_compare_b7 r p0 p1 n h_ z2_) h48 (r p0 1) x2 x2))))))))))
def fX0_compare (h : HH) (r : RR) (p0 : Nat) (p1 : Nat) : Option (HH) := lt (up h p0 0 (nI p1)) (fun h2 => fX0_compare_b7 r p0 p1 lpF h2 0)
set_option maxRecDepth 100000 in
set_option maxHeartbeats 4000000 in
theorem kX0_compare_b59 {X : XT} {b N sz : Nat} {ok : Nat → Prop} {r : RR} {w : HH} (hX : XOK X RX0 cX0_compare 3 4) (hM : N ≤ MA) (hW : WT KA lnA ok N r) (hA : ∀ p, KA p < 16 → ok p) (p0 : Nat) (p1 : Nat) (t0 : KA p0 = 0 ∧ ok p0) (t1 : KA p1 = 6 ∧ ok p1) (hR : XR X b KA lnA MA (none) 0 0 N sz none w r) (k7 : HH → Int32 → Option (HH)) (hk7 : ∀ (h : HH) (x2 : Int32), k7 h x2 = some w → GX X b KA lnA MA 3 0 0 N sz 7 [(0, .ref (b + p0)), (1, .ref (b + p1)), (2, .int x2)] [] h r) (h : HH) (u0 : Nat) (s1 : Int32) (s2 : Int32) (x2 : Int32) (ts0 : KA u0 = 10 ∧ ok u0) (hF : fX0_compare_b59 r p0 p1 k7 h u0 s1 s2 x2 = some w) : GX X b KA lnA MA 3 0 0 N sz 59 [(0, .ref (b + p0)), (1, .ref (b + p1)), (2, .int x2)] [.int s2, .int s1, .ref (b + u0)] h r := by
  rw [fX0_compare_b59] at hF
  obtain ⟨g59, hF⟩ := gd_some hF
  obtain ⟨h59, e59, hF⟩ := lt_some hF
  refine g_bast hX dX0_compare_59 ts0.1 (hW.1 _ ts0.2).1 (hW.1 _ ts0.2).2 hM g59 e59 ?_
  refine g_iinc (L' := [(2, .int (x2 + 1)), (0, .ref (b + p0)), (1, .ref (b + p1))]) (j := 2) hX dX0_compare_60 rfl rfl (by decide) rfl ?_
  refine g_goto (tgt := 7) hX dX0_compare_63 (by decide) ?_
  refine g_sub (L' := [(0, .ref (b + p0)), (1, .ref (b + p1)), (2, .int (x2 + 1))]) [1, 2, 0] rfl ?_
  exact hk7 h59 (x2 + 1) hF
set_option maxRecDepth 100000 in
set_option maxHeartbeats 4000000 in
theorem kX0_compare_b54 {X : XT} {b N sz : Nat} {ok : Nat → Prop} {r : RR} {w : HH} (hX : XOK X RX0 cX0_compare 3 4) (hM : N ≤ MA) (hW : WT KA lnA ok N r) (hA : ∀ p, KA p < 16 → ok p) (p0 : Nat) (p1 : Nat) (t0 : KA p0 = 0 ∧ ok p0) (t1 : KA p1 = 6 ∧ ok p1) (hR : XR X b KA lnA MA (none) 0 0 N sz none w r) (k7 : HH → Int32 → Option (HH)) (hk7 : ∀ (h : HH) (x2 : Int32), k7 h x2 = some w → GX X b KA lnA MA 3 0 0 N sz 7 [(0, .ref (b + p0)), (1, .ref (b + p1)), (2, .int x2)] [] h r) (h : HH) (u0 : Nat) (s1 : Int32) (x2 : Int32) (ts0 : KA u0 = 10 ∧ ok u0) (hF : fX0_compare_b54 r p0 p1 k7 h u0 s1 x2 = some w) : GX X b KA lnA MA 3 0 0 N sz 54 [(0, .ref (b + p0)), (1, .ref (b + p1)), (2, .int x2)] [.int s1, .ref (b + u0)] h r := by
  rw [fX0_compare_b54] at hF
  refine g_iconst (v := 1) hX dX0_compare_54 (by decide) ?_
  refine g_goto (tgt := 59) hX dX0_compare_55 (by decide) ?_
  refine g_sub (L' := [(0, .ref (b + p0)), (1, .ref (b + p1)), (2, .int x2)]) [0, 1, 2] rfl ?_
  exact kX0_compare_b59 hX hM hW hA p0 p1 t0 t1 hR k7 hk7 h u0 s1 1 x2 ts0 hF
set_option maxRecDepth 100000 in
set_option maxHeartbeats 4000000 in
theorem kX0_compare_b147 {X : XT} {b N sz : Nat} {ok : Nat → Prop} {r : RR} {w : HH} (hX : XOK X RX0 cX0_compare 3 4) (hM : N ≤ MA) (hW : WT KA lnA ok N r) (hA : ∀ p, KA p < 16 → ok p) (p0 : Nat) (p1 : Nat) (t0 : KA p0 = 0 ∧ ok p0) (t1 : KA p1 = 6 ∧ ok p1) (hR : XR X b KA lnA MA (none) 0 0 N sz none w r) (k72 : HH → Int32 → Option (HH)) (hk72 : ∀ (h : HH) (x2 : Int32), k72 h x2 = some w → GX X b KA lnA MA 3 0 0 N sz 72 [(0, .ref (b + p0)), (1, .ref (b + p1)), (2, .int x2)] [] h r) (h : HH) (u0 : Nat) (s1 : Int32) (s2 : Int32) (x2 : Int32) (ts0 : KA u0 = 9 ∧ ok u0) (hF : fX0_compare_b147 r p0 p1 k72 h u0 s1 s2 x2 = some w) : GX X b KA lnA MA 3 0 0 N sz 147 [(0, .ref (b + p0)), (1, .ref (b + p1)), (2, .int x2)] [.int s2, .int s1, .ref (b + u0)] h r := by
  rw [fX0_compare_b147] at hF
  obtain ⟨g147, hF⟩ := gd_some hF
  obtain ⟨h147, e147, hF⟩ := lt_some hF
  refine g_iast hX dX0_compare_147 ts0.1 (hW.1 _ ts0.2).1 (hW.1 _ ts0.2).2 hM g147 e147 ?_
  refine g_iinc (L' := [(2, .int (x2 + 1)), (0, .ref (b + p0)), (1, .ref (b + p1))]) (j := 2) hX dX0_compare_148 rfl rfl (by decide) rfl ?_
  refine g_goto (tgt := 72) hX dX0_compare_151 (by decide) ?_
  refine g_sub (L' := [(0, .ref (b + p0)), (1, .ref (b + p1)), (2, .int (x2 + 1))]) [1, 2, 0] rfl ?_
  exact hk72 h147 (x2 + 1) hF
set_option maxRecDepth 100000 in
set_option maxHeartbeats 4000000 in
theorem kX0_compare_b112 {X : XT} {b N sz : Nat} {ok : Nat → Prop} {r : RR} {w : HH} (hX : XOK X RX0 cX0_compare 3 4) (hM : N ≤ MA) (hW : WT KA lnA ok N r) (hA : ∀ p, KA p < 16 → ok p) (p0 : Nat) (p1 : Nat) (t0 : KA p0 = 0 ∧ ok p0) (t1 : KA p1 = 6 ∧ ok p1) (hR : XR X b KA lnA MA (none) 0 0 N sz none w r) (k72 : HH → Int32 → Option (HH)) (hk72 : ∀ (h : HH) (x2 : Int32), k72 h x2 = some w → GX X b KA lnA MA 3 0 0 N sz 72 [(0, .ref (b + p0)), (1, .ref (b + p1)), (2, .int x2)] [] h r) (h : HH) (u0 : Nat) (s1 : Int32) (s2 : Int32) (x2 : Int32) (ts0 : KA u0 = 9 ∧ ok u0) (hF : fX0_compare_b112 r p0 p1 k72 h u0 s1 s2 x2 = some w) : GX X b KA lnA MA 3 0 0 N sz 112 [(0, .ref (b + p0)), (1, .ref (b + p1)), (2, .int x2)] [.int s2, .int s1, .ref (b + u0)] h r := by
  rw [fX0_compare_b112] at hF
  obtain ⟨g112, hF⟩ := gd_some hF
  obtain ⟨h112, e112, hF⟩ := lt_some hF
  refine g_iast hX dX0_compare_112 ts0.1 (hW.1 _ ts0.2).1 (hW.1 _ ts0.2).2 hM g112 e112 ?_
  refine g_aload_n hX dX0_compare_113 (i := 0) rfl (j := 0) rfl ?_
  have tf114 := (tyF (k := 2) hW t0 (by decide) rfl (by decide) : KA (r p0 2) = 14 ∧ ok (r p0 2))
  refine gf_X0_17 hX dX0_compare_114 (ty1 hW t0) (hW.1 _ tf114.2).1 ?_
  refine g_iconst (v := 1) hX dX0_compare_117 (by decide) ?_
  obtain ⟨g118, hF⟩ := gd_some hF
  have ta118 : KA (r (r p0 2) (ix 1)) = 9 ∧ ok (r (r p0 2) (ix 1)) := tyA hW tf114 (by decide) rfl (by decide) g118
  refine g_aald hX dX0_compare_118 tf114.1 (by decide) (by decide) (hW.1 _ tf114.2).1 (hW.1 _ tf114.2).2 g118 (hW.1 _ ta118.2).1 ?_
  refine g_iload_n hX dX0_compare_119 (i := 2) rfl (j := 2) rfl ?_
  refine g_aload_n hX dX0_compare_120 (i := 0) rfl (j := 0) rfl ?_
  have tf121 := (tyF (k := 1) hW t0 (by decide) rfl (by decide) : KA (r p0 1) = 10 ∧ ok (r p0 1))
  refine gf_X0_9 hX dX0_compare_121 (ty1 hW t0) (hW.1 _ tf121.2).1 ?_
  refine g_iload_n hX dX0_compare_124 (i := 2) rfl (j := 2) rfl ?_
  obtain ⟨g125, hF⟩ := gd_some hF
  refine g_bald hX dX0_compare_125 tf121.1 (hW.1 _ tf121.2).1 (hW.1 _ tf121.2).2 g125 ?_
  refine g_if_eq (tgt := 133) hX dX0_compare_126 (by decide) (fun c126 => ?_) (fun c126 => ?_)
  · have hF := ite_t hF c126
    refine g_aload_n hX dX0_compare_133 (i := 0) rfl (j := 0) rfl ?_
    refine g_aload_n hX dX0_compare_134 (i := 0) rfl (j := 0) rfl ?_
    obtain ⟨q_135, w135, z135, hF⟩ := gwd_some hF
    have tw135 := ty_w hA z135
    refine gw_X0_44 hX dX0_compare_135 (ty1 hW t0) w135 (hW.1 _ tw135.2).1 ?_
    have tf138 := (tyF (k := 2) hW tw135 (by decide) rfl (by decide) : KA (r q_135 2) = 13 ∧ ok (r q_135 2))
    refine gf_X0_57 hX dX0_compare_138 (ty1 hW tw135) (hW.1 _ tf138.2).1 ?_
    refine g_iconst (v := 1) hX dX0_compare_141 (by decide) ?_
    obtain ⟨g142, hF⟩ := gd_some hF
    have ta142 : KA (r (r q_135 2) (ix 1)) = 5 ∧ ok (r (r q_135 2) (ix 1)) := tyA hW tf138 (by decide) rfl (by decide) g142
    refine g_aald hX dX0_compare_142 tf138.1 (by decide) (by decide) (hW.1 _ tf138.2).1 (hW.1 _ tf138.2).2 g142 (hW.1 _ ta142.2).1 ?_
    refine g_iload_n hX dX0_compare_143 (i := 2) rfl (j := 2) rfl ?_
    obtain ⟨v144, e144, hF⟩ := bi_some hF
    refine g_callV (As := [.ref (b + (r (r q_135 2) (ix 1))), .int x2]) (rest := [.int x2, .ref (b + (r (r p0 2) (ix 1)))]) (stk := [.int v144, .int x2, .ref (b + (r (r p0 2) (ix 1)))]) hX dX0_compare_144 (ctX0_changeOf hM hW hA p0 (r (r q_135 2) (ix 1)) x2 t0 ta142 e144) (by decide) (by decide) wm_X0_61 wi_X0_changeOf ws_X0_changeOf wz_X0 wc_X0_changeOf hyX0_changeOf rfl (ci := 0) rfl (by decide) t0.1 (hW.1 _ t0.2).1 (hW.1 _ t0.2).2 (Nat.le_of_ble_eq_true rfl) rfl rfl ?_ rfl rfl
    refine g_sub (L' := [(0, .ref (b + p0)), (1, .ref (b + p1)), (2, .int x2)]) [0, 1, 2] rfl ?_
    exact kX0_compare_b147 hX hM hW hA p0 p1 t0 t1 hR k72 hk72 h112 (r (r p0 2) (ix 1)) x2 v144 x2 ta118 hF
  · have hF := ite_f hF c126
    refine g_iconst (v := 0) hX dX0_compare_129 (by decide) ?_
    refine g_goto (tgt := 147) hX dX0_compare_130 (by decide) ?_
    refine g_sub (L' := [(0, .ref (b + p0)), (1, .ref (b + p1)), (2, .int x2)]) [0, 1, 2] rfl ?_
    exact kX0_compare_b147 hX hM hW hA p0 p1 t0 t1 hR k72 hk72 h112 (r (r p0 2) (ix 1)) x2 0 x2 ta118 hF
set_option maxRecDepth 100000 in
set_option maxHeartbeats 4000000 in
theorem kX0_compare_b72 {X : XT} {b N sz : Nat} {ok : Nat → Prop} {r : RR} {w : HH} (hX : XOK X RX0 cX0_compare 3 4) (hM : N ≤ MA) (hW : WT KA lnA ok N r) (hA : ∀ p, KA p < 16 → ok p) (p0 : Nat) (p1 : Nat) (t0 : KA p0 = 0 ∧ ok p0) (t1 : KA p1 = 6 ∧ ok p1) (hR : XR X b KA lnA MA (none) 0 0 N sz none w r) : ∀ (n : Nat) (h : HH) (x2 : Int32), fX0_compare_b72 r p0 p1 n h x2 = some w → GX X b KA lnA MA 3 0 0 N sz 72 [(0, .ref (b + p0)), (1, .ref (b + p1)), (2, .int x2)] [] h r := by
  intro n
  induction n with
  | zero =>
    intro h x2 hF
    cases hF
  | succ n ih =>
    intro h x2 hF
    rw [fX0_compare_b72] at hF
    refine g_iload_n hX dX0_compare_72 (i := 2) rfl (j := 2) rfl ?_
    refine g_bipush (v := 30) hX dX0_compare_73 (by decide) ?_
    refine g_icmp_ge (tgt := 154) hX dX0_compare_75 (by decide) (fun c75 => ?_) (fun c75 => ?_)
    · have hF := ite_t hF c75
      obtain rfl := Option.some.inj hF
      exact g_vret hX dX0_compare_154 hR
    · have hF := ite_f hF c75
      refine g_aload_n hX dX0_compare_78 (i := 0) rfl (j := 0) rfl ?_
      have tf79 := (tyF (k := 2) hW t0 (by decide) rfl (by decide) : KA (r p0 2) = 14 ∧ ok (r p0 2))
      refine gf_X0_17 hX dX0_compare_79 (ty1 hW t0) (hW.1 _ tf79.2).1 ?_
      refine g_iconst (v := 0) hX dX0_compare_82 (by decide) ?_
      obtain ⟨g83, hF⟩ := gd_some hF
      have ta83 : KA (r (r p0 2) (ix 0)) = 9 ∧ ok (r (r p0 2) (ix 0)) := tyA hW tf79 (by decide) rfl (by decide) g83
      refine g_aald hX dX0_compare_83 tf79.1 (by decide) (by decide) (hW.1 _ tf79.2).1 (hW.1 _ tf79.2).2 g83 (hW.1 _ ta83.2).1 ?_
      refine g_iload_n hX dX0_compare_84 (i := 2) rfl (j := 2) rfl ?_
      refine g_aload_n hX dX0_compare_85 (i := 0) rfl (j := 0) rfl ?_
      have tf86 := (tyF (k := 1) hW t0 (by decide) rfl (by decide) : KA (r p0 1) = 10 ∧ ok (r p0 1))
      refine gf_X0_9 hX dX0_compare_86 (ty1 hW t0) (hW.1 _ tf86.2).1 ?_
      refine g_iload_n hX dX0_compare_89 (i := 2) rfl (j := 2) rfl ?_
      obtain ⟨g90, hF⟩ := gd_some hF
      refine g_bald hX dX0_compare_90 tf86.1 (hW.1 _ tf86.2).1 (hW.1 _ tf86.2).2 g90 ?_
      refine g_if_eq (tgt := 98) hX dX0_compare_91 (by decide) (fun c91 => ?_) (fun c91 => ?_)
      · have hF := ite_t hF c91
        refine g_aload_n hX dX0_compare_98 (i := 0) rfl (j := 0) rfl ?_
        refine g_aload_n hX dX0_compare_99 (i := 0) rfl (j := 0) rfl ?_
        obtain ⟨q_100, w100, z100, hF⟩ := gwd_some hF
        have tw100 := ty_w hA z100
        refine gw_X0_44 hX dX0_compare_100 (ty1 hW t0) w100 (hW.1 _ tw100.2).1 ?_
        have tf103 := (tyF (k := 2) hW tw100 (by decide) rfl (by decide) : KA (r q_100 2) = 13 ∧ ok (r q_100 2))
        refine gf_X0_57 hX dX0_compare_103 (ty1 hW tw100) (hW.1 _ tf103.2).1 ?_
        refine g_iconst (v := 0) hX dX0_compare_106 (by decide) ?_
        obtain ⟨g107, hF⟩ := gd_some hF
        have ta107 : KA (r (r q_100 2) (ix 0)) = 5 ∧ ok (r (r q_100 2) (ix 0)) := tyA hW tf103 (by decide) rfl (by decide) g107
        refine g_aald hX dX0_compare_107 tf103.1 (by decide) (by decide) (hW.1 _ tf103.2).1 (hW.1 _ tf103.2).2 g107 (hW.1 _ ta107.2).1 ?_
        refine g_iload_n hX dX0_compare_108 (i := 2) rfl (j := 2) rfl ?_
        obtain ⟨v109, e109, hF⟩ := bi_some hF
        refine g_callV (As := [.ref (b + (r (r q_100 2) (ix 0))), .int x2]) (rest := [.int x2, .ref (b + (r (r p0 2) (ix 0)))]) (stk := [.int v109, .int x2, .ref (b + (r (r p0 2) (ix 0)))]) hX dX0_compare_109 (ctX0_changeOf hM hW hA p0 (r (r q_100 2) (ix 0)) x2 t0 ta107 e109) (by decide) (by decide) wm_X0_61 wi_X0_changeOf ws_X0_changeOf wz_X0 wc_X0_changeOf hyX0_changeOf rfl (ci := 0) rfl (by decide) t0.1 (hW.1 _ t0.2).1 (hW.1 _ t0.2).2 (Nat.le_of_ble_eq_true rfl) rfl rfl ?_ rfl rfl
        refine g_sub (L' := [(0, .ref (b + p0)), (1, .ref (b + p1)), (2, .int x2)]) [0, 1, 2] rfl ?_
        exact kX0_compare_b112 hX hM hW hA p0 p1 t0 t1 hR (fun h_ z2_ => fX0_compare_b72 r p0 p1 n h_ z2_) ih h (r (r p0 2) (ix 0)) x2 v109 x2 ta83 hF
      · have hF := ite_f hF c91
        refine g_iconst (v := 0) hX dX0_compare_94 (by decide) ?_
        refine g_goto (tgt := 112) hX dX0_compare_95 (by decide) ?_
        refine g_sub (L' := [(0, .ref (b + p0)), (1, .ref (b + p1)), (2, .int x2)]) [0, 1, 2] rfl ?_
        exact kX0_compare_b112 hX hM hW hA p0 p1 t0 t1 hR (fun h_ z2_ => fX0_compare_b72 r p0 p1 n h_ z2_) ih h (r (r p0 2) (ix 0)) x2 0 x2 ta83 hF
set_option maxRecDepth 100000 in
set_option maxHeartbeats 4000000 in
theorem kX0_compare_b7 {X : XT} {b N sz : Nat} {ok : Nat → Prop} {r : RR} {w : HH} (hX : XOK X RX0 cX0_compare 3 4) (hM : N ≤ MA) (hW : WT KA lnA ok N r) (hA : ∀ p, KA p < 16 → ok p) (p0 : Nat) (p1 : Nat) (t0 : KA p0 = 0 ∧ ok p0) (t1 : KA p1 = 6 ∧ ok p1) (hR : XR X b KA lnA MA (none) 0 0 N sz none w r) : ∀ (n : Nat) (h : HH) (x2 : Int32), fX0_compare_b7 r p0 p1 n h x2 = some w → GX X b KA lnA MA 3 0 0 N sz 7 [(0, .ref (b + p0)), (1, .ref (b + p1)), (2, .int x2)] [] h r := by
  intro n
  induction n with
  | zero =>
    intro h x2 hF
    cases hF
  | succ n ih =>
    intro h x2 hF
    rw [fX0_compare_b7] at hF
    refine g_iload_n hX dX0_compare_7 (i := 2) rfl (j := 2) rfl ?_
    refine g_bipush (v := 30) hX dX0_compare_8 (by decide) ?_
    refine g_icmp_ge (tgt := 66) hX dX0_compare_10 (by decide) (fun c10 => ?_) (fun c10 => ?_)
    · have hF := ite_t hF c10
      refine g_aload_n hX dX0_compare_66 (i := 0) rfl (j := 0) rfl ?_
      obtain ⟨h67, e67, hF⟩ := bi_some hF
      refine g_callV (As := []) (rest := []) (stk := []) hX dX0_compare_67 (ctX0_ignoreWithin hM hW hA p0 t0 e67) (by decide) (by decide) wm_X0_54 wi_X0_ignoreWithin ws_X0_ignoreWithin wz_X0 wc_X0_ignoreWithin hyX0_ignoreWithin rfl (ci := 0) rfl (by decide) t0.1 (hW.1 _ t0.2).1 (hW.1 _ t0.2).2 (Nat.le_of_ble_eq_true rfl) rfl rfl ?_ rfl rfl
      refine g_iconst (v := 0) hX dX0_compare_70 (by decide) ?_
      refine g_istore_n (L' := [(2, .int 0), (0, .ref (b + p0)), (1, .ref (b + p1))]) hX dX0_compare_71 (i := 2) rfl (by decide) rfl ?_
      refine g_sub (L' := [(0, .ref (b + p0)), (1, .ref (b + p1)), (2, .int 0)]) [1, 2, 0] rfl ?_
      exact kX0_compare_b72 hX hM hW hA p0 p1 t0 t1 hR lpF h67 0 hF
    · have hF := ite_f hF c10
      refine g_aload_n hX dX0_compare_13 (i := 0) rfl (j := 0) rfl ?_
      have tf14 := (tyF (k := 1) hW t0 (by decide) rfl (by decide) : KA (r p0 1) = 10 ∧ ok (r p0 1))
      refine gf_X0_9 hX dX0_compare_14 (ty1 hW t0) (hW.1 _ tf14.2).1 ?_
      refine g_iload_n hX dX0_compare_17 (i := 2) rfl (j := 2) rfl ?_
      refine g_aload_n hX dX0_compare_18 (i := 0) rfl (j := 0) rfl ?_
      obtain ⟨q_19, w19, z19, hF⟩ := gwd_some hF
      have tw19 := ty_w hA z19
      refine gw_X0_44 hX dX0_compare_19 (ty1 hW t0) w19 (hW.1 _ tw19.2).1 ?_
      refine g_iconst (v := 0) hX dX0_compare_22 (by decide) ?_
      refine g_iload_n hX dX0_compare_23 (i := 2) rfl (j := 2) rfl ?_
      obtain ⟨v24, h24, e24, hF⟩ := bi2_some hF
      refine g_callV (As := [.int 0, .int x2]) (rest := [.int x2, .ref (b + (r p0 1))]) (stk := [.int v24, .int x2, .ref (b + (r p0 1))]) hX dX0_compare_24 (ctX6_isIgnoredThere hM hW q_19 0 x2 tw19 e24) (by decide) (by decide) wm_X0_48 wi_X6_isIgnoredThere ws_X6_isIgnoredThere wz_X6 wc_X6_isIgnoredThere hyX6_isIgnoredThere rfl (ci := 6) rfl (by decide) tw19.1 (hW.1 _ tw19.2).1 (hW.1 _ tw19.2).2 (Nat.le_of_ble_eq_true rfl) rfl rfl ?_ rfl rfl
      refine g_if_ne (tgt := 54) hX dX0_compare_27 (by decide) (fun c27 => ?_) (fun c27 => ?_)
      · have hF := ite_t hF c27
        refine g_sub (L' := [(0, .ref (b + p0)), (1, .ref (b + p1)), (2, .int x2)]) [0, 1, 2] rfl ?_
        exact kX0_compare_b54 hX hM hW hA p0 p1 t0 t1 hR (fun h_ z2_ => fX0_compare_b7 r p0 p1 n h_ z2_) ih h24 (r p0 1) x2 x2 tf14 hF
      · have hF := ite_f hF (fun z => z c27)
        refine g_aload_n hX dX0_compare_30 (i := 0) rfl (j := 0) rfl ?_
        obtain ⟨q_31, w31, z31, hF⟩ := gwd_some hF
        have tw31 := ty_w hA z31
        refine gw_X0_44 hX dX0_compare_31 (ty1 hW t0) w31 (hW.1 _ tw31.2).1 ?_
        refine g_iconst (v := 1) hX dX0_compare_34 (by decide) ?_
        refine g_iload_n hX dX0_compare_35 (i := 2) rfl (j := 2) rfl ?_
        obtain ⟨v36, h36, e36, hF⟩ := bi2_some hF
        refine g_callV (As := [.int 1, .int x2]) (rest := [.int x2, .ref (b + (r p0 1))]) (stk := [.int v36, .int x2, .ref (b + (r p0 1))]) hX dX0_compare_36 (ctX6_isIgnoredThere hM hW q_31 1 x2 tw31 e36) (by decide) (by decide) wm_X0_48 wi_X6_isIgnoredThere ws_X6_isIgnoredThere wz_X6 wc_X6_isIgnoredThere hyX6_isIgnoredThere rfl (ci := 6) rfl (by decide) tw31.1 (hW.1 _ tw31.2).1 (hW.1 _ tw31.2).2 (Nat.le_of_ble_eq_true rfl) rfl rfl ?_ rfl rfl
        refine g_if_ne (tgt := 54) hX dX0_compare_39 (by decide) (fun c39 => ?_) (fun c39 => ?_)
        · have hF := ite_t hF c39
          refine g_sub (L' := [(0, .ref (b + p0)), (1, .ref (b + p1)), (2, .int x2)]) [0, 1, 2] rfl ?_
          exact kX0_compare_b54 hX hM hW hA p0 p1 t0 t1 hR (fun h_ z2_ => fX0_compare_b7 r p0 p1 n h_ z2_) ih h36 (r p0 1) x2 x2 tf14 hF
        · have hF := ite_f hF (fun z => z c39)
          refine g_aload_n hX dX0_compare_42 (i := 0) rfl (j := 0) rfl ?_
          obtain ⟨q_43, w43, z43, hF⟩ := gwd_some hF
          have tw43 := ty_w hA z43
          refine gw_X0_44 hX dX0_compare_43 (ty1 hW t0) w43 (hW.1 _ tw43.2).1 ?_
          refine g_iconst (v := 2) hX dX0_compare_46 (by decide) ?_
          refine g_iload_n hX dX0_compare_47 (i := 2) rfl (j := 2) rfl ?_
          obtain ⟨v48, h48, e48, hF⟩ := bi2_some hF
          refine g_callV (As := [.int 2, .int x2]) (rest := [.int x2, .ref (b + (r p0 1))]) (stk := [.int v48, .int x2, .ref (b + (r p0 1))]) hX dX0_compare_48 (ctX6_isIgnoredThere hM hW q_43 2 x2 tw43 e48) (by decide) (by decide) wm_X0_48 wi_X6_isIgnoredThere ws_X6_isIgnoredThere wz_X6 wc_X6_isIgnoredThere hyX6_isIgnoredThere rfl (ci := 6) rfl (by decide) tw43.1 (hW.1 _ tw43.2).1 (hW.1 _ tw43.2).2 (Nat.le_of_ble_eq_true rfl) rfl rfl ?_ rfl rfl
          refine g_if_eq (tgt := 58) hX dX0_compare_51 (by decide) (fun c51 => ?_) (fun c51 => ?_)
          · have hF := ite_t hF c51
            refine g_iconst (v := 0) hX dX0_compare_58 (by decide) ?_
            refine g_sub (L' := [(0, .ref (b + p0)), (1, .ref (b + p1)), (2, .int x2)]) [0, 1, 2] rfl ?_
            exact kX0_compare_b59 hX hM hW hA p0 p1 t0 t1 hR (fun h_ z2_ => fX0_compare_b7 r p0 p1 n h_ z2_) ih h48 (r p0 1) x2 0 x2 tf14 hF
          · have hF := ite_f hF c51
            refine g_sub (L' := [(0, .ref (b + p0)), (1, .ref (b + p1)), (2, .int x2)]) [0, 1, 2] rfl ?_
            exact kX0_compare_b54 hX hM hW hA p0 p1 t0 t1 hR (fun h_ z2_ => fX0_compare_b7 r p0 p1 n h_ z2_) ih h48 (r p0 1) x2 x2 tf14 hF
set_option maxRecDepth 100000 in
set_option maxHeartbeats 4000000 in
theorem kX0_compare {X : XT} {b N sz : Nat} {ok : Nat → Prop} {h : HH} {r : RR} {w : HH} (hX : XOK X RX0 cX0_compare 3 4) (hM : N ≤ MA) (hW : WT KA lnA ok N r) (hA : ∀ p, KA p < 16 → ok p) (p0 : Nat) (p1 : Nat) (t0 : KA p0 = 0 ∧ ok p0) (t1 : KA p1 = 6 ∧ ok p1) (hR : XR X b KA lnA MA (none) 0 0 N sz none w r) (hF : fX0_compare h r p0 p1 = some w) : GX X b KA lnA MA 3 0 0 N sz 0 [(0, .ref (b + p0)), (1, .ref (b + p1))] [] h r := by
  rw [fX0_compare] at hF
  refine g_aload_n hX dX0_compare_0 (i := 0) rfl (j := 0) rfl ?_
  refine g_aload_n hX dX0_compare_1 (i := 1) rfl (j := 1) rfl ?_
  obtain ⟨h2, e2, hF⟩ := lt_some hF
  refine pw_X0_44 hX dX0_compare_2 (ty1 hW t0) (hW.1 _ t1.2).1 (Nat.le_trans (hW.1 _ t1.2).2 hM) hM e2 ?_
  refine g_iconst (v := 0) hX dX0_compare_5 (by decide) ?_
  refine g_istore_n (L' := [(2, .int 0), (0, .ref (b + p0)), (1, .ref (b + p1))]) hX dX0_compare_6 (i := 2) rfl (by decide) rfl ?_
  refine g_sub (L' := [(0, .ref (b + p0)), (1, .ref (b + p1)), (2, .int 0)]) [1, 2, 0] rfl ?_
  exact kX0_compare_b7 hX hM hW hA p0 p1 t0 t1 hR lpF h2 0 hF
theorem ctX0_compare {b N sz : Nat} {ok : Nat → Prop} {h : HH} {r : RR} {w : HH} (hM : N ≤ MA) (hW : WT KA lnA ok N r) (hA : ∀ p, KA p < 16 → ok p) (p0 : Nat) (p1 : Nat) (t0 : KA p0 = 0 ∧ ok p0) (t1 : KA p1 = 6 ∧ ok p1) (hF : fX0_compare h r p0 p1 = some w) : CT yX0_compare cX0_compare 3 (none) 4 b KA lnA MA N sz [.ref (b + p0), .ref (b + p1)] h r N sz none w r 0 0 :=
  CT_of (by decide) rfl (Nat.le_of_ble_eq_true rfl) (by decide) trivial (fun X hX hR => kX0_compare hX hM hW hA p0 p1 t0 t1 hR hF)
/-! X5_takeOut -/
def fX5_takeOut (h : HH) (r : RR) (p0 : Nat) (a1 : Int32) : Option (HH) := gd (inb a1 (lnA (r p0 0))) (lt (up h (r p0 0) (ix a1) (zn 0)) (fun h6 => gd (inb a1 (lnA (r p0 1))) (lt (up h6 (r p0 1) (ix a1) (-1)) (fun h13 => gd (inb a1 (lnA (r p0 2))) (lt (up h13 (r p0 2) (ix a1) (-1)) (fun h20 => gd (inb a1 (lnA (r p0 3))) (lt (up h20 (r p0 3) (ix a1) (-1)) (fun h27 => some h27))))))))
set_option maxRecDepth 100000 in
set_option maxHeartbeats 4000000 in
theorem kX5_takeOut {X : XT} {b N sz : Nat} {ok : Nat → Prop} {h : HH} {r : RR} {w : HH} (hX : XOK X RX5 cX5_takeOut 2 1) (hM : N ≤ MA) (hW : WT KA lnA ok N r) (p0 : Nat) (a1 : Int32) (t0 : KA p0 = 5 ∧ ok p0) (hR : XR X b KA lnA MA (none) 0 0 N sz none w r) (hF : fX5_takeOut h r p0 a1 = some w) : GX X b KA lnA MA 2 0 0 N sz 0 [(0, .ref (b + p0)), (1, .int a1)] [] h r := by
  rw [fX5_takeOut] at hF
  refine g_aload_n hX dX5_takeOut_0 (i := 0) rfl (j := 0) rfl ?_
  have tf1 := (tyF (k := 0) hW t0 (by decide) rfl (by decide) : KA (r p0 0) = 10 ∧ ok (r p0 0))
  refine gf_X5_9 hX dX5_takeOut_1 (ty1 hW t0) (hW.1 _ tf1.2).1 ?_
  refine g_iload_n hX dX5_takeOut_4 (i := 1) rfl (j := 1) rfl ?_
  refine g_iconst (v := 0) hX dX5_takeOut_5 (by decide) ?_
  obtain ⟨g6, hF⟩ := gd_some hF
  obtain ⟨h6, e6, hF⟩ := lt_some hF
  refine g_bast hX dX5_takeOut_6 tf1.1 (hW.1 _ tf1.2).1 (hW.1 _ tf1.2).2 hM g6 e6 ?_
  refine g_aload_n hX dX5_takeOut_7 (i := 0) rfl (j := 0) rfl ?_
  have tf8 := (tyF (k := 1) hW t0 (by decide) rfl (by decide) : KA (r p0 1) = 9 ∧ ok (r p0 1))
  refine gf_X5_15 hX dX5_takeOut_8 (ty1 hW t0) (hW.1 _ tf8.2).1 ?_
  refine g_iload_n hX dX5_takeOut_11 (i := 1) rfl (j := 1) rfl ?_
  refine g_iconst (v := (-1)) hX dX5_takeOut_12 (by decide) ?_
  obtain ⟨g13, hF⟩ := gd_some hF
  obtain ⟨h13, e13, hF⟩ := lt_some hF
  refine g_iast hX dX5_takeOut_13 tf8.1 (hW.1 _ tf8.2).1 (hW.1 _ tf8.2).2 hM g13 e13 ?_
  refine g_aload_n hX dX5_takeOut_14 (i := 0) rfl (j := 0) rfl ?_
  have tf15 := (tyF (k := 2) hW t0 (by decide) rfl (by decide) : KA (r p0 2) = 9 ∧ ok (r p0 2))
  refine gf_X5_19 hX dX5_takeOut_15 (ty1 hW t0) (hW.1 _ tf15.2).1 ?_
  refine g_iload_n hX dX5_takeOut_18 (i := 1) rfl (j := 1) rfl ?_
  refine g_iconst (v := (-1)) hX dX5_takeOut_19 (by decide) ?_
  obtain ⟨g20, hF⟩ := gd_some hF
  obtain ⟨h20, e20, hF⟩ := lt_some hF
  refine g_iast hX dX5_takeOut_20 tf15.1 (hW.1 _ tf15.2).1 (hW.1 _ tf15.2).2 hM g20 e20 ?_
  refine g_aload_n hX dX5_takeOut_21 (i := 0) rfl (j := 0) rfl ?_
  have tf22 := (tyF (k := 3) hW t0 (by decide) rfl (by decide) : KA (r p0 3) = 9 ∧ ok (r p0 3))
  refine gf_X5_22 hX dX5_takeOut_22 (ty1 hW t0) (hW.1 _ tf22.2).1 ?_
  refine g_iload_n hX dX5_takeOut_25 (i := 1) rfl (j := 1) rfl ?_
  refine g_iconst (v := (-1)) hX dX5_takeOut_26 (by decide) ?_
  obtain ⟨g27, hF⟩ := gd_some hF
  obtain ⟨h27, e27, hF⟩ := lt_some hF
  refine g_iast hX dX5_takeOut_27 tf22.1 (hW.1 _ tf22.2).1 (hW.1 _ tf22.2).2 hM g27 e27 ?_
  obtain rfl := Option.some.inj hF
  exact g_vret hX dX5_takeOut_28 hR
theorem ctX5_takeOut {b N sz : Nat} {ok : Nat → Prop} {h : HH} {r : RR} {w : HH} (hM : N ≤ MA) (hW : WT KA lnA ok N r) (p0 : Nat) (a1 : Int32) (t0 : KA p0 = 5 ∧ ok p0) (hF : fX5_takeOut h r p0 a1 = some w) : CT yX5_takeOut cX5_takeOut 2 (none) 1 b KA lnA MA N sz [.ref (b + p0), .int a1] h r N sz none w r 0 0 :=
  CT_of (by decide) rfl (Nat.le_of_ble_eq_true rfl) (by decide) trivial (fun X hX hR => kX5_takeOut hX hM hW p0 a1 t0 hR hF)
/-! X5_clear -/
def fX5_clear_b2 (r : RR) (p0 : Nat) : Nat → HH → Int32 → Option (HH)
  | 0, _, _ => none
  | n + 1, h, x1 => if 30 ≤ x1 then (some h) else ((fX5_takeOut h r p0 x1).bind (fun h10 => fX5_clear_b2 r p0 n h10 (x1 + 1)))
def fX5_clear (h : HH) (r : RR) (p0 : Nat) : Option (HH) := fX5_clear_b2 r p0 lpF h 0
set_option maxRecDepth 100000 in
set_option maxHeartbeats 4000000 in
theorem kX5_clear_b2 {X : XT} {b N sz : Nat} {ok : Nat → Prop} {r : RR} {w : HH} (hX : XOK X RX5 cX5_clear 2 2) (hM : N ≤ MA) (hW : WT KA lnA ok N r) (p0 : Nat) (t0 : KA p0 = 5 ∧ ok p0) (hR : XR X b KA lnA MA (none) 0 0 N sz none w r) : ∀ (n : Nat) (h : HH) (x1 : Int32), fX5_clear_b2 r p0 n h x1 = some w → GX X b KA lnA MA 2 0 0 N sz 2 [(0, .ref (b + p0)), (1, .int x1)] [] h r := by
  intro n
  induction n with
  | zero =>
    intro h x1 hF
    cases hF
  | succ n ih =>
    intro h x1 hF
    rw [fX5_clear_b2] at hF
    refine g_iload_n hX dX5_clear_2 (i := 1) rfl (j := 1) rfl ?_
    refine g_bipush (v := 30) hX dX5_clear_3 (by decide) ?_
    refine g_icmp_ge (tgt := 19) hX dX5_clear_5 (by decide) (fun c5 => ?_) (fun c5 => ?_)
    · have hF := ite_t hF c5
      obtain rfl := Option.some.inj hF
      exact g_vret hX dX5_clear_19 hR
    · have hF := ite_f hF c5
      refine g_aload_n hX dX5_clear_8 (i := 0) rfl (j := 0) rfl ?_
      refine g_iload_n hX dX5_clear_9 (i := 1) rfl (j := 1) rfl ?_
      obtain ⟨h10, e10, hF⟩ := bi_some hF
      refine g_callV (As := [.int x1]) (rest := []) (stk := []) hX dX5_clear_10 (ctX5_takeOut hM hW p0 x1 t0 e10) (by decide) (by decide) wm_X5_28 wi_X5_takeOut ws_X5_takeOut wz_X5 wc_X5_takeOut hyX5_takeOut rfl (ci := 5) rfl (by decide) t0.1 (hW.1 _ t0.2).1 (hW.1 _ t0.2).2 (Nat.le_of_ble_eq_true rfl) rfl rfl ?_ rfl rfl
      refine g_iinc (L' := [(1, .int (x1 + 1)), (0, .ref (b + p0))]) (j := 1) hX dX5_clear_13 rfl rfl (by decide) rfl ?_
      refine g_goto (tgt := 2) hX dX5_clear_16 (by decide) ?_
      refine g_sub (L' := [(0, .ref (b + p0)), (1, .int (x1 + 1))]) [1, 0] rfl ?_
      exact ih h10 (x1 + 1) hF
set_option maxRecDepth 100000 in
set_option maxHeartbeats 4000000 in
theorem kX5_clear {X : XT} {b N sz : Nat} {ok : Nat → Prop} {h : HH} {r : RR} {w : HH} (hX : XOK X RX5 cX5_clear 2 2) (hM : N ≤ MA) (hW : WT KA lnA ok N r) (p0 : Nat) (t0 : KA p0 = 5 ∧ ok p0) (hR : XR X b KA lnA MA (none) 0 0 N sz none w r) (hF : fX5_clear h r p0 = some w) : GX X b KA lnA MA 2 0 0 N sz 0 [(0, .ref (b + p0))] [] h r := by
  rw [fX5_clear] at hF
  refine g_iconst (v := 0) hX dX5_clear_0 (by decide) ?_
  refine g_istore_n (L' := [(1, .int 0), (0, .ref (b + p0))]) hX dX5_clear_1 (i := 1) rfl (by decide) rfl ?_
  refine g_sub (L' := [(0, .ref (b + p0)), (1, .int 0)]) [1, 0] rfl ?_
  exact kX5_clear_b2 hX hM hW p0 t0 hR lpF h 0 hF
theorem ctX5_clear {b N sz : Nat} {ok : Nat → Prop} {h : HH} {r : RR} {w : HH} (hM : N ≤ MA) (hW : WT KA lnA ok N r) (p0 : Nat) (t0 : KA p0 = 5 ∧ ok p0) (hF : fX5_clear h r p0 = some w) : CT yX5_clear cX5_clear 2 (none) 2 b KA lnA MA N sz [.ref (b + p0)] h r N sz none w r 0 0 :=
  CT_of (by decide) rfl (Nat.le_of_ble_eq_true rfl) (by decide) trivial (fun X hX hR => kX5_clear hX hM hW p0 t0 hR hF)
/-! X5_stepsUp -/
def fX5_stepsUp_b5 (h : HH) (r : RR) (p0 : Nat) (a1 : Int32) (a2 : Int32) : Nat → Int32 → Int32 → Option (Int32)
  | 0, _, _ => none
  | n + 1, x3, x4 => if 30 < x4 then (some (-1)) else (if x3 < 0 then (some (-1)) else (if 30 ≤ x3 then (some (-1)) else (gd (inb x3 (lnA (r p0 0))) (if ¬ (h (r p0 0) (ix x3)) = 0 then (if ¬ x3 = a2 then (gd (inb x3 (lnA (r p0 1))) (lt (h (r p0 1) (ix x3)) (fun y47 => fX5_stepsUp_b5 h r p0 a1 a2 n y47 (x4 + 1)))) else (some (x4))) else (some (-1))))))
def fX5_stepsUp (h : HH) (r : RR) (p0 : Nat) (a1 : Int32) (a2 : Int32) : Option (Int32) := fX5_stepsUp_b5 h r p0 a1 a2 lpF a1 0
set_option maxRecDepth 100000 in
set_option maxHeartbeats 4000000 in
theorem kX5_stepsUp_b5 {X : XT} {b N sz : Nat} {ok : Nat → Prop} {h : HH} {r : RR} {w : Int32} (hX : XOK X RX5 cX5_stepsUp 5 1) (hM : N ≤ MA) (hW : WT KA lnA ok N r) (p0 : Nat) (a1 : Int32) (a2 : Int32) (t0 : KA p0 = 5 ∧ ok p0) (hR : XR X b KA lnA MA (some FieldType.int) 0 0 N sz (some (.int w)) h r) : ∀ (n : Nat) (x3 : Int32) (x4 : Int32), fX5_stepsUp_b5 h r p0 a1 a2 n x3 x4 = some w → GX X b KA lnA MA 5 0 0 N sz 5 [(0, .ref (b + p0)), (1, .int a1), (2, .int a2), (3, .int x3), (4, .int x4)] [] h r := by
  intro n
  induction n with
  | zero =>
    intro x3 x4 hF
    cases hF
  | succ n ih =>
    intro x3 x4 hF
    rw [fX5_stepsUp_b5] at hF
    refine g_iload hX dX5_stepsUp_5 (j := 4) rfl ?_
    refine g_bipush (v := 30) hX dX5_stepsUp_7 (by decide) ?_
    refine g_icmp_gt (tgt := 54) hX dX5_stepsUp_9 (by decide) (fun c9 => ?_) (fun c9 => ?_)
    · have hF := ite_t hF c9
      refine g_iconst (v := (-1)) hX dX5_stepsUp_54 (by decide) ?_
      obtain rfl := Option.some.inj hF
      exact g_iret hX dX5_stepsUp_55 hR
    · have hF := ite_f hF c9
      refine g_iload_n hX dX5_stepsUp_12 (i := 3) rfl (j := 3) rfl ?_
      refine g_if_lt (tgt := 31) hX dX5_stepsUp_13 (by decide) (fun c13 => ?_) (fun c13 => ?_)
      · have hF := ite_t hF c13
        refine g_iconst (v := (-1)) hX dX5_stepsUp_31 (by decide) ?_
        obtain rfl := Option.some.inj hF
        exact g_iret hX dX5_stepsUp_32 hR
      · have hF := ite_f hF c13
        refine g_iload_n hX dX5_stepsUp_16 (i := 3) rfl (j := 3) rfl ?_
        refine g_bipush (v := 30) hX dX5_stepsUp_17 (by decide) ?_
        refine g_icmp_ge (tgt := 31) hX dX5_stepsUp_19 (by decide) (fun c19 => ?_) (fun c19 => ?_)
        · have hF := ite_t hF c19
          refine g_iconst (v := (-1)) hX dX5_stepsUp_31 (by decide) ?_
          obtain rfl := Option.some.inj hF
          exact g_iret hX dX5_stepsUp_32 hR
        · have hF := ite_f hF c19
          refine g_aload_n hX dX5_stepsUp_22 (i := 0) rfl (j := 0) rfl ?_
          have tf23 := (tyF (k := 0) hW t0 (by decide) rfl (by decide) : KA (r p0 0) = 10 ∧ ok (r p0 0))
          refine gf_X5_9 hX dX5_stepsUp_23 (ty1 hW t0) (hW.1 _ tf23.2).1 ?_
          refine g_iload_n hX dX5_stepsUp_26 (i := 3) rfl (j := 3) rfl ?_
          obtain ⟨g27, hF⟩ := gd_some hF
          refine g_bald hX dX5_stepsUp_27 tf23.1 (hW.1 _ tf23.2).1 (hW.1 _ tf23.2).2 g27 ?_
          refine g_if_ne (tgt := 33) hX dX5_stepsUp_28 (by decide) (fun c28 => ?_) (fun c28 => ?_)
          · have hF := ite_t hF c28
            refine g_iload_n hX dX5_stepsUp_33 (i := 3) rfl (j := 3) rfl ?_
            refine g_iload_n hX dX5_stepsUp_34 (i := 2) rfl (j := 2) rfl ?_
            refine g_icmp_ne (tgt := 41) hX dX5_stepsUp_35 (by decide) (fun c35 => ?_) (fun c35 => ?_)
            · have hF := ite_t hF c35
              refine g_aload_n hX dX5_stepsUp_41 (i := 0) rfl (j := 0) rfl ?_
              have tf42 := (tyF (k := 1) hW t0 (by decide) rfl (by decide) : KA (r p0 1) = 9 ∧ ok (r p0 1))
              refine gf_X5_15 hX dX5_stepsUp_42 (ty1 hW t0) (hW.1 _ tf42.2).1 ?_
              refine g_iload_n hX dX5_stepsUp_45 (i := 3) rfl (j := 3) rfl ?_
              obtain ⟨g46, hF⟩ := gd_some hF
              refine g_iald hX dX5_stepsUp_46 tf42.1 (hW.1 _ tf42.2).1 (hW.1 _ tf42.2).2 g46 ?_
              obtain ⟨y47, e47, hF⟩ := lt_some hF
              refine g_topi e47 ?_
              refine g_istore_n (L' := [(3, .int y47), (0, .ref (b + p0)), (1, .int a1), (2, .int a2), (4, .int x4)]) hX dX5_stepsUp_47 (i := 3) rfl (by decide) rfl ?_
              refine g_iinc (L' := [(4, .int (x4 + 1)), (3, .int y47), (0, .ref (b + p0)), (1, .int a1), (2, .int a2)]) (j := 4) hX dX5_stepsUp_48 rfl rfl (by decide) rfl ?_
              refine g_goto (tgt := 5) hX dX5_stepsUp_51 (by decide) ?_
              refine g_sub (L' := [(0, .ref (b + p0)), (1, .int a1), (2, .int a2), (3, .int y47), (4, .int (x4 + 1))]) [2, 3, 4, 1, 0] rfl ?_
              exact ih y47 (x4 + 1) hF
            · have hF := ite_f hF (fun z => z c35)
              refine g_iload hX dX5_stepsUp_38 (j := 4) rfl ?_
              obtain rfl := Option.some.inj hF
              exact g_iret hX dX5_stepsUp_40 hR
          · have hF := ite_f hF (fun z => z c28)
            refine g_iconst (v := (-1)) hX dX5_stepsUp_31 (by decide) ?_
            obtain rfl := Option.some.inj hF
            exact g_iret hX dX5_stepsUp_32 hR
set_option maxRecDepth 100000 in
set_option maxHeartbeats 4000000 in
theorem kX5_stepsUp {X : XT} {b N sz : Nat} {ok : Nat → Prop} {h : HH} {r : RR} {w : Int32} (hX : XOK X RX5 cX5_stepsUp 5 1) (hM : N ≤ MA) (hW : WT KA lnA ok N r) (p0 : Nat) (a1 : Int32) (a2 : Int32) (t0 : KA p0 = 5 ∧ ok p0) (hR : XR X b KA lnA MA (some FieldType.int) 0 0 N sz (some (.int w)) h r) (hF : fX5_stepsUp h r p0 a1 a2 = some w) : GX X b KA lnA MA 5 0 0 N sz 0 [(0, .ref (b + p0)), (1, .int a1), (2, .int a2)] [] h r := by
  rw [fX5_stepsUp] at hF
  refine g_iload_n hX dX5_stepsUp_0 (i := 1) rfl (j := 1) rfl ?_
  refine g_istore_n (L' := [(3, .int a1), (0, .ref (b + p0)), (1, .int a1), (2, .int a2)]) hX dX5_stepsUp_1 (i := 3) rfl (by decide) rfl ?_
  refine g_iconst (v := 0) hX dX5_stepsUp_2 (by decide) ?_
  refine g_istore (L' := [(4, .int 0), (3, .int a1), (0, .ref (b + p0)), (1, .int a1), (2, .int a2)]) hX dX5_stepsUp_3 (by decide) rfl ?_
  refine g_sub (L' := [(0, .ref (b + p0)), (1, .int a1), (2, .int a2), (3, .int a1), (4, .int 0)]) [2, 3, 4, 1, 0] rfl ?_
  exact kX5_stepsUp_b5 hX hM hW p0 a1 a2 t0 hR lpF a1 0 hF
theorem ctX5_stepsUp {b N sz : Nat} {ok : Nat → Prop} {h : HH} {r : RR} {w : Int32} (hM : N ≤ MA) (hW : WT KA lnA ok N r) (p0 : Nat) (a1 : Int32) (a2 : Int32) (t0 : KA p0 = 5 ∧ ok p0) (hF : fX5_stepsUp h r p0 a1 a2 = some w) : CT yX5_stepsUp cX5_stepsUp 5 (some FieldType.int) 1 b KA lnA MA N sz [.ref (b + p0), .int a1, .int a2] h r N sz (some (.int w)) h r 0 0 :=
  CT_of (by decide) rfl (Nat.le_of_ble_eq_true rfl) (by decide) trivial (fun X hX hR => kX5_stepsUp hX hM hW p0 a1 a2 t0 hR hF)
/-! X5_isInner -/
def fX5_isInner_b27 (h : HH) (r : RR) (p0 : Nat) (a1 : Int32) (a2 : Int32) : Option (Int32) := some (0)
def fX5_isInner (h : HH) (r : RR) (p0 : Nat) (a1 : Int32) (a2 : Int32) : Option (Int32) := (fX5_has h r p0 a1).bind (fun v2 => if v2 = 0 then (fX5_isInner_b27 h r p0 a1 a2) else (gd (inb a1 (lnA (r p0 1))) ((fX5_stepsUp h r p0 (h (r p0 1) (ix a1)) a2).bind (fun v16 => if v16 = (-1) then (fX5_isInner_b27 h r p0 a1 a2) else (some (1))))))
set_option maxRecDepth 100000 in
set_option maxHeartbeats 4000000 in
theorem kX5_isInner_b27 {X : XT} {b N sz : Nat} {ok : Nat → Prop} {h : HH} {r : RR} {w : Int32} (hX : XOK X RX5 cX5_isInner 3 2) (hM : N ≤ MA) (hW : WT KA lnA ok N r) (p0 : Nat) (a1 : Int32) (a2 : Int32) (t0 : KA p0 = 5 ∧ ok p0) (hR : XR X b KA lnA MA (some FieldType.boolean) 0 0 N sz (some (.int w)) h r) (hF : fX5_isInner_b27 h r p0 a1 a2 = some w) : GX X b KA lnA MA 3 0 0 N sz 27 [(0, .ref (b + p0)), (1, .int a1), (2, .int a2)] [] h r := by
  rw [fX5_isInner_b27] at hF
  refine g_iconst (v := 0) hX dX5_isInner_27 (by decide) ?_
  obtain rfl := Option.some.inj hF
  exact g_zret hX dX5_isInner_28 (by decide) hR
set_option maxRecDepth 100000 in
set_option maxHeartbeats 4000000 in
theorem kX5_isInner {X : XT} {b N sz : Nat} {ok : Nat → Prop} {h : HH} {r : RR} {w : Int32} (hX : XOK X RX5 cX5_isInner 3 2) (hM : N ≤ MA) (hW : WT KA lnA ok N r) (p0 : Nat) (a1 : Int32) (a2 : Int32) (t0 : KA p0 = 5 ∧ ok p0) (hR : XR X b KA lnA MA (some FieldType.boolean) 0 0 N sz (some (.int w)) h r) (hF : fX5_isInner h r p0 a1 a2 = some w) : GX X b KA lnA MA 3 0 0 N sz 0 [(0, .ref (b + p0)), (1, .int a1), (2, .int a2)] [] h r := by
  rw [fX5_isInner] at hF
  refine g_aload_n hX dX5_isInner_0 (i := 0) rfl (j := 0) rfl ?_
  refine g_iload_n hX dX5_isInner_1 (i := 1) rfl (j := 1) rfl ?_
  obtain ⟨v2, e2, hF⟩ := bi_some hF
  refine g_callV (As := [.int a1]) (rest := []) (stk := [.int v2]) hX dX5_isInner_2 (ctX5_has hM hW p0 a1 t0 e2) (by decide) (by decide) wm_X5_40 wi_X5_has ws_X5_has wz_X5 wc_X5_has hyX5_has rfl (ci := 5) rfl (by decide) t0.1 (hW.1 _ t0.2).1 (hW.1 _ t0.2).2 (Nat.le_of_ble_eq_true rfl) rfl rfl ?_ rfl rfl
  refine g_if_eq (tgt := 27) hX dX5_isInner_5 (by decide) (fun c5 => ?_) (fun c5 => ?_)
  · have hF := ite_t hF c5
    refine g_sub (L' := [(0, .ref (b + p0)), (1, .int a1), (2, .int a2)]) [0, 1, 2] rfl ?_
    exact kX5_isInner_b27 hX hM hW p0 a1 a2 t0 hR hF
  · have hF := ite_f hF c5
    refine g_aload_n hX dX5_isInner_8 (i := 0) rfl (j := 0) rfl ?_
    refine g_aload_n hX dX5_isInner_9 (i := 0) rfl (j := 0) rfl ?_
    have tf10 := (tyF (k := 1) hW t0 (by decide) rfl (by decide) : KA (r p0 1) = 9 ∧ ok (r p0 1))
    refine gf_X5_15 hX dX5_isInner_10 (ty1 hW t0) (hW.1 _ tf10.2).1 ?_
    refine g_iload_n hX dX5_isInner_13 (i := 1) rfl (j := 1) rfl ?_
    obtain ⟨g14, hF⟩ := gd_some hF
    refine g_iald hX dX5_isInner_14 tf10.1 (hW.1 _ tf10.2).1 (hW.1 _ tf10.2).2 g14 ?_
    refine g_iload_n hX dX5_isInner_15 (i := 2) rfl (j := 2) rfl ?_
    obtain ⟨v16, e16, hF⟩ := bi_some hF
    refine g_callV (As := [.int (h (r p0 1) (ix a1)), .int a2]) (rest := []) (stk := [.int v16]) hX dX5_isInner_16 (ctX5_stepsUp hM hW p0 (h (r p0 1) (ix a1)) a2 t0 e16) (by decide) (by decide) wm_X5_44 wi_X5_stepsUp ws_X5_stepsUp wz_X5 wc_X5_stepsUp hyX5_stepsUp rfl (ci := 5) rfl (by decide) t0.1 (hW.1 _ t0.2).1 (hW.1 _ t0.2).2 (Nat.le_of_ble_eq_true rfl) rfl rfl ?_ rfl rfl
    refine g_iconst (v := (-1)) hX dX5_isInner_19 (by decide) ?_
    refine g_icmp_eq (tgt := 27) hX dX5_isInner_20 (by decide) (fun c20 => ?_) (fun c20 => ?_)
    · have hF := ite_t hF c20
      refine g_sub (L' := [(0, .ref (b + p0)), (1, .int a1), (2, .int a2)]) [0, 1, 2] rfl ?_
      exact kX5_isInner_b27 hX hM hW p0 a1 a2 t0 hR hF
    · have hF := ite_f hF c20
      refine g_iconst (v := 1) hX dX5_isInner_23 (by decide) ?_
      refine g_goto (tgt := 28) hX dX5_isInner_24 (by decide) ?_
      obtain rfl := Option.some.inj hF
      exact g_zret hX dX5_isInner_28 (by decide) hR
theorem ctX5_isInner {b N sz : Nat} {ok : Nat → Prop} {h : HH} {r : RR} {w : Int32} (hM : N ≤ MA) (hW : WT KA lnA ok N r) (p0 : Nat) (a1 : Int32) (a2 : Int32) (t0 : KA p0 = 5 ∧ ok p0) (hF : fX5_isInner h r p0 a1 a2 = some w) : CT yX5_isInner cX5_isInner 3 (some FieldType.boolean) 2 b KA lnA MA N sz [.ref (b + p0), .int a1, .int a2] h r N sz (some (.int w)) h r 0 0 :=
  CT_of (by decide) rfl (Nat.le_of_ble_eq_true rfl) (by decide) trivial (fun X hX hR => kX5_isInner hX hM hW p0 a1 a2 t0 hR hF)
/-! X0_isKeptOn -/
def fX0_isKeptOn_b90 (h : HH) (r : RR) (p0 : Nat) (a1 : Int32) (a2 : Int32) (k29 : Nat → Int32 → Option (Int32)) (q3 : Nat) (x4 : Int32) : Option (Int32) := k29 q3 (x4 + 1)
def fX0_isKeptOn_b71 (h : HH) (r : RR) (p0 : Nat) (a1 : Int32) (a2 : Int32) (k29 : Nat → Int32 → Option (Int32)) (s0 : Int32) (q3 : Nat) (x4 : Int32) : Option (Int32) := if s0 = 0 then (fX0_isKeptOn_b90 h r p0 a1 a2 k29 q3 x4) else ((fX5_isInner h r q3 x4 a2).bind (fun v82 => if v82 = 0 then (fX0_isKeptOn_b90 h r p0 a1 a2 k29 q3 x4) else (some (1))))
def fX0_isKeptOn_b66 (h : HH) (r : RR) (p0 : Nat) (a1 : Int32) (a2 : Int32) (k29 : Nat → Int32 → Option (Int32)) (q3 : Nat) (x4 : Int32) : Option (Int32) := fX0_isKeptOn_b71 h r p0 a1 a2 k29 1 q3 x4
def fX0_isKeptOn_b29 (h : HH) (r : RR) (p0 : Nat) (a1 : Int32) (a2 : Int32) : Nat → Nat → Int32 → Option (Int32)
  | 0, _, _ => none
  | n + 1, q3, x4 => gwd (h p0 0) (fun q_32 => if (h q_32 0) ≤ x4 then (some (0)) else (gd (inb x4 (lnA (r p0 1))) (if ¬ (h (r p0 1) (ix x4)) = 0 then (fX0_isKeptOn_b66 h r p0 a1 a2 (fun z3_ z4_ => fX0_isKeptOn_b29 h r p0 a1 a2 n z3_ z4_) q3 x4) else (gd (inb a1 (lnA (r p0 2))) (gd (inb x4 (lnA (r (r p0 2) (ix a1)))) (if ((h (r (r p0 2) (ix a1)) (ix x4)) &&& 13) = 0 then (fX0_isKeptOn_b71 h r p0 a1 a2 (fun z3_ z4_ => fX0_isKeptOn_b29 h r p0 a1 a2 n z3_ z4_) 0 q3 x4) else (fX0_isKeptOn_b66 h r p0 a1 a2 (fun z3_ z4_ => fX0_isKeptOn_b29 h r p0 a1 a2 n z3_ z4_) q3 x4)))))))
def fX0_isKeptOn (h : HH) (r : RR) (p0 : Nat) (a1 : Int32) (a2 : Int32) : Option (Int32) := gd (inb a1 (lnA (r p0 2))) (gd (inb a2 (lnA (r (r p0 2) (ix a1)))) (if ((h (r (r p0 2) (ix a1)) (ix a2)) &&& 12) = 0 then (gwd (h p0 0) (fun q_17 => gd (inb a1 (lnA (r q_17 2))) (fX0_isKeptOn_b29 h r p0 a1 a2 lpF (r (r q_17 2) (ix a1)) 0))) else (some (1))))
set_option maxRecDepth 100000 in
set_option maxHeartbeats 4000000 in
theorem kX0_isKeptOn_b90 {X : XT} {b N sz : Nat} {ok : Nat → Prop} {h : HH} {r : RR} {w : Int32} (hX : XOK X RX0 cX0_isKeptOn 6 3) (hM : N ≤ MA) (hW : WT KA lnA ok N r) (hA : ∀ p, KA p < 16 → ok p) (p0 : Nat) (a1 : Int32) (a2 : Int32) (t0 : KA p0 = 0 ∧ ok p0) (hR : XR X b KA lnA MA (some FieldType.boolean) 0 0 N sz (some (.int w)) h r) (k29 : Nat → Int32 → Option (Int32)) (hk29 : ∀ (q3 : Nat) (x4 : Int32), (KA q3 = 5 ∧ ok q3) → k29 q3 x4 = some w → GX X b KA lnA MA 6 0 0 N sz 29 [(0, .ref (b + p0)), (1, .int a1), (2, .int a2), (3, .ref (b + q3)), (4, .int x4)] [] h r) (q3 : Nat) (x4 : Int32) (t3 : KA q3 = 5 ∧ ok q3) (hF : fX0_isKeptOn_b90 h r p0 a1 a2 k29 q3 x4 = some w) : GX X b KA lnA MA 6 0 0 N sz 90 [(0, .ref (b + p0)), (1, .int a1), (2, .int a2), (3, .ref (b + q3)), (4, .int x4)] [] h r := by
  rw [fX0_isKeptOn_b90] at hF
  refine g_iinc (L' := [(4, .int (x4 + 1)), (0, .ref (b + p0)), (1, .int a1), (2, .int a2), (3, .ref (b + q3))]) (j := 4) hX dX0_isKeptOn_90 rfl rfl (by decide) rfl ?_
  refine g_goto (tgt := 29) hX dX0_isKeptOn_93 (by decide) ?_
  refine g_sub (L' := [(0, .ref (b + p0)), (1, .int a1), (2, .int a2), (3, .ref (b + q3)), (4, .int (x4 + 1))]) [1, 2, 3, 4, 0] rfl ?_
  exact hk29 q3 (x4 + 1) t3 hF
set_option maxRecDepth 100000 in
set_option maxHeartbeats 4000000 in
theorem kX0_isKeptOn_b71 {X : XT} {b N sz : Nat} {ok : Nat → Prop} {h : HH} {r : RR} {w : Int32} (hX : XOK X RX0 cX0_isKeptOn 6 3) (hM : N ≤ MA) (hW : WT KA lnA ok N r) (hA : ∀ p, KA p < 16 → ok p) (p0 : Nat) (a1 : Int32) (a2 : Int32) (t0 : KA p0 = 0 ∧ ok p0) (hR : XR X b KA lnA MA (some FieldType.boolean) 0 0 N sz (some (.int w)) h r) (k29 : Nat → Int32 → Option (Int32)) (hk29 : ∀ (q3 : Nat) (x4 : Int32), (KA q3 = 5 ∧ ok q3) → k29 q3 x4 = some w → GX X b KA lnA MA 6 0 0 N sz 29 [(0, .ref (b + p0)), (1, .int a1), (2, .int a2), (3, .ref (b + q3)), (4, .int x4)] [] h r) (s0 : Int32) (q3 : Nat) (x4 : Int32) (t3 : KA q3 = 5 ∧ ok q3) (hF : fX0_isKeptOn_b71 h r p0 a1 a2 k29 s0 q3 x4 = some w) : GX X b KA lnA MA 6 0 0 N sz 71 [(0, .ref (b + p0)), (1, .int a1), (2, .int a2), (3, .ref (b + q3)), (4, .int x4)] [.int s0] h r := by
  rw [fX0_isKeptOn_b71] at hF
  refine g_istore (L' := [(5, .int s0), (0, .ref (b + p0)), (1, .int a1), (2, .int a2), (3, .ref (b + q3)), (4, .int x4)]) hX dX0_isKeptOn_71 (by decide) rfl ?_
  refine g_iload hX dX0_isKeptOn_73 (j := 0) rfl ?_
  refine g_if_eq (tgt := 90) hX dX0_isKeptOn_75 (by decide) (fun c75 => ?_) (fun c75 => ?_)
  · have hF := ite_t hF c75
    refine g_sub (L' := [(0, .ref (b + p0)), (1, .int a1), (2, .int a2), (3, .ref (b + q3)), (4, .int x4)]) [1, 2, 3, 4, 5] rfl ?_
    exact kX0_isKeptOn_b90 hX hM hW hA p0 a1 a2 t0 hR k29 hk29 q3 x4 t3 hF
  · have hF := ite_f hF c75
    refine g_aload_n hX dX0_isKeptOn_78 (i := 3) rfl (j := 4) rfl ?_
    refine g_iload hX dX0_isKeptOn_79 (j := 5) rfl ?_
    refine g_iload_n hX dX0_isKeptOn_81 (i := 2) rfl (j := 3) rfl ?_
    obtain ⟨v82, e82, hF⟩ := bi_some hF
    refine g_callV (As := [.int x4, .int a2]) (rest := []) (stk := [.int v82]) hX dX0_isKeptOn_82 (ctX5_isInner hM hW q3 x4 a2 t3 e82) (by decide) (by decide) wm_X0_116 wi_X5_isInner ws_X5_isInner wz_X5 wc_X5_isInner hyX5_isInner rfl (ci := 5) rfl (by decide) t3.1 (hW.1 _ t3.2).1 (hW.1 _ t3.2).2 (Nat.le_of_ble_eq_true rfl) rfl rfl ?_ rfl rfl
    refine g_if_eq (tgt := 90) hX dX0_isKeptOn_85 (by decide) (fun c85 => ?_) (fun c85 => ?_)
    · have hF := ite_t hF c85
      refine g_sub (L' := [(0, .ref (b + p0)), (1, .int a1), (2, .int a2), (3, .ref (b + q3)), (4, .int x4)]) [1, 2, 3, 4, 5] rfl ?_
      exact kX0_isKeptOn_b90 hX hM hW hA p0 a1 a2 t0 hR k29 hk29 q3 x4 t3 hF
    · have hF := ite_f hF c85
      refine g_iconst (v := 1) hX dX0_isKeptOn_88 (by decide) ?_
      obtain rfl := Option.some.inj hF
      exact g_zret hX dX0_isKeptOn_89 (by decide) hR
set_option maxRecDepth 100000 in
set_option maxHeartbeats 4000000 in
theorem kX0_isKeptOn_b66 {X : XT} {b N sz : Nat} {ok : Nat → Prop} {h : HH} {r : RR} {w : Int32} (hX : XOK X RX0 cX0_isKeptOn 6 3) (hM : N ≤ MA) (hW : WT KA lnA ok N r) (hA : ∀ p, KA p < 16 → ok p) (p0 : Nat) (a1 : Int32) (a2 : Int32) (t0 : KA p0 = 0 ∧ ok p0) (hR : XR X b KA lnA MA (some FieldType.boolean) 0 0 N sz (some (.int w)) h r) (k29 : Nat → Int32 → Option (Int32)) (hk29 : ∀ (q3 : Nat) (x4 : Int32), (KA q3 = 5 ∧ ok q3) → k29 q3 x4 = some w → GX X b KA lnA MA 6 0 0 N sz 29 [(0, .ref (b + p0)), (1, .int a1), (2, .int a2), (3, .ref (b + q3)), (4, .int x4)] [] h r) (q3 : Nat) (x4 : Int32) (t3 : KA q3 = 5 ∧ ok q3) (hF : fX0_isKeptOn_b66 h r p0 a1 a2 k29 q3 x4 = some w) : GX X b KA lnA MA 6 0 0 N sz 66 [(0, .ref (b + p0)), (1, .int a1), (2, .int a2), (3, .ref (b + q3)), (4, .int x4)] [] h r := by
  rw [fX0_isKeptOn_b66] at hF
  refine g_iconst (v := 1) hX dX0_isKeptOn_66 (by decide) ?_
  refine g_goto (tgt := 71) hX dX0_isKeptOn_67 (by decide) ?_
  refine g_sub (L' := [(0, .ref (b + p0)), (1, .int a1), (2, .int a2), (3, .ref (b + q3)), (4, .int x4)]) [0, 1, 2, 3, 4] rfl ?_
  exact kX0_isKeptOn_b71 hX hM hW hA p0 a1 a2 t0 hR k29 hk29 1 q3 x4 t3 hF
set_option maxRecDepth 100000 in
set_option maxHeartbeats 4000000 in
theorem kX0_isKeptOn_b29 {X : XT} {b N sz : Nat} {ok : Nat → Prop} {h : HH} {r : RR} {w : Int32} (hX : XOK X RX0 cX0_isKeptOn 6 3) (hM : N ≤ MA) (hW : WT KA lnA ok N r) (hA : ∀ p, KA p < 16 → ok p) (p0 : Nat) (a1 : Int32) (a2 : Int32) (t0 : KA p0 = 0 ∧ ok p0) (hR : XR X b KA lnA MA (some FieldType.boolean) 0 0 N sz (some (.int w)) h r) : ∀ (n : Nat) (q3 : Nat) (x4 : Int32), (KA q3 = 5 ∧ ok q3) → fX0_isKeptOn_b29 h r p0 a1 a2 n q3 x4 = some w → GX X b KA lnA MA 6 0 0 N sz 29 [(0, .ref (b + p0)), (1, .int a1), (2, .int a2), (3, .ref (b + q3)), (4, .int x4)] [] h r := by
  intro n
  induction n with
  | zero =>
    intro q3 x4 t3 hF
    cases hF
  | succ n ih =>
    intro q3 x4 t3 hF
    rw [fX0_isKeptOn_b29] at hF
    refine g_iload hX dX0_isKeptOn_29 (j := 4) rfl ?_
    refine g_aload_n hX dX0_isKeptOn_31 (i := 0) rfl (j := 0) rfl ?_
    obtain ⟨q_32, w32, z32, hF⟩ := gwd_some hF
    have tw32 := ty_w hA z32
    refine gw_X0_44 hX dX0_isKeptOn_32 (ty1 hW t0) w32 (hW.1 _ tw32.2).1 ?_
    refine gf_X0_86 hX dX0_isKeptOn_35 (ty1 hW tw32) ?_
    refine g_icmp_ge (tgt := 96) hX dX0_isKeptOn_38 (by decide) (fun c38 => ?_) (fun c38 => ?_)
    · have hF := ite_t hF c38
      refine g_iconst (v := 0) hX dX0_isKeptOn_96 (by decide) ?_
      obtain rfl := Option.some.inj hF
      exact g_zret hX dX0_isKeptOn_97 (by decide) hR
    · have hF := ite_f hF c38
      refine g_aload_n hX dX0_isKeptOn_41 (i := 0) rfl (j := 0) rfl ?_
      have tf42 := (tyF (k := 1) hW t0 (by decide) rfl (by decide) : KA (r p0 1) = 10 ∧ ok (r p0 1))
      refine gf_X0_9 hX dX0_isKeptOn_42 (ty1 hW t0) (hW.1 _ tf42.2).1 ?_
      refine g_iload hX dX0_isKeptOn_45 (j := 4) rfl ?_
      obtain ⟨g47, hF⟩ := gd_some hF
      refine g_bald hX dX0_isKeptOn_47 tf42.1 (hW.1 _ tf42.2).1 (hW.1 _ tf42.2).2 g47 ?_
      refine g_if_ne (tgt := 66) hX dX0_isKeptOn_48 (by decide) (fun c48 => ?_) (fun c48 => ?_)
      · have hF := ite_t hF c48
        refine g_sub (L' := [(0, .ref (b + p0)), (1, .int a1), (2, .int a2), (3, .ref (b + q3)), (4, .int x4)]) [0, 1, 2, 3, 4] rfl ?_
        exact kX0_isKeptOn_b66 hX hM hW hA p0 a1 a2 t0 hR (fun z3_ z4_ => fX0_isKeptOn_b29 h r p0 a1 a2 n z3_ z4_) ih q3 x4 t3 hF
      · have hF := ite_f hF (fun z => z c48)
        refine g_aload_n hX dX0_isKeptOn_51 (i := 0) rfl (j := 0) rfl ?_
        have tf52 := (tyF (k := 2) hW t0 (by decide) rfl (by decide) : KA (r p0 2) = 14 ∧ ok (r p0 2))
        refine gf_X0_17 hX dX0_isKeptOn_52 (ty1 hW t0) (hW.1 _ tf52.2).1 ?_
        refine g_iload_n hX dX0_isKeptOn_55 (i := 1) rfl (j := 1) rfl ?_
        obtain ⟨g56, hF⟩ := gd_some hF
        have ta56 : KA (r (r p0 2) (ix a1)) = 9 ∧ ok (r (r p0 2) (ix a1)) := tyA hW tf52 (by decide) rfl (by decide) g56
        refine g_aald hX dX0_isKeptOn_56 tf52.1 (by decide) (by decide) (hW.1 _ tf52.2).1 (hW.1 _ tf52.2).2 g56 (hW.1 _ ta56.2).1 ?_
        refine g_iload hX dX0_isKeptOn_57 (j := 4) rfl ?_
        obtain ⟨g59, hF⟩ := gd_some hF
        refine g_iald hX dX0_isKeptOn_59 ta56.1 (hW.1 _ ta56.2).1 (hW.1 _ ta56.2).2 g59 ?_
        refine g_bipush (v := 13) hX dX0_isKeptOn_60 (by decide) ?_
        refine g_iand hX dX0_isKeptOn_62 ?_
        refine g_if_eq (tgt := 70) hX dX0_isKeptOn_63 (by decide) (fun c63 => ?_) (fun c63 => ?_)
        · have hF := ite_t hF c63
          refine g_iconst (v := 0) hX dX0_isKeptOn_70 (by decide) ?_
          refine g_sub (L' := [(0, .ref (b + p0)), (1, .int a1), (2, .int a2), (3, .ref (b + q3)), (4, .int x4)]) [0, 1, 2, 3, 4] rfl ?_
          exact kX0_isKeptOn_b71 hX hM hW hA p0 a1 a2 t0 hR (fun z3_ z4_ => fX0_isKeptOn_b29 h r p0 a1 a2 n z3_ z4_) ih 0 q3 x4 t3 hF
        · have hF := ite_f hF c63
          refine g_sub (L' := [(0, .ref (b + p0)), (1, .int a1), (2, .int a2), (3, .ref (b + q3)), (4, .int x4)]) [0, 1, 2, 3, 4] rfl ?_
          exact kX0_isKeptOn_b66 hX hM hW hA p0 a1 a2 t0 hR (fun z3_ z4_ => fX0_isKeptOn_b29 h r p0 a1 a2 n z3_ z4_) ih q3 x4 t3 hF
set_option maxRecDepth 100000 in
set_option maxHeartbeats 4000000 in
theorem kX0_isKeptOn {X : XT} {b N sz : Nat} {ok : Nat → Prop} {h : HH} {r : RR} {w : Int32} (hX : XOK X RX0 cX0_isKeptOn 6 3) (hM : N ≤ MA) (hW : WT KA lnA ok N r) (hA : ∀ p, KA p < 16 → ok p) (p0 : Nat) (a1 : Int32) (a2 : Int32) (t0 : KA p0 = 0 ∧ ok p0) (hR : XR X b KA lnA MA (some FieldType.boolean) 0 0 N sz (some (.int w)) h r) (hF : fX0_isKeptOn h r p0 a1 a2 = some w) : GX X b KA lnA MA 6 0 0 N sz 0 [(0, .ref (b + p0)), (1, .int a1), (2, .int a2)] [] h r := by
  rw [fX0_isKeptOn] at hF
  refine g_aload_n hX dX0_isKeptOn_0 (i := 0) rfl (j := 0) rfl ?_
  have tf1 := (tyF (k := 2) hW t0 (by decide) rfl (by decide) : KA (r p0 2) = 14 ∧ ok (r p0 2))
  refine gf_X0_17 hX dX0_isKeptOn_1 (ty1 hW t0) (hW.1 _ tf1.2).1 ?_
  refine g_iload_n hX dX0_isKeptOn_4 (i := 1) rfl (j := 1) rfl ?_
  obtain ⟨g5, hF⟩ := gd_some hF
  have ta5 : KA (r (r p0 2) (ix a1)) = 9 ∧ ok (r (r p0 2) (ix a1)) := tyA hW tf1 (by decide) rfl (by decide) g5
  refine g_aald hX dX0_isKeptOn_5 tf1.1 (by decide) (by decide) (hW.1 _ tf1.2).1 (hW.1 _ tf1.2).2 g5 (hW.1 _ ta5.2).1 ?_
  refine g_iload_n hX dX0_isKeptOn_6 (i := 2) rfl (j := 2) rfl ?_
  obtain ⟨g7, hF⟩ := gd_some hF
  refine g_iald hX dX0_isKeptOn_7 ta5.1 (hW.1 _ ta5.2).1 (hW.1 _ ta5.2).2 g7 ?_
  refine g_bipush (v := 12) hX dX0_isKeptOn_8 (by decide) ?_
  refine g_iand hX dX0_isKeptOn_10 ?_
  refine g_if_eq (tgt := 16) hX dX0_isKeptOn_11 (by decide) (fun c11 => ?_) (fun c11 => ?_)
  · have hF := ite_t hF c11
    refine g_aload_n hX dX0_isKeptOn_16 (i := 0) rfl (j := 0) rfl ?_
    obtain ⟨q_17, w17, z17, hF⟩ := gwd_some hF
    have tw17 := ty_w hA z17
    refine gw_X0_44 hX dX0_isKeptOn_17 (ty1 hW t0) w17 (hW.1 _ tw17.2).1 ?_
    have tf20 := (tyF (k := 2) hW tw17 (by decide) rfl (by decide) : KA (r q_17 2) = 13 ∧ ok (r q_17 2))
    refine gf_X0_57 hX dX0_isKeptOn_20 (ty1 hW tw17) (hW.1 _ tf20.2).1 ?_
    refine g_iload_n hX dX0_isKeptOn_23 (i := 1) rfl (j := 1) rfl ?_
    obtain ⟨g24, hF⟩ := gd_some hF
    have ta24 : KA (r (r q_17 2) (ix a1)) = 5 ∧ ok (r (r q_17 2) (ix a1)) := tyA hW tf20 (by decide) rfl (by decide) g24
    refine g_aald hX dX0_isKeptOn_24 tf20.1 (by decide) (by decide) (hW.1 _ tf20.2).1 (hW.1 _ tf20.2).2 g24 (hW.1 _ ta24.2).1 ?_
    refine g_astore_n (L' := [(3, .ref (b + (r (r q_17 2) (ix a1)))), (0, .ref (b + p0)), (1, .int a1), (2, .int a2)]) hX dX0_isKeptOn_25 (i := 3) rfl (by decide) rfl ?_
    refine g_iconst (v := 0) hX dX0_isKeptOn_26 (by decide) ?_
    refine g_istore (L' := [(4, .int 0), (3, .ref (b + (r (r q_17 2) (ix a1)))), (0, .ref (b + p0)), (1, .int a1), (2, .int a2)]) hX dX0_isKeptOn_27 (by decide) rfl ?_
    refine g_sub (L' := [(0, .ref (b + p0)), (1, .int a1), (2, .int a2), (3, .ref (b + (r (r q_17 2) (ix a1)))), (4, .int 0)]) [2, 3, 4, 1, 0] rfl ?_
    exact kX0_isKeptOn_b29 hX hM hW hA p0 a1 a2 t0 hR lpF (r (r q_17 2) (ix a1)) 0 ta24 hF
  · have hF := ite_f hF c11
    refine g_iconst (v := 1) hX dX0_isKeptOn_14 (by decide) ?_
    obtain rfl := Option.some.inj hF
    exact g_zret hX dX0_isKeptOn_15 (by decide) hR
theorem ctX0_isKeptOn {b N sz : Nat} {ok : Nat → Prop} {h : HH} {r : RR} {w : Int32} (hM : N ≤ MA) (hW : WT KA lnA ok N r) (hA : ∀ p, KA p < 16 → ok p) (p0 : Nat) (a1 : Int32) (a2 : Int32) (t0 : KA p0 = 0 ∧ ok p0) (hF : fX0_isKeptOn h r p0 a1 a2 = some w) : CT yX0_isKeptOn cX0_isKeptOn 6 (some FieldType.boolean) 3 b KA lnA MA N sz [.ref (b + p0), .int a1, .int a2] h r N sz (some (.int w)) h r 0 0 :=
  CT_of (by decide) rfl (Nat.le_of_ble_eq_true rfl) (by decide) trivial (fun X hX hR => kX0_isKeptOn hX hM hW hA p0 a1 a2 t0 hR hF)
/-! X0_addClash -/
def fX0_addClash (h : HH) (r : RR) (p0 : Nat) (a1 : Int32) (a2 : Int32) : Option (HH) := if 150 ≤ (h p0 8) then (some h) else (gd (inb (h p0 8) (lnA (r p0 6))) (lt (up h (r p0 6) (ix (h p0 8)) a1) (fun h19 => gd (inb (h19 p0 8) (lnA (r p0 7))) (lt (up h19 (r p0 7) (ix (h19 p0 8)) a2) (fun h29 => lt (up h29 p0 8 ((h29 p0 8) + 1)) (fun h37 => some h37))))))
set_option maxRecDepth 100000 in
set_option maxHeartbeats 4000000 in
theorem kX0_addClash {X : XT} {b N sz : Nat} {ok : Nat → Prop} {h : HH} {r : RR} {w : HH} (hX : XOK X RX0 cX0_addClash 3 1) (hM : N ≤ MA) (hW : WT KA lnA ok N r) (p0 : Nat) (a1 : Int32) (a2 : Int32) (t0 : KA p0 = 0 ∧ ok p0) (hR : XR X b KA lnA MA (none) 0 0 N sz none w r) (hF : fX0_addClash h r p0 a1 a2 = some w) : GX X b KA lnA MA 3 0 0 N sz 0 [(0, .ref (b + p0)), (1, .int a1), (2, .int a2)] [] h r := by
  rw [fX0_addClash] at hF
  refine g_aload_n hX dX0_addClash_0 (i := 0) rfl (j := 0) rfl ?_
  refine gf_X0_41 hX dX0_addClash_1 (ty1 hW t0) ?_
  refine g_sipush (v := 150) hX dX0_addClash_4 (by decide) ?_
  refine g_icmp_ge (tgt := 40) hX dX0_addClash_7 (by decide) (fun c7 => ?_) (fun c7 => ?_)
  · have hF := ite_t hF c7
    obtain rfl := Option.some.inj hF
    exact g_vret hX dX0_addClash_40 hR
  · have hF := ite_f hF c7
    refine g_aload_n hX dX0_addClash_10 (i := 0) rfl (j := 0) rfl ?_
    have tf11 := (tyF (k := 6) hW t0 (by decide) rfl (by decide) : KA (r p0 6) = 9 ∧ ok (r p0 6))
    refine gf_X0_34 hX dX0_addClash_11 (ty1 hW t0) (hW.1 _ tf11.2).1 ?_
    refine g_aload_n hX dX0_addClash_14 (i := 0) rfl (j := 0) rfl ?_
    refine gf_X0_41 hX dX0_addClash_15 (ty1 hW t0) ?_
    refine g_iload_n hX dX0_addClash_18 (i := 1) rfl (j := 1) rfl ?_
    obtain ⟨g19, hF⟩ := gd_some hF
    obtain ⟨h19, e19, hF⟩ := lt_some hF
    refine g_iast hX dX0_addClash_19 tf11.1 (hW.1 _ tf11.2).1 (hW.1 _ tf11.2).2 hM g19 e19 ?_
    refine g_aload_n hX dX0_addClash_20 (i := 0) rfl (j := 0) rfl ?_
    have tf21 := (tyF (k := 7) hW t0 (by decide) rfl (by decide) : KA (r p0 7) = 9 ∧ ok (r p0 7))
    refine gf_X0_38 hX dX0_addClash_21 (ty1 hW t0) (hW.1 _ tf21.2).1 ?_
    refine g_aload_n hX dX0_addClash_24 (i := 0) rfl (j := 0) rfl ?_
    refine gf_X0_41 hX dX0_addClash_25 (ty1 hW t0) ?_
    refine g_iload_n hX dX0_addClash_28 (i := 2) rfl (j := 2) rfl ?_
    obtain ⟨g29, hF⟩ := gd_some hF
    obtain ⟨h29, e29, hF⟩ := lt_some hF
    refine g_iast hX dX0_addClash_29 tf21.1 (hW.1 _ tf21.2).1 (hW.1 _ tf21.2).2 hM g29 e29 ?_
    refine g_aload_n hX dX0_addClash_30 (i := 0) rfl (j := 0) rfl ?_
    refine g_dup hX dX0_addClash_31 rfl ?_
    refine gf_X0_41 hX dX0_addClash_32 (ty1 hW t0) ?_
    refine g_iconst (v := 1) hX dX0_addClash_35 (by decide) ?_
    refine g_iadd hX dX0_addClash_36 ?_
    obtain ⟨h37, e37, hF⟩ := lt_some hF
    refine pf_X0_41 hX dX0_addClash_37 (ty1 hW t0) hM e37 ?_
    obtain rfl := Option.some.inj hF
    exact g_vret hX dX0_addClash_40 hR
theorem ctX0_addClash {b N sz : Nat} {ok : Nat → Prop} {h : HH} {r : RR} {w : HH} (hM : N ≤ MA) (hW : WT KA lnA ok N r) (p0 : Nat) (a1 : Int32) (a2 : Int32) (t0 : KA p0 = 0 ∧ ok p0) (hF : fX0_addClash h r p0 a1 a2 = some w) : CT yX0_addClash cX0_addClash 3 (none) 1 b KA lnA MA N sz [.ref (b + p0), .int a1, .int a2] h r N sz none w r 0 0 :=
  CT_of (by decide) rfl (Nat.le_of_ble_eq_true rfl) (by decide) trivial (fun X hX hR => kX0_addClash hX hM hW p0 a1 a2 t0 hR hF)
/-! X5_put -/
def fX5_put (h : HH) (r : RR) (p0 : Nat) (a1 : Int32) (a2 : Int32) (a3 : Int32) (a4 : Int32) : Option (HH) := gd (inb a1 (lnA (r p0 0))) (lt (up h (r p0 0) (ix a1) (zn 1)) (fun h6 => gd (inb a1 (lnA (r p0 1))) (lt (up h6 (r p0 1) (ix a1) a2) (fun h13 => gd (inb a1 (lnA (r p0 2))) (lt (up h13 (r p0 2) (ix a1) a3) (fun h20 => gd (inb a1 (lnA (r p0 3))) (lt (up h20 (r p0 3) (ix a1) a4) (fun h28 => some h28))))))))
set_option maxRecDepth 100000 in
set_option maxHeartbeats 4000000 in
theorem kX5_put {X : XT} {b N sz : Nat} {ok : Nat → Prop} {h : HH} {r : RR} {w : HH} (hX : XOK X RX5 cX5_put 5 1) (hM : N ≤ MA) (hW : WT KA lnA ok N r) (p0 : Nat) (a1 : Int32) (a2 : Int32) (a3 : Int32) (a4 : Int32) (t0 : KA p0 = 5 ∧ ok p0) (hR : XR X b KA lnA MA (none) 0 0 N sz none w r) (hF : fX5_put h r p0 a1 a2 a3 a4 = some w) : GX X b KA lnA MA 5 0 0 N sz 0 [(0, .ref (b + p0)), (1, .int a1), (2, .int a2), (3, .int a3), (4, .int a4)] [] h r := by
  rw [fX5_put] at hF
  refine g_aload_n hX dX5_put_0 (i := 0) rfl (j := 0) rfl ?_
  have tf1 := (tyF (k := 0) hW t0 (by decide) rfl (by decide) : KA (r p0 0) = 10 ∧ ok (r p0 0))
  refine gf_X5_9 hX dX5_put_1 (ty1 hW t0) (hW.1 _ tf1.2).1 ?_
  refine g_iload_n hX dX5_put_4 (i := 1) rfl (j := 1) rfl ?_
  refine g_iconst (v := 1) hX dX5_put_5 (by decide) ?_
  obtain ⟨g6, hF⟩ := gd_some hF
  obtain ⟨h6, e6, hF⟩ := lt_some hF
  refine g_bast hX dX5_put_6 tf1.1 (hW.1 _ tf1.2).1 (hW.1 _ tf1.2).2 hM g6 e6 ?_
  refine g_aload_n hX dX5_put_7 (i := 0) rfl (j := 0) rfl ?_
  have tf8 := (tyF (k := 1) hW t0 (by decide) rfl (by decide) : KA (r p0 1) = 9 ∧ ok (r p0 1))
  refine gf_X5_15 hX dX5_put_8 (ty1 hW t0) (hW.1 _ tf8.2).1 ?_
  refine g_iload_n hX dX5_put_11 (i := 1) rfl (j := 1) rfl ?_
  refine g_iload_n hX dX5_put_12 (i := 2) rfl (j := 2) rfl ?_
  obtain ⟨g13, hF⟩ := gd_some hF
  obtain ⟨h13, e13, hF⟩ := lt_some hF
  refine g_iast hX dX5_put_13 tf8.1 (hW.1 _ tf8.2).1 (hW.1 _ tf8.2).2 hM g13 e13 ?_
  refine g_aload_n hX dX5_put_14 (i := 0) rfl (j := 0) rfl ?_
  have tf15 := (tyF (k := 2) hW t0 (by decide) rfl (by decide) : KA (r p0 2) = 9 ∧ ok (r p0 2))
  refine gf_X5_19 hX dX5_put_15 (ty1 hW t0) (hW.1 _ tf15.2).1 ?_
  refine g_iload_n hX dX5_put_18 (i := 1) rfl (j := 1) rfl ?_
  refine g_iload_n hX dX5_put_19 (i := 3) rfl (j := 3) rfl ?_
  obtain ⟨g20, hF⟩ := gd_some hF
  obtain ⟨h20, e20, hF⟩ := lt_some hF
  refine g_iast hX dX5_put_20 tf15.1 (hW.1 _ tf15.2).1 (hW.1 _ tf15.2).2 hM g20 e20 ?_
  refine g_aload_n hX dX5_put_21 (i := 0) rfl (j := 0) rfl ?_
  have tf22 := (tyF (k := 3) hW t0 (by decide) rfl (by decide) : KA (r p0 3) = 9 ∧ ok (r p0 3))
  refine gf_X5_22 hX dX5_put_22 (ty1 hW t0) (hW.1 _ tf22.2).1 ?_
  refine g_iload_n hX dX5_put_25 (i := 1) rfl (j := 1) rfl ?_
  refine g_iload hX dX5_put_26 (j := 4) rfl ?_
  obtain ⟨g28, hF⟩ := gd_some hF
  obtain ⟨h28, e28, hF⟩ := lt_some hF
  refine g_iast hX dX5_put_28 tf22.1 (hW.1 _ tf22.2).1 (hW.1 _ tf22.2).2 hM g28 e28 ?_
  obtain rfl := Option.some.inj hF
  exact g_vret hX dX5_put_29 hR
theorem ctX5_put {b N sz : Nat} {ok : Nat → Prop} {h : HH} {r : RR} {w : HH} (hM : N ≤ MA) (hW : WT KA lnA ok N r) (p0 : Nat) (a1 : Int32) (a2 : Int32) (a3 : Int32) (a4 : Int32) (t0 : KA p0 = 5 ∧ ok p0) (hF : fX5_put h r p0 a1 a2 a3 a4 = some w) : CT yX5_put cX5_put 5 (none) 1 b KA lnA MA N sz [.ref (b + p0), .int a1, .int a2, .int a3, .int a4] h r N sz none w r 0 0 :=
  CT_of (by decide) rfl (Nat.le_of_ble_eq_true rfl) (by decide) trivial (fun X hX hR => kX5_put hX hM hW p0 a1 a2 a3 a4 t0 hR hF)
/-! X0_decideWho -/
def fX0_decideWho_b131 (r : RR) (p0 : Nat) (k2 : HH → Int32 → Option (HH)) (h : HH) (x1 : Int32) : Option (HH) := k2 h (x1 + 1)
def fX0_decideWho_b116 (r : RR) (p0 : Nat) (k2 : HH → Int32 → Option (HH)) (h : HH) (x1 : Int32) (x2 : Int32) : Option (HH) := if x2 = 0 then (fX0_decideWho_b131 r p0 k2 h x1) else ((fX5_put h r (r p0 3) x1 (-1) (-1) 0).bind (fun h128 => fX0_decideWho_b131 r p0 k2 h128 x1))
def fX0_decideWho_b101 (r : RR) (p0 : Nat) (k2 : HH → Int32 → Option (HH)) (h : HH) (u0 : Nat) (s1 : Int32) (x1 : Int32) : Option (HH) := (fX0_isKeptOn h r u0 s1 x1).bind (fun v102 => if v102 = 0 then (fX0_decideWho_b116 r p0 k2 h x1 v102) else ((fX0_addClash h r p0 0 x1).bind (fun h113 => fX0_decideWho_b116 r p0 k2 h113 x1 v102)))
def fX0_decideWho_b83 (r : RR) (p0 : Nat) (k2 : HH → Int32 → Option (HH)) (h : HH) (x1 : Int32) : Option (HH) := gd (inb 0 (lnA (r p0 2))) (gd (inb x1 (lnA (r (r p0 2) (ix 0)))) (if ¬ (h (r (r p0 2) (ix 0)) (ix x1)) = 2 then (fX0_decideWho_b101 r p0 k2 h p0 0 x1) else (fX0_decideWho_b101 r p0 k2 h p0 1 x1)))
def fX0_decideWho_b57 (r : RR) (p0 : Nat) (k2 : HH → Int32 → Option (HH)) (h : HH) (x1 : Int32) : Option (HH) := gd (inb 0 (lnA (r p0 2))) (gd (inb x1 (lnA (r (r p0 2) (ix 0)))) (if (h (r (r p0 2) (ix 0)) (ix x1)) = 2 then (fX0_decideWho_b83 r p0 k2 h x1) else (gd (inb 1 (lnA (r p0 2))) (gd (inb x1 (lnA (r (r p0 2) (ix 1)))) (if ¬ (h (r (r p0 2) (ix 1)) (ix x1)) = 2 then (fX0_decideWho_b116 r p0 k2 h x1 1) else (fX0_decideWho_b83 r p0 k2 h x1))))))
def fX0_decideWho_b2 (r : RR) (p0 : Nat) : Nat → HH → Int32 → Option (HH)
  | 0, _, _ => none
  | n + 1, h, x1 => gwd (h p0 0) (fun q_4 => if (h q_4 0) ≤ x1 then (some h) else (gd (inb x1 (lnA (r p0 1))) (if ¬ (h (r p0 1) (ix x1)) = 0 then (fX0_decideWho_b131 r p0 (fun h_ z1_ => fX0_decideWho_b2 r p0 n h_ z1_) h x1) else (gwd (h p0 0) (fun q_23 => gd (inb 0 (lnA (r q_23 2))) ((fX5_has h r (r (r q_23 2) (ix 0)) x1).bind (fun v32 => if ¬ v32 = 0 then (fX0_decideWho_b57 r p0 (fun h_ z1_ => fX0_decideWho_b2 r p0 n h_ z1_) h x1) else (gwd (h p0 0) (fun q_39 => gd (inb 1 (lnA (r q_39 2))) ((fX5_has h r (r (r q_39 2) (ix 1)) x1).bind (fun v48 => if ¬ v48 = 0 then (fX0_decideWho_b57 r p0 (fun h_ z1_ => fX0_decideWho_b2 r p0 n h_ z1_) h x1) else (fX0_decideWho_b131 r p0 (fun h_ z1_ => fX0_decideWho_b2 r p0 n h_ z1_) h x1))))))))))))
def fX0_decideWho (h : HH) (r : RR) (p0 : Nat) : Option (HH) := fX0_decideWho_b2 r p0 lpF h 0
set_option maxRecDepth 100000 in
set_option maxHeartbeats 4000000 in
theorem kX0_decideWho_b131 {X : XT} {b N sz : Nat} {ok : Nat → Prop} {r : RR} {w : HH} (hX : XOK X RX0 cX0_decideWho 3 4) (hM : N ≤ MA) (hW : WT KA lnA ok N r) (hA : ∀ p, KA p < 16 → ok p) (p0 : Nat) (t0 : KA p0 = 0 ∧ ok p0) (hR : XR X b KA lnA MA (none) 0 0 N sz none w r) (k2 : HH → Int32 → Option (HH)) (hk2 : ∀ (h : HH) (x1 : Int32), k2 h x1 = some w → GX X b KA lnA MA 3 0 0 N sz 2 [(0, .ref (b + p0)), (1, .int x1)] [] h r) (h : HH) (x1 : Int32) (hF : fX0_decideWho_b131 r p0 k2 h x1 = some w) : GX X b KA lnA MA 3 0 0 N sz 131 [(0, .ref (b + p0)), (1, .int x1)] [] h r := by
  rw [fX0_decideWho_b131] at hF
  refine g_iinc (L' := [(1, .int (x1 + 1)), (0, .ref (b + p0))]) (j := 1) hX dX0_decideWho_131 rfl rfl (by decide) rfl ?_
  refine g_goto (tgt := 2) hX dX0_decideWho_134 (by decide) ?_
  refine g_sub (L' := [(0, .ref (b + p0)), (1, .int (x1 + 1))]) [1, 0] rfl ?_
  exact hk2 h (x1 + 1) hF
set_option maxRecDepth 100000 in
set_option maxHeartbeats 4000000 in
theorem kX0_decideWho_b116 {X : XT} {b N sz : Nat} {ok : Nat → Prop} {r : RR} {w : HH} (hX : XOK X RX0 cX0_decideWho 3 4) (hM : N ≤ MA) (hW : WT KA lnA ok N r) (hA : ∀ p, KA p < 16 → ok p) (p0 : Nat) (t0 : KA p0 = 0 ∧ ok p0) (hR : XR X b KA lnA MA (none) 0 0 N sz none w r) (k2 : HH → Int32 → Option (HH)) (hk2 : ∀ (h : HH) (x1 : Int32), k2 h x1 = some w → GX X b KA lnA MA 3 0 0 N sz 2 [(0, .ref (b + p0)), (1, .int x1)] [] h r) (h : HH) (x1 : Int32) (x2 : Int32) (hF : fX0_decideWho_b116 r p0 k2 h x1 x2 = some w) : GX X b KA lnA MA 3 0 0 N sz 116 [(0, .ref (b + p0)), (1, .int x1), (2, .int x2)] [] h r := by
  rw [fX0_decideWho_b116] at hF
  refine g_iload_n hX dX0_decideWho_116 (i := 2) rfl (j := 2) rfl ?_
  refine g_if_eq (tgt := 131) hX dX0_decideWho_117 (by decide) (fun c117 => ?_) (fun c117 => ?_)
  · have hF := ite_t hF c117
    refine g_sub (L' := [(0, .ref (b + p0)), (1, .int x1)]) [0, 1] rfl ?_
    exact kX0_decideWho_b131 hX hM hW hA p0 t0 hR k2 hk2 h x1 hF
  · have hF := ite_f hF c117
    refine g_aload_n hX dX0_decideWho_120 (i := 0) rfl (j := 0) rfl ?_
    have tf121 := (tyF (k := 3) hW t0 (by decide) rfl (by decide) : KA (r p0 3) = 5 ∧ ok (r p0 3))
    refine gf_X0_23 hX dX0_decideWho_121 (ty1 hW t0) (hW.1 _ tf121.2).1 ?_
    refine g_iload_n hX dX0_decideWho_124 (i := 1) rfl (j := 1) rfl ?_
    refine g_iconst (v := (-1)) hX dX0_decideWho_125 (by decide) ?_
    refine g_iconst (v := (-1)) hX dX0_decideWho_126 (by decide) ?_
    refine g_iconst (v := 0) hX dX0_decideWho_127 (by decide) ?_
    obtain ⟨h128, e128, hF⟩ := bi_some hF
    refine g_callV (As := [.int x1, .int (-1), .int (-1), .int 0]) (rest := []) (stk := []) hX dX0_decideWho_128 (ctX5_put hM hW (r p0 3) x1 (-1) (-1) 0 tf121 e128) (by decide) (by decide) wm_X0_112 wi_X5_put ws_X5_put wz_X5 wc_X5_put hyX5_put rfl (ci := 5) rfl (by decide) tf121.1 (hW.1 _ tf121.2).1 (hW.1 _ tf121.2).2 (Nat.le_of_ble_eq_true rfl) rfl rfl ?_ rfl rfl
    refine g_sub (L' := [(0, .ref (b + p0)), (1, .int x1)]) [0, 1] rfl ?_
    exact kX0_decideWho_b131 hX hM hW hA p0 t0 hR k2 hk2 h128 x1 hF
set_option maxRecDepth 100000 in
set_option maxHeartbeats 4000000 in
theorem kX0_decideWho_b101 {X : XT} {b N sz : Nat} {ok : Nat → Prop} {r : RR} {w : HH} (hX : XOK X RX0 cX0_decideWho 3 4) (hM : N ≤ MA) (hW : WT KA lnA ok N r) (hA : ∀ p, KA p < 16 → ok p) (p0 : Nat) (t0 : KA p0 = 0 ∧ ok p0) (hR : XR X b KA lnA MA (none) 0 0 N sz none w r) (k2 : HH → Int32 → Option (HH)) (hk2 : ∀ (h : HH) (x1 : Int32), k2 h x1 = some w → GX X b KA lnA MA 3 0 0 N sz 2 [(0, .ref (b + p0)), (1, .int x1)] [] h r) (h : HH) (u0 : Nat) (s1 : Int32) (x1 : Int32) (ts0 : KA u0 = 0 ∧ ok u0) (hF : fX0_decideWho_b101 r p0 k2 h u0 s1 x1 = some w) : GX X b KA lnA MA 3 0 0 N sz 101 [(0, .ref (b + p0)), (1, .int x1)] [.int s1, .ref (b + u0)] h r := by
  rw [fX0_decideWho_b101] at hF
  refine g_iload_n hX dX0_decideWho_101 (i := 1) rfl (j := 1) rfl ?_
  obtain ⟨v102, e102, hF⟩ := bi_some hF
  refine g_callV (As := [.int s1, .int x1]) (rest := []) (stk := [.int v102]) hX dX0_decideWho_102 (ctX0_isKeptOn hM hW hA u0 s1 x1 ts0 e102) (by decide) (by decide) wm_X0_105 wi_X0_isKeptOn ws_X0_isKeptOn wz_X0 wc_X0_isKeptOn hyX0_isKeptOn rfl (ci := 0) rfl (by decide) ts0.1 (hW.1 _ ts0.2).1 (hW.1 _ ts0.2).2 (Nat.le_of_ble_eq_true rfl) rfl rfl ?_ rfl rfl
  refine g_istore_n (L' := [(2, .int v102), (0, .ref (b + p0)), (1, .int x1)]) hX dX0_decideWho_105 (i := 2) rfl (by decide) rfl ?_
  refine g_iload_n hX dX0_decideWho_106 (i := 2) rfl (j := 0) rfl ?_
  refine g_if_eq (tgt := 116) hX dX0_decideWho_107 (by decide) (fun c107 => ?_) (fun c107 => ?_)
  · have hF := ite_t hF c107
    refine g_sub (L' := [(0, .ref (b + p0)), (1, .int x1), (2, .int v102)]) [1, 2, 0] rfl ?_
    exact kX0_decideWho_b116 hX hM hW hA p0 t0 hR k2 hk2 h x1 v102 hF
  · have hF := ite_f hF c107
    refine g_aload_n hX dX0_decideWho_110 (i := 0) rfl (j := 1) rfl ?_
    refine g_iconst (v := 0) hX dX0_decideWho_111 (by decide) ?_
    refine g_iload_n hX dX0_decideWho_112 (i := 1) rfl (j := 2) rfl ?_
    obtain ⟨h113, e113, hF⟩ := bi_some hF
    refine g_callV (As := [.int 0, .int x1]) (rest := []) (stk := []) hX dX0_decideWho_113 (ctX0_addClash hM hW p0 0 x1 t0 e113) (by decide) (by decide) wm_X0_108 wi_X0_addClash ws_X0_addClash wz_X0 wc_X0_addClash hyX0_addClash rfl (ci := 0) rfl (by decide) t0.1 (hW.1 _ t0.2).1 (hW.1 _ t0.2).2 (Nat.le_of_ble_eq_true rfl) rfl rfl ?_ rfl rfl
    refine g_sub (L' := [(0, .ref (b + p0)), (1, .int x1), (2, .int v102)]) [1, 2, 0] rfl ?_
    exact kX0_decideWho_b116 hX hM hW hA p0 t0 hR k2 hk2 h113 x1 v102 hF
set_option maxRecDepth 100000 in
set_option maxHeartbeats 4000000 in
theorem kX0_decideWho_b83 {X : XT} {b N sz : Nat} {ok : Nat → Prop} {r : RR} {w : HH} (hX : XOK X RX0 cX0_decideWho 3 4) (hM : N ≤ MA) (hW : WT KA lnA ok N r) (hA : ∀ p, KA p < 16 → ok p) (p0 : Nat) (t0 : KA p0 = 0 ∧ ok p0) (hR : XR X b KA lnA MA (none) 0 0 N sz none w r) (k2 : HH → Int32 → Option (HH)) (hk2 : ∀ (h : HH) (x1 : Int32), k2 h x1 = some w → GX X b KA lnA MA 3 0 0 N sz 2 [(0, .ref (b + p0)), (1, .int x1)] [] h r) (h : HH) (x1 : Int32) (hF : fX0_decideWho_b83 r p0 k2 h x1 = some w) : GX X b KA lnA MA 3 0 0 N sz 83 [(0, .ref (b + p0)), (1, .int x1)] [] h r := by
  rw [fX0_decideWho_b83] at hF
  refine g_aload_n hX dX0_decideWho_83 (i := 0) rfl (j := 0) rfl ?_
  refine g_aload_n hX dX0_decideWho_84 (i := 0) rfl (j := 0) rfl ?_
  have tf85 := (tyF (k := 2) hW t0 (by decide) rfl (by decide) : KA (r p0 2) = 14 ∧ ok (r p0 2))
  refine gf_X0_17 hX dX0_decideWho_85 (ty1 hW t0) (hW.1 _ tf85.2).1 ?_
  refine g_iconst (v := 0) hX dX0_decideWho_88 (by decide) ?_
  obtain ⟨g89, hF⟩ := gd_some hF
  have ta89 : KA (r (r p0 2) (ix 0)) = 9 ∧ ok (r (r p0 2) (ix 0)) := tyA hW tf85 (by decide) rfl (by decide) g89
  refine g_aald hX dX0_decideWho_89 tf85.1 (by decide) (by decide) (hW.1 _ tf85.2).1 (hW.1 _ tf85.2).2 g89 (hW.1 _ ta89.2).1 ?_
  refine g_iload_n hX dX0_decideWho_90 (i := 1) rfl (j := 1) rfl ?_
  obtain ⟨g91, hF⟩ := gd_some hF
  refine g_iald hX dX0_decideWho_91 ta89.1 (hW.1 _ ta89.2).1 (hW.1 _ ta89.2).2 g91 ?_
  refine g_iconst (v := 2) hX dX0_decideWho_92 (by decide) ?_
  refine g_icmp_ne (tgt := 100) hX dX0_decideWho_93 (by decide) (fun c93 => ?_) (fun c93 => ?_)
  · have hF := ite_t hF c93
    refine g_iconst (v := 0) hX dX0_decideWho_100 (by decide) ?_
    refine g_sub (L' := [(0, .ref (b + p0)), (1, .int x1)]) [0, 1] rfl ?_
    exact kX0_decideWho_b101 hX hM hW hA p0 t0 hR k2 hk2 h p0 0 x1 t0 hF
  · have hF := ite_f hF (fun z => z c93)
    refine g_iconst (v := 1) hX dX0_decideWho_96 (by decide) ?_
    refine g_goto (tgt := 101) hX dX0_decideWho_97 (by decide) ?_
    refine g_sub (L' := [(0, .ref (b + p0)), (1, .int x1)]) [0, 1] rfl ?_
    exact kX0_decideWho_b101 hX hM hW hA p0 t0 hR k2 hk2 h p0 1 x1 t0 hF
set_option maxRecDepth 100000 in
set_option maxHeartbeats 4000000 in
theorem kX0_decideWho_b57 {X : XT} {b N sz : Nat} {ok : Nat → Prop} {r : RR} {w : HH} (hX : XOK X RX0 cX0_decideWho 3 4) (hM : N ≤ MA) (hW : WT KA lnA ok N r) (hA : ∀ p, KA p < 16 → ok p) (p0 : Nat) (t0 : KA p0 = 0 ∧ ok p0) (hR : XR X b KA lnA MA (none) 0 0 N sz none w r) (k2 : HH → Int32 → Option (HH)) (hk2 : ∀ (h : HH) (x1 : Int32), k2 h x1 = some w → GX X b KA lnA MA 3 0 0 N sz 2 [(0, .ref (b + p0)), (1, .int x1)] [] h r) (h : HH) (x1 : Int32) (hF : fX0_decideWho_b57 r p0 k2 h x1 = some w) : GX X b KA lnA MA 3 0 0 N sz 57 [(0, .ref (b + p0)), (1, .int x1)] [] h r := by
  rw [fX0_decideWho_b57] at hF
  refine g_iconst (v := 1) hX dX0_decideWho_57 (by decide) ?_
  refine g_istore_n (L' := [(2, .int 1), (0, .ref (b + p0)), (1, .int x1)]) hX dX0_decideWho_58 (i := 2) rfl (by decide) rfl ?_
  refine g_aload_n hX dX0_decideWho_59 (i := 0) rfl (j := 1) rfl ?_
  have tf60 := (tyF (k := 2) hW t0 (by decide) rfl (by decide) : KA (r p0 2) = 14 ∧ ok (r p0 2))
  refine gf_X0_17 hX dX0_decideWho_60 (ty1 hW t0) (hW.1 _ tf60.2).1 ?_
  refine g_iconst (v := 0) hX dX0_decideWho_63 (by decide) ?_
  obtain ⟨g64, hF⟩ := gd_some hF
  have ta64 : KA (r (r p0 2) (ix 0)) = 9 ∧ ok (r (r p0 2) (ix 0)) := tyA hW tf60 (by decide) rfl (by decide) g64
  refine g_aald hX dX0_decideWho_64 tf60.1 (by decide) (by decide) (hW.1 _ tf60.2).1 (hW.1 _ tf60.2).2 g64 (hW.1 _ ta64.2).1 ?_
  refine g_iload_n hX dX0_decideWho_65 (i := 1) rfl (j := 2) rfl ?_
  obtain ⟨g66, hF⟩ := gd_some hF
  refine g_iald hX dX0_decideWho_66 ta64.1 (hW.1 _ ta64.2).1 (hW.1 _ ta64.2).2 g66 ?_
  refine g_iconst (v := 2) hX dX0_decideWho_67 (by decide) ?_
  refine g_icmp_eq (tgt := 83) hX dX0_decideWho_68 (by decide) (fun c68 => ?_) (fun c68 => ?_)
  · have hF := ite_t hF c68
    refine g_sub (L' := [(0, .ref (b + p0)), (1, .int x1)]) [1, 2] rfl ?_
    exact kX0_decideWho_b83 hX hM hW hA p0 t0 hR k2 hk2 h x1 hF
  · have hF := ite_f hF c68
    refine g_aload_n hX dX0_decideWho_71 (i := 0) rfl (j := 1) rfl ?_
    have tf72 := (tyF (k := 2) hW t0 (by decide) rfl (by decide) : KA (r p0 2) = 14 ∧ ok (r p0 2))
    refine gf_X0_17 hX dX0_decideWho_72 (ty1 hW t0) (hW.1 _ tf72.2).1 ?_
    refine g_iconst (v := 1) hX dX0_decideWho_75 (by decide) ?_
    obtain ⟨g76, hF⟩ := gd_some hF
    have ta76 : KA (r (r p0 2) (ix 1)) = 9 ∧ ok (r (r p0 2) (ix 1)) := tyA hW tf72 (by decide) rfl (by decide) g76
    refine g_aald hX dX0_decideWho_76 tf72.1 (by decide) (by decide) (hW.1 _ tf72.2).1 (hW.1 _ tf72.2).2 g76 (hW.1 _ ta76.2).1 ?_
    refine g_iload_n hX dX0_decideWho_77 (i := 1) rfl (j := 2) rfl ?_
    obtain ⟨g78, hF⟩ := gd_some hF
    refine g_iald hX dX0_decideWho_78 ta76.1 (hW.1 _ ta76.2).1 (hW.1 _ ta76.2).2 g78 ?_
    refine g_iconst (v := 2) hX dX0_decideWho_79 (by decide) ?_
    refine g_icmp_ne (tgt := 116) hX dX0_decideWho_80 (by decide) (fun c80 => ?_) (fun c80 => ?_)
    · have hF := ite_t hF c80
      refine g_sub (L' := [(0, .ref (b + p0)), (1, .int x1), (2, .int 1)]) [1, 2, 0] rfl ?_
      exact kX0_decideWho_b116 hX hM hW hA p0 t0 hR k2 hk2 h x1 1 hF
    · have hF := ite_f hF (fun z => z c80)
      refine g_sub (L' := [(0, .ref (b + p0)), (1, .int x1)]) [1, 2] rfl ?_
      exact kX0_decideWho_b83 hX hM hW hA p0 t0 hR k2 hk2 h x1 hF
set_option maxRecDepth 100000 in
set_option maxHeartbeats 4000000 in
theorem kX0_decideWho_b2 {X : XT} {b N sz : Nat} {ok : Nat → Prop} {r : RR} {w : HH} (hX : XOK X RX0 cX0_decideWho 3 4) (hM : N ≤ MA) (hW : WT KA lnA ok N r) (hA : ∀ p, KA p < 16 → ok p) (p0 : Nat) (t0 : KA p0 = 0 ∧ ok p0) (hR : XR X b KA lnA MA (none) 0 0 N sz none w r) : ∀ (n : Nat) (h : HH) (x1 : Int32), fX0_decideWho_b2 r p0 n h x1 = some w → GX X b KA lnA MA 3 0 0 N sz 2 [(0, .ref (b + p0)), (1, .int x1)] [] h r := by
  intro n
  induction n with
  | zero =>
    intro h x1 hF
    cases hF
  | succ n ih =>
    intro h x1 hF
    rw [fX0_decideWho_b2] at hF
    refine g_iload_n hX dX0_decideWho_2 (i := 1) rfl (j := 1) rfl ?_
    refine g_aload_n hX dX0_decideWho_3 (i := 0) rfl (j := 0) rfl ?_
    obtain ⟨q_4, w4, z4, hF⟩ := gwd_some hF
    have tw4 := ty_w hA z4
    refine gw_X0_44 hX dX0_decideWho_4 (ty1 hW t0) w4 (hW.1 _ tw4.2).1 ?_
    refine gf_X0_86 hX dX0_decideWho_7 (ty1 hW tw4) ?_
    refine g_icmp_ge (tgt := 137) hX dX0_decideWho_10 (by decide) (fun c10 => ?_) (fun c10 => ?_)
    · have hF := ite_t hF c10
      obtain rfl := Option.some.inj hF
      exact g_vret hX dX0_decideWho_137 hR
    · have hF := ite_f hF c10
      refine g_aload_n hX dX0_decideWho_13 (i := 0) rfl (j := 0) rfl ?_
      have tf14 := (tyF (k := 1) hW t0 (by decide) rfl (by decide) : KA (r p0 1) = 10 ∧ ok (r p0 1))
      refine gf_X0_9 hX dX0_decideWho_14 (ty1 hW t0) (hW.1 _ tf14.2).1 ?_
      refine g_iload_n hX dX0_decideWho_17 (i := 1) rfl (j := 1) rfl ?_
      obtain ⟨g18, hF⟩ := gd_some hF
      refine g_bald hX dX0_decideWho_18 tf14.1 (hW.1 _ tf14.2).1 (hW.1 _ tf14.2).2 g18 ?_
      refine g_if_ne (tgt := 131) hX dX0_decideWho_19 (by decide) (fun c19 => ?_) (fun c19 => ?_)
      · have hF := ite_t hF c19
        refine g_sub (L' := [(0, .ref (b + p0)), (1, .int x1)]) [0, 1] rfl ?_
        exact kX0_decideWho_b131 hX hM hW hA p0 t0 hR (fun h_ z1_ => fX0_decideWho_b2 r p0 n h_ z1_) ih h x1 hF
      · have hF := ite_f hF (fun z => z c19)
        refine g_aload_n hX dX0_decideWho_22 (i := 0) rfl (j := 0) rfl ?_
        obtain ⟨q_23, w23, z23, hF⟩ := gwd_some hF
        have tw23 := ty_w hA z23
        refine gw_X0_44 hX dX0_decideWho_23 (ty1 hW t0) w23 (hW.1 _ tw23.2).1 ?_
        have tf26 := (tyF (k := 2) hW tw23 (by decide) rfl (by decide) : KA (r q_23 2) = 13 ∧ ok (r q_23 2))
        refine gf_X0_57 hX dX0_decideWho_26 (ty1 hW tw23) (hW.1 _ tf26.2).1 ?_
        refine g_iconst (v := 0) hX dX0_decideWho_29 (by decide) ?_
        obtain ⟨g30, hF⟩ := gd_some hF
        have ta30 : KA (r (r q_23 2) (ix 0)) = 5 ∧ ok (r (r q_23 2) (ix 0)) := tyA hW tf26 (by decide) rfl (by decide) g30
        refine g_aald hX dX0_decideWho_30 tf26.1 (by decide) (by decide) (hW.1 _ tf26.2).1 (hW.1 _ tf26.2).2 g30 (hW.1 _ ta30.2).1 ?_
        refine g_iload_n hX dX0_decideWho_31 (i := 1) rfl (j := 1) rfl ?_
        obtain ⟨v32, e32, hF⟩ := bi_some hF
        refine g_callV (As := [.int x1]) (rest := []) (stk := [.int v32]) hX dX0_decideWho_32 (ctX5_has hM hW (r (r q_23 2) (ix 0)) x1 ta30 e32) (by decide) (by decide) wm_X0_72 wi_X5_has ws_X5_has wz_X5 wc_X5_has hyX5_has rfl (ci := 5) rfl (by decide) ta30.1 (hW.1 _ ta30.2).1 (hW.1 _ ta30.2).2 (Nat.le_of_ble_eq_true rfl) rfl rfl ?_ rfl rfl
        refine g_if_ne (tgt := 57) hX dX0_decideWho_35 (by decide) (fun c35 => ?_) (fun c35 => ?_)
        · have hF := ite_t hF c35
          refine g_sub (L' := [(0, .ref (b + p0)), (1, .int x1)]) [0, 1] rfl ?_
          exact kX0_decideWho_b57 hX hM hW hA p0 t0 hR (fun h_ z1_ => fX0_decideWho_b2 r p0 n h_ z1_) ih h x1 hF
        · have hF := ite_f hF (fun z => z c35)
          refine g_aload_n hX dX0_decideWho_38 (i := 0) rfl (j := 0) rfl ?_
          obtain ⟨q_39, w39, z39, hF⟩ := gwd_some hF
          have tw39 := ty_w hA z39
          refine gw_X0_44 hX dX0_decideWho_39 (ty1 hW t0) w39 (hW.1 _ tw39.2).1 ?_
          have tf42 := (tyF (k := 2) hW tw39 (by decide) rfl (by decide) : KA (r q_39 2) = 13 ∧ ok (r q_39 2))
          refine gf_X0_57 hX dX0_decideWho_42 (ty1 hW tw39) (hW.1 _ tf42.2).1 ?_
          refine g_iconst (v := 1) hX dX0_decideWho_45 (by decide) ?_
          obtain ⟨g46, hF⟩ := gd_some hF
          have ta46 : KA (r (r q_39 2) (ix 1)) = 5 ∧ ok (r (r q_39 2) (ix 1)) := tyA hW tf42 (by decide) rfl (by decide) g46
          refine g_aald hX dX0_decideWho_46 tf42.1 (by decide) (by decide) (hW.1 _ tf42.2).1 (hW.1 _ tf42.2).2 g46 (hW.1 _ ta46.2).1 ?_
          refine g_iload_n hX dX0_decideWho_47 (i := 1) rfl (j := 1) rfl ?_
          obtain ⟨v48, e48, hF⟩ := bi_some hF
          refine g_callV (As := [.int x1]) (rest := []) (stk := [.int v48]) hX dX0_decideWho_48 (ctX5_has hM hW (r (r q_39 2) (ix 1)) x1 ta46 e48) (by decide) (by decide) wm_X0_72 wi_X5_has ws_X5_has wz_X5 wc_X5_has hyX5_has rfl (ci := 5) rfl (by decide) ta46.1 (hW.1 _ ta46.2).1 (hW.1 _ ta46.2).2 (Nat.le_of_ble_eq_true rfl) rfl rfl ?_ rfl rfl
          refine g_if_ne (tgt := 57) hX dX0_decideWho_51 (by decide) (fun c51 => ?_) (fun c51 => ?_)
          · have hF := ite_t hF c51
            refine g_sub (L' := [(0, .ref (b + p0)), (1, .int x1)]) [0, 1] rfl ?_
            exact kX0_decideWho_b57 hX hM hW hA p0 t0 hR (fun h_ z1_ => fX0_decideWho_b2 r p0 n h_ z1_) ih h x1 hF
          · have hF := ite_f hF (fun z => z c51)
            refine g_goto (tgt := 131) hX dX0_decideWho_54 (by decide) ?_
            refine g_sub (L' := [(0, .ref (b + p0)), (1, .int x1)]) [0, 1] rfl ?_
            exact kX0_decideWho_b131 hX hM hW hA p0 t0 hR (fun h_ z1_ => fX0_decideWho_b2 r p0 n h_ z1_) ih h x1 hF
set_option maxRecDepth 100000 in
set_option maxHeartbeats 4000000 in
theorem kX0_decideWho {X : XT} {b N sz : Nat} {ok : Nat → Prop} {h : HH} {r : RR} {w : HH} (hX : XOK X RX0 cX0_decideWho 3 4) (hM : N ≤ MA) (hW : WT KA lnA ok N r) (hA : ∀ p, KA p < 16 → ok p) (p0 : Nat) (t0 : KA p0 = 0 ∧ ok p0) (hR : XR X b KA lnA MA (none) 0 0 N sz none w r) (hF : fX0_decideWho h r p0 = some w) : GX X b KA lnA MA 3 0 0 N sz 0 [(0, .ref (b + p0))] [] h r := by
  rw [fX0_decideWho] at hF
  refine g_iconst (v := 0) hX dX0_decideWho_0 (by decide) ?_
  refine g_istore_n (L' := [(1, .int 0), (0, .ref (b + p0))]) hX dX0_decideWho_1 (i := 1) rfl (by decide) rfl ?_
  refine g_sub (L' := [(0, .ref (b + p0)), (1, .int 0)]) [1, 0] rfl ?_
  exact kX0_decideWho_b2 hX hM hW hA p0 t0 hR lpF h 0 hF
theorem ctX0_decideWho {b N sz : Nat} {ok : Nat → Prop} {h : HH} {r : RR} {w : HH} (hM : N ≤ MA) (hW : WT KA lnA ok N r) (hA : ∀ p, KA p < 16 → ok p) (p0 : Nat) (t0 : KA p0 = 0 ∧ ok p0) (hF : fX0_decideWho h r p0 = some w) : CT yX0_decideWho cX0_decideWho 3 (none) 4 b KA lnA MA N sz [.ref (b + p0)] h r N sz none w r 0 0 :=
  CT_of (by decide) rfl (Nat.le_of_ble_eq_true rfl) (by decide) trivial (fun X hX hR => kX0_decideWho hX hM hW hA p0 t0 hR hF)
/-! X0_decider -/
def fX0_decider_b103 (h : HH) (r : RR) (p0 : Nat) (a1 : Int32) (a2 : Int32) (q3 : Nat) : Option (Nat) := some (q3)
def fX0_decider_b86 (h : HH) (r : RR) (p0 : Nat) (a1 : Int32) (a2 : Int32) (s0 : Int32) (q3 : Nat) (q4 : Nat) (x5 : Int32) : Option (Nat) := if x5 = 0 then (fX0_decider_b103 h r p0 a1 a2 q3) else (if ¬ s0 = 0 then (fX0_decider_b103 h r p0 a1 a2 q3) else (some (q4)))
def fX0_decider_b63 (h : HH) (r : RR) (p0 : Nat) (a1 : Int32) (a2 : Int32) (s0 : Int32) (q3 : Nat) (q4 : Nat) : Option (Nat) := gd (inb (h p0 5) (lnA (r p0 2))) (gd (inb a1 (lnA (r (r p0 2) (ix (h p0 5))))) (if ((h (r (r p0 2) (ix (h p0 5))) (ix a1)) &&& a2) = 0 then (fX0_decider_b86 h r p0 a1 a2 0 q3 q4 s0) else (fX0_decider_b86 h r p0 a1 a2 1 q3 q4 s0)))
def fX0_decider (h : HH) (r : RR) (p0 : Nat) (a1 : Int32) (a2 : Int32) : Option (Nat) := gwd (h p0 0) (fun q_1 => gd (inb (h p0 5) (lnA (r q_1 2))) (gwd (h p0 0) (fun q_14 => gd (inb (1 - (h p0 5)) (lnA (r q_14 2))) ((fX5_has h r (r (r q_1 2) (ix (h p0 5))) a1).bind (fun v31 => if ¬ v31 = 0 then (gd (inb (1 - (h p0 5)) (lnA (r p0 2))) (gd (inb a1 (lnA (r (r p0 2) (ix (1 - (h p0 5)))))) (if ((h (r (r p0 2) (ix (1 - (h p0 5)))) (ix a1)) &&& a2) = 0 then (fX0_decider_b63 h r p0 a1 a2 0 (r (r q_1 2) (ix (h p0 5))) (r (r q_14 2) (ix (1 - (h p0 5))))) else (fX0_decider_b63 h r p0 a1 a2 1 (r (r q_1 2) (ix (h p0 5))) (r (r q_14 2) (ix (1 - (h p0 5)))))))) else (some (r (r q_14 2) (ix (1 - (h p0 5))))))))))
set_option maxRecDepth 100000 in
set_option maxHeartbeats 4000000 in
theorem kX0_decider_b103 {X : XT} {b N sz : Nat} {ok : Nat → Prop} {h : HH} {r : RR} {w : Nat} (hX : XOK X RX0 cX0_decider 7 2) (hM : N ≤ MA) (hW : WT KA lnA ok N r) (hA : ∀ p, KA p < 16 → ok p) (p0 : Nat) (a1 : Int32) (a2 : Int32) (t0 : KA p0 = 0 ∧ ok p0) (hR : XR X b KA lnA MA (some (FieldType.object "TwoTreesAlike$Tree")) 0 0 N sz (some (.ref (b + w))) h r) (q3 : Nat) (t3 : KA q3 = 5 ∧ ok q3) (hF : fX0_decider_b103 h r p0 a1 a2 q3 = some w) : GX X b KA lnA MA 7 0 0 N sz 103 [(0, .ref (b + p0)), (1, .int a1), (2, .int a2), (3, .ref (b + q3))] [] h r := by
  rw [fX0_decider_b103] at hF
  refine g_aload_n hX dX0_decider_103 (i := 3) rfl (j := 3) rfl ?_
  obtain rfl := Option.some.inj hF
  exact g_aret hX dX0_decider_104 hR
set_option maxRecDepth 100000 in
set_option maxHeartbeats 4000000 in
theorem kX0_decider_b86 {X : XT} {b N sz : Nat} {ok : Nat → Prop} {h : HH} {r : RR} {w : Nat} (hX : XOK X RX0 cX0_decider 7 2) (hM : N ≤ MA) (hW : WT KA lnA ok N r) (hA : ∀ p, KA p < 16 → ok p) (p0 : Nat) (a1 : Int32) (a2 : Int32) (t0 : KA p0 = 0 ∧ ok p0) (hR : XR X b KA lnA MA (some (FieldType.object "TwoTreesAlike$Tree")) 0 0 N sz (some (.ref (b + w))) h r) (s0 : Int32) (q3 : Nat) (q4 : Nat) (x5 : Int32) (t3 : KA q3 = 5 ∧ ok q3) (t4 : KA q4 = 5 ∧ ok q4) (hF : fX0_decider_b86 h r p0 a1 a2 s0 q3 q4 x5 = some w) : GX X b KA lnA MA 7 0 0 N sz 86 [(0, .ref (b + p0)), (1, .int a1), (2, .int a2), (3, .ref (b + q3)), (4, .ref (b + q4)), (5, .int x5)] [.int s0] h r := by
  rw [fX0_decider_b86] at hF
  refine g_istore (L' := [(6, .int s0), (0, .ref (b + p0)), (1, .int a1), (2, .int a2), (3, .ref (b + q3)), (4, .ref (b + q4)), (5, .int x5)]) hX dX0_decider_86 (by decide) rfl ?_
  refine g_iload hX dX0_decider_88 (j := 6) rfl ?_
  refine g_if_eq (tgt := 103) hX dX0_decider_90 (by decide) (fun c90 => ?_) (fun c90 => ?_)
  · have hF := ite_t hF c90
    refine g_sub (L' := [(0, .ref (b + p0)), (1, .int a1), (2, .int a2), (3, .ref (b + q3))]) [1, 2, 3, 4] rfl ?_
    exact kX0_decider_b103 hX hM hW hA p0 a1 a2 t0 hR q3 t3 hF
  · have hF := ite_f hF c90
    refine g_iload hX dX0_decider_93 (j := 0) rfl ?_
    refine g_if_ne (tgt := 103) hX dX0_decider_95 (by decide) (fun c95 => ?_) (fun c95 => ?_)
    · have hF := ite_t hF c95
      refine g_sub (L' := [(0, .ref (b + p0)), (1, .int a1), (2, .int a2), (3, .ref (b + q3))]) [1, 2, 3, 4] rfl ?_
      exact kX0_decider_b103 hX hM hW hA p0 a1 a2 t0 hR q3 t3 hF
    · have hF := ite_f hF (fun z => z c95)
      refine g_aload hX dX0_decider_98 (j := 5) rfl ?_
      refine g_goto (tgt := 104) hX dX0_decider_100 (by decide) ?_
      obtain rfl := Option.some.inj hF
      exact g_aret hX dX0_decider_104 hR
set_option maxRecDepth 100000 in
set_option maxHeartbeats 4000000 in
theorem kX0_decider_b63 {X : XT} {b N sz : Nat} {ok : Nat → Prop} {h : HH} {r : RR} {w : Nat} (hX : XOK X RX0 cX0_decider 7 2) (hM : N ≤ MA) (hW : WT KA lnA ok N r) (hA : ∀ p, KA p < 16 → ok p) (p0 : Nat) (a1 : Int32) (a2 : Int32) (t0 : KA p0 = 0 ∧ ok p0) (hR : XR X b KA lnA MA (some (FieldType.object "TwoTreesAlike$Tree")) 0 0 N sz (some (.ref (b + w))) h r) (s0 : Int32) (q3 : Nat) (q4 : Nat) (t3 : KA q3 = 5 ∧ ok q3) (t4 : KA q4 = 5 ∧ ok q4) (hF : fX0_decider_b63 h r p0 a1 a2 s0 q3 q4 = some w) : GX X b KA lnA MA 7 0 0 N sz 63 [(0, .ref (b + p0)), (1, .int a1), (2, .int a2), (3, .ref (b + q3)), (4, .ref (b + q4))] [.int s0] h r := by
  rw [fX0_decider_b63] at hF
  refine g_istore (L' := [(5, .int s0), (0, .ref (b + p0)), (1, .int a1), (2, .int a2), (3, .ref (b + q3)), (4, .ref (b + q4))]) hX dX0_decider_63 (by decide) rfl ?_
  refine g_aload_n hX dX0_decider_65 (i := 0) rfl (j := 1) rfl ?_
  have tf66 := (tyF (k := 2) hW t0 (by decide) rfl (by decide) : KA (r p0 2) = 14 ∧ ok (r p0 2))
  refine gf_X0_17 hX dX0_decider_66 (ty1 hW t0) (hW.1 _ tf66.2).1 ?_
  refine g_aload_n hX dX0_decider_69 (i := 0) rfl (j := 1) rfl ?_
  refine gf_X0_31 hX dX0_decider_70 (ty1 hW t0) ?_
  obtain ⟨g73, hF⟩ := gd_some hF
  have ta73 : KA (r (r p0 2) (ix (h p0 5))) = 9 ∧ ok (r (r p0 2) (ix (h p0 5))) := tyA hW tf66 (by decide) rfl (by decide) g73
  refine g_aald hX dX0_decider_73 tf66.1 (by decide) (by decide) (hW.1 _ tf66.2).1 (hW.1 _ tf66.2).2 g73 (hW.1 _ ta73.2).1 ?_
  refine g_iload_n hX dX0_decider_74 (i := 1) rfl (j := 2) rfl ?_
  obtain ⟨g75, hF⟩ := gd_some hF
  refine g_iald hX dX0_decider_75 ta73.1 (hW.1 _ ta73.2).1 (hW.1 _ ta73.2).2 g75 ?_
  refine g_iload_n hX dX0_decider_76 (i := 2) rfl (j := 3) rfl ?_
  refine g_iand hX dX0_decider_77 ?_
  refine g_if_eq (tgt := 85) hX dX0_decider_78 (by decide) (fun c78 => ?_) (fun c78 => ?_)
  · have hF := ite_t hF c78
    refine g_iconst (v := 0) hX dX0_decider_85 (by decide) ?_
    refine g_sub (L' := [(0, .ref (b + p0)), (1, .int a1), (2, .int a2), (3, .ref (b + q3)), (4, .ref (b + q4)), (5, .int s0)]) [1, 2, 3, 4, 5, 0] rfl ?_
    exact kX0_decider_b86 hX hM hW hA p0 a1 a2 t0 hR 0 q3 q4 s0 t3 t4 hF
  · have hF := ite_f hF c78
    refine g_iconst (v := 1) hX dX0_decider_81 (by decide) ?_
    refine g_goto (tgt := 86) hX dX0_decider_82 (by decide) ?_
    refine g_sub (L' := [(0, .ref (b + p0)), (1, .int a1), (2, .int a2), (3, .ref (b + q3)), (4, .ref (b + q4)), (5, .int s0)]) [1, 2, 3, 4, 5, 0] rfl ?_
    exact kX0_decider_b86 hX hM hW hA p0 a1 a2 t0 hR 1 q3 q4 s0 t3 t4 hF
set_option maxRecDepth 100000 in
set_option maxHeartbeats 4000000 in
theorem kX0_decider {X : XT} {b N sz : Nat} {ok : Nat → Prop} {h : HH} {r : RR} {w : Nat} (hX : XOK X RX0 cX0_decider 7 2) (hM : N ≤ MA) (hW : WT KA lnA ok N r) (hA : ∀ p, KA p < 16 → ok p) (p0 : Nat) (a1 : Int32) (a2 : Int32) (t0 : KA p0 = 0 ∧ ok p0) (hR : XR X b KA lnA MA (some (FieldType.object "TwoTreesAlike$Tree")) 0 0 N sz (some (.ref (b + w))) h r) (hF : fX0_decider h r p0 a1 a2 = some w) : GX X b KA lnA MA 7 0 0 N sz 0 [(0, .ref (b + p0)), (1, .int a1), (2, .int a2)] [] h r := by
  rw [fX0_decider] at hF
  refine g_aload_n hX dX0_decider_0 (i := 0) rfl (j := 0) rfl ?_
  obtain ⟨q_1, w1, z1, hF⟩ := gwd_some hF
  have tw1 := ty_w hA z1
  refine gw_X0_44 hX dX0_decider_1 (ty1 hW t0) w1 (hW.1 _ tw1.2).1 ?_
  have tf4 := (tyF (k := 2) hW tw1 (by decide) rfl (by decide) : KA (r q_1 2) = 13 ∧ ok (r q_1 2))
  refine gf_X0_57 hX dX0_decider_4 (ty1 hW tw1) (hW.1 _ tf4.2).1 ?_
  refine g_aload_n hX dX0_decider_7 (i := 0) rfl (j := 0) rfl ?_
  refine gf_X0_31 hX dX0_decider_8 (ty1 hW t0) ?_
  obtain ⟨g11, hF⟩ := gd_some hF
  have ta11 : KA (r (r q_1 2) (ix (h p0 5))) = 5 ∧ ok (r (r q_1 2) (ix (h p0 5))) := tyA hW tf4 (by decide) rfl (by decide) g11
  refine g_aald hX dX0_decider_11 tf4.1 (by decide) (by decide) (hW.1 _ tf4.2).1 (hW.1 _ tf4.2).2 g11 (hW.1 _ ta11.2).1 ?_
  refine g_astore_n (L' := [(3, .ref (b + (r (r q_1 2) (ix (h p0 5))))), (0, .ref (b + p0)), (1, .int a1), (2, .int a2)]) hX dX0_decider_12 (i := 3) rfl (by decide) rfl ?_
  refine g_aload_n hX dX0_decider_13 (i := 0) rfl (j := 1) rfl ?_
  obtain ⟨q_14, w14, z14, hF⟩ := gwd_some hF
  have tw14 := ty_w hA z14
  refine gw_X0_44 hX dX0_decider_14 (ty1 hW t0) w14 (hW.1 _ tw14.2).1 ?_
  have tf17 := (tyF (k := 2) hW tw14 (by decide) rfl (by decide) : KA (r q_14 2) = 13 ∧ ok (r q_14 2))
  refine gf_X0_57 hX dX0_decider_17 (ty1 hW tw14) (hW.1 _ tf17.2).1 ?_
  refine g_iconst (v := 1) hX dX0_decider_20 (by decide) ?_
  refine g_aload_n hX dX0_decider_21 (i := 0) rfl (j := 1) rfl ?_
  refine gf_X0_31 hX dX0_decider_22 (ty1 hW t0) ?_
  refine g_isub hX dX0_decider_25 ?_
  obtain ⟨g26, hF⟩ := gd_some hF
  have ta26 : KA (r (r q_14 2) (ix (1 - (h p0 5)))) = 5 ∧ ok (r (r q_14 2) (ix (1 - (h p0 5)))) := tyA hW tf17 (by decide) rfl (by decide) g26
  refine g_aald hX dX0_decider_26 tf17.1 (by decide) (by decide) (hW.1 _ tf17.2).1 (hW.1 _ tf17.2).2 g26 (hW.1 _ ta26.2).1 ?_
  refine g_astore (L' := [(4, .ref (b + (r (r q_14 2) (ix (1 - (h p0 5)))))), (3, .ref (b + (r (r q_1 2) (ix (h p0 5))))), (0, .ref (b + p0)), (1, .int a1), (2, .int a2)]) hX dX0_decider_27 (by decide) rfl ?_
  refine g_aload_n hX dX0_decider_29 (i := 3) rfl (j := 1) rfl ?_
  refine g_iload_n hX dX0_decider_30 (i := 1) rfl (j := 3) rfl ?_
  obtain ⟨v31, e31, hF⟩ := bi_some hF
  refine g_callV (As := [.int a1]) (rest := []) (stk := [.int v31]) hX dX0_decider_31 (ctX5_has hM hW (r (r q_1 2) (ix (h p0 5))) a1 ta11 e31) (by decide) (by decide) wm_X0_72 wi_X5_has ws_X5_has wz_X5 wc_X5_has hyX5_has rfl (ci := 5) rfl (by decide) ta11.1 (hW.1 _ ta11.2).1 (hW.1 _ ta11.2).2 (Nat.le_of_ble_eq_true rfl) rfl rfl ?_ rfl rfl
  refine g_if_ne (tgt := 40) hX dX0_decider_34 (by decide) (fun c34 => ?_) (fun c34 => ?_)
  · have hF := ite_t hF c34
    refine g_aload_n hX dX0_decider_40 (i := 0) rfl (j := 2) rfl ?_
    have tf41 := (tyF (k := 2) hW t0 (by decide) rfl (by decide) : KA (r p0 2) = 14 ∧ ok (r p0 2))
    refine gf_X0_17 hX dX0_decider_41 (ty1 hW t0) (hW.1 _ tf41.2).1 ?_
    refine g_iconst (v := 1) hX dX0_decider_44 (by decide) ?_
    refine g_aload_n hX dX0_decider_45 (i := 0) rfl (j := 2) rfl ?_
    refine gf_X0_31 hX dX0_decider_46 (ty1 hW t0) ?_
    refine g_isub hX dX0_decider_49 ?_
    obtain ⟨g50, hF⟩ := gd_some hF
    have ta50 : KA (r (r p0 2) (ix (1 - (h p0 5)))) = 9 ∧ ok (r (r p0 2) (ix (1 - (h p0 5)))) := tyA hW tf41 (by decide) rfl (by decide) g50
    refine g_aald hX dX0_decider_50 tf41.1 (by decide) (by decide) (hW.1 _ tf41.2).1 (hW.1 _ tf41.2).2 g50 (hW.1 _ ta50.2).1 ?_
    refine g_iload_n hX dX0_decider_51 (i := 1) rfl (j := 3) rfl ?_
    obtain ⟨g52, hF⟩ := gd_some hF
    refine g_iald hX dX0_decider_52 ta50.1 (hW.1 _ ta50.2).1 (hW.1 _ ta50.2).2 g52 ?_
    refine g_iload_n hX dX0_decider_53 (i := 2) rfl (j := 4) rfl ?_
    refine g_iand hX dX0_decider_54 ?_
    refine g_if_eq (tgt := 62) hX dX0_decider_55 (by decide) (fun c55 => ?_) (fun c55 => ?_)
    · have hF := ite_t hF c55
      refine g_iconst (v := 0) hX dX0_decider_62 (by decide) ?_
      refine g_sub (L' := [(0, .ref (b + p0)), (1, .int a1), (2, .int a2), (3, .ref (b + (r (r q_1 2) (ix (h p0 5))))), (4, .ref (b + (r (r q_14 2) (ix (1 - (h p0 5))))))]) [2, 3, 4, 1, 0] rfl ?_
      exact kX0_decider_b63 hX hM hW hA p0 a1 a2 t0 hR 0 (r (r q_1 2) (ix (h p0 5))) (r (r q_14 2) (ix (1 - (h p0 5)))) ta11 ta26 hF
    · have hF := ite_f hF c55
      refine g_iconst (v := 1) hX dX0_decider_58 (by decide) ?_
      refine g_goto (tgt := 63) hX dX0_decider_59 (by decide) ?_
      refine g_sub (L' := [(0, .ref (b + p0)), (1, .int a1), (2, .int a2), (3, .ref (b + (r (r q_1 2) (ix (h p0 5))))), (4, .ref (b + (r (r q_14 2) (ix (1 - (h p0 5))))))]) [2, 3, 4, 1, 0] rfl ?_
      exact kX0_decider_b63 hX hM hW hA p0 a1 a2 t0 hR 1 (r (r q_1 2) (ix (h p0 5))) (r (r q_14 2) (ix (1 - (h p0 5)))) ta11 ta26 hF
  · have hF := ite_f hF (fun z => z c34)
    refine g_aload hX dX0_decider_37 (j := 0) rfl ?_
    obtain rfl := Option.some.inj hF
    exact g_aret hX dX0_decider_39 hR
theorem ctX0_decider {b N sz : Nat} {ok : Nat → Prop} {h : HH} {r : RR} {w : Nat} (hM : N ≤ MA) (hW : WT KA lnA ok N r) (hA : ∀ p, KA p < 16 → ok p) (p0 : Nat) (a1 : Int32) (a2 : Int32) (t0 : KA p0 = 0 ∧ ok p0) (hF : fX0_decider h r p0 a1 a2 = some w) : CT yX0_decider cX0_decider 7 (some (FieldType.object "TwoTreesAlike$Tree")) 2 b KA lnA MA N sz [.ref (b + p0), .int a1, .int a2] h r N sz (some (.ref (b + w))) h r 0 0 :=
  CT_of (by decide) rfl (Nat.le_of_ble_eq_true rfl) (by decide) trivial (fun X hX hR => kX0_decider hX hM hW hA p0 a1 a2 t0 hR hF)
/-! X0_bothDid -/
def fX0_bothDid (h : HH) (r : RR) (p0 : Nat) (a1 : Int32) (a2 : Int32) : Option (Int32) := gd (inb 0 (lnA (r p0 2))) (gd (inb a1 (lnA (r (r p0 2) (ix 0)))) (gd (inb 1 (lnA (r p0 2))) (gd (inb a1 (lnA (r (r p0 2) (ix 1)))) (if (((h (r (r p0 2) (ix 0)) (ix a1)) &&& (h (r (r p0 2) (ix 1)) (ix a1))) &&& a2) = 0 then (some (0)) else (some (1))))))
set_option maxRecDepth 100000 in
set_option maxHeartbeats 4000000 in
theorem kX0_bothDid {X : XT} {b N sz : Nat} {ok : Nat → Prop} {h : HH} {r : RR} {w : Int32} (hX : XOK X RX0 cX0_bothDid 3 1) (hM : N ≤ MA) (hW : WT KA lnA ok N r) (p0 : Nat) (a1 : Int32) (a2 : Int32) (t0 : KA p0 = 0 ∧ ok p0) (hR : XR X b KA lnA MA (some FieldType.boolean) 0 0 N sz (some (.int w)) h r) (hF : fX0_bothDid h r p0 a1 a2 = some w) : GX X b KA lnA MA 3 0 0 N sz 0 [(0, .ref (b + p0)), (1, .int a1), (2, .int a2)] [] h r := by
  rw [fX0_bothDid] at hF
  refine g_aload_n hX dX0_bothDid_0 (i := 0) rfl (j := 0) rfl ?_
  have tf1 := (tyF (k := 2) hW t0 (by decide) rfl (by decide) : KA (r p0 2) = 14 ∧ ok (r p0 2))
  refine gf_X0_17 hX dX0_bothDid_1 (ty1 hW t0) (hW.1 _ tf1.2).1 ?_
  refine g_iconst (v := 0) hX dX0_bothDid_4 (by decide) ?_
  obtain ⟨g5, hF⟩ := gd_some hF
  have ta5 : KA (r (r p0 2) (ix 0)) = 9 ∧ ok (r (r p0 2) (ix 0)) := tyA hW tf1 (by decide) rfl (by decide) g5
  refine g_aald hX dX0_bothDid_5 tf1.1 (by decide) (by decide) (hW.1 _ tf1.2).1 (hW.1 _ tf1.2).2 g5 (hW.1 _ ta5.2).1 ?_
  refine g_iload_n hX dX0_bothDid_6 (i := 1) rfl (j := 1) rfl ?_
  obtain ⟨g7, hF⟩ := gd_some hF
  refine g_iald hX dX0_bothDid_7 ta5.1 (hW.1 _ ta5.2).1 (hW.1 _ ta5.2).2 g7 ?_
  refine g_aload_n hX dX0_bothDid_8 (i := 0) rfl (j := 0) rfl ?_
  have tf9 := (tyF (k := 2) hW t0 (by decide) rfl (by decide) : KA (r p0 2) = 14 ∧ ok (r p0 2))
  refine gf_X0_17 hX dX0_bothDid_9 (ty1 hW t0) (hW.1 _ tf9.2).1 ?_
  refine g_iconst (v := 1) hX dX0_bothDid_12 (by decide) ?_
  obtain ⟨g13, hF⟩ := gd_some hF
  have ta13 : KA (r (r p0 2) (ix 1)) = 9 ∧ ok (r (r p0 2) (ix 1)) := tyA hW tf9 (by decide) rfl (by decide) g13
  refine g_aald hX dX0_bothDid_13 tf9.1 (by decide) (by decide) (hW.1 _ tf9.2).1 (hW.1 _ tf9.2).2 g13 (hW.1 _ ta13.2).1 ?_
  refine g_iload_n hX dX0_bothDid_14 (i := 1) rfl (j := 1) rfl ?_
  obtain ⟨g15, hF⟩ := gd_some hF
  refine g_iald hX dX0_bothDid_15 ta13.1 (hW.1 _ ta13.2).1 (hW.1 _ ta13.2).2 g15 ?_
  refine g_iand hX dX0_bothDid_16 ?_
  refine g_iload_n hX dX0_bothDid_17 (i := 2) rfl (j := 2) rfl ?_
  refine g_iand hX dX0_bothDid_18 ?_
  refine g_if_eq (tgt := 26) hX dX0_bothDid_19 (by decide) (fun c19 => ?_) (fun c19 => ?_)
  · have hF := ite_t hF c19
    refine g_iconst (v := 0) hX dX0_bothDid_26 (by decide) ?_
    obtain rfl := Option.some.inj hF
    exact g_zret hX dX0_bothDid_27 (by decide) hR
  · have hF := ite_f hF c19
    refine g_iconst (v := 1) hX dX0_bothDid_22 (by decide) ?_
    refine g_goto (tgt := 27) hX dX0_bothDid_23 (by decide) ?_
    obtain rfl := Option.some.inj hF
    exact g_zret hX dX0_bothDid_27 (by decide) hR
theorem ctX0_bothDid {b N sz : Nat} {ok : Nat → Prop} {h : HH} {r : RR} {w : Int32} (hM : N ≤ MA) (hW : WT KA lnA ok N r) (p0 : Nat) (a1 : Int32) (a2 : Int32) (t0 : KA p0 = 0 ∧ ok p0) (hF : fX0_bothDid h r p0 a1 a2 = some w) : CT yX0_bothDid cX0_bothDid 3 (some FieldType.boolean) 1 b KA lnA MA N sz [.ref (b + p0), .int a1, .int a2] h r N sz (some (.int w)) h r 0 0 :=
  CT_of (by decide) rfl (Nat.le_of_ble_eq_true rfl) (by decide) trivial (fun X hX hR => kX0_bothDid hX hM hW p0 a1 a2 t0 hR hF)
/-! X0_decidePlaces -/
def fX0_decidePlaces_b104 (r : RR) (p0 : Nat) (k2 : HH → Int32 → Option (HH)) (h : HH) (x1 : Int32) : Option (HH) := k2 h (x1 + 1)
def fX0_decidePlaces_b2 (r : RR) (p0 : Nat) : Nat → HH → Int32 → Option (HH)
  | 0, _, _ => none
  | n + 1, h, x1 => gwd (h p0 0) (fun q_4 => if (h q_4 0) ≤ x1 then (some h) else ((fX5_has h r (r p0 3) x1).bind (fun v18 => if ¬ v18 = 0 then ((fX0_decider h r p0 x1 4).bind (fun v30 => gd (decide (KA v30 = 5)) (gd (inb x1 (lnA (r v30 1))) (gd (inb x1 (lnA (r (r p0 3) 1))) (lt (up h (r (r p0 3) 1) (ix x1) (h (r v30 1) (ix x1))) (fun h48 => gd (inb x1 (lnA (r v30 2))) (gd (inb x1 (lnA (r (r p0 3) 2))) (lt (up h48 (r (r p0 3) 2) (ix x1) (h48 (r v30 2) (ix x1))) (fun h63 => (fX0_bothDid h63 r p0 x1 4).bind (fun v67 => if v67 = 0 then (fX0_decidePlaces_b104 r p0 (fun h_ z1_ => fX0_decidePlaces_b2 r p0 n h_ z1_) h63 x1) else (gwd (h63 p0 0) (fun q_74 => gd (inb 0 (lnA (r q_74 2))) (gwd (h63 p0 0) (fun q_83 => gd (inb 1 (lnA (r q_83 2))) ((fX5_placesAsIn h63 r (r (r q_74 2) (ix 0)) (r (r q_83 2) (ix 1)) x1).bind (fun v92 => if ¬ v92 = 0 then (fX0_decidePlaces_b104 r p0 (fun h_ z1_ => fX0_decidePlaces_b2 r p0 n h_ z1_) h63 x1) else ((fX0_addClash h63 r p0 1 x1).bind (fun h101 => fX0_decidePlaces_b104 r p0 (fun h_ z1_ => fX0_decidePlaces_b2 r p0 n h_ z1_) h101 x1)))))))))))))))))) else (fX0_decidePlaces_b104 r p0 (fun h_ z1_ => fX0_decidePlaces_b2 r p0 n h_ z1_) h x1))))
def fX0_decidePlaces (h : HH) (r : RR) (p0 : Nat) : Option (HH) := fX0_decidePlaces_b2 r p0 lpF h 0
set_option maxRecDepth 100000 in
set_option maxHeartbeats 4000000 in
theorem kX0_decidePlaces_b104 {X : XT} {b N sz : Nat} {ok : Nat → Prop} {r : RR} {w : HH} (hX : XOK X RX0 cX0_decidePlaces 3 3) (hM : N ≤ MA) (hW : WT KA lnA ok N r) (hA : ∀ p, KA p < 16 → ok p) (p0 : Nat) (t0 : KA p0 = 0 ∧ ok p0) (hR : XR X b KA lnA MA (none) 0 0 N sz none w r) (k2 : HH → Int32 → Option (HH)) (hk2 : ∀ (h : HH) (x1 : Int32), k2 h x1 = some w → GX X b KA lnA MA 3 0 0 N sz 2 [(0, .ref (b + p0)), (1, .int x1)] [] h r) (h : HH) (x1 : Int32) (hF : fX0_decidePlaces_b104 r p0 k2 h x1 = some w) : GX X b KA lnA MA 3 0 0 N sz 104 [(0, .ref (b + p0)), (1, .int x1)] [] h r := by
  rw [fX0_decidePlaces_b104] at hF
  refine g_iinc (L' := [(1, .int (x1 + 1)), (0, .ref (b + p0))]) (j := 1) hX dX0_decidePlaces_104 rfl rfl (by decide) rfl ?_
  refine g_goto (tgt := 2) hX dX0_decidePlaces_107 (by decide) ?_
  refine g_sub (L' := [(0, .ref (b + p0)), (1, .int (x1 + 1))]) [1, 0] rfl ?_
  exact hk2 h (x1 + 1) hF
set_option maxRecDepth 100000 in
set_option maxHeartbeats 4000000 in
theorem kX0_decidePlaces_b2 {X : XT} {b N sz : Nat} {ok : Nat → Prop} {r : RR} {w : HH} (hX : XOK X RX0 cX0_decidePlaces 3 3) (hM : N ≤ MA) (hW : WT KA lnA ok N r) (hA : ∀ p, KA p < 16 → ok p) (p0 : Nat) (t0 : KA p0 = 0 ∧ ok p0) (hR : XR X b KA lnA MA (none) 0 0 N sz none w r) : ∀ (n : Nat) (h : HH) (x1 : Int32), fX0_decidePlaces_b2 r p0 n h x1 = some w → GX X b KA lnA MA 3 0 0 N sz 2 [(0, .ref (b + p0)), (1, .int x1)] [] h r := by
  intro n
  induction n with
  | zero =>
    intro h x1 hF
    cases hF
  | succ n ih =>
    intro h x1 hF
    rw [fX0_decidePlaces_b2] at hF
    refine g_iload_n hX dX0_decidePlaces_2 (i := 1) rfl (j := 1) rfl ?_
    refine g_aload_n hX dX0_decidePlaces_3 (i := 0) rfl (j := 0) rfl ?_
    obtain ⟨q_4, w4, z4, hF⟩ := gwd_some hF
    have tw4 := ty_w hA z4
    refine gw_X0_44 hX dX0_decidePlaces_4 (ty1 hW t0) w4 (hW.1 _ tw4.2).1 ?_
    refine gf_X0_86 hX dX0_decidePlaces_7 (ty1 hW tw4) ?_
    refine g_icmp_ge (tgt := 110) hX dX0_decidePlaces_10 (by decide) (fun c10 => ?_) (fun c10 => ?_)
    · have hF := ite_t hF c10
      obtain rfl := Option.some.inj hF
      exact g_vret hX dX0_decidePlaces_110 hR
    · have hF := ite_f hF c10
      refine g_aload_n hX dX0_decidePlaces_13 (i := 0) rfl (j := 0) rfl ?_
      have tf14 := (tyF (k := 3) hW t0 (by decide) rfl (by decide) : KA (r p0 3) = 5 ∧ ok (r p0 3))
      refine gf_X0_23 hX dX0_decidePlaces_14 (ty1 hW t0) (hW.1 _ tf14.2).1 ?_
      refine g_iload_n hX dX0_decidePlaces_17 (i := 1) rfl (j := 1) rfl ?_
      obtain ⟨v18, e18, hF⟩ := bi_some hF
      refine g_callV (As := [.int x1]) (rest := []) (stk := [.int v18]) hX dX0_decidePlaces_18 (ctX5_has hM hW (r p0 3) x1 tf14 e18) (by decide) (by decide) wm_X0_72 wi_X5_has ws_X5_has wz_X5 wc_X5_has hyX5_has rfl (ci := 5) rfl (by decide) tf14.1 (hW.1 _ tf14.2).1 (hW.1 _ tf14.2).2 (Nat.le_of_ble_eq_true rfl) rfl rfl ?_ rfl rfl
      refine g_if_ne (tgt := 27) hX dX0_decidePlaces_21 (by decide) (fun c21 => ?_) (fun c21 => ?_)
      · have hF := ite_t hF c21
        refine g_aload_n hX dX0_decidePlaces_27 (i := 0) rfl (j := 0) rfl ?_
        refine g_iload_n hX dX0_decidePlaces_28 (i := 1) rfl (j := 1) rfl ?_
        refine g_iconst (v := 4) hX dX0_decidePlaces_29 (by decide) ?_
        obtain ⟨v30, e30, hF⟩ := bi_some hF
        obtain ⟨g30, hF⟩ := gd_some hF
        have tr30 : KA v30 = 5 ∧ ok v30 := ty_r hA (of_decide_eq_true g30) (by decide)
        refine g_callV (As := [.int x1, .int 4]) (rest := []) (stk := [.ref (b + v30)]) hX dX0_decidePlaces_30 (ctX0_decider hM hW hA p0 x1 4 t0 e30) (by decide) (by decide) wm_X0_119 wi_X0_decider ws_X0_decider wz_X0 wc_X0_decider hyX0_decider rfl (ci := 0) rfl (by decide) t0.1 (hW.1 _ t0.2).1 (hW.1 _ t0.2).2 (Nat.le_of_ble_eq_true rfl) rfl rfl ?_ rfl rfl
        refine g_astore_n (L' := [(2, .ref (b + v30)), (0, .ref (b + p0)), (1, .int x1)]) hX dX0_decidePlaces_33 (i := 2) rfl (by decide) rfl ?_
        refine g_aload_n hX dX0_decidePlaces_34 (i := 0) rfl (j := 1) rfl ?_
        have tf35 := (tyF (k := 3) hW t0 (by decide) rfl (by decide) : KA (r p0 3) = 5 ∧ ok (r p0 3))
        refine gf_X0_23 hX dX0_decidePlaces_35 (ty1 hW t0) (hW.1 _ tf35.2).1 ?_
        have tf38 := (tyF (k := 1) hW tf35 (by decide) rfl (by decide) : KA (r (r p0 3) 1) = 9 ∧ ok (r (r p0 3) 1))
        refine gf_X0_69 hX dX0_decidePlaces_38 (ty1 hW tf35) (hW.1 _ tf38.2).1 ?_
        refine g_iload_n hX dX0_decidePlaces_41 (i := 1) rfl (j := 2) rfl ?_
        refine g_aload_n hX dX0_decidePlaces_42 (i := 2) rfl (j := 0) rfl ?_
        have tf43 := (tyF (k := 1) hW tr30 (by decide) rfl (by decide) : KA (r v30 1) = 9 ∧ ok (r v30 1))
        refine gf_X0_69 hX dX0_decidePlaces_43 (ty1 hW tr30) (hW.1 _ tf43.2).1 ?_
        refine g_iload_n hX dX0_decidePlaces_46 (i := 1) rfl (j := 2) rfl ?_
        obtain ⟨g47, hF⟩ := gd_some hF
        refine g_iald hX dX0_decidePlaces_47 tf43.1 (hW.1 _ tf43.2).1 (hW.1 _ tf43.2).2 g47 ?_
        obtain ⟨g48, hF⟩ := gd_some hF
        obtain ⟨h48, e48, hF⟩ := lt_some hF
        refine g_iast hX dX0_decidePlaces_48 tf38.1 (hW.1 _ tf38.2).1 (hW.1 _ tf38.2).2 hM g48 e48 ?_
        refine g_aload_n hX dX0_decidePlaces_49 (i := 0) rfl (j := 1) rfl ?_
        have tf50 := (tyF (k := 3) hW t0 (by decide) rfl (by decide) : KA (r p0 3) = 5 ∧ ok (r p0 3))
        refine gf_X0_23 hX dX0_decidePlaces_50 (ty1 hW t0) (hW.1 _ tf50.2).1 ?_
        have tf53 := (tyF (k := 2) hW tf50 (by decide) rfl (by decide) : KA (r (r p0 3) 2) = 9 ∧ ok (r (r p0 3) 2))
        refine gf_X0_123 hX dX0_decidePlaces_53 (ty1 hW tf50) (hW.1 _ tf53.2).1 ?_
        refine g_iload_n hX dX0_decidePlaces_56 (i := 1) rfl (j := 2) rfl ?_
        refine g_aload_n hX dX0_decidePlaces_57 (i := 2) rfl (j := 0) rfl ?_
        have tf58 := (tyF (k := 2) hW tr30 (by decide) rfl (by decide) : KA (r v30 2) = 9 ∧ ok (r v30 2))
        refine gf_X0_123 hX dX0_decidePlaces_58 (ty1 hW tr30) (hW.1 _ tf58.2).1 ?_
        refine g_iload_n hX dX0_decidePlaces_61 (i := 1) rfl (j := 2) rfl ?_
        obtain ⟨g62, hF⟩ := gd_some hF
        refine g_iald hX dX0_decidePlaces_62 tf58.1 (hW.1 _ tf58.2).1 (hW.1 _ tf58.2).2 g62 ?_
        obtain ⟨g63, hF⟩ := gd_some hF
        obtain ⟨h63, e63, hF⟩ := lt_some hF
        refine g_iast hX dX0_decidePlaces_63 tf53.1 (hW.1 _ tf53.2).1 (hW.1 _ tf53.2).2 hM g63 e63 ?_
        refine g_aload_n hX dX0_decidePlaces_64 (i := 0) rfl (j := 1) rfl ?_
        refine g_iload_n hX dX0_decidePlaces_65 (i := 1) rfl (j := 2) rfl ?_
        refine g_iconst (v := 4) hX dX0_decidePlaces_66 (by decide) ?_
        obtain ⟨v67, e67, hF⟩ := bi_some hF
        refine g_callV (As := [.int x1, .int 4]) (rest := []) (stk := [.int v67]) hX dX0_decidePlaces_67 (ctX0_bothDid hM hW p0 x1 4 t0 e67) (by decide) (by decide) wm_X0_126 wi_X0_bothDid ws_X0_bothDid wz_X0 wc_X0_bothDid hyX0_bothDid rfl (ci := 0) rfl (by decide) t0.1 (hW.1 _ t0.2).1 (hW.1 _ t0.2).2 (Nat.le_of_ble_eq_true rfl) rfl rfl ?_ rfl rfl
        refine g_if_eq (tgt := 104) hX dX0_decidePlaces_70 (by decide) (fun c70 => ?_) (fun c70 => ?_)
        · have hF := ite_t hF c70
          refine g_sub (L' := [(0, .ref (b + p0)), (1, .int x1)]) [1, 2] rfl ?_
          exact kX0_decidePlaces_b104 hX hM hW hA p0 t0 hR (fun h_ z1_ => fX0_decidePlaces_b2 r p0 n h_ z1_) ih h63 x1 hF
        · have hF := ite_f hF c70
          refine g_aload_n hX dX0_decidePlaces_73 (i := 0) rfl (j := 1) rfl ?_
          obtain ⟨q_74, w74, z74, hF⟩ := gwd_some hF
          have tw74 := ty_w hA z74
          refine gw_X0_44 hX dX0_decidePlaces_74 (ty1 hW t0) w74 (hW.1 _ tw74.2).1 ?_
          have tf77 := (tyF (k := 2) hW tw74 (by decide) rfl (by decide) : KA (r q_74 2) = 13 ∧ ok (r q_74 2))
          refine gf_X0_57 hX dX0_decidePlaces_77 (ty1 hW tw74) (hW.1 _ tf77.2).1 ?_
          refine g_iconst (v := 0) hX dX0_decidePlaces_80 (by decide) ?_
          obtain ⟨g81, hF⟩ := gd_some hF
          have ta81 : KA (r (r q_74 2) (ix 0)) = 5 ∧ ok (r (r q_74 2) (ix 0)) := tyA hW tf77 (by decide) rfl (by decide) g81
          refine g_aald hX dX0_decidePlaces_81 tf77.1 (by decide) (by decide) (hW.1 _ tf77.2).1 (hW.1 _ tf77.2).2 g81 (hW.1 _ ta81.2).1 ?_
          refine g_aload_n hX dX0_decidePlaces_82 (i := 0) rfl (j := 1) rfl ?_
          obtain ⟨q_83, w83, z83, hF⟩ := gwd_some hF
          have tw83 := ty_w hA z83
          refine gw_X0_44 hX dX0_decidePlaces_83 (ty1 hW t0) w83 (hW.1 _ tw83.2).1 ?_
          have tf86 := (tyF (k := 2) hW tw83 (by decide) rfl (by decide) : KA (r q_83 2) = 13 ∧ ok (r q_83 2))
          refine gf_X0_57 hX dX0_decidePlaces_86 (ty1 hW tw83) (hW.1 _ tf86.2).1 ?_
          refine g_iconst (v := 1) hX dX0_decidePlaces_89 (by decide) ?_
          obtain ⟨g90, hF⟩ := gd_some hF
          have ta90 : KA (r (r q_83 2) (ix 1)) = 5 ∧ ok (r (r q_83 2) (ix 1)) := tyA hW tf86 (by decide) rfl (by decide) g90
          refine g_aald hX dX0_decidePlaces_90 tf86.1 (by decide) (by decide) (hW.1 _ tf86.2).1 (hW.1 _ tf86.2).2 g90 (hW.1 _ ta90.2).1 ?_
          refine g_iload_n hX dX0_decidePlaces_91 (i := 1) rfl (j := 2) rfl ?_
          obtain ⟨v92, e92, hF⟩ := bi_some hF
          refine g_callV (As := [.ref (b + (r (r q_83 2) (ix 1))), .int x1]) (rest := []) (stk := [.int v92]) hX dX0_decidePlaces_92 (ctX5_placesAsIn hM hW (r (r q_74 2) (ix 0)) (r (r q_83 2) (ix 1)) x1 ta81 ta90 e92) (by decide) (by decide) wm_X0_75 wi_X5_placesAsIn ws_X5_placesAsIn wz_X5 wc_X5_placesAsIn hyX5_placesAsIn rfl (ci := 5) rfl (by decide) ta81.1 (hW.1 _ ta81.2).1 (hW.1 _ ta81.2).2 (Nat.le_of_ble_eq_true rfl) rfl rfl ?_ rfl rfl
          refine g_if_ne (tgt := 104) hX dX0_decidePlaces_95 (by decide) (fun c95 => ?_) (fun c95 => ?_)
          · have hF := ite_t hF c95
            refine g_sub (L' := [(0, .ref (b + p0)), (1, .int x1)]) [1, 2] rfl ?_
            exact kX0_decidePlaces_b104 hX hM hW hA p0 t0 hR (fun h_ z1_ => fX0_decidePlaces_b2 r p0 n h_ z1_) ih h63 x1 hF
          · have hF := ite_f hF (fun z => z c95)
            refine g_aload_n hX dX0_decidePlaces_98 (i := 0) rfl (j := 1) rfl ?_
            refine g_iconst (v := 1) hX dX0_decidePlaces_99 (by decide) ?_
            refine g_iload_n hX dX0_decidePlaces_100 (i := 1) rfl (j := 2) rfl ?_
            obtain ⟨h101, e101, hF⟩ := bi_some hF
            refine g_callV (As := [.int 1, .int x1]) (rest := []) (stk := []) hX dX0_decidePlaces_101 (ctX0_addClash hM hW p0 1 x1 t0 e101) (by decide) (by decide) wm_X0_108 wi_X0_addClash ws_X0_addClash wz_X0 wc_X0_addClash hyX0_addClash rfl (ci := 0) rfl (by decide) t0.1 (hW.1 _ t0.2).1 (hW.1 _ t0.2).2 (Nat.le_of_ble_eq_true rfl) rfl rfl ?_ rfl rfl
            refine g_sub (L' := [(0, .ref (b + p0)), (1, .int x1)]) [1, 2] rfl ?_
            exact kX0_decidePlaces_b104 hX hM hW hA p0 t0 hR (fun h_ z1_ => fX0_decidePlaces_b2 r p0 n h_ z1_) ih h101 x1 hF
      · have hF := ite_f hF (fun z => z c21)
        refine g_goto (tgt := 104) hX dX0_decidePlaces_24 (by decide) ?_
        refine g_sub (L' := [(0, .ref (b + p0)), (1, .int x1)]) [0, 1] rfl ?_
        exact kX0_decidePlaces_b104 hX hM hW hA p0 t0 hR (fun h_ z1_ => fX0_decidePlaces_b2 r p0 n h_ z1_) ih h x1 hF
set_option maxRecDepth 100000 in
set_option maxHeartbeats 4000000 in
theorem kX0_decidePlaces {X : XT} {b N sz : Nat} {ok : Nat → Prop} {h : HH} {r : RR} {w : HH} (hX : XOK X RX0 cX0_decidePlaces 3 3) (hM : N ≤ MA) (hW : WT KA lnA ok N r) (hA : ∀ p, KA p < 16 → ok p) (p0 : Nat) (t0 : KA p0 = 0 ∧ ok p0) (hR : XR X b KA lnA MA (none) 0 0 N sz none w r) (hF : fX0_decidePlaces h r p0 = some w) : GX X b KA lnA MA 3 0 0 N sz 0 [(0, .ref (b + p0))] [] h r := by
  rw [fX0_decidePlaces] at hF
  refine g_iconst (v := 0) hX dX0_decidePlaces_0 (by decide) ?_
  refine g_istore_n (L' := [(1, .int 0), (0, .ref (b + p0))]) hX dX0_decidePlaces_1 (i := 1) rfl (by decide) rfl ?_
  refine g_sub (L' := [(0, .ref (b + p0)), (1, .int 0)]) [1, 0] rfl ?_
  exact kX0_decidePlaces_b2 hX hM hW hA p0 t0 hR lpF h 0 hF
theorem ctX0_decidePlaces {b N sz : Nat} {ok : Nat → Prop} {h : HH} {r : RR} {w : HH} (hM : N ≤ MA) (hW : WT KA lnA ok N r) (hA : ∀ p, KA p < 16 → ok p) (p0 : Nat) (t0 : KA p0 = 0 ∧ ok p0) (hF : fX0_decidePlaces h r p0 = some w) : CT yX0_decidePlaces cX0_decidePlaces 3 (none) 3 b KA lnA MA N sz [.ref (b + p0)] h r N sz none w r 0 0 :=
  CT_of (by decide) rfl (Nat.le_of_ble_eq_true rfl) (by decide) trivial (fun X hX hR => kX0_decidePlaces hX hM hW hA p0 t0 hR hF)
