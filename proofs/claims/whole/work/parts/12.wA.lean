/-! X3_firstUnlike -/
def fX3_firstUnlike_b2 (h : HH) (r : RR) (p0 : Nat) (p1 : Nat) : Nat → Int32 → Option (Int32)
  | 0, _ => none
  | n + 1, x2 => if (h p0 1) ≤ x2 then (some (-1)) else (if 30 ≤ x2 then (some (-1)) else (gd (inb x2 (lnA (r p0 2))) (gd (inb x2 (lnA (r p1 3))) (if (h (r p0 2) (ix x2)) = (h (r p1 3) (ix x2)) then (fX3_firstUnlike_b2 h r p0 p1 n (x2 + 1)) else (some (x2))))))
def fX3_firstUnlike (h : HH) (r : RR) (p0 : Nat) (p1 : Nat) : Option (Int32) := fX3_firstUnlike_b2 h r p0 p1 lpF 0
set_option maxRecDepth 100000 in
set_option maxHeartbeats 4000000 in
theorem kX3_firstUnlike_b2 {X : XT} {b N sz : Nat} {ok : Nat → Prop} {h : HH} {r : RR} {w : Int32} (hX : XOK X RX3 cX3_firstUnlike 3 1) (hM : N ≤ MA) (hW : WT KA lnA ok N r) (p0 : Nat) (p1 : Nat) (t0 : KA p0 = 3 ∧ ok p0) (t1 : KA p1 = 5 ∧ ok p1) (hR : XR X b KA lnA MA (some FieldType.int) 0 0 N sz (some (.int w)) h r) : ∀ (n : Nat) (x2 : Int32), fX3_firstUnlike_b2 h r p0 p1 n x2 = some w → GX X b KA lnA MA 3 0 0 N sz 2 [(0, .ref (b + p0)), (1, .ref (b + p1)), (2, .int x2)] [] h r := by
  intro n
  induction n with
  | zero =>
    intro x2 hF
    cases hF
  | succ n ih =>
    intro x2 hF
    rw [fX3_firstUnlike_b2] at hF
    refine g_iload_n hX dX3_firstUnlike_2 (i := 2) rfl (j := 2) rfl ?_
    refine g_aload_n hX dX3_firstUnlike_3 (i := 0) rfl (j := 0) rfl ?_
    refine gf_X3_15 hX dX3_firstUnlike_4 (ty1 hW t0) ?_
    refine g_icmp_ge (tgt := 39) hX dX3_firstUnlike_7 (by decide) (fun c7 => ?_) (fun c7 => ?_)
    · have hF := ite_t hF c7
      refine g_iconst (v := (-1)) hX dX3_firstUnlike_39 (by decide) ?_
      obtain rfl := Option.some.inj hF
      exact g_iret hX dX3_firstUnlike_40 hR
    · have hF := ite_f hF c7
      refine g_iload_n hX dX3_firstUnlike_10 (i := 2) rfl (j := 2) rfl ?_
      refine g_bipush (v := 30) hX dX3_firstUnlike_11 (by decide) ?_
      refine g_icmp_ge (tgt := 39) hX dX3_firstUnlike_13 (by decide) (fun c13 => ?_) (fun c13 => ?_)
      · have hF := ite_t hF c13
        refine g_iconst (v := (-1)) hX dX3_firstUnlike_39 (by decide) ?_
        obtain rfl := Option.some.inj hF
        exact g_iret hX dX3_firstUnlike_40 hR
      · have hF := ite_f hF c13
        refine g_aload_n hX dX3_firstUnlike_16 (i := 0) rfl (j := 0) rfl ?_
        have tf17 := (tyF (k := 2) hW t0 (by decide) rfl (by decide) : KA (r p0 2) = 9 ∧ ok (r p0 2))
        refine gf_X3_18 hX dX3_firstUnlike_17 (ty1 hW t0) (hW.1 _ tf17.2).1 ?_
        refine g_iload_n hX dX3_firstUnlike_20 (i := 2) rfl (j := 2) rfl ?_
        obtain ⟨g21, hF⟩ := gd_some hF
        refine g_iald hX dX3_firstUnlike_21 tf17.1 (hW.1 _ tf17.2).1 (hW.1 _ tf17.2).2 g21 ?_
        refine g_aload_n hX dX3_firstUnlike_22 (i := 1) rfl (j := 1) rfl ?_
        have tf23 := (tyF (k := 3) hW t1 (by decide) rfl (by decide) : KA (r p1 3) = 9 ∧ ok (r p1 3))
        refine gf_X3_26 hX dX3_firstUnlike_23 (ty1 hW t1) (hW.1 _ tf23.2).1 ?_
        refine g_iload_n hX dX3_firstUnlike_26 (i := 2) rfl (j := 2) rfl ?_
        obtain ⟨g27, hF⟩ := gd_some hF
        refine g_iald hX dX3_firstUnlike_27 tf23.1 (hW.1 _ tf23.2).1 (hW.1 _ tf23.2).2 g27 ?_
        refine g_icmp_eq (tgt := 33) hX dX3_firstUnlike_28 (by decide) (fun c28 => ?_) (fun c28 => ?_)
        · have hF := ite_t hF c28
          refine g_iinc (L' := [(2, .int (x2 + 1)), (0, .ref (b + p0)), (1, .ref (b + p1))]) (j := 2) hX dX3_firstUnlike_33 rfl rfl (by decide) rfl ?_
          refine g_goto (tgt := 2) hX dX3_firstUnlike_36 (by decide) ?_
          refine g_sub (L' := [(0, .ref (b + p0)), (1, .ref (b + p1)), (2, .int (x2 + 1))]) [1, 2, 0] rfl ?_
          exact ih (x2 + 1) hF
        · have hF := ite_f hF c28
          refine g_iload_n hX dX3_firstUnlike_31 (i := 2) rfl (j := 2) rfl ?_
          obtain rfl := Option.some.inj hF
          exact g_iret hX dX3_firstUnlike_32 hR
set_option maxRecDepth 100000 in
set_option maxHeartbeats 4000000 in
theorem kX3_firstUnlike {X : XT} {b N sz : Nat} {ok : Nat → Prop} {h : HH} {r : RR} {w : Int32} (hX : XOK X RX3 cX3_firstUnlike 3 1) (hM : N ≤ MA) (hW : WT KA lnA ok N r) (p0 : Nat) (p1 : Nat) (t0 : KA p0 = 3 ∧ ok p0) (t1 : KA p1 = 5 ∧ ok p1) (hR : XR X b KA lnA MA (some FieldType.int) 0 0 N sz (some (.int w)) h r) (hF : fX3_firstUnlike h r p0 p1 = some w) : GX X b KA lnA MA 3 0 0 N sz 0 [(0, .ref (b + p0)), (1, .ref (b + p1))] [] h r := by
  rw [fX3_firstUnlike] at hF
  refine g_iconst (v := 0) hX dX3_firstUnlike_0 (by decide) ?_
  refine g_istore_n (L' := [(2, .int 0), (0, .ref (b + p0)), (1, .ref (b + p1))]) hX dX3_firstUnlike_1 (i := 2) rfl (by decide) rfl ?_
  refine g_sub (L' := [(0, .ref (b + p0)), (1, .ref (b + p1)), (2, .int 0)]) [1, 2, 0] rfl ?_
  exact kX3_firstUnlike_b2 hX hM hW p0 p1 t0 t1 hR lpF 0 hF
theorem ctX3_firstUnlike {b N sz : Nat} {ok : Nat → Prop} {h : HH} {r : RR} {w : Int32} (hM : N ≤ MA) (hW : WT KA lnA ok N r) (p0 : Nat) (p1 : Nat) (t0 : KA p0 = 3 ∧ ok p0) (t1 : KA p1 = 5 ∧ ok p1) (hF : fX3_firstUnlike h r p0 p1 = some w) : CT yX3_firstUnlike cX3_firstUnlike 3 (some FieldType.int) 1 b KA lnA MA N sz [.ref (b + p0), .ref (b + p1)] h r N sz (some (.int w)) h r 0 0 :=
  CT_of (by decide) rfl (Nat.le_of_ble_eq_true rfl) (by decide) trivial (fun X hX hR => kX3_firstUnlike hX hM hW p0 p1 t0 t1 hR hF)
/-! X4_append -/
def fX4_append (h : HH) (r : RR) (p0 : Nat) (a1 : Int32) : Option (HH) := if 40 ≤ (h p0 1) then (some h) else (gd (inb (h p0 1) (lnA (r p0 0))) (lt (up h (r p0 0) (ix (h p0 1)) a1) (fun h18 => lt (up h18 p0 1 ((h18 p0 1) + 1)) (fun h26 => some h26))))
set_option maxRecDepth 100000 in
set_option maxHeartbeats 4000000 in
theorem kX4_append {X : XT} {b N sz : Nat} {ok : Nat → Prop} {h : HH} {r : RR} {w : HH} (hX : XOK X RX4 cX4_append 2 1) (hM : N ≤ MA) (hW : WT KA lnA ok N r) (p0 : Nat) (a1 : Int32) (t0 : KA p0 = 4 ∧ ok p0) (hR : XR X b KA lnA MA (none) 0 0 N sz none w r) (hF : fX4_append h r p0 a1 = some w) : GX X b KA lnA MA 2 0 0 N sz 0 [(0, .ref (b + p0)), (1, .int a1)] [] h r := by
  rw [fX4_append] at hF
  refine g_aload_n hX dX4_append_0 (i := 0) rfl (j := 0) rfl ?_
  refine gf_X4_15 hX dX4_append_1 (ty1 hW t0) ?_
  refine g_bipush (v := 40) hX dX4_append_4 (by decide) ?_
  refine g_icmp_ge (tgt := 29) hX dX4_append_6 (by decide) (fun c6 => ?_) (fun c6 => ?_)
  · have hF := ite_t hF c6
    obtain rfl := Option.some.inj hF
    exact g_vret hX dX4_append_29 hR
  · have hF := ite_f hF c6
    refine g_aload_n hX dX4_append_9 (i := 0) rfl (j := 0) rfl ?_
    have tf10 := (tyF (k := 0) hW t0 (by decide) rfl (by decide) : KA (r p0 0) = 9 ∧ ok (r p0 0))
    refine gf_X4_9 hX dX4_append_10 (ty1 hW t0) (hW.1 _ tf10.2).1 ?_
    refine g_aload_n hX dX4_append_13 (i := 0) rfl (j := 0) rfl ?_
    refine gf_X4_15 hX dX4_append_14 (ty1 hW t0) ?_
    refine g_iload_n hX dX4_append_17 (i := 1) rfl (j := 1) rfl ?_
    obtain ⟨g18, hF⟩ := gd_some hF
    obtain ⟨h18, e18, hF⟩ := lt_some hF
    refine g_iast hX dX4_append_18 tf10.1 (hW.1 _ tf10.2).1 (hW.1 _ tf10.2).2 hM g18 e18 ?_
    refine g_aload_n hX dX4_append_19 (i := 0) rfl (j := 0) rfl ?_
    refine g_dup hX dX4_append_20 rfl ?_
    refine gf_X4_15 hX dX4_append_21 (ty1 hW t0) ?_
    refine g_iconst (v := 1) hX dX4_append_24 (by decide) ?_
    refine g_iadd hX dX4_append_25 ?_
    obtain ⟨h26, e26, hF⟩ := lt_some hF
    refine pf_X4_15 hX dX4_append_26 (ty1 hW t0) hM e26 ?_
    obtain rfl := Option.some.inj hF
    exact g_vret hX dX4_append_29 hR
theorem ctX4_append {b N sz : Nat} {ok : Nat → Prop} {h : HH} {r : RR} {w : HH} (hM : N ≤ MA) (hW : WT KA lnA ok N r) (p0 : Nat) (a1 : Int32) (t0 : KA p0 = 4 ∧ ok p0) (hF : fX4_append h r p0 a1 = some w) : CT yX4_append cX4_append 2 (none) 1 b KA lnA MA N sz [.ref (b + p0), .int a1] h r N sz none w r 0 0 :=
  CT_of (by decide) rfl (Nat.le_of_ble_eq_true rfl) (by decide) trivial (fun X hX hR => kX4_append hX hM hW p0 a1 t0 hR hF)
/-! X4_isDigit -/
def fX4_isDigit_b34 (h : HH) (r : RR) (p0 : Nat) (a1 : Int32) : Option (Int32) := some (0)
def fX4_isDigit (h : HH) (r : RR) (p0 : Nat) (a1 : Int32) : Option (Int32) := if (h p0 1) ≤ a1 then (fX4_isDigit_b34 h r p0 a1) else (gd (inb a1 (lnA (r p0 0))) (if (h (r p0 0) (ix a1)) < 48 then (fX4_isDigit_b34 h r p0 a1) else (gd (inb a1 (lnA (r p0 0))) (if 57 < (h (r p0 0) (ix a1)) then (fX4_isDigit_b34 h r p0 a1) else (some (1))))))
set_option maxRecDepth 100000 in
set_option maxHeartbeats 4000000 in
theorem kX4_isDigit_b34 {X : XT} {b N sz : Nat} {ok : Nat → Prop} {h : HH} {r : RR} {w : Int32} (hX : XOK X RX4 cX4_isDigit 2 1) (hM : N ≤ MA) (hW : WT KA lnA ok N r) (p0 : Nat) (a1 : Int32) (t0 : KA p0 = 4 ∧ ok p0) (hR : XR X b KA lnA MA (some FieldType.boolean) 0 0 N sz (some (.int w)) h r) (hF : fX4_isDigit_b34 h r p0 a1 = some w) : GX X b KA lnA MA 2 0 0 N sz 34 [(0, .ref (b + p0)), (1, .int a1)] [] h r := by
  rw [fX4_isDigit_b34] at hF
  refine g_iconst (v := 0) hX dX4_isDigit_34 (by decide) ?_
  obtain rfl := Option.some.inj hF
  exact g_zret hX dX4_isDigit_35 (by decide) hR
set_option maxRecDepth 100000 in
set_option maxHeartbeats 4000000 in
theorem kX4_isDigit {X : XT} {b N sz : Nat} {ok : Nat → Prop} {h : HH} {r : RR} {w : Int32} (hX : XOK X RX4 cX4_isDigit 2 1) (hM : N ≤ MA) (hW : WT KA lnA ok N r) (p0 : Nat) (a1 : Int32) (t0 : KA p0 = 4 ∧ ok p0) (hR : XR X b KA lnA MA (some FieldType.boolean) 0 0 N sz (some (.int w)) h r) (hF : fX4_isDigit h r p0 a1 = some w) : GX X b KA lnA MA 2 0 0 N sz 0 [(0, .ref (b + p0)), (1, .int a1)] [] h r := by
  rw [fX4_isDigit] at hF
  refine g_iload_n hX dX4_isDigit_0 (i := 1) rfl (j := 1) rfl ?_
  refine g_aload_n hX dX4_isDigit_1 (i := 0) rfl (j := 0) rfl ?_
  refine gf_X4_15 hX dX4_isDigit_2 (ty1 hW t0) ?_
  refine g_icmp_ge (tgt := 34) hX dX4_isDigit_5 (by decide) (fun c5 => ?_) (fun c5 => ?_)
  · have hF := ite_t hF c5
    refine g_sub (L' := [(0, .ref (b + p0)), (1, .int a1)]) [0, 1] rfl ?_
    exact kX4_isDigit_b34 hX hM hW p0 a1 t0 hR hF
  · have hF := ite_f hF c5
    refine g_aload_n hX dX4_isDigit_8 (i := 0) rfl (j := 0) rfl ?_
    have tf9 := (tyF (k := 0) hW t0 (by decide) rfl (by decide) : KA (r p0 0) = 9 ∧ ok (r p0 0))
    refine gf_X4_9 hX dX4_isDigit_9 (ty1 hW t0) (hW.1 _ tf9.2).1 ?_
    refine g_iload_n hX dX4_isDigit_12 (i := 1) rfl (j := 1) rfl ?_
    obtain ⟨g13, hF⟩ := gd_some hF
    refine g_iald hX dX4_isDigit_13 tf9.1 (hW.1 _ tf9.2).1 (hW.1 _ tf9.2).2 g13 ?_
    refine g_bipush (v := 48) hX dX4_isDigit_14 (by decide) ?_
    refine g_icmp_lt (tgt := 34) hX dX4_isDigit_16 (by decide) (fun c16 => ?_) (fun c16 => ?_)
    · have hF := ite_t hF c16
      refine g_sub (L' := [(0, .ref (b + p0)), (1, .int a1)]) [0, 1] rfl ?_
      exact kX4_isDigit_b34 hX hM hW p0 a1 t0 hR hF
    · have hF := ite_f hF c16
      refine g_aload_n hX dX4_isDigit_19 (i := 0) rfl (j := 0) rfl ?_
      have tf20 := (tyF (k := 0) hW t0 (by decide) rfl (by decide) : KA (r p0 0) = 9 ∧ ok (r p0 0))
      refine gf_X4_9 hX dX4_isDigit_20 (ty1 hW t0) (hW.1 _ tf20.2).1 ?_
      refine g_iload_n hX dX4_isDigit_23 (i := 1) rfl (j := 1) rfl ?_
      obtain ⟨g24, hF⟩ := gd_some hF
      refine g_iald hX dX4_isDigit_24 tf20.1 (hW.1 _ tf20.2).1 (hW.1 _ tf20.2).2 g24 ?_
      refine g_bipush (v := 57) hX dX4_isDigit_25 (by decide) ?_
      refine g_icmp_gt (tgt := 34) hX dX4_isDigit_27 (by decide) (fun c27 => ?_) (fun c27 => ?_)
      · have hF := ite_t hF c27
        refine g_sub (L' := [(0, .ref (b + p0)), (1, .int a1)]) [0, 1] rfl ?_
        exact kX4_isDigit_b34 hX hM hW p0 a1 t0 hR hF
      · have hF := ite_f hF c27
        refine g_iconst (v := 1) hX dX4_isDigit_30 (by decide) ?_
        refine g_goto (tgt := 35) hX dX4_isDigit_31 (by decide) ?_
        obtain rfl := Option.some.inj hF
        exact g_zret hX dX4_isDigit_35 (by decide) hR
theorem ctX4_isDigit {b N sz : Nat} {ok : Nat → Prop} {h : HH} {r : RR} {w : Int32} (hM : N ≤ MA) (hW : WT KA lnA ok N r) (p0 : Nat) (a1 : Int32) (t0 : KA p0 = 4 ∧ ok p0) (hF : fX4_isDigit h r p0 a1 = some w) : CT yX4_isDigit cX4_isDigit 2 (some FieldType.boolean) 1 b KA lnA MA N sz [.ref (b + p0), .int a1] h r N sz (some (.int w)) h r 0 0 :=
  CT_of (by decide) rfl (Nat.le_of_ble_eq_true rfl) (by decide) trivial (fun X hX hR => kX4_isDigit hX hM hW p0 a1 t0 hR hF)
/-! X4_readNumber -/
def fX4_readNumber_b96 (r : RR) (p0 : Nat) (h : HH) (u0 : Nat) (s1 : Int32) : Option (HH) := lt (up h u0 3 s1) (fun h96 => some h96)
def fX4_readNumber_b77 (r : RR) (p0 : Nat) (h : HH) : Option (HH) := if ((h p0 2) - (h p0 4)) ≤ 2 then (fX4_readNumber_b96 r p0 h p0 2) else (fX4_readNumber_b96 r p0 h p0 1)
def fX4_readNumber_b64 (r : RR) (p0 : Nat) (k5 : HH → Option (HH)) (h : HH) : Option (HH) := lt (up h p0 2 ((h p0 2) + 1)) (fun h71 => k5 h71)
def fX4_readNumber_b5 (r : RR) (p0 : Nat) : Nat → HH → Option (HH)
  | 0, _ => none
  | n + 1, h => if (h p0 1) ≤ (h p0 2) then (fX4_readNumber_b77 r p0 h) else ((fX4_isDigit h r p0 (h p0 2)).bind (fun v21 => if v21 = 0 then (fX4_readNumber_b77 r p0 h) else (if 2 ≤ ((h p0 2) - (h p0 4)) then (fX4_readNumber_b64 r p0 (fun h_ => fX4_readNumber_b5 r p0 n h_) h) else (gd (inb (h p0 2) (lnA (r p0 0))) (lt (up h p0 5 ((((h p0 5) * 10) + (h (r p0 0) (ix (h p0 2)))) - 48)) (fun h61 => fX4_readNumber_b64 r p0 (fun h_ => fX4_readNumber_b5 r p0 n h_) h61))))))
def fX4_readNumber (h : HH) (r : RR) (p0 : Nat) : Option (HH) := lt (up h p0 5 0) (fun h2 => fX4_readNumber_b5 r p0 lpF h2)
set_option maxRecDepth 100000 in
set_option maxHeartbeats 4000000 in
theorem kX4_readNumber_b96 {X : XT} {b N sz : Nat} {ok : Nat → Prop} {r : RR} {w : HH} (hX : XOK X RX4 cX4_readNumber 1 2) (hM : N ≤ MA) (hW : WT KA lnA ok N r) (p0 : Nat) (t0 : KA p0 = 4 ∧ ok p0) (hR : XR X b KA lnA MA (none) 0 0 N sz none w r) (h : HH) (u0 : Nat) (s1 : Int32) (ts0 : KA u0 = 4 ∧ ok u0) (hF : fX4_readNumber_b96 r p0 h u0 s1 = some w) : GX X b KA lnA MA 1 0 0 N sz 96 [(0, .ref (b + p0))] [.int s1, .ref (b + u0)] h r := by
  rw [fX4_readNumber_b96] at hF
  obtain ⟨h96, e96, hF⟩ := lt_some hF
  refine pf_X4_28 hX dX4_readNumber_96 (ty1 hW ts0) hM e96 ?_
  obtain rfl := Option.some.inj hF
  exact g_vret hX dX4_readNumber_99 hR
set_option maxRecDepth 100000 in
set_option maxHeartbeats 4000000 in
theorem kX4_readNumber_b77 {X : XT} {b N sz : Nat} {ok : Nat → Prop} {r : RR} {w : HH} (hX : XOK X RX4 cX4_readNumber 1 2) (hM : N ≤ MA) (hW : WT KA lnA ok N r) (p0 : Nat) (t0 : KA p0 = 4 ∧ ok p0) (hR : XR X b KA lnA MA (none) 0 0 N sz none w r) (h : HH) (hF : fX4_readNumber_b77 r p0 h = some w) : GX X b KA lnA MA 1 0 0 N sz 77 [(0, .ref (b + p0))] [] h r := by
  rw [fX4_readNumber_b77] at hF
  refine g_aload_n hX dX4_readNumber_77 (i := 0) rfl (j := 0) rfl ?_
  refine g_aload_n hX dX4_readNumber_78 (i := 0) rfl (j := 0) rfl ?_
  refine gf_X4_19 hX dX4_readNumber_79 (ty1 hW t0) ?_
  refine g_aload_n hX dX4_readNumber_82 (i := 0) rfl (j := 0) rfl ?_
  refine gf_X4_35 hX dX4_readNumber_83 (ty1 hW t0) ?_
  refine g_isub hX dX4_readNumber_86 ?_
  refine g_iconst (v := 2) hX dX4_readNumber_87 (by decide) ?_
  refine g_icmp_le (tgt := 95) hX dX4_readNumber_88 (by decide) (fun c88 => ?_) (fun c88 => ?_)
  · have hF := ite_t hF c88
    refine g_iconst (v := 2) hX dX4_readNumber_95 (by decide) ?_
    refine g_sub (L' := [(0, .ref (b + p0))]) [0] rfl ?_
    exact kX4_readNumber_b96 hX hM hW p0 t0 hR h p0 2 t0 hF
  · have hF := ite_f hF c88
    refine g_iconst (v := 1) hX dX4_readNumber_91 (by decide) ?_
    refine g_goto (tgt := 96) hX dX4_readNumber_92 (by decide) ?_
    refine g_sub (L' := [(0, .ref (b + p0))]) [0] rfl ?_
    exact kX4_readNumber_b96 hX hM hW p0 t0 hR h p0 1 t0 hF
set_option maxRecDepth 100000 in
set_option maxHeartbeats 4000000 in
theorem kX4_readNumber_b64 {X : XT} {b N sz : Nat} {ok : Nat → Prop} {r : RR} {w : HH} (hX : XOK X RX4 cX4_readNumber 1 2) (hM : N ≤ MA) (hW : WT KA lnA ok N r) (p0 : Nat) (t0 : KA p0 = 4 ∧ ok p0) (hR : XR X b KA lnA MA (none) 0 0 N sz none w r) (k5 : HH → Option (HH)) (hk5 : ∀ (h : HH), k5 h = some w → GX X b KA lnA MA 1 0 0 N sz 5 [(0, .ref (b + p0))] [] h r) (h : HH) (hF : fX4_readNumber_b64 r p0 k5 h = some w) : GX X b KA lnA MA 1 0 0 N sz 64 [(0, .ref (b + p0))] [] h r := by
  rw [fX4_readNumber_b64] at hF
  refine g_aload_n hX dX4_readNumber_64 (i := 0) rfl (j := 0) rfl ?_
  refine g_dup hX dX4_readNumber_65 rfl ?_
  refine gf_X4_19 hX dX4_readNumber_66 (ty1 hW t0) ?_
  refine g_iconst (v := 1) hX dX4_readNumber_69 (by decide) ?_
  refine g_iadd hX dX4_readNumber_70 ?_
  obtain ⟨h71, e71, hF⟩ := lt_some hF
  refine pf_X4_19 hX dX4_readNumber_71 (ty1 hW t0) hM e71 ?_
  refine g_goto (tgt := 5) hX dX4_readNumber_74 (by decide) ?_
  refine g_sub (L' := [(0, .ref (b + p0))]) [0] rfl ?_
  exact hk5 h71 hF
set_option maxRecDepth 100000 in
set_option maxHeartbeats 4000000 in
theorem kX4_readNumber_b5 {X : XT} {b N sz : Nat} {ok : Nat → Prop} {r : RR} {w : HH} (hX : XOK X RX4 cX4_readNumber 1 2) (hM : N ≤ MA) (hW : WT KA lnA ok N r) (p0 : Nat) (t0 : KA p0 = 4 ∧ ok p0) (hR : XR X b KA lnA MA (none) 0 0 N sz none w r) : ∀ (n : Nat) (h : HH), fX4_readNumber_b5 r p0 n h = some w → GX X b KA lnA MA 1 0 0 N sz 5 [(0, .ref (b + p0))] [] h r := by
  intro n
  induction n with
  | zero =>
    intro h hF
    cases hF
  | succ n ih =>
    intro h hF
    rw [fX4_readNumber_b5] at hF
    refine g_aload_n hX dX4_readNumber_5 (i := 0) rfl (j := 0) rfl ?_
    refine gf_X4_19 hX dX4_readNumber_6 (ty1 hW t0) ?_
    refine g_aload_n hX dX4_readNumber_9 (i := 0) rfl (j := 0) rfl ?_
    refine gf_X4_15 hX dX4_readNumber_10 (ty1 hW t0) ?_
    refine g_icmp_ge (tgt := 77) hX dX4_readNumber_13 (by decide) (fun c13 => ?_) (fun c13 => ?_)
    · have hF := ite_t hF c13
      refine g_sub (L' := [(0, .ref (b + p0))]) [0] rfl ?_
      exact kX4_readNumber_b77 hX hM hW p0 t0 hR h hF
    · have hF := ite_f hF c13
      refine g_aload_n hX dX4_readNumber_16 (i := 0) rfl (j := 0) rfl ?_
      refine g_aload_n hX dX4_readNumber_17 (i := 0) rfl (j := 0) rfl ?_
      refine gf_X4_19 hX dX4_readNumber_18 (ty1 hW t0) ?_
      obtain ⟨v21, e21, hF⟩ := bi_some hF
      refine g_callV (As := [.int (h p0 2)]) (rest := []) (stk := [.int v21]) hX dX4_readNumber_21 (ctX4_isDigit hM hW p0 (h p0 2) t0 e21) (by decide) (by decide) wm_X4_44 wi_X4_isDigit ws_X4_isDigit wz_X4 wc_X4_isDigit hyX4_isDigit rfl (ci := 4) rfl (by decide) t0.1 (hW.1 _ t0.2).1 (hW.1 _ t0.2).2 (Nat.le_of_ble_eq_true rfl) rfl rfl ?_ rfl rfl
      refine g_if_eq (tgt := 77) hX dX4_readNumber_24 (by decide) (fun c24 => ?_) (fun c24 => ?_)
      · have hF := ite_t hF c24
        refine g_sub (L' := [(0, .ref (b + p0))]) [0] rfl ?_
        exact kX4_readNumber_b77 hX hM hW p0 t0 hR h hF
      · have hF := ite_f hF c24
        refine g_aload_n hX dX4_readNumber_27 (i := 0) rfl (j := 0) rfl ?_
        refine gf_X4_19 hX dX4_readNumber_28 (ty1 hW t0) ?_
        refine g_aload_n hX dX4_readNumber_31 (i := 0) rfl (j := 0) rfl ?_
        refine gf_X4_35 hX dX4_readNumber_32 (ty1 hW t0) ?_
        refine g_isub hX dX4_readNumber_35 ?_
        refine g_iconst (v := 2) hX dX4_readNumber_36 (by decide) ?_
        refine g_icmp_ge (tgt := 64) hX dX4_readNumber_37 (by decide) (fun c37 => ?_) (fun c37 => ?_)
        · have hF := ite_t hF c37
          refine g_sub (L' := [(0, .ref (b + p0))]) [0] rfl ?_
          exact kX4_readNumber_b64 hX hM hW p0 t0 hR (fun h_ => fX4_readNumber_b5 r p0 n h_) ih h hF
        · have hF := ite_f hF c37
          refine g_aload_n hX dX4_readNumber_40 (i := 0) rfl (j := 0) rfl ?_
          refine g_aload_n hX dX4_readNumber_41 (i := 0) rfl (j := 0) rfl ?_
          refine gf_X4_41 hX dX4_readNumber_42 (ty1 hW t0) ?_
          refine g_bipush (v := 10) hX dX4_readNumber_45 (by decide) ?_
          refine g_imul hX dX4_readNumber_47 ?_
          refine g_aload_n hX dX4_readNumber_48 (i := 0) rfl (j := 0) rfl ?_
          have tf49 := (tyF (k := 0) hW t0 (by decide) rfl (by decide) : KA (r p0 0) = 9 ∧ ok (r p0 0))
          refine gf_X4_9 hX dX4_readNumber_49 (ty1 hW t0) (hW.1 _ tf49.2).1 ?_
          refine g_aload_n hX dX4_readNumber_52 (i := 0) rfl (j := 0) rfl ?_
          refine gf_X4_19 hX dX4_readNumber_53 (ty1 hW t0) ?_
          obtain ⟨g56, hF⟩ := gd_some hF
          refine g_iald hX dX4_readNumber_56 tf49.1 (hW.1 _ tf49.2).1 (hW.1 _ tf49.2).2 g56 ?_
          refine g_iadd hX dX4_readNumber_57 ?_
          refine g_bipush (v := 48) hX dX4_readNumber_58 (by decide) ?_
          refine g_isub hX dX4_readNumber_60 ?_
          obtain ⟨h61, e61, hF⟩ := lt_some hF
          refine pf_X4_41 hX dX4_readNumber_61 (ty1 hW t0) hM e61 ?_
          refine g_sub (L' := [(0, .ref (b + p0))]) [0] rfl ?_
          exact kX4_readNumber_b64 hX hM hW p0 t0 hR (fun h_ => fX4_readNumber_b5 r p0 n h_) ih h61 hF
set_option maxRecDepth 100000 in
set_option maxHeartbeats 4000000 in
theorem kX4_readNumber {X : XT} {b N sz : Nat} {ok : Nat → Prop} {h : HH} {r : RR} {w : HH} (hX : XOK X RX4 cX4_readNumber 1 2) (hM : N ≤ MA) (hW : WT KA lnA ok N r) (p0 : Nat) (t0 : KA p0 = 4 ∧ ok p0) (hR : XR X b KA lnA MA (none) 0 0 N sz none w r) (hF : fX4_readNumber h r p0 = some w) : GX X b KA lnA MA 1 0 0 N sz 0 [(0, .ref (b + p0))] [] h r := by
  rw [fX4_readNumber] at hF
  refine g_aload_n hX dX4_readNumber_0 (i := 0) rfl (j := 0) rfl ?_
  refine g_iconst (v := 0) hX dX4_readNumber_1 (by decide) ?_
  obtain ⟨h2, e2, hF⟩ := lt_some hF
  refine pf_X4_41 hX dX4_readNumber_2 (ty1 hW t0) hM e2 ?_
  refine g_sub (L' := [(0, .ref (b + p0))]) [0] rfl ?_
  exact kX4_readNumber_b5 hX hM hW p0 t0 hR lpF h2 hF
theorem ctX4_readNumber {b N sz : Nat} {ok : Nat → Prop} {h : HH} {r : RR} {w : HH} (hM : N ≤ MA) (hW : WT KA lnA ok N r) (p0 : Nat) (t0 : KA p0 = 4 ∧ ok p0) (hF : fX4_readNumber h r p0 = some w) : CT yX4_readNumber cX4_readNumber 1 (none) 2 b KA lnA MA N sz [.ref (b + p0)] h r N sz none w r 0 0 :=
  CT_of (by decide) rfl (Nat.le_of_ble_eq_true rfl) (by decide) trivial (fun X hX hR => kX4_readNumber hX hM hW p0 t0 hR hF)
/-! X4_readSign -/
def fX4_readSign_b112 (r : RR) (p0 : Nat) (h : HH) : Option (HH) := lt (up h p0 3 5) (fun h114 => lt (up h114 p0 5 (-1)) (fun h119 => some h119))
def fX4_readSign (h : HH) (r : RR) (p0 : Nat) : Option (HH) := gd (inb (h p0 2) (lnA (r p0 0))) (lt (h (r p0 0) (ix (h p0 2))) (fun y9 => lt (up h p0 2 ((h p0 2) + 1)) (fun h17 => if ¬ y9 = 33 then (if ¬ y9 = 47 then (if y9 = 42 then (if (h17 p0 1) ≤ (h17 p0 2) then (fX4_readSign_b112 r p0 h17) else (gd (inb (h17 p0 2) (lnA (r p0 0))) (if ¬ (h17 (r p0 0) (ix (h17 p0 2))) = 42 then (fX4_readSign_b112 r p0 h17) else (lt (up h17 p0 2 ((h17 p0 2) + 1)) (fun h94 => lt (up h94 p0 3 6) (fun h100 => lt (up h100 p0 5 (-2)) (fun h106 => some h106))))))) else (lt (up h17 p0 3 1) (fun h56 => some h56))) else (lt (up h17 p0 3 4) (fun h42 => some h42))) else (lt (up h17 p0 3 3) (fun h28 => some h28)))))
set_option maxRecDepth 100000 in
set_option maxHeartbeats 4000000 in
theorem kX4_readSign_b112 {X : XT} {b N sz : Nat} {ok : Nat → Prop} {r : RR} {w : HH} (hX : XOK X RX4 cX4_readSign 2 1) (hM : N ≤ MA) (hW : WT KA lnA ok N r) (p0 : Nat) (t0 : KA p0 = 4 ∧ ok p0) (hR : XR X b KA lnA MA (none) 0 0 N sz none w r) (h : HH) (hF : fX4_readSign_b112 r p0 h = some w) : GX X b KA lnA MA 2 0 0 N sz 112 [(0, .ref (b + p0))] [] h r := by
  rw [fX4_readSign_b112] at hF
  refine g_aload_n hX dX4_readSign_112 (i := 0) rfl (j := 0) rfl ?_
  refine g_iconst (v := 5) hX dX4_readSign_113 (by decide) ?_
  obtain ⟨h114, e114, hF⟩ := lt_some hF
  refine pf_X4_28 hX dX4_readSign_114 (ty1 hW t0) hM e114 ?_
  refine g_aload_n hX dX4_readSign_117 (i := 0) rfl (j := 0) rfl ?_
  refine g_iconst (v := (-1)) hX dX4_readSign_118 (by decide) ?_
  obtain ⟨h119, e119, hF⟩ := lt_some hF
  refine pf_X4_41 hX dX4_readSign_119 (ty1 hW t0) hM e119 ?_
  obtain rfl := Option.some.inj hF
  exact g_vret hX dX4_readSign_122 hR
set_option maxRecDepth 100000 in
set_option maxHeartbeats 4000000 in
theorem kX4_readSign {X : XT} {b N sz : Nat} {ok : Nat → Prop} {h : HH} {r : RR} {w : HH} (hX : XOK X RX4 cX4_readSign 2 1) (hM : N ≤ MA) (hW : WT KA lnA ok N r) (p0 : Nat) (t0 : KA p0 = 4 ∧ ok p0) (hR : XR X b KA lnA MA (none) 0 0 N sz none w r) (hF : fX4_readSign h r p0 = some w) : GX X b KA lnA MA 2 0 0 N sz 0 [(0, .ref (b + p0))] [] h r := by
  rw [fX4_readSign] at hF
  refine g_aload_n hX dX4_readSign_0 (i := 0) rfl (j := 0) rfl ?_
  have tf1 := (tyF (k := 0) hW t0 (by decide) rfl (by decide) : KA (r p0 0) = 9 ∧ ok (r p0 0))
  refine gf_X4_9 hX dX4_readSign_1 (ty1 hW t0) (hW.1 _ tf1.2).1 ?_
  refine g_aload_n hX dX4_readSign_4 (i := 0) rfl (j := 0) rfl ?_
  refine gf_X4_19 hX dX4_readSign_5 (ty1 hW t0) ?_
  obtain ⟨g8, hF⟩ := gd_some hF
  refine g_iald hX dX4_readSign_8 tf1.1 (hW.1 _ tf1.2).1 (hW.1 _ tf1.2).2 g8 ?_
  obtain ⟨y9, e9, hF⟩ := lt_some hF
  refine g_topi e9 ?_
  refine g_istore_n (L' := [(1, .int y9), (0, .ref (b + p0))]) hX dX4_readSign_9 (i := 1) rfl (by decide) rfl ?_
  refine g_aload_n hX dX4_readSign_10 (i := 0) rfl (j := 1) rfl ?_
  refine g_dup hX dX4_readSign_11 rfl ?_
  refine gf_X4_19 hX dX4_readSign_12 (ty1 hW t0) ?_
  refine g_iconst (v := 1) hX dX4_readSign_15 (by decide) ?_
  refine g_iadd hX dX4_readSign_16 ?_
  obtain ⟨h17, e17, hF⟩ := lt_some hF
  refine pf_X4_19 hX dX4_readSign_17 (ty1 hW t0) hM e17 ?_
  refine g_iload_n hX dX4_readSign_20 (i := 1) rfl (j := 0) rfl ?_
  refine g_bipush (v := 33) hX dX4_readSign_21 (by decide) ?_
  refine g_icmp_ne (tgt := 34) hX dX4_readSign_23 (by decide) (fun c23 => ?_) (fun c23 => ?_)
  · have hF := ite_t hF c23
    refine g_iload_n hX dX4_readSign_34 (i := 1) rfl (j := 0) rfl ?_
    refine g_bipush (v := 47) hX dX4_readSign_35 (by decide) ?_
    refine g_icmp_ne (tgt := 48) hX dX4_readSign_37 (by decide) (fun c37 => ?_) (fun c37 => ?_)
    · have hF := ite_t hF c37
      refine g_iload_n hX dX4_readSign_48 (i := 1) rfl (j := 0) rfl ?_
      refine g_bipush (v := 42) hX dX4_readSign_49 (by decide) ?_
      refine g_icmp_eq (tgt := 62) hX dX4_readSign_51 (by decide) (fun c51 => ?_) (fun c51 => ?_)
      · have hF := ite_t hF c51
        refine g_aload_n hX dX4_readSign_62 (i := 0) rfl (j := 1) rfl ?_
        refine gf_X4_19 hX dX4_readSign_63 (ty1 hW t0) ?_
        refine g_aload_n hX dX4_readSign_66 (i := 0) rfl (j := 1) rfl ?_
        refine gf_X4_15 hX dX4_readSign_67 (ty1 hW t0) ?_
        refine g_icmp_ge (tgt := 112) hX dX4_readSign_70 (by decide) (fun c70 => ?_) (fun c70 => ?_)
        · have hF := ite_t hF c70
          refine g_sub (L' := [(0, .ref (b + p0))]) [1] rfl ?_
          exact kX4_readSign_b112 hX hM hW p0 t0 hR h17 hF
        · have hF := ite_f hF c70
          refine g_aload_n hX dX4_readSign_73 (i := 0) rfl (j := 1) rfl ?_
          have tf74 := (tyF (k := 0) hW t0 (by decide) rfl (by decide) : KA (r p0 0) = 9 ∧ ok (r p0 0))
          refine gf_X4_9 hX dX4_readSign_74 (ty1 hW t0) (hW.1 _ tf74.2).1 ?_
          refine g_aload_n hX dX4_readSign_77 (i := 0) rfl (j := 1) rfl ?_
          refine gf_X4_19 hX dX4_readSign_78 (ty1 hW t0) ?_
          obtain ⟨g81, hF⟩ := gd_some hF
          refine g_iald hX dX4_readSign_81 tf74.1 (hW.1 _ tf74.2).1 (hW.1 _ tf74.2).2 g81 ?_
          refine g_bipush (v := 42) hX dX4_readSign_82 (by decide) ?_
          refine g_icmp_ne (tgt := 112) hX dX4_readSign_84 (by decide) (fun c84 => ?_) (fun c84 => ?_)
          · have hF := ite_t hF c84
            refine g_sub (L' := [(0, .ref (b + p0))]) [1] rfl ?_
            exact kX4_readSign_b112 hX hM hW p0 t0 hR h17 hF
          · have hF := ite_f hF (fun z => z c84)
            refine g_aload_n hX dX4_readSign_87 (i := 0) rfl (j := 1) rfl ?_
            refine g_dup hX dX4_readSign_88 rfl ?_
            refine gf_X4_19 hX dX4_readSign_89 (ty1 hW t0) ?_
            refine g_iconst (v := 1) hX dX4_readSign_92 (by decide) ?_
            refine g_iadd hX dX4_readSign_93 ?_
            obtain ⟨h94, e94, hF⟩ := lt_some hF
            refine pf_X4_19 hX dX4_readSign_94 (ty1 hW t0) hM e94 ?_
            refine g_aload_n hX dX4_readSign_97 (i := 0) rfl (j := 1) rfl ?_
            refine g_bipush (v := 6) hX dX4_readSign_98 (by decide) ?_
            obtain ⟨h100, e100, hF⟩ := lt_some hF
            refine pf_X4_28 hX dX4_readSign_100 (ty1 hW t0) hM e100 ?_
            refine g_aload_n hX dX4_readSign_103 (i := 0) rfl (j := 1) rfl ?_
            refine g_bipush (v := (-2)) hX dX4_readSign_104 (by decide) ?_
            obtain ⟨h106, e106, hF⟩ := lt_some hF
            refine pf_X4_41 hX dX4_readSign_106 (ty1 hW t0) hM e106 ?_
            refine g_goto (tgt := 122) hX dX4_readSign_109 (by decide) ?_
            obtain rfl := Option.some.inj hF
            exact g_vret hX dX4_readSign_122 hR
      · have hF := ite_f hF c51
        refine g_aload_n hX dX4_readSign_54 (i := 0) rfl (j := 1) rfl ?_
        refine g_iconst (v := 1) hX dX4_readSign_55 (by decide) ?_
        obtain ⟨h56, e56, hF⟩ := lt_some hF
        refine pf_X4_28 hX dX4_readSign_56 (ty1 hW t0) hM e56 ?_
        refine g_goto (tgt := 122) hX dX4_readSign_59 (by decide) ?_
        obtain rfl := Option.some.inj hF
        exact g_vret hX dX4_readSign_122 hR
    · have hF := ite_f hF (fun z => z c37)
      refine g_aload_n hX dX4_readSign_40 (i := 0) rfl (j := 1) rfl ?_
      refine g_iconst (v := 4) hX dX4_readSign_41 (by decide) ?_
      obtain ⟨h42, e42, hF⟩ := lt_some hF
      refine pf_X4_28 hX dX4_readSign_42 (ty1 hW t0) hM e42 ?_
      refine g_goto (tgt := 122) hX dX4_readSign_45 (by decide) ?_
      obtain rfl := Option.some.inj hF
      exact g_vret hX dX4_readSign_122 hR
  · have hF := ite_f hF (fun z => z c23)
    refine g_aload_n hX dX4_readSign_26 (i := 0) rfl (j := 1) rfl ?_
    refine g_iconst (v := 3) hX dX4_readSign_27 (by decide) ?_
    obtain ⟨h28, e28, hF⟩ := lt_some hF
    refine pf_X4_28 hX dX4_readSign_28 (ty1 hW t0) hM e28 ?_
    refine g_goto (tgt := 122) hX dX4_readSign_31 (by decide) ?_
    obtain rfl := Option.some.inj hF
    exact g_vret hX dX4_readSign_122 hR
theorem ctX4_readSign {b N sz : Nat} {ok : Nat → Prop} {h : HH} {r : RR} {w : HH} (hM : N ≤ MA) (hW : WT KA lnA ok N r) (p0 : Nat) (t0 : KA p0 = 4 ∧ ok p0) (hF : fX4_readSign h r p0 = some w) : CT yX4_readSign cX4_readSign 2 (none) 1 b KA lnA MA N sz [.ref (b + p0)] h r N sz none w r 0 0 :=
  CT_of (by decide) rfl (Nat.le_of_ble_eq_true rfl) (by decide) trivial (fun X hX hR => kX4_readSign hX hM hW p0 t0 hR hF)
/-! X4_next -/
def fX4_next_b52 (r : RR) (p0 : Nat) (h : HH) : Option (HH) := lt (up h p0 4 (h p0 2)) (fun h57 => if (h57 p0 2) < (h57 p0 1) then ((fX4_isDigit h57 r p0 (h57 p0 2)).bind (fun v84 => if v84 = 0 then ((fX4_readSign h57 r p0).bind (fun h98 => some h98)) else ((fX4_readNumber h57 r p0).bind (fun h91 => some h91)))) else (lt (up h57 p0 3 0) (fun h73 => some h73)))
def fX4_next_b39 (r : RR) (p0 : Nat) (k0 : HH → Option (HH)) (h : HH) : Option (HH) := lt (up h p0 2 ((h p0 2) + 1)) (fun h46 => k0 h46)
def fX4_next_b0 (r : RR) (p0 : Nat) : Nat → HH → Option (HH)
  | 0, _ => none
  | n + 1, h => if (h p0 1) ≤ (h p0 2) then (fX4_next_b52 r p0 h) else (gd (inb (h p0 2) (lnA (r p0 0))) (if (h (r p0 0) (ix (h p0 2))) = 32 then (fX4_next_b39 r p0 (fun h_ => fX4_next_b0 r p0 n h_) h) else (gd (inb (h p0 2) (lnA (r p0 0))) (if ¬ (h (r p0 0) (ix (h p0 2))) = 10 then (fX4_next_b52 r p0 h) else (fX4_next_b39 r p0 (fun h_ => fX4_next_b0 r p0 n h_) h)))))
def fX4_next (h : HH) (r : RR) (p0 : Nat) : Option (HH) := fX4_next_b0 r p0 lpF h
set_option maxRecDepth 100000 in
set_option maxHeartbeats 4000000 in
theorem kX4_next_b52 {X : XT} {b N sz : Nat} {ok : Nat → Prop} {r : RR} {w : HH} (hX : XOK X RX4 cX4_next 1 3) (hM : N ≤ MA) (hW : WT KA lnA ok N r) (p0 : Nat) (t0 : KA p0 = 4 ∧ ok p0) (hR : XR X b KA lnA MA (none) 0 0 N sz none w r) (h : HH) (hF : fX4_next_b52 r p0 h = some w) : GX X b KA lnA MA 1 0 0 N sz 52 [(0, .ref (b + p0))] [] h r := by
  rw [fX4_next_b52] at hF
  refine g_aload_n hX dX4_next_52 (i := 0) rfl (j := 0) rfl ?_
  refine g_aload_n hX dX4_next_53 (i := 0) rfl (j := 0) rfl ?_
  refine gf_X4_19 hX dX4_next_54 (ty1 hW t0) ?_
  obtain ⟨h57, e57, hF⟩ := lt_some hF
  refine pf_X4_35 hX dX4_next_57 (ty1 hW t0) hM e57 ?_
  refine g_aload_n hX dX4_next_60 (i := 0) rfl (j := 0) rfl ?_
  refine gf_X4_19 hX dX4_next_61 (ty1 hW t0) ?_
  refine g_aload_n hX dX4_next_64 (i := 0) rfl (j := 0) rfl ?_
  refine gf_X4_15 hX dX4_next_65 (ty1 hW t0) ?_
  refine g_icmp_lt (tgt := 79) hX dX4_next_68 (by decide) (fun c68 => ?_) (fun c68 => ?_)
  · have hF := ite_t hF c68
    refine g_aload_n hX dX4_next_79 (i := 0) rfl (j := 0) rfl ?_
    refine g_aload_n hX dX4_next_80 (i := 0) rfl (j := 0) rfl ?_
    refine gf_X4_19 hX dX4_next_81 (ty1 hW t0) ?_
    obtain ⟨v84, e84, hF⟩ := bi_some hF
    refine g_callV (As := [.int (h57 p0 2)]) (rest := []) (stk := [.int v84]) hX dX4_next_84 (ctX4_isDigit hM hW p0 (h57 p0 2) t0 e84) (by decide) (by decide) wm_X4_44 wi_X4_isDigit ws_X4_isDigit wz_X4 wc_X4_isDigit hyX4_isDigit rfl (ci := 4) rfl (by decide) t0.1 (hW.1 _ t0.2).1 (hW.1 _ t0.2).2 (Nat.le_of_ble_eq_true rfl) rfl rfl ?_ rfl rfl
    refine g_if_eq (tgt := 97) hX dX4_next_87 (by decide) (fun c87 => ?_) (fun c87 => ?_)
    · have hF := ite_t hF c87
      refine g_aload_n hX dX4_next_97 (i := 0) rfl (j := 0) rfl ?_
      obtain ⟨h98, e98, hF⟩ := bi_some hF
      refine g_callV (As := []) (rest := []) (stk := []) hX dX4_next_98 (ctX4_readSign hM hW p0 t0 e98) (by decide) (by decide) wm_X4_51 wi_X4_readSign ws_X4_readSign wz_X4 wc_X4_readSign hyX4_readSign rfl (ci := 4) rfl (by decide) t0.1 (hW.1 _ t0.2).1 (hW.1 _ t0.2).2 (Nat.le_of_ble_eq_true rfl) rfl rfl ?_ rfl rfl
      obtain rfl := Option.some.inj hF
      exact g_vret hX dX4_next_101 hR
    · have hF := ite_f hF c87
      refine g_aload_n hX dX4_next_90 (i := 0) rfl (j := 0) rfl ?_
      obtain ⟨h91, e91, hF⟩ := bi_some hF
      refine g_callV (As := []) (rest := []) (stk := []) hX dX4_next_91 (ctX4_readNumber hM hW p0 t0 e91) (by decide) (by decide) wm_X4_48 wi_X4_readNumber ws_X4_readNumber wz_X4 wc_X4_readNumber hyX4_readNumber rfl (ci := 4) rfl (by decide) t0.1 (hW.1 _ t0.2).1 (hW.1 _ t0.2).2 (Nat.le_of_ble_eq_true rfl) rfl rfl ?_ rfl rfl
      refine g_goto (tgt := 101) hX dX4_next_94 (by decide) ?_
      obtain rfl := Option.some.inj hF
      exact g_vret hX dX4_next_101 hR
  · have hF := ite_f hF c68
    refine g_aload_n hX dX4_next_71 (i := 0) rfl (j := 0) rfl ?_
    refine g_iconst (v := 0) hX dX4_next_72 (by decide) ?_
    obtain ⟨h73, e73, hF⟩ := lt_some hF
    refine pf_X4_28 hX dX4_next_73 (ty1 hW t0) hM e73 ?_
    refine g_goto (tgt := 101) hX dX4_next_76 (by decide) ?_
    obtain rfl := Option.some.inj hF
    exact g_vret hX dX4_next_101 hR
set_option maxRecDepth 100000 in
set_option maxHeartbeats 4000000 in
theorem kX4_next_b39 {X : XT} {b N sz : Nat} {ok : Nat → Prop} {r : RR} {w : HH} (hX : XOK X RX4 cX4_next 1 3) (hM : N ≤ MA) (hW : WT KA lnA ok N r) (p0 : Nat) (t0 : KA p0 = 4 ∧ ok p0) (hR : XR X b KA lnA MA (none) 0 0 N sz none w r) (k0 : HH → Option (HH)) (hk0 : ∀ (h : HH), k0 h = some w → GX X b KA lnA MA 1 0 0 N sz 0 [(0, .ref (b + p0))] [] h r) (h : HH) (hF : fX4_next_b39 r p0 k0 h = some w) : GX X b KA lnA MA 1 0 0 N sz 39 [(0, .ref (b + p0))] [] h r := by
  rw [fX4_next_b39] at hF
  refine g_aload_n hX dX4_next_39 (i := 0) rfl (j := 0) rfl ?_
  refine g_dup hX dX4_next_40 rfl ?_
  refine gf_X4_19 hX dX4_next_41 (ty1 hW t0) ?_
  refine g_iconst (v := 1) hX dX4_next_44 (by decide) ?_
  refine g_iadd hX dX4_next_45 ?_
  obtain ⟨h46, e46, hF⟩ := lt_some hF
  refine pf_X4_19 hX dX4_next_46 (ty1 hW t0) hM e46 ?_
  refine g_goto (tgt := 0) hX dX4_next_49 (by decide) ?_
  refine g_sub (L' := [(0, .ref (b + p0))]) [0] rfl ?_
  exact hk0 h46 hF
set_option maxRecDepth 100000 in
set_option maxHeartbeats 4000000 in
theorem kX4_next_b0 {X : XT} {b N sz : Nat} {ok : Nat → Prop} {r : RR} {w : HH} (hX : XOK X RX4 cX4_next 1 3) (hM : N ≤ MA) (hW : WT KA lnA ok N r) (p0 : Nat) (t0 : KA p0 = 4 ∧ ok p0) (hR : XR X b KA lnA MA (none) 0 0 N sz none w r) : ∀ (n : Nat) (h : HH), fX4_next_b0 r p0 n h = some w → GX X b KA lnA MA 1 0 0 N sz 0 [(0, .ref (b + p0))] [] h r := by
  intro n
  induction n with
  | zero =>
    intro h hF
    cases hF
  | succ n ih =>
    intro h hF
    rw [fX4_next_b0] at hF
    refine g_aload_n hX dX4_next_0 (i := 0) rfl (j := 0) rfl ?_
    refine gf_X4_19 hX dX4_next_1 (ty1 hW t0) ?_
    refine g_aload_n hX dX4_next_4 (i := 0) rfl (j := 0) rfl ?_
    refine gf_X4_15 hX dX4_next_5 (ty1 hW t0) ?_
    refine g_icmp_ge (tgt := 52) hX dX4_next_8 (by decide) (fun c8 => ?_) (fun c8 => ?_)
    · have hF := ite_t hF c8
      refine g_sub (L' := [(0, .ref (b + p0))]) [0] rfl ?_
      exact kX4_next_b52 hX hM hW p0 t0 hR h hF
    · have hF := ite_f hF c8
      refine g_aload_n hX dX4_next_11 (i := 0) rfl (j := 0) rfl ?_
      have tf12 := (tyF (k := 0) hW t0 (by decide) rfl (by decide) : KA (r p0 0) = 9 ∧ ok (r p0 0))
      refine gf_X4_9 hX dX4_next_12 (ty1 hW t0) (hW.1 _ tf12.2).1 ?_
      refine g_aload_n hX dX4_next_15 (i := 0) rfl (j := 0) rfl ?_
      refine gf_X4_19 hX dX4_next_16 (ty1 hW t0) ?_
      obtain ⟨g19, hF⟩ := gd_some hF
      refine g_iald hX dX4_next_19 tf12.1 (hW.1 _ tf12.2).1 (hW.1 _ tf12.2).2 g19 ?_
      refine g_bipush (v := 32) hX dX4_next_20 (by decide) ?_
      refine g_icmp_eq (tgt := 39) hX dX4_next_22 (by decide) (fun c22 => ?_) (fun c22 => ?_)
      · have hF := ite_t hF c22
        refine g_sub (L' := [(0, .ref (b + p0))]) [0] rfl ?_
        exact kX4_next_b39 hX hM hW p0 t0 hR (fun h_ => fX4_next_b0 r p0 n h_) ih h hF
      · have hF := ite_f hF c22
        refine g_aload_n hX dX4_next_25 (i := 0) rfl (j := 0) rfl ?_
        have tf26 := (tyF (k := 0) hW t0 (by decide) rfl (by decide) : KA (r p0 0) = 9 ∧ ok (r p0 0))
        refine gf_X4_9 hX dX4_next_26 (ty1 hW t0) (hW.1 _ tf26.2).1 ?_
        refine g_aload_n hX dX4_next_29 (i := 0) rfl (j := 0) rfl ?_
        refine gf_X4_19 hX dX4_next_30 (ty1 hW t0) ?_
        obtain ⟨g33, hF⟩ := gd_some hF
        refine g_iald hX dX4_next_33 tf26.1 (hW.1 _ tf26.2).1 (hW.1 _ tf26.2).2 g33 ?_
        refine g_bipush (v := 10) hX dX4_next_34 (by decide) ?_
        refine g_icmp_ne (tgt := 52) hX dX4_next_36 (by decide) (fun c36 => ?_) (fun c36 => ?_)
        · have hF := ite_t hF c36
          refine g_sub (L' := [(0, .ref (b + p0))]) [0] rfl ?_
          exact kX4_next_b52 hX hM hW p0 t0 hR h hF
        · have hF := ite_f hF (fun z => z c36)
          refine g_sub (L' := [(0, .ref (b + p0))]) [0] rfl ?_
          exact kX4_next_b39 hX hM hW p0 t0 hR (fun h_ => fX4_next_b0 r p0 n h_) ih h hF
set_option maxRecDepth 100000 in
set_option maxHeartbeats 4000000 in
theorem kX4_next {X : XT} {b N sz : Nat} {ok : Nat → Prop} {h : HH} {r : RR} {w : HH} (hX : XOK X RX4 cX4_next 1 3) (hM : N ≤ MA) (hW : WT KA lnA ok N r) (p0 : Nat) (t0 : KA p0 = 4 ∧ ok p0) (hR : XR X b KA lnA MA (none) 0 0 N sz none w r) (hF : fX4_next h r p0 = some w) : GX X b KA lnA MA 1 0 0 N sz 0 [(0, .ref (b + p0))] [] h r := by
  rw [fX4_next] at hF
  refine g_sub (L' := [(0, .ref (b + p0))]) [0] rfl ?_
  exact kX4_next_b0 hX hM hW p0 t0 hR lpF h hF
theorem ctX4_next {b N sz : Nat} {ok : Nat → Prop} {h : HH} {r : RR} {w : HH} (hM : N ≤ MA) (hW : WT KA lnA ok N r) (p0 : Nat) (t0 : KA p0 = 4 ∧ ok p0) (hF : fX4_next h r p0 = some w) : CT yX4_next cX4_next 1 (none) 3 b KA lnA MA N sz [.ref (b + p0)] h r N sz none w r 0 0 :=
  CT_of (by decide) rfl (Nat.le_of_ble_eq_true rfl) (by decide) trivial (fun X hX hR => kX4_next hX hM hW p0 t0 hR hF)
/-! X4_read -/
def fX4_read_b80 (r : RR) (p0 : Nat) (p1 : Nat) (k44 : HH → Int32 → Option (Int32 × HH)) (h : HH) (x2 : Int32) : Option (Int32 × HH) := gd (inb x2 (lnA (r p1 0))) (lt (up h (r p1 0) (ix x2) (h p0 5)) (fun h89 => lt (up h89 p1 1 (x2 + 1)) (fun h94 => (fX4_next h94 r p0).bind (fun h98 => if ¬ (h98 p0 3) = 0 then (if ¬ (h98 p0 3) = 4 then (some (h98 p0 4, h98)) else (if ¬ (h98 p1 1) = 8 then ((fX4_next h98 r p0).bind (fun h133 => k44 h133 (x2 + 1))) else (some (h98 p0 4, h98)))) else (some ((-1), h98))))))
def fX4_read_b44 (r : RR) (p0 : Nat) (p1 : Nat) : Nat → HH → Int32 → Option (Int32 × HH)
  | 0, _, _ => none
  | n + 1, h, x2 => if 8 ≤ x2 then (some (h p0 4, h)) else (if (h p0 3) = 2 then (fX4_read_b80 r p0 p1 (fun h_ z2_ => fX4_read_b44 r p0 p1 n h_ z2_) h x2) else (if (h p0 3) = 5 then (fX4_read_b80 r p0 p1 (fun h_ z2_ => fX4_read_b44 r p0 p1 n h_ z2_) h x2) else (if (h p0 3) = 6 then (fX4_read_b80 r p0 p1 (fun h_ z2_ => fX4_read_b44 r p0 p1 n h_ z2_) h x2) else (some (h p0 4, h)))))
def fX4_read_b42 (r : RR) (p0 : Nat) (p1 : Nat) (h : HH) : Option (Int32 × HH) := fX4_read_b44 r p0 p1 lpF h 0
def fX4_read_b28 (r : RR) (p0 : Nat) (p1 : Nat) (h : HH) (u0 : Nat) (s1 : Int32) : Option (Int32 × HH) := bz s1 (lt (up h u0 2 s1) (fun h28 => if (h28 p1 2) = 0 then (fX4_read_b42 r p0 p1 h28) else ((fX4_next h28 r p0).bind (fun h39 => fX4_read_b42 r p0 p1 h39))))
def fX4_read (h : HH) (r : RR) (p0 : Nat) (p1 : Nat) : Option (Int32 × HH) := lt (up h p0 2 0) (fun h2 => lt (up h2 p1 1 0) (fun h7 => (fX4_next h7 r p0).bind (fun h11 => if ¬ (h11 p0 3) = 3 then (fX4_read_b28 r p0 p1 h11 p1 0) else (fX4_read_b28 r p0 p1 h11 p1 1))))
set_option maxRecDepth 100000 in
set_option maxHeartbeats 4000000 in
theorem kX4_read_b80 {X : XT} {b N sz : Nat} {ok : Nat → Prop} {r : RR} {w : Int32 × HH} (hX : XOK X RX4 cX4_read 3 4) (hM : N ≤ MA) (hW : WT KA lnA ok N r) (p0 : Nat) (p1 : Nat) (t0 : KA p0 = 4 ∧ ok p0) (t1 : KA p1 = 1 ∧ ok p1) (hR : XR X b KA lnA MA (some FieldType.int) 0 0 N sz (some (.int w.1)) w.2 r) (k44 : HH → Int32 → Option (Int32 × HH)) (hk44 : ∀ (h : HH) (x2 : Int32), k44 h x2 = some w → GX X b KA lnA MA 3 0 0 N sz 44 [(0, .ref (b + p0)), (1, .ref (b + p1)), (2, .int x2)] [] h r) (h : HH) (x2 : Int32) (hF : fX4_read_b80 r p0 p1 k44 h x2 = some w) : GX X b KA lnA MA 3 0 0 N sz 80 [(0, .ref (b + p0)), (1, .ref (b + p1)), (2, .int x2)] [] h r := by
  rw [fX4_read_b80] at hF
  refine g_aload_n hX dX4_read_80 (i := 1) rfl (j := 1) rfl ?_
  have tf81 := (tyF (k := 0) hW t1 (by decide) rfl (by decide) : KA (r p1 0) = 9 ∧ ok (r p1 0))
  refine gf_X4_38 hX dX4_read_81 (ty1 hW t1) (hW.1 _ tf81.2).1 ?_
  refine g_iload_n hX dX4_read_84 (i := 2) rfl (j := 2) rfl ?_
  refine g_aload_n hX dX4_read_85 (i := 0) rfl (j := 0) rfl ?_
  refine gf_X4_41 hX dX4_read_86 (ty1 hW t0) ?_
  obtain ⟨g89, hF⟩ := gd_some hF
  obtain ⟨h89, e89, hF⟩ := lt_some hF
  refine g_iast hX dX4_read_89 tf81.1 (hW.1 _ tf81.2).1 (hW.1 _ tf81.2).2 hM g89 e89 ?_
  refine g_aload_n hX dX4_read_90 (i := 1) rfl (j := 1) rfl ?_
  refine g_iload_n hX dX4_read_91 (i := 2) rfl (j := 2) rfl ?_
  refine g_iconst (v := 1) hX dX4_read_92 (by decide) ?_
  refine g_iadd hX dX4_read_93 ?_
  obtain ⟨h94, e94, hF⟩ := lt_some hF
  refine pf_X4_22 hX dX4_read_94 (ty1 hW t1) hM e94 ?_
  refine g_aload_n hX dX4_read_97 (i := 0) rfl (j := 0) rfl ?_
  obtain ⟨h98, e98, hF⟩ := bi_some hF
  refine g_callV (As := []) (rest := []) (stk := []) hX dX4_read_98 (ctX4_next hM hW p0 t0 e98) (by decide) (by decide) wm_X4_25 wi_X4_next ws_X4_next wz_X4 wc_X4_next hyX4_next rfl (ci := 4) rfl (by decide) t0.1 (hW.1 _ t0.2).1 (hW.1 _ t0.2).2 (Nat.le_of_ble_eq_true rfl) rfl rfl ?_ rfl rfl
  refine g_aload_n hX dX4_read_101 (i := 0) rfl (j := 0) rfl ?_
  refine gf_X4_28 hX dX4_read_102 (ty1 hW t0) ?_
  refine g_if_ne (tgt := 110) hX dX4_read_105 (by decide) (fun c105 => ?_) (fun c105 => ?_)
  · have hF := ite_t hF c105
    refine g_aload_n hX dX4_read_110 (i := 0) rfl (j := 0) rfl ?_
    refine gf_X4_28 hX dX4_read_111 (ty1 hW t0) ?_
    refine g_iconst (v := 4) hX dX4_read_114 (by decide) ?_
    refine g_icmp_ne (tgt := 127) hX dX4_read_115 (by decide) (fun c115 => ?_) (fun c115 => ?_)
    · have hF := ite_t hF c115
      refine g_aload_n hX dX4_read_127 (i := 0) rfl (j := 0) rfl ?_
      refine gf_X4_35 hX dX4_read_128 (ty1 hW t0) ?_
      obtain rfl := Option.some.inj hF
      exact g_iret hX dX4_read_131 hR
    · have hF := ite_f hF (fun z => z c115)
      refine g_aload_n hX dX4_read_118 (i := 1) rfl (j := 1) rfl ?_
      refine gf_X4_22 hX dX4_read_119 (ty1 hW t1) ?_
      refine g_bipush (v := 8) hX dX4_read_122 (by decide) ?_
      refine g_icmp_ne (tgt := 132) hX dX4_read_124 (by decide) (fun c124 => ?_) (fun c124 => ?_)
      · have hF := ite_t hF c124
        refine g_aload_n hX dX4_read_132 (i := 0) rfl (j := 0) rfl ?_
        obtain ⟨h133, e133, hF⟩ := bi_some hF
        refine g_callV (As := []) (rest := []) (stk := []) hX dX4_read_133 (ctX4_next hM hW p0 t0 e133) (by decide) (by decide) wm_X4_25 wi_X4_next ws_X4_next wz_X4 wc_X4_next hyX4_next rfl (ci := 4) rfl (by decide) t0.1 (hW.1 _ t0.2).1 (hW.1 _ t0.2).2 (Nat.le_of_ble_eq_true rfl) rfl rfl ?_ rfl rfl
        refine g_iinc (L' := [(2, .int (x2 + 1)), (0, .ref (b + p0)), (1, .ref (b + p1))]) (j := 2) hX dX4_read_136 rfl rfl (by decide) rfl ?_
        refine g_goto (tgt := 44) hX dX4_read_139 (by decide) ?_
        refine g_sub (L' := [(0, .ref (b + p0)), (1, .ref (b + p1)), (2, .int (x2 + 1))]) [1, 2, 0] rfl ?_
        exact hk44 h133 (x2 + 1) hF
      · have hF := ite_f hF (fun z => z c124)
        refine g_aload_n hX dX4_read_127 (i := 0) rfl (j := 0) rfl ?_
        refine gf_X4_35 hX dX4_read_128 (ty1 hW t0) ?_
        obtain rfl := Option.some.inj hF
        exact g_iret hX dX4_read_131 hR
  · have hF := ite_f hF (fun z => z c105)
    refine g_iconst (v := (-1)) hX dX4_read_108 (by decide) ?_
    obtain rfl := Option.some.inj hF
    exact g_iret hX dX4_read_109 hR
set_option maxRecDepth 100000 in
set_option maxHeartbeats 4000000 in
theorem kX4_read_b44 {X : XT} {b N sz : Nat} {ok : Nat → Prop} {r : RR} {w : Int32 × HH} (hX : XOK X RX4 cX4_read 3 4) (hM : N ≤ MA) (hW : WT KA lnA ok N r) (p0 : Nat) (p1 : Nat) (t0 : KA p0 = 4 ∧ ok p0) (t1 : KA p1 = 1 ∧ ok p1) (hR : XR X b KA lnA MA (some FieldType.int) 0 0 N sz (some (.int w.1)) w.2 r) : ∀ (n : Nat) (h : HH) (x2 : Int32), fX4_read_b44 r p0 p1 n h x2 = some w → GX X b KA lnA MA 3 0 0 N sz 44 [(0, .ref (b + p0)), (1, .ref (b + p1)), (2, .int x2)] [] h r := by
  intro n
  induction n with
  | zero =>
    intro h x2 hF
    cases hF
  | succ n ih =>
    intro h x2 hF
    rw [fX4_read_b44] at hF
    refine g_iload_n hX dX4_read_44 (i := 2) rfl (j := 2) rfl ?_
    refine g_bipush (v := 8) hX dX4_read_45 (by decide) ?_
    refine g_icmp_ge (tgt := 142) hX dX4_read_47 (by decide) (fun c47 => ?_) (fun c47 => ?_)
    · have hF := ite_t hF c47
      refine g_aload_n hX dX4_read_142 (i := 0) rfl (j := 0) rfl ?_
      refine gf_X4_35 hX dX4_read_143 (ty1 hW t0) ?_
      obtain rfl := Option.some.inj hF
      exact g_iret hX dX4_read_146 hR
    · have hF := ite_f hF c47
      refine g_aload_n hX dX4_read_50 (i := 0) rfl (j := 0) rfl ?_
      refine gf_X4_28 hX dX4_read_51 (ty1 hW t0) ?_
      refine g_iconst (v := 2) hX dX4_read_54 (by decide) ?_
      refine g_icmp_eq (tgt := 80) hX dX4_read_55 (by decide) (fun c55 => ?_) (fun c55 => ?_)
      · have hF := ite_t hF c55
        refine g_sub (L' := [(0, .ref (b + p0)), (1, .ref (b + p1)), (2, .int x2)]) [0, 1, 2] rfl ?_
        exact kX4_read_b80 hX hM hW p0 p1 t0 t1 hR (fun h_ z2_ => fX4_read_b44 r p0 p1 n h_ z2_) ih h x2 hF
      · have hF := ite_f hF c55
        refine g_aload_n hX dX4_read_58 (i := 0) rfl (j := 0) rfl ?_
        refine gf_X4_28 hX dX4_read_59 (ty1 hW t0) ?_
        refine g_iconst (v := 5) hX dX4_read_62 (by decide) ?_
        refine g_icmp_eq (tgt := 80) hX dX4_read_63 (by decide) (fun c63 => ?_) (fun c63 => ?_)
        · have hF := ite_t hF c63
          refine g_sub (L' := [(0, .ref (b + p0)), (1, .ref (b + p1)), (2, .int x2)]) [0, 1, 2] rfl ?_
          exact kX4_read_b80 hX hM hW p0 p1 t0 t1 hR (fun h_ z2_ => fX4_read_b44 r p0 p1 n h_ z2_) ih h x2 hF
        · have hF := ite_f hF c63
          refine g_aload_n hX dX4_read_66 (i := 0) rfl (j := 0) rfl ?_
          refine gf_X4_28 hX dX4_read_67 (ty1 hW t0) ?_
          refine g_bipush (v := 6) hX dX4_read_70 (by decide) ?_
          refine g_icmp_eq (tgt := 80) hX dX4_read_72 (by decide) (fun c72 => ?_) (fun c72 => ?_)
          · have hF := ite_t hF c72
            refine g_sub (L' := [(0, .ref (b + p0)), (1, .ref (b + p1)), (2, .int x2)]) [0, 1, 2] rfl ?_
            exact kX4_read_b80 hX hM hW p0 p1 t0 t1 hR (fun h_ z2_ => fX4_read_b44 r p0 p1 n h_ z2_) ih h x2 hF
          · have hF := ite_f hF c72
            refine g_aload_n hX dX4_read_75 (i := 0) rfl (j := 0) rfl ?_
            refine gf_X4_35 hX dX4_read_76 (ty1 hW t0) ?_
            obtain rfl := Option.some.inj hF
            exact g_iret hX dX4_read_79 hR
set_option maxRecDepth 100000 in
set_option maxHeartbeats 4000000 in
theorem kX4_read_b42 {X : XT} {b N sz : Nat} {ok : Nat → Prop} {r : RR} {w : Int32 × HH} (hX : XOK X RX4 cX4_read 3 4) (hM : N ≤ MA) (hW : WT KA lnA ok N r) (p0 : Nat) (p1 : Nat) (t0 : KA p0 = 4 ∧ ok p0) (t1 : KA p1 = 1 ∧ ok p1) (hR : XR X b KA lnA MA (some FieldType.int) 0 0 N sz (some (.int w.1)) w.2 r) (h : HH) (hF : fX4_read_b42 r p0 p1 h = some w) : GX X b KA lnA MA 3 0 0 N sz 42 [(0, .ref (b + p0)), (1, .ref (b + p1))] [] h r := by
  rw [fX4_read_b42] at hF
  refine g_iconst (v := 0) hX dX4_read_42 (by decide) ?_
  refine g_istore_n (L' := [(2, .int 0), (0, .ref (b + p0)), (1, .ref (b + p1))]) hX dX4_read_43 (i := 2) rfl (by decide) rfl ?_
  refine g_sub (L' := [(0, .ref (b + p0)), (1, .ref (b + p1)), (2, .int 0)]) [1, 2, 0] rfl ?_
  exact kX4_read_b44 hX hM hW p0 p1 t0 t1 hR lpF h 0 hF
set_option maxRecDepth 100000 in
set_option maxHeartbeats 4000000 in
theorem kX4_read_b28 {X : XT} {b N sz : Nat} {ok : Nat → Prop} {r : RR} {w : Int32 × HH} (hX : XOK X RX4 cX4_read 3 4) (hM : N ≤ MA) (hW : WT KA lnA ok N r) (p0 : Nat) (p1 : Nat) (t0 : KA p0 = 4 ∧ ok p0) (t1 : KA p1 = 1 ∧ ok p1) (hR : XR X b KA lnA MA (some FieldType.int) 0 0 N sz (some (.int w.1)) w.2 r) (h : HH) (u0 : Nat) (s1 : Int32) (ts0 : KA u0 = 1 ∧ ok u0) (hF : fX4_read_b28 r p0 p1 h u0 s1 = some w) : GX X b KA lnA MA 3 0 0 N sz 28 [(0, .ref (b + p0)), (1, .ref (b + p1))] [.int s1, .ref (b + u0)] h r := by
  rw [fX4_read_b28] at hF
  obtain ⟨z28, hF⟩ := bz_some hF
  obtain ⟨h28, e28, hF⟩ := lt_some hF
  refine pf_X4_31 hX dX4_read_28 (ty1 hW ts0) hM z28 e28 ?_
  refine g_aload_n hX dX4_read_31 (i := 1) rfl (j := 1) rfl ?_
  refine gf_X4_31 hX dX4_read_32 (ty1 hW t1) ?_
  refine g_if_eq (tgt := 42) hX dX4_read_35 (by decide) (fun c35 => ?_) (fun c35 => ?_)
  · have hF := ite_t hF c35
    refine g_sub (L' := [(0, .ref (b + p0)), (1, .ref (b + p1))]) [0, 1] rfl ?_
    exact kX4_read_b42 hX hM hW p0 p1 t0 t1 hR h28 hF
  · have hF := ite_f hF c35
    refine g_aload_n hX dX4_read_38 (i := 0) rfl (j := 0) rfl ?_
    obtain ⟨h39, e39, hF⟩ := bi_some hF
    refine g_callV (As := []) (rest := []) (stk := []) hX dX4_read_39 (ctX4_next hM hW p0 t0 e39) (by decide) (by decide) wm_X4_25 wi_X4_next ws_X4_next wz_X4 wc_X4_next hyX4_next rfl (ci := 4) rfl (by decide) t0.1 (hW.1 _ t0.2).1 (hW.1 _ t0.2).2 (Nat.le_of_ble_eq_true rfl) rfl rfl ?_ rfl rfl
    refine g_sub (L' := [(0, .ref (b + p0)), (1, .ref (b + p1))]) [0, 1] rfl ?_
    exact kX4_read_b42 hX hM hW p0 p1 t0 t1 hR h39 hF
set_option maxRecDepth 100000 in
set_option maxHeartbeats 4000000 in
theorem kX4_read {X : XT} {b N sz : Nat} {ok : Nat → Prop} {h : HH} {r : RR} {w : Int32 × HH} (hX : XOK X RX4 cX4_read 3 4) (hM : N ≤ MA) (hW : WT KA lnA ok N r) (p0 : Nat) (p1 : Nat) (t0 : KA p0 = 4 ∧ ok p0) (t1 : KA p1 = 1 ∧ ok p1) (hR : XR X b KA lnA MA (some FieldType.int) 0 0 N sz (some (.int w.1)) w.2 r) (hF : fX4_read h r p0 p1 = some w) : GX X b KA lnA MA 3 0 0 N sz 0 [(0, .ref (b + p0)), (1, .ref (b + p1))] [] h r := by
  rw [fX4_read] at hF
  refine g_aload_n hX dX4_read_0 (i := 0) rfl (j := 0) rfl ?_
  refine g_iconst (v := 0) hX dX4_read_1 (by decide) ?_
  obtain ⟨h2, e2, hF⟩ := lt_some hF
  refine pf_X4_19 hX dX4_read_2 (ty1 hW t0) hM e2 ?_
  refine g_aload_n hX dX4_read_5 (i := 1) rfl (j := 1) rfl ?_
  refine g_iconst (v := 0) hX dX4_read_6 (by decide) ?_
  obtain ⟨h7, e7, hF⟩ := lt_some hF
  refine pf_X4_22 hX dX4_read_7 (ty1 hW t1) hM e7 ?_
  refine g_aload_n hX dX4_read_10 (i := 0) rfl (j := 0) rfl ?_
  obtain ⟨h11, e11, hF⟩ := bi_some hF
  refine g_callV (As := []) (rest := []) (stk := []) hX dX4_read_11 (ctX4_next hM hW p0 t0 e11) (by decide) (by decide) wm_X4_25 wi_X4_next ws_X4_next wz_X4 wc_X4_next hyX4_next rfl (ci := 4) rfl (by decide) t0.1 (hW.1 _ t0.2).1 (hW.1 _ t0.2).2 (Nat.le_of_ble_eq_true rfl) rfl rfl ?_ rfl rfl
  refine g_aload_n hX dX4_read_14 (i := 1) rfl (j := 1) rfl ?_
  refine g_aload_n hX dX4_read_15 (i := 0) rfl (j := 0) rfl ?_
  refine gf_X4_28 hX dX4_read_16 (ty1 hW t0) ?_
  refine g_iconst (v := 3) hX dX4_read_19 (by decide) ?_
  refine g_icmp_ne (tgt := 27) hX dX4_read_20 (by decide) (fun c20 => ?_) (fun c20 => ?_)
  · have hF := ite_t hF c20
    refine g_iconst (v := 0) hX dX4_read_27 (by decide) ?_
    refine g_sub (L' := [(0, .ref (b + p0)), (1, .ref (b + p1))]) [0, 1] rfl ?_
    exact kX4_read_b28 hX hM hW p0 p1 t0 t1 hR h11 p1 0 t1 hF
  · have hF := ite_f hF (fun z => z c20)
    refine g_iconst (v := 1) hX dX4_read_23 (by decide) ?_
    refine g_goto (tgt := 28) hX dX4_read_24 (by decide) ?_
    refine g_sub (L' := [(0, .ref (b + p0)), (1, .ref (b + p1))]) [0, 1] rfl ?_
    exact kX4_read_b28 hX hM hW p0 p1 t0 t1 hR h11 p1 1 t1 hF
theorem ctX4_read {b N sz : Nat} {ok : Nat → Prop} {h : HH} {r : RR} {w : Int32 × HH} (hM : N ≤ MA) (hW : WT KA lnA ok N r) (p0 : Nat) (p1 : Nat) (t0 : KA p0 = 4 ∧ ok p0) (t1 : KA p1 = 1 ∧ ok p1) (hF : fX4_read h r p0 p1 = some w) : CT yX4_read cX4_read 3 (some FieldType.int) 4 b KA lnA MA N sz [.ref (b + p0), .ref (b + p1)] h r N sz (some (.int w.1)) w.2 r 0 0 :=
  CT_of (by decide) rfl (Nat.le_of_ble_eq_true rfl) (by decide) trivial (fun X hX hR => kX4_read hX hM hW p0 p1 t0 t1 hR hF)
/-! X5_become -/
def fX5_become_b2 (r : RR) (p0 : Nat) (p1 : Nat) : Nat → HH → Int32 → Option (HH)
  | 0, _, _ => none
  | n + 1, h, x2 => if 30 ≤ x2 then (some h) else ((fX5_putAsIn h r p0 p1 x2).bind (fun h11 => fX5_become_b2 r p0 p1 n h11 (x2 + 1)))
def fX5_become (h : HH) (r : RR) (p0 : Nat) (p1 : Nat) : Option (HH) := fX5_become_b2 r p0 p1 lpF h 0
set_option maxRecDepth 100000 in
set_option maxHeartbeats 4000000 in
theorem kX5_become_b2 {X : XT} {b N sz : Nat} {ok : Nat → Prop} {r : RR} {w : HH} (hX : XOK X RX5 cX5_become 3 2) (hM : N ≤ MA) (hW : WT KA lnA ok N r) (p0 : Nat) (p1 : Nat) (t0 : KA p0 = 5 ∧ ok p0) (t1 : KA p1 = 5 ∧ ok p1) (hR : XR X b KA lnA MA (none) 0 0 N sz none w r) : ∀ (n : Nat) (h : HH) (x2 : Int32), fX5_become_b2 r p0 p1 n h x2 = some w → GX X b KA lnA MA 3 0 0 N sz 2 [(0, .ref (b + p0)), (1, .ref (b + p1)), (2, .int x2)] [] h r := by
  intro n
  induction n with
  | zero =>
    intro h x2 hF
    cases hF
  | succ n ih =>
    intro h x2 hF
    rw [fX5_become_b2] at hF
    refine g_iload_n hX dX5_become_2 (i := 2) rfl (j := 2) rfl ?_
    refine g_bipush (v := 30) hX dX5_become_3 (by decide) ?_
    refine g_icmp_ge (tgt := 20) hX dX5_become_5 (by decide) (fun c5 => ?_) (fun c5 => ?_)
    · have hF := ite_t hF c5
      obtain rfl := Option.some.inj hF
      exact g_vret hX dX5_become_20 hR
    · have hF := ite_f hF c5
      refine g_aload_n hX dX5_become_8 (i := 0) rfl (j := 0) rfl ?_
      refine g_aload_n hX dX5_become_9 (i := 1) rfl (j := 1) rfl ?_
      refine g_iload_n hX dX5_become_10 (i := 2) rfl (j := 2) rfl ?_
      obtain ⟨h11, e11, hF⟩ := bi_some hF
      refine g_callV (As := [.ref (b + p1), .int x2]) (rest := []) (stk := []) hX dX5_become_11 (ctX5_putAsIn hM hW p0 p1 x2 t0 t1 e11) (by decide) (by decide) wm_X5_32 wi_X5_putAsIn ws_X5_putAsIn wz_X5 wc_X5_putAsIn hyX5_putAsIn rfl (ci := 5) rfl (by decide) t0.1 (hW.1 _ t0.2).1 (hW.1 _ t0.2).2 (Nat.le_of_ble_eq_true rfl) rfl rfl ?_ rfl rfl
      refine g_iinc (L' := [(2, .int (x2 + 1)), (0, .ref (b + p0)), (1, .ref (b + p1))]) (j := 2) hX dX5_become_14 rfl rfl (by decide) rfl ?_
      refine g_goto (tgt := 2) hX dX5_become_17 (by decide) ?_
      refine g_sub (L' := [(0, .ref (b + p0)), (1, .ref (b + p1)), (2, .int (x2 + 1))]) [1, 2, 0] rfl ?_
      exact ih h11 (x2 + 1) hF
set_option maxRecDepth 100000 in
set_option maxHeartbeats 4000000 in
theorem kX5_become {X : XT} {b N sz : Nat} {ok : Nat → Prop} {h : HH} {r : RR} {w : HH} (hX : XOK X RX5 cX5_become 3 2) (hM : N ≤ MA) (hW : WT KA lnA ok N r) (p0 : Nat) (p1 : Nat) (t0 : KA p0 = 5 ∧ ok p0) (t1 : KA p1 = 5 ∧ ok p1) (hR : XR X b KA lnA MA (none) 0 0 N sz none w r) (hF : fX5_become h r p0 p1 = some w) : GX X b KA lnA MA 3 0 0 N sz 0 [(0, .ref (b + p0)), (1, .ref (b + p1))] [] h r := by
  rw [fX5_become] at hF
  refine g_iconst (v := 0) hX dX5_become_0 (by decide) ?_
  refine g_istore_n (L' := [(2, .int 0), (0, .ref (b + p0)), (1, .ref (b + p1))]) hX dX5_become_1 (i := 2) rfl (by decide) rfl ?_
  refine g_sub (L' := [(0, .ref (b + p0)), (1, .ref (b + p1)), (2, .int 0)]) [1, 2, 0] rfl ?_
  exact kX5_become_b2 hX hM hW p0 p1 t0 t1 hR lpF h 0 hF
theorem ctX5_become {b N sz : Nat} {ok : Nat → Prop} {h : HH} {r : RR} {w : HH} (hM : N ≤ MA) (hW : WT KA lnA ok N r) (p0 : Nat) (p1 : Nat) (t0 : KA p0 = 5 ∧ ok p0) (t1 : KA p1 = 5 ∧ ok p1) (hF : fX5_become h r p0 p1 = some w) : CT yX5_become cX5_become 3 (none) 2 b KA lnA MA N sz [.ref (b + p0), .ref (b + p1)] h r N sz none w r 0 0 :=
  CT_of (by decide) rfl (Nat.le_of_ble_eq_true rfl) (by decide) trivial (fun X hX hR => kX5_become hX hM hW p0 p1 t0 t1 hR hF)
/-! X5_size -/
def fX5_size_b22 (h : HH) (r : RR) (p0 : Nat) (k4 : Int32 → Int32 → Option (Int32)) (x1 : Int32) (x2 : Int32) : Option (Int32) := k4 x1 (x2 + 1)
def fX5_size_b4 (h : HH) (r : RR) (p0 : Nat) : Nat → Int32 → Int32 → Option (Int32)
  | 0, _, _ => none
  | n + 1, x1, x2 => if 30 ≤ x2 then (some (x1)) else (gd (inb x2 (lnA (r p0 0))) (if (h (r p0 0) (ix x2)) = 0 then (fX5_size_b22 h r p0 (fun z1_ z2_ => fX5_size_b4 h r p0 n z1_ z2_) x1 x2) else (fX5_size_b22 h r p0 (fun z1_ z2_ => fX5_size_b4 h r p0 n z1_ z2_) (x1 + 1) x2)))
def fX5_size (h : HH) (r : RR) (p0 : Nat) : Option (Int32) := fX5_size_b4 h r p0 lpF 0 0
set_option maxRecDepth 100000 in
set_option maxHeartbeats 4000000 in
theorem kX5_size_b22 {X : XT} {b N sz : Nat} {ok : Nat → Prop} {h : HH} {r : RR} {w : Int32} (hX : XOK X RX5 cX5_size 3 1) (hM : N ≤ MA) (hW : WT KA lnA ok N r) (p0 : Nat) (t0 : KA p0 = 5 ∧ ok p0) (hR : XR X b KA lnA MA (some FieldType.int) 0 0 N sz (some (.int w)) h r) (k4 : Int32 → Int32 → Option (Int32)) (hk4 : ∀ (x1 : Int32) (x2 : Int32), k4 x1 x2 = some w → GX X b KA lnA MA 3 0 0 N sz 4 [(0, .ref (b + p0)), (1, .int x1), (2, .int x2)] [] h r) (x1 : Int32) (x2 : Int32) (hF : fX5_size_b22 h r p0 k4 x1 x2 = some w) : GX X b KA lnA MA 3 0 0 N sz 22 [(0, .ref (b + p0)), (1, .int x1), (2, .int x2)] [] h r := by
  rw [fX5_size_b22] at hF
  refine g_iinc (L' := [(2, .int (x2 + 1)), (0, .ref (b + p0)), (1, .int x1)]) (j := 2) hX dX5_size_22 rfl rfl (by decide) rfl ?_
  refine g_goto (tgt := 4) hX dX5_size_25 (by decide) ?_
  refine g_sub (L' := [(0, .ref (b + p0)), (1, .int x1), (2, .int (x2 + 1))]) [1, 2, 0] rfl ?_
  exact hk4 x1 (x2 + 1) hF
set_option maxRecDepth 100000 in
set_option maxHeartbeats 4000000 in
theorem kX5_size_b4 {X : XT} {b N sz : Nat} {ok : Nat → Prop} {h : HH} {r : RR} {w : Int32} (hX : XOK X RX5 cX5_size 3 1) (hM : N ≤ MA) (hW : WT KA lnA ok N r) (p0 : Nat) (t0 : KA p0 = 5 ∧ ok p0) (hR : XR X b KA lnA MA (some FieldType.int) 0 0 N sz (some (.int w)) h r) : ∀ (n : Nat) (x1 : Int32) (x2 : Int32), fX5_size_b4 h r p0 n x1 x2 = some w → GX X b KA lnA MA 3 0 0 N sz 4 [(0, .ref (b + p0)), (1, .int x1), (2, .int x2)] [] h r := by
  intro n
  induction n with
  | zero =>
    intro x1 x2 hF
    cases hF
  | succ n ih =>
    intro x1 x2 hF
    rw [fX5_size_b4] at hF
    refine g_iload_n hX dX5_size_4 (i := 2) rfl (j := 2) rfl ?_
    refine g_bipush (v := 30) hX dX5_size_5 (by decide) ?_
    refine g_icmp_ge (tgt := 28) hX dX5_size_7 (by decide) (fun c7 => ?_) (fun c7 => ?_)
    · have hF := ite_t hF c7
      refine g_iload_n hX dX5_size_28 (i := 1) rfl (j := 1) rfl ?_
      obtain rfl := Option.some.inj hF
      exact g_iret hX dX5_size_29 hR
    · have hF := ite_f hF c7
      refine g_aload_n hX dX5_size_10 (i := 0) rfl (j := 0) rfl ?_
      have tf11 := (tyF (k := 0) hW t0 (by decide) rfl (by decide) : KA (r p0 0) = 10 ∧ ok (r p0 0))
      refine gf_X5_9 hX dX5_size_11 (ty1 hW t0) (hW.1 _ tf11.2).1 ?_
      refine g_iload_n hX dX5_size_14 (i := 2) rfl (j := 2) rfl ?_
      obtain ⟨g15, hF⟩ := gd_some hF
      refine g_bald hX dX5_size_15 tf11.1 (hW.1 _ tf11.2).1 (hW.1 _ tf11.2).2 g15 ?_
      refine g_if_eq (tgt := 22) hX dX5_size_16 (by decide) (fun c16 => ?_) (fun c16 => ?_)
      · have hF := ite_t hF c16
        refine g_sub (L' := [(0, .ref (b + p0)), (1, .int x1), (2, .int x2)]) [0, 1, 2] rfl ?_
        exact kX5_size_b22 hX hM hW p0 t0 hR (fun z1_ z2_ => fX5_size_b4 h r p0 n z1_ z2_) ih x1 x2 hF
      · have hF := ite_f hF c16
        refine g_iinc (L' := [(1, .int (x1 + 1)), (0, .ref (b + p0)), (2, .int x2)]) (j := 1) hX dX5_size_19 rfl rfl (by decide) rfl ?_
        refine g_sub (L' := [(0, .ref (b + p0)), (1, .int (x1 + 1)), (2, .int x2)]) [1, 0, 2] rfl ?_
        exact kX5_size_b22 hX hM hW p0 t0 hR (fun z1_ z2_ => fX5_size_b4 h r p0 n z1_ z2_) ih (x1 + 1) x2 hF
set_option maxRecDepth 100000 in
set_option maxHeartbeats 4000000 in
theorem kX5_size {X : XT} {b N sz : Nat} {ok : Nat → Prop} {h : HH} {r : RR} {w : Int32} (hX : XOK X RX5 cX5_size 3 1) (hM : N ≤ MA) (hW : WT KA lnA ok N r) (p0 : Nat) (t0 : KA p0 = 5 ∧ ok p0) (hR : XR X b KA lnA MA (some FieldType.int) 0 0 N sz (some (.int w)) h r) (hF : fX5_size h r p0 = some w) : GX X b KA lnA MA 3 0 0 N sz 0 [(0, .ref (b + p0))] [] h r := by
  rw [fX5_size] at hF
  refine g_iconst (v := 0) hX dX5_size_0 (by decide) ?_
  refine g_istore_n (L' := [(1, .int 0), (0, .ref (b + p0))]) hX dX5_size_1 (i := 1) rfl (by decide) rfl ?_
  refine g_iconst (v := 0) hX dX5_size_2 (by decide) ?_
  refine g_istore_n (L' := [(2, .int 0), (1, .int 0), (0, .ref (b + p0))]) hX dX5_size_3 (i := 2) rfl (by decide) rfl ?_
  refine g_sub (L' := [(0, .ref (b + p0)), (1, .int 0), (2, .int 0)]) [2, 1, 0] rfl ?_
  exact kX5_size_b4 hX hM hW p0 t0 hR lpF 0 0 hF
theorem ctX5_size {b N sz : Nat} {ok : Nat → Prop} {h : HH} {r : RR} {w : Int32} (hM : N ≤ MA) (hW : WT KA lnA ok N r) (p0 : Nat) (t0 : KA p0 = 5 ∧ ok p0) (hF : fX5_size h r p0 = some w) : CT yX5_size cX5_size 3 (some FieldType.int) 1 b KA lnA MA N sz [.ref (b + p0)] h r N sz (some (.int w)) h r 0 0 :=
  CT_of (by decide) rfl (Nat.le_of_ble_eq_true rfl) (by decide) trivial (fun X hX hR => kX5_size hX hM hW p0 t0 hR hF)
/-! X5_innerOnes -/
def fX5_innerOnes_b22 (h : HH) (r : RR) (p0 : Nat) (a1 : Int32) (k4 : Int32 → Int32 → Option (Int32)) (x2 : Int32) (x3 : Int32) : Option (Int32) := k4 x2 (x3 + 1)
def fX5_innerOnes_b4 (h : HH) (r : RR) (p0 : Nat) (a1 : Int32) : Nat → Int32 → Int32 → Option (Int32)
  | 0, _, _ => none
  | n + 1, x2, x3 => if 30 ≤ x3 then (some (x2)) else ((fX5_isInner h r p0 x3 a1).bind (fun v13 => if v13 = 0 then (fX5_innerOnes_b22 h r p0 a1 (fun z2_ z3_ => fX5_innerOnes_b4 h r p0 a1 n z2_ z3_) x2 x3) else (fX5_innerOnes_b22 h r p0 a1 (fun z2_ z3_ => fX5_innerOnes_b4 h r p0 a1 n z2_ z3_) (x2 + 1) x3)))
def fX5_innerOnes (h : HH) (r : RR) (p0 : Nat) (a1 : Int32) : Option (Int32) := fX5_innerOnes_b4 h r p0 a1 lpF 0 0
set_option maxRecDepth 100000 in
set_option maxHeartbeats 4000000 in
theorem kX5_innerOnes_b22 {X : XT} {b N sz : Nat} {ok : Nat → Prop} {h : HH} {r : RR} {w : Int32} (hX : XOK X RX5 cX5_innerOnes 4 3) (hM : N ≤ MA) (hW : WT KA lnA ok N r) (p0 : Nat) (a1 : Int32) (t0 : KA p0 = 5 ∧ ok p0) (hR : XR X b KA lnA MA (some FieldType.int) 0 0 N sz (some (.int w)) h r) (k4 : Int32 → Int32 → Option (Int32)) (hk4 : ∀ (x2 : Int32) (x3 : Int32), k4 x2 x3 = some w → GX X b KA lnA MA 4 0 0 N sz 4 [(0, .ref (b + p0)), (1, .int a1), (2, .int x2), (3, .int x3)] [] h r) (x2 : Int32) (x3 : Int32) (hF : fX5_innerOnes_b22 h r p0 a1 k4 x2 x3 = some w) : GX X b KA lnA MA 4 0 0 N sz 22 [(0, .ref (b + p0)), (1, .int a1), (2, .int x2), (3, .int x3)] [] h r := by
  rw [fX5_innerOnes_b22] at hF
  refine g_iinc (L' := [(3, .int (x3 + 1)), (0, .ref (b + p0)), (1, .int a1), (2, .int x2)]) (j := 3) hX dX5_innerOnes_22 rfl rfl (by decide) rfl ?_
  refine g_goto (tgt := 4) hX dX5_innerOnes_25 (by decide) ?_
  refine g_sub (L' := [(0, .ref (b + p0)), (1, .int a1), (2, .int x2), (3, .int (x3 + 1))]) [1, 2, 3, 0] rfl ?_
  exact hk4 x2 (x3 + 1) hF
set_option maxRecDepth 100000 in
set_option maxHeartbeats 4000000 in
theorem kX5_innerOnes_b4 {X : XT} {b N sz : Nat} {ok : Nat → Prop} {h : HH} {r : RR} {w : Int32} (hX : XOK X RX5 cX5_innerOnes 4 3) (hM : N ≤ MA) (hW : WT KA lnA ok N r) (p0 : Nat) (a1 : Int32) (t0 : KA p0 = 5 ∧ ok p0) (hR : XR X b KA lnA MA (some FieldType.int) 0 0 N sz (some (.int w)) h r) : ∀ (n : Nat) (x2 : Int32) (x3 : Int32), fX5_innerOnes_b4 h r p0 a1 n x2 x3 = some w → GX X b KA lnA MA 4 0 0 N sz 4 [(0, .ref (b + p0)), (1, .int a1), (2, .int x2), (3, .int x3)] [] h r := by
  intro n
  induction n with
  | zero =>
    intro x2 x3 hF
    cases hF
  | succ n ih =>
    intro x2 x3 hF
    rw [fX5_innerOnes_b4] at hF
    refine g_iload_n hX dX5_innerOnes_4 (i := 3) rfl (j := 3) rfl ?_
    refine g_bipush (v := 30) hX dX5_innerOnes_5 (by decide) ?_
    refine g_icmp_ge (tgt := 28) hX dX5_innerOnes_7 (by decide) (fun c7 => ?_) (fun c7 => ?_)
    · have hF := ite_t hF c7
      refine g_iload_n hX dX5_innerOnes_28 (i := 2) rfl (j := 2) rfl ?_
      obtain rfl := Option.some.inj hF
      exact g_iret hX dX5_innerOnes_29 hR
    · have hF := ite_f hF c7
      refine g_aload_n hX dX5_innerOnes_10 (i := 0) rfl (j := 0) rfl ?_
      refine g_iload_n hX dX5_innerOnes_11 (i := 3) rfl (j := 3) rfl ?_
      refine g_iload_n hX dX5_innerOnes_12 (i := 1) rfl (j := 1) rfl ?_
      obtain ⟨v13, e13, hF⟩ := bi_some hF
      refine g_callV (As := [.int x3, .int a1]) (rest := []) (stk := [.int v13]) hX dX5_innerOnes_13 (ctX5_isInner hM hW p0 x3 a1 t0 e13) (by decide) (by decide) wm_X5_48 wi_X5_isInner ws_X5_isInner wz_X5 wc_X5_isInner hyX5_isInner rfl (ci := 5) rfl (by decide) t0.1 (hW.1 _ t0.2).1 (hW.1 _ t0.2).2 (Nat.le_of_ble_eq_true rfl) rfl rfl ?_ rfl rfl
      refine g_if_eq (tgt := 22) hX dX5_innerOnes_16 (by decide) (fun c16 => ?_) (fun c16 => ?_)
      · have hF := ite_t hF c16
        refine g_sub (L' := [(0, .ref (b + p0)), (1, .int a1), (2, .int x2), (3, .int x3)]) [0, 1, 2, 3] rfl ?_
        exact kX5_innerOnes_b22 hX hM hW p0 a1 t0 hR (fun z2_ z3_ => fX5_innerOnes_b4 h r p0 a1 n z2_ z3_) ih x2 x3 hF
      · have hF := ite_f hF c16
        refine g_iinc (L' := [(2, .int (x2 + 1)), (0, .ref (b + p0)), (1, .int a1), (3, .int x3)]) (j := 2) hX dX5_innerOnes_19 rfl rfl (by decide) rfl ?_
        refine g_sub (L' := [(0, .ref (b + p0)), (1, .int a1), (2, .int (x2 + 1)), (3, .int x3)]) [1, 2, 0, 3] rfl ?_
        exact kX5_innerOnes_b22 hX hM hW p0 a1 t0 hR (fun z2_ z3_ => fX5_innerOnes_b4 h r p0 a1 n z2_ z3_) ih (x2 + 1) x3 hF
set_option maxRecDepth 100000 in
set_option maxHeartbeats 4000000 in
theorem kX5_innerOnes {X : XT} {b N sz : Nat} {ok : Nat → Prop} {h : HH} {r : RR} {w : Int32} (hX : XOK X RX5 cX5_innerOnes 4 3) (hM : N ≤ MA) (hW : WT KA lnA ok N r) (p0 : Nat) (a1 : Int32) (t0 : KA p0 = 5 ∧ ok p0) (hR : XR X b KA lnA MA (some FieldType.int) 0 0 N sz (some (.int w)) h r) (hF : fX5_innerOnes h r p0 a1 = some w) : GX X b KA lnA MA 4 0 0 N sz 0 [(0, .ref (b + p0)), (1, .int a1)] [] h r := by
  rw [fX5_innerOnes] at hF
  refine g_iconst (v := 0) hX dX5_innerOnes_0 (by decide) ?_
  refine g_istore_n (L' := [(2, .int 0), (0, .ref (b + p0)), (1, .int a1)]) hX dX5_innerOnes_1 (i := 2) rfl (by decide) rfl ?_
  refine g_iconst (v := 0) hX dX5_innerOnes_2 (by decide) ?_
  refine g_istore_n (L' := [(3, .int 0), (2, .int 0), (0, .ref (b + p0)), (1, .int a1)]) hX dX5_innerOnes_3 (i := 3) rfl (by decide) rfl ?_
  refine g_sub (L' := [(0, .ref (b + p0)), (1, .int a1), (2, .int 0), (3, .int 0)]) [2, 3, 1, 0] rfl ?_
  exact kX5_innerOnes_b4 hX hM hW p0 a1 t0 hR lpF 0 0 hF
theorem ctX5_innerOnes {b N sz : Nat} {ok : Nat → Prop} {h : HH} {r : RR} {w : Int32} (hM : N ≤ MA) (hW : WT KA lnA ok N r) (p0 : Nat) (a1 : Int32) (t0 : KA p0 = 5 ∧ ok p0) (hF : fX5_innerOnes h r p0 a1 = some w) : CT yX5_innerOnes cX5_innerOnes 4 (some FieldType.int) 3 b KA lnA MA N sz [.ref (b + p0), .int a1] h r N sz (some (.int w)) h r 0 0 :=
  CT_of (by decide) rfl (Nat.le_of_ble_eq_true rfl) (by decide) trivial (fun X hX hR => kX5_innerOnes hX hM hW p0 a1 t0 hR hF)
/-! X6_become -/
def fX6_become_b64 (r : RR) (p0 : Nat) (p1 : Nat) : Nat → HH → Int32 → Option (HH)
  | 0, _, _ => none
  | n + 1, h, x2 => if 6 ≤ x2 then (lt (up h p0 4 (h p1 4)) (fun h96 => lt (up h96 p0 5 (h96 p1 5)) (fun h104 => lt (up h104 p0 6 (h104 p1 6)) (fun h112 => lt (up h112 p0 7 (h112 p1 7)) (fun h120 => lt (up h120 p0 8 (h120 p1 8)) (fun h128 => some h128)))))) else (gd (inb x2 (lnA (r p0 3))) (gd (inb x2 (lnA (r p1 3))) ((fX1_become h r (r (r p0 3) (ix x2)) (r (r p1 3) (ix x2))).bind (fun h82 => fX6_become_b64 r p0 p1 n h82 (x2 + 1)))))
def fX6_become_b36 (r : RR) (p0 : Nat) (p1 : Nat) : Nat → HH → Int32 → Option (HH)
  | 0, _, _ => none
  | n + 1, h, x2 => if 3 ≤ x2 then (fX6_become_b64 r p0 p1 lpF h 0) else (gd (inb x2 (lnA (r p0 2))) (gd (inb x2 (lnA (r p1 2))) ((fX5_become h r (r (r p0 2) (ix x2)) (r (r p1 2) (ix x2))).bind (fun h53 => fX6_become_b36 r p0 p1 n h53 (x2 + 1)))))
def fX6_become_b10 (r : RR) (p0 : Nat) (p1 : Nat) : Nat → HH → Int32 → Option (HH)
  | 0, _, _ => none
  | n + 1, h, x2 => if 30 ≤ x2 then (fX6_become_b36 r p0 p1 lpF h 0) else (gd (inb x2 (lnA (r p1 1))) (gd (inb x2 (lnA (r p0 1))) (lt (up h (r p0 1) (ix x2) (zn (h (r p1 1) (ix x2)))) (fun h27 => fX6_become_b10 r p0 p1 n h27 (x2 + 1)))))
def fX6_become (h : HH) (r : RR) (p0 : Nat) (p1 : Nat) : Option (HH) := lt (up h p0 0 (h p1 0)) (fun h5 => fX6_become_b10 r p0 p1 lpF h5 0)
set_option maxRecDepth 100000 in
set_option maxHeartbeats 4000000 in
theorem kX6_become_b64 {X : XT} {b N sz : Nat} {ok : Nat → Prop} {r : RR} {w : HH} (hX : XOK X RX6 cX6_become 3 3) (hM : N ≤ MA) (hW : WT KA lnA ok N r) (p0 : Nat) (p1 : Nat) (t0 : KA p0 = 6 ∧ ok p0) (t1 : KA p1 = 6 ∧ ok p1) (hR : XR X b KA lnA MA (none) 0 0 N sz none w r) : ∀ (n : Nat) (h : HH) (x2 : Int32), fX6_become_b64 r p0 p1 n h x2 = some w → GX X b KA lnA MA 3 0 0 N sz 64 [(0, .ref (b + p0)), (1, .ref (b + p1)), (2, .int x2)] [] h r := by
  intro n
  induction n with
  | zero =>
    intro h x2 hF
    cases hF
  | succ n ih =>
    intro h x2 hF
    rw [fX6_become_b64] at hF
    refine g_iload_n hX dX6_become_64 (i := 2) rfl (j := 2) rfl ?_
    refine g_bipush (v := 6) hX dX6_become_65 (by decide) ?_
    refine g_icmp_ge (tgt := 91) hX dX6_become_67 (by decide) (fun c67 => ?_) (fun c67 => ?_)
    · have hF := ite_t hF c67
      refine g_aload_n hX dX6_become_91 (i := 0) rfl (j := 0) rfl ?_
      refine g_aload_n hX dX6_become_92 (i := 1) rfl (j := 1) rfl ?_
      refine gf_X6_31 hX dX6_become_93 (ty1 hW t1) ?_
      obtain ⟨h96, e96, hF⟩ := lt_some hF
      refine pf_X6_31 hX dX6_become_96 (ty1 hW t0) hM e96 ?_
      refine g_aload_n hX dX6_become_99 (i := 0) rfl (j := 0) rfl ?_
      refine g_aload_n hX dX6_become_100 (i := 1) rfl (j := 1) rfl ?_
      refine gf_X6_34 hX dX6_become_101 (ty1 hW t1) ?_
      obtain ⟨h104, e104, hF⟩ := lt_some hF
      refine pf_X6_34 hX dX6_become_104 (ty1 hW t0) hM e104 ?_
      refine g_aload_n hX dX6_become_107 (i := 0) rfl (j := 0) rfl ?_
      refine g_aload_n hX dX6_become_108 (i := 1) rfl (j := 1) rfl ?_
      refine gf_X6_37 hX dX6_become_109 (ty1 hW t1) ?_
      obtain ⟨h112, e112, hF⟩ := lt_some hF
      refine pf_X6_37 hX dX6_become_112 (ty1 hW t0) hM e112 ?_
      refine g_aload_n hX dX6_become_115 (i := 0) rfl (j := 0) rfl ?_
      refine g_aload_n hX dX6_become_116 (i := 1) rfl (j := 1) rfl ?_
      refine gf_X6_40 hX dX6_become_117 (ty1 hW t1) ?_
      obtain ⟨h120, e120, hF⟩ := lt_some hF
      refine pf_X6_40 hX dX6_become_120 (ty1 hW t0) hM e120 ?_
      refine g_aload_n hX dX6_become_123 (i := 0) rfl (j := 0) rfl ?_
      refine g_aload_n hX dX6_become_124 (i := 1) rfl (j := 1) rfl ?_
      refine gf_X6_43 hX dX6_become_125 (ty1 hW t1) ?_
      obtain ⟨h128, e128, hF⟩ := lt_some hF
      refine pf_X6_43 hX dX6_become_128 (ty1 hW t0) hM e128 ?_
      obtain rfl := Option.some.inj hF
      exact g_vret hX dX6_become_131 hR
    · have hF := ite_f hF c67
      refine g_aload_n hX dX6_become_70 (i := 0) rfl (j := 0) rfl ?_
      have tf71 := (tyF (k := 3) hW t0 (by decide) rfl (by decide) : KA (r p0 3) = 11 ∧ ok (r p0 3))
      refine gf_X6_27 hX dX6_become_71 (ty1 hW t0) (hW.1 _ tf71.2).1 ?_
      refine g_iload_n hX dX6_become_74 (i := 2) rfl (j := 2) rfl ?_
      obtain ⟨g75, hF⟩ := gd_some hF
      have ta75 : KA (r (r p0 3) (ix x2)) = 1 ∧ ok (r (r p0 3) (ix x2)) := tyA hW tf71 (by decide) rfl (by decide) g75
      refine g_aald hX dX6_become_75 tf71.1 (by decide) (by decide) (hW.1 _ tf71.2).1 (hW.1 _ tf71.2).2 g75 (hW.1 _ ta75.2).1 ?_
      refine g_aload_n hX dX6_become_76 (i := 1) rfl (j := 1) rfl ?_
      have tf77 := (tyF (k := 3) hW t1 (by decide) rfl (by decide) : KA (r p1 3) = 11 ∧ ok (r p1 3))
      refine gf_X6_27 hX dX6_become_77 (ty1 hW t1) (hW.1 _ tf77.2).1 ?_
      refine g_iload_n hX dX6_become_80 (i := 2) rfl (j := 2) rfl ?_
      obtain ⟨g81, hF⟩ := gd_some hF
      have ta81 : KA (r (r p1 3) (ix x2)) = 1 ∧ ok (r (r p1 3) (ix x2)) := tyA hW tf77 (by decide) rfl (by decide) g81
      refine g_aald hX dX6_become_81 tf77.1 (by decide) (by decide) (hW.1 _ tf77.2).1 (hW.1 _ tf77.2).2 g81 (hW.1 _ ta81.2).1 ?_
      obtain ⟨h82, e82, hF⟩ := bi_some hF
      refine g_callV (As := [.ref (b + (r (r p1 3) (ix x2)))]) (rest := []) (stk := []) hX dX6_become_82 (ctX1_become hM hW (r (r p0 3) (ix x2)) (r (r p1 3) (ix x2)) ta75 ta81 e82) (by decide) (by decide) wm_X6_59 wi_X1_become ws_X1_become wz_X1 wc_X1_become hyX1_become rfl (ci := 1) rfl (by decide) ta75.1 (hW.1 _ ta75.2).1 (hW.1 _ ta75.2).2 (Nat.le_of_ble_eq_true rfl) rfl rfl ?_ rfl rfl
      refine g_iinc (L' := [(2, .int (x2 + 1)), (0, .ref (b + p0)), (1, .ref (b + p1))]) (j := 2) hX dX6_become_85 rfl rfl (by decide) rfl ?_
      refine g_goto (tgt := 64) hX dX6_become_88 (by decide) ?_
      refine g_sub (L' := [(0, .ref (b + p0)), (1, .ref (b + p1)), (2, .int (x2 + 1))]) [1, 2, 0] rfl ?_
      exact ih h82 (x2 + 1) hF
set_option maxRecDepth 100000 in
set_option maxHeartbeats 4000000 in
theorem kX6_become_b36 {X : XT} {b N sz : Nat} {ok : Nat → Prop} {r : RR} {w : HH} (hX : XOK X RX6 cX6_become 3 3) (hM : N ≤ MA) (hW : WT KA lnA ok N r) (p0 : Nat) (p1 : Nat) (t0 : KA p0 = 6 ∧ ok p0) (t1 : KA p1 = 6 ∧ ok p1) (hR : XR X b KA lnA MA (none) 0 0 N sz none w r) : ∀ (n : Nat) (h : HH) (x2 : Int32), fX6_become_b36 r p0 p1 n h x2 = some w → GX X b KA lnA MA 3 0 0 N sz 36 [(0, .ref (b + p0)), (1, .ref (b + p1)), (2, .int x2)] [] h r := by
  intro n
  induction n with
  | zero =>
    intro h x2 hF
    cases hF
  | succ n ih =>
    intro h x2 hF
    rw [fX6_become_b36] at hF
    refine g_iload_n hX dX6_become_36 (i := 2) rfl (j := 2) rfl ?_
    refine g_iconst (v := 3) hX dX6_become_37 (by decide) ?_
    refine g_icmp_ge (tgt := 62) hX dX6_become_38 (by decide) (fun c38 => ?_) (fun c38 => ?_)
    · have hF := ite_t hF c38
      refine g_iconst (v := 0) hX dX6_become_62 (by decide) ?_
      refine g_istore_n (L' := [(2, .int 0), (0, .ref (b + p0)), (1, .ref (b + p1))]) hX dX6_become_63 (i := 2) rfl (by decide) rfl ?_
      refine g_sub (L' := [(0, .ref (b + p0)), (1, .ref (b + p1)), (2, .int 0)]) [1, 2, 0] rfl ?_
      exact kX6_become_b64 hX hM hW p0 p1 t0 t1 hR lpF h 0 hF
    · have hF := ite_f hF c38
      refine g_aload_n hX dX6_become_41 (i := 0) rfl (j := 0) rfl ?_
      have tf42 := (tyF (k := 2) hW t0 (by decide) rfl (by decide) : KA (r p0 2) = 13 ∧ ok (r p0 2))
      refine gf_X6_21 hX dX6_become_42 (ty1 hW t0) (hW.1 _ tf42.2).1 ?_
      refine g_iload_n hX dX6_become_45 (i := 2) rfl (j := 2) rfl ?_
      obtain ⟨g46, hF⟩ := gd_some hF
      have ta46 : KA (r (r p0 2) (ix x2)) = 5 ∧ ok (r (r p0 2) (ix x2)) := tyA hW tf42 (by decide) rfl (by decide) g46
      refine g_aald hX dX6_become_46 tf42.1 (by decide) (by decide) (hW.1 _ tf42.2).1 (hW.1 _ tf42.2).2 g46 (hW.1 _ ta46.2).1 ?_
      refine g_aload_n hX dX6_become_47 (i := 1) rfl (j := 1) rfl ?_
      have tf48 := (tyF (k := 2) hW t1 (by decide) rfl (by decide) : KA (r p1 2) = 13 ∧ ok (r p1 2))
      refine gf_X6_21 hX dX6_become_48 (ty1 hW t1) (hW.1 _ tf48.2).1 ?_
      refine g_iload_n hX dX6_become_51 (i := 2) rfl (j := 2) rfl ?_
      obtain ⟨g52, hF⟩ := gd_some hF
      have ta52 : KA (r (r p1 2) (ix x2)) = 5 ∧ ok (r (r p1 2) (ix x2)) := tyA hW tf48 (by decide) rfl (by decide) g52
      refine g_aald hX dX6_become_52 tf48.1 (by decide) (by decide) (hW.1 _ tf48.2).1 (hW.1 _ tf48.2).2 g52 (hW.1 _ ta52.2).1 ?_
      obtain ⟨h53, e53, hF⟩ := bi_some hF
      refine g_callV (As := [.ref (b + (r (r p1 2) (ix x2)))]) (rest := []) (stk := []) hX dX6_become_53 (ctX5_become hM hW (r (r p0 2) (ix x2)) (r (r p1 2) (ix x2)) ta46 ta52 e53) (by decide) (by decide) wm_X6_55 wi_X5_become ws_X5_become wz_X5 wc_X5_become hyX5_become rfl (ci := 5) rfl (by decide) ta46.1 (hW.1 _ ta46.2).1 (hW.1 _ ta46.2).2 (Nat.le_of_ble_eq_true rfl) rfl rfl ?_ rfl rfl
      refine g_iinc (L' := [(2, .int (x2 + 1)), (0, .ref (b + p0)), (1, .ref (b + p1))]) (j := 2) hX dX6_become_56 rfl rfl (by decide) rfl ?_
      refine g_goto (tgt := 36) hX dX6_become_59 (by decide) ?_
      refine g_sub (L' := [(0, .ref (b + p0)), (1, .ref (b + p1)), (2, .int (x2 + 1))]) [1, 2, 0] rfl ?_
      exact ih h53 (x2 + 1) hF
set_option maxRecDepth 100000 in
set_option maxHeartbeats 4000000 in
theorem kX6_become_b10 {X : XT} {b N sz : Nat} {ok : Nat → Prop} {r : RR} {w : HH} (hX : XOK X RX6 cX6_become 3 3) (hM : N ≤ MA) (hW : WT KA lnA ok N r) (p0 : Nat) (p1 : Nat) (t0 : KA p0 = 6 ∧ ok p0) (t1 : KA p1 = 6 ∧ ok p1) (hR : XR X b KA lnA MA (none) 0 0 N sz none w r) : ∀ (n : Nat) (h : HH) (x2 : Int32), fX6_become_b10 r p0 p1 n h x2 = some w → GX X b KA lnA MA 3 0 0 N sz 10 [(0, .ref (b + p0)), (1, .ref (b + p1)), (2, .int x2)] [] h r := by
  intro n
  induction n with
  | zero =>
    intro h x2 hF
    cases hF
  | succ n ih =>
    intro h x2 hF
    rw [fX6_become_b10] at hF
    refine g_iload_n hX dX6_become_10 (i := 2) rfl (j := 2) rfl ?_
    refine g_bipush (v := 30) hX dX6_become_11 (by decide) ?_
    refine g_icmp_ge (tgt := 34) hX dX6_become_13 (by decide) (fun c13 => ?_) (fun c13 => ?_)
    · have hF := ite_t hF c13
      refine g_iconst (v := 0) hX dX6_become_34 (by decide) ?_
      refine g_istore_n (L' := [(2, .int 0), (0, .ref (b + p0)), (1, .ref (b + p1))]) hX dX6_become_35 (i := 2) rfl (by decide) rfl ?_
      refine g_sub (L' := [(0, .ref (b + p0)), (1, .ref (b + p1)), (2, .int 0)]) [1, 2, 0] rfl ?_
      exact kX6_become_b36 hX hM hW p0 p1 t0 t1 hR lpF h 0 hF
    · have hF := ite_f hF c13
      refine g_aload_n hX dX6_become_16 (i := 0) rfl (j := 0) rfl ?_
      have tf17 := (tyF (k := 1) hW t0 (by decide) rfl (by decide) : KA (r p0 1) = 10 ∧ ok (r p0 1))
      refine gf_X6_15 hX dX6_become_17 (ty1 hW t0) (hW.1 _ tf17.2).1 ?_
      refine g_iload_n hX dX6_become_20 (i := 2) rfl (j := 2) rfl ?_
      refine g_aload_n hX dX6_become_21 (i := 1) rfl (j := 1) rfl ?_
      have tf22 := (tyF (k := 1) hW t1 (by decide) rfl (by decide) : KA (r p1 1) = 10 ∧ ok (r p1 1))
      refine gf_X6_15 hX dX6_become_22 (ty1 hW t1) (hW.1 _ tf22.2).1 ?_
      refine g_iload_n hX dX6_become_25 (i := 2) rfl (j := 2) rfl ?_
      obtain ⟨g26, hF⟩ := gd_some hF
      refine g_bald hX dX6_become_26 tf22.1 (hW.1 _ tf22.2).1 (hW.1 _ tf22.2).2 g26 ?_
      obtain ⟨g27, hF⟩ := gd_some hF
      obtain ⟨h27, e27, hF⟩ := lt_some hF
      refine g_bast hX dX6_become_27 tf17.1 (hW.1 _ tf17.2).1 (hW.1 _ tf17.2).2 hM g27 e27 ?_
      refine g_iinc (L' := [(2, .int (x2 + 1)), (0, .ref (b + p0)), (1, .ref (b + p1))]) (j := 2) hX dX6_become_28 rfl rfl (by decide) rfl ?_
      refine g_goto (tgt := 10) hX dX6_become_31 (by decide) ?_
      refine g_sub (L' := [(0, .ref (b + p0)), (1, .ref (b + p1)), (2, .int (x2 + 1))]) [1, 2, 0] rfl ?_
      exact ih h27 (x2 + 1) hF
set_option maxRecDepth 100000 in
set_option maxHeartbeats 4000000 in
theorem kX6_become {X : XT} {b N sz : Nat} {ok : Nat → Prop} {h : HH} {r : RR} {w : HH} (hX : XOK X RX6 cX6_become 3 3) (hM : N ≤ MA) (hW : WT KA lnA ok N r) (p0 : Nat) (p1 : Nat) (t0 : KA p0 = 6 ∧ ok p0) (t1 : KA p1 = 6 ∧ ok p1) (hR : XR X b KA lnA MA (none) 0 0 N sz none w r) (hF : fX6_become h r p0 p1 = some w) : GX X b KA lnA MA 3 0 0 N sz 0 [(0, .ref (b + p0)), (1, .ref (b + p1))] [] h r := by
  rw [fX6_become] at hF
  refine g_aload_n hX dX6_become_0 (i := 0) rfl (j := 0) rfl ?_
  refine g_aload_n hX dX6_become_1 (i := 1) rfl (j := 1) rfl ?_
  refine gf_X6_9 hX dX6_become_2 (ty1 hW t1) ?_
  obtain ⟨h5, e5, hF⟩ := lt_some hF
  refine pf_X6_9 hX dX6_become_5 (ty1 hW t0) hM e5 ?_
  refine g_iconst (v := 0) hX dX6_become_8 (by decide) ?_
  refine g_istore_n (L' := [(2, .int 0), (0, .ref (b + p0)), (1, .ref (b + p1))]) hX dX6_become_9 (i := 2) rfl (by decide) rfl ?_
  refine g_sub (L' := [(0, .ref (b + p0)), (1, .ref (b + p1)), (2, .int 0)]) [1, 2, 0] rfl ?_
  exact kX6_become_b10 hX hM hW p0 p1 t0 t1 hR lpF h5 0 hF
theorem ctX6_become {b N sz : Nat} {ok : Nat → Prop} {h : HH} {r : RR} {w : HH} (hM : N ≤ MA) (hW : WT KA lnA ok N r) (p0 : Nat) (p1 : Nat) (t0 : KA p0 = 6 ∧ ok p0) (t1 : KA p1 = 6 ∧ ok p1) (hF : fX6_become h r p0 p1 = some w) : CT yX6_become cX6_become 3 (none) 3 b KA lnA MA N sz [.ref (b + p0), .ref (b + p1)] h r N sz none w r 0 0 :=
  CT_of (by decide) rfl (Nat.le_of_ble_eq_true rfl) (by decide) trivial (fun X hX hR => kX6_become hX hM hW p0 p1 t0 t1 hR hF)
/-! X6_isThing -/
def fX6_isThing_b16 (h : HH) (r : RR) (p0 : Nat) (a1 : Int32) : Option (Int32) := some (0)
def fX6_isThing (h : HH) (r : RR) (p0 : Nat) (a1 : Int32) : Option (Int32) := if a1 < 0 then (fX6_isThing_b16 h r p0 a1) else (if (h p0 0) ≤ a1 then (fX6_isThing_b16 h r p0 a1) else (some (1)))
set_option maxRecDepth 100000 in
set_option maxHeartbeats 4000000 in
theorem kX6_isThing_b16 {X : XT} {b N sz : Nat} {ok : Nat → Prop} {h : HH} {r : RR} {w : Int32} (hX : XOK X RX6 cX6_isThing 2 1) (hM : N ≤ MA) (hW : WT KA lnA ok N r) (p0 : Nat) (a1 : Int32) (t0 : KA p0 = 6 ∧ ok p0) (hR : XR X b KA lnA MA (some FieldType.boolean) 0 0 N sz (some (.int w)) h r) (hF : fX6_isThing_b16 h r p0 a1 = some w) : GX X b KA lnA MA 2 0 0 N sz 16 [(0, .ref (b + p0)), (1, .int a1)] [] h r := by
  rw [fX6_isThing_b16] at hF
  refine g_iconst (v := 0) hX dX6_isThing_16 (by decide) ?_
  obtain rfl := Option.some.inj hF
  exact g_zret hX dX6_isThing_17 (by decide) hR
set_option maxRecDepth 100000 in
set_option maxHeartbeats 4000000 in
theorem kX6_isThing {X : XT} {b N sz : Nat} {ok : Nat → Prop} {h : HH} {r : RR} {w : Int32} (hX : XOK X RX6 cX6_isThing 2 1) (hM : N ≤ MA) (hW : WT KA lnA ok N r) (p0 : Nat) (a1 : Int32) (t0 : KA p0 = 6 ∧ ok p0) (hR : XR X b KA lnA MA (some FieldType.boolean) 0 0 N sz (some (.int w)) h r) (hF : fX6_isThing h r p0 a1 = some w) : GX X b KA lnA MA 2 0 0 N sz 0 [(0, .ref (b + p0)), (1, .int a1)] [] h r := by
  rw [fX6_isThing] at hF
  refine g_iload_n hX dX6_isThing_0 (i := 1) rfl (j := 1) rfl ?_
  refine g_if_lt (tgt := 16) hX dX6_isThing_1 (by decide) (fun c1 => ?_) (fun c1 => ?_)
  · have hF := ite_t hF c1
    refine g_sub (L' := [(0, .ref (b + p0)), (1, .int a1)]) [0, 1] rfl ?_
    exact kX6_isThing_b16 hX hM hW p0 a1 t0 hR hF
  · have hF := ite_f hF c1
    refine g_iload_n hX dX6_isThing_4 (i := 1) rfl (j := 1) rfl ?_
    refine g_aload_n hX dX6_isThing_5 (i := 0) rfl (j := 0) rfl ?_
    refine gf_X6_9 hX dX6_isThing_6 (ty1 hW t0) ?_
    refine g_icmp_ge (tgt := 16) hX dX6_isThing_9 (by decide) (fun c9 => ?_) (fun c9 => ?_)
    · have hF := ite_t hF c9
      refine g_sub (L' := [(0, .ref (b + p0)), (1, .int a1)]) [0, 1] rfl ?_
      exact kX6_isThing_b16 hX hM hW p0 a1 t0 hR hF
    · have hF := ite_f hF c9
      refine g_iconst (v := 1) hX dX6_isThing_12 (by decide) ?_
      refine g_goto (tgt := 17) hX dX6_isThing_13 (by decide) ?_
      obtain rfl := Option.some.inj hF
      exact g_zret hX dX6_isThing_17 (by decide) hR
theorem ctX6_isThing {b N sz : Nat} {ok : Nat → Prop} {h : HH} {r : RR} {w : Int32} (hM : N ≤ MA) (hW : WT KA lnA ok N r) (p0 : Nat) (a1 : Int32) (t0 : KA p0 = 6 ∧ ok p0) (hF : fX6_isThing h r p0 a1 = some w) : CT yX6_isThing cX6_isThing 2 (some FieldType.boolean) 1 b KA lnA MA N sz [.ref (b + p0), .int a1] h r N sz (some (.int w)) h r 0 0 :=
  CT_of (by decide) rfl (Nat.le_of_ble_eq_true rfl) (by decide) trivial (fun X hX hR => kX6_isThing hX hM hW p0 a1 t0 hR hF)
/-! X6_isPlace -/
def fX6_isPlace_b13 (h : HH) (r : RR) (p0 : Nat) (a1 : Int32) : Option (Int32) := some (1)
def fX6_isPlace (h : HH) (r : RR) (p0 : Nat) (a1 : Int32) : Option (Int32) := if a1 = (-1) then (fX6_isPlace_b13 h r p0 a1) else ((fX6_isThing h r p0 a1).bind (fun v7 => if v7 = 0 then (some (0)) else (fX6_isPlace_b13 h r p0 a1)))
set_option maxRecDepth 100000 in
set_option maxHeartbeats 4000000 in
theorem kX6_isPlace_b13 {X : XT} {b N sz : Nat} {ok : Nat → Prop} {h : HH} {r : RR} {w : Int32} (hX : XOK X RX6 cX6_isPlace 2 2) (hM : N ≤ MA) (hW : WT KA lnA ok N r) (p0 : Nat) (a1 : Int32) (t0 : KA p0 = 6 ∧ ok p0) (hR : XR X b KA lnA MA (some FieldType.boolean) 0 0 N sz (some (.int w)) h r) (hF : fX6_isPlace_b13 h r p0 a1 = some w) : GX X b KA lnA MA 2 0 0 N sz 13 [(0, .ref (b + p0)), (1, .int a1)] [] h r := by
  rw [fX6_isPlace_b13] at hF
  refine g_iconst (v := 1) hX dX6_isPlace_13 (by decide) ?_
  refine g_goto (tgt := 18) hX dX6_isPlace_14 (by decide) ?_
  obtain rfl := Option.some.inj hF
  exact g_zret hX dX6_isPlace_18 (by decide) hR
set_option maxRecDepth 100000 in
set_option maxHeartbeats 4000000 in
theorem kX6_isPlace {X : XT} {b N sz : Nat} {ok : Nat → Prop} {h : HH} {r : RR} {w : Int32} (hX : XOK X RX6 cX6_isPlace 2 2) (hM : N ≤ MA) (hW : WT KA lnA ok N r) (p0 : Nat) (a1 : Int32) (t0 : KA p0 = 6 ∧ ok p0) (hR : XR X b KA lnA MA (some FieldType.boolean) 0 0 N sz (some (.int w)) h r) (hF : fX6_isPlace h r p0 a1 = some w) : GX X b KA lnA MA 2 0 0 N sz 0 [(0, .ref (b + p0)), (1, .int a1)] [] h r := by
  rw [fX6_isPlace] at hF
  refine g_iload_n hX dX6_isPlace_0 (i := 1) rfl (j := 1) rfl ?_
  refine g_iconst (v := (-1)) hX dX6_isPlace_1 (by decide) ?_
  refine g_icmp_eq (tgt := 13) hX dX6_isPlace_2 (by decide) (fun c2 => ?_) (fun c2 => ?_)
  · have hF := ite_t hF c2
    refine g_sub (L' := [(0, .ref (b + p0)), (1, .int a1)]) [0, 1] rfl ?_
    exact kX6_isPlace_b13 hX hM hW p0 a1 t0 hR hF
  · have hF := ite_f hF c2
    refine g_aload_n hX dX6_isPlace_5 (i := 0) rfl (j := 0) rfl ?_
    refine g_iload_n hX dX6_isPlace_6 (i := 1) rfl (j := 1) rfl ?_
    obtain ⟨v7, e7, hF⟩ := bi_some hF
    refine g_callV (As := [.int a1]) (rest := []) (stk := [.int v7]) hX dX6_isPlace_7 (ctX6_isThing hM hW p0 a1 t0 e7) (by decide) (by decide) wm_X6_62 wi_X6_isThing ws_X6_isThing wz_X6 wc_X6_isThing hyX6_isThing rfl (ci := 6) rfl (by decide) t0.1 (hW.1 _ t0.2).1 (hW.1 _ t0.2).2 (Nat.le_of_ble_eq_true rfl) rfl rfl ?_ rfl rfl
    refine g_if_eq (tgt := 17) hX dX6_isPlace_10 (by decide) (fun c10 => ?_) (fun c10 => ?_)
    · have hF := ite_t hF c10
      refine g_iconst (v := 0) hX dX6_isPlace_17 (by decide) ?_
      obtain rfl := Option.some.inj hF
      exact g_zret hX dX6_isPlace_18 (by decide) hR
    · have hF := ite_f hF c10
      refine g_sub (L' := [(0, .ref (b + p0)), (1, .int a1)]) [0, 1] rfl ?_
      exact kX6_isPlace_b13 hX hM hW p0 a1 t0 hR hF
theorem ctX6_isPlace {b N sz : Nat} {ok : Nat → Prop} {h : HH} {r : RR} {w : Int32} (hM : N ≤ MA) (hW : WT KA lnA ok N r) (p0 : Nat) (a1 : Int32) (t0 : KA p0 = 6 ∧ ok p0) (hF : fX6_isPlace h r p0 a1 = some w) : CT yX6_isPlace cX6_isPlace 2 (some FieldType.boolean) 2 b KA lnA MA N sz [.ref (b + p0), .int a1] h r N sz (some (.int w)) h r 0 0 :=
  CT_of (by decide) rfl (Nat.le_of_ble_eq_true rfl) (by decide) trivial (fun X hX hR => kX6_isPlace hX hM hW p0 a1 t0 hR hF)
/-! X6_canHold -/
def fX6_canHold_b22 (h : HH) (r : RR) (p0 : Nat) (p1 : Nat) (a2 : Int32) : Option (Int32) := some (1)
def fX6_canHold_b26 (h : HH) (r : RR) (p0 : Nat) (p1 : Nat) (a2 : Int32) : Option (Int32) := some (0)
def fX6_canHold (h : HH) (r : RR) (p0 : Nat) (p1 : Nat) (a2 : Int32) : Option (Int32) := if a2 = (-1) then (fX6_canHold_b22 h r p0 p1 a2) else ((fX5_has h r p1 a2).bind (fun v7 => if v7 = 0 then (fX6_canHold_b26 h r p0 p1 a2) else (gd (inb a2 (lnA (r p0 1))) (if (h (r p0 1) (ix a2)) = 0 then (fX6_canHold_b26 h r p0 p1 a2) else (fX6_canHold_b22 h r p0 p1 a2)))))
set_option maxRecDepth 100000 in
set_option maxHeartbeats 4000000 in
theorem kX6_canHold_b22 {X : XT} {b N sz : Nat} {ok : Nat → Prop} {h : HH} {r : RR} {w : Int32} (hX : XOK X RX6 cX6_canHold 3 2) (hM : N ≤ MA) (hW : WT KA lnA ok N r) (p0 : Nat) (p1 : Nat) (a2 : Int32) (t0 : KA p0 = 6 ∧ ok p0) (t1 : KA p1 = 5 ∧ ok p1) (hR : XR X b KA lnA MA (some FieldType.boolean) 0 0 N sz (some (.int w)) h r) (hF : fX6_canHold_b22 h r p0 p1 a2 = some w) : GX X b KA lnA MA 3 0 0 N sz 22 [(0, .ref (b + p0)), (1, .ref (b + p1)), (2, .int a2)] [] h r := by
  rw [fX6_canHold_b22] at hF
  refine g_iconst (v := 1) hX dX6_canHold_22 (by decide) ?_
  refine g_goto (tgt := 27) hX dX6_canHold_23 (by decide) ?_
  obtain rfl := Option.some.inj hF
  exact g_zret hX dX6_canHold_27 (by decide) hR
set_option maxRecDepth 100000 in
set_option maxHeartbeats 4000000 in
theorem kX6_canHold_b26 {X : XT} {b N sz : Nat} {ok : Nat → Prop} {h : HH} {r : RR} {w : Int32} (hX : XOK X RX6 cX6_canHold 3 2) (hM : N ≤ MA) (hW : WT KA lnA ok N r) (p0 : Nat) (p1 : Nat) (a2 : Int32) (t0 : KA p0 = 6 ∧ ok p0) (t1 : KA p1 = 5 ∧ ok p1) (hR : XR X b KA lnA MA (some FieldType.boolean) 0 0 N sz (some (.int w)) h r) (hF : fX6_canHold_b26 h r p0 p1 a2 = some w) : GX X b KA lnA MA 3 0 0 N sz 26 [(0, .ref (b + p0)), (1, .ref (b + p1)), (2, .int a2)] [] h r := by
  rw [fX6_canHold_b26] at hF
  refine g_iconst (v := 0) hX dX6_canHold_26 (by decide) ?_
  obtain rfl := Option.some.inj hF
  exact g_zret hX dX6_canHold_27 (by decide) hR
set_option maxRecDepth 100000 in
set_option maxHeartbeats 4000000 in
theorem kX6_canHold {X : XT} {b N sz : Nat} {ok : Nat → Prop} {h : HH} {r : RR} {w : Int32} (hX : XOK X RX6 cX6_canHold 3 2) (hM : N ≤ MA) (hW : WT KA lnA ok N r) (p0 : Nat) (p1 : Nat) (a2 : Int32) (t0 : KA p0 = 6 ∧ ok p0) (t1 : KA p1 = 5 ∧ ok p1) (hR : XR X b KA lnA MA (some FieldType.boolean) 0 0 N sz (some (.int w)) h r) (hF : fX6_canHold h r p0 p1 a2 = some w) : GX X b KA lnA MA 3 0 0 N sz 0 [(0, .ref (b + p0)), (1, .ref (b + p1)), (2, .int a2)] [] h r := by
  rw [fX6_canHold] at hF
  refine g_iload_n hX dX6_canHold_0 (i := 2) rfl (j := 2) rfl ?_
  refine g_iconst (v := (-1)) hX dX6_canHold_1 (by decide) ?_
  refine g_icmp_eq (tgt := 22) hX dX6_canHold_2 (by decide) (fun c2 => ?_) (fun c2 => ?_)
  · have hF := ite_t hF c2
    refine g_sub (L' := [(0, .ref (b + p0)), (1, .ref (b + p1)), (2, .int a2)]) [0, 1, 2] rfl ?_
    exact kX6_canHold_b22 hX hM hW p0 p1 a2 t0 t1 hR hF
  · have hF := ite_f hF c2
    refine g_aload_n hX dX6_canHold_5 (i := 1) rfl (j := 1) rfl ?_
    refine g_iload_n hX dX6_canHold_6 (i := 2) rfl (j := 2) rfl ?_
    obtain ⟨v7, e7, hF⟩ := bi_some hF
    refine g_callV (As := [.int a2]) (rest := []) (stk := [.int v7]) hX dX6_canHold_7 (ctX5_has hM hW p1 a2 t1 e7) (by decide) (by decide) wm_X6_66 wi_X5_has ws_X5_has wz_X5 wc_X5_has hyX5_has rfl (ci := 5) rfl (by decide) t1.1 (hW.1 _ t1.2).1 (hW.1 _ t1.2).2 (Nat.le_of_ble_eq_true rfl) rfl rfl ?_ rfl rfl
    refine g_if_eq (tgt := 26) hX dX6_canHold_10 (by decide) (fun c10 => ?_) (fun c10 => ?_)
    · have hF := ite_t hF c10
      refine g_sub (L' := [(0, .ref (b + p0)), (1, .ref (b + p1)), (2, .int a2)]) [0, 1, 2] rfl ?_
      exact kX6_canHold_b26 hX hM hW p0 p1 a2 t0 t1 hR hF
    · have hF := ite_f hF c10
      refine g_aload_n hX dX6_canHold_13 (i := 0) rfl (j := 0) rfl ?_
      have tf14 := (tyF (k := 1) hW t0 (by decide) rfl (by decide) : KA (r p0 1) = 10 ∧ ok (r p0 1))
      refine gf_X6_15 hX dX6_canHold_14 (ty1 hW t0) (hW.1 _ tf14.2).1 ?_
      refine g_iload_n hX dX6_canHold_17 (i := 2) rfl (j := 2) rfl ?_
      obtain ⟨g18, hF⟩ := gd_some hF
      refine g_bald hX dX6_canHold_18 tf14.1 (hW.1 _ tf14.2).1 (hW.1 _ tf14.2).2 g18 ?_
      refine g_if_eq (tgt := 26) hX dX6_canHold_19 (by decide) (fun c19 => ?_) (fun c19 => ?_)
      · have hF := ite_t hF c19
        refine g_sub (L' := [(0, .ref (b + p0)), (1, .ref (b + p1)), (2, .int a2)]) [0, 1, 2] rfl ?_
        exact kX6_canHold_b26 hX hM hW p0 p1 a2 t0 t1 hR hF
      · have hF := ite_f hF c19
        refine g_sub (L' := [(0, .ref (b + p0)), (1, .ref (b + p1)), (2, .int a2)]) [0, 1, 2] rfl ?_
        exact kX6_canHold_b22 hX hM hW p0 p1 a2 t0 t1 hR hF
theorem ctX6_canHold {b N sz : Nat} {ok : Nat → Prop} {h : HH} {r : RR} {w : Int32} (hM : N ≤ MA) (hW : WT KA lnA ok N r) (p0 : Nat) (p1 : Nat) (a2 : Int32) (t0 : KA p0 = 6 ∧ ok p0) (t1 : KA p1 = 5 ∧ ok p1) (hF : fX6_canHold h r p0 p1 a2 = some w) : CT yX6_canHold cX6_canHold 3 (some FieldType.boolean) 2 b KA lnA MA N sz [.ref (b + p0), .ref (b + p1), .int a2] h r N sz (some (.int w)) h r 0 0 :=
  CT_of (by decide) rfl (Nat.le_of_ble_eq_true rfl) (by decide) trivial (fun X hX hR => kX6_canHold hX hM hW p0 p1 a2 t0 t1 hR hF)
/-! X7_isSide -/
def fX7_isSide_b13 (h : HH) (r : RR) (a0 : Int32) : Option (Int32) := some (0)
def fX7_isSide (h : HH) (r : RR) (a0 : Int32) : Option (Int32) := if a0 < 0 then (fX7_isSide_b13 h r a0) else (if 2 ≤ a0 then (fX7_isSide_b13 h r a0) else (some (1)))
set_option maxRecDepth 100000 in
set_option maxHeartbeats 4000000 in
theorem kX7_isSide_b13 {X : XT} {b N sz : Nat} {ok : Nat → Prop} {h : HH} {r : RR} {w : Int32} (hX : XOK X RX7 cX7_isSide 1 1) (hM : N ≤ MA) (hW : WT KA lnA ok N r) (a0 : Int32) (hR : XR X b KA lnA MA (some FieldType.boolean) 0 0 N sz (some (.int w)) h r) (hF : fX7_isSide_b13 h r a0 = some w) : GX X b KA lnA MA 1 0 0 N sz 13 [(0, .int a0)] [] h r := by
  rw [fX7_isSide_b13] at hF
  refine g_iconst (v := 0) hX dX7_isSide_13 (by decide) ?_
  obtain rfl := Option.some.inj hF
  exact g_zret hX dX7_isSide_14 (by decide) hR
set_option maxRecDepth 100000 in
set_option maxHeartbeats 4000000 in
theorem kX7_isSide {X : XT} {b N sz : Nat} {ok : Nat → Prop} {h : HH} {r : RR} {w : Int32} (hX : XOK X RX7 cX7_isSide 1 1) (hM : N ≤ MA) (hW : WT KA lnA ok N r) (a0 : Int32) (hR : XR X b KA lnA MA (some FieldType.boolean) 0 0 N sz (some (.int w)) h r) (hF : fX7_isSide h r a0 = some w) : GX X b KA lnA MA 1 0 0 N sz 0 [(0, .int a0)] [] h r := by
  rw [fX7_isSide] at hF
  refine g_iload_n hX dX7_isSide_0 (i := 0) rfl (j := 0) rfl ?_
  refine g_if_lt (tgt := 13) hX dX7_isSide_1 (by decide) (fun c1 => ?_) (fun c1 => ?_)
  · have hF := ite_t hF c1
    refine g_sub (L' := [(0, .int a0)]) [0] rfl ?_
    exact kX7_isSide_b13 hX hM hW a0 hR hF
  · have hF := ite_f hF c1
    refine g_iload_n hX dX7_isSide_4 (i := 0) rfl (j := 0) rfl ?_
    refine g_iconst (v := 2) hX dX7_isSide_5 (by decide) ?_
    refine g_icmp_ge (tgt := 13) hX dX7_isSide_6 (by decide) (fun c6 => ?_) (fun c6 => ?_)
    · have hF := ite_t hF c6
      refine g_sub (L' := [(0, .int a0)]) [0] rfl ?_
      exact kX7_isSide_b13 hX hM hW a0 hR hF
    · have hF := ite_f hF c6
      refine g_iconst (v := 1) hX dX7_isSide_9 (by decide) ?_
      refine g_goto (tgt := 14) hX dX7_isSide_10 (by decide) ?_
      obtain rfl := Option.some.inj hF
      exact g_zret hX dX7_isSide_14 (by decide) hR
theorem ctX7_isSide {b N sz : Nat} {ok : Nat → Prop} {h : HH} {r : RR} {w : Int32} (hM : N ≤ MA) (hW : WT KA lnA ok N r) (a0 : Int32) (hF : fX7_isSide h r a0 = some w) : CT yX7_isSide cX7_isSide 1 (some FieldType.boolean) 1 b KA lnA MA N sz [.int a0] h r N sz (some (.int w)) h r 0 0 :=
  CT_of (by decide) rfl (Nat.le_of_ble_eq_true rfl) (by decide) trivial (fun X hX hR => kX7_isSide hX hM hW a0 hR hF)
/-! X7_isName -/
def fX7_isName_b14 (h : HH) (r : RR) (a0 : Int32) : Option (Int32) := some (0)
def fX7_isName (h : HH) (r : RR) (a0 : Int32) : Option (Int32) := if a0 < 0 then (fX7_isName_b14 h r a0) else (if 50 ≤ a0 then (fX7_isName_b14 h r a0) else (some (1)))
set_option maxRecDepth 100000 in
set_option maxHeartbeats 4000000 in
theorem kX7_isName_b14 {X : XT} {b N sz : Nat} {ok : Nat → Prop} {h : HH} {r : RR} {w : Int32} (hX : XOK X RX7 cX7_isName 1 1) (hM : N ≤ MA) (hW : WT KA lnA ok N r) (a0 : Int32) (hR : XR X b KA lnA MA (some FieldType.boolean) 0 0 N sz (some (.int w)) h r) (hF : fX7_isName_b14 h r a0 = some w) : GX X b KA lnA MA 1 0 0 N sz 14 [(0, .int a0)] [] h r := by
  rw [fX7_isName_b14] at hF
  refine g_iconst (v := 0) hX dX7_isName_14 (by decide) ?_
  obtain rfl := Option.some.inj hF
  exact g_zret hX dX7_isName_15 (by decide) hR
set_option maxRecDepth 100000 in
set_option maxHeartbeats 4000000 in
theorem kX7_isName {X : XT} {b N sz : Nat} {ok : Nat → Prop} {h : HH} {r : RR} {w : Int32} (hX : XOK X RX7 cX7_isName 1 1) (hM : N ≤ MA) (hW : WT KA lnA ok N r) (a0 : Int32) (hR : XR X b KA lnA MA (some FieldType.boolean) 0 0 N sz (some (.int w)) h r) (hF : fX7_isName h r a0 = some w) : GX X b KA lnA MA 1 0 0 N sz 0 [(0, .int a0)] [] h r := by
  rw [fX7_isName] at hF
  refine g_iload_n hX dX7_isName_0 (i := 0) rfl (j := 0) rfl ?_
  refine g_if_lt (tgt := 14) hX dX7_isName_1 (by decide) (fun c1 => ?_) (fun c1 => ?_)
  · have hF := ite_t hF c1
    refine g_sub (L' := [(0, .int a0)]) [0] rfl ?_
    exact kX7_isName_b14 hX hM hW a0 hR hF
  · have hF := ite_f hF c1
    refine g_iload_n hX dX7_isName_4 (i := 0) rfl (j := 0) rfl ?_
    refine g_bipush (v := 50) hX dX7_isName_5 (by decide) ?_
    refine g_icmp_ge (tgt := 14) hX dX7_isName_7 (by decide) (fun c7 => ?_) (fun c7 => ?_)
    · have hF := ite_t hF c7
      refine g_sub (L' := [(0, .int a0)]) [0] rfl ?_
      exact kX7_isName_b14 hX hM hW a0 hR hF
    · have hF := ite_f hF c7
      refine g_iconst (v := 1) hX dX7_isName_10 (by decide) ?_
      refine g_goto (tgt := 15) hX dX7_isName_11 (by decide) ?_
      obtain rfl := Option.some.inj hF
      exact g_zret hX dX7_isName_15 (by decide) hR
theorem ctX7_isName {b N sz : Nat} {ok : Nat → Prop} {h : HH} {r : RR} {w : Int32} (hM : N ≤ MA) (hW : WT KA lnA ok N r) (a0 : Int32) (hF : fX7_isName h r a0 = some w) : CT yX7_isName cX7_isName 1 (some FieldType.boolean) 1 b KA lnA MA N sz [.int a0] h r N sz (some (.int w)) h r 0 0 :=
  CT_of (by decide) rfl (Nat.le_of_ble_eq_true rfl) (by decide) trivial (fun X hX hR => kX7_isName hX hM hW a0 hR hF)
/-! X6_refuse -/
def fX6_refuse (h : HH) (r : RR) (p0 : Nat) (a1 : Int32) (a2 : Int32) : Option (Int32 × HH) := lt (up h p0 6 a1) (fun h2 => lt (up h2 p0 7 a2) (fun h7 => lt (up h7 p0 8 0) (fun h12 => some (a1, h12))))
set_option maxRecDepth 100000 in
set_option maxHeartbeats 4000000 in
theorem kX6_refuse {X : XT} {b N sz : Nat} {ok : Nat → Prop} {h : HH} {r : RR} {w : Int32 × HH} (hX : XOK X RX6 cX6_refuse 3 1) (hM : N ≤ MA) (hW : WT KA lnA ok N r) (p0 : Nat) (a1 : Int32) (a2 : Int32) (t0 : KA p0 = 6 ∧ ok p0) (hR : XR X b KA lnA MA (some FieldType.int) 0 0 N sz (some (.int w.1)) w.2 r) (hF : fX6_refuse h r p0 a1 a2 = some w) : GX X b KA lnA MA 3 0 0 N sz 0 [(0, .ref (b + p0)), (1, .int a1), (2, .int a2)] [] h r := by
  rw [fX6_refuse] at hF
  refine g_aload_n hX dX6_refuse_0 (i := 0) rfl (j := 0) rfl ?_
  refine g_iload_n hX dX6_refuse_1 (i := 1) rfl (j := 1) rfl ?_
  obtain ⟨h2, e2, hF⟩ := lt_some hF
  refine pf_X6_37 hX dX6_refuse_2 (ty1 hW t0) hM e2 ?_
  refine g_aload_n hX dX6_refuse_5 (i := 0) rfl (j := 0) rfl ?_
  refine g_iload_n hX dX6_refuse_6 (i := 2) rfl (j := 2) rfl ?_
  obtain ⟨h7, e7, hF⟩ := lt_some hF
  refine pf_X6_40 hX dX6_refuse_7 (ty1 hW t0) hM e7 ?_
  refine g_aload_n hX dX6_refuse_10 (i := 0) rfl (j := 0) rfl ?_
  refine g_iconst (v := 0) hX dX6_refuse_11 (by decide) ?_
  obtain ⟨h12, e12, hF⟩ := lt_some hF
  refine pf_X6_43 hX dX6_refuse_12 (ty1 hW t0) hM e12 ?_
  refine g_iload_n hX dX6_refuse_15 (i := 1) rfl (j := 1) rfl ?_
  obtain rfl := Option.some.inj hF
  exact g_iret hX dX6_refuse_16 hR
theorem ctX6_refuse {b N sz : Nat} {ok : Nat → Prop} {h : HH} {r : RR} {w : Int32 × HH} (hM : N ≤ MA) (hW : WT KA lnA ok N r) (p0 : Nat) (a1 : Int32) (a2 : Int32) (t0 : KA p0 = 6 ∧ ok p0) (hF : fX6_refuse h r p0 a1 a2 = some w) : CT yX6_refuse cX6_refuse 3 (some FieldType.int) 1 b KA lnA MA N sz [.ref (b + p0), .int a1, .int a2] h r N sz (some (.int w.1)) w.2 r 0 0 :=
  CT_of (by decide) rfl (Nat.le_of_ble_eq_true rfl) (by decide) trivial (fun X hX hR => kX6_refuse hX hM hW p0 a1 a2 t0 hR hF)
/-! X6_allow -/
def fX6_allow (h : HH) (r : RR) (p0 : Nat) (a1 : Int32) : Option (Int32 × HH) := lt (up h p0 6 0) (fun h2 => lt (up h2 p0 7 (-1)) (fun h7 => lt (up h7 p0 8 0) (fun h12 => some (a1, h12))))
set_option maxRecDepth 100000 in
set_option maxHeartbeats 4000000 in
theorem kX6_allow {X : XT} {b N sz : Nat} {ok : Nat → Prop} {h : HH} {r : RR} {w : Int32 × HH} (hX : XOK X RX6 cX6_allow 2 1) (hM : N ≤ MA) (hW : WT KA lnA ok N r) (p0 : Nat) (a1 : Int32) (t0 : KA p0 = 6 ∧ ok p0) (hR : XR X b KA lnA MA (some FieldType.int) 0 0 N sz (some (.int w.1)) w.2 r) (hF : fX6_allow h r p0 a1 = some w) : GX X b KA lnA MA 2 0 0 N sz 0 [(0, .ref (b + p0)), (1, .int a1)] [] h r := by
  rw [fX6_allow] at hF
  refine g_aload_n hX dX6_allow_0 (i := 0) rfl (j := 0) rfl ?_
  refine g_iconst (v := 0) hX dX6_allow_1 (by decide) ?_
  obtain ⟨h2, e2, hF⟩ := lt_some hF
  refine pf_X6_37 hX dX6_allow_2 (ty1 hW t0) hM e2 ?_
  refine g_aload_n hX dX6_allow_5 (i := 0) rfl (j := 0) rfl ?_
  refine g_iconst (v := (-1)) hX dX6_allow_6 (by decide) ?_
  obtain ⟨h7, e7, hF⟩ := lt_some hF
  refine pf_X6_40 hX dX6_allow_7 (ty1 hW t0) hM e7 ?_
  refine g_aload_n hX dX6_allow_10 (i := 0) rfl (j := 0) rfl ?_
  refine g_iconst (v := 0) hX dX6_allow_11 (by decide) ?_
  obtain ⟨h12, e12, hF⟩ := lt_some hF
  refine pf_X6_43 hX dX6_allow_12 (ty1 hW t0) hM e12 ?_
  refine g_iload_n hX dX6_allow_15 (i := 1) rfl (j := 1) rfl ?_
  obtain rfl := Option.some.inj hF
  exact g_iret hX dX6_allow_16 hR
theorem ctX6_allow {b N sz : Nat} {ok : Nat → Prop} {h : HH} {r : RR} {w : Int32 × HH} (hM : N ≤ MA) (hW : WT KA lnA ok N r) (p0 : Nat) (a1 : Int32) (t0 : KA p0 = 6 ∧ ok p0) (hF : fX6_allow h r p0 a1 = some w) : CT yX6_allow cX6_allow 2 (some FieldType.int) 1 b KA lnA MA N sz [.ref (b + p0), .int a1] h r N sz (some (.int w.1)) w.2 r 0 0 :=
  CT_of (by decide) rfl (Nat.le_of_ble_eq_true rfl) (by decide) trivial (fun X hX hR => kX6_allow hX hM hW p0 a1 t0 hR hF)
/-! X6_create -/
def fX6_create_b36 (r : RR) (p0 : Nat) (a1 : Int32) (a2 : Int32) (a3 : Int32) (a4 : Int32) (h : HH) : Option (Int32 × HH) := bi2 (fX6_refuse h r p0 (-2) (-1)) (fun v40 h40 => some (v40, h40))
def fX6_create_b144 (r : RR) (p0 : Nat) (a1 : Int32) (a2 : Int32) (a3 : Int32) (a4 : Int32) (h : HH) (u0 : Nat) (s1 : Int32) (s2 : Int32) (q5 : Nat) (x7 : Int32) : Option (Int32 × HH) := gd (inb s1 (lnA u0)) (lt (up h u0 (ix s1) (zn s2)) (fun h144 => (fX5_put h144 r q5 x7 a2 a3 (mx a4 0)).bind (fun h157 => bi2 (fX6_allow h157 r p0 x7) (fun v163 h163 => some (v163, h163)))))
def fX6_create (h : HH) (r : RR) (p0 : Nat) (a1 : Int32) (a2 : Int32) (a3 : Int32) (a4 : Int32) : Option (Int32 × HH) := (fX7_isSide h r a1).bind (fun v1 => if v1 = 0 then (fX6_create_b36 r p0 a1 a2 a3 a4 h) else ((fX6_isPlace h r p0 a2).bind (fun v9 => if v9 = 0 then (fX6_create_b36 r p0 a1 a2 a3 a4 h) else ((fX7_isName h r a3).bind (fun v16 => if v16 = 0 then (fX6_create_b36 r p0 a1 a2 a3 a4 h) else (if a4 < (-1) then (fX6_create_b36 r p0 a1 a2 a3 a4 h) else (if a4 < 1000 then (gd (inb a1 (lnA (r p0 2))) ((fX6_canHold h r p0 (r (r p0 2) (ix a1)) a2).bind (fun v56 => if ¬ v56 = 0 then (if (h p0 0) < 30 then ((fX5_standing h r (r (r p0 2) (ix a1)) a2 a3).bind (fun v91 => if v91 = (-1) then (lt (h p0 0) (fun y115 => lt (up h p0 0 ((h p0 0) + 1)) (fun h124 => if ¬ a4 = (-1) then (fX6_create_b144 r p0 a1 a2 a3 a4 h124 (r p0 1) y115 0 (r (r p0 2) (ix a1)) y115) else (fX6_create_b144 r p0 a1 a2 a3 a4 h124 (r p0 1) y115 1 (r (r p0 2) (ix a1)) y115)))) else (bi2 (fX6_refuse h r p0 (-6) v91) (fun v107 h107 => some (v107, h107))))) else (bi2 (fX6_refuse h r p0 (-4) (-1)) (fun v83 h83 => some (v83, h83)))) else (bi2 (fX6_refuse h r p0 (-3) a2) (fun v66 h66 => some (v66, h66)))))) else (fX6_create_b36 r p0 a1 a2 a3 a4 h))))))))
set_option maxRecDepth 100000 in
set_option maxHeartbeats 4000000 in
theorem kX6_create_b36 {X : XT} {b N sz : Nat} {ok : Nat → Prop} {r : RR} {w : Int32 × HH} (hX : XOK X RX6 cX6_create 8 3) (hM : N ≤ MA) (hW : WT KA lnA ok N r) (p0 : Nat) (a1 : Int32) (a2 : Int32) (a3 : Int32) (a4 : Int32) (t0 : KA p0 = 6 ∧ ok p0) (hR : XR X b KA lnA MA (some FieldType.int) 0 0 N sz (some (.int w.1)) w.2 r) (h : HH) (hF : fX6_create_b36 r p0 a1 a2 a3 a4 h = some w) : GX X b KA lnA MA 8 0 0 N sz 36 [(0, .ref (b + p0)), (1, .int a1), (2, .int a2), (3, .int a3), (4, .int a4)] [] h r := by
  rw [fX6_create_b36] at hF
  refine g_aload_n hX dX6_create_36 (i := 0) rfl (j := 0) rfl ?_
  refine g_bipush (v := (-2)) hX dX6_create_37 (by decide) ?_
  refine g_iconst (v := (-1)) hX dX6_create_39 (by decide) ?_
  obtain ⟨v40, h40, e40, hF⟩ := bi2_some hF
  refine g_callV (As := [.int (-2), .int (-1)]) (rest := []) (stk := [.int v40]) hX dX6_create_40 (ctX6_refuse hM hW p0 (-2) (-1) t0 e40) (by decide) (by decide) wm_X6_78 wi_X6_refuse ws_X6_refuse wz_X6 wc_X6_refuse hyX6_refuse rfl (ci := 6) rfl (by decide) t0.1 (hW.1 _ t0.2).1 (hW.1 _ t0.2).2 (Nat.le_of_ble_eq_true rfl) rfl rfl ?_ rfl rfl
  obtain rfl := Option.some.inj hF
  exact g_iret hX dX6_create_43 hR
set_option maxRecDepth 100000 in
set_option maxHeartbeats 4000000 in
theorem kX6_create_b144 {X : XT} {b N sz : Nat} {ok : Nat → Prop} {r : RR} {w : Int32 × HH} (hX : XOK X RX6 cX6_create 8 3) (hM : N ≤ MA) (hW : WT KA lnA ok N r) (p0 : Nat) (a1 : Int32) (a2 : Int32) (a3 : Int32) (a4 : Int32) (t0 : KA p0 = 6 ∧ ok p0) (hR : XR X b KA lnA MA (some FieldType.int) 0 0 N sz (some (.int w.1)) w.2 r) (h : HH) (u0 : Nat) (s1 : Int32) (s2 : Int32) (q5 : Nat) (x7 : Int32) (ts0 : KA u0 = 10 ∧ ok u0) (t5 : KA q5 = 5 ∧ ok q5) (hF : fX6_create_b144 r p0 a1 a2 a3 a4 h u0 s1 s2 q5 x7 = some w) : GX X b KA lnA MA 8 0 0 N sz 144 [(0, .ref (b + p0)), (1, .int a1), (2, .int a2), (3, .int a3), (4, .int a4), (5, .ref (b + q5)), (7, .int x7)] [.int s2, .int s1, .ref (b + u0)] h r := by
  rw [fX6_create_b144] at hF
  obtain ⟨g144, hF⟩ := gd_some hF
  obtain ⟨h144, e144, hF⟩ := lt_some hF
  refine g_bast hX dX6_create_144 ts0.1 (hW.1 _ ts0.2).1 (hW.1 _ ts0.2).2 hM g144 e144 ?_
  refine g_aload hX dX6_create_145 (j := 5) rfl ?_
  refine g_iload hX dX6_create_147 (j := 6) rfl ?_
  refine g_iload_n hX dX6_create_149 (i := 2) rfl (j := 2) rfl ?_
  refine g_iload_n hX dX6_create_150 (i := 3) rfl (j := 3) rfl ?_
  refine g_iload hX dX6_create_151 (j := 4) rfl ?_
  refine g_iconst (v := 0) hX dX6_create_153 (by decide) ?_
  refine g_max hX dX6_create_154 wm_X6_89 (by decide) (Nat.le_of_ble_eq_true rfl) ?_ rfl rfl
  obtain ⟨h157, e157, hF⟩ := bi_some hF
  refine g_callV (As := [.int x7, .int a2, .int a3, .int (mx a4 0)]) (rest := []) (stk := []) hX dX6_create_157 (ctX5_put hM hW q5 x7 a2 a3 (mx a4 0) t5 e157) (by decide) (by decide) wm_X6_94 wi_X5_put ws_X5_put wz_X5 wc_X5_put hyX5_put rfl (ci := 5) rfl (by decide) t5.1 (hW.1 _ t5.2).1 (hW.1 _ t5.2).2 (Nat.le_of_ble_eq_true rfl) rfl rfl ?_ rfl rfl
  refine g_aload_n hX dX6_create_160 (i := 0) rfl (j := 0) rfl ?_
  refine g_iload hX dX6_create_161 (j := 6) rfl ?_
  obtain ⟨v163, h163, e163, hF⟩ := bi2_some hF
  refine g_callV (As := [.int x7]) (rest := []) (stk := [.int v163]) hX dX6_create_163 (ctX6_allow hM hW p0 x7 t0 e163) (by decide) (by decide) wm_X6_98 wi_X6_allow ws_X6_allow wz_X6 wc_X6_allow hyX6_allow rfl (ci := 6) rfl (by decide) t0.1 (hW.1 _ t0.2).1 (hW.1 _ t0.2).2 (Nat.le_of_ble_eq_true rfl) rfl rfl ?_ rfl rfl
  obtain rfl := Option.some.inj hF
  exact g_iret hX dX6_create_166 hR
set_option maxRecDepth 100000 in
set_option maxHeartbeats 4000000 in
theorem kX6_create {X : XT} {b N sz : Nat} {ok : Nat → Prop} {h : HH} {r : RR} {w : Int32 × HH} (hX : XOK X RX6 cX6_create 8 3) (hM : N ≤ MA) (hW : WT KA lnA ok N r) (p0 : Nat) (a1 : Int32) (a2 : Int32) (a3 : Int32) (a4 : Int32) (t0 : KA p0 = 6 ∧ ok p0) (hR : XR X b KA lnA MA (some FieldType.int) 0 0 N sz (some (.int w.1)) w.2 r) (hF : fX6_create h r p0 a1 a2 a3 a4 = some w) : GX X b KA lnA MA 8 0 0 N sz 0 [(0, .ref (b + p0)), (1, .int a1), (2, .int a2), (3, .int a3), (4, .int a4)] [] h r := by
  rw [fX6_create] at hF
  refine g_iload_n hX dX6_create_0 (i := 1) rfl (j := 1) rfl ?_
  obtain ⟨v1, e1, hF⟩ := bi_some hF
  refine g_callSN (As := [.int a1]) (rest := []) (stk := [.int v1]) hX dX6_create_1 (ctX7_isSide hM hW a1 e1) (by decide) (by decide) wNn_X6_69 wt_X7_isSide wz_X7 wc_X7_isSide hyX7_isSide.2 rfl (Nat.le_of_ble_eq_true rfl) rfl rfl ?_ rfl rfl
  refine g_if_eq (tgt := 36) hX dX6_create_4 (by decide) (fun c4 => ?_) (fun c4 => ?_)
  · have hF := ite_t hF c4
    refine g_sub (L' := [(0, .ref (b + p0)), (1, .int a1), (2, .int a2), (3, .int a3), (4, .int a4)]) [0, 1, 2, 3, 4] rfl ?_
    exact kX6_create_b36 hX hM hW p0 a1 a2 a3 a4 t0 hR h hF
  · have hF := ite_f hF c4
    refine g_aload_n hX dX6_create_7 (i := 0) rfl (j := 0) rfl ?_
    refine g_iload_n hX dX6_create_8 (i := 2) rfl (j := 2) rfl ?_
    obtain ⟨v9, e9, hF⟩ := bi_some hF
    refine g_callV (As := [.int a2]) (rest := []) (stk := [.int v9]) hX dX6_create_9 (ctX6_isPlace hM hW p0 a2 t0 e9) (by decide) (by decide) wm_X6_72 wi_X6_isPlace ws_X6_isPlace wz_X6 wc_X6_isPlace hyX6_isPlace rfl (ci := 6) rfl (by decide) t0.1 (hW.1 _ t0.2).1 (hW.1 _ t0.2).2 (Nat.le_of_ble_eq_true rfl) rfl rfl ?_ rfl rfl
    refine g_if_eq (tgt := 36) hX dX6_create_12 (by decide) (fun c12 => ?_) (fun c12 => ?_)
    · have hF := ite_t hF c12
      refine g_sub (L' := [(0, .ref (b + p0)), (1, .int a1), (2, .int a2), (3, .int a3), (4, .int a4)]) [0, 1, 2, 3, 4] rfl ?_
      exact kX6_create_b36 hX hM hW p0 a1 a2 a3 a4 t0 hR h hF
    · have hF := ite_f hF c12
      refine g_iload_n hX dX6_create_15 (i := 3) rfl (j := 3) rfl ?_
      obtain ⟨v16, e16, hF⟩ := bi_some hF
      refine g_callSN (As := [.int a3]) (rest := []) (stk := [.int v16]) hX dX6_create_16 (ctX7_isName hM hW a3 e16) (by decide) (by decide) wNn_X6_75 wt_X7_isName wz_X7 wc_X7_isName hyX7_isName.2 rfl (Nat.le_of_ble_eq_true rfl) rfl rfl ?_ rfl rfl
      refine g_if_eq (tgt := 36) hX dX6_create_19 (by decide) (fun c19 => ?_) (fun c19 => ?_)
      · have hF := ite_t hF c19
        refine g_sub (L' := [(0, .ref (b + p0)), (1, .int a1), (2, .int a2), (3, .int a3), (4, .int a4)]) [0, 1, 2, 3, 4] rfl ?_
        exact kX6_create_b36 hX hM hW p0 a1 a2 a3 a4 t0 hR h hF
      · have hF := ite_f hF c19
        refine g_iload hX dX6_create_22 (j := 4) rfl ?_
        refine g_iconst (v := (-1)) hX dX6_create_24 (by decide) ?_
        refine g_icmp_lt (tgt := 36) hX dX6_create_25 (by decide) (fun c25 => ?_) (fun c25 => ?_)
        · have hF := ite_t hF c25
          refine g_sub (L' := [(0, .ref (b + p0)), (1, .int a1), (2, .int a2), (3, .int a3), (4, .int a4)]) [0, 1, 2, 3, 4] rfl ?_
          exact kX6_create_b36 hX hM hW p0 a1 a2 a3 a4 t0 hR h hF
        · have hF := ite_f hF c25
          refine g_iload hX dX6_create_28 (j := 4) rfl ?_
          refine g_sipush (v := 1000) hX dX6_create_30 (by decide) ?_
          refine g_icmp_lt (tgt := 44) hX dX6_create_33 (by decide) (fun c33 => ?_) (fun c33 => ?_)
          · have hF := ite_t hF c33
            refine g_aload_n hX dX6_create_44 (i := 0) rfl (j := 0) rfl ?_
            have tf45 := (tyF (k := 2) hW t0 (by decide) rfl (by decide) : KA (r p0 2) = 13 ∧ ok (r p0 2))
            refine gf_X6_21 hX dX6_create_45 (ty1 hW t0) (hW.1 _ tf45.2).1 ?_
            refine g_iload_n hX dX6_create_48 (i := 1) rfl (j := 1) rfl ?_
            obtain ⟨g49, hF⟩ := gd_some hF
            have ta49 : KA (r (r p0 2) (ix a1)) = 5 ∧ ok (r (r p0 2) (ix a1)) := tyA hW tf45 (by decide) rfl (by decide) g49
            refine g_aald hX dX6_create_49 tf45.1 (by decide) (by decide) (hW.1 _ tf45.2).1 (hW.1 _ tf45.2).2 g49 (hW.1 _ ta49.2).1 ?_
            refine g_astore (L' := [(5, .ref (b + (r (r p0 2) (ix a1)))), (0, .ref (b + p0)), (1, .int a1), (2, .int a2), (3, .int a3), (4, .int a4)]) hX dX6_create_50 (by decide) rfl ?_
            refine g_aload_n hX dX6_create_52 (i := 0) rfl (j := 1) rfl ?_
            refine g_aload hX dX6_create_53 (j := 0) rfl ?_
            refine g_iload_n hX dX6_create_55 (i := 2) rfl (j := 3) rfl ?_
            obtain ⟨v56, e56, hF⟩ := bi_some hF
            refine g_callV (As := [.ref (b + (r (r p0 2) (ix a1))), .int a2]) (rest := []) (stk := [.int v56]) hX dX6_create_56 (ctX6_canHold hM hW p0 (r (r p0 2) (ix a1)) a2 t0 ta49 e56) (by decide) (by decide) wm_X6_82 wi_X6_canHold ws_X6_canHold wz_X6 wc_X6_canHold hyX6_canHold rfl (ci := 6) rfl (by decide) t0.1 (hW.1 _ t0.2).1 (hW.1 _ t0.2).2 (Nat.le_of_ble_eq_true rfl) rfl rfl ?_ rfl rfl
            refine g_if_ne (tgt := 70) hX dX6_create_59 (by decide) (fun c59 => ?_) (fun c59 => ?_)
            · have hF := ite_t hF c59
              refine g_aload_n hX dX6_create_70 (i := 0) rfl (j := 1) rfl ?_
              refine gf_X6_9 hX dX6_create_71 (ty1 hW t0) ?_
              refine g_bipush (v := 30) hX dX6_create_74 (by decide) ?_
              refine g_icmp_lt (tgt := 87) hX dX6_create_76 (by decide) (fun c76 => ?_) (fun c76 => ?_)
              · have hF := ite_t hF c76
                refine g_aload hX dX6_create_87 (j := 0) rfl ?_
                refine g_iload_n hX dX6_create_89 (i := 2) rfl (j := 3) rfl ?_
                refine g_iload_n hX dX6_create_90 (i := 3) rfl (j := 4) rfl ?_
                obtain ⟨v91, e91, hF⟩ := bi_some hF
                refine g_callV (As := [.int a2, .int a3]) (rest := []) (stk := [.int v91]) hX dX6_create_91 (ctX5_standing hM hW (r (r p0 2) (ix a1)) a2 a3 ta49 e91) (by decide) (by decide) wm_X6_86 wi_X5_standing ws_X5_standing wz_X5 wc_X5_standing hyX5_standing rfl (ci := 5) rfl (by decide) ta49.1 (hW.1 _ ta49.2).1 (hW.1 _ ta49.2).2 (Nat.le_of_ble_eq_true rfl) rfl rfl ?_ rfl rfl
                refine g_istore (L' := [(6, .int v91), (5, .ref (b + (r (r p0 2) (ix a1)))), (0, .ref (b + p0)), (1, .int a1), (2, .int a2), (3, .int a3), (4, .int a4)]) hX dX6_create_94 (by decide) rfl ?_
                refine g_iload hX dX6_create_96 (j := 0) rfl ?_
                refine g_iconst (v := (-1)) hX dX6_create_98 (by decide) ?_
                refine g_icmp_eq (tgt := 111) hX dX6_create_99 (by decide) (fun c99 => ?_) (fun c99 => ?_)
                · have hF := ite_t hF c99
                  refine g_aload_n hX dX6_create_111 (i := 0) rfl (j := 2) rfl ?_
                  refine gf_X6_9 hX dX6_create_112 (ty1 hW t0) ?_
                  obtain ⟨y115, e115, hF⟩ := lt_some hF
                  refine g_topi e115 ?_
                  refine g_istore (L' := [(7, .int y115), (6, .int v91), (5, .ref (b + (r (r p0 2) (ix a1)))), (0, .ref (b + p0)), (1, .int a1), (2, .int a2), (3, .int a3), (4, .int a4)]) hX dX6_create_115 (by decide) rfl ?_
                  refine g_aload_n hX dX6_create_117 (i := 0) rfl (j := 3) rfl ?_
                  refine g_dup hX dX6_create_118 rfl ?_
                  refine gf_X6_9 hX dX6_create_119 (ty1 hW t0) ?_
                  refine g_iconst (v := 1) hX dX6_create_122 (by decide) ?_
                  refine g_iadd hX dX6_create_123 ?_
                  obtain ⟨h124, e124, hF⟩ := lt_some hF
                  refine pf_X6_9 hX dX6_create_124 (ty1 hW t0) hM e124 ?_
                  refine g_aload_n hX dX6_create_127 (i := 0) rfl (j := 3) rfl ?_
                  have tf128 := (tyF (k := 1) hW t0 (by decide) rfl (by decide) : KA (r p0 1) = 10 ∧ ok (r p0 1))
                  refine gf_X6_15 hX dX6_create_128 (ty1 hW t0) (hW.1 _ tf128.2).1 ?_
                  refine g_iload hX dX6_create_131 (j := 0) rfl ?_
                  refine g_iload hX dX6_create_133 (j := 7) rfl ?_
                  refine g_iconst (v := (-1)) hX dX6_create_135 (by decide) ?_
                  refine g_icmp_ne (tgt := 143) hX dX6_create_136 (by decide) (fun c136 => ?_) (fun c136 => ?_)
                  · have hF := ite_t hF c136
                    refine g_iconst (v := 0) hX dX6_create_143 (by decide) ?_
                    refine g_sub (L' := [(0, .ref (b + p0)), (1, .int a1), (2, .int a2), (3, .int a3), (4, .int a4), (5, .ref (b + (r (r p0 2) (ix a1)))), (7, .int y115)]) [3, 4, 5, 6, 7, 2, 0] rfl ?_
                    exact kX6_create_b144 hX hM hW p0 a1 a2 a3 a4 t0 hR h124 (r p0 1) y115 0 (r (r p0 2) (ix a1)) y115 tf128 ta49 hF
                  · have hF := ite_f hF (fun z => z c136)
                    refine g_iconst (v := 1) hX dX6_create_139 (by decide) ?_
                    refine g_goto (tgt := 144) hX dX6_create_140 (by decide) ?_
                    refine g_sub (L' := [(0, .ref (b + p0)), (1, .int a1), (2, .int a2), (3, .int a3), (4, .int a4), (5, .ref (b + (r (r p0 2) (ix a1)))), (7, .int y115)]) [3, 4, 5, 6, 7, 2, 0] rfl ?_
                    exact kX6_create_b144 hX hM hW p0 a1 a2 a3 a4 t0 hR h124 (r p0 1) y115 1 (r (r p0 2) (ix a1)) y115 tf128 ta49 hF
                · have hF := ite_f hF c99
                  refine g_aload_n hX dX6_create_102 (i := 0) rfl (j := 2) rfl ?_
                  refine g_bipush (v := (-6)) hX dX6_create_103 (by decide) ?_
                  refine g_iload hX dX6_create_105 (j := 0) rfl ?_
                  obtain ⟨v107, h107, e107, hF⟩ := bi2_some hF
                  refine g_callV (As := [.int (-6), .int v91]) (rest := []) (stk := [.int v107]) hX dX6_create_107 (ctX6_refuse hM hW p0 (-6) v91 t0 e107) (by decide) (by decide) wm_X6_78 wi_X6_refuse ws_X6_refuse wz_X6 wc_X6_refuse hyX6_refuse rfl (ci := 6) rfl (by decide) t0.1 (hW.1 _ t0.2).1 (hW.1 _ t0.2).2 (Nat.le_of_ble_eq_true rfl) rfl rfl ?_ rfl rfl
                  obtain rfl := Option.some.inj hF
                  exact g_iret hX dX6_create_110 hR
              · have hF := ite_f hF c76
                refine g_aload_n hX dX6_create_79 (i := 0) rfl (j := 1) rfl ?_
                refine g_bipush (v := (-4)) hX dX6_create_80 (by decide) ?_
                refine g_iconst (v := (-1)) hX dX6_create_82 (by decide) ?_
                obtain ⟨v83, h83, e83, hF⟩ := bi2_some hF
                refine g_callV (As := [.int (-4), .int (-1)]) (rest := []) (stk := [.int v83]) hX dX6_create_83 (ctX6_refuse hM hW p0 (-4) (-1) t0 e83) (by decide) (by decide) wm_X6_78 wi_X6_refuse ws_X6_refuse wz_X6 wc_X6_refuse hyX6_refuse rfl (ci := 6) rfl (by decide) t0.1 (hW.1 _ t0.2).1 (hW.1 _ t0.2).2 (Nat.le_of_ble_eq_true rfl) rfl rfl ?_ rfl rfl
                obtain rfl := Option.some.inj hF
                exact g_iret hX dX6_create_86 hR
            · have hF := ite_f hF (fun z => z c59)
              refine g_aload_n hX dX6_create_62 (i := 0) rfl (j := 1) rfl ?_
              refine g_bipush (v := (-3)) hX dX6_create_63 (by decide) ?_
              refine g_iload_n hX dX6_create_65 (i := 2) rfl (j := 3) rfl ?_
              obtain ⟨v66, h66, e66, hF⟩ := bi2_some hF
              refine g_callV (As := [.int (-3), .int a2]) (rest := []) (stk := [.int v66]) hX dX6_create_66 (ctX6_refuse hM hW p0 (-3) a2 t0 e66) (by decide) (by decide) wm_X6_78 wi_X6_refuse ws_X6_refuse wz_X6 wc_X6_refuse hyX6_refuse rfl (ci := 6) rfl (by decide) t0.1 (hW.1 _ t0.2).1 (hW.1 _ t0.2).2 (Nat.le_of_ble_eq_true rfl) rfl rfl ?_ rfl rfl
              obtain rfl := Option.some.inj hF
              exact g_iret hX dX6_create_69 hR
          · have hF := ite_f hF c33
            refine g_sub (L' := [(0, .ref (b + p0)), (1, .int a1), (2, .int a2), (3, .int a3), (4, .int a4)]) [0, 1, 2, 3, 4] rfl ?_
            exact kX6_create_b36 hX hM hW p0 a1 a2 a3 a4 t0 hR h hF
theorem ctX6_create {b N sz : Nat} {ok : Nat → Prop} {h : HH} {r : RR} {w : Int32 × HH} (hM : N ≤ MA) (hW : WT KA lnA ok N r) (p0 : Nat) (a1 : Int32) (a2 : Int32) (a3 : Int32) (a4 : Int32) (t0 : KA p0 = 6 ∧ ok p0) (hF : fX6_create h r p0 a1 a2 a3 a4 = some w) : CT yX6_create cX6_create 8 (some FieldType.int) 3 b KA lnA MA N sz [.ref (b + p0), .int a1, .int a2, .int a3, .int a4] h r N sz (some (.int w.1)) w.2 r 0 0 :=
  CT_of (by decide) rfl (Nat.le_of_ble_eq_true rfl) (by decide) trivial (fun X hX hR => kX6_create hX hM hW p0 a1 a2 a3 a4 t0 hR hF)
/-! X6_rewrite -/
def fX6_rewrite_b26 (r : RR) (p0 : Nat) (a1 : Int32) (a2 : Int32) (a3 : Int32) (h : HH) : Option (Int32 × HH) := bi2 (fX6_refuse h r p0 (-2) (-1)) (fun v30 h30 => some (v30, h30))
def fX6_rewrite (h : HH) (r : RR) (p0 : Nat) (a1 : Int32) (a2 : Int32) (a3 : Int32) : Option (Int32 × HH) := (fX7_isSide h r a1).bind (fun v1 => if v1 = 0 then (fX6_rewrite_b26 r p0 a1 a2 a3 h) else ((fX6_isThing h r p0 a2).bind (fun v9 => if v9 = 0 then (fX6_rewrite_b26 r p0 a1 a2 a3 h) else (if a3 < 0 then (fX6_rewrite_b26 r p0 a1 a2 a3 h) else (if a3 < 1000 then (gd (inb a1 (lnA (r p0 2))) ((fX5_has h r (r (r p0 2) (ix a1)) a2).bind (fun v45 => if ¬ v45 = 0 then (gd (inb a2 (lnA (r p0 1))) (if (h (r p0 1) (ix a2)) = 0 then (gd (inb a2 (lnA (r (r (r p0 2) (ix a1)) 3))) (lt (h (r (r (r p0 2) (ix a1)) 3) (ix a2)) (fun y83 => gd (inb a2 (lnA (r (r (r p0 2) (ix a1)) 3))) (lt (up h (r (r (r p0 2) (ix a1)) 3) (ix a2) a3) (fun h92 => bi2 (fX6_allow h92 r p0 y83) (fun v96 h96 => some (v96, h96))))))) else (bi2 (fX6_refuse h r p0 (-13) (-1)) (fun v72 h72 => some (v72, h72))))) else (bi2 (fX6_refuse h r p0 (-3) a2) (fun v55 h55 => some (v55, h55)))))) else (fX6_rewrite_b26 r p0 a1 a2 a3 h))))))
set_option maxRecDepth 100000 in
set_option maxHeartbeats 4000000 in
theorem kX6_rewrite_b26 {X : XT} {b N sz : Nat} {ok : Nat → Prop} {r : RR} {w : Int32 × HH} (hX : XOK X RX6 cX6_rewrite 6 2) (hM : N ≤ MA) (hW : WT KA lnA ok N r) (p0 : Nat) (a1 : Int32) (a2 : Int32) (a3 : Int32) (t0 : KA p0 = 6 ∧ ok p0) (hR : XR X b KA lnA MA (some FieldType.int) 0 0 N sz (some (.int w.1)) w.2 r) (h : HH) (hF : fX6_rewrite_b26 r p0 a1 a2 a3 h = some w) : GX X b KA lnA MA 6 0 0 N sz 26 [(0, .ref (b + p0)), (1, .int a1), (2, .int a2), (3, .int a3)] [] h r := by
  rw [fX6_rewrite_b26] at hF
  refine g_aload_n hX dX6_rewrite_26 (i := 0) rfl (j := 0) rfl ?_
  refine g_bipush (v := (-2)) hX dX6_rewrite_27 (by decide) ?_
  refine g_iconst (v := (-1)) hX dX6_rewrite_29 (by decide) ?_
  obtain ⟨v30, h30, e30, hF⟩ := bi2_some hF
  refine g_callV (As := [.int (-2), .int (-1)]) (rest := []) (stk := [.int v30]) hX dX6_rewrite_30 (ctX6_refuse hM hW p0 (-2) (-1) t0 e30) (by decide) (by decide) wm_X6_78 wi_X6_refuse ws_X6_refuse wz_X6 wc_X6_refuse hyX6_refuse rfl (ci := 6) rfl (by decide) t0.1 (hW.1 _ t0.2).1 (hW.1 _ t0.2).2 (Nat.le_of_ble_eq_true rfl) rfl rfl ?_ rfl rfl
  obtain rfl := Option.some.inj hF
  exact g_iret hX dX6_rewrite_33 hR
set_option maxRecDepth 100000 in
set_option maxHeartbeats 4000000 in
theorem kX6_rewrite {X : XT} {b N sz : Nat} {ok : Nat → Prop} {h : HH} {r : RR} {w : Int32 × HH} (hX : XOK X RX6 cX6_rewrite 6 2) (hM : N ≤ MA) (hW : WT KA lnA ok N r) (p0 : Nat) (a1 : Int32) (a2 : Int32) (a3 : Int32) (t0 : KA p0 = 6 ∧ ok p0) (hR : XR X b KA lnA MA (some FieldType.int) 0 0 N sz (some (.int w.1)) w.2 r) (hF : fX6_rewrite h r p0 a1 a2 a3 = some w) : GX X b KA lnA MA 6 0 0 N sz 0 [(0, .ref (b + p0)), (1, .int a1), (2, .int a2), (3, .int a3)] [] h r := by
  rw [fX6_rewrite] at hF
  refine g_iload_n hX dX6_rewrite_0 (i := 1) rfl (j := 1) rfl ?_
  obtain ⟨v1, e1, hF⟩ := bi_some hF
  refine g_callSN (As := [.int a1]) (rest := []) (stk := [.int v1]) hX dX6_rewrite_1 (ctX7_isSide hM hW a1 e1) (by decide) (by decide) wNn_X6_69 wt_X7_isSide wz_X7 wc_X7_isSide hyX7_isSide.2 rfl (Nat.le_of_ble_eq_true rfl) rfl rfl ?_ rfl rfl
  refine g_if_eq (tgt := 26) hX dX6_rewrite_4 (by decide) (fun c4 => ?_) (fun c4 => ?_)
  · have hF := ite_t hF c4
    refine g_sub (L' := [(0, .ref (b + p0)), (1, .int a1), (2, .int a2), (3, .int a3)]) [0, 1, 2, 3] rfl ?_
    exact kX6_rewrite_b26 hX hM hW p0 a1 a2 a3 t0 hR h hF
  · have hF := ite_f hF c4
    refine g_aload_n hX dX6_rewrite_7 (i := 0) rfl (j := 0) rfl ?_
    refine g_iload_n hX dX6_rewrite_8 (i := 2) rfl (j := 2) rfl ?_
    obtain ⟨v9, e9, hF⟩ := bi_some hF
    refine g_callV (As := [.int a2]) (rest := []) (stk := [.int v9]) hX dX6_rewrite_9 (ctX6_isThing hM hW p0 a2 t0 e9) (by decide) (by decide) wm_X6_62 wi_X6_isThing ws_X6_isThing wz_X6 wc_X6_isThing hyX6_isThing rfl (ci := 6) rfl (by decide) t0.1 (hW.1 _ t0.2).1 (hW.1 _ t0.2).2 (Nat.le_of_ble_eq_true rfl) rfl rfl ?_ rfl rfl
    refine g_if_eq (tgt := 26) hX dX6_rewrite_12 (by decide) (fun c12 => ?_) (fun c12 => ?_)
    · have hF := ite_t hF c12
      refine g_sub (L' := [(0, .ref (b + p0)), (1, .int a1), (2, .int a2), (3, .int a3)]) [0, 1, 2, 3] rfl ?_
      exact kX6_rewrite_b26 hX hM hW p0 a1 a2 a3 t0 hR h hF
    · have hF := ite_f hF c12
      refine g_iload_n hX dX6_rewrite_15 (i := 3) rfl (j := 3) rfl ?_
      refine g_if_lt (tgt := 26) hX dX6_rewrite_16 (by decide) (fun c16 => ?_) (fun c16 => ?_)
      · have hF := ite_t hF c16
        refine g_sub (L' := [(0, .ref (b + p0)), (1, .int a1), (2, .int a2), (3, .int a3)]) [0, 1, 2, 3] rfl ?_
        exact kX6_rewrite_b26 hX hM hW p0 a1 a2 a3 t0 hR h hF
      · have hF := ite_f hF c16
        refine g_iload_n hX dX6_rewrite_19 (i := 3) rfl (j := 3) rfl ?_
        refine g_sipush (v := 1000) hX dX6_rewrite_20 (by decide) ?_
        refine g_icmp_lt (tgt := 34) hX dX6_rewrite_23 (by decide) (fun c23 => ?_) (fun c23 => ?_)
        · have hF := ite_t hF c23
          refine g_aload_n hX dX6_rewrite_34 (i := 0) rfl (j := 0) rfl ?_
          have tf35 := (tyF (k := 2) hW t0 (by decide) rfl (by decide) : KA (r p0 2) = 13 ∧ ok (r p0 2))
          refine gf_X6_21 hX dX6_rewrite_35 (ty1 hW t0) (hW.1 _ tf35.2).1 ?_
          refine g_iload_n hX dX6_rewrite_38 (i := 1) rfl (j := 1) rfl ?_
          obtain ⟨g39, hF⟩ := gd_some hF
          have ta39 : KA (r (r p0 2) (ix a1)) = 5 ∧ ok (r (r p0 2) (ix a1)) := tyA hW tf35 (by decide) rfl (by decide) g39
          refine g_aald hX dX6_rewrite_39 tf35.1 (by decide) (by decide) (hW.1 _ tf35.2).1 (hW.1 _ tf35.2).2 g39 (hW.1 _ ta39.2).1 ?_
          refine g_astore (L' := [(4, .ref (b + (r (r p0 2) (ix a1)))), (0, .ref (b + p0)), (1, .int a1), (2, .int a2), (3, .int a3)]) hX dX6_rewrite_40 (by decide) rfl ?_
          refine g_aload hX dX6_rewrite_42 (j := 0) rfl ?_
          refine g_iload_n hX dX6_rewrite_44 (i := 2) rfl (j := 3) rfl ?_
          obtain ⟨v45, e45, hF⟩ := bi_some hF
          refine g_callV (As := [.int a2]) (rest := []) (stk := [.int v45]) hX dX6_rewrite_45 (ctX5_has hM hW (r (r p0 2) (ix a1)) a2 ta39 e45) (by decide) (by decide) wm_X6_66 wi_X5_has ws_X5_has wz_X5 wc_X5_has hyX5_has rfl (ci := 5) rfl (by decide) ta39.1 (hW.1 _ ta39.2).1 (hW.1 _ ta39.2).2 (Nat.le_of_ble_eq_true rfl) rfl rfl ?_ rfl rfl
          refine g_if_ne (tgt := 59) hX dX6_rewrite_48 (by decide) (fun c48 => ?_) (fun c48 => ?_)
          · have hF := ite_t hF c48
            refine g_aload_n hX dX6_rewrite_59 (i := 0) rfl (j := 1) rfl ?_
            have tf60 := (tyF (k := 1) hW t0 (by decide) rfl (by decide) : KA (r p0 1) = 10 ∧ ok (r p0 1))
            refine gf_X6_15 hX dX6_rewrite_60 (ty1 hW t0) (hW.1 _ tf60.2).1 ?_
            refine g_iload_n hX dX6_rewrite_63 (i := 2) rfl (j := 3) rfl ?_
            obtain ⟨g64, hF⟩ := gd_some hF
            refine g_bald hX dX6_rewrite_64 tf60.1 (hW.1 _ tf60.2).1 (hW.1 _ tf60.2).2 g64 ?_
            refine g_if_eq (tgt := 76) hX dX6_rewrite_65 (by decide) (fun c65 => ?_) (fun c65 => ?_)
            · have hF := ite_t hF c65
              refine g_aload hX dX6_rewrite_76 (j := 0) rfl ?_
              have tf78 := (tyF (k := 3) hW ta39 (by decide) rfl (by decide) : KA (r (r (r p0 2) (ix a1)) 3) = 9 ∧ ok (r (r (r p0 2) (ix a1)) 3))
              refine gf_X6_102 hX dX6_rewrite_78 (ty1 hW ta39) (hW.1 _ tf78.2).1 ?_
              refine g_iload_n hX dX6_rewrite_81 (i := 2) rfl (j := 3) rfl ?_
              obtain ⟨g82, hF⟩ := gd_some hF
              refine g_iald hX dX6_rewrite_82 tf78.1 (hW.1 _ tf78.2).1 (hW.1 _ tf78.2).2 g82 ?_
              obtain ⟨y83, e83, hF⟩ := lt_some hF
              refine g_topi e83 ?_
              refine g_istore (L' := [(5, .int y83), (4, .ref (b + (r (r p0 2) (ix a1)))), (0, .ref (b + p0)), (1, .int a1), (2, .int a2), (3, .int a3)]) hX dX6_rewrite_83 (by decide) rfl ?_
              refine g_aload hX dX6_rewrite_85 (j := 1) rfl ?_
              have tf87 := (tyF (k := 3) hW ta39 (by decide) rfl (by decide) : KA (r (r (r p0 2) (ix a1)) 3) = 9 ∧ ok (r (r (r p0 2) (ix a1)) 3))
              refine gf_X6_102 hX dX6_rewrite_87 (ty1 hW ta39) (hW.1 _ tf87.2).1 ?_
              refine g_iload_n hX dX6_rewrite_90 (i := 2) rfl (j := 4) rfl ?_
              refine g_iload_n hX dX6_rewrite_91 (i := 3) rfl (j := 5) rfl ?_
              obtain ⟨g92, hF⟩ := gd_some hF
              obtain ⟨h92, e92, hF⟩ := lt_some hF
              refine g_iast hX dX6_rewrite_92 tf87.1 (hW.1 _ tf87.2).1 (hW.1 _ tf87.2).2 hM g92 e92 ?_
              refine g_aload_n hX dX6_rewrite_93 (i := 0) rfl (j := 2) rfl ?_
              refine g_iload hX dX6_rewrite_94 (j := 0) rfl ?_
              obtain ⟨v96, h96, e96, hF⟩ := bi2_some hF
              refine g_callV (As := [.int y83]) (rest := []) (stk := [.int v96]) hX dX6_rewrite_96 (ctX6_allow hM hW p0 y83 t0 e96) (by decide) (by decide) wm_X6_98 wi_X6_allow ws_X6_allow wz_X6 wc_X6_allow hyX6_allow rfl (ci := 6) rfl (by decide) t0.1 (hW.1 _ t0.2).1 (hW.1 _ t0.2).2 (Nat.le_of_ble_eq_true rfl) rfl rfl ?_ rfl rfl
              obtain rfl := Option.some.inj hF
              exact g_iret hX dX6_rewrite_99 hR
            · have hF := ite_f hF c65
              refine g_aload_n hX dX6_rewrite_68 (i := 0) rfl (j := 1) rfl ?_
              refine g_bipush (v := (-13)) hX dX6_rewrite_69 (by decide) ?_
              refine g_iconst (v := (-1)) hX dX6_rewrite_71 (by decide) ?_
              obtain ⟨v72, h72, e72, hF⟩ := bi2_some hF
              refine g_callV (As := [.int (-13), .int (-1)]) (rest := []) (stk := [.int v72]) hX dX6_rewrite_72 (ctX6_refuse hM hW p0 (-13) (-1) t0 e72) (by decide) (by decide) wm_X6_78 wi_X6_refuse ws_X6_refuse wz_X6 wc_X6_refuse hyX6_refuse rfl (ci := 6) rfl (by decide) t0.1 (hW.1 _ t0.2).1 (hW.1 _ t0.2).2 (Nat.le_of_ble_eq_true rfl) rfl rfl ?_ rfl rfl
              obtain rfl := Option.some.inj hF
              exact g_iret hX dX6_rewrite_75 hR
          · have hF := ite_f hF (fun z => z c48)
            refine g_aload_n hX dX6_rewrite_51 (i := 0) rfl (j := 1) rfl ?_
            refine g_bipush (v := (-3)) hX dX6_rewrite_52 (by decide) ?_
            refine g_iload_n hX dX6_rewrite_54 (i := 2) rfl (j := 3) rfl ?_
            obtain ⟨v55, h55, e55, hF⟩ := bi2_some hF
            refine g_callV (As := [.int (-3), .int a2]) (rest := []) (stk := [.int v55]) hX dX6_rewrite_55 (ctX6_refuse hM hW p0 (-3) a2 t0 e55) (by decide) (by decide) wm_X6_78 wi_X6_refuse ws_X6_refuse wz_X6 wc_X6_refuse hyX6_refuse rfl (ci := 6) rfl (by decide) t0.1 (hW.1 _ t0.2).1 (hW.1 _ t0.2).2 (Nat.le_of_ble_eq_true rfl) rfl rfl ?_ rfl rfl
            obtain rfl := Option.some.inj hF
            exact g_iret hX dX6_rewrite_58 hR
        · have hF := ite_f hF c23
          refine g_sub (L' := [(0, .ref (b + p0)), (1, .int a1), (2, .int a2), (3, .int a3)]) [0, 1, 2, 3] rfl ?_
          exact kX6_rewrite_b26 hX hM hW p0 a1 a2 a3 t0 hR h hF
theorem ctX6_rewrite {b N sz : Nat} {ok : Nat → Prop} {h : HH} {r : RR} {w : Int32 × HH} (hM : N ≤ MA) (hW : WT KA lnA ok N r) (p0 : Nat) (a1 : Int32) (a2 : Int32) (a3 : Int32) (t0 : KA p0 = 6 ∧ ok p0) (hF : fX6_rewrite h r p0 a1 a2 a3 = some w) : CT yX6_rewrite cX6_rewrite 6 (some FieldType.int) 2 b KA lnA MA N sz [.ref (b + p0), .int a1, .int a2, .int a3] h r N sz (some (.int w.1)) w.2 r 0 0 :=
  CT_of (by decide) rfl (Nat.le_of_ble_eq_true rfl) (by decide) trivial (fun X hX hR => kX6_rewrite hX hM hW p0 a1 a2 a3 t0 hR hF)
/-! X6_carry -/
def fX6_carry_b31 (r : RR) (p0 : Nat) (a1 : Int32) (a2 : Int32) (a3 : Int32) (a4 : Int32) (h : HH) : Option (Int32 × HH) := bi2 (fX6_refuse h r p0 (-2) (-1)) (fun v35 h35 => some (v35, h35))
def fX6_carry_b145 (r : RR) (p0 : Nat) (a1 : Int32) (a2 : Int32) (a3 : Int32) (a4 : Int32) (h : HH) (q5 : Nat) : Option (Int32 × HH) := gd (inb a2 (lnA (r q5 1))) (lt (up h (r q5 1) (ix a2) a3) (fun h152 => gd (inb a2 (lnA (r q5 2))) (lt (up h152 (r q5 2) (ix a2) a4) (fun h161 => bi2 (fX6_allow h161 r p0 1) (fun v164 h164 => some (v164, h164))))))
def fX6_carry (h : HH) (r : RR) (p0 : Nat) (a1 : Int32) (a2 : Int32) (a3 : Int32) (a4 : Int32) : Option (Int32 × HH) := (fX7_isSide h r a1).bind (fun v1 => if v1 = 0 then (fX6_carry_b31 r p0 a1 a2 a3 a4 h) else ((fX6_isThing h r p0 a2).bind (fun v9 => if v9 = 0 then (fX6_carry_b31 r p0 a1 a2 a3 a4 h) else ((fX6_isPlace h r p0 a3).bind (fun v17 => if v17 = 0 then (fX6_carry_b31 r p0 a1 a2 a3 a4 h) else ((fX7_isName h r a4).bind (fun v25 => if ¬ v25 = 0 then (gd (inb a1 (lnA (r p0 2))) ((fX5_has h r (r (r p0 2) (ix a1)) a2).bind (fun v50 => if ¬ v50 = 0 then ((fX6_canHold h r p0 (r (r p0 2) (ix a1)) a3).bind (fun v68 => if ¬ v68 = 0 then ((fX5_stepsUp h r (r (r p0 2) (ix a1)) a3 a2).bind (fun v86 => if v86 = (-1) then ((fX5_standing h r (r (r p0 2) (ix a1)) a3 a4).bind (fun v119 => if v119 = (-1) then (fX6_carry_b145 r p0 a1 a2 a3 a4 h (r (r p0 2) (ix a1))) else (if v119 = a2 then (fX6_carry_b145 r p0 a1 a2 a3 a4 h (r (r p0 2) (ix a1))) else (bi2 (fX6_refuse h r p0 (-6) v119) (fun v141 h141 => some (v141, h141)))))) else (bi2 (fX6_refuse h r p0 (-7) a3) (fun v101 h101 => lt (up h101 p0 8 v86) (fun h108 => some ((-7), h108)))))) else (bi2 (fX6_refuse h r p0 (-3) a3) (fun v78 h78 => some (v78, h78))))) else (bi2 (fX6_refuse h r p0 (-3) a2) (fun v60 h60 => some (v60, h60)))))) else (fX6_carry_b31 r p0 a1 a2 a3 a4 h))))))))
set_option maxRecDepth 100000 in
set_option maxHeartbeats 4000000 in
theorem kX6_carry_b31 {X : XT} {b N sz : Nat} {ok : Nat → Prop} {r : RR} {w : Int32 × HH} (hX : XOK X RX6 cX6_carry 8 3) (hM : N ≤ MA) (hW : WT KA lnA ok N r) (p0 : Nat) (a1 : Int32) (a2 : Int32) (a3 : Int32) (a4 : Int32) (t0 : KA p0 = 6 ∧ ok p0) (hR : XR X b KA lnA MA (some FieldType.int) 0 0 N sz (some (.int w.1)) w.2 r) (h : HH) (hF : fX6_carry_b31 r p0 a1 a2 a3 a4 h = some w) : GX X b KA lnA MA 8 0 0 N sz 31 [(0, .ref (b + p0)), (1, .int a1), (2, .int a2), (3, .int a3), (4, .int a4)] [] h r := by
  rw [fX6_carry_b31] at hF
  refine g_aload_n hX dX6_carry_31 (i := 0) rfl (j := 0) rfl ?_
  refine g_bipush (v := (-2)) hX dX6_carry_32 (by decide) ?_
  refine g_iconst (v := (-1)) hX dX6_carry_34 (by decide) ?_
  obtain ⟨v35, h35, e35, hF⟩ := bi2_some hF
  refine g_callV (As := [.int (-2), .int (-1)]) (rest := []) (stk := [.int v35]) hX dX6_carry_35 (ctX6_refuse hM hW p0 (-2) (-1) t0 e35) (by decide) (by decide) wm_X6_78 wi_X6_refuse ws_X6_refuse wz_X6 wc_X6_refuse hyX6_refuse rfl (ci := 6) rfl (by decide) t0.1 (hW.1 _ t0.2).1 (hW.1 _ t0.2).2 (Nat.le_of_ble_eq_true rfl) rfl rfl ?_ rfl rfl
  obtain rfl := Option.some.inj hF
  exact g_iret hX dX6_carry_38 hR
set_option maxRecDepth 100000 in
set_option maxHeartbeats 4000000 in
theorem kX6_carry_b145 {X : XT} {b N sz : Nat} {ok : Nat → Prop} {r : RR} {w : Int32 × HH} (hX : XOK X RX6 cX6_carry 8 3) (hM : N ≤ MA) (hW : WT KA lnA ok N r) (p0 : Nat) (a1 : Int32) (a2 : Int32) (a3 : Int32) (a4 : Int32) (t0 : KA p0 = 6 ∧ ok p0) (hR : XR X b KA lnA MA (some FieldType.int) 0 0 N sz (some (.int w.1)) w.2 r) (h : HH) (q5 : Nat) (t5 : KA q5 = 5 ∧ ok q5) (hF : fX6_carry_b145 r p0 a1 a2 a3 a4 h q5 = some w) : GX X b KA lnA MA 8 0 0 N sz 145 [(0, .ref (b + p0)), (1, .int a1), (2, .int a2), (3, .int a3), (4, .int a4), (5, .ref (b + q5))] [] h r := by
  rw [fX6_carry_b145] at hF
  refine g_aload hX dX6_carry_145 (j := 5) rfl ?_
  have tf147 := (tyF (k := 1) hW t5 (by decide) rfl (by decide) : KA (r q5 1) = 9 ∧ ok (r q5 1))
  refine gf_X6_108 hX dX6_carry_147 (ty1 hW t5) (hW.1 _ tf147.2).1 ?_
  refine g_iload_n hX dX6_carry_150 (i := 2) rfl (j := 2) rfl ?_
  refine g_iload_n hX dX6_carry_151 (i := 3) rfl (j := 3) rfl ?_
  obtain ⟨g152, hF⟩ := gd_some hF
  obtain ⟨h152, e152, hF⟩ := lt_some hF
  refine g_iast hX dX6_carry_152 tf147.1 (hW.1 _ tf147.2).1 (hW.1 _ tf147.2).2 hM g152 e152 ?_
  refine g_aload hX dX6_carry_153 (j := 5) rfl ?_
  have tf155 := (tyF (k := 2) hW t5 (by decide) rfl (by decide) : KA (r q5 2) = 9 ∧ ok (r q5 2))
  refine gf_X6_111 hX dX6_carry_155 (ty1 hW t5) (hW.1 _ tf155.2).1 ?_
  refine g_iload_n hX dX6_carry_158 (i := 2) rfl (j := 2) rfl ?_
  refine g_iload hX dX6_carry_159 (j := 4) rfl ?_
  obtain ⟨g161, hF⟩ := gd_some hF
  obtain ⟨h161, e161, hF⟩ := lt_some hF
  refine g_iast hX dX6_carry_161 tf155.1 (hW.1 _ tf155.2).1 (hW.1 _ tf155.2).2 hM g161 e161 ?_
  refine g_aload_n hX dX6_carry_162 (i := 0) rfl (j := 0) rfl ?_
  refine g_iconst (v := 1) hX dX6_carry_163 (by decide) ?_
  obtain ⟨v164, h164, e164, hF⟩ := bi2_some hF
  refine g_callV (As := [.int 1]) (rest := []) (stk := [.int v164]) hX dX6_carry_164 (ctX6_allow hM hW p0 1 t0 e164) (by decide) (by decide) wm_X6_98 wi_X6_allow ws_X6_allow wz_X6 wc_X6_allow hyX6_allow rfl (ci := 6) rfl (by decide) t0.1 (hW.1 _ t0.2).1 (hW.1 _ t0.2).2 (Nat.le_of_ble_eq_true rfl) rfl rfl ?_ rfl rfl
  obtain rfl := Option.some.inj hF
  exact g_iret hX dX6_carry_167 hR
set_option maxRecDepth 100000 in
set_option maxHeartbeats 4000000 in
theorem kX6_carry {X : XT} {b N sz : Nat} {ok : Nat → Prop} {h : HH} {r : RR} {w : Int32 × HH} (hX : XOK X RX6 cX6_carry 8 3) (hM : N ≤ MA) (hW : WT KA lnA ok N r) (p0 : Nat) (a1 : Int32) (a2 : Int32) (a3 : Int32) (a4 : Int32) (t0 : KA p0 = 6 ∧ ok p0) (hR : XR X b KA lnA MA (some FieldType.int) 0 0 N sz (some (.int w.1)) w.2 r) (hF : fX6_carry h r p0 a1 a2 a3 a4 = some w) : GX X b KA lnA MA 8 0 0 N sz 0 [(0, .ref (b + p0)), (1, .int a1), (2, .int a2), (3, .int a3), (4, .int a4)] [] h r := by
  rw [fX6_carry] at hF
  refine g_iload_n hX dX6_carry_0 (i := 1) rfl (j := 1) rfl ?_
  obtain ⟨v1, e1, hF⟩ := bi_some hF
  refine g_callSN (As := [.int a1]) (rest := []) (stk := [.int v1]) hX dX6_carry_1 (ctX7_isSide hM hW a1 e1) (by decide) (by decide) wNn_X6_69 wt_X7_isSide wz_X7 wc_X7_isSide hyX7_isSide.2 rfl (Nat.le_of_ble_eq_true rfl) rfl rfl ?_ rfl rfl
  refine g_if_eq (tgt := 31) hX dX6_carry_4 (by decide) (fun c4 => ?_) (fun c4 => ?_)
  · have hF := ite_t hF c4
    refine g_sub (L' := [(0, .ref (b + p0)), (1, .int a1), (2, .int a2), (3, .int a3), (4, .int a4)]) [0, 1, 2, 3, 4] rfl ?_
    exact kX6_carry_b31 hX hM hW p0 a1 a2 a3 a4 t0 hR h hF
  · have hF := ite_f hF c4
    refine g_aload_n hX dX6_carry_7 (i := 0) rfl (j := 0) rfl ?_
    refine g_iload_n hX dX6_carry_8 (i := 2) rfl (j := 2) rfl ?_
    obtain ⟨v9, e9, hF⟩ := bi_some hF
    refine g_callV (As := [.int a2]) (rest := []) (stk := [.int v9]) hX dX6_carry_9 (ctX6_isThing hM hW p0 a2 t0 e9) (by decide) (by decide) wm_X6_62 wi_X6_isThing ws_X6_isThing wz_X6 wc_X6_isThing hyX6_isThing rfl (ci := 6) rfl (by decide) t0.1 (hW.1 _ t0.2).1 (hW.1 _ t0.2).2 (Nat.le_of_ble_eq_true rfl) rfl rfl ?_ rfl rfl
    refine g_if_eq (tgt := 31) hX dX6_carry_12 (by decide) (fun c12 => ?_) (fun c12 => ?_)
    · have hF := ite_t hF c12
      refine g_sub (L' := [(0, .ref (b + p0)), (1, .int a1), (2, .int a2), (3, .int a3), (4, .int a4)]) [0, 1, 2, 3, 4] rfl ?_
      exact kX6_carry_b31 hX hM hW p0 a1 a2 a3 a4 t0 hR h hF
    · have hF := ite_f hF c12
      refine g_aload_n hX dX6_carry_15 (i := 0) rfl (j := 0) rfl ?_
      refine g_iload_n hX dX6_carry_16 (i := 3) rfl (j := 3) rfl ?_
      obtain ⟨v17, e17, hF⟩ := bi_some hF
      refine g_callV (As := [.int a3]) (rest := []) (stk := [.int v17]) hX dX6_carry_17 (ctX6_isPlace hM hW p0 a3 t0 e17) (by decide) (by decide) wm_X6_72 wi_X6_isPlace ws_X6_isPlace wz_X6 wc_X6_isPlace hyX6_isPlace rfl (ci := 6) rfl (by decide) t0.1 (hW.1 _ t0.2).1 (hW.1 _ t0.2).2 (Nat.le_of_ble_eq_true rfl) rfl rfl ?_ rfl rfl
      refine g_if_eq (tgt := 31) hX dX6_carry_20 (by decide) (fun c20 => ?_) (fun c20 => ?_)
      · have hF := ite_t hF c20
        refine g_sub (L' := [(0, .ref (b + p0)), (1, .int a1), (2, .int a2), (3, .int a3), (4, .int a4)]) [0, 1, 2, 3, 4] rfl ?_
        exact kX6_carry_b31 hX hM hW p0 a1 a2 a3 a4 t0 hR h hF
      · have hF := ite_f hF c20
        refine g_iload hX dX6_carry_23 (j := 4) rfl ?_
        obtain ⟨v25, e25, hF⟩ := bi_some hF
        refine g_callSN (As := [.int a4]) (rest := []) (stk := [.int v25]) hX dX6_carry_25 (ctX7_isName hM hW a4 e25) (by decide) (by decide) wNn_X6_75 wt_X7_isName wz_X7 wc_X7_isName hyX7_isName.2 rfl (Nat.le_of_ble_eq_true rfl) rfl rfl ?_ rfl rfl
        refine g_if_ne (tgt := 39) hX dX6_carry_28 (by decide) (fun c28 => ?_) (fun c28 => ?_)
        · have hF := ite_t hF c28
          refine g_aload_n hX dX6_carry_39 (i := 0) rfl (j := 0) rfl ?_
          have tf40 := (tyF (k := 2) hW t0 (by decide) rfl (by decide) : KA (r p0 2) = 13 ∧ ok (r p0 2))
          refine gf_X6_21 hX dX6_carry_40 (ty1 hW t0) (hW.1 _ tf40.2).1 ?_
          refine g_iload_n hX dX6_carry_43 (i := 1) rfl (j := 1) rfl ?_
          obtain ⟨g44, hF⟩ := gd_some hF
          have ta44 : KA (r (r p0 2) (ix a1)) = 5 ∧ ok (r (r p0 2) (ix a1)) := tyA hW tf40 (by decide) rfl (by decide) g44
          refine g_aald hX dX6_carry_44 tf40.1 (by decide) (by decide) (hW.1 _ tf40.2).1 (hW.1 _ tf40.2).2 g44 (hW.1 _ ta44.2).1 ?_
          refine g_astore (L' := [(5, .ref (b + (r (r p0 2) (ix a1)))), (0, .ref (b + p0)), (1, .int a1), (2, .int a2), (3, .int a3), (4, .int a4)]) hX dX6_carry_45 (by decide) rfl ?_
          refine g_aload hX dX6_carry_47 (j := 0) rfl ?_
          refine g_iload_n hX dX6_carry_49 (i := 2) rfl (j := 3) rfl ?_
          obtain ⟨v50, e50, hF⟩ := bi_some hF
          refine g_callV (As := [.int a2]) (rest := []) (stk := [.int v50]) hX dX6_carry_50 (ctX5_has hM hW (r (r p0 2) (ix a1)) a2 ta44 e50) (by decide) (by decide) wm_X6_66 wi_X5_has ws_X5_has wz_X5 wc_X5_has hyX5_has rfl (ci := 5) rfl (by decide) ta44.1 (hW.1 _ ta44.2).1 (hW.1 _ ta44.2).2 (Nat.le_of_ble_eq_true rfl) rfl rfl ?_ rfl rfl
          refine g_if_ne (tgt := 64) hX dX6_carry_53 (by decide) (fun c53 => ?_) (fun c53 => ?_)
          · have hF := ite_t hF c53
            refine g_aload_n hX dX6_carry_64 (i := 0) rfl (j := 1) rfl ?_
            refine g_aload hX dX6_carry_65 (j := 0) rfl ?_
            refine g_iload_n hX dX6_carry_67 (i := 3) rfl (j := 4) rfl ?_
            obtain ⟨v68, e68, hF⟩ := bi_some hF
            refine g_callV (As := [.ref (b + (r (r p0 2) (ix a1))), .int a3]) (rest := []) (stk := [.int v68]) hX dX6_carry_68 (ctX6_canHold hM hW p0 (r (r p0 2) (ix a1)) a3 t0 ta44 e68) (by decide) (by decide) wm_X6_82 wi_X6_canHold ws_X6_canHold wz_X6 wc_X6_canHold hyX6_canHold rfl (ci := 6) rfl (by decide) t0.1 (hW.1 _ t0.2).1 (hW.1 _ t0.2).2 (Nat.le_of_ble_eq_true rfl) rfl rfl ?_ rfl rfl
            refine g_if_ne (tgt := 82) hX dX6_carry_71 (by decide) (fun c71 => ?_) (fun c71 => ?_)
            · have hF := ite_t hF c71
              refine g_aload hX dX6_carry_82 (j := 0) rfl ?_
              refine g_iload_n hX dX6_carry_84 (i := 3) rfl (j := 4) rfl ?_
              refine g_iload_n hX dX6_carry_85 (i := 2) rfl (j := 3) rfl ?_
              obtain ⟨v86, e86, hF⟩ := bi_some hF
              refine g_callV (As := [.int a3, .int a2]) (rest := []) (stk := [.int v86]) hX dX6_carry_86 (ctX5_stepsUp hM hW (r (r p0 2) (ix a1)) a3 a2 ta44 e86) (by decide) (by decide) wm_X6_105 wi_X5_stepsUp ws_X5_stepsUp wz_X5 wc_X5_stepsUp hyX5_stepsUp rfl (ci := 5) rfl (by decide) ta44.1 (hW.1 _ ta44.2).1 (hW.1 _ ta44.2).2 (Nat.le_of_ble_eq_true rfl) rfl rfl ?_ rfl rfl
              refine g_istore (L' := [(6, .int v86), (5, .ref (b + (r (r p0 2) (ix a1)))), (0, .ref (b + p0)), (1, .int a1), (2, .int a2), (3, .int a3), (4, .int a4)]) hX dX6_carry_89 (by decide) rfl ?_
              refine g_iload hX dX6_carry_91 (j := 0) rfl ?_
              refine g_iconst (v := (-1)) hX dX6_carry_93 (by decide) ?_
              refine g_icmp_eq (tgt := 114) hX dX6_carry_94 (by decide) (fun c94 => ?_) (fun c94 => ?_)
              · have hF := ite_t hF c94
                refine g_aload hX dX6_carry_114 (j := 1) rfl ?_
                refine g_iload_n hX dX6_carry_116 (i := 3) rfl (j := 5) rfl ?_
                refine g_iload hX dX6_carry_117 (j := 6) rfl ?_
                obtain ⟨v119, e119, hF⟩ := bi_some hF
                refine g_callV (As := [.int a3, .int a4]) (rest := []) (stk := [.int v119]) hX dX6_carry_119 (ctX5_standing hM hW (r (r p0 2) (ix a1)) a3 a4 ta44 e119) (by decide) (by decide) wm_X6_86 wi_X5_standing ws_X5_standing wz_X5 wc_X5_standing hyX5_standing rfl (ci := 5) rfl (by decide) ta44.1 (hW.1 _ ta44.2).1 (hW.1 _ ta44.2).2 (Nat.le_of_ble_eq_true rfl) rfl rfl ?_ rfl rfl
                refine g_istore (L' := [(7, .int v119), (6, .int v86), (5, .ref (b + (r (r p0 2) (ix a1)))), (0, .ref (b + p0)), (1, .int a1), (2, .int a2), (3, .int a3), (4, .int a4)]) hX dX6_carry_122 (by decide) rfl ?_
                refine g_iload hX dX6_carry_124 (j := 0) rfl ?_
                refine g_iconst (v := (-1)) hX dX6_carry_126 (by decide) ?_
                refine g_icmp_eq (tgt := 145) hX dX6_carry_127 (by decide) (fun c127 => ?_) (fun c127 => ?_)
                · have hF := ite_t hF c127
                  refine g_sub (L' := [(0, .ref (b + p0)), (1, .int a1), (2, .int a2), (3, .int a3), (4, .int a4), (5, .ref (b + (r (r p0 2) (ix a1))))]) [3, 4, 5, 6, 7, 2] rfl ?_
                  exact kX6_carry_b145 hX hM hW p0 a1 a2 a3 a4 t0 hR h (r (r p0 2) (ix a1)) ta44 hF
                · have hF := ite_f hF c127
                  refine g_iload hX dX6_carry_130 (j := 0) rfl ?_
                  refine g_iload_n hX dX6_carry_132 (i := 2) rfl (j := 5) rfl ?_
                  refine g_icmp_eq (tgt := 145) hX dX6_carry_133 (by decide) (fun c133 => ?_) (fun c133 => ?_)
                  · have hF := ite_t hF c133
                    refine g_sub (L' := [(0, .ref (b + p0)), (1, .int a1), (2, .int a2), (3, .int a3), (4, .int a4), (5, .ref (b + (r (r p0 2) (ix a1))))]) [3, 4, 5, 6, 7, 2] rfl ?_
                    exact kX6_carry_b145 hX hM hW p0 a1 a2 a3 a4 t0 hR h (r (r p0 2) (ix a1)) ta44 hF
                  · have hF := ite_f hF c133
                    refine g_aload_n hX dX6_carry_136 (i := 0) rfl (j := 3) rfl ?_
                    refine g_bipush (v := (-6)) hX dX6_carry_137 (by decide) ?_
                    refine g_iload hX dX6_carry_139 (j := 0) rfl ?_
                    obtain ⟨v141, h141, e141, hF⟩ := bi2_some hF
                    refine g_callV (As := [.int (-6), .int v119]) (rest := []) (stk := [.int v141]) hX dX6_carry_141 (ctX6_refuse hM hW p0 (-6) v119 t0 e141) (by decide) (by decide) wm_X6_78 wi_X6_refuse ws_X6_refuse wz_X6 wc_X6_refuse hyX6_refuse rfl (ci := 6) rfl (by decide) t0.1 (hW.1 _ t0.2).1 (hW.1 _ t0.2).2 (Nat.le_of_ble_eq_true rfl) rfl rfl ?_ rfl rfl
                    obtain rfl := Option.some.inj hF
                    exact g_iret hX dX6_carry_144 hR
              · have hF := ite_f hF c94
                refine g_aload_n hX dX6_carry_97 (i := 0) rfl (j := 2) rfl ?_
                refine g_bipush (v := (-7)) hX dX6_carry_98 (by decide) ?_
                refine g_iload_n hX dX6_carry_100 (i := 3) rfl (j := 5) rfl ?_
                obtain ⟨v101, h101, e101, hF⟩ := bi2_some hF
                refine g_callV (As := [.int (-7), .int a3]) (rest := []) (stk := [.int v101]) hX dX6_carry_101 (ctX6_refuse hM hW p0 (-7) a3 t0 e101) (by decide) (by decide) wm_X6_78 wi_X6_refuse ws_X6_refuse wz_X6 wc_X6_refuse hyX6_refuse rfl (ci := 6) rfl (by decide) t0.1 (hW.1 _ t0.2).1 (hW.1 _ t0.2).2 (Nat.le_of_ble_eq_true rfl) rfl rfl ?_ rfl rfl
                refine g_pop hX dX6_carry_104 rfl ?_
                refine g_aload_n hX dX6_carry_105 (i := 0) rfl (j := 2) rfl ?_
                refine g_iload hX dX6_carry_106 (j := 0) rfl ?_
                obtain ⟨h108, e108, hF⟩ := lt_some hF
                refine pf_X6_43 hX dX6_carry_108 (ty1 hW t0) hM e108 ?_
                refine g_bipush (v := (-7)) hX dX6_carry_111 (by decide) ?_
                obtain rfl := Option.some.inj hF
                exact g_iret hX dX6_carry_113 hR
            · have hF := ite_f hF (fun z => z c71)
              refine g_aload_n hX dX6_carry_74 (i := 0) rfl (j := 1) rfl ?_
              refine g_bipush (v := (-3)) hX dX6_carry_75 (by decide) ?_
              refine g_iload_n hX dX6_carry_77 (i := 3) rfl (j := 4) rfl ?_
              obtain ⟨v78, h78, e78, hF⟩ := bi2_some hF
              refine g_callV (As := [.int (-3), .int a3]) (rest := []) (stk := [.int v78]) hX dX6_carry_78 (ctX6_refuse hM hW p0 (-3) a3 t0 e78) (by decide) (by decide) wm_X6_78 wi_X6_refuse ws_X6_refuse wz_X6 wc_X6_refuse hyX6_refuse rfl (ci := 6) rfl (by decide) t0.1 (hW.1 _ t0.2).1 (hW.1 _ t0.2).2 (Nat.le_of_ble_eq_true rfl) rfl rfl ?_ rfl rfl
              obtain rfl := Option.some.inj hF
              exact g_iret hX dX6_carry_81 hR
          · have hF := ite_f hF (fun z => z c53)
            refine g_aload_n hX dX6_carry_56 (i := 0) rfl (j := 1) rfl ?_
            refine g_bipush (v := (-3)) hX dX6_carry_57 (by decide) ?_
            refine g_iload_n hX dX6_carry_59 (i := 2) rfl (j := 3) rfl ?_
            obtain ⟨v60, h60, e60, hF⟩ := bi2_some hF
            refine g_callV (As := [.int (-3), .int a2]) (rest := []) (stk := [.int v60]) hX dX6_carry_60 (ctX6_refuse hM hW p0 (-3) a2 t0 e60) (by decide) (by decide) wm_X6_78 wi_X6_refuse ws_X6_refuse wz_X6 wc_X6_refuse hyX6_refuse rfl (ci := 6) rfl (by decide) t0.1 (hW.1 _ t0.2).1 (hW.1 _ t0.2).2 (Nat.le_of_ble_eq_true rfl) rfl rfl ?_ rfl rfl
            obtain rfl := Option.some.inj hF
            exact g_iret hX dX6_carry_63 hR
        · have hF := ite_f hF (fun z => z c28)
          refine g_sub (L' := [(0, .ref (b + p0)), (1, .int a1), (2, .int a2), (3, .int a3), (4, .int a4)]) [0, 1, 2, 3, 4] rfl ?_
          exact kX6_carry_b31 hX hM hW p0 a1 a2 a3 a4 t0 hR h hF
theorem ctX6_carry {b N sz : Nat} {ok : Nat → Prop} {h : HH} {r : RR} {w : Int32 × HH} (hM : N ≤ MA) (hW : WT KA lnA ok N r) (p0 : Nat) (a1 : Int32) (a2 : Int32) (a3 : Int32) (a4 : Int32) (t0 : KA p0 = 6 ∧ ok p0) (hF : fX6_carry h r p0 a1 a2 a3 a4 = some w) : CT yX6_carry cX6_carry 8 (some FieldType.int) 3 b KA lnA MA N sz [.ref (b + p0), .int a1, .int a2, .int a3, .int a4] h r N sz (some (.int w.1)) w.2 r 0 0 :=
  CT_of (by decide) rfl (Nat.le_of_ble_eq_true rfl) (by decide) trivial (fun X hX hR => kX6_carry hX hM hW p0 a1 a2 a3 a4 t0 hR hF)
/-! X6_erase -/
def fX6_erase_b15 (r : RR) (p0 : Nat) (a1 : Int32) (a2 : Int32) (h : HH) : Option (Int32 × HH) := bi2 (fX6_refuse h r p0 (-2) (-1)) (fun v19 h19 => some (v19, h19))
def fX6_erase_b83 (r : RR) (p0 : Nat) (a1 : Int32) (a2 : Int32) (k49 : HH → Nat → Int32 → Option (Int32 × HH)) (h : HH) (u0 : Nat) (s1 : Int32) (s2 : Int32) (q3 : Nat) (x4 : Int32) : Option (Int32 × HH) := gd (inb s1 (lnA u0)) (lt (up h u0 (ix s1) (zn s2)) (fun h83 => k49 h83 q3 (x4 + 1)))
def fX6_erase_b78 (r : RR) (p0 : Nat) (a1 : Int32) (a2 : Int32) (k49 : HH → Nat → Int32 → Option (Int32 × HH)) (h : HH) (u0 : Nat) (s1 : Int32) (q3 : Nat) (x4 : Int32) : Option (Int32 × HH) := fX6_erase_b83 r p0 a1 a2 k49 h u0 s1 1 q3 x4
def fX6_erase_b122 (r : RR) (p0 : Nat) (a1 : Int32) (a2 : Int32) (k96 : HH → Nat → Int32 → Int32 → Option (Int32 × HH)) (h : HH) (q3 : Nat) (x4 : Int32) (x5 : Int32) : Option (Int32 × HH) := k96 h q3 x4 (x5 + 1)
def fX6_erase_b96 (r : RR) (p0 : Nat) (a1 : Int32) (a2 : Int32) : Nat → HH → Nat → Int32 → Int32 → Option (Int32 × HH)
  | 0, _, _, _, _ => none
  | n + 1, h, q3, x4, x5 => if 30 ≤ x5 then (bi2 (fX6_allow h r p0 x4) (fun v131 h131 => some (v131, h131))) else (gd (inb x5 (lnA (r p0 10))) (if (h (r p0 10) (ix x5)) = 0 then (fX6_erase_b122 r p0 a1 a2 (fun h_ z3_ z4_ z5_ => fX6_erase_b96 r p0 a1 a2 n h_ z3_ z4_ z5_) h q3 x4 x5) else ((fX5_takeOut h r q3 x5).bind (fun h116 => fX6_erase_b122 r p0 a1 a2 (fun h_ z3_ z4_ z5_ => fX6_erase_b96 r p0 a1 a2 n h_ z3_ z4_ z5_) h116 q3 (x4 + 1) x5))))
def fX6_erase_b49 (r : RR) (p0 : Nat) (a1 : Int32) (a2 : Int32) : Nat → HH → Nat → Int32 → Option (Int32 × HH)
  | 0, _, _, _ => none
  | n + 1, h, q3, x4 => if 30 ≤ x4 then (fX6_erase_b96 r p0 a1 a2 lpF h q3 0 0) else (if x4 = a2 then (fX6_erase_b78 r p0 a1 a2 (fun h_ z3_ z4_ => fX6_erase_b49 r p0 a1 a2 n h_ z3_ z4_) h (r p0 10) x4 q3 x4) else ((fX5_isInner h r q3 x4 a2).bind (fun v72 => if v72 = 0 then (fX6_erase_b83 r p0 a1 a2 (fun h_ z3_ z4_ => fX6_erase_b49 r p0 a1 a2 n h_ z3_ z4_) h (r p0 10) x4 0 q3 x4) else (fX6_erase_b78 r p0 a1 a2 (fun h_ z3_ z4_ => fX6_erase_b49 r p0 a1 a2 n h_ z3_ z4_) h (r p0 10) x4 q3 x4))))
def fX6_erase (h : HH) (r : RR) (p0 : Nat) (a1 : Int32) (a2 : Int32) : Option (Int32 × HH) := (fX7_isSide h r a1).bind (fun v1 => if v1 = 0 then (fX6_erase_b15 r p0 a1 a2 h) else ((fX6_isThing h r p0 a2).bind (fun v9 => if ¬ v9 = 0 then (gd (inb a1 (lnA (r p0 2))) ((fX5_has h r (r (r p0 2) (ix a1)) a2).bind (fun v32 => if ¬ v32 = 0 then (fX6_erase_b49 r p0 a1 a2 lpF h (r (r p0 2) (ix a1)) 0) else (bi2 (fX6_refuse h r p0 (-3) a2) (fun v42 h42 => some (v42, h42)))))) else (fX6_erase_b15 r p0 a1 a2 h))))
set_option maxRecDepth 100000 in
set_option maxHeartbeats 4000000 in
theorem kX6_erase_b15 {X : XT} {b N sz : Nat} {ok : Nat → Prop} {r : RR} {w : Int32 × HH} (hX : XOK X RX6 cX6_erase 6 3) (hM : N ≤ MA) (hW : WT KA lnA ok N r) (p0 : Nat) (a1 : Int32) (a2 : Int32) (t0 : KA p0 = 6 ∧ ok p0) (hR : XR X b KA lnA MA (some FieldType.int) 0 0 N sz (some (.int w.1)) w.2 r) (h : HH) (hF : fX6_erase_b15 r p0 a1 a2 h = some w) : GX X b KA lnA MA 6 0 0 N sz 15 [(0, .ref (b + p0)), (1, .int a1), (2, .int a2)] [] h r := by
  rw [fX6_erase_b15] at hF
  refine g_aload_n hX dX6_erase_15 (i := 0) rfl (j := 0) rfl ?_
  refine g_bipush (v := (-2)) hX dX6_erase_16 (by decide) ?_
  refine g_iconst (v := (-1)) hX dX6_erase_18 (by decide) ?_
  obtain ⟨v19, h19, e19, hF⟩ := bi2_some hF
  refine g_callV (As := [.int (-2), .int (-1)]) (rest := []) (stk := [.int v19]) hX dX6_erase_19 (ctX6_refuse hM hW p0 (-2) (-1) t0 e19) (by decide) (by decide) wm_X6_78 wi_X6_refuse ws_X6_refuse wz_X6 wc_X6_refuse hyX6_refuse rfl (ci := 6) rfl (by decide) t0.1 (hW.1 _ t0.2).1 (hW.1 _ t0.2).2 (Nat.le_of_ble_eq_true rfl) rfl rfl ?_ rfl rfl
  obtain rfl := Option.some.inj hF
  exact g_iret hX dX6_erase_22 hR
set_option maxRecDepth 100000 in
set_option maxHeartbeats 4000000 in
theorem kX6_erase_b83 {X : XT} {b N sz : Nat} {ok : Nat → Prop} {r : RR} {w : Int32 × HH} (hX : XOK X RX6 cX6_erase 6 3) (hM : N ≤ MA) (hW : WT KA lnA ok N r) (p0 : Nat) (a1 : Int32) (a2 : Int32) (t0 : KA p0 = 6 ∧ ok p0) (hR : XR X b KA lnA MA (some FieldType.int) 0 0 N sz (some (.int w.1)) w.2 r) (k49 : HH → Nat → Int32 → Option (Int32 × HH)) (hk49 : ∀ (h : HH) (q3 : Nat) (x4 : Int32), (KA q3 = 5 ∧ ok q3) → k49 h q3 x4 = some w → GX X b KA lnA MA 6 0 0 N sz 49 [(0, .ref (b + p0)), (1, .int a1), (2, .int a2), (3, .ref (b + q3)), (4, .int x4)] [] h r) (h : HH) (u0 : Nat) (s1 : Int32) (s2 : Int32) (q3 : Nat) (x4 : Int32) (ts0 : KA u0 = 10 ∧ ok u0) (t3 : KA q3 = 5 ∧ ok q3) (hF : fX6_erase_b83 r p0 a1 a2 k49 h u0 s1 s2 q3 x4 = some w) : GX X b KA lnA MA 6 0 0 N sz 83 [(0, .ref (b + p0)), (1, .int a1), (2, .int a2), (3, .ref (b + q3)), (4, .int x4)] [.int s2, .int s1, .ref (b + u0)] h r := by
  rw [fX6_erase_b83] at hF
  obtain ⟨g83, hF⟩ := gd_some hF
  obtain ⟨h83, e83, hF⟩ := lt_some hF
  refine g_bast hX dX6_erase_83 ts0.1 (hW.1 _ ts0.2).1 (hW.1 _ ts0.2).2 hM g83 e83 ?_
  refine g_iinc (L' := [(4, .int (x4 + 1)), (0, .ref (b + p0)), (1, .int a1), (2, .int a2), (3, .ref (b + q3))]) (j := 4) hX dX6_erase_84 rfl rfl (by decide) rfl ?_
  refine g_goto (tgt := 49) hX dX6_erase_87 (by decide) ?_
  refine g_sub (L' := [(0, .ref (b + p0)), (1, .int a1), (2, .int a2), (3, .ref (b + q3)), (4, .int (x4 + 1))]) [1, 2, 3, 4, 0] rfl ?_
  exact hk49 h83 q3 (x4 + 1) t3 hF
set_option maxRecDepth 100000 in
set_option maxHeartbeats 4000000 in
theorem kX6_erase_b78 {X : XT} {b N sz : Nat} {ok : Nat → Prop} {r : RR} {w : Int32 × HH} (hX : XOK X RX6 cX6_erase 6 3) (hM : N ≤ MA) (hW : WT KA lnA ok N r) (p0 : Nat) (a1 : Int32) (a2 : Int32) (t0 : KA p0 = 6 ∧ ok p0) (hR : XR X b KA lnA MA (some FieldType.int) 0 0 N sz (some (.int w.1)) w.2 r) (k49 : HH → Nat → Int32 → Option (Int32 × HH)) (hk49 : ∀ (h : HH) (q3 : Nat) (x4 : Int32), (KA q3 = 5 ∧ ok q3) → k49 h q3 x4 = some w → GX X b KA lnA MA 6 0 0 N sz 49 [(0, .ref (b + p0)), (1, .int a1), (2, .int a2), (3, .ref (b + q3)), (4, .int x4)] [] h r) (h : HH) (u0 : Nat) (s1 : Int32) (q3 : Nat) (x4 : Int32) (ts0 : KA u0 = 10 ∧ ok u0) (t3 : KA q3 = 5 ∧ ok q3) (hF : fX6_erase_b78 r p0 a1 a2 k49 h u0 s1 q3 x4 = some w) : GX X b KA lnA MA 6 0 0 N sz 78 [(0, .ref (b + p0)), (1, .int a1), (2, .int a2), (3, .ref (b + q3)), (4, .int x4)] [.int s1, .ref (b + u0)] h r := by
  rw [fX6_erase_b78] at hF
  refine g_iconst (v := 1) hX dX6_erase_78 (by decide) ?_
  refine g_goto (tgt := 83) hX dX6_erase_79 (by decide) ?_
  refine g_sub (L' := [(0, .ref (b + p0)), (1, .int a1), (2, .int a2), (3, .ref (b + q3)), (4, .int x4)]) [0, 1, 2, 3, 4] rfl ?_
  exact kX6_erase_b83 hX hM hW p0 a1 a2 t0 hR k49 hk49 h u0 s1 1 q3 x4 ts0 t3 hF
set_option maxRecDepth 100000 in
set_option maxHeartbeats 4000000 in
theorem kX6_erase_b122 {X : XT} {b N sz : Nat} {ok : Nat → Prop} {r : RR} {w : Int32 × HH} (hX : XOK X RX6 cX6_erase 6 3) (hM : N ≤ MA) (hW : WT KA lnA ok N r) (p0 : Nat) (a1 : Int32) (a2 : Int32) (t0 : KA p0 = 6 ∧ ok p0) (hR : XR X b KA lnA MA (some FieldType.int) 0 0 N sz (some (.int w.1)) w.2 r) (k96 : HH → Nat → Int32 → Int32 → Option (Int32 × HH)) (hk96 : ∀ (h : HH) (q3 : Nat) (x4 : Int32) (x5 : Int32), (KA q3 = 5 ∧ ok q3) → k96 h q3 x4 x5 = some w → GX X b KA lnA MA 6 0 0 N sz 96 [(0, .ref (b + p0)), (1, .int a1), (2, .int a2), (3, .ref (b + q3)), (4, .int x4), (5, .int x5)] [] h r) (h : HH) (q3 : Nat) (x4 : Int32) (x5 : Int32) (t3 : KA q3 = 5 ∧ ok q3) (hF : fX6_erase_b122 r p0 a1 a2 k96 h q3 x4 x5 = some w) : GX X b KA lnA MA 6 0 0 N sz 122 [(0, .ref (b + p0)), (1, .int a1), (2, .int a2), (3, .ref (b + q3)), (4, .int x4), (5, .int x5)] [] h r := by
  rw [fX6_erase_b122] at hF
  refine g_iinc (L' := [(5, .int (x5 + 1)), (0, .ref (b + p0)), (1, .int a1), (2, .int a2), (3, .ref (b + q3)), (4, .int x4)]) (j := 5) hX dX6_erase_122 rfl rfl (by decide) rfl ?_
  refine g_goto (tgt := 96) hX dX6_erase_125 (by decide) ?_
  refine g_sub (L' := [(0, .ref (b + p0)), (1, .int a1), (2, .int a2), (3, .ref (b + q3)), (4, .int x4), (5, .int (x5 + 1))]) [1, 2, 3, 4, 5, 0] rfl ?_
  exact hk96 h q3 x4 (x5 + 1) t3 hF
set_option maxRecDepth 100000 in
set_option maxHeartbeats 4000000 in
theorem kX6_erase_b96 {X : XT} {b N sz : Nat} {ok : Nat → Prop} {r : RR} {w : Int32 × HH} (hX : XOK X RX6 cX6_erase 6 3) (hM : N ≤ MA) (hW : WT KA lnA ok N r) (p0 : Nat) (a1 : Int32) (a2 : Int32) (t0 : KA p0 = 6 ∧ ok p0) (hR : XR X b KA lnA MA (some FieldType.int) 0 0 N sz (some (.int w.1)) w.2 r) : ∀ (n : Nat) (h : HH) (q3 : Nat) (x4 : Int32) (x5 : Int32), (KA q3 = 5 ∧ ok q3) → fX6_erase_b96 r p0 a1 a2 n h q3 x4 x5 = some w → GX X b KA lnA MA 6 0 0 N sz 96 [(0, .ref (b + p0)), (1, .int a1), (2, .int a2), (3, .ref (b + q3)), (4, .int x4), (5, .int x5)] [] h r := by
  intro n
  induction n with
  | zero =>
    intro h q3 x4 x5 t3 hF
    cases hF
  | succ n ih =>
    intro h q3 x4 x5 t3 hF
    rw [fX6_erase_b96] at hF
    refine g_iload hX dX6_erase_96 (j := 5) rfl ?_
    refine g_bipush (v := 30) hX dX6_erase_98 (by decide) ?_
    refine g_icmp_ge (tgt := 128) hX dX6_erase_100 (by decide) (fun c100 => ?_) (fun c100 => ?_)
    · have hF := ite_t hF c100
      refine g_aload_n hX dX6_erase_128 (i := 0) rfl (j := 0) rfl ?_
      refine g_iload hX dX6_erase_129 (j := 4) rfl ?_
      obtain ⟨v131, h131, e131, hF⟩ := bi2_some hF
      refine g_callV (As := [.int x4]) (rest := []) (stk := [.int v131]) hX dX6_erase_131 (ctX6_allow hM hW p0 x4 t0 e131) (by decide) (by decide) wm_X6_98 wi_X6_allow ws_X6_allow wz_X6 wc_X6_allow hyX6_allow rfl (ci := 6) rfl (by decide) t0.1 (hW.1 _ t0.2).1 (hW.1 _ t0.2).2 (Nat.le_of_ble_eq_true rfl) rfl rfl ?_ rfl rfl
      obtain rfl := Option.some.inj hF
      exact g_iret hX dX6_erase_134 hR
    · have hF := ite_f hF c100
      refine g_aload_n hX dX6_erase_103 (i := 0) rfl (j := 0) rfl ?_
      have tf104 := (tyF (k := 10) hW t0 (by decide) rfl (by decide) : KA (r p0 10) = 10 ∧ ok (r p0 10))
      refine gf_X6_50 hX dX6_erase_104 (ty1 hW t0) (hW.1 _ tf104.2).1 ?_
      refine g_iload hX dX6_erase_107 (j := 5) rfl ?_
      obtain ⟨g109, hF⟩ := gd_some hF
      refine g_bald hX dX6_erase_109 tf104.1 (hW.1 _ tf104.2).1 (hW.1 _ tf104.2).2 g109 ?_
      refine g_if_eq (tgt := 122) hX dX6_erase_110 (by decide) (fun c110 => ?_) (fun c110 => ?_)
      · have hF := ite_t hF c110
        refine g_sub (L' := [(0, .ref (b + p0)), (1, .int a1), (2, .int a2), (3, .ref (b + q3)), (4, .int x4), (5, .int x5)]) [0, 1, 2, 3, 4, 5] rfl ?_
        exact kX6_erase_b122 hX hM hW p0 a1 a2 t0 hR (fun h_ z3_ z4_ z5_ => fX6_erase_b96 r p0 a1 a2 n h_ z3_ z4_ z5_) ih h q3 x4 x5 t3 hF
      · have hF := ite_f hF c110
        refine g_aload_n hX dX6_erase_113 (i := 3) rfl (j := 3) rfl ?_
        refine g_iload hX dX6_erase_114 (j := 5) rfl ?_
        obtain ⟨h116, e116, hF⟩ := bi_some hF
        refine g_callV (As := [.int x5]) (rest := []) (stk := []) hX dX6_erase_116 (ctX5_takeOut hM hW q3 x5 t3 e116) (by decide) (by decide) wm_X6_118 wi_X5_takeOut ws_X5_takeOut wz_X5 wc_X5_takeOut hyX5_takeOut rfl (ci := 5) rfl (by decide) t3.1 (hW.1 _ t3.2).1 (hW.1 _ t3.2).2 (Nat.le_of_ble_eq_true rfl) rfl rfl ?_ rfl rfl
        refine g_iinc (L' := [(4, .int (x4 + 1)), (0, .ref (b + p0)), (1, .int a1), (2, .int a2), (3, .ref (b + q3)), (5, .int x5)]) (j := 4) hX dX6_erase_119 rfl rfl (by decide) rfl ?_
        refine g_sub (L' := [(0, .ref (b + p0)), (1, .int a1), (2, .int a2), (3, .ref (b + q3)), (4, .int (x4 + 1)), (5, .int x5)]) [1, 2, 3, 4, 0, 5] rfl ?_
        exact kX6_erase_b122 hX hM hW p0 a1 a2 t0 hR (fun h_ z3_ z4_ z5_ => fX6_erase_b96 r p0 a1 a2 n h_ z3_ z4_ z5_) ih h116 q3 (x4 + 1) x5 t3 hF
set_option maxRecDepth 100000 in
set_option maxHeartbeats 4000000 in
theorem kX6_erase_b49 {X : XT} {b N sz : Nat} {ok : Nat → Prop} {r : RR} {w : Int32 × HH} (hX : XOK X RX6 cX6_erase 6 3) (hM : N ≤ MA) (hW : WT KA lnA ok N r) (p0 : Nat) (a1 : Int32) (a2 : Int32) (t0 : KA p0 = 6 ∧ ok p0) (hR : XR X b KA lnA MA (some FieldType.int) 0 0 N sz (some (.int w.1)) w.2 r) : ∀ (n : Nat) (h : HH) (q3 : Nat) (x4 : Int32), (KA q3 = 5 ∧ ok q3) → fX6_erase_b49 r p0 a1 a2 n h q3 x4 = some w → GX X b KA lnA MA 6 0 0 N sz 49 [(0, .ref (b + p0)), (1, .int a1), (2, .int a2), (3, .ref (b + q3)), (4, .int x4)] [] h r := by
  intro n
  induction n with
  | zero =>
    intro h q3 x4 t3 hF
    cases hF
  | succ n ih =>
    intro h q3 x4 t3 hF
    rw [fX6_erase_b49] at hF
    refine g_iload hX dX6_erase_49 (j := 4) rfl ?_
    refine g_bipush (v := 30) hX dX6_erase_51 (by decide) ?_
    refine g_icmp_ge (tgt := 90) hX dX6_erase_53 (by decide) (fun c53 => ?_) (fun c53 => ?_)
    · have hF := ite_t hF c53
      refine g_iconst (v := 0) hX dX6_erase_90 (by decide) ?_
      refine g_istore (L' := [(4, .int 0), (0, .ref (b + p0)), (1, .int a1), (2, .int a2), (3, .ref (b + q3))]) hX dX6_erase_91 (by decide) rfl ?_
      refine g_iconst (v := 0) hX dX6_erase_93 (by decide) ?_
      refine g_istore (L' := [(5, .int 0), (4, .int 0), (0, .ref (b + p0)), (1, .int a1), (2, .int a2), (3, .ref (b + q3))]) hX dX6_erase_94 (by decide) rfl ?_
      refine g_sub (L' := [(0, .ref (b + p0)), (1, .int a1), (2, .int a2), (3, .ref (b + q3)), (4, .int 0), (5, .int 0)]) [2, 3, 4, 5, 1, 0] rfl ?_
      exact kX6_erase_b96 hX hM hW p0 a1 a2 t0 hR lpF h q3 0 0 t3 hF
    · have hF := ite_f hF c53
      refine g_aload_n hX dX6_erase_56 (i := 0) rfl (j := 0) rfl ?_
      have tf57 := (tyF (k := 10) hW t0 (by decide) rfl (by decide) : KA (r p0 10) = 10 ∧ ok (r p0 10))
      refine gf_X6_50 hX dX6_erase_57 (ty1 hW t0) (hW.1 _ tf57.2).1 ?_
      refine g_iload hX dX6_erase_60 (j := 4) rfl ?_
      refine g_iload hX dX6_erase_62 (j := 4) rfl ?_
      refine g_iload_n hX dX6_erase_64 (i := 2) rfl (j := 2) rfl ?_
      refine g_icmp_eq (tgt := 78) hX dX6_erase_65 (by decide) (fun c65 => ?_) (fun c65 => ?_)
      · have hF := ite_t hF c65
        refine g_sub (L' := [(0, .ref (b + p0)), (1, .int a1), (2, .int a2), (3, .ref (b + q3)), (4, .int x4)]) [0, 1, 2, 3, 4] rfl ?_
        exact kX6_erase_b78 hX hM hW p0 a1 a2 t0 hR (fun h_ z3_ z4_ => fX6_erase_b49 r p0 a1 a2 n h_ z3_ z4_) ih h (r p0 10) x4 q3 x4 tf57 t3 hF
      · have hF := ite_f hF c65
        refine g_aload_n hX dX6_erase_68 (i := 3) rfl (j := 3) rfl ?_
        refine g_iload hX dX6_erase_69 (j := 4) rfl ?_
        refine g_iload_n hX dX6_erase_71 (i := 2) rfl (j := 2) rfl ?_
        obtain ⟨v72, e72, hF⟩ := bi_some hF
        refine g_callV (As := [.int x4, .int a2]) (rest := [.int x4, .ref (b + (r p0 10))]) (stk := [.int v72, .int x4, .ref (b + (r p0 10))]) hX dX6_erase_72 (ctX5_isInner hM hW q3 x4 a2 t3 e72) (by decide) (by decide) wm_X6_114 wi_X5_isInner ws_X5_isInner wz_X5 wc_X5_isInner hyX5_isInner rfl (ci := 5) rfl (by decide) t3.1 (hW.1 _ t3.2).1 (hW.1 _ t3.2).2 (Nat.le_of_ble_eq_true rfl) rfl rfl ?_ rfl rfl
        refine g_if_eq (tgt := 82) hX dX6_erase_75 (by decide) (fun c75 => ?_) (fun c75 => ?_)
        · have hF := ite_t hF c75
          refine g_iconst (v := 0) hX dX6_erase_82 (by decide) ?_
          refine g_sub (L' := [(0, .ref (b + p0)), (1, .int a1), (2, .int a2), (3, .ref (b + q3)), (4, .int x4)]) [0, 1, 2, 3, 4] rfl ?_
          exact kX6_erase_b83 hX hM hW p0 a1 a2 t0 hR (fun h_ z3_ z4_ => fX6_erase_b49 r p0 a1 a2 n h_ z3_ z4_) ih h (r p0 10) x4 0 q3 x4 tf57 t3 hF
        · have hF := ite_f hF c75
          refine g_sub (L' := [(0, .ref (b + p0)), (1, .int a1), (2, .int a2), (3, .ref (b + q3)), (4, .int x4)]) [0, 1, 2, 3, 4] rfl ?_
          exact kX6_erase_b78 hX hM hW p0 a1 a2 t0 hR (fun h_ z3_ z4_ => fX6_erase_b49 r p0 a1 a2 n h_ z3_ z4_) ih h (r p0 10) x4 q3 x4 tf57 t3 hF
set_option maxRecDepth 100000 in
set_option maxHeartbeats 4000000 in
theorem kX6_erase {X : XT} {b N sz : Nat} {ok : Nat → Prop} {h : HH} {r : RR} {w : Int32 × HH} (hX : XOK X RX6 cX6_erase 6 3) (hM : N ≤ MA) (hW : WT KA lnA ok N r) (p0 : Nat) (a1 : Int32) (a2 : Int32) (t0 : KA p0 = 6 ∧ ok p0) (hR : XR X b KA lnA MA (some FieldType.int) 0 0 N sz (some (.int w.1)) w.2 r) (hF : fX6_erase h r p0 a1 a2 = some w) : GX X b KA lnA MA 6 0 0 N sz 0 [(0, .ref (b + p0)), (1, .int a1), (2, .int a2)] [] h r := by
  rw [fX6_erase] at hF
  refine g_iload_n hX dX6_erase_0 (i := 1) rfl (j := 1) rfl ?_
  obtain ⟨v1, e1, hF⟩ := bi_some hF
  refine g_callSN (As := [.int a1]) (rest := []) (stk := [.int v1]) hX dX6_erase_1 (ctX7_isSide hM hW a1 e1) (by decide) (by decide) wNn_X6_69 wt_X7_isSide wz_X7 wc_X7_isSide hyX7_isSide.2 rfl (Nat.le_of_ble_eq_true rfl) rfl rfl ?_ rfl rfl
  refine g_if_eq (tgt := 15) hX dX6_erase_4 (by decide) (fun c4 => ?_) (fun c4 => ?_)
  · have hF := ite_t hF c4
    refine g_sub (L' := [(0, .ref (b + p0)), (1, .int a1), (2, .int a2)]) [0, 1, 2] rfl ?_
    exact kX6_erase_b15 hX hM hW p0 a1 a2 t0 hR h hF
  · have hF := ite_f hF c4
    refine g_aload_n hX dX6_erase_7 (i := 0) rfl (j := 0) rfl ?_
    refine g_iload_n hX dX6_erase_8 (i := 2) rfl (j := 2) rfl ?_
    obtain ⟨v9, e9, hF⟩ := bi_some hF
    refine g_callV (As := [.int a2]) (rest := []) (stk := [.int v9]) hX dX6_erase_9 (ctX6_isThing hM hW p0 a2 t0 e9) (by decide) (by decide) wm_X6_62 wi_X6_isThing ws_X6_isThing wz_X6 wc_X6_isThing hyX6_isThing rfl (ci := 6) rfl (by decide) t0.1 (hW.1 _ t0.2).1 (hW.1 _ t0.2).2 (Nat.le_of_ble_eq_true rfl) rfl rfl ?_ rfl rfl
    refine g_if_ne (tgt := 23) hX dX6_erase_12 (by decide) (fun c12 => ?_) (fun c12 => ?_)
    · have hF := ite_t hF c12
      refine g_aload_n hX dX6_erase_23 (i := 0) rfl (j := 0) rfl ?_
      have tf24 := (tyF (k := 2) hW t0 (by decide) rfl (by decide) : KA (r p0 2) = 13 ∧ ok (r p0 2))
      refine gf_X6_21 hX dX6_erase_24 (ty1 hW t0) (hW.1 _ tf24.2).1 ?_
      refine g_iload_n hX dX6_erase_27 (i := 1) rfl (j := 1) rfl ?_
      obtain ⟨g28, hF⟩ := gd_some hF
      have ta28 : KA (r (r p0 2) (ix a1)) = 5 ∧ ok (r (r p0 2) (ix a1)) := tyA hW tf24 (by decide) rfl (by decide) g28
      refine g_aald hX dX6_erase_28 tf24.1 (by decide) (by decide) (hW.1 _ tf24.2).1 (hW.1 _ tf24.2).2 g28 (hW.1 _ ta28.2).1 ?_
      refine g_astore_n (L' := [(3, .ref (b + (r (r p0 2) (ix a1)))), (0, .ref (b + p0)), (1, .int a1), (2, .int a2)]) hX dX6_erase_29 (i := 3) rfl (by decide) rfl ?_
      refine g_aload_n hX dX6_erase_30 (i := 3) rfl (j := 0) rfl ?_
      refine g_iload_n hX dX6_erase_31 (i := 2) rfl (j := 3) rfl ?_
      obtain ⟨v32, e32, hF⟩ := bi_some hF
      refine g_callV (As := [.int a2]) (rest := []) (stk := [.int v32]) hX dX6_erase_32 (ctX5_has hM hW (r (r p0 2) (ix a1)) a2 ta28 e32) (by decide) (by decide) wm_X6_66 wi_X5_has ws_X5_has wz_X5 wc_X5_has hyX5_has rfl (ci := 5) rfl (by decide) ta28.1 (hW.1 _ ta28.2).1 (hW.1 _ ta28.2).2 (Nat.le_of_ble_eq_true rfl) rfl rfl ?_ rfl rfl
      refine g_if_ne (tgt := 46) hX dX6_erase_35 (by decide) (fun c35 => ?_) (fun c35 => ?_)
      · have hF := ite_t hF c35
        refine g_iconst (v := 0) hX dX6_erase_46 (by decide) ?_
        refine g_istore (L' := [(4, .int 0), (3, .ref (b + (r (r p0 2) (ix a1)))), (0, .ref (b + p0)), (1, .int a1), (2, .int a2)]) hX dX6_erase_47 (by decide) rfl ?_
        refine g_sub (L' := [(0, .ref (b + p0)), (1, .int a1), (2, .int a2), (3, .ref (b + (r (r p0 2) (ix a1)))), (4, .int 0)]) [2, 3, 4, 1, 0] rfl ?_
        exact kX6_erase_b49 hX hM hW p0 a1 a2 t0 hR lpF h (r (r p0 2) (ix a1)) 0 ta28 hF
      · have hF := ite_f hF (fun z => z c35)
        refine g_aload_n hX dX6_erase_38 (i := 0) rfl (j := 1) rfl ?_
        refine g_bipush (v := (-3)) hX dX6_erase_39 (by decide) ?_
        refine g_iload_n hX dX6_erase_41 (i := 2) rfl (j := 3) rfl ?_
        obtain ⟨v42, h42, e42, hF⟩ := bi2_some hF
        refine g_callV (As := [.int (-3), .int a2]) (rest := []) (stk := [.int v42]) hX dX6_erase_42 (ctX6_refuse hM hW p0 (-3) a2 t0 e42) (by decide) (by decide) wm_X6_78 wi_X6_refuse ws_X6_refuse wz_X6 wc_X6_refuse hyX6_refuse rfl (ci := 6) rfl (by decide) t0.1 (hW.1 _ t0.2).1 (hW.1 _ t0.2).2 (Nat.le_of_ble_eq_true rfl) rfl rfl ?_ rfl rfl
        obtain rfl := Option.some.inj hF
        exact g_iret hX dX6_erase_45 hR
    · have hF := ite_f hF (fun z => z c12)
      refine g_sub (L' := [(0, .ref (b + p0)), (1, .int a1), (2, .int a2)]) [0, 1, 2] rfl ?_
      exact kX6_erase_b15 hX hM hW p0 a1 a2 t0 hR h hF
theorem ctX6_erase {b N sz : Nat} {ok : Nat → Prop} {h : HH} {r : RR} {w : Int32 × HH} (hM : N ≤ MA) (hW : WT KA lnA ok N r) (p0 : Nat) (a1 : Int32) (a2 : Int32) (t0 : KA p0 = 6 ∧ ok p0) (hF : fX6_erase h r p0 a1 a2 = some w) : CT yX6_erase cX6_erase 6 (some FieldType.int) 3 b KA lnA MA N sz [.ref (b + p0), .int a1, .int a2] h r N sz (some (.int w.1)) w.2 r 0 0 :=
  CT_of (by decide) rfl (Nat.le_of_ble_eq_true rfl) (by decide) trivial (fun X hX hR => kX6_erase hX hM hW p0 a1 a2 t0 hR hF)
/-! X7_make -/
def fX7_make (h : HH) (r : RR) (p0 : Nat) (a1 : Int32) (a2 : Int32) (a3 : Int32) (a4 : Int32) : Option (Int32 × HH) := bi2 (fX6_create h r (r p0 0) a1 a2 a3 a4) (fun v9 h9 => some (v9, h9))
set_option maxRecDepth 100000 in
set_option maxHeartbeats 4000000 in
theorem kX7_make {X : XT} {b N sz : Nat} {ok : Nat → Prop} {h : HH} {r : RR} {w : Int32 × HH} (hX : XOK X RX7 cX7_make 5 4) (hM : N ≤ MA) (hW : WT KA lnA ok N r) (p0 : Nat) (a1 : Int32) (a2 : Int32) (a3 : Int32) (a4 : Int32) (t0 : KA p0 = 7 ∧ ok p0) (hR : XR X b KA lnA MA (some FieldType.int) 0 0 N sz (some (.int w.1)) w.2 r) (hF : fX7_make h r p0 a1 a2 a3 a4 = some w) : GX X b KA lnA MA 5 0 0 N sz 0 [(0, .ref (b + p0)), (1, .int a1), (2, .int a2), (3, .int a3), (4, .int a4)] [] h r := by
  rw [fX7_make] at hF
  refine g_aload_n hX dX7_make_0 (i := 0) rfl (j := 0) rfl ?_
  have tf1 := (tyF (k := 0) hW t0 (by decide) rfl (by decide) : KA (r p0 0) = 6 ∧ ok (r p0 0))
  refine gf_X7_12 hX dX7_make_1 (ty1 hW t0) (hW.1 _ tf1.2).1 ?_
  refine g_iload_n hX dX7_make_4 (i := 1) rfl (j := 1) rfl ?_
  refine g_iload_n hX dX7_make_5 (i := 2) rfl (j := 2) rfl ?_
  refine g_iload_n hX dX7_make_6 (i := 3) rfl (j := 3) rfl ?_
  refine g_iload hX dX7_make_7 (j := 4) rfl ?_
  obtain ⟨v9, h9, e9, hF⟩ := bi2_some hF
  refine g_callV (As := [.int a1, .int a2, .int a3, .int a4]) (rest := []) (stk := [.int v9]) hX dX7_make_9 (ctX6_create hM hW (r p0 0) a1 a2 a3 a4 tf1 e9) (by decide) (by decide) wm_X7_56 wi_X6_create ws_X6_create wz_X6 wc_X6_create hyX6_create rfl (ci := 6) rfl (by decide) tf1.1 (hW.1 _ tf1.2).1 (hW.1 _ tf1.2).2 (Nat.le_of_ble_eq_true rfl) rfl rfl ?_ rfl rfl
  obtain rfl := Option.some.inj hF
  exact g_iret hX dX7_make_12 hR
theorem ctX7_make {b N sz : Nat} {ok : Nat → Prop} {h : HH} {r : RR} {w : Int32 × HH} (hM : N ≤ MA) (hW : WT KA lnA ok N r) (p0 : Nat) (a1 : Int32) (a2 : Int32) (a3 : Int32) (a4 : Int32) (t0 : KA p0 = 7 ∧ ok p0) (hF : fX7_make h r p0 a1 a2 a3 a4 = some w) : CT yX7_make cX7_make 5 (some FieldType.int) 4 b KA lnA MA N sz [.ref (b + p0), .int a1, .int a2, .int a3, .int a4] h r N sz (some (.int w.1)) w.2 r 0 0 :=
  CT_of (by decide) rfl (Nat.le_of_ble_eq_true rfl) (by decide) trivial (fun X hX hR => kX7_make hX hM hW p0 a1 a2 a3 a4 t0 hR hF)
/-! X7_write -/
def fX7_write (h : HH) (r : RR) (p0 : Nat) (a1 : Int32) (a2 : Int32) (a3 : Int32) : Option (Int32 × HH) := bi2 (fX6_rewrite h r (r p0 0) a1 a2 a3) (fun v7 h7 => some (v7, h7))
set_option maxRecDepth 100000 in
set_option maxHeartbeats 4000000 in
theorem kX7_write {X : XT} {b N sz : Nat} {ok : Nat → Prop} {h : HH} {r : RR} {w : Int32 × HH} (hX : XOK X RX7 cX7_write 4 3) (hM : N ≤ MA) (hW : WT KA lnA ok N r) (p0 : Nat) (a1 : Int32) (a2 : Int32) (a3 : Int32) (t0 : KA p0 = 7 ∧ ok p0) (hR : XR X b KA lnA MA (some FieldType.int) 0 0 N sz (some (.int w.1)) w.2 r) (hF : fX7_write h r p0 a1 a2 a3 = some w) : GX X b KA lnA MA 4 0 0 N sz 0 [(0, .ref (b + p0)), (1, .int a1), (2, .int a2), (3, .int a3)] [] h r := by
  rw [fX7_write] at hF
  refine g_aload_n hX dX7_write_0 (i := 0) rfl (j := 0) rfl ?_
  have tf1 := (tyF (k := 0) hW t0 (by decide) rfl (by decide) : KA (r p0 0) = 6 ∧ ok (r p0 0))
  refine gf_X7_12 hX dX7_write_1 (ty1 hW t0) (hW.1 _ tf1.2).1 ?_
  refine g_iload_n hX dX7_write_4 (i := 1) rfl (j := 1) rfl ?_
  refine g_iload_n hX dX7_write_5 (i := 2) rfl (j := 2) rfl ?_
  refine g_iload_n hX dX7_write_6 (i := 3) rfl (j := 3) rfl ?_
  obtain ⟨v7, h7, e7, hF⟩ := bi2_some hF
  refine g_callV (As := [.int a1, .int a2, .int a3]) (rest := []) (stk := [.int v7]) hX dX7_write_7 (ctX6_rewrite hM hW (r p0 0) a1 a2 a3 tf1 e7) (by decide) (by decide) wm_X7_60 wi_X6_rewrite ws_X6_rewrite wz_X6 wc_X6_rewrite hyX6_rewrite rfl (ci := 6) rfl (by decide) tf1.1 (hW.1 _ tf1.2).1 (hW.1 _ tf1.2).2 (Nat.le_of_ble_eq_true rfl) rfl rfl ?_ rfl rfl
  obtain rfl := Option.some.inj hF
  exact g_iret hX dX7_write_10 hR
theorem ctX7_write {b N sz : Nat} {ok : Nat → Prop} {h : HH} {r : RR} {w : Int32 × HH} (hM : N ≤ MA) (hW : WT KA lnA ok N r) (p0 : Nat) (a1 : Int32) (a2 : Int32) (a3 : Int32) (t0 : KA p0 = 7 ∧ ok p0) (hF : fX7_write h r p0 a1 a2 a3 = some w) : CT yX7_write cX7_write 4 (some FieldType.int) 3 b KA lnA MA N sz [.ref (b + p0), .int a1, .int a2, .int a3] h r N sz (some (.int w.1)) w.2 r 0 0 :=
  CT_of (by decide) rfl (Nat.le_of_ble_eq_true rfl) (by decide) trivial (fun X hX hR => kX7_write hX hM hW p0 a1 a2 a3 t0 hR hF)
/-! X7_move -/
def fX7_move (h : HH) (r : RR) (p0 : Nat) (a1 : Int32) (a2 : Int32) (a3 : Int32) (a4 : Int32) : Option (Int32 × HH) := bi2 (fX6_carry h r (r p0 0) a1 a2 a3 a4) (fun v9 h9 => some (v9, h9))
set_option maxRecDepth 100000 in
set_option maxHeartbeats 4000000 in
theorem kX7_move {X : XT} {b N sz : Nat} {ok : Nat → Prop} {h : HH} {r : RR} {w : Int32 × HH} (hX : XOK X RX7 cX7_move 5 4) (hM : N ≤ MA) (hW : WT KA lnA ok N r) (p0 : Nat) (a1 : Int32) (a2 : Int32) (a3 : Int32) (a4 : Int32) (t0 : KA p0 = 7 ∧ ok p0) (hR : XR X b KA lnA MA (some FieldType.int) 0 0 N sz (some (.int w.1)) w.2 r) (hF : fX7_move h r p0 a1 a2 a3 a4 = some w) : GX X b KA lnA MA 5 0 0 N sz 0 [(0, .ref (b + p0)), (1, .int a1), (2, .int a2), (3, .int a3), (4, .int a4)] [] h r := by
  rw [fX7_move] at hF
  refine g_aload_n hX dX7_move_0 (i := 0) rfl (j := 0) rfl ?_
  have tf1 := (tyF (k := 0) hW t0 (by decide) rfl (by decide) : KA (r p0 0) = 6 ∧ ok (r p0 0))
  refine gf_X7_12 hX dX7_move_1 (ty1 hW t0) (hW.1 _ tf1.2).1 ?_
  refine g_iload_n hX dX7_move_4 (i := 1) rfl (j := 1) rfl ?_
  refine g_iload_n hX dX7_move_5 (i := 2) rfl (j := 2) rfl ?_
  refine g_iload_n hX dX7_move_6 (i := 3) rfl (j := 3) rfl ?_
  refine g_iload hX dX7_move_7 (j := 4) rfl ?_
  obtain ⟨v9, h9, e9, hF⟩ := bi2_some hF
  refine g_callV (As := [.int a1, .int a2, .int a3, .int a4]) (rest := []) (stk := [.int v9]) hX dX7_move_9 (ctX6_carry hM hW (r p0 0) a1 a2 a3 a4 tf1 e9) (by decide) (by decide) wm_X7_64 wi_X6_carry ws_X6_carry wz_X6 wc_X6_carry hyX6_carry rfl (ci := 6) rfl (by decide) tf1.1 (hW.1 _ tf1.2).1 (hW.1 _ tf1.2).2 (Nat.le_of_ble_eq_true rfl) rfl rfl ?_ rfl rfl
  obtain rfl := Option.some.inj hF
  exact g_iret hX dX7_move_12 hR
theorem ctX7_move {b N sz : Nat} {ok : Nat → Prop} {h : HH} {r : RR} {w : Int32 × HH} (hM : N ≤ MA) (hW : WT KA lnA ok N r) (p0 : Nat) (a1 : Int32) (a2 : Int32) (a3 : Int32) (a4 : Int32) (t0 : KA p0 = 7 ∧ ok p0) (hF : fX7_move h r p0 a1 a2 a3 a4 = some w) : CT yX7_move cX7_move 5 (some FieldType.int) 4 b KA lnA MA N sz [.ref (b + p0), .int a1, .int a2, .int a3, .int a4] h r N sz (some (.int w.1)) w.2 r 0 0 :=
  CT_of (by decide) rfl (Nat.le_of_ble_eq_true rfl) (by decide) trivial (fun X hX hR => kX7_move hX hM hW p0 a1 a2 a3 a4 t0 hR hF)
/-! X7_remove -/
def fX7_remove (h : HH) (r : RR) (p0 : Nat) (a1 : Int32) (a2 : Int32) : Option (Int32 × HH) := bi2 (fX6_erase h r (r p0 0) a1 a2) (fun v6 h6 => some (v6, h6))
set_option maxRecDepth 100000 in
set_option maxHeartbeats 4000000 in
theorem kX7_remove {X : XT} {b N sz : Nat} {ok : Nat → Prop} {h : HH} {r : RR} {w : Int32 × HH} (hX : XOK X RX7 cX7_remove 3 4) (hM : N ≤ MA) (hW : WT KA lnA ok N r) (p0 : Nat) (a1 : Int32) (a2 : Int32) (t0 : KA p0 = 7 ∧ ok p0) (hR : XR X b KA lnA MA (some FieldType.int) 0 0 N sz (some (.int w.1)) w.2 r) (hF : fX7_remove h r p0 a1 a2 = some w) : GX X b KA lnA MA 3 0 0 N sz 0 [(0, .ref (b + p0)), (1, .int a1), (2, .int a2)] [] h r := by
  rw [fX7_remove] at hF
  refine g_aload_n hX dX7_remove_0 (i := 0) rfl (j := 0) rfl ?_
  have tf1 := (tyF (k := 0) hW t0 (by decide) rfl (by decide) : KA (r p0 0) = 6 ∧ ok (r p0 0))
  refine gf_X7_12 hX dX7_remove_1 (ty1 hW t0) (hW.1 _ tf1.2).1 ?_
  refine g_iload_n hX dX7_remove_4 (i := 1) rfl (j := 1) rfl ?_
  refine g_iload_n hX dX7_remove_5 (i := 2) rfl (j := 2) rfl ?_
  obtain ⟨v6, h6, e6, hF⟩ := bi2_some hF
  refine g_callV (As := [.int a1, .int a2]) (rest := []) (stk := [.int v6]) hX dX7_remove_6 (ctX6_erase hM hW (r p0 0) a1 a2 tf1 e6) (by decide) (by decide) wm_X7_67 wi_X6_erase ws_X6_erase wz_X6 wc_X6_erase hyX6_erase rfl (ci := 6) rfl (by decide) tf1.1 (hW.1 _ tf1.2).1 (hW.1 _ tf1.2).2 (Nat.le_of_ble_eq_true rfl) rfl rfl ?_ rfl rfl
  obtain rfl := Option.some.inj hF
  exact g_iret hX dX7_remove_9 hR
theorem ctX7_remove {b N sz : Nat} {ok : Nat → Prop} {h : HH} {r : RR} {w : Int32 × HH} (hM : N ≤ MA) (hW : WT KA lnA ok N r) (p0 : Nat) (a1 : Int32) (a2 : Int32) (t0 : KA p0 = 7 ∧ ok p0) (hF : fX7_remove h r p0 a1 a2 = some w) : CT yX7_remove cX7_remove 3 (some FieldType.int) 4 b KA lnA MA N sz [.ref (b + p0), .int a1, .int a2] h r N sz (some (.int w.1)) w.2 r 0 0 :=
  CT_of (by decide) rfl (Nat.le_of_ble_eq_true rfl) (by decide) trivial (fun X hX hR => kX7_remove hX hM hW p0 a1 a2 t0 hR hF)
/-! X7_isTree -/
def fX7_isTree_b13 (h : HH) (r : RR) (a0 : Int32) : Option (Int32) := some (0)
def fX7_isTree (h : HH) (r : RR) (a0 : Int32) : Option (Int32) := if a0 < 0 then (fX7_isTree_b13 h r a0) else (if 3 ≤ a0 then (fX7_isTree_b13 h r a0) else (some (1)))
set_option maxRecDepth 100000 in
set_option maxHeartbeats 4000000 in
theorem kX7_isTree_b13 {X : XT} {b N sz : Nat} {ok : Nat → Prop} {h : HH} {r : RR} {w : Int32} (hX : XOK X RX7 cX7_isTree 1 1) (hM : N ≤ MA) (hW : WT KA lnA ok N r) (a0 : Int32) (hR : XR X b KA lnA MA (some FieldType.boolean) 0 0 N sz (some (.int w)) h r) (hF : fX7_isTree_b13 h r a0 = some w) : GX X b KA lnA MA 1 0 0 N sz 13 [(0, .int a0)] [] h r := by
  rw [fX7_isTree_b13] at hF
  refine g_iconst (v := 0) hX dX7_isTree_13 (by decide) ?_
  obtain rfl := Option.some.inj hF
  exact g_zret hX dX7_isTree_14 (by decide) hR
set_option maxRecDepth 100000 in
set_option maxHeartbeats 4000000 in
theorem kX7_isTree {X : XT} {b N sz : Nat} {ok : Nat → Prop} {h : HH} {r : RR} {w : Int32} (hX : XOK X RX7 cX7_isTree 1 1) (hM : N ≤ MA) (hW : WT KA lnA ok N r) (a0 : Int32) (hR : XR X b KA lnA MA (some FieldType.boolean) 0 0 N sz (some (.int w)) h r) (hF : fX7_isTree h r a0 = some w) : GX X b KA lnA MA 1 0 0 N sz 0 [(0, .int a0)] [] h r := by
  rw [fX7_isTree] at hF
  refine g_iload_n hX dX7_isTree_0 (i := 0) rfl (j := 0) rfl ?_
  refine g_if_lt (tgt := 13) hX dX7_isTree_1 (by decide) (fun c1 => ?_) (fun c1 => ?_)
  · have hF := ite_t hF c1
    refine g_sub (L' := [(0, .int a0)]) [0] rfl ?_
    exact kX7_isTree_b13 hX hM hW a0 hR hF
  · have hF := ite_f hF c1
    refine g_iload_n hX dX7_isTree_4 (i := 0) rfl (j := 0) rfl ?_
    refine g_iconst (v := 3) hX dX7_isTree_5 (by decide) ?_
    refine g_icmp_ge (tgt := 13) hX dX7_isTree_6 (by decide) (fun c6 => ?_) (fun c6 => ?_)
    · have hF := ite_t hF c6
      refine g_sub (L' := [(0, .int a0)]) [0] rfl ?_
      exact kX7_isTree_b13 hX hM hW a0 hR hF
    · have hF := ite_f hF c6
      refine g_iconst (v := 1) hX dX7_isTree_9 (by decide) ?_
      refine g_goto (tgt := 14) hX dX7_isTree_10 (by decide) ?_
      obtain rfl := Option.some.inj hF
      exact g_zret hX dX7_isTree_14 (by decide) hR
theorem ctX7_isTree {b N sz : Nat} {ok : Nat → Prop} {h : HH} {r : RR} {w : Int32} (hM : N ≤ MA) (hW : WT KA lnA ok N r) (a0 : Int32) (hF : fX7_isTree h r a0 = some w) : CT yX7_isTree cX7_isTree 1 (some FieldType.boolean) 1 b KA lnA MA N sz [.int a0] h r N sz (some (.int w)) h r 0 0 :=
  CT_of (by decide) rfl (Nat.le_of_ble_eq_true rfl) (by decide) trivial (fun X hX hR => kX7_isTree hX hM hW a0 hR hF)
/-! X7_bit -/
def fX7_bit (h : HH) (r : RR) (a0 : Int32) : Option (Int32) := if a0 = 0 then (some (0)) else (some (1))
set_option maxRecDepth 100000 in
set_option maxHeartbeats 4000000 in
theorem kX7_bit {X : XT} {b N sz : Nat} {ok : Nat → Prop} {h : HH} {r : RR} {w : Int32} (hX : XOK X RX7 cX7_bit 1 1) (hM : N ≤ MA) (hW : WT KA lnA ok N r) (a0 : Int32) (hR : XR X b KA lnA MA (some FieldType.int) 0 0 N sz (some (.int w)) h r) (hF : fX7_bit h r a0 = some w) : GX X b KA lnA MA 1 0 0 N sz 0 [(0, .int a0)] [] h r := by
  rw [fX7_bit] at hF
  refine g_iload_n hX dX7_bit_0 (i := 0) rfl (j := 0) rfl ?_
  refine g_if_eq (tgt := 8) hX dX7_bit_1 (by decide) (fun c1 => ?_) (fun c1 => ?_)
  · have hF := ite_t hF c1
    refine g_iconst (v := 0) hX dX7_bit_8 (by decide) ?_
    obtain rfl := Option.some.inj hF
    exact g_iret hX dX7_bit_9 hR
  · have hF := ite_f hF c1
    refine g_iconst (v := 1) hX dX7_bit_4 (by decide) ?_
    refine g_goto (tgt := 9) hX dX7_bit_5 (by decide) ?_
    obtain rfl := Option.some.inj hF
    exact g_iret hX dX7_bit_9 hR
theorem ctX7_bit {b N sz : Nat} {ok : Nat → Prop} {h : HH} {r : RR} {w : Int32} (hM : N ≤ MA) (hW : WT KA lnA ok N r) (a0 : Int32) (hF : fX7_bit h r a0 = some w) : CT yX7_bit cX7_bit 1 (some FieldType.int) 1 b KA lnA MA N sz [.int a0] h r N sz (some (.int w)) h r 0 0 :=
  CT_of (by decide) rfl (Nat.le_of_ble_eq_true rfl) (by decide) trivial (fun X hX hR => kX7_bit hX hM hW a0 hR hF)
/-! X7_told -/
def fX7_told (h : HH) (r : RR) (p0 : Nat) (a1 : Int32) (a2 : Int32) (a3 : Int32) : Option (Int32 × HH) := (fX7_isTree h r a1).bind (fun v1 => if v1 = 0 then (some ((-2), h)) else ((fX6_isThing h r (r p0 0) a2).bind (fun v12 => if v12 = 0 then (some ((-2), h)) else (if a3 < 0 then (some ((-2), h)) else (if a3 ≤ 9 then (gd (inb a1 (lnA (r (r p0 0) 2))) (if a3 = 0 then ((fX5_has h r (r (r (r p0 0) 2) (ix a1)) a2).bind (fun v99 => (fX7_bit h r v99).bind (fun v102 => some (v102, h)))) else (if a3 = 1 then (gd (inb a2 (lnA (r (r (r (r p0 0) 2) (ix a1)) 1))) (some (h (r (r (r (r p0 0) 2) (ix a1)) 1) (ix a2), h))) else (if a3 = 2 then (gd (inb a2 (lnA (r (r (r (r p0 0) 2) (ix a1)) 2))) (some (h (r (r (r (r p0 0) 2) (ix a1)) 2) (ix a2), h))) else (if a3 = 3 then (gd (inb a2 (lnA (r (r (r (r p0 0) 2) (ix a1)) 3))) (some (h (r (r (r (r p0 0) 2) (ix a1)) 3) (ix a2), h))) else (if a3 = 4 then ((fX5_innerOnes h r (r (r (r p0 0) 2) (ix a1)) a2).bind (fun v133 => some (v133, h))) else (if a3 = 5 then ((fX5_depth h r (r (r (r p0 0) 2) (ix a1)) a2).bind (fun v140 => some (v140, h))) else (if a3 = 6 then ((fX0_compare h r (r p0 5) (r p0 0)).bind (fun h178 => if ¬ a3 = 8 then (if ¬ a1 = 2 then (gd (inb a1 (lnA (r (r p0 5) 2))) (gd (inb a2 (lnA (r (r (r p0 5) 2) (ix a1)))) (some (h178 (r (r (r p0 5) 2) (ix a1)) (ix a2), h178)))) else (some (0, h178))) else (gd (inb a2 (lnA (r (r p0 5) 1))) ((fX7_bit h178 r (h178 (r (r p0 5) 1) (ix a2))).bind (fun v196 => some (v196, h178)))))) else (if a3 = 7 then (bi2 (fX6_isIgnoredThere h r (r p0 0) a1 a2) (fun v150 h150 => (fX7_bit h150 r v150).bind (fun v153 => some (v153, h150)))) else (if a3 = 8 then ((fX0_compare h r (r p0 5) (r p0 0)).bind (fun h178 => if ¬ a3 = 8 then (if ¬ a1 = 2 then (gd (inb a1 (lnA (r (r p0 5) 2))) (gd (inb a2 (lnA (r (r (r p0 5) 2) (ix a1)))) (some (h178 (r (r (r p0 5) 2) (ix a1)) (ix a2), h178)))) else (some (0, h178))) else (gd (inb a2 (lnA (r (r p0 5) 1))) ((fX7_bit h178 r (h178 (r (r p0 5) 1) (ix a2))).bind (fun v196 => some (v196, h178)))))) else (if a3 = 9 then (gd (inb a2 (lnA (r (r p0 0) 1))) ((fX7_bit h r (h (r (r p0 0) 1) (ix a2))).bind (fun v166 => some (v166, h)))) else ((fX0_compare h r (r p0 5) (r p0 0)).bind (fun h178 => if ¬ a3 = 8 then (if ¬ a1 = 2 then (gd (inb a1 (lnA (r (r p0 5) 2))) (gd (inb a2 (lnA (r (r (r p0 5) 2) (ix a1)))) (some (h178 (r (r (r p0 5) 2) (ix a1)) (ix a2), h178)))) else (some (0, h178))) else (gd (inb a2 (lnA (r (r p0 5) 1))) ((fX7_bit h178 r (h178 (r (r p0 5) 1) (ix a2))).bind (fun v196 => some (v196, h178))))))))))))))))) else (some ((-2), h)))))))
set_option maxRecDepth 100000 in
set_option maxHeartbeats 4000000 in
theorem kX7_told {X : XT} {b N sz : Nat} {ok : Nat → Prop} {h : HH} {r : RR} {w : Int32 × HH} (hX : XOK X RX7 cX7_told 5 5) (hM : N ≤ MA) (hW : WT KA lnA ok N r) (hA : ∀ p, KA p < 16 → ok p) (p0 : Nat) (a1 : Int32) (a2 : Int32) (a3 : Int32) (t0 : KA p0 = 7 ∧ ok p0) (hR : XR X b KA lnA MA (some FieldType.int) 0 0 N sz (some (.int w.1)) w.2 r) (hF : fX7_told h r p0 a1 a2 a3 = some w) : GX X b KA lnA MA 5 0 0 N sz 0 [(0, .ref (b + p0)), (1, .int a1), (2, .int a2), (3, .int a3)] [] h r := by
  rw [fX7_told] at hF
  refine g_iload_n hX dX7_told_0 (i := 1) rfl (j := 1) rfl ?_
  obtain ⟨v1, e1, hF⟩ := bi_some hF
  refine g_callS (As := [.int a1]) (rest := []) (stk := [.int v1]) hX dX7_told_1 (ctX7_isTree hM hW a1 e1) (by decide) (by decide) wm_X7_71 wt_X7_isTree wz_X7 wc_X7_isTree hyX7_isTree rfl (Nat.le_of_ble_eq_true rfl) rfl rfl ?_ rfl rfl
  refine g_if_eq (tgt := 28) hX dX7_told_4 (by decide) (fun c4 => ?_) (fun c4 => ?_)
  · have hF := ite_t hF c4
    refine g_bipush (v := (-2)) hX dX7_told_28 (by decide) ?_
    obtain rfl := Option.some.inj hF
    exact g_iret hX dX7_told_30 hR
  · have hF := ite_f hF c4
    refine g_aload_n hX dX7_told_7 (i := 0) rfl (j := 0) rfl ?_
    have tf8 := (tyF (k := 0) hW t0 (by decide) rfl (by decide) : KA (r p0 0) = 6 ∧ ok (r p0 0))
    refine gf_X7_12 hX dX7_told_8 (ty1 hW t0) (hW.1 _ tf8.2).1 ?_
    refine g_iload_n hX dX7_told_11 (i := 2) rfl (j := 2) rfl ?_
    obtain ⟨v12, e12, hF⟩ := bi_some hF
    refine g_callV (As := [.int a2]) (rest := []) (stk := [.int v12]) hX dX7_told_12 (ctX6_isThing hM hW (r p0 0) a2 tf8 e12) (by decide) (by decide) wm_X7_75 wi_X6_isThing ws_X6_isThing wz_X6 wc_X6_isThing hyX6_isThing rfl (ci := 6) rfl (by decide) tf8.1 (hW.1 _ tf8.2).1 (hW.1 _ tf8.2).2 (Nat.le_of_ble_eq_true rfl) rfl rfl ?_ rfl rfl
    refine g_if_eq (tgt := 28) hX dX7_told_15 (by decide) (fun c15 => ?_) (fun c15 => ?_)
    · have hF := ite_t hF c15
      refine g_bipush (v := (-2)) hX dX7_told_28 (by decide) ?_
      obtain rfl := Option.some.inj hF
      exact g_iret hX dX7_told_30 hR
    · have hF := ite_f hF c15
      refine g_iload_n hX dX7_told_18 (i := 3) rfl (j := 3) rfl ?_
      refine g_if_lt (tgt := 28) hX dX7_told_19 (by decide) (fun c19 => ?_) (fun c19 => ?_)
      · have hF := ite_t hF c19
        refine g_bipush (v := (-2)) hX dX7_told_28 (by decide) ?_
        obtain rfl := Option.some.inj hF
        exact g_iret hX dX7_told_30 hR
      · have hF := ite_f hF c19
        refine g_iload_n hX dX7_told_22 (i := 3) rfl (j := 3) rfl ?_
        refine g_bipush (v := 9) hX dX7_told_23 (by decide) ?_
        refine g_icmp_le (tgt := 31) hX dX7_told_25 (by decide) (fun c25 => ?_) (fun c25 => ?_)
        · have hF := ite_t hF c25
          refine g_aload_n hX dX7_told_31 (i := 0) rfl (j := 0) rfl ?_
          have tf32 := (tyF (k := 0) hW t0 (by decide) rfl (by decide) : KA (r p0 0) = 6 ∧ ok (r p0 0))
          refine gf_X7_12 hX dX7_told_32 (ty1 hW t0) (hW.1 _ tf32.2).1 ?_
          have tf35 := (tyF (k := 2) hW tf32 (by decide) rfl (by decide) : KA (r (r p0 0) 2) = 13 ∧ ok (r (r p0 0) 2))
          refine gf_X7_78 hX dX7_told_35 (ty1 hW tf32) (hW.1 _ tf35.2).1 ?_
          refine g_iload_n hX dX7_told_38 (i := 1) rfl (j := 1) rfl ?_
          obtain ⟨g39, hF⟩ := gd_some hF
          have ta39 : KA (r (r (r p0 0) 2) (ix a1)) = 5 ∧ ok (r (r (r p0 0) 2) (ix a1)) := tyA hW tf35 (by decide) rfl (by decide) g39
          refine g_aald hX dX7_told_39 tf35.1 (by decide) (by decide) (hW.1 _ tf35.2).1 (hW.1 _ tf35.2).2 g39 (hW.1 _ ta39.2).1 ?_
          refine g_astore (L' := [(4, .ref (b + (r (r (r p0 0) 2) (ix a1)))), (0, .ref (b + p0)), (1, .int a1), (2, .int a2), (3, .int a3)]) hX dX7_told_40 (by decide) rfl ?_
          refine g_iload_n hX dX7_told_42 (i := 3) rfl (j := 4) rfl ?_
          by_cases c43_0 : a3 = 0
          · have hF := ite_t hF c43_0
            refine g_tin (tgt := 96) hX dX7_told_43 c43_0 (by decide) (by decide) rfl (by decide) ?_
            refine g_aload hX dX7_told_96 (j := 0) rfl ?_
            refine g_iload_n hX dX7_told_98 (i := 2) rfl (j := 3) rfl ?_
            obtain ⟨v99, e99, hF⟩ := bi_some hF
            refine g_callV (As := [.int a2]) (rest := []) (stk := [.int v99]) hX dX7_told_99 (ctX5_has hM hW (r (r (r p0 0) 2) (ix a1)) a2 ta39 e99) (by decide) (by decide) wm_X7_82 wi_X5_has ws_X5_has wz_X5 wc_X5_has hyX5_has rfl (ci := 5) rfl (by decide) ta39.1 (hW.1 _ ta39.2).1 (hW.1 _ ta39.2).2 (Nat.le_of_ble_eq_true rfl) rfl rfl ?_ rfl rfl
            obtain ⟨v102, e102, hF⟩ := bi_some hF
            refine g_callS (As := [.int v99]) (rest := []) (stk := [.int v102]) hX dX7_told_102 (ctX7_bit hM hW v99 e102) (by decide) (by decide) wm_X7_87 wt_X7_bit wz_X7 wc_X7_bit hyX7_bit rfl (Nat.le_of_ble_eq_true rfl) rfl rfl ?_ rfl rfl
            obtain rfl := Option.some.inj hF
            exact g_iret hX dX7_told_105 hR
          have hF := ite_f hF c43_0
          by_cases c43_1 : a3 = 1
          · have hF := ite_t hF c43_1
            refine g_tin (tgt := 106) hX dX7_told_43 c43_1 (by decide) (by decide) rfl (by decide) ?_
            refine g_aload hX dX7_told_106 (j := 0) rfl ?_
            have tf108 := (tyF (k := 1) hW ta39 (by decide) rfl (by decide) : KA (r (r (r (r p0 0) 2) (ix a1)) 1) = 9 ∧ ok (r (r (r (r p0 0) 2) (ix a1)) 1))
            refine gf_X7_91 hX dX7_told_108 (ty1 hW ta39) (hW.1 _ tf108.2).1 ?_
            refine g_iload_n hX dX7_told_111 (i := 2) rfl (j := 3) rfl ?_
            obtain ⟨g112, hF⟩ := gd_some hF
            refine g_iald hX dX7_told_112 tf108.1 (hW.1 _ tf108.2).1 (hW.1 _ tf108.2).2 g112 ?_
            obtain rfl := Option.some.inj hF
            exact g_iret hX dX7_told_113 hR
          have hF := ite_f hF c43_1
          by_cases c43_2 : a3 = 2
          · have hF := ite_t hF c43_2
            refine g_tin (tgt := 114) hX dX7_told_43 c43_2 (by decide) (by decide) rfl (by decide) ?_
            refine g_aload hX dX7_told_114 (j := 0) rfl ?_
            have tf116 := (tyF (k := 2) hW ta39 (by decide) rfl (by decide) : KA (r (r (r (r p0 0) 2) (ix a1)) 2) = 9 ∧ ok (r (r (r (r p0 0) 2) (ix a1)) 2))
            refine gf_X7_95 hX dX7_told_116 (ty1 hW ta39) (hW.1 _ tf116.2).1 ?_
            refine g_iload_n hX dX7_told_119 (i := 2) rfl (j := 3) rfl ?_
            obtain ⟨g120, hF⟩ := gd_some hF
            refine g_iald hX dX7_told_120 tf116.1 (hW.1 _ tf116.2).1 (hW.1 _ tf116.2).2 g120 ?_
            obtain rfl := Option.some.inj hF
            exact g_iret hX dX7_told_121 hR
          have hF := ite_f hF c43_2
          by_cases c43_3 : a3 = 3
          · have hF := ite_t hF c43_3
            refine g_tin (tgt := 122) hX dX7_told_43 c43_3 (by decide) (by decide) rfl (by decide) ?_
            refine g_aload hX dX7_told_122 (j := 0) rfl ?_
            have tf124 := (tyF (k := 3) hW ta39 (by decide) rfl (by decide) : KA (r (r (r (r p0 0) 2) (ix a1)) 3) = 9 ∧ ok (r (r (r (r p0 0) 2) (ix a1)) 3))
            refine gf_X7_98 hX dX7_told_124 (ty1 hW ta39) (hW.1 _ tf124.2).1 ?_
            refine g_iload_n hX dX7_told_127 (i := 2) rfl (j := 3) rfl ?_
            obtain ⟨g128, hF⟩ := gd_some hF
            refine g_iald hX dX7_told_128 tf124.1 (hW.1 _ tf124.2).1 (hW.1 _ tf124.2).2 g128 ?_
            obtain rfl := Option.some.inj hF
            exact g_iret hX dX7_told_129 hR
          have hF := ite_f hF c43_3
          by_cases c43_4 : a3 = 4
          · have hF := ite_t hF c43_4
            refine g_tin (tgt := 130) hX dX7_told_43 c43_4 (by decide) (by decide) rfl (by decide) ?_
            refine g_aload hX dX7_told_130 (j := 0) rfl ?_
            refine g_iload_n hX dX7_told_132 (i := 2) rfl (j := 3) rfl ?_
            obtain ⟨v133, e133, hF⟩ := bi_some hF
            refine g_callV (As := [.int a2]) (rest := []) (stk := [.int v133]) hX dX7_told_133 (ctX5_innerOnes hM hW (r (r (r p0 0) 2) (ix a1)) a2 ta39 e133) (by decide) (by decide) wm_X7_101 wi_X5_innerOnes ws_X5_innerOnes wz_X5 wc_X5_innerOnes hyX5_innerOnes rfl (ci := 5) rfl (by decide) ta39.1 (hW.1 _ ta39.2).1 (hW.1 _ ta39.2).2 (Nat.le_of_ble_eq_true rfl) rfl rfl ?_ rfl rfl
            obtain rfl := Option.some.inj hF
            exact g_iret hX dX7_told_136 hR
          have hF := ite_f hF c43_4
          by_cases c43_5 : a3 = 5
          · have hF := ite_t hF c43_5
            refine g_tin (tgt := 137) hX dX7_told_43 c43_5 (by decide) (by decide) rfl (by decide) ?_
            refine g_aload hX dX7_told_137 (j := 0) rfl ?_
            refine g_iload_n hX dX7_told_139 (i := 2) rfl (j := 3) rfl ?_
            obtain ⟨v140, e140, hF⟩ := bi_some hF
            refine g_callV (As := [.int a2]) (rest := []) (stk := [.int v140]) hX dX7_told_140 (ctX5_depth hM hW (r (r (r p0 0) 2) (ix a1)) a2 ta39 e140) (by decide) (by decide) wm_X7_105 wi_X5_depth ws_X5_depth wz_X5 wc_X5_depth hyX5_depth rfl (ci := 5) rfl (by decide) ta39.1 (hW.1 _ ta39.2).1 (hW.1 _ ta39.2).2 (Nat.le_of_ble_eq_true rfl) rfl rfl ?_ rfl rfl
            obtain rfl := Option.some.inj hF
            exact g_iret hX dX7_told_143 hR
          have hF := ite_f hF c43_5
          by_cases c43_6 : a3 = 6
          · have hF := ite_t hF c43_6
            refine g_tin (tgt := 170) hX dX7_told_43 c43_6 (by decide) (by decide) rfl (by decide) ?_
            refine g_aload_n hX dX7_told_170 (i := 0) rfl (j := 1) rfl ?_
            have tf171 := (tyF (k := 5) hW t0 (by decide) rfl (by decide) : KA (r p0 5) = 0 ∧ ok (r p0 5))
            refine gf_X7_38 hX dX7_told_171 (ty1 hW t0) (hW.1 _ tf171.2).1 ?_
            refine g_aload_n hX dX7_told_174 (i := 0) rfl (j := 1) rfl ?_
            have tf175 := (tyF (k := 0) hW t0 (by decide) rfl (by decide) : KA (r p0 0) = 6 ∧ ok (r p0 0))
            refine gf_X7_12 hX dX7_told_175 (ty1 hW t0) (hW.1 _ tf175.2).1 ?_
            obtain ⟨h178, e178, hF⟩ := bi_some hF
            refine g_callV (As := [.ref (b + (r p0 0))]) (rest := []) (stk := []) hX dX7_told_178 (ctX0_compare hM hW hA (r p0 5) (r p0 0) tf171 tf175 e178) (by decide) (by decide) wm_X7_116 wi_X0_compare ws_X0_compare wz_X0 wc_X0_compare hyX0_compare rfl (ci := 0) rfl (by decide) tf171.1 (hW.1 _ tf171.2).1 (hW.1 _ tf171.2).2 (Nat.le_of_ble_eq_true rfl) rfl rfl ?_ rfl rfl
            refine g_iload_n hX dX7_told_181 (i := 3) rfl (j := 4) rfl ?_
            refine g_bipush (v := 8) hX dX7_told_182 (by decide) ?_
            refine g_icmp_ne (tgt := 200) hX dX7_told_184 (by decide) (fun c184 => ?_) (fun c184 => ?_)
            · have hF := ite_t hF c184
              refine g_iload_n hX dX7_told_200 (i := 1) rfl (j := 2) rfl ?_
              refine g_iconst (v := 2) hX dX7_told_201 (by decide) ?_
              refine g_icmp_ne (tgt := 209) hX dX7_told_202 (by decide) (fun c202 => ?_) (fun c202 => ?_)
              · have hF := ite_t hF c202
                refine g_aload_n hX dX7_told_209 (i := 0) rfl (j := 1) rfl ?_
                have tf210 := (tyF (k := 5) hW t0 (by decide) rfl (by decide) : KA (r p0 5) = 0 ∧ ok (r p0 5))
                refine gf_X7_38 hX dX7_told_210 (ty1 hW t0) (hW.1 _ tf210.2).1 ?_
                have tf213 := (tyF (k := 2) hW tf210 (by decide) rfl (by decide) : KA (r (r p0 5) 2) = 14 ∧ ok (r (r p0 5) 2))
                refine gf_X7_122 hX dX7_told_213 (ty1 hW tf210) (hW.1 _ tf213.2).1 ?_
                refine g_iload_n hX dX7_told_216 (i := 1) rfl (j := 2) rfl ?_
                obtain ⟨g217, hF⟩ := gd_some hF
                have ta217 : KA (r (r (r p0 5) 2) (ix a1)) = 9 ∧ ok (r (r (r p0 5) 2) (ix a1)) := tyA hW tf213 (by decide) rfl (by decide) g217
                refine g_aald hX dX7_told_217 tf213.1 (by decide) (by decide) (hW.1 _ tf213.2).1 (hW.1 _ tf213.2).2 g217 (hW.1 _ ta217.2).1 ?_
                refine g_iload_n hX dX7_told_218 (i := 2) rfl (j := 3) rfl ?_
                obtain ⟨g219, hF⟩ := gd_some hF
                refine g_iald hX dX7_told_219 ta217.1 (hW.1 _ ta217.2).1 (hW.1 _ ta217.2).2 g219 ?_
                obtain rfl := Option.some.inj hF
                exact g_iret hX dX7_told_220 hR
              · have hF := ite_f hF (fun z => z c202)
                refine g_iconst (v := 0) hX dX7_told_205 (by decide) ?_
                refine g_goto (tgt := 220) hX dX7_told_206 (by decide) ?_
                obtain rfl := Option.some.inj hF
                exact g_iret hX dX7_told_220 hR
            · have hF := ite_f hF (fun z => z c184)
              refine g_aload_n hX dX7_told_187 (i := 0) rfl (j := 1) rfl ?_
              have tf188 := (tyF (k := 5) hW t0 (by decide) rfl (by decide) : KA (r p0 5) = 0 ∧ ok (r p0 5))
              refine gf_X7_38 hX dX7_told_188 (ty1 hW t0) (hW.1 _ tf188.2).1 ?_
              have tf191 := (tyF (k := 1) hW tf188 (by decide) rfl (by decide) : KA (r (r p0 5) 1) = 10 ∧ ok (r (r p0 5) 1))
              refine gf_X7_119 hX dX7_told_191 (ty1 hW tf188) (hW.1 _ tf191.2).1 ?_
              refine g_iload_n hX dX7_told_194 (i := 2) rfl (j := 3) rfl ?_
              obtain ⟨g195, hF⟩ := gd_some hF
              refine g_bald hX dX7_told_195 tf191.1 (hW.1 _ tf191.2).1 (hW.1 _ tf191.2).2 g195 ?_
              obtain ⟨v196, e196, hF⟩ := bi_some hF
              refine g_callS (As := [.int (h178 (r (r p0 5) 1) (ix a2))]) (rest := []) (stk := [.int v196]) hX dX7_told_196 (ctX7_bit hM hW (h178 (r (r p0 5) 1) (ix a2)) e196) (by decide) (by decide) wm_X7_87 wt_X7_bit wz_X7 wc_X7_bit hyX7_bit rfl (Nat.le_of_ble_eq_true rfl) rfl rfl ?_ rfl rfl
              obtain rfl := Option.some.inj hF
              exact g_iret hX dX7_told_199 hR
          have hF := ite_f hF c43_6
          by_cases c43_7 : a3 = 7
          · have hF := ite_t hF c43_7
            refine g_tin (tgt := 144) hX dX7_told_43 c43_7 (by decide) (by decide) rfl (by decide) ?_
            refine g_aload_n hX dX7_told_144 (i := 0) rfl (j := 1) rfl ?_
            have tf145 := (tyF (k := 0) hW t0 (by decide) rfl (by decide) : KA (r p0 0) = 6 ∧ ok (r p0 0))
            refine gf_X7_12 hX dX7_told_145 (ty1 hW t0) (hW.1 _ tf145.2).1 ?_
            refine g_iload_n hX dX7_told_148 (i := 1) rfl (j := 2) rfl ?_
            refine g_iload_n hX dX7_told_149 (i := 2) rfl (j := 3) rfl ?_
            obtain ⟨v150, h150, e150, hF⟩ := bi2_some hF
            refine g_callV (As := [.int a1, .int a2]) (rest := []) (stk := [.int v150]) hX dX7_told_150 (ctX6_isIgnoredThere hM hW (r p0 0) a1 a2 tf145 e150) (by decide) (by decide) wm_X7_108 wi_X6_isIgnoredThere ws_X6_isIgnoredThere wz_X6 wc_X6_isIgnoredThere hyX6_isIgnoredThere rfl (ci := 6) rfl (by decide) tf145.1 (hW.1 _ tf145.2).1 (hW.1 _ tf145.2).2 (Nat.le_of_ble_eq_true rfl) rfl rfl ?_ rfl rfl
            obtain ⟨v153, e153, hF⟩ := bi_some hF
            refine g_callS (As := [.int v150]) (rest := []) (stk := [.int v153]) hX dX7_told_153 (ctX7_bit hM hW v150 e153) (by decide) (by decide) wm_X7_87 wt_X7_bit wz_X7 wc_X7_bit hyX7_bit rfl (Nat.le_of_ble_eq_true rfl) rfl rfl ?_ rfl rfl
            obtain rfl := Option.some.inj hF
            exact g_iret hX dX7_told_156 hR
          have hF := ite_f hF c43_7
          by_cases c43_8 : a3 = 8
          · have hF := ite_t hF c43_8
            refine g_tin (tgt := 170) hX dX7_told_43 c43_8 (by decide) (by decide) rfl (by decide) ?_
            refine g_aload_n hX dX7_told_170 (i := 0) rfl (j := 1) rfl ?_
            have tf171 := (tyF (k := 5) hW t0 (by decide) rfl (by decide) : KA (r p0 5) = 0 ∧ ok (r p0 5))
            refine gf_X7_38 hX dX7_told_171 (ty1 hW t0) (hW.1 _ tf171.2).1 ?_
            refine g_aload_n hX dX7_told_174 (i := 0) rfl (j := 1) rfl ?_
            have tf175 := (tyF (k := 0) hW t0 (by decide) rfl (by decide) : KA (r p0 0) = 6 ∧ ok (r p0 0))
            refine gf_X7_12 hX dX7_told_175 (ty1 hW t0) (hW.1 _ tf175.2).1 ?_
            obtain ⟨h178, e178, hF⟩ := bi_some hF
            refine g_callV (As := [.ref (b + (r p0 0))]) (rest := []) (stk := []) hX dX7_told_178 (ctX0_compare hM hW hA (r p0 5) (r p0 0) tf171 tf175 e178) (by decide) (by decide) wm_X7_116 wi_X0_compare ws_X0_compare wz_X0 wc_X0_compare hyX0_compare rfl (ci := 0) rfl (by decide) tf171.1 (hW.1 _ tf171.2).1 (hW.1 _ tf171.2).2 (Nat.le_of_ble_eq_true rfl) rfl rfl ?_ rfl rfl
            refine g_iload_n hX dX7_told_181 (i := 3) rfl (j := 4) rfl ?_
            refine g_bipush (v := 8) hX dX7_told_182 (by decide) ?_
            refine g_icmp_ne (tgt := 200) hX dX7_told_184 (by decide) (fun c184 => ?_) (fun c184 => ?_)
            · have hF := ite_t hF c184
              refine g_iload_n hX dX7_told_200 (i := 1) rfl (j := 2) rfl ?_
              refine g_iconst (v := 2) hX dX7_told_201 (by decide) ?_
              refine g_icmp_ne (tgt := 209) hX dX7_told_202 (by decide) (fun c202 => ?_) (fun c202 => ?_)
              · have hF := ite_t hF c202
                refine g_aload_n hX dX7_told_209 (i := 0) rfl (j := 1) rfl ?_
                have tf210 := (tyF (k := 5) hW t0 (by decide) rfl (by decide) : KA (r p0 5) = 0 ∧ ok (r p0 5))
                refine gf_X7_38 hX dX7_told_210 (ty1 hW t0) (hW.1 _ tf210.2).1 ?_
                have tf213 := (tyF (k := 2) hW tf210 (by decide) rfl (by decide) : KA (r (r p0 5) 2) = 14 ∧ ok (r (r p0 5) 2))
                refine gf_X7_122 hX dX7_told_213 (ty1 hW tf210) (hW.1 _ tf213.2).1 ?_
                refine g_iload_n hX dX7_told_216 (i := 1) rfl (j := 2) rfl ?_
                obtain ⟨g217, hF⟩ := gd_some hF
                have ta217 : KA (r (r (r p0 5) 2) (ix a1)) = 9 ∧ ok (r (r (r p0 5) 2) (ix a1)) := tyA hW tf213 (by decide) rfl (by decide) g217
                refine g_aald hX dX7_told_217 tf213.1 (by decide) (by decide) (hW.1 _ tf213.2).1 (hW.1 _ tf213.2).2 g217 (hW.1 _ ta217.2).1 ?_
                refine g_iload_n hX dX7_told_218 (i := 2) rfl (j := 3) rfl ?_
                obtain ⟨g219, hF⟩ := gd_some hF
                refine g_iald hX dX7_told_219 ta217.1 (hW.1 _ ta217.2).1 (hW.1 _ ta217.2).2 g219 ?_
                obtain rfl := Option.some.inj hF
                exact g_iret hX dX7_told_220 hR
              · have hF := ite_f hF (fun z => z c202)
                refine g_iconst (v := 0) hX dX7_told_205 (by decide) ?_
                refine g_goto (tgt := 220) hX dX7_told_206 (by decide) ?_
                obtain rfl := Option.some.inj hF
                exact g_iret hX dX7_told_220 hR
            · have hF := ite_f hF (fun z => z c184)
              refine g_aload_n hX dX7_told_187 (i := 0) rfl (j := 1) rfl ?_
              have tf188 := (tyF (k := 5) hW t0 (by decide) rfl (by decide) : KA (r p0 5) = 0 ∧ ok (r p0 5))
              refine gf_X7_38 hX dX7_told_188 (ty1 hW t0) (hW.1 _ tf188.2).1 ?_
              have tf191 := (tyF (k := 1) hW tf188 (by decide) rfl (by decide) : KA (r (r p0 5) 1) = 10 ∧ ok (r (r p0 5) 1))
              refine gf_X7_119 hX dX7_told_191 (ty1 hW tf188) (hW.1 _ tf191.2).1 ?_
              refine g_iload_n hX dX7_told_194 (i := 2) rfl (j := 3) rfl ?_
              obtain ⟨g195, hF⟩ := gd_some hF
              refine g_bald hX dX7_told_195 tf191.1 (hW.1 _ tf191.2).1 (hW.1 _ tf191.2).2 g195 ?_
              obtain ⟨v196, e196, hF⟩ := bi_some hF
              refine g_callS (As := [.int (h178 (r (r p0 5) 1) (ix a2))]) (rest := []) (stk := [.int v196]) hX dX7_told_196 (ctX7_bit hM hW (h178 (r (r p0 5) 1) (ix a2)) e196) (by decide) (by decide) wm_X7_87 wt_X7_bit wz_X7 wc_X7_bit hyX7_bit rfl (Nat.le_of_ble_eq_true rfl) rfl rfl ?_ rfl rfl
              obtain rfl := Option.some.inj hF
              exact g_iret hX dX7_told_199 hR
          have hF := ite_f hF c43_8
          by_cases c43_9 : a3 = 9
          · have hF := ite_t hF c43_9
            refine g_tin (tgt := 157) hX dX7_told_43 c43_9 (by decide) (by decide) rfl (by decide) ?_
            refine g_aload_n hX dX7_told_157 (i := 0) rfl (j := 1) rfl ?_
            have tf158 := (tyF (k := 0) hW t0 (by decide) rfl (by decide) : KA (r p0 0) = 6 ∧ ok (r p0 0))
            refine gf_X7_12 hX dX7_told_158 (ty1 hW t0) (hW.1 _ tf158.2).1 ?_
            have tf161 := (tyF (k := 1) hW tf158 (by decide) rfl (by decide) : KA (r (r p0 0) 1) = 10 ∧ ok (r (r p0 0) 1))
            refine gf_X7_112 hX dX7_told_161 (ty1 hW tf158) (hW.1 _ tf161.2).1 ?_
            refine g_iload_n hX dX7_told_164 (i := 2) rfl (j := 3) rfl ?_
            obtain ⟨g165, hF⟩ := gd_some hF
            refine g_bald hX dX7_told_165 tf161.1 (hW.1 _ tf161.2).1 (hW.1 _ tf161.2).2 g165 ?_
            obtain ⟨v166, e166, hF⟩ := bi_some hF
            refine g_callS (As := [.int (h (r (r p0 0) 1) (ix a2))]) (rest := []) (stk := [.int v166]) hX dX7_told_166 (ctX7_bit hM hW (h (r (r p0 0) 1) (ix a2)) e166) (by decide) (by decide) wm_X7_87 wt_X7_bit wz_X7 wc_X7_bit hyX7_bit rfl (Nat.le_of_ble_eq_true rfl) rfl rfl ?_ rfl rfl
            obtain rfl := Option.some.inj hF
            exact g_iret hX dX7_told_169 hR
          have hF := ite_f hF c43_9
          have n43_0 := lv_neT c43_0 (a := 0) (by decide)
          have n43_1 := lv_neT c43_1 (a := 1) (by decide)
          have n43_2 := lv_neT c43_2 (a := 2) (by decide)
          have n43_3 := lv_neT c43_3 (a := 3) (by decide)
          have n43_4 := lv_neT c43_4 (a := 4) (by decide)
          have n43_5 := lv_neT c43_5 (a := 5) (by decide)
          have n43_6 := lv_neT c43_6 (a := 6) (by decide)
          have n43_7 := lv_neT c43_7 (a := 7) (by decide)
          have n43_8 := lv_neT c43_8 (a := 8) (by decide)
          have n43_9 := lv_neT c43_9 (a := 9) (by decide)
          refine g_tout (tgt := 170) hX dX7_told_43 (by omega) (by decide) ?_
          refine g_aload_n hX dX7_told_170 (i := 0) rfl (j := 1) rfl ?_
          have tf171 := (tyF (k := 5) hW t0 (by decide) rfl (by decide) : KA (r p0 5) = 0 ∧ ok (r p0 5))
          refine gf_X7_38 hX dX7_told_171 (ty1 hW t0) (hW.1 _ tf171.2).1 ?_
          refine g_aload_n hX dX7_told_174 (i := 0) rfl (j := 1) rfl ?_
          have tf175 := (tyF (k := 0) hW t0 (by decide) rfl (by decide) : KA (r p0 0) = 6 ∧ ok (r p0 0))
          refine gf_X7_12 hX dX7_told_175 (ty1 hW t0) (hW.1 _ tf175.2).1 ?_
          obtain ⟨h178, e178, hF⟩ := bi_some hF
          refine g_callV (As := [.ref (b + (r p0 0))]) (rest := []) (stk := []) hX dX7_told_178 (ctX0_compare hM hW hA (r p0 5) (r p0 0) tf171 tf175 e178) (by decide) (by decide) wm_X7_116 wi_X0_compare ws_X0_compare wz_X0 wc_X0_compare hyX0_compare rfl (ci := 0) rfl (by decide) tf171.1 (hW.1 _ tf171.2).1 (hW.1 _ tf171.2).2 (Nat.le_of_ble_eq_true rfl) rfl rfl ?_ rfl rfl
          refine g_iload_n hX dX7_told_181 (i := 3) rfl (j := 4) rfl ?_
          refine g_bipush (v := 8) hX dX7_told_182 (by decide) ?_
          refine g_icmp_ne (tgt := 200) hX dX7_told_184 (by decide) (fun c184 => ?_) (fun c184 => ?_)
          · have hF := ite_t hF c184
            refine g_iload_n hX dX7_told_200 (i := 1) rfl (j := 2) rfl ?_
            refine g_iconst (v := 2) hX dX7_told_201 (by decide) ?_
            refine g_icmp_ne (tgt := 209) hX dX7_told_202 (by decide) (fun c202 => ?_) (fun c202 => ?_)
            · have hF := ite_t hF c202
              refine g_aload_n hX dX7_told_209 (i := 0) rfl (j := 1) rfl ?_
              have tf210 := (tyF (k := 5) hW t0 (by decide) rfl (by decide) : KA (r p0 5) = 0 ∧ ok (r p0 5))
              refine gf_X7_38 hX dX7_told_210 (ty1 hW t0) (hW.1 _ tf210.2).1 ?_
              have tf213 := (tyF (k := 2) hW tf210 (by decide) rfl (by decide) : KA (r (r p0 5) 2) = 14 ∧ ok (r (r p0 5) 2))
              refine gf_X7_122 hX dX7_told_213 (ty1 hW tf210) (hW.1 _ tf213.2).1 ?_
              refine g_iload_n hX dX7_told_216 (i := 1) rfl (j := 2) rfl ?_
              obtain ⟨g217, hF⟩ := gd_some hF
              have ta217 : KA (r (r (r p0 5) 2) (ix a1)) = 9 ∧ ok (r (r (r p0 5) 2) (ix a1)) := tyA hW tf213 (by decide) rfl (by decide) g217
              refine g_aald hX dX7_told_217 tf213.1 (by decide) (by decide) (hW.1 _ tf213.2).1 (hW.1 _ tf213.2).2 g217 (hW.1 _ ta217.2).1 ?_
              refine g_iload_n hX dX7_told_218 (i := 2) rfl (j := 3) rfl ?_
              obtain ⟨g219, hF⟩ := gd_some hF
              refine g_iald hX dX7_told_219 ta217.1 (hW.1 _ ta217.2).1 (hW.1 _ ta217.2).2 g219 ?_
              obtain rfl := Option.some.inj hF
              exact g_iret hX dX7_told_220 hR
            · have hF := ite_f hF (fun z => z c202)
              refine g_iconst (v := 0) hX dX7_told_205 (by decide) ?_
              refine g_goto (tgt := 220) hX dX7_told_206 (by decide) ?_
              obtain rfl := Option.some.inj hF
              exact g_iret hX dX7_told_220 hR
          · have hF := ite_f hF (fun z => z c184)
            refine g_aload_n hX dX7_told_187 (i := 0) rfl (j := 1) rfl ?_
            have tf188 := (tyF (k := 5) hW t0 (by decide) rfl (by decide) : KA (r p0 5) = 0 ∧ ok (r p0 5))
            refine gf_X7_38 hX dX7_told_188 (ty1 hW t0) (hW.1 _ tf188.2).1 ?_
            have tf191 := (tyF (k := 1) hW tf188 (by decide) rfl (by decide) : KA (r (r p0 5) 1) = 10 ∧ ok (r (r p0 5) 1))
            refine gf_X7_119 hX dX7_told_191 (ty1 hW tf188) (hW.1 _ tf191.2).1 ?_
            refine g_iload_n hX dX7_told_194 (i := 2) rfl (j := 3) rfl ?_
            obtain ⟨g195, hF⟩ := gd_some hF
            refine g_bald hX dX7_told_195 tf191.1 (hW.1 _ tf191.2).1 (hW.1 _ tf191.2).2 g195 ?_
            obtain ⟨v196, e196, hF⟩ := bi_some hF
            refine g_callS (As := [.int (h178 (r (r p0 5) 1) (ix a2))]) (rest := []) (stk := [.int v196]) hX dX7_told_196 (ctX7_bit hM hW (h178 (r (r p0 5) 1) (ix a2)) e196) (by decide) (by decide) wm_X7_87 wt_X7_bit wz_X7 wc_X7_bit hyX7_bit rfl (Nat.le_of_ble_eq_true rfl) rfl rfl ?_ rfl rfl
            obtain rfl := Option.some.inj hF
            exact g_iret hX dX7_told_199 hR
        · have hF := ite_f hF c25
          refine g_bipush (v := (-2)) hX dX7_told_28 (by decide) ?_
          obtain rfl := Option.some.inj hF
          exact g_iret hX dX7_told_30 hR
theorem ctX7_told {b N sz : Nat} {ok : Nat → Prop} {h : HH} {r : RR} {w : Int32 × HH} (hM : N ≤ MA) (hW : WT KA lnA ok N r) (hA : ∀ p, KA p < 16 → ok p) (p0 : Nat) (a1 : Int32) (a2 : Int32) (a3 : Int32) (t0 : KA p0 = 7 ∧ ok p0) (hF : fX7_told h r p0 a1 a2 a3 = some w) : CT yX7_told cX7_told 5 (some FieldType.int) 5 b KA lnA MA N sz [.ref (b + p0), .int a1, .int a2, .int a3] h r N sz (some (.int w.1)) w.2 r 0 0 :=
  CT_of (by decide) rfl (Nat.le_of_ble_eq_true rfl) (by decide) trivial (fun X hX hR => kX7_told hX hM hW hA p0 a1 a2 a3 t0 hR hF)
