/-! X8_isInRing -/
def fX8_isInRing_b9 (h : HH) (r : RR) (p0 : Nat) (a1 : Int32) : Nat → Int32 → Int32 → Option (Int32)
  | 0, _, _ => none
  | n + 1, x2, x3 => if 30 ≤ x3 then (some (0)) else (if x2 = (-1) then (some (0)) else (if ¬ x2 = a1 then (gd (inb x2 (lnM (r p0 32))) (lt (h (r p0 32) (ix x2)) (fun y33 => fX8_isInRing_b9 h r p0 a1 n y33 (x3 + 1)))) else (some (1))))
def fX8_isInRing (h : HH) (r : RR) (p0 : Nat) (a1 : Int32) : Option (Int32) := gd (inb a1 (lnM (r p0 32))) (lt (h (r p0 32) (ix a1)) (fun y6 => fX8_isInRing_b9 h r p0 a1 lpF y6 0))
set_option maxRecDepth 100000 in
set_option maxHeartbeats 4000000 in
theorem kX8_isInRing_b9 {X : XT} {b N sz : Nat} {ok : Nat → Prop} {h : HH} {r : RR} {w : Int32} (hX : XOK X RX8 cX8_isInRing 4 1) (hM : N ≤ MM) (hW : WT KM lnM ok N r) (p0 : Nat) (a1 : Int32) (t0 : KM p0 = 8 ∧ ok p0) (hR : XR X b KM lnM MM (some FieldType.boolean) 0 0 N sz (some (.int w)) h r) : ∀ (n : Nat) (x2 : Int32) (x3 : Int32), fX8_isInRing_b9 h r p0 a1 n x2 x3 = some w → GX X b KM lnM MM 4 0 0 N sz 9 [(0, .ref (b + p0)), (1, .int a1), (2, .int x2), (3, .int x3)] [] h r := by
  intro n
  induction n with
  | zero =>
    intro x2 x3 hF
    cases hF
  | succ n ih =>
    intro x2 x3 hF
    rw [fX8_isInRing_b9] at hF
    refine g_iload_n hX dX8_isInRing_9 (i := 3) rfl (j := 3) rfl ?_
    refine g_bipush (v := 30) hX dX8_isInRing_10 (by decide) ?_
    refine g_icmp_ge (tgt := 40) hX dX8_isInRing_12 (by decide) (fun c12 => ?_) (fun c12 => ?_)
    · have hF := ite_t hF c12
      refine g_iconst (v := 0) hX dX8_isInRing_40 (by decide) ?_
      obtain rfl := Option.some.inj hF
      exact g_zret hX dX8_isInRing_41 (by decide) hR
    · have hF := ite_f hF c12
      refine g_iload_n hX dX8_isInRing_15 (i := 2) rfl (j := 2) rfl ?_
      refine g_iconst (v := (-1)) hX dX8_isInRing_16 (by decide) ?_
      refine g_icmp_eq (tgt := 40) hX dX8_isInRing_17 (by decide) (fun c17 => ?_) (fun c17 => ?_)
      · have hF := ite_t hF c17
        refine g_iconst (v := 0) hX dX8_isInRing_40 (by decide) ?_
        obtain rfl := Option.some.inj hF
        exact g_zret hX dX8_isInRing_41 (by decide) hR
      · have hF := ite_f hF c17
        refine g_iload_n hX dX8_isInRing_20 (i := 2) rfl (j := 2) rfl ?_
        refine g_iload_n hX dX8_isInRing_21 (i := 1) rfl (j := 1) rfl ?_
        refine g_icmp_ne (tgt := 27) hX dX8_isInRing_22 (by decide) (fun c22 => ?_) (fun c22 => ?_)
        · have hF := ite_t hF c22
          refine g_aload_n hX dX8_isInRing_27 (i := 0) rfl (j := 0) rfl ?_
          have tf28 := (tyF (k := 32) hW t0 (by decide) rfl (by decide) : KM (r p0 32) = 9 ∧ ok (r p0 32))
          refine gf_X8_70 hX dX8_isInRing_28 (ty1 hW t0) (hW.1 _ tf28.2).1 ?_
          refine g_iload_n hX dX8_isInRing_31 (i := 2) rfl (j := 2) rfl ?_
          obtain ⟨g32, hF⟩ := gd_some hF
          refine g_iald hX dX8_isInRing_32 tf28.1 (hW.1 _ tf28.2).1 (hW.1 _ tf28.2).2 g32 ?_
          obtain ⟨y33, e33, hF⟩ := lt_some hF
          refine g_topi e33 ?_
          refine g_istore_n (L' := [(2, .int y33), (0, .ref (b + p0)), (1, .int a1), (3, .int x3)]) hX dX8_isInRing_33 (i := 2) rfl (by decide) rfl ?_
          refine g_iinc (L' := [(3, .int (x3 + 1)), (2, .int y33), (0, .ref (b + p0)), (1, .int a1)]) (j := 3) hX dX8_isInRing_34 rfl rfl (by decide) rfl ?_
          refine g_goto (tgt := 9) hX dX8_isInRing_37 (by decide) ?_
          refine g_sub (L' := [(0, .ref (b + p0)), (1, .int a1), (2, .int y33), (3, .int (x3 + 1))]) [2, 3, 1, 0] rfl ?_
          exact ih y33 (x3 + 1) hF
        · have hF := ite_f hF (fun z => z c22)
          refine g_iconst (v := 1) hX dX8_isInRing_25 (by decide) ?_
          obtain rfl := Option.some.inj hF
          exact g_zret hX dX8_isInRing_26 (by decide) hR
set_option maxRecDepth 100000 in
set_option maxHeartbeats 4000000 in
theorem kX8_isInRing {X : XT} {b N sz : Nat} {ok : Nat → Prop} {h : HH} {r : RR} {w : Int32} (hX : XOK X RX8 cX8_isInRing 4 1) (hM : N ≤ MM) (hW : WT KM lnM ok N r) (p0 : Nat) (a1 : Int32) (t0 : KM p0 = 8 ∧ ok p0) (hR : XR X b KM lnM MM (some FieldType.boolean) 0 0 N sz (some (.int w)) h r) (hF : fX8_isInRing h r p0 a1 = some w) : GX X b KM lnM MM 4 0 0 N sz 0 [(0, .ref (b + p0)), (1, .int a1)] [] h r := by
  rw [fX8_isInRing] at hF
  refine g_aload_n hX dX8_isInRing_0 (i := 0) rfl (j := 0) rfl ?_
  have tf1 := (tyF (k := 32) hW t0 (by decide) rfl (by decide) : KM (r p0 32) = 9 ∧ ok (r p0 32))
  refine gf_X8_70 hX dX8_isInRing_1 (ty1 hW t0) (hW.1 _ tf1.2).1 ?_
  refine g_iload_n hX dX8_isInRing_4 (i := 1) rfl (j := 1) rfl ?_
  obtain ⟨g5, hF⟩ := gd_some hF
  refine g_iald hX dX8_isInRing_5 tf1.1 (hW.1 _ tf1.2).1 (hW.1 _ tf1.2).2 g5 ?_
  obtain ⟨y6, e6, hF⟩ := lt_some hF
  refine g_topi e6 ?_
  refine g_istore_n (L' := [(2, .int y6), (0, .ref (b + p0)), (1, .int a1)]) hX dX8_isInRing_6 (i := 2) rfl (by decide) rfl ?_
  refine g_iconst (v := 0) hX dX8_isInRing_7 (by decide) ?_
  refine g_istore_n (L' := [(3, .int 0), (2, .int y6), (0, .ref (b + p0)), (1, .int a1)]) hX dX8_isInRing_8 (i := 3) rfl (by decide) rfl ?_
  refine g_sub (L' := [(0, .ref (b + p0)), (1, .int a1), (2, .int y6), (3, .int 0)]) [2, 3, 1, 0] rfl ?_
  exact kX8_isInRing_b9 hX hM hW p0 a1 t0 hR lpF y6 0 hF
theorem ctX8_isInRing {b N sz : Nat} {ok : Nat → Prop} {h : HH} {r : RR} {w : Int32} (hM : N ≤ MM) (hW : WT KM lnM ok N r) (p0 : Nat) (a1 : Int32) (t0 : KM p0 = 8 ∧ ok p0) (hF : fX8_isInRing h r p0 a1 = some w) : CT yX8_isInRing cX8_isInRing 4 (some FieldType.boolean) 1 b KM lnM MM N sz [.ref (b + p0), .int a1] h r N sz (some (.int w)) h r 0 0 :=
  CT_of (by decide) rfl (Nat.le_of_ble_eq_true rfl) (by decide) trivial (fun X hX hR => kX8_isInRing hX hM hW p0 a1 t0 hR hF)
/-! X8_breaksRings -/
def fX8_breaksRings_b38 (r : RR) (p0 : Nat) (k2 : HH → Int32 → Option (HH)) (k11 : HH → Int32 → Int32 → Option (HH)) (h : HH) (x1 : Int32) (x2 : Int32) : Option (HH) := k11 h x1 (x2 + 1)
def fX8_breaksRings_b11 (r : RR) (p0 : Nat) (k2 : HH → Int32 → Option (HH)) : Nat → HH → Int32 → Int32 → Option (HH)
  | 0, _, _, _ => none
  | n + 1, h, x1, x2 => if (h p0 27) ≤ x2 then (if ¬ x1 = (-1) then (gd (inb x1 (lnM (r p0 32))) (lt (up h (r p0 32) (ix x1) (-1)) (fun h56 => (fX8_clashes h56 r p0 4 x1).bind (fun h60 => k2 h60 x1)))) else (some h)) else (gd (inb x2 (lnM (r p0 30))) (if (h (r p0 30) (ix x2)) = 0 then (fX8_breaksRings_b38 r p0 k2 (fun h_ z1_ z2_ => fX8_breaksRings_b11 r p0 k2 n h_ z1_ z2_) h x1 x2) else ((fX8_isInRing h r p0 x2).bind (fun v30 => if v30 = 0 then (fX8_breaksRings_b38 r p0 k2 (fun h_ z1_ z2_ => fX8_breaksRings_b11 r p0 k2 n h_ z1_ z2_) h x1 x2) else (fX8_breaksRings_b38 r p0 k2 (fun h_ z1_ z2_ => fX8_breaksRings_b11 r p0 k2 n h_ z1_ z2_) h x2 x2)))))
def fX8_breaksRings_b2 (r : RR) (p0 : Nat) : Nat → HH → Int32 → Option (HH)
  | 0, _, _ => none
  | n + 1, h, x1 => if x1 = (-1) then (some h) else (fX8_breaksRings_b11 r p0 (fun h_ z1_ => fX8_breaksRings_b2 r p0 n h_ z1_) lpF h (-1) 0)
def fX8_breaksRings (h : HH) (r : RR) (p0 : Nat) : Option (HH) := fX8_breaksRings_b2 r p0 lpF h 0
set_option maxRecDepth 100000 in
set_option maxHeartbeats 4000000 in
theorem kX8_breaksRings_b38 {X : XT} {b N sz : Nat} {ok : Nat → Prop} {r : RR} {w : HH} (hX : XOK X RX8 cX8_breaksRings 3 2) (hM : N ≤ MM) (hW : WT KM lnM ok N r) (p0 : Nat) (t0 : KM p0 = 8 ∧ ok p0) (hR : XR X b KM lnM MM (none) 0 0 N sz none w r) (k2 : HH → Int32 → Option (HH)) (hk2 : ∀ (h : HH) (x1 : Int32), k2 h x1 = some w → GX X b KM lnM MM 3 0 0 N sz 2 [(0, .ref (b + p0)), (1, .int x1)] [] h r) (k11 : HH → Int32 → Int32 → Option (HH)) (hk11 : ∀ (h : HH) (x1 : Int32) (x2 : Int32), k11 h x1 x2 = some w → GX X b KM lnM MM 3 0 0 N sz 11 [(0, .ref (b + p0)), (1, .int x1), (2, .int x2)] [] h r) (h : HH) (x1 : Int32) (x2 : Int32) (hF : fX8_breaksRings_b38 r p0 k2 k11 h x1 x2 = some w) : GX X b KM lnM MM 3 0 0 N sz 38 [(0, .ref (b + p0)), (1, .int x1), (2, .int x2)] [] h r := by
  rw [fX8_breaksRings_b38] at hF
  refine g_iinc (L' := [(2, .int (x2 + 1)), (0, .ref (b + p0)), (1, .int x1)]) (j := 2) hX dX8_breaksRings_38 rfl rfl (by decide) rfl ?_
  refine g_goto (tgt := 11) hX dX8_breaksRings_41 (by decide) ?_
  refine g_sub (L' := [(0, .ref (b + p0)), (1, .int x1), (2, .int (x2 + 1))]) [1, 2, 0] rfl ?_
  exact hk11 h x1 (x2 + 1) hF
set_option maxRecDepth 100000 in
set_option maxHeartbeats 4000000 in
theorem kX8_breaksRings_b11 {X : XT} {b N sz : Nat} {ok : Nat → Prop} {r : RR} {w : HH} (hX : XOK X RX8 cX8_breaksRings 3 2) (hM : N ≤ MM) (hW : WT KM lnM ok N r) (p0 : Nat) (t0 : KM p0 = 8 ∧ ok p0) (hR : XR X b KM lnM MM (none) 0 0 N sz none w r) (k2 : HH → Int32 → Option (HH)) (hk2 : ∀ (h : HH) (x1 : Int32), k2 h x1 = some w → GX X b KM lnM MM 3 0 0 N sz 2 [(0, .ref (b + p0)), (1, .int x1)] [] h r) : ∀ (n : Nat) (h : HH) (x1 : Int32) (x2 : Int32), fX8_breaksRings_b11 r p0 k2 n h x1 x2 = some w → GX X b KM lnM MM 3 0 0 N sz 11 [(0, .ref (b + p0)), (1, .int x1), (2, .int x2)] [] h r := by
  intro n
  induction n with
  | zero =>
    intro h x1 x2 hF
    cases hF
  | succ n ih =>
    intro h x1 x2 hF
    rw [fX8_breaksRings_b11] at hF
    refine g_iload_n hX dX8_breaksRings_11 (i := 2) rfl (j := 2) rfl ?_
    refine g_aload_n hX dX8_breaksRings_12 (i := 0) rfl (j := 0) rfl ?_
    refine gf_X8_260 hX dX8_breaksRings_13 (ty1 hW t0) ?_
    refine g_icmp_ge (tgt := 44) hX dX8_breaksRings_16 (by decide) (fun c16 => ?_) (fun c16 => ?_)
    · have hF := ite_t hF c16
      refine g_iload_n hX dX8_breaksRings_44 (i := 1) rfl (j := 1) rfl ?_
      refine g_iconst (v := (-1)) hX dX8_breaksRings_45 (by decide) ?_
      refine g_icmp_ne (tgt := 50) hX dX8_breaksRings_46 (by decide) (fun c46 => ?_) (fun c46 => ?_)
      · have hF := ite_t hF c46
        refine g_aload_n hX dX8_breaksRings_50 (i := 0) rfl (j := 0) rfl ?_
        have tf51 := (tyF (k := 32) hW t0 (by decide) rfl (by decide) : KM (r p0 32) = 9 ∧ ok (r p0 32))
        refine gf_X8_70 hX dX8_breaksRings_51 (ty1 hW t0) (hW.1 _ tf51.2).1 ?_
        refine g_iload_n hX dX8_breaksRings_54 (i := 1) rfl (j := 1) rfl ?_
        refine g_iconst (v := (-1)) hX dX8_breaksRings_55 (by decide) ?_
        obtain ⟨g56, hF⟩ := gd_some hF
        obtain ⟨h56, e56, hF⟩ := lt_some hF
        refine g_iast hX dX8_breaksRings_56 tf51.1 (hW.1 _ tf51.2).1 (hW.1 _ tf51.2).2 hM g56 e56 ?_
        refine g_aload_n hX dX8_breaksRings_57 (i := 0) rfl (j := 0) rfl ?_
        refine g_iconst (v := 4) hX dX8_breaksRings_58 (by decide) ?_
        refine g_iload_n hX dX8_breaksRings_59 (i := 1) rfl (j := 1) rfl ?_
        obtain ⟨h60, e60, hF⟩ := bi_some hF
        refine g_callV (As := [.int 4, .int x1]) (rest := []) (stk := []) hX dX8_breaksRings_60 (ctX8_clashes hM hW p0 4 x1 t0 e60) (by decide) (by decide) wm_X8_255 wi_X8_clashes ws_X8_clashes wz_X8 wc_X8_clashes hyX8_clashes rfl (ci := 8) rfl (by decide) t0.1 (hW.1 _ t0.2).1 (hW.1 _ t0.2).2 (Nat.le_of_ble_eq_true rfl) rfl rfl ?_ rfl rfl
        refine g_goto (tgt := 2) hX dX8_breaksRings_63 (by decide) ?_
        refine g_sub (L' := [(0, .ref (b + p0)), (1, .int x1)]) [0, 1] rfl ?_
        exact hk2 h60 x1 hF
      · have hF := ite_f hF (fun z => z c46)
        obtain rfl := Option.some.inj hF
        exact g_vret hX dX8_breaksRings_49 hR
    · have hF := ite_f hF c16
      refine g_aload_n hX dX8_breaksRings_19 (i := 0) rfl (j := 0) rfl ?_
      have tf20 := (tyF (k := 30) hW t0 (by decide) rfl (by decide) : KM (r p0 30) = 10 ∧ ok (r p0 30))
      refine gf_X8_64 hX dX8_breaksRings_20 (ty1 hW t0) (hW.1 _ tf20.2).1 ?_
      refine g_iload_n hX dX8_breaksRings_23 (i := 2) rfl (j := 2) rfl ?_
      obtain ⟨g24, hF⟩ := gd_some hF
      refine g_bald hX dX8_breaksRings_24 tf20.1 (hW.1 _ tf20.2).1 (hW.1 _ tf20.2).2 g24 ?_
      refine g_if_eq (tgt := 38) hX dX8_breaksRings_25 (by decide) (fun c25 => ?_) (fun c25 => ?_)
      · have hF := ite_t hF c25
        refine g_sub (L' := [(0, .ref (b + p0)), (1, .int x1), (2, .int x2)]) [0, 1, 2] rfl ?_
        exact kX8_breaksRings_b38 hX hM hW p0 t0 hR k2 hk2 (fun h_ z1_ z2_ => fX8_breaksRings_b11 r p0 k2 n h_ z1_ z2_) ih h x1 x2 hF
      · have hF := ite_f hF c25
        refine g_aload_n hX dX8_breaksRings_28 (i := 0) rfl (j := 0) rfl ?_
        refine g_iload_n hX dX8_breaksRings_29 (i := 2) rfl (j := 2) rfl ?_
        obtain ⟨v30, e30, hF⟩ := bi_some hF
        refine g_callV (As := [.int x2]) (rest := []) (stk := [.int v30]) hX dX8_breaksRings_30 (ctX8_isInRing hM hW p0 x2 t0 e30) (by decide) (by decide) wm_X8_263 wi_X8_isInRing ws_X8_isInRing wz_X8 wc_X8_isInRing hyX8_isInRing rfl (ci := 8) rfl (by decide) t0.1 (hW.1 _ t0.2).1 (hW.1 _ t0.2).2 (Nat.le_of_ble_eq_true rfl) rfl rfl ?_ rfl rfl
        refine g_if_eq (tgt := 38) hX dX8_breaksRings_33 (by decide) (fun c33 => ?_) (fun c33 => ?_)
        · have hF := ite_t hF c33
          refine g_sub (L' := [(0, .ref (b + p0)), (1, .int x1), (2, .int x2)]) [0, 1, 2] rfl ?_
          exact kX8_breaksRings_b38 hX hM hW p0 t0 hR k2 hk2 (fun h_ z1_ z2_ => fX8_breaksRings_b11 r p0 k2 n h_ z1_ z2_) ih h x1 x2 hF
        · have hF := ite_f hF c33
          refine g_iload_n hX dX8_breaksRings_36 (i := 2) rfl (j := 2) rfl ?_
          refine g_istore_n (L' := [(1, .int x2), (0, .ref (b + p0)), (2, .int x2)]) hX dX8_breaksRings_37 (i := 1) rfl (by decide) rfl ?_
          refine g_sub (L' := [(0, .ref (b + p0)), (1, .int x2), (2, .int x2)]) [1, 0, 2] rfl ?_
          exact kX8_breaksRings_b38 hX hM hW p0 t0 hR k2 hk2 (fun h_ z1_ z2_ => fX8_breaksRings_b11 r p0 k2 n h_ z1_ z2_) ih h x2 x2 hF
set_option maxRecDepth 100000 in
set_option maxHeartbeats 4000000 in
theorem kX8_breaksRings_b2 {X : XT} {b N sz : Nat} {ok : Nat → Prop} {r : RR} {w : HH} (hX : XOK X RX8 cX8_breaksRings 3 2) (hM : N ≤ MM) (hW : WT KM lnM ok N r) (p0 : Nat) (t0 : KM p0 = 8 ∧ ok p0) (hR : XR X b KM lnM MM (none) 0 0 N sz none w r) : ∀ (n : Nat) (h : HH) (x1 : Int32), fX8_breaksRings_b2 r p0 n h x1 = some w → GX X b KM lnM MM 3 0 0 N sz 2 [(0, .ref (b + p0)), (1, .int x1)] [] h r := by
  intro n
  induction n with
  | zero =>
    intro h x1 hF
    cases hF
  | succ n ih =>
    intro h x1 hF
    rw [fX8_breaksRings_b2] at hF
    refine g_iload_n hX dX8_breaksRings_2 (i := 1) rfl (j := 1) rfl ?_
    refine g_iconst (v := (-1)) hX dX8_breaksRings_3 (by decide) ?_
    refine g_icmp_eq (tgt := 66) hX dX8_breaksRings_4 (by decide) (fun c4 => ?_) (fun c4 => ?_)
    · have hF := ite_t hF c4
      obtain rfl := Option.some.inj hF
      exact g_vret hX dX8_breaksRings_66 hR
    · have hF := ite_f hF c4
      refine g_iconst (v := (-1)) hX dX8_breaksRings_7 (by decide) ?_
      refine g_istore_n (L' := [(1, .int (-1)), (0, .ref (b + p0))]) hX dX8_breaksRings_8 (i := 1) rfl (by decide) rfl ?_
      refine g_iconst (v := 0) hX dX8_breaksRings_9 (by decide) ?_
      refine g_istore_n (L' := [(2, .int 0), (1, .int (-1)), (0, .ref (b + p0))]) hX dX8_breaksRings_10 (i := 2) rfl (by decide) rfl ?_
      refine g_sub (L' := [(0, .ref (b + p0)), (1, .int (-1)), (2, .int 0)]) [2, 1, 0] rfl ?_
      exact kX8_breaksRings_b11 hX hM hW p0 t0 hR (fun h_ z1_ => fX8_breaksRings_b2 r p0 n h_ z1_) ih lpF h (-1) 0 hF
set_option maxRecDepth 100000 in
set_option maxHeartbeats 4000000 in
theorem kX8_breaksRings {X : XT} {b N sz : Nat} {ok : Nat → Prop} {h : HH} {r : RR} {w : HH} (hX : XOK X RX8 cX8_breaksRings 3 2) (hM : N ≤ MM) (hW : WT KM lnM ok N r) (p0 : Nat) (t0 : KM p0 = 8 ∧ ok p0) (hR : XR X b KM lnM MM (none) 0 0 N sz none w r) (hF : fX8_breaksRings h r p0 = some w) : GX X b KM lnM MM 3 0 0 N sz 0 [(0, .ref (b + p0))] [] h r := by
  rw [fX8_breaksRings] at hF
  refine g_iconst (v := 0) hX dX8_breaksRings_0 (by decide) ?_
  refine g_istore_n (L' := [(1, .int 0), (0, .ref (b + p0))]) hX dX8_breaksRings_1 (i := 1) rfl (by decide) rfl ?_
  refine g_sub (L' := [(0, .ref (b + p0)), (1, .int 0)]) [1, 0] rfl ?_
  exact kX8_breaksRings_b2 hX hM hW p0 t0 hR lpF h 0 hF
theorem ctX8_breaksRings {b N sz : Nat} {ok : Nat → Prop} {h : HH} {r : RR} {w : HH} (hM : N ≤ MM) (hW : WT KM lnM ok N r) (p0 : Nat) (t0 : KM p0 = 8 ∧ ok p0) (hF : fX8_breaksRings h r p0 = some w) : CT yX8_breaksRings cX8_breaksRings 3 (none) 2 b KM lnM MM N sz [.ref (b + p0)] h r N sz none w r 0 0 :=
  CT_of (by decide) rfl (Nat.le_of_ble_eq_true rfl) (by decide) trivial (fun X hX hR => kX8_breaksRings hX hM hW p0 t0 hR hF)
/-! X8_isHadByIgnored -/
def fX8_isHadByIgnored_b74 (h : HH) (r : RR) (p0 : Nat) (a1 : Int32) (a2 : Int32) (k2 : Int32 → Option (Int32)) (x3 : Int32) : Option (Int32) := k2 (x3 + 1)
def fX8_isHadByIgnored_b68 (h : HH) (r : RR) (p0 : Nat) (a1 : Int32) (a2 : Int32) (k2 : Int32 → Option (Int32)) (k13 : Int32 → Int32 → Option (Int32)) (x3 : Int32) (x4 : Int32) : Option (Int32) := k13 x3 (x4 + 1)
def fX8_isHadByIgnored_b13 (h : HH) (r : RR) (p0 : Nat) (a1 : Int32) (a2 : Int32) (k2 : Int32 → Option (Int32)) : Nat → Int32 → Int32 → Option (Int32)
  | 0, _, _ => none
  | n + 1, x3, x4 => gd (inb x3 (lnM (r p0 25))) (if (h (r p0 25) (ix x3)) = 0 then (fX8_isHadByIgnored_b74 h r p0 a1 a2 k2 x3) else (if 3 ≤ x4 then (fX8_isHadByIgnored_b74 h r p0 a1 a2 k2 x3) else (gd (inb x4 (lnM (r p0 3))) (gd (inb x3 (lnM (r (r p0 3) (ix x4)))) (if (h (r (r p0 3) (ix x4)) (ix x3)) = 0 then (fX8_isHadByIgnored_b68 h r p0 a1 a2 k2 (fun z3_ z4_ => fX8_isHadByIgnored_b13 h r p0 a1 a2 k2 n z3_ z4_) x3 x4) else (gd (inb x4 (lnM (r p0 4))) (gd (inb x3 (lnM (r (r p0 4) (ix x4)))) (if ¬ (h (r (r p0 4) (ix x4)) (ix x3)) = a1 then (fX8_isHadByIgnored_b68 h r p0 a1 a2 k2 (fun z3_ z4_ => fX8_isHadByIgnored_b13 h r p0 a1 a2 k2 n z3_ z4_) x3 x4) else (gd (inb x4 (lnM (r p0 5))) (gd (inb x3 (lnM (r (r p0 5) (ix x4)))) (if ¬ (h (r (r p0 5) (ix x4)) (ix x3)) = a2 then (fX8_isHadByIgnored_b68 h r p0 a1 a2 k2 (fun z3_ z4_ => fX8_isHadByIgnored_b13 h r p0 a1 a2 k2 n z3_ z4_) x3 x4) else (some (1)))))))))))))
def fX8_isHadByIgnored_b2 (h : HH) (r : RR) (p0 : Nat) (a1 : Int32) (a2 : Int32) : Nat → Int32 → Option (Int32)
  | 0, _ => none
  | n + 1, x3 => if (h p0 0) ≤ x3 then (some (0)) else (fX8_isHadByIgnored_b13 h r p0 a1 a2 (fun z3_ => fX8_isHadByIgnored_b2 h r p0 a1 a2 n z3_) lpF x3 0)
def fX8_isHadByIgnored (h : HH) (r : RR) (p0 : Nat) (a1 : Int32) (a2 : Int32) : Option (Int32) := fX8_isHadByIgnored_b2 h r p0 a1 a2 lpF 0
set_option maxRecDepth 100000 in
set_option maxHeartbeats 4000000 in
theorem kX8_isHadByIgnored_b74 {X : XT} {b N sz : Nat} {ok : Nat → Prop} {h : HH} {r : RR} {w : Int32} (hX : XOK X RX8 cX8_isHadByIgnored 5 1) (hM : N ≤ MM) (hW : WT KM lnM ok N r) (p0 : Nat) (a1 : Int32) (a2 : Int32) (t0 : KM p0 = 8 ∧ ok p0) (hR : XR X b KM lnM MM (some FieldType.boolean) 0 0 N sz (some (.int w)) h r) (k2 : Int32 → Option (Int32)) (hk2 : ∀ (x3 : Int32), k2 x3 = some w → GX X b KM lnM MM 5 0 0 N sz 2 [(0, .ref (b + p0)), (1, .int a1), (2, .int a2), (3, .int x3)] [] h r) (x3 : Int32) (hF : fX8_isHadByIgnored_b74 h r p0 a1 a2 k2 x3 = some w) : GX X b KM lnM MM 5 0 0 N sz 74 [(0, .ref (b + p0)), (1, .int a1), (2, .int a2), (3, .int x3)] [] h r := by
  rw [fX8_isHadByIgnored_b74] at hF
  refine g_iinc (L' := [(3, .int (x3 + 1)), (0, .ref (b + p0)), (1, .int a1), (2, .int a2)]) (j := 3) hX dX8_isHadByIgnored_74 rfl rfl (by decide) rfl ?_
  refine g_goto (tgt := 2) hX dX8_isHadByIgnored_77 (by decide) ?_
  refine g_sub (L' := [(0, .ref (b + p0)), (1, .int a1), (2, .int a2), (3, .int (x3 + 1))]) [1, 2, 3, 0] rfl ?_
  exact hk2 (x3 + 1) hF
set_option maxRecDepth 100000 in
set_option maxHeartbeats 4000000 in
theorem kX8_isHadByIgnored_b68 {X : XT} {b N sz : Nat} {ok : Nat → Prop} {h : HH} {r : RR} {w : Int32} (hX : XOK X RX8 cX8_isHadByIgnored 5 1) (hM : N ≤ MM) (hW : WT KM lnM ok N r) (p0 : Nat) (a1 : Int32) (a2 : Int32) (t0 : KM p0 = 8 ∧ ok p0) (hR : XR X b KM lnM MM (some FieldType.boolean) 0 0 N sz (some (.int w)) h r) (k2 : Int32 → Option (Int32)) (hk2 : ∀ (x3 : Int32), k2 x3 = some w → GX X b KM lnM MM 5 0 0 N sz 2 [(0, .ref (b + p0)), (1, .int a1), (2, .int a2), (3, .int x3)] [] h r) (k13 : Int32 → Int32 → Option (Int32)) (hk13 : ∀ (x3 : Int32) (x4 : Int32), k13 x3 x4 = some w → GX X b KM lnM MM 5 0 0 N sz 13 [(0, .ref (b + p0)), (1, .int a1), (2, .int a2), (3, .int x3), (4, .int x4)] [] h r) (x3 : Int32) (x4 : Int32) (hF : fX8_isHadByIgnored_b68 h r p0 a1 a2 k2 k13 x3 x4 = some w) : GX X b KM lnM MM 5 0 0 N sz 68 [(0, .ref (b + p0)), (1, .int a1), (2, .int a2), (3, .int x3), (4, .int x4)] [] h r := by
  rw [fX8_isHadByIgnored_b68] at hF
  refine g_iinc (L' := [(4, .int (x4 + 1)), (0, .ref (b + p0)), (1, .int a1), (2, .int a2), (3, .int x3)]) (j := 4) hX dX8_isHadByIgnored_68 rfl rfl (by decide) rfl ?_
  refine g_goto (tgt := 13) hX dX8_isHadByIgnored_71 (by decide) ?_
  refine g_sub (L' := [(0, .ref (b + p0)), (1, .int a1), (2, .int a2), (3, .int x3), (4, .int (x4 + 1))]) [1, 2, 3, 4, 0] rfl ?_
  exact hk13 x3 (x4 + 1) hF
set_option maxRecDepth 100000 in
set_option maxHeartbeats 4000000 in
theorem kX8_isHadByIgnored_b13 {X : XT} {b N sz : Nat} {ok : Nat → Prop} {h : HH} {r : RR} {w : Int32} (hX : XOK X RX8 cX8_isHadByIgnored 5 1) (hM : N ≤ MM) (hW : WT KM lnM ok N r) (p0 : Nat) (a1 : Int32) (a2 : Int32) (t0 : KM p0 = 8 ∧ ok p0) (hR : XR X b KM lnM MM (some FieldType.boolean) 0 0 N sz (some (.int w)) h r) (k2 : Int32 → Option (Int32)) (hk2 : ∀ (x3 : Int32), k2 x3 = some w → GX X b KM lnM MM 5 0 0 N sz 2 [(0, .ref (b + p0)), (1, .int a1), (2, .int a2), (3, .int x3)] [] h r) : ∀ (n : Nat) (x3 : Int32) (x4 : Int32), fX8_isHadByIgnored_b13 h r p0 a1 a2 k2 n x3 x4 = some w → GX X b KM lnM MM 5 0 0 N sz 13 [(0, .ref (b + p0)), (1, .int a1), (2, .int a2), (3, .int x3), (4, .int x4)] [] h r := by
  intro n
  induction n with
  | zero =>
    intro x3 x4 hF
    cases hF
  | succ n ih =>
    intro x3 x4 hF
    rw [fX8_isHadByIgnored_b13] at hF
    refine g_aload_n hX dX8_isHadByIgnored_13 (i := 0) rfl (j := 0) rfl ?_
    have tf14 := (tyF (k := 25) hW t0 (by decide) rfl (by decide) : KM (r p0 25) = 10 ∧ ok (r p0 25))
    refine gf_X8_55 hX dX8_isHadByIgnored_14 (ty1 hW t0) (hW.1 _ tf14.2).1 ?_
    refine g_iload_n hX dX8_isHadByIgnored_17 (i := 3) rfl (j := 3) rfl ?_
    obtain ⟨g18, hF⟩ := gd_some hF
    refine g_bald hX dX8_isHadByIgnored_18 tf14.1 (hW.1 _ tf14.2).1 (hW.1 _ tf14.2).2 g18 ?_
    refine g_if_eq (tgt := 74) hX dX8_isHadByIgnored_19 (by decide) (fun c19 => ?_) (fun c19 => ?_)
    · have hF := ite_t hF c19
      refine g_sub (L' := [(0, .ref (b + p0)), (1, .int a1), (2, .int a2), (3, .int x3)]) [0, 1, 2, 3] rfl ?_
      exact kX8_isHadByIgnored_b74 hX hM hW p0 a1 a2 t0 hR k2 hk2 x3 hF
    · have hF := ite_f hF c19
      refine g_iload hX dX8_isHadByIgnored_22 (j := 4) rfl ?_
      refine g_iconst (v := 3) hX dX8_isHadByIgnored_24 (by decide) ?_
      refine g_icmp_ge (tgt := 74) hX dX8_isHadByIgnored_25 (by decide) (fun c25 => ?_) (fun c25 => ?_)
      · have hF := ite_t hF c25
        refine g_sub (L' := [(0, .ref (b + p0)), (1, .int a1), (2, .int a2), (3, .int x3)]) [0, 1, 2, 3] rfl ?_
        exact kX8_isHadByIgnored_b74 hX hM hW p0 a1 a2 t0 hR k2 hk2 x3 hF
      · have hF := ite_f hF c25
        refine g_aload_n hX dX8_isHadByIgnored_28 (i := 0) rfl (j := 0) rfl ?_
        have tf29 := (tyF (k := 3) hW t0 (by decide) rfl (by decide) : KM (r p0 3) = 15 ∧ ok (r p0 3))
        refine gf_X8_15 hX dX8_isHadByIgnored_29 (ty1 hW t0) (hW.1 _ tf29.2).1 ?_
        refine g_iload hX dX8_isHadByIgnored_32 (j := 4) rfl ?_
        obtain ⟨g34, hF⟩ := gd_some hF
        have ta34 : KM (r (r p0 3) (ix x4)) = 10 ∧ ok (r (r p0 3) (ix x4)) := tyA hW tf29 (by decide) rfl (by decide) g34
        refine g_aald hX dX8_isHadByIgnored_34 tf29.1 (by decide) (by decide) (hW.1 _ tf29.2).1 (hW.1 _ tf29.2).2 g34 (hW.1 _ ta34.2).1 ?_
        refine g_iload_n hX dX8_isHadByIgnored_35 (i := 3) rfl (j := 3) rfl ?_
        obtain ⟨g36, hF⟩ := gd_some hF
        refine g_bald hX dX8_isHadByIgnored_36 ta34.1 (hW.1 _ ta34.2).1 (hW.1 _ ta34.2).2 g36 ?_
        refine g_if_eq (tgt := 68) hX dX8_isHadByIgnored_37 (by decide) (fun c37 => ?_) (fun c37 => ?_)
        · have hF := ite_t hF c37
          refine g_sub (L' := [(0, .ref (b + p0)), (1, .int a1), (2, .int a2), (3, .int x3), (4, .int x4)]) [0, 1, 2, 3, 4] rfl ?_
          exact kX8_isHadByIgnored_b68 hX hM hW p0 a1 a2 t0 hR k2 hk2 (fun z3_ z4_ => fX8_isHadByIgnored_b13 h r p0 a1 a2 k2 n z3_ z4_) ih x3 x4 hF
        · have hF := ite_f hF c37
          refine g_aload_n hX dX8_isHadByIgnored_40 (i := 0) rfl (j := 0) rfl ?_
          have tf41 := (tyF (k := 4) hW t0 (by decide) rfl (by decide) : KM (r p0 4) = 14 ∧ ok (r p0 4))
          refine gf_X8_20 hX dX8_isHadByIgnored_41 (ty1 hW t0) (hW.1 _ tf41.2).1 ?_
          refine g_iload hX dX8_isHadByIgnored_44 (j := 4) rfl ?_
          obtain ⟨g46, hF⟩ := gd_some hF
          have ta46 : KM (r (r p0 4) (ix x4)) = 9 ∧ ok (r (r p0 4) (ix x4)) := tyA hW tf41 (by decide) rfl (by decide) g46
          refine g_aald hX dX8_isHadByIgnored_46 tf41.1 (by decide) (by decide) (hW.1 _ tf41.2).1 (hW.1 _ tf41.2).2 g46 (hW.1 _ ta46.2).1 ?_
          refine g_iload_n hX dX8_isHadByIgnored_47 (i := 3) rfl (j := 3) rfl ?_
          obtain ⟨g48, hF⟩ := gd_some hF
          refine g_iald hX dX8_isHadByIgnored_48 ta46.1 (hW.1 _ ta46.2).1 (hW.1 _ ta46.2).2 g48 ?_
          refine g_iload_n hX dX8_isHadByIgnored_49 (i := 1) rfl (j := 1) rfl ?_
          refine g_icmp_ne (tgt := 68) hX dX8_isHadByIgnored_50 (by decide) (fun c50 => ?_) (fun c50 => ?_)
          · have hF := ite_t hF c50
            refine g_sub (L' := [(0, .ref (b + p0)), (1, .int a1), (2, .int a2), (3, .int x3), (4, .int x4)]) [0, 1, 2, 3, 4] rfl ?_
            exact kX8_isHadByIgnored_b68 hX hM hW p0 a1 a2 t0 hR k2 hk2 (fun z3_ z4_ => fX8_isHadByIgnored_b13 h r p0 a1 a2 k2 n z3_ z4_) ih x3 x4 hF
          · have hF := ite_f hF (fun z => z c50)
            refine g_aload_n hX dX8_isHadByIgnored_53 (i := 0) rfl (j := 0) rfl ?_
            have tf54 := (tyF (k := 5) hW t0 (by decide) rfl (by decide) : KM (r p0 5) = 14 ∧ ok (r p0 5))
            refine gf_X8_23 hX dX8_isHadByIgnored_54 (ty1 hW t0) (hW.1 _ tf54.2).1 ?_
            refine g_iload hX dX8_isHadByIgnored_57 (j := 4) rfl ?_
            obtain ⟨g59, hF⟩ := gd_some hF
            have ta59 : KM (r (r p0 5) (ix x4)) = 9 ∧ ok (r (r p0 5) (ix x4)) := tyA hW tf54 (by decide) rfl (by decide) g59
            refine g_aald hX dX8_isHadByIgnored_59 tf54.1 (by decide) (by decide) (hW.1 _ tf54.2).1 (hW.1 _ tf54.2).2 g59 (hW.1 _ ta59.2).1 ?_
            refine g_iload_n hX dX8_isHadByIgnored_60 (i := 3) rfl (j := 3) rfl ?_
            obtain ⟨g61, hF⟩ := gd_some hF
            refine g_iald hX dX8_isHadByIgnored_61 ta59.1 (hW.1 _ ta59.2).1 (hW.1 _ ta59.2).2 g61 ?_
            refine g_iload_n hX dX8_isHadByIgnored_62 (i := 2) rfl (j := 2) rfl ?_
            refine g_icmp_ne (tgt := 68) hX dX8_isHadByIgnored_63 (by decide) (fun c63 => ?_) (fun c63 => ?_)
            · have hF := ite_t hF c63
              refine g_sub (L' := [(0, .ref (b + p0)), (1, .int a1), (2, .int a2), (3, .int x3), (4, .int x4)]) [0, 1, 2, 3, 4] rfl ?_
              exact kX8_isHadByIgnored_b68 hX hM hW p0 a1 a2 t0 hR k2 hk2 (fun z3_ z4_ => fX8_isHadByIgnored_b13 h r p0 a1 a2 k2 n z3_ z4_) ih x3 x4 hF
            · have hF := ite_f hF (fun z => z c63)
              refine g_iconst (v := 1) hX dX8_isHadByIgnored_66 (by decide) ?_
              obtain rfl := Option.some.inj hF
              exact g_zret hX dX8_isHadByIgnored_67 (by decide) hR
set_option maxRecDepth 100000 in
set_option maxHeartbeats 4000000 in
theorem kX8_isHadByIgnored_b2 {X : XT} {b N sz : Nat} {ok : Nat → Prop} {h : HH} {r : RR} {w : Int32} (hX : XOK X RX8 cX8_isHadByIgnored 5 1) (hM : N ≤ MM) (hW : WT KM lnM ok N r) (p0 : Nat) (a1 : Int32) (a2 : Int32) (t0 : KM p0 = 8 ∧ ok p0) (hR : XR X b KM lnM MM (some FieldType.boolean) 0 0 N sz (some (.int w)) h r) : ∀ (n : Nat) (x3 : Int32), fX8_isHadByIgnored_b2 h r p0 a1 a2 n x3 = some w → GX X b KM lnM MM 5 0 0 N sz 2 [(0, .ref (b + p0)), (1, .int a1), (2, .int a2), (3, .int x3)] [] h r := by
  intro n
  induction n with
  | zero =>
    intro x3 hF
    cases hF
  | succ n ih =>
    intro x3 hF
    rw [fX8_isHadByIgnored_b2] at hF
    refine g_iload_n hX dX8_isHadByIgnored_2 (i := 3) rfl (j := 3) rfl ?_
    refine g_aload_n hX dX8_isHadByIgnored_3 (i := 0) rfl (j := 0) rfl ?_
    refine gf_X8_130 hX dX8_isHadByIgnored_4 (ty1 hW t0) ?_
    refine g_icmp_ge (tgt := 80) hX dX8_isHadByIgnored_7 (by decide) (fun c7 => ?_) (fun c7 => ?_)
    · have hF := ite_t hF c7
      refine g_iconst (v := 0) hX dX8_isHadByIgnored_80 (by decide) ?_
      obtain rfl := Option.some.inj hF
      exact g_zret hX dX8_isHadByIgnored_81 (by decide) hR
    · have hF := ite_f hF c7
      refine g_iconst (v := 0) hX dX8_isHadByIgnored_10 (by decide) ?_
      refine g_istore (L' := [(4, .int 0), (0, .ref (b + p0)), (1, .int a1), (2, .int a2), (3, .int x3)]) hX dX8_isHadByIgnored_11 (by decide) rfl ?_
      refine g_sub (L' := [(0, .ref (b + p0)), (1, .int a1), (2, .int a2), (3, .int x3), (4, .int 0)]) [1, 2, 3, 4, 0] rfl ?_
      exact kX8_isHadByIgnored_b13 hX hM hW p0 a1 a2 t0 hR (fun z3_ => fX8_isHadByIgnored_b2 h r p0 a1 a2 n z3_) ih lpF x3 0 hF
set_option maxRecDepth 100000 in
set_option maxHeartbeats 4000000 in
theorem kX8_isHadByIgnored {X : XT} {b N sz : Nat} {ok : Nat → Prop} {h : HH} {r : RR} {w : Int32} (hX : XOK X RX8 cX8_isHadByIgnored 5 1) (hM : N ≤ MM) (hW : WT KM lnM ok N r) (p0 : Nat) (a1 : Int32) (a2 : Int32) (t0 : KM p0 = 8 ∧ ok p0) (hR : XR X b KM lnM MM (some FieldType.boolean) 0 0 N sz (some (.int w)) h r) (hF : fX8_isHadByIgnored h r p0 a1 a2 = some w) : GX X b KM lnM MM 5 0 0 N sz 0 [(0, .ref (b + p0)), (1, .int a1), (2, .int a2)] [] h r := by
  rw [fX8_isHadByIgnored] at hF
  refine g_iconst (v := 0) hX dX8_isHadByIgnored_0 (by decide) ?_
  refine g_istore_n (L' := [(3, .int 0), (0, .ref (b + p0)), (1, .int a1), (2, .int a2)]) hX dX8_isHadByIgnored_1 (i := 3) rfl (by decide) rfl ?_
  refine g_sub (L' := [(0, .ref (b + p0)), (1, .int a1), (2, .int a2), (3, .int 0)]) [1, 2, 3, 0] rfl ?_
  exact kX8_isHadByIgnored_b2 hX hM hW p0 a1 a2 t0 hR lpF 0 hF
theorem ctX8_isHadByIgnored {b N sz : Nat} {ok : Nat → Prop} {h : HH} {r : RR} {w : Int32} (hM : N ≤ MM) (hW : WT KM lnM ok N r) (p0 : Nat) (a1 : Int32) (a2 : Int32) (t0 : KM p0 = 8 ∧ ok p0) (hF : fX8_isHadByIgnored h r p0 a1 a2 = some w) : CT yX8_isHadByIgnored cX8_isHadByIgnored 5 (some FieldType.boolean) 1 b KM lnM MM N sz [.ref (b + p0), .int a1, .int a2] h r N sz (some (.int w)) h r 0 0 :=
  CT_of (by decide) rfl (Nat.le_of_ble_eq_true rfl) (by decide) trivial (fun X hX hR => kX8_isHadByIgnored hX hM hW p0 a1 a2 t0 hR hF)
/-! X8_isHad -/
def fX8_isHad_b43 (h : HH) (r : RR) (p0 : Nat) (a1 : Int32) (a2 : Int32) (a3 : Int32) (k3 : Int32 → Option (Int32)) (x4 : Int32) : Option (Int32) := k3 (x4 + 1)
def fX8_isHad_b3 (h : HH) (r : RR) (p0 : Nat) (a1 : Int32) (a2 : Int32) (a3 : Int32) : Nat → Int32 → Option (Int32)
  | 0, _ => none
  | n + 1, x4 => if a3 ≤ x4 then ((fX8_isHadByIgnored h r p0 a1 a2).bind (fun v52 => bz v52 (some (v52)))) else (gd (inb x4 (lnM (r p0 30))) (if (h (r p0 30) (ix x4)) = 0 then (fX8_isHad_b43 h r p0 a1 a2 a3 (fun z4_ => fX8_isHad_b3 h r p0 a1 a2 a3 n z4_) x4) else (gd (inb x4 (lnM (r p0 32))) (if ¬ (h (r p0 32) (ix x4)) = a1 then (fX8_isHad_b43 h r p0 a1 a2 a3 (fun z4_ => fX8_isHad_b3 h r p0 a1 a2 a3 n z4_) x4) else (gd (inb x4 (lnM (r p0 33))) (if ¬ (h (r p0 33) (ix x4)) = a2 then (fX8_isHad_b43 h r p0 a1 a2 a3 (fun z4_ => fX8_isHad_b3 h r p0 a1 a2 a3 n z4_) x4) else (some (1))))))))
def fX8_isHad (h : HH) (r : RR) (p0 : Nat) (a1 : Int32) (a2 : Int32) (a3 : Int32) : Option (Int32) := fX8_isHad_b3 h r p0 a1 a2 a3 lpF 0
set_option maxRecDepth 100000 in
set_option maxHeartbeats 4000000 in
theorem kX8_isHad_b43 {X : XT} {b N sz : Nat} {ok : Nat → Prop} {h : HH} {r : RR} {w : Int32} (hX : XOK X RX8 cX8_isHad 5 2) (hM : N ≤ MM) (hW : WT KM lnM ok N r) (p0 : Nat) (a1 : Int32) (a2 : Int32) (a3 : Int32) (t0 : KM p0 = 8 ∧ ok p0) (hR : XR X b KM lnM MM (some FieldType.boolean) 0 0 N sz (some (.int w)) h r) (k3 : Int32 → Option (Int32)) (hk3 : ∀ (x4 : Int32), k3 x4 = some w → GX X b KM lnM MM 5 0 0 N sz 3 [(0, .ref (b + p0)), (1, .int a1), (2, .int a2), (3, .int a3), (4, .int x4)] [] h r) (x4 : Int32) (hF : fX8_isHad_b43 h r p0 a1 a2 a3 k3 x4 = some w) : GX X b KM lnM MM 5 0 0 N sz 43 [(0, .ref (b + p0)), (1, .int a1), (2, .int a2), (3, .int a3), (4, .int x4)] [] h r := by
  rw [fX8_isHad_b43] at hF
  refine g_iinc (L' := [(4, .int (x4 + 1)), (0, .ref (b + p0)), (1, .int a1), (2, .int a2), (3, .int a3)]) (j := 4) hX dX8_isHad_43 rfl rfl (by decide) rfl ?_
  refine g_goto (tgt := 3) hX dX8_isHad_46 (by decide) ?_
  refine g_sub (L' := [(0, .ref (b + p0)), (1, .int a1), (2, .int a2), (3, .int a3), (4, .int (x4 + 1))]) [1, 2, 3, 4, 0] rfl ?_
  exact hk3 (x4 + 1) hF
set_option maxRecDepth 100000 in
set_option maxHeartbeats 4000000 in
theorem kX8_isHad_b3 {X : XT} {b N sz : Nat} {ok : Nat → Prop} {h : HH} {r : RR} {w : Int32} (hX : XOK X RX8 cX8_isHad 5 2) (hM : N ≤ MM) (hW : WT KM lnM ok N r) (p0 : Nat) (a1 : Int32) (a2 : Int32) (a3 : Int32) (t0 : KM p0 = 8 ∧ ok p0) (hR : XR X b KM lnM MM (some FieldType.boolean) 0 0 N sz (some (.int w)) h r) : ∀ (n : Nat) (x4 : Int32), fX8_isHad_b3 h r p0 a1 a2 a3 n x4 = some w → GX X b KM lnM MM 5 0 0 N sz 3 [(0, .ref (b + p0)), (1, .int a1), (2, .int a2), (3, .int a3), (4, .int x4)] [] h r := by
  intro n
  induction n with
  | zero =>
    intro x4 hF
    cases hF
  | succ n ih =>
    intro x4 hF
    rw [fX8_isHad_b3] at hF
    refine g_iload hX dX8_isHad_3 (j := 4) rfl ?_
    refine g_iload_n hX dX8_isHad_5 (i := 3) rfl (j := 3) rfl ?_
    refine g_icmp_ge (tgt := 49) hX dX8_isHad_6 (by decide) (fun c6 => ?_) (fun c6 => ?_)
    · have hF := ite_t hF c6
      refine g_aload_n hX dX8_isHad_49 (i := 0) rfl (j := 0) rfl ?_
      refine g_iload_n hX dX8_isHad_50 (i := 1) rfl (j := 1) rfl ?_
      refine g_iload_n hX dX8_isHad_51 (i := 2) rfl (j := 2) rfl ?_
      obtain ⟨v52, e52, hF⟩ := bi_some hF
      refine g_callV (As := [.int a1, .int a2]) (rest := []) (stk := [.int v52]) hX dX8_isHad_52 (ctX8_isHadByIgnored hM hW p0 a1 a2 t0 e52) (by decide) (by decide) wm_X8_266 wi_X8_isHadByIgnored ws_X8_isHadByIgnored wz_X8 wc_X8_isHadByIgnored hyX8_isHadByIgnored rfl (ci := 8) rfl (by decide) t0.1 (hW.1 _ t0.2).1 (hW.1 _ t0.2).2 (Nat.le_of_ble_eq_true rfl) rfl rfl ?_ rfl rfl
      obtain ⟨z55, hF⟩ := bz_some hF
      obtain rfl := Option.some.inj hF
      exact g_zret hX dX8_isHad_55 z55 hR
    · have hF := ite_f hF c6
      refine g_aload_n hX dX8_isHad_9 (i := 0) rfl (j := 0) rfl ?_
      have tf10 := (tyF (k := 30) hW t0 (by decide) rfl (by decide) : KM (r p0 30) = 10 ∧ ok (r p0 30))
      refine gf_X8_64 hX dX8_isHad_10 (ty1 hW t0) (hW.1 _ tf10.2).1 ?_
      refine g_iload hX dX8_isHad_13 (j := 4) rfl ?_
      obtain ⟨g15, hF⟩ := gd_some hF
      refine g_bald hX dX8_isHad_15 tf10.1 (hW.1 _ tf10.2).1 (hW.1 _ tf10.2).2 g15 ?_
      refine g_if_eq (tgt := 43) hX dX8_isHad_16 (by decide) (fun c16 => ?_) (fun c16 => ?_)
      · have hF := ite_t hF c16
        refine g_sub (L' := [(0, .ref (b + p0)), (1, .int a1), (2, .int a2), (3, .int a3), (4, .int x4)]) [0, 1, 2, 3, 4] rfl ?_
        exact kX8_isHad_b43 hX hM hW p0 a1 a2 a3 t0 hR (fun z4_ => fX8_isHad_b3 h r p0 a1 a2 a3 n z4_) ih x4 hF
      · have hF := ite_f hF c16
        refine g_aload_n hX dX8_isHad_19 (i := 0) rfl (j := 0) rfl ?_
        have tf20 := (tyF (k := 32) hW t0 (by decide) rfl (by decide) : KM (r p0 32) = 9 ∧ ok (r p0 32))
        refine gf_X8_70 hX dX8_isHad_20 (ty1 hW t0) (hW.1 _ tf20.2).1 ?_
        refine g_iload hX dX8_isHad_23 (j := 4) rfl ?_
        obtain ⟨g25, hF⟩ := gd_some hF
        refine g_iald hX dX8_isHad_25 tf20.1 (hW.1 _ tf20.2).1 (hW.1 _ tf20.2).2 g25 ?_
        refine g_iload_n hX dX8_isHad_26 (i := 1) rfl (j := 1) rfl ?_
        refine g_icmp_ne (tgt := 43) hX dX8_isHad_27 (by decide) (fun c27 => ?_) (fun c27 => ?_)
        · have hF := ite_t hF c27
          refine g_sub (L' := [(0, .ref (b + p0)), (1, .int a1), (2, .int a2), (3, .int a3), (4, .int x4)]) [0, 1, 2, 3, 4] rfl ?_
          exact kX8_isHad_b43 hX hM hW p0 a1 a2 a3 t0 hR (fun z4_ => fX8_isHad_b3 h r p0 a1 a2 a3 n z4_) ih x4 hF
        · have hF := ite_f hF (fun z => z c27)
          refine g_aload_n hX dX8_isHad_30 (i := 0) rfl (j := 0) rfl ?_
          have tf31 := (tyF (k := 33) hW t0 (by decide) rfl (by decide) : KM (r p0 33) = 9 ∧ ok (r p0 33))
          refine gf_X8_73 hX dX8_isHad_31 (ty1 hW t0) (hW.1 _ tf31.2).1 ?_
          refine g_iload hX dX8_isHad_34 (j := 4) rfl ?_
          obtain ⟨g36, hF⟩ := gd_some hF
          refine g_iald hX dX8_isHad_36 tf31.1 (hW.1 _ tf31.2).1 (hW.1 _ tf31.2).2 g36 ?_
          refine g_iload_n hX dX8_isHad_37 (i := 2) rfl (j := 2) rfl ?_
          refine g_icmp_ne (tgt := 43) hX dX8_isHad_38 (by decide) (fun c38 => ?_) (fun c38 => ?_)
          · have hF := ite_t hF c38
            refine g_sub (L' := [(0, .ref (b + p0)), (1, .int a1), (2, .int a2), (3, .int a3), (4, .int x4)]) [0, 1, 2, 3, 4] rfl ?_
            exact kX8_isHad_b43 hX hM hW p0 a1 a2 a3 t0 hR (fun z4_ => fX8_isHad_b3 h r p0 a1 a2 a3 n z4_) ih x4 hF
          · have hF := ite_f hF (fun z => z c38)
            refine g_iconst (v := 1) hX dX8_isHad_41 (by decide) ?_
            obtain rfl := Option.some.inj hF
            exact g_zret hX dX8_isHad_42 (by decide) hR
set_option maxRecDepth 100000 in
set_option maxHeartbeats 4000000 in
theorem kX8_isHad {X : XT} {b N sz : Nat} {ok : Nat → Prop} {h : HH} {r : RR} {w : Int32} (hX : XOK X RX8 cX8_isHad 5 2) (hM : N ≤ MM) (hW : WT KM lnM ok N r) (p0 : Nat) (a1 : Int32) (a2 : Int32) (a3 : Int32) (t0 : KM p0 = 8 ∧ ok p0) (hR : XR X b KM lnM MM (some FieldType.boolean) 0 0 N sz (some (.int w)) h r) (hF : fX8_isHad h r p0 a1 a2 a3 = some w) : GX X b KM lnM MM 5 0 0 N sz 0 [(0, .ref (b + p0)), (1, .int a1), (2, .int a2), (3, .int a3)] [] h r := by
  rw [fX8_isHad] at hF
  refine g_iconst (v := 0) hX dX8_isHad_0 (by decide) ?_
  refine g_istore (L' := [(4, .int 0), (0, .ref (b + p0)), (1, .int a1), (2, .int a2), (3, .int a3)]) hX dX8_isHad_1 (by decide) rfl ?_
  refine g_sub (L' := [(0, .ref (b + p0)), (1, .int a1), (2, .int a2), (3, .int a3), (4, .int 0)]) [1, 2, 3, 4, 0] rfl ?_
  exact kX8_isHad_b3 hX hM hW p0 a1 a2 a3 t0 hR lpF 0 hF
theorem ctX8_isHad {b N sz : Nat} {ok : Nat → Prop} {h : HH} {r : RR} {w : Int32} (hM : N ≤ MM) (hW : WT KM lnM ok N r) (p0 : Nat) (a1 : Int32) (a2 : Int32) (a3 : Int32) (t0 : KM p0 = 8 ∧ ok p0) (hF : fX8_isHad h r p0 a1 a2 a3 = some w) : CT yX8_isHad cX8_isHad 5 (some FieldType.boolean) 2 b KM lnM MM N sz [.ref (b + p0), .int a1, .int a2, .int a3] h r N sz (some (.int w)) h r 0 0 :=
  CT_of (by decide) rfl (Nat.le_of_ble_eq_true rfl) (by decide) trivial (fun X hX hR => kX8_isHad hX hM hW p0 a1 a2 a3 t0 hR hF)
/-! X8_callsAnew -/
def fX8_callsAnew_b23 (r : RR) (p0 : Nat) (a1 : Int32) : Nat → HH → Int32 → Option (HH)
  | 0, _, _ => none
  | n + 1, h, x2 => gd (inb a1 (lnM (r p0 32))) ((fX8_isHad h r p0 (h (r p0 32) (ix a1)) x2 (h p0 27)).bind (fun v35 => if v35 = 0 then (gd (inb a1 (lnM (r p0 33))) (lt (up h (r p0 33) (ix a1) x2) (fun h53 => (fX8_clashes h53 r p0 3 a1).bind (fun h57 => some h57)))) else (fX8_callsAnew_b23 r p0 a1 n h (x2 + 1))))
def fX8_callsAnew (h : HH) (r : RR) (p0 : Nat) (a1 : Int32) : Option (HH) := gd (inb a1 (lnM (r p0 32))) (gd (inb a1 (lnM (r p0 33))) ((fX8_isHad h r p0 (h (r p0 32) (ix a1)) (h (r p0 33) (ix a1)) a1).bind (fun v14 => if ¬ v14 = 0 then (fX8_callsAnew_b23 r p0 a1 lpF h 0) else (some h))))
set_option maxRecDepth 100000 in
set_option maxHeartbeats 4000000 in
theorem kX8_callsAnew_b23 {X : XT} {b N sz : Nat} {ok : Nat → Prop} {r : RR} {w : HH} (hX : XOK X RX8 cX8_callsAnew 3 3) (hM : N ≤ MM) (hW : WT KM lnM ok N r) (p0 : Nat) (a1 : Int32) (t0 : KM p0 = 8 ∧ ok p0) (hR : XR X b KM lnM MM (none) 0 0 N sz none w r) : ∀ (n : Nat) (h : HH) (x2 : Int32), fX8_callsAnew_b23 r p0 a1 n h x2 = some w → GX X b KM lnM MM 3 0 0 N sz 23 [(0, .ref (b + p0)), (1, .int a1), (2, .int x2)] [] h r := by
  intro n
  induction n with
  | zero =>
    intro h x2 hF
    cases hF
  | succ n ih =>
    intro h x2 hF
    rw [fX8_callsAnew_b23] at hF
    refine g_aload_n hX dX8_callsAnew_23 (i := 0) rfl (j := 0) rfl ?_
    refine g_aload_n hX dX8_callsAnew_24 (i := 0) rfl (j := 0) rfl ?_
    have tf25 := (tyF (k := 32) hW t0 (by decide) rfl (by decide) : KM (r p0 32) = 9 ∧ ok (r p0 32))
    refine gf_X8_70 hX dX8_callsAnew_25 (ty1 hW t0) (hW.1 _ tf25.2).1 ?_
    refine g_iload_n hX dX8_callsAnew_28 (i := 1) rfl (j := 1) rfl ?_
    obtain ⟨g29, hF⟩ := gd_some hF
    refine g_iald hX dX8_callsAnew_29 tf25.1 (hW.1 _ tf25.2).1 (hW.1 _ tf25.2).2 g29 ?_
    refine g_iload_n hX dX8_callsAnew_30 (i := 2) rfl (j := 2) rfl ?_
    refine g_aload_n hX dX8_callsAnew_31 (i := 0) rfl (j := 0) rfl ?_
    refine gf_X8_260 hX dX8_callsAnew_32 (ty1 hW t0) ?_
    obtain ⟨v35, e35, hF⟩ := bi_some hF
    refine g_callV (As := [.int (h (r p0 32) (ix a1)), .int x2, .int (h p0 27)]) (rest := []) (stk := [.int v35]) hX dX8_callsAnew_35 (ctX8_isHad hM hW p0 (h (r p0 32) (ix a1)) x2 (h p0 27) t0 e35) (by decide) (by decide) wm_X8_269 wi_X8_isHad ws_X8_isHad wz_X8 wc_X8_isHad hyX8_isHad rfl (ci := 8) rfl (by decide) t0.1 (hW.1 _ t0.2).1 (hW.1 _ t0.2).2 (Nat.le_of_ble_eq_true rfl) rfl rfl ?_ rfl rfl
    refine g_if_eq (tgt := 47) hX dX8_callsAnew_38 (by decide) (fun c38 => ?_) (fun c38 => ?_)
    · have hF := ite_t hF c38
      refine g_aload_n hX dX8_callsAnew_47 (i := 0) rfl (j := 0) rfl ?_
      have tf48 := (tyF (k := 33) hW t0 (by decide) rfl (by decide) : KM (r p0 33) = 9 ∧ ok (r p0 33))
      refine gf_X8_73 hX dX8_callsAnew_48 (ty1 hW t0) (hW.1 _ tf48.2).1 ?_
      refine g_iload_n hX dX8_callsAnew_51 (i := 1) rfl (j := 1) rfl ?_
      refine g_iload_n hX dX8_callsAnew_52 (i := 2) rfl (j := 2) rfl ?_
      obtain ⟨g53, hF⟩ := gd_some hF
      obtain ⟨h53, e53, hF⟩ := lt_some hF
      refine g_iast hX dX8_callsAnew_53 tf48.1 (hW.1 _ tf48.2).1 (hW.1 _ tf48.2).2 hM g53 e53 ?_
      refine g_aload_n hX dX8_callsAnew_54 (i := 0) rfl (j := 0) rfl ?_
      refine g_iconst (v := 3) hX dX8_callsAnew_55 (by decide) ?_
      refine g_iload_n hX dX8_callsAnew_56 (i := 1) rfl (j := 1) rfl ?_
      obtain ⟨h57, e57, hF⟩ := bi_some hF
      refine g_callV (As := [.int 3, .int a1]) (rest := []) (stk := []) hX dX8_callsAnew_57 (ctX8_clashes hM hW p0 3 a1 t0 e57) (by decide) (by decide) wm_X8_255 wi_X8_clashes ws_X8_clashes wz_X8 wc_X8_clashes hyX8_clashes rfl (ci := 8) rfl (by decide) t0.1 (hW.1 _ t0.2).1 (hW.1 _ t0.2).2 (Nat.le_of_ble_eq_true rfl) rfl rfl ?_ rfl rfl
      obtain rfl := Option.some.inj hF
      exact g_vret hX dX8_callsAnew_60 hR
    · have hF := ite_f hF c38
      refine g_iinc (L' := [(2, .int (x2 + 1)), (0, .ref (b + p0)), (1, .int a1)]) (j := 2) hX dX8_callsAnew_41 rfl rfl (by decide) rfl ?_
      refine g_goto (tgt := 23) hX dX8_callsAnew_44 (by decide) ?_
      refine g_sub (L' := [(0, .ref (b + p0)), (1, .int a1), (2, .int (x2 + 1))]) [1, 2, 0] rfl ?_
      exact ih h (x2 + 1) hF
set_option maxRecDepth 100000 in
set_option maxHeartbeats 4000000 in
theorem kX8_callsAnew {X : XT} {b N sz : Nat} {ok : Nat → Prop} {h : HH} {r : RR} {w : HH} (hX : XOK X RX8 cX8_callsAnew 3 3) (hM : N ≤ MM) (hW : WT KM lnM ok N r) (p0 : Nat) (a1 : Int32) (t0 : KM p0 = 8 ∧ ok p0) (hR : XR X b KM lnM MM (none) 0 0 N sz none w r) (hF : fX8_callsAnew h r p0 a1 = some w) : GX X b KM lnM MM 3 0 0 N sz 0 [(0, .ref (b + p0)), (1, .int a1)] [] h r := by
  rw [fX8_callsAnew] at hF
  refine g_aload_n hX dX8_callsAnew_0 (i := 0) rfl (j := 0) rfl ?_
  refine g_aload_n hX dX8_callsAnew_1 (i := 0) rfl (j := 0) rfl ?_
  have tf2 := (tyF (k := 32) hW t0 (by decide) rfl (by decide) : KM (r p0 32) = 9 ∧ ok (r p0 32))
  refine gf_X8_70 hX dX8_callsAnew_2 (ty1 hW t0) (hW.1 _ tf2.2).1 ?_
  refine g_iload_n hX dX8_callsAnew_5 (i := 1) rfl (j := 1) rfl ?_
  obtain ⟨g6, hF⟩ := gd_some hF
  refine g_iald hX dX8_callsAnew_6 tf2.1 (hW.1 _ tf2.2).1 (hW.1 _ tf2.2).2 g6 ?_
  refine g_aload_n hX dX8_callsAnew_7 (i := 0) rfl (j := 0) rfl ?_
  have tf8 := (tyF (k := 33) hW t0 (by decide) rfl (by decide) : KM (r p0 33) = 9 ∧ ok (r p0 33))
  refine gf_X8_73 hX dX8_callsAnew_8 (ty1 hW t0) (hW.1 _ tf8.2).1 ?_
  refine g_iload_n hX dX8_callsAnew_11 (i := 1) rfl (j := 1) rfl ?_
  obtain ⟨g12, hF⟩ := gd_some hF
  refine g_iald hX dX8_callsAnew_12 tf8.1 (hW.1 _ tf8.2).1 (hW.1 _ tf8.2).2 g12 ?_
  refine g_iload_n hX dX8_callsAnew_13 (i := 1) rfl (j := 1) rfl ?_
  obtain ⟨v14, e14, hF⟩ := bi_some hF
  refine g_callV (As := [.int (h (r p0 32) (ix a1)), .int (h (r p0 33) (ix a1)), .int a1]) (rest := []) (stk := [.int v14]) hX dX8_callsAnew_14 (ctX8_isHad hM hW p0 (h (r p0 32) (ix a1)) (h (r p0 33) (ix a1)) a1 t0 e14) (by decide) (by decide) wm_X8_269 wi_X8_isHad ws_X8_isHad wz_X8 wc_X8_isHad hyX8_isHad rfl (ci := 8) rfl (by decide) t0.1 (hW.1 _ t0.2).1 (hW.1 _ t0.2).2 (Nat.le_of_ble_eq_true rfl) rfl rfl ?_ rfl rfl
  refine g_if_ne (tgt := 21) hX dX8_callsAnew_17 (by decide) (fun c17 => ?_) (fun c17 => ?_)
  · have hF := ite_t hF c17
    refine g_iconst (v := 0) hX dX8_callsAnew_21 (by decide) ?_
    refine g_istore_n (L' := [(2, .int 0), (0, .ref (b + p0)), (1, .int a1)]) hX dX8_callsAnew_22 (i := 2) rfl (by decide) rfl ?_
    refine g_sub (L' := [(0, .ref (b + p0)), (1, .int a1), (2, .int 0)]) [1, 2, 0] rfl ?_
    exact kX8_callsAnew_b23 hX hM hW p0 a1 t0 hR lpF h 0 hF
  · have hF := ite_f hF (fun z => z c17)
    obtain rfl := Option.some.inj hF
    exact g_vret hX dX8_callsAnew_20 hR
theorem ctX8_callsAnew {b N sz : Nat} {ok : Nat → Prop} {h : HH} {r : RR} {w : HH} (hM : N ≤ MM) (hW : WT KM lnM ok N r) (p0 : Nat) (a1 : Int32) (t0 : KM p0 = 8 ∧ ok p0) (hF : fX8_callsAnew h r p0 a1 = some w) : CT yX8_callsAnew cX8_callsAnew 3 (none) 3 b KM lnM MM N sz [.ref (b + p0), .int a1] h r N sz none w r 0 0 :=
  CT_of (by decide) rfl (Nat.le_of_ble_eq_true rfl) (by decide) trivial (fun X hX hR => kX8_callsAnew hX hM hW p0 a1 t0 hR hF)
/-! X8_tellTarget -/
def fX8_tellTarget_b87 (r : RR) (p0 : Nat) (a1 : Int32) (k64 : HH → Int32 → Option (HH)) (h : HH) (x2 : Int32) : Option (HH) := k64 h (x2 + 1)
def fX8_tellTarget_b118 (r : RR) (p0 : Nat) (a1 : Int32) (k95 : HH → Int32 → Option (HH)) (h : HH) (x2 : Int32) : Option (HH) := k95 h (x2 + 1)
def fX8_tellTarget_b152 (r : RR) (p0 : Nat) (a1 : Int32) (k130 : HH → Int32 → Option (HH)) (h : HH) (x2 : Int32) : Option (HH) := k130 h (x2 + 1)
def fX8_tellTarget_b130 (r : RR) (p0 : Nat) (a1 : Int32) : Nat → HH → Int32 → Option (HH)
  | 0, _, _ => none
  | n + 1, h, x2 => if (h p0 27) ≤ x2 then (some h) else (gd (inb x2 (lnM (r p0 30))) (if (h (r p0 30) (ix x2)) = 0 then (fX8_tellTarget_b152 r p0 a1 (fun h_ z2_ => fX8_tellTarget_b130 r p0 a1 n h_ z2_) h x2) else ((fX8_callsAnew h r p0 x2).bind (fun h149 => fX8_tellTarget_b152 r p0 a1 (fun h_ z2_ => fX8_tellTarget_b130 r p0 a1 n h_ z2_) h149 x2))))
def fX8_tellTarget_b95 (r : RR) (p0 : Nat) (a1 : Int32) : Nat → HH → Int32 → Option (HH)
  | 0, _, _ => none
  | n + 1, h, x2 => if (h p0 0) ≤ x2 then ((fX8_breaksRings h r p0).bind (fun h125 => fX8_tellTarget_b130 r p0 a1 lpF h125 0)) else (gd (inb x2 (lnM (r p0 30))) (if (h (r p0 30) (ix x2)) = 0 then (fX8_tellTarget_b118 r p0 a1 (fun h_ z2_ => fX8_tellTarget_b95 r p0 a1 n h_ z2_) h x2) else ((fX8_fills h r p0 x2 a1).bind (fun h115 => fX8_tellTarget_b118 r p0 a1 (fun h_ z2_ => fX8_tellTarget_b95 r p0 a1 n h_ z2_) h115 x2))))
def fX8_tellTarget_b64 (r : RR) (p0 : Nat) (a1 : Int32) : Nat → HH → Int32 → Option (HH)
  | 0, _, _ => none
  | n + 1, h, x2 => if (h p0 0) ≤ x2 then (fX8_tellTarget_b95 r p0 a1 lpF h 0) else (gd (inb x2 (lnM (r p0 30))) (if (h (r p0 30) (ix x2)) = 0 then (fX8_tellTarget_b87 r p0 a1 (fun h_ z2_ => fX8_tellTarget_b64 r p0 a1 n h_ z2_) h x2) else ((fX8_places h r p0 x2 a1).bind (fun h84 => fX8_tellTarget_b87 r p0 a1 (fun h_ z2_ => fX8_tellTarget_b64 r p0 a1 n h_ z2_) h84 x2))))
def fX8_tellTarget_b43 (r : RR) (p0 : Nat) (a1 : Int32) : Nat → HH → Int32 → Option (HH)
  | 0, _, _ => none
  | n + 1, h, x2 => if (h p0 0) ≤ x2 then (fX8_tellTarget_b64 r p0 a1 lpF h 0) else ((fX8_whoIs h r p0 x2).bind (fun h53 => fX8_tellTarget_b43 r p0 a1 n h53 (x2 + 1)))
def fX8_tellTarget_b18 (r : RR) (p0 : Nat) (a1 : Int32) : Nat → HH → Int32 → Option (HH)
  | 0, _, _ => none
  | n + 1, h, x2 => if 30 ≤ x2 then ((fX8_ignore h r p0).bind (fun h38 => fX8_tellTarget_b43 r p0 a1 lpF h38 0)) else (gd (inb x2 (lnM (r p0 30))) (lt (up h (r p0 30) (ix x2) (zn 0)) (fun h30 => fX8_tellTarget_b18 r p0 a1 n h30 (x2 + 1))))
def fX8_tellTarget (h : HH) (r : RR) (p0 : Nat) (a1 : Int32) : Option (HH) := lt (up h p0 26 0) (fun h2 => lt (up h2 p0 27 (h2 p0 0)) (fun h10 => lt (h10 p0 0) (fun y17 => fX8_tellTarget_b18 r p0 a1 lpF h10 y17)))
set_option maxRecDepth 100000 in
set_option maxHeartbeats 4000000 in
theorem kX8_tellTarget_b87 {X : XT} {b N sz : Nat} {ok : Nat → Prop} {r : RR} {w : HH} (hX : XOK X RX8 cX8_tellTarget 3 5) (hM : N ≤ MM) (hW : WT KM lnM ok N r) (p0 : Nat) (a1 : Int32) (t0 : KM p0 = 8 ∧ ok p0) (hR : XR X b KM lnM MM (none) 0 0 N sz none w r) (k64 : HH → Int32 → Option (HH)) (hk64 : ∀ (h : HH) (x2 : Int32), k64 h x2 = some w → GX X b KM lnM MM 3 0 0 N sz 64 [(0, .ref (b + p0)), (1, .int a1), (2, .int x2)] [] h r) (h : HH) (x2 : Int32) (hF : fX8_tellTarget_b87 r p0 a1 k64 h x2 = some w) : GX X b KM lnM MM 3 0 0 N sz 87 [(0, .ref (b + p0)), (1, .int a1), (2, .int x2)] [] h r := by
  rw [fX8_tellTarget_b87] at hF
  refine g_iinc (L' := [(2, .int (x2 + 1)), (0, .ref (b + p0)), (1, .int a1)]) (j := 2) hX dX8_tellTarget_87 rfl rfl (by decide) rfl ?_
  refine g_goto (tgt := 64) hX dX8_tellTarget_90 (by decide) ?_
  refine g_sub (L' := [(0, .ref (b + p0)), (1, .int a1), (2, .int (x2 + 1))]) [1, 2, 0] rfl ?_
  exact hk64 h (x2 + 1) hF
set_option maxRecDepth 100000 in
set_option maxHeartbeats 4000000 in
theorem kX8_tellTarget_b118 {X : XT} {b N sz : Nat} {ok : Nat → Prop} {r : RR} {w : HH} (hX : XOK X RX8 cX8_tellTarget 3 5) (hM : N ≤ MM) (hW : WT KM lnM ok N r) (p0 : Nat) (a1 : Int32) (t0 : KM p0 = 8 ∧ ok p0) (hR : XR X b KM lnM MM (none) 0 0 N sz none w r) (k95 : HH → Int32 → Option (HH)) (hk95 : ∀ (h : HH) (x2 : Int32), k95 h x2 = some w → GX X b KM lnM MM 3 0 0 N sz 95 [(0, .ref (b + p0)), (1, .int a1), (2, .int x2)] [] h r) (h : HH) (x2 : Int32) (hF : fX8_tellTarget_b118 r p0 a1 k95 h x2 = some w) : GX X b KM lnM MM 3 0 0 N sz 118 [(0, .ref (b + p0)), (1, .int a1), (2, .int x2)] [] h r := by
  rw [fX8_tellTarget_b118] at hF
  refine g_iinc (L' := [(2, .int (x2 + 1)), (0, .ref (b + p0)), (1, .int a1)]) (j := 2) hX dX8_tellTarget_118 rfl rfl (by decide) rfl ?_
  refine g_goto (tgt := 95) hX dX8_tellTarget_121 (by decide) ?_
  refine g_sub (L' := [(0, .ref (b + p0)), (1, .int a1), (2, .int (x2 + 1))]) [1, 2, 0] rfl ?_
  exact hk95 h (x2 + 1) hF
set_option maxRecDepth 100000 in
set_option maxHeartbeats 4000000 in
theorem kX8_tellTarget_b152 {X : XT} {b N sz : Nat} {ok : Nat → Prop} {r : RR} {w : HH} (hX : XOK X RX8 cX8_tellTarget 3 5) (hM : N ≤ MM) (hW : WT KM lnM ok N r) (p0 : Nat) (a1 : Int32) (t0 : KM p0 = 8 ∧ ok p0) (hR : XR X b KM lnM MM (none) 0 0 N sz none w r) (k130 : HH → Int32 → Option (HH)) (hk130 : ∀ (h : HH) (x2 : Int32), k130 h x2 = some w → GX X b KM lnM MM 3 0 0 N sz 130 [(0, .ref (b + p0)), (1, .int a1), (2, .int x2)] [] h r) (h : HH) (x2 : Int32) (hF : fX8_tellTarget_b152 r p0 a1 k130 h x2 = some w) : GX X b KM lnM MM 3 0 0 N sz 152 [(0, .ref (b + p0)), (1, .int a1), (2, .int x2)] [] h r := by
  rw [fX8_tellTarget_b152] at hF
  refine g_iinc (L' := [(2, .int (x2 + 1)), (0, .ref (b + p0)), (1, .int a1)]) (j := 2) hX dX8_tellTarget_152 rfl rfl (by decide) rfl ?_
  refine g_goto (tgt := 130) hX dX8_tellTarget_155 (by decide) ?_
  refine g_sub (L' := [(0, .ref (b + p0)), (1, .int a1), (2, .int (x2 + 1))]) [1, 2, 0] rfl ?_
  exact hk130 h (x2 + 1) hF
set_option maxRecDepth 100000 in
set_option maxHeartbeats 4000000 in
theorem kX8_tellTarget_b130 {X : XT} {b N sz : Nat} {ok : Nat → Prop} {r : RR} {w : HH} (hX : XOK X RX8 cX8_tellTarget 3 5) (hM : N ≤ MM) (hW : WT KM lnM ok N r) (p0 : Nat) (a1 : Int32) (t0 : KM p0 = 8 ∧ ok p0) (hR : XR X b KM lnM MM (none) 0 0 N sz none w r) : ∀ (n : Nat) (h : HH) (x2 : Int32), fX8_tellTarget_b130 r p0 a1 n h x2 = some w → GX X b KM lnM MM 3 0 0 N sz 130 [(0, .ref (b + p0)), (1, .int a1), (2, .int x2)] [] h r := by
  intro n
  induction n with
  | zero =>
    intro h x2 hF
    cases hF
  | succ n ih =>
    intro h x2 hF
    rw [fX8_tellTarget_b130] at hF
    refine g_iload_n hX dX8_tellTarget_130 (i := 2) rfl (j := 2) rfl ?_
    refine g_aload_n hX dX8_tellTarget_131 (i := 0) rfl (j := 0) rfl ?_
    refine gf_X8_260 hX dX8_tellTarget_132 (ty1 hW t0) ?_
    refine g_icmp_ge (tgt := 158) hX dX8_tellTarget_135 (by decide) (fun c135 => ?_) (fun c135 => ?_)
    · have hF := ite_t hF c135
      obtain rfl := Option.some.inj hF
      exact g_vret hX dX8_tellTarget_158 hR
    · have hF := ite_f hF c135
      refine g_aload_n hX dX8_tellTarget_138 (i := 0) rfl (j := 0) rfl ?_
      have tf139 := (tyF (k := 30) hW t0 (by decide) rfl (by decide) : KM (r p0 30) = 10 ∧ ok (r p0 30))
      refine gf_X8_64 hX dX8_tellTarget_139 (ty1 hW t0) (hW.1 _ tf139.2).1 ?_
      refine g_iload_n hX dX8_tellTarget_142 (i := 2) rfl (j := 2) rfl ?_
      obtain ⟨g143, hF⟩ := gd_some hF
      refine g_bald hX dX8_tellTarget_143 tf139.1 (hW.1 _ tf139.2).1 (hW.1 _ tf139.2).2 g143 ?_
      refine g_if_eq (tgt := 152) hX dX8_tellTarget_144 (by decide) (fun c144 => ?_) (fun c144 => ?_)
      · have hF := ite_t hF c144
        refine g_sub (L' := [(0, .ref (b + p0)), (1, .int a1), (2, .int x2)]) [0, 1, 2] rfl ?_
        exact kX8_tellTarget_b152 hX hM hW p0 a1 t0 hR (fun h_ z2_ => fX8_tellTarget_b130 r p0 a1 n h_ z2_) ih h x2 hF
      · have hF := ite_f hF c144
        refine g_aload_n hX dX8_tellTarget_147 (i := 0) rfl (j := 0) rfl ?_
        refine g_iload_n hX dX8_tellTarget_148 (i := 2) rfl (j := 2) rfl ?_
        obtain ⟨h149, e149, hF⟩ := bi_some hF
        refine g_callV (As := [.int x2]) (rest := []) (stk := []) hX dX8_tellTarget_149 (ctX8_callsAnew hM hW p0 x2 t0 e149) (by decide) (by decide) wm_X8_285 wi_X8_callsAnew ws_X8_callsAnew wz_X8 wc_X8_callsAnew hyX8_callsAnew rfl (ci := 8) rfl (by decide) t0.1 (hW.1 _ t0.2).1 (hW.1 _ t0.2).2 (Nat.le_of_ble_eq_true rfl) rfl rfl ?_ rfl rfl
        refine g_sub (L' := [(0, .ref (b + p0)), (1, .int a1), (2, .int x2)]) [0, 1, 2] rfl ?_
        exact kX8_tellTarget_b152 hX hM hW p0 a1 t0 hR (fun h_ z2_ => fX8_tellTarget_b130 r p0 a1 n h_ z2_) ih h149 x2 hF
set_option maxRecDepth 100000 in
set_option maxHeartbeats 4000000 in
theorem kX8_tellTarget_b95 {X : XT} {b N sz : Nat} {ok : Nat → Prop} {r : RR} {w : HH} (hX : XOK X RX8 cX8_tellTarget 3 5) (hM : N ≤ MM) (hW : WT KM lnM ok N r) (p0 : Nat) (a1 : Int32) (t0 : KM p0 = 8 ∧ ok p0) (hR : XR X b KM lnM MM (none) 0 0 N sz none w r) : ∀ (n : Nat) (h : HH) (x2 : Int32), fX8_tellTarget_b95 r p0 a1 n h x2 = some w → GX X b KM lnM MM 3 0 0 N sz 95 [(0, .ref (b + p0)), (1, .int a1), (2, .int x2)] [] h r := by
  intro n
  induction n with
  | zero =>
    intro h x2 hF
    cases hF
  | succ n ih =>
    intro h x2 hF
    rw [fX8_tellTarget_b95] at hF
    refine g_iload_n hX dX8_tellTarget_95 (i := 2) rfl (j := 2) rfl ?_
    refine g_aload_n hX dX8_tellTarget_96 (i := 0) rfl (j := 0) rfl ?_
    refine gf_X8_130 hX dX8_tellTarget_97 (ty1 hW t0) ?_
    refine g_icmp_ge (tgt := 124) hX dX8_tellTarget_100 (by decide) (fun c100 => ?_) (fun c100 => ?_)
    · have hF := ite_t hF c100
      refine g_aload_n hX dX8_tellTarget_124 (i := 0) rfl (j := 0) rfl ?_
      obtain ⟨h125, e125, hF⟩ := bi_some hF
      refine g_callV (As := []) (rest := []) (stk := []) hX dX8_tellTarget_125 (ctX8_breaksRings hM hW p0 t0 e125) (by decide) (by decide) wm_X8_282 wi_X8_breaksRings ws_X8_breaksRings wz_X8 wc_X8_breaksRings hyX8_breaksRings rfl (ci := 8) rfl (by decide) t0.1 (hW.1 _ t0.2).1 (hW.1 _ t0.2).2 (Nat.le_of_ble_eq_true rfl) rfl rfl ?_ rfl rfl
      refine g_iconst (v := 0) hX dX8_tellTarget_128 (by decide) ?_
      refine g_istore_n (L' := [(2, .int 0), (0, .ref (b + p0)), (1, .int a1)]) hX dX8_tellTarget_129 (i := 2) rfl (by decide) rfl ?_
      refine g_sub (L' := [(0, .ref (b + p0)), (1, .int a1), (2, .int 0)]) [1, 2, 0] rfl ?_
      exact kX8_tellTarget_b130 hX hM hW p0 a1 t0 hR lpF h125 0 hF
    · have hF := ite_f hF c100
      refine g_aload_n hX dX8_tellTarget_103 (i := 0) rfl (j := 0) rfl ?_
      have tf104 := (tyF (k := 30) hW t0 (by decide) rfl (by decide) : KM (r p0 30) = 10 ∧ ok (r p0 30))
      refine gf_X8_64 hX dX8_tellTarget_104 (ty1 hW t0) (hW.1 _ tf104.2).1 ?_
      refine g_iload_n hX dX8_tellTarget_107 (i := 2) rfl (j := 2) rfl ?_
      obtain ⟨g108, hF⟩ := gd_some hF
      refine g_bald hX dX8_tellTarget_108 tf104.1 (hW.1 _ tf104.2).1 (hW.1 _ tf104.2).2 g108 ?_
      refine g_if_eq (tgt := 118) hX dX8_tellTarget_109 (by decide) (fun c109 => ?_) (fun c109 => ?_)
      · have hF := ite_t hF c109
        refine g_sub (L' := [(0, .ref (b + p0)), (1, .int a1), (2, .int x2)]) [0, 1, 2] rfl ?_
        exact kX8_tellTarget_b118 hX hM hW p0 a1 t0 hR (fun h_ z2_ => fX8_tellTarget_b95 r p0 a1 n h_ z2_) ih h x2 hF
      · have hF := ite_f hF c109
        refine g_aload_n hX dX8_tellTarget_112 (i := 0) rfl (j := 0) rfl ?_
        refine g_iload_n hX dX8_tellTarget_113 (i := 2) rfl (j := 2) rfl ?_
        refine g_iload_n hX dX8_tellTarget_114 (i := 1) rfl (j := 1) rfl ?_
        obtain ⟨h115, e115, hF⟩ := bi_some hF
        refine g_callV (As := [.int x2, .int a1]) (rest := []) (stk := []) hX dX8_tellTarget_115 (ctX8_fills hM hW p0 x2 a1 t0 e115) (by decide) (by decide) wm_X8_279 wi_X8_fills ws_X8_fills wz_X8 wc_X8_fills hyX8_fills rfl (ci := 8) rfl (by decide) t0.1 (hW.1 _ t0.2).1 (hW.1 _ t0.2).2 (Nat.le_of_ble_eq_true rfl) rfl rfl ?_ rfl rfl
        refine g_sub (L' := [(0, .ref (b + p0)), (1, .int a1), (2, .int x2)]) [0, 1, 2] rfl ?_
        exact kX8_tellTarget_b118 hX hM hW p0 a1 t0 hR (fun h_ z2_ => fX8_tellTarget_b95 r p0 a1 n h_ z2_) ih h115 x2 hF
set_option maxRecDepth 100000 in
set_option maxHeartbeats 4000000 in
theorem kX8_tellTarget_b64 {X : XT} {b N sz : Nat} {ok : Nat → Prop} {r : RR} {w : HH} (hX : XOK X RX8 cX8_tellTarget 3 5) (hM : N ≤ MM) (hW : WT KM lnM ok N r) (p0 : Nat) (a1 : Int32) (t0 : KM p0 = 8 ∧ ok p0) (hR : XR X b KM lnM MM (none) 0 0 N sz none w r) : ∀ (n : Nat) (h : HH) (x2 : Int32), fX8_tellTarget_b64 r p0 a1 n h x2 = some w → GX X b KM lnM MM 3 0 0 N sz 64 [(0, .ref (b + p0)), (1, .int a1), (2, .int x2)] [] h r := by
  intro n
  induction n with
  | zero =>
    intro h x2 hF
    cases hF
  | succ n ih =>
    intro h x2 hF
    rw [fX8_tellTarget_b64] at hF
    refine g_iload_n hX dX8_tellTarget_64 (i := 2) rfl (j := 2) rfl ?_
    refine g_aload_n hX dX8_tellTarget_65 (i := 0) rfl (j := 0) rfl ?_
    refine gf_X8_130 hX dX8_tellTarget_66 (ty1 hW t0) ?_
    refine g_icmp_ge (tgt := 93) hX dX8_tellTarget_69 (by decide) (fun c69 => ?_) (fun c69 => ?_)
    · have hF := ite_t hF c69
      refine g_iconst (v := 0) hX dX8_tellTarget_93 (by decide) ?_
      refine g_istore_n (L' := [(2, .int 0), (0, .ref (b + p0)), (1, .int a1)]) hX dX8_tellTarget_94 (i := 2) rfl (by decide) rfl ?_
      refine g_sub (L' := [(0, .ref (b + p0)), (1, .int a1), (2, .int 0)]) [1, 2, 0] rfl ?_
      exact kX8_tellTarget_b95 hX hM hW p0 a1 t0 hR lpF h 0 hF
    · have hF := ite_f hF c69
      refine g_aload_n hX dX8_tellTarget_72 (i := 0) rfl (j := 0) rfl ?_
      have tf73 := (tyF (k := 30) hW t0 (by decide) rfl (by decide) : KM (r p0 30) = 10 ∧ ok (r p0 30))
      refine gf_X8_64 hX dX8_tellTarget_73 (ty1 hW t0) (hW.1 _ tf73.2).1 ?_
      refine g_iload_n hX dX8_tellTarget_76 (i := 2) rfl (j := 2) rfl ?_
      obtain ⟨g77, hF⟩ := gd_some hF
      refine g_bald hX dX8_tellTarget_77 tf73.1 (hW.1 _ tf73.2).1 (hW.1 _ tf73.2).2 g77 ?_
      refine g_if_eq (tgt := 87) hX dX8_tellTarget_78 (by decide) (fun c78 => ?_) (fun c78 => ?_)
      · have hF := ite_t hF c78
        refine g_sub (L' := [(0, .ref (b + p0)), (1, .int a1), (2, .int x2)]) [0, 1, 2] rfl ?_
        exact kX8_tellTarget_b87 hX hM hW p0 a1 t0 hR (fun h_ z2_ => fX8_tellTarget_b64 r p0 a1 n h_ z2_) ih h x2 hF
      · have hF := ite_f hF c78
        refine g_aload_n hX dX8_tellTarget_81 (i := 0) rfl (j := 0) rfl ?_
        refine g_iload_n hX dX8_tellTarget_82 (i := 2) rfl (j := 2) rfl ?_
        refine g_iload_n hX dX8_tellTarget_83 (i := 1) rfl (j := 1) rfl ?_
        obtain ⟨h84, e84, hF⟩ := bi_some hF
        refine g_callV (As := [.int x2, .int a1]) (rest := []) (stk := []) hX dX8_tellTarget_84 (ctX8_places hM hW p0 x2 a1 t0 e84) (by decide) (by decide) wm_X8_276 wi_X8_places ws_X8_places wz_X8 wc_X8_places hyX8_places rfl (ci := 8) rfl (by decide) t0.1 (hW.1 _ t0.2).1 (hW.1 _ t0.2).2 (Nat.le_of_ble_eq_true rfl) rfl rfl ?_ rfl rfl
        refine g_sub (L' := [(0, .ref (b + p0)), (1, .int a1), (2, .int x2)]) [0, 1, 2] rfl ?_
        exact kX8_tellTarget_b87 hX hM hW p0 a1 t0 hR (fun h_ z2_ => fX8_tellTarget_b64 r p0 a1 n h_ z2_) ih h84 x2 hF
set_option maxRecDepth 100000 in
set_option maxHeartbeats 4000000 in
theorem kX8_tellTarget_b43 {X : XT} {b N sz : Nat} {ok : Nat → Prop} {r : RR} {w : HH} (hX : XOK X RX8 cX8_tellTarget 3 5) (hM : N ≤ MM) (hW : WT KM lnM ok N r) (p0 : Nat) (a1 : Int32) (t0 : KM p0 = 8 ∧ ok p0) (hR : XR X b KM lnM MM (none) 0 0 N sz none w r) : ∀ (n : Nat) (h : HH) (x2 : Int32), fX8_tellTarget_b43 r p0 a1 n h x2 = some w → GX X b KM lnM MM 3 0 0 N sz 43 [(0, .ref (b + p0)), (1, .int a1), (2, .int x2)] [] h r := by
  intro n
  induction n with
  | zero =>
    intro h x2 hF
    cases hF
  | succ n ih =>
    intro h x2 hF
    rw [fX8_tellTarget_b43] at hF
    refine g_iload_n hX dX8_tellTarget_43 (i := 2) rfl (j := 2) rfl ?_
    refine g_aload_n hX dX8_tellTarget_44 (i := 0) rfl (j := 0) rfl ?_
    refine gf_X8_130 hX dX8_tellTarget_45 (ty1 hW t0) ?_
    refine g_icmp_ge (tgt := 62) hX dX8_tellTarget_48 (by decide) (fun c48 => ?_) (fun c48 => ?_)
    · have hF := ite_t hF c48
      refine g_iconst (v := 0) hX dX8_tellTarget_62 (by decide) ?_
      refine g_istore_n (L' := [(2, .int 0), (0, .ref (b + p0)), (1, .int a1)]) hX dX8_tellTarget_63 (i := 2) rfl (by decide) rfl ?_
      refine g_sub (L' := [(0, .ref (b + p0)), (1, .int a1), (2, .int 0)]) [1, 2, 0] rfl ?_
      exact kX8_tellTarget_b64 hX hM hW p0 a1 t0 hR lpF h 0 hF
    · have hF := ite_f hF c48
      refine g_aload_n hX dX8_tellTarget_51 (i := 0) rfl (j := 0) rfl ?_
      refine g_iload_n hX dX8_tellTarget_52 (i := 2) rfl (j := 2) rfl ?_
      obtain ⟨h53, e53, hF⟩ := bi_some hF
      refine g_callV (As := [.int x2]) (rest := []) (stk := []) hX dX8_tellTarget_53 (ctX8_whoIs hM hW p0 x2 t0 e53) (by decide) (by decide) wm_X8_272 wi_X8_whoIs ws_X8_whoIs wz_X8 wc_X8_whoIs hyX8_whoIs rfl (ci := 8) rfl (by decide) t0.1 (hW.1 _ t0.2).1 (hW.1 _ t0.2).2 (Nat.le_of_ble_eq_true rfl) rfl rfl ?_ rfl rfl
      refine g_iinc (L' := [(2, .int (x2 + 1)), (0, .ref (b + p0)), (1, .int a1)]) (j := 2) hX dX8_tellTarget_56 rfl rfl (by decide) rfl ?_
      refine g_goto (tgt := 43) hX dX8_tellTarget_59 (by decide) ?_
      refine g_sub (L' := [(0, .ref (b + p0)), (1, .int a1), (2, .int (x2 + 1))]) [1, 2, 0] rfl ?_
      exact ih h53 (x2 + 1) hF
set_option maxRecDepth 100000 in
set_option maxHeartbeats 4000000 in
theorem kX8_tellTarget_b18 {X : XT} {b N sz : Nat} {ok : Nat → Prop} {r : RR} {w : HH} (hX : XOK X RX8 cX8_tellTarget 3 5) (hM : N ≤ MM) (hW : WT KM lnM ok N r) (p0 : Nat) (a1 : Int32) (t0 : KM p0 = 8 ∧ ok p0) (hR : XR X b KM lnM MM (none) 0 0 N sz none w r) : ∀ (n : Nat) (h : HH) (x2 : Int32), fX8_tellTarget_b18 r p0 a1 n h x2 = some w → GX X b KM lnM MM 3 0 0 N sz 18 [(0, .ref (b + p0)), (1, .int a1), (2, .int x2)] [] h r := by
  intro n
  induction n with
  | zero =>
    intro h x2 hF
    cases hF
  | succ n ih =>
    intro h x2 hF
    rw [fX8_tellTarget_b18] at hF
    refine g_iload_n hX dX8_tellTarget_18 (i := 2) rfl (j := 2) rfl ?_
    refine g_bipush (v := 30) hX dX8_tellTarget_19 (by decide) ?_
    refine g_icmp_ge (tgt := 37) hX dX8_tellTarget_21 (by decide) (fun c21 => ?_) (fun c21 => ?_)
    · have hF := ite_t hF c21
      refine g_aload_n hX dX8_tellTarget_37 (i := 0) rfl (j := 0) rfl ?_
      obtain ⟨h38, e38, hF⟩ := bi_some hF
      refine g_callV (As := []) (rest := []) (stk := []) hX dX8_tellTarget_38 (ctX8_ignore hM hW p0 t0 e38) (by decide) (by decide) wm_X8_196 wi_X8_ignore ws_X8_ignore wz_X8 wc_X8_ignore hyX8_ignore rfl (ci := 8) rfl (by decide) t0.1 (hW.1 _ t0.2).1 (hW.1 _ t0.2).2 (Nat.le_of_ble_eq_true rfl) rfl rfl ?_ rfl rfl
      refine g_iconst (v := 0) hX dX8_tellTarget_41 (by decide) ?_
      refine g_istore_n (L' := [(2, .int 0), (0, .ref (b + p0)), (1, .int a1)]) hX dX8_tellTarget_42 (i := 2) rfl (by decide) rfl ?_
      refine g_sub (L' := [(0, .ref (b + p0)), (1, .int a1), (2, .int 0)]) [1, 2, 0] rfl ?_
      exact kX8_tellTarget_b43 hX hM hW p0 a1 t0 hR lpF h38 0 hF
    · have hF := ite_f hF c21
      refine g_aload_n hX dX8_tellTarget_24 (i := 0) rfl (j := 0) rfl ?_
      have tf25 := (tyF (k := 30) hW t0 (by decide) rfl (by decide) : KM (r p0 30) = 10 ∧ ok (r p0 30))
      refine gf_X8_64 hX dX8_tellTarget_25 (ty1 hW t0) (hW.1 _ tf25.2).1 ?_
      refine g_iload_n hX dX8_tellTarget_28 (i := 2) rfl (j := 2) rfl ?_
      refine g_iconst (v := 0) hX dX8_tellTarget_29 (by decide) ?_
      obtain ⟨g30, hF⟩ := gd_some hF
      obtain ⟨h30, e30, hF⟩ := lt_some hF
      refine g_bast hX dX8_tellTarget_30 tf25.1 (hW.1 _ tf25.2).1 (hW.1 _ tf25.2).2 hM g30 e30 ?_
      refine g_iinc (L' := [(2, .int (x2 + 1)), (0, .ref (b + p0)), (1, .int a1)]) (j := 2) hX dX8_tellTarget_31 rfl rfl (by decide) rfl ?_
      refine g_goto (tgt := 18) hX dX8_tellTarget_34 (by decide) ?_
      refine g_sub (L' := [(0, .ref (b + p0)), (1, .int a1), (2, .int (x2 + 1))]) [1, 2, 0] rfl ?_
      exact ih h30 (x2 + 1) hF
set_option maxRecDepth 100000 in
set_option maxHeartbeats 4000000 in
theorem kX8_tellTarget {X : XT} {b N sz : Nat} {ok : Nat → Prop} {h : HH} {r : RR} {w : HH} (hX : XOK X RX8 cX8_tellTarget 3 5) (hM : N ≤ MM) (hW : WT KM lnM ok N r) (p0 : Nat) (a1 : Int32) (t0 : KM p0 = 8 ∧ ok p0) (hR : XR X b KM lnM MM (none) 0 0 N sz none w r) (hF : fX8_tellTarget h r p0 a1 = some w) : GX X b KM lnM MM 3 0 0 N sz 0 [(0, .ref (b + p0)), (1, .int a1)] [] h r := by
  rw [fX8_tellTarget] at hF
  refine g_aload_n hX dX8_tellTarget_0 (i := 0) rfl (j := 0) rfl ?_
  refine g_iconst (v := 0) hX dX8_tellTarget_1 (by decide) ?_
  obtain ⟨h2, e2, hF⟩ := lt_some hF
  refine pf_X8_249 hX dX8_tellTarget_2 (ty1 hW t0) hM e2 ?_
  refine g_aload_n hX dX8_tellTarget_5 (i := 0) rfl (j := 0) rfl ?_
  refine g_aload_n hX dX8_tellTarget_6 (i := 0) rfl (j := 0) rfl ?_
  refine gf_X8_130 hX dX8_tellTarget_7 (ty1 hW t0) ?_
  obtain ⟨h10, e10, hF⟩ := lt_some hF
  refine pf_X8_260 hX dX8_tellTarget_10 (ty1 hW t0) hM e10 ?_
  refine g_aload_n hX dX8_tellTarget_13 (i := 0) rfl (j := 0) rfl ?_
  refine gf_X8_130 hX dX8_tellTarget_14 (ty1 hW t0) ?_
  obtain ⟨y17, e17, hF⟩ := lt_some hF
  refine g_topi e17 ?_
  refine g_istore_n (L' := [(2, .int y17), (0, .ref (b + p0)), (1, .int a1)]) hX dX8_tellTarget_17 (i := 2) rfl (by decide) rfl ?_
  refine g_sub (L' := [(0, .ref (b + p0)), (1, .int a1), (2, .int y17)]) [1, 2, 0] rfl ?_
  exact kX8_tellTarget_b18 hX hM hW p0 a1 t0 hR lpF h10 y17 hF
theorem ctX8_tellTarget {b N sz : Nat} {ok : Nat → Prop} {h : HH} {r : RR} {w : HH} (hM : N ≤ MM) (hW : WT KM lnM ok N r) (p0 : Nat) (a1 : Int32) (t0 : KM p0 = 8 ∧ ok p0) (hF : fX8_tellTarget h r p0 a1 = some w) : CT yX8_tellTarget cX8_tellTarget 3 (none) 5 b KM lnM MM N sz [.ref (b + p0), .int a1] h r N sz none w r 0 0 :=
  CT_of (by decide) rfl (Nat.le_of_ble_eq_true rfl) (by decide) trivial (fun X hX hR => kX8_tellTarget hX hM hW p0 a1 t0 hR hF)
/-! X8_willDeep -/
def fX8_willDeep_b9 (h : HH) (r : RR) (p0 : Nat) (a1 : Int32) : Nat → Int32 → Int32 → Option (Int32)
  | 0, _, _ => none
  | n + 1, x2, x3 => if x3 = (-1) then (some (x2)) else (gd (inb x3 (lnM (r p0 32))) (lt (h (r p0 32) (ix x3)) (fun y23 => fX8_willDeep_b9 h r p0 a1 n (x2 + 1) y23)))
def fX8_willDeep (h : HH) (r : RR) (p0 : Nat) (a1 : Int32) : Option (Int32) := gd (inb a1 (lnM (r p0 32))) (lt (h (r p0 32) (ix a1)) (fun y8 => fX8_willDeep_b9 h r p0 a1 lpF 0 y8))
set_option maxRecDepth 100000 in
set_option maxHeartbeats 4000000 in
theorem kX8_willDeep_b9 {X : XT} {b N sz : Nat} {ok : Nat → Prop} {h : HH} {r : RR} {w : Int32} (hX : XOK X RX8 cX8_willDeep 4 1) (hM : N ≤ MM) (hW : WT KM lnM ok N r) (p0 : Nat) (a1 : Int32) (t0 : KM p0 = 8 ∧ ok p0) (hR : XR X b KM lnM MM (some FieldType.int) 0 0 N sz (some (.int w)) h r) : ∀ (n : Nat) (x2 : Int32) (x3 : Int32), fX8_willDeep_b9 h r p0 a1 n x2 x3 = some w → GX X b KM lnM MM 4 0 0 N sz 9 [(0, .ref (b + p0)), (1, .int a1), (2, .int x2), (3, .int x3)] [] h r := by
  intro n
  induction n with
  | zero =>
    intro x2 x3 hF
    cases hF
  | succ n ih =>
    intro x2 x3 hF
    rw [fX8_willDeep_b9] at hF
    refine g_iload_n hX dX8_willDeep_9 (i := 3) rfl (j := 3) rfl ?_
    refine g_iconst (v := (-1)) hX dX8_willDeep_10 (by decide) ?_
    refine g_icmp_eq (tgt := 27) hX dX8_willDeep_11 (by decide) (fun c11 => ?_) (fun c11 => ?_)
    · have hF := ite_t hF c11
      refine g_iload_n hX dX8_willDeep_27 (i := 2) rfl (j := 2) rfl ?_
      obtain rfl := Option.some.inj hF
      exact g_iret hX dX8_willDeep_28 hR
    · have hF := ite_f hF c11
      refine g_iinc (L' := [(2, .int (x2 + 1)), (0, .ref (b + p0)), (1, .int a1), (3, .int x3)]) (j := 2) hX dX8_willDeep_14 rfl rfl (by decide) rfl ?_
      refine g_aload_n hX dX8_willDeep_17 (i := 0) rfl (j := 1) rfl ?_
      have tf18 := (tyF (k := 32) hW t0 (by decide) rfl (by decide) : KM (r p0 32) = 9 ∧ ok (r p0 32))
      refine gf_X8_70 hX dX8_willDeep_18 (ty1 hW t0) (hW.1 _ tf18.2).1 ?_
      refine g_iload_n hX dX8_willDeep_21 (i := 3) rfl (j := 3) rfl ?_
      obtain ⟨g22, hF⟩ := gd_some hF
      refine g_iald hX dX8_willDeep_22 tf18.1 (hW.1 _ tf18.2).1 (hW.1 _ tf18.2).2 g22 ?_
      obtain ⟨y23, e23, hF⟩ := lt_some hF
      refine g_topi e23 ?_
      refine g_istore_n (L' := [(3, .int y23), (2, .int (x2 + 1)), (0, .ref (b + p0)), (1, .int a1)]) hX dX8_willDeep_23 (i := 3) rfl (by decide) rfl ?_
      refine g_goto (tgt := 9) hX dX8_willDeep_24 (by decide) ?_
      refine g_sub (L' := [(0, .ref (b + p0)), (1, .int a1), (2, .int (x2 + 1)), (3, .int y23)]) [2, 3, 1, 0] rfl ?_
      exact ih (x2 + 1) y23 hF
set_option maxRecDepth 100000 in
set_option maxHeartbeats 4000000 in
theorem kX8_willDeep {X : XT} {b N sz : Nat} {ok : Nat → Prop} {h : HH} {r : RR} {w : Int32} (hX : XOK X RX8 cX8_willDeep 4 1) (hM : N ≤ MM) (hW : WT KM lnM ok N r) (p0 : Nat) (a1 : Int32) (t0 : KM p0 = 8 ∧ ok p0) (hR : XR X b KM lnM MM (some FieldType.int) 0 0 N sz (some (.int w)) h r) (hF : fX8_willDeep h r p0 a1 = some w) : GX X b KM lnM MM 4 0 0 N sz 0 [(0, .ref (b + p0)), (1, .int a1)] [] h r := by
  rw [fX8_willDeep] at hF
  refine g_iconst (v := 0) hX dX8_willDeep_0 (by decide) ?_
  refine g_istore_n (L' := [(2, .int 0), (0, .ref (b + p0)), (1, .int a1)]) hX dX8_willDeep_1 (i := 2) rfl (by decide) rfl ?_
  refine g_aload_n hX dX8_willDeep_2 (i := 0) rfl (j := 1) rfl ?_
  have tf3 := (tyF (k := 32) hW t0 (by decide) rfl (by decide) : KM (r p0 32) = 9 ∧ ok (r p0 32))
  refine gf_X8_70 hX dX8_willDeep_3 (ty1 hW t0) (hW.1 _ tf3.2).1 ?_
  refine g_iload_n hX dX8_willDeep_6 (i := 1) rfl (j := 2) rfl ?_
  obtain ⟨g7, hF⟩ := gd_some hF
  refine g_iald hX dX8_willDeep_7 tf3.1 (hW.1 _ tf3.2).1 (hW.1 _ tf3.2).2 g7 ?_
  obtain ⟨y8, e8, hF⟩ := lt_some hF
  refine g_topi e8 ?_
  refine g_istore_n (L' := [(3, .int y8), (2, .int 0), (0, .ref (b + p0)), (1, .int a1)]) hX dX8_willDeep_8 (i := 3) rfl (by decide) rfl ?_
  refine g_sub (L' := [(0, .ref (b + p0)), (1, .int a1), (2, .int 0), (3, .int y8)]) [2, 3, 1, 0] rfl ?_
  exact kX8_willDeep_b9 hX hM hW p0 a1 t0 hR lpF 0 y8 hF
theorem ctX8_willDeep {b N sz : Nat} {ok : Nat → Prop} {h : HH} {r : RR} {w : Int32} (hM : N ≤ MM) (hW : WT KM lnM ok N r) (p0 : Nat) (a1 : Int32) (t0 : KM p0 = 8 ∧ ok p0) (hF : fX8_willDeep h r p0 a1 = some w) : CT yX8_willDeep cX8_willDeep 4 (some FieldType.int) 1 b KM lnM MM N sz [.ref (b + p0), .int a1] h r N sz (some (.int w)) h r 0 0 :=
  CT_of (by decide) rfl (Nat.le_of_ble_eq_true rfl) (by decide) trivial (fun X hX hR => kX8_willDeep hX hM hW p0 a1 t0 hR hF)
/-! X8_prefer -/
def fX8_prefer (h : HH) (r : RR) (p0 : Nat) (a1 : Int32) : Option (Int32 × HH) := (fX8_isSide h r a1).bind (fun v1 => if ¬ v1 = 0 then (lt (h p0 1) (fun y14 => lt (up h p0 1 a1) (fun h17 => some (y14, h17)))) else (some ((-2), h)))
set_option maxRecDepth 100000 in
set_option maxHeartbeats 4000000 in
theorem kX8_prefer {X : XT} {b N sz : Nat} {ok : Nat → Prop} {h : HH} {r : RR} {w : Int32 × HH} (hX : XOK X RX8 cX8_prefer 3 3) (hM : N ≤ MM) (hW : WT KM lnM ok N r) (p0 : Nat) (a1 : Int32) (t0 : KM p0 = 8 ∧ ok p0) (hR : XR X b KM lnM MM (some FieldType.int) 0 0 N sz (some (.int w.1)) w.2 r) (hF : fX8_prefer h r p0 a1 = some w) : GX X b KM lnM MM 3 0 0 N sz 0 [(0, .ref (b + p0)), (1, .int a1)] [] h r := by
  rw [fX8_prefer] at hF
  refine g_iload_n hX dX8_prefer_0 (i := 1) rfl (j := 1) rfl ?_
  obtain ⟨v1, e1, hF⟩ := bi_some hF
  refine g_callS (As := [.int a1]) (rest := []) (stk := [.int v1]) hX dX8_prefer_1 (ctX8_isSide hM hW a1 e1) (by decide) (by decide) wm_X8_151 wt_X8_isSide wz_X8 wc_X8_isSide hyX8_isSide rfl (Nat.le_of_ble_eq_true rfl) rfl rfl ?_ rfl rfl
  refine g_if_ne (tgt := 10) hX dX8_prefer_4 (by decide) (fun c4 => ?_) (fun c4 => ?_)
  · have hF := ite_t hF c4
    refine g_aload_n hX dX8_prefer_10 (i := 0) rfl (j := 0) rfl ?_
    refine gf_X8_288 hX dX8_prefer_11 (ty1 hW t0) ?_
    obtain ⟨y14, e14, hF⟩ := lt_some hF
    refine g_topi e14 ?_
    refine g_istore_n (L' := [(2, .int y14), (0, .ref (b + p0)), (1, .int a1)]) hX dX8_prefer_14 (i := 2) rfl (by decide) rfl ?_
    refine g_aload_n hX dX8_prefer_15 (i := 0) rfl (j := 1) rfl ?_
    refine g_iload_n hX dX8_prefer_16 (i := 1) rfl (j := 2) rfl ?_
    obtain ⟨h17, e17, hF⟩ := lt_some hF
    refine pf_X8_288 hX dX8_prefer_17 (ty1 hW t0) hM e17 ?_
    refine g_iload_n hX dX8_prefer_20 (i := 2) rfl (j := 0) rfl ?_
    obtain rfl := Option.some.inj hF
    exact g_iret hX dX8_prefer_21 hR
  · have hF := ite_f hF (fun z => z c4)
    refine g_bipush (v := (-2)) hX dX8_prefer_7 (by decide) ?_
    obtain rfl := Option.some.inj hF
    exact g_iret hX dX8_prefer_9 hR
theorem ctX8_prefer {b N sz : Nat} {ok : Nat → Prop} {h : HH} {r : RR} {w : Int32 × HH} (hM : N ≤ MM) (hW : WT KM lnM ok N r) (p0 : Nat) (a1 : Int32) (t0 : KM p0 = 8 ∧ ok p0) (hF : fX8_prefer h r p0 a1 = some w) : CT yX8_prefer cX8_prefer 3 (some FieldType.int) 3 b KM lnM MM N sz [.ref (b + p0), .int a1] h r N sz (some (.int w.1)) w.2 r 0 0 :=
  CT_of (by decide) rfl (Nat.le_of_ble_eq_true rfl) (by decide) trivial (fun X hX hR => kX8_prefer hX hM hW p0 a1 t0 hR hF)
/-! X8_target -/
def fX8_target (h : HH) (r : RR) (p0 : Nat) (a1 : Int32) (a2 : Int32) : Option (Int32 × HH) := (fX8_in h r a1 0 29).bind (fun v4 => if v4 = 0 then (some ((-2), h)) else ((fX8_in h r a2 0 3).bind (fun v13 => if ¬ v13 = 0 then ((fX8_tellTarget h r p0 (h p0 1)).bind (fun h27 => gd (inb a1 (lnM (r p0 30))) (if ¬ (h27 (r p0 30) (ix a1)) = 0 then (if ¬ a2 = 0 then (if ¬ a2 = 1 then (if ¬ a2 = 2 then ((fX8_willDeep h27 r p0 a1).bind (fun v84 => some (v84, h27))) else (gd (inb a1 (lnM (r p0 34))) (some (h27 (r p0 34) (ix a1), h27)))) else (gd (inb a1 (lnM (r p0 33))) (some (h27 (r p0 33) (ix a1), h27)))) else (gd (inb a1 (lnM (r p0 32))) (some (h27 (r p0 32) (ix a1), h27)))) else (some ((-1), h27))))) else (some ((-2), h)))))
set_option maxRecDepth 100000 in
set_option maxHeartbeats 4000000 in
theorem kX8_target {X : XT} {b N sz : Nat} {ok : Nat → Prop} {h : HH} {r : RR} {w : Int32 × HH} (hX : XOK X RX8 cX8_target 3 6) (hM : N ≤ MM) (hW : WT KM lnM ok N r) (p0 : Nat) (a1 : Int32) (a2 : Int32) (t0 : KM p0 = 8 ∧ ok p0) (hR : XR X b KM lnM MM (some FieldType.int) 0 0 N sz (some (.int w.1)) w.2 r) (hF : fX8_target h r p0 a1 a2 = some w) : GX X b KM lnM MM 3 0 0 N sz 0 [(0, .ref (b + p0)), (1, .int a1), (2, .int a2)] [] h r := by
  rw [fX8_target] at hF
  refine g_iload_n hX dX8_target_0 (i := 1) rfl (j := 1) rfl ?_
  refine g_iconst (v := 0) hX dX8_target_1 (by decide) ?_
  refine g_bipush (v := 29) hX dX8_target_2 (by decide) ?_
  obtain ⟨v4, e4, hF⟩ := bi_some hF
  refine g_callS (As := [.int a1, .int 0, .int 29]) (rest := []) (stk := [.int v4]) hX dX8_target_4 (ctX8_in hM hW a1 0 29 e4) (by decide) (by decide) wm_X8_133 wt_X8_in wz_X8 wc_X8_in hyX8_in rfl (Nat.le_of_ble_eq_true rfl) rfl rfl ?_ rfl rfl
  refine g_if_eq (tgt := 19) hX dX8_target_7 (by decide) (fun c7 => ?_) (fun c7 => ?_)
  · have hF := ite_t hF c7
    refine g_bipush (v := (-2)) hX dX8_target_19 (by decide) ?_
    obtain rfl := Option.some.inj hF
    exact g_iret hX dX8_target_21 hR
  · have hF := ite_f hF c7
    refine g_iload_n hX dX8_target_10 (i := 2) rfl (j := 2) rfl ?_
    refine g_iconst (v := 0) hX dX8_target_11 (by decide) ?_
    refine g_iconst (v := 3) hX dX8_target_12 (by decide) ?_
    obtain ⟨v13, e13, hF⟩ := bi_some hF
    refine g_callS (As := [.int a2, .int 0, .int 3]) (rest := []) (stk := [.int v13]) hX dX8_target_13 (ctX8_in hM hW a2 0 3 e13) (by decide) (by decide) wm_X8_133 wt_X8_in wz_X8 wc_X8_in hyX8_in rfl (Nat.le_of_ble_eq_true rfl) rfl rfl ?_ rfl rfl
    refine g_if_ne (tgt := 22) hX dX8_target_16 (by decide) (fun c16 => ?_) (fun c16 => ?_)
    · have hF := ite_t hF c16
      refine g_aload_n hX dX8_target_22 (i := 0) rfl (j := 0) rfl ?_
      refine g_aload_n hX dX8_target_23 (i := 0) rfl (j := 0) rfl ?_
      refine gf_X8_288 hX dX8_target_24 (ty1 hW t0) ?_
      obtain ⟨h27, e27, hF⟩ := bi_some hF
      refine g_callV (As := [.int (h p0 1)]) (rest := []) (stk := []) hX dX8_target_27 (ctX8_tellTarget hM hW p0 (h p0 1) t0 e27) (by decide) (by decide) wm_X8_291 wi_X8_tellTarget ws_X8_tellTarget wz_X8 wc_X8_tellTarget hyX8_tellTarget rfl (ci := 8) rfl (by decide) t0.1 (hW.1 _ t0.2).1 (hW.1 _ t0.2).2 (Nat.le_of_ble_eq_true rfl) rfl rfl ?_ rfl rfl
      refine g_aload_n hX dX8_target_30 (i := 0) rfl (j := 0) rfl ?_
      have tf31 := (tyF (k := 30) hW t0 (by decide) rfl (by decide) : KM (r p0 30) = 10 ∧ ok (r p0 30))
      refine gf_X8_64 hX dX8_target_31 (ty1 hW t0) (hW.1 _ tf31.2).1 ?_
      refine g_iload_n hX dX8_target_34 (i := 1) rfl (j := 1) rfl ?_
      obtain ⟨g35, hF⟩ := gd_some hF
      refine g_bald hX dX8_target_35 tf31.1 (hW.1 _ tf31.2).1 (hW.1 _ tf31.2).2 g35 ?_
      refine g_if_ne (tgt := 41) hX dX8_target_36 (by decide) (fun c36 => ?_) (fun c36 => ?_)
      · have hF := ite_t hF c36
        refine g_iload_n hX dX8_target_41 (i := 2) rfl (j := 2) rfl ?_
        refine g_if_ne (tgt := 54) hX dX8_target_42 (by decide) (fun c42 => ?_) (fun c42 => ?_)
        · have hF := ite_t hF c42
          refine g_iload_n hX dX8_target_54 (i := 2) rfl (j := 2) rfl ?_
          refine g_iconst (v := 1) hX dX8_target_55 (by decide) ?_
          refine g_icmp_ne (tgt := 68) hX dX8_target_56 (by decide) (fun c56 => ?_) (fun c56 => ?_)
          · have hF := ite_t hF c56
            refine g_iload_n hX dX8_target_68 (i := 2) rfl (j := 2) rfl ?_
            refine g_iconst (v := 2) hX dX8_target_69 (by decide) ?_
            refine g_icmp_ne (tgt := 82) hX dX8_target_70 (by decide) (fun c70 => ?_) (fun c70 => ?_)
            · have hF := ite_t hF c70
              refine g_aload_n hX dX8_target_82 (i := 0) rfl (j := 0) rfl ?_
              refine g_iload_n hX dX8_target_83 (i := 1) rfl (j := 1) rfl ?_
              obtain ⟨v84, e84, hF⟩ := bi_some hF
              refine g_callV (As := [.int a1]) (rest := []) (stk := [.int v84]) hX dX8_target_84 (ctX8_willDeep hM hW p0 a1 t0 e84) (by decide) (by decide) wm_X8_294 wi_X8_willDeep ws_X8_willDeep wz_X8 wc_X8_willDeep hyX8_willDeep rfl (ci := 8) rfl (by decide) t0.1 (hW.1 _ t0.2).1 (hW.1 _ t0.2).2 (Nat.le_of_ble_eq_true rfl) rfl rfl ?_ rfl rfl
              obtain rfl := Option.some.inj hF
              exact g_iret hX dX8_target_87 hR
            · have hF := ite_f hF (fun z => z c70)
              refine g_aload_n hX dX8_target_73 (i := 0) rfl (j := 0) rfl ?_
              have tf74 := (tyF (k := 34) hW t0 (by decide) rfl (by decide) : KM (r p0 34) = 9 ∧ ok (r p0 34))
              refine gf_X8_76 hX dX8_target_74 (ty1 hW t0) (hW.1 _ tf74.2).1 ?_
              refine g_iload_n hX dX8_target_77 (i := 1) rfl (j := 1) rfl ?_
              obtain ⟨g78, hF⟩ := gd_some hF
              refine g_iald hX dX8_target_78 tf74.1 (hW.1 _ tf74.2).1 (hW.1 _ tf74.2).2 g78 ?_
              refine g_goto (tgt := 87) hX dX8_target_79 (by decide) ?_
              obtain rfl := Option.some.inj hF
              exact g_iret hX dX8_target_87 hR
          · have hF := ite_f hF (fun z => z c56)
            refine g_aload_n hX dX8_target_59 (i := 0) rfl (j := 0) rfl ?_
            have tf60 := (tyF (k := 33) hW t0 (by decide) rfl (by decide) : KM (r p0 33) = 9 ∧ ok (r p0 33))
            refine gf_X8_73 hX dX8_target_60 (ty1 hW t0) (hW.1 _ tf60.2).1 ?_
            refine g_iload_n hX dX8_target_63 (i := 1) rfl (j := 1) rfl ?_
            obtain ⟨g64, hF⟩ := gd_some hF
            refine g_iald hX dX8_target_64 tf60.1 (hW.1 _ tf60.2).1 (hW.1 _ tf60.2).2 g64 ?_
            refine g_goto (tgt := 87) hX dX8_target_65 (by decide) ?_
            obtain rfl := Option.some.inj hF
            exact g_iret hX dX8_target_87 hR
        · have hF := ite_f hF (fun z => z c42)
          refine g_aload_n hX dX8_target_45 (i := 0) rfl (j := 0) rfl ?_
          have tf46 := (tyF (k := 32) hW t0 (by decide) rfl (by decide) : KM (r p0 32) = 9 ∧ ok (r p0 32))
          refine gf_X8_70 hX dX8_target_46 (ty1 hW t0) (hW.1 _ tf46.2).1 ?_
          refine g_iload_n hX dX8_target_49 (i := 1) rfl (j := 1) rfl ?_
          obtain ⟨g50, hF⟩ := gd_some hF
          refine g_iald hX dX8_target_50 tf46.1 (hW.1 _ tf46.2).1 (hW.1 _ tf46.2).2 g50 ?_
          refine g_goto (tgt := 87) hX dX8_target_51 (by decide) ?_
          obtain rfl := Option.some.inj hF
          exact g_iret hX dX8_target_87 hR
      · have hF := ite_f hF (fun z => z c36)
        refine g_iconst (v := (-1)) hX dX8_target_39 (by decide) ?_
        obtain rfl := Option.some.inj hF
        exact g_iret hX dX8_target_40 hR
    · have hF := ite_f hF (fun z => z c16)
      refine g_bipush (v := (-2)) hX dX8_target_19 (by decide) ?_
      obtain rfl := Option.some.inj hF
      exact g_iret hX dX8_target_21 hR
theorem ctX8_target {b N sz : Nat} {ok : Nat → Prop} {h : HH} {r : RR} {w : Int32 × HH} (hM : N ≤ MM) (hW : WT KM lnM ok N r) (p0 : Nat) (a1 : Int32) (a2 : Int32) (t0 : KM p0 = 8 ∧ ok p0) (hF : fX8_target h r p0 a1 a2 = some w) : CT yX8_target cX8_target 3 (some FieldType.int) 6 b KM lnM MM N sz [.ref (b + p0), .int a1, .int a2] h r N sz (some (.int w.1)) w.2 r 0 0 :=
  CT_of (by decide) rfl (Nat.le_of_ble_eq_true rfl) (by decide) trivial (fun X hX hR => kX8_target hX hM hW p0 a1 a2 t0 hR hF)
/-! X8_clash -/
def fX8_clash (h : HH) (r : RR) (p0 : Nat) (a1 : Int32) (a2 : Int32) : Option (Int32 × HH) := (fX8_in h r a2 0 1).bind (fun v3 => if ¬ v3 = 0 then ((fX8_tellTarget h r p0 (h p0 1)).bind (fun h17 => (fX8_in h17 r a1 0 ((h17 p0 26) - 1)).bind (fun v28 => if ¬ v28 = 0 then (if ¬ a2 = 0 then (gd (inb a1 (lnM (r p0 29))) (some (h17 (r p0 29) (ix a1), h17))) else (gd (inb a1 (lnM (r p0 28))) (some (h17 (r p0 28) (ix a1), h17)))) else (some ((-12), h17))))) else (some ((-2), h)))
set_option maxRecDepth 100000 in
set_option maxHeartbeats 4000000 in
theorem kX8_clash {X : XT} {b N sz : Nat} {ok : Nat → Prop} {h : HH} {r : RR} {w : Int32 × HH} (hX : XOK X RX8 cX8_clash 3 6) (hM : N ≤ MM) (hW : WT KM lnM ok N r) (p0 : Nat) (a1 : Int32) (a2 : Int32) (t0 : KM p0 = 8 ∧ ok p0) (hR : XR X b KM lnM MM (some FieldType.int) 0 0 N sz (some (.int w.1)) w.2 r) (hF : fX8_clash h r p0 a1 a2 = some w) : GX X b KM lnM MM 3 0 0 N sz 0 [(0, .ref (b + p0)), (1, .int a1), (2, .int a2)] [] h r := by
  rw [fX8_clash] at hF
  refine g_iload_n hX dX8_clash_0 (i := 2) rfl (j := 2) rfl ?_
  refine g_iconst (v := 0) hX dX8_clash_1 (by decide) ?_
  refine g_iconst (v := 1) hX dX8_clash_2 (by decide) ?_
  obtain ⟨v3, e3, hF⟩ := bi_some hF
  refine g_callS (As := [.int a2, .int 0, .int 1]) (rest := []) (stk := [.int v3]) hX dX8_clash_3 (ctX8_in hM hW a2 0 1 e3) (by decide) (by decide) wm_X8_133 wt_X8_in wz_X8 wc_X8_in hyX8_in rfl (Nat.le_of_ble_eq_true rfl) rfl rfl ?_ rfl rfl
  refine g_if_ne (tgt := 12) hX dX8_clash_6 (by decide) (fun c6 => ?_) (fun c6 => ?_)
  · have hF := ite_t hF c6
    refine g_aload_n hX dX8_clash_12 (i := 0) rfl (j := 0) rfl ?_
    refine g_aload_n hX dX8_clash_13 (i := 0) rfl (j := 0) rfl ?_
    refine gf_X8_288 hX dX8_clash_14 (ty1 hW t0) ?_
    obtain ⟨h17, e17, hF⟩ := bi_some hF
    refine g_callV (As := [.int (h p0 1)]) (rest := []) (stk := []) hX dX8_clash_17 (ctX8_tellTarget hM hW p0 (h p0 1) t0 e17) (by decide) (by decide) wm_X8_291 wi_X8_tellTarget ws_X8_tellTarget wz_X8 wc_X8_tellTarget hyX8_tellTarget rfl (ci := 8) rfl (by decide) t0.1 (hW.1 _ t0.2).1 (hW.1 _ t0.2).2 (Nat.le_of_ble_eq_true rfl) rfl rfl ?_ rfl rfl
    refine g_iload_n hX dX8_clash_20 (i := 1) rfl (j := 1) rfl ?_
    refine g_iconst (v := 0) hX dX8_clash_21 (by decide) ?_
    refine g_aload_n hX dX8_clash_22 (i := 0) rfl (j := 0) rfl ?_
    refine gf_X8_249 hX dX8_clash_23 (ty1 hW t0) ?_
    refine g_iconst (v := 1) hX dX8_clash_26 (by decide) ?_
    refine g_isub hX dX8_clash_27 ?_
    obtain ⟨v28, e28, hF⟩ := bi_some hF
    refine g_callS (As := [.int a1, .int 0, .int ((h17 p0 26) - 1)]) (rest := []) (stk := [.int v28]) hX dX8_clash_28 (ctX8_in hM hW a1 0 ((h17 p0 26) - 1) e28) (by decide) (by decide) wm_X8_133 wt_X8_in wz_X8 wc_X8_in hyX8_in rfl (Nat.le_of_ble_eq_true rfl) rfl rfl ?_ rfl rfl
    refine g_if_ne (tgt := 37) hX dX8_clash_31 (by decide) (fun c31 => ?_) (fun c31 => ?_)
    · have hF := ite_t hF c31
      refine g_iload_n hX dX8_clash_37 (i := 2) rfl (j := 2) rfl ?_
      refine g_if_ne (tgt := 50) hX dX8_clash_38 (by decide) (fun c38 => ?_) (fun c38 => ?_)
      · have hF := ite_t hF c38
        refine g_aload_n hX dX8_clash_50 (i := 0) rfl (j := 0) rfl ?_
        have tf51 := (tyF (k := 29) hW t0 (by decide) rfl (by decide) : KM (r p0 29) = 9 ∧ ok (r p0 29))
        refine gf_X8_61 hX dX8_clash_51 (ty1 hW t0) (hW.1 _ tf51.2).1 ?_
        refine g_iload_n hX dX8_clash_54 (i := 1) rfl (j := 1) rfl ?_
        obtain ⟨g55, hF⟩ := gd_some hF
        refine g_iald hX dX8_clash_55 tf51.1 (hW.1 _ tf51.2).1 (hW.1 _ tf51.2).2 g55 ?_
        obtain rfl := Option.some.inj hF
        exact g_iret hX dX8_clash_56 hR
      · have hF := ite_f hF (fun z => z c38)
        refine g_aload_n hX dX8_clash_41 (i := 0) rfl (j := 0) rfl ?_
        have tf42 := (tyF (k := 28) hW t0 (by decide) rfl (by decide) : KM (r p0 28) = 9 ∧ ok (r p0 28))
        refine gf_X8_58 hX dX8_clash_42 (ty1 hW t0) (hW.1 _ tf42.2).1 ?_
        refine g_iload_n hX dX8_clash_45 (i := 1) rfl (j := 1) rfl ?_
        obtain ⟨g46, hF⟩ := gd_some hF
        refine g_iald hX dX8_clash_46 tf42.1 (hW.1 _ tf42.2).1 (hW.1 _ tf42.2).2 g46 ?_
        refine g_goto (tgt := 56) hX dX8_clash_47 (by decide) ?_
        obtain rfl := Option.some.inj hF
        exact g_iret hX dX8_clash_56 hR
    · have hF := ite_f hF (fun z => z c31)
      refine g_bipush (v := (-12)) hX dX8_clash_34 (by decide) ?_
      obtain rfl := Option.some.inj hF
      exact g_iret hX dX8_clash_36 hR
  · have hF := ite_f hF (fun z => z c6)
    refine g_bipush (v := (-2)) hX dX8_clash_9 (by decide) ?_
    obtain rfl := Option.some.inj hF
    exact g_iret hX dX8_clash_11 hR
theorem ctX8_clash {b N sz : Nat} {ok : Nat → Prop} {h : HH} {r : RR} {w : Int32 × HH} (hM : N ≤ MM) (hW : WT KM lnM ok N r) (p0 : Nat) (a1 : Int32) (a2 : Int32) (t0 : KM p0 = 8 ∧ ok p0) (hF : fX8_clash h r p0 a1 a2 = some w) : CT yX8_clash cX8_clash 3 (some FieldType.int) 6 b KM lnM MM N sz [.ref (b + p0), .int a1, .int a2] h r N sz (some (.int w.1)) w.2 r 0 0 :=
  CT_of (by decide) rfl (Nat.le_of_ble_eq_true rfl) (by decide) trivial (fun X hX hR => kX8_clash hX hM hW p0 a1 a2 t0 hR hF)
/-! X8_step -/
def fX8_step (h : HH) (r : RR) (p0 : Nat) (a1 : Int32) (a2 : Int32) : Option (HH) := gd (inb (h p0 35) (lnM (r p0 36))) (lt (up h (r p0 36) (ix (h p0 35)) a1) (fun h9 => gd (inb (h9 p0 35) (lnM (r p0 37))) (lt (up h9 (r p0 37) (ix (h9 p0 35)) a2) (fun h19 => lt (up h19 p0 35 ((h19 p0 35) + 1)) (fun h27 => some h27)))))
set_option maxRecDepth 100000 in
set_option maxHeartbeats 4000000 in
theorem kX8_step {X : XT} {b N sz : Nat} {ok : Nat → Prop} {h : HH} {r : RR} {w : HH} (hX : XOK X RX8 cX8_step 3 1) (hM : N ≤ MM) (hW : WT KM lnM ok N r) (p0 : Nat) (a1 : Int32) (a2 : Int32) (t0 : KM p0 = 8 ∧ ok p0) (hR : XR X b KM lnM MM (none) 0 0 N sz none w r) (hF : fX8_step h r p0 a1 a2 = some w) : GX X b KM lnM MM 3 0 0 N sz 0 [(0, .ref (b + p0)), (1, .int a1), (2, .int a2)] [] h r := by
  rw [fX8_step] at hF
  refine g_aload_n hX dX8_step_0 (i := 0) rfl (j := 0) rfl ?_
  have tf1 := (tyF (k := 36) hW t0 (by decide) rfl (by decide) : KM (r p0 36) = 9 ∧ ok (r p0 36))
  refine gf_X8_79 hX dX8_step_1 (ty1 hW t0) (hW.1 _ tf1.2).1 ?_
  refine g_aload_n hX dX8_step_4 (i := 0) rfl (j := 0) rfl ?_
  refine gf_X8_297 hX dX8_step_5 (ty1 hW t0) ?_
  refine g_iload_n hX dX8_step_8 (i := 1) rfl (j := 1) rfl ?_
  obtain ⟨g9, hF⟩ := gd_some hF
  obtain ⟨h9, e9, hF⟩ := lt_some hF
  refine g_iast hX dX8_step_9 tf1.1 (hW.1 _ tf1.2).1 (hW.1 _ tf1.2).2 hM g9 e9 ?_
  refine g_aload_n hX dX8_step_10 (i := 0) rfl (j := 0) rfl ?_
  have tf11 := (tyF (k := 37) hW t0 (by decide) rfl (by decide) : KM (r p0 37) = 9 ∧ ok (r p0 37))
  refine gf_X8_82 hX dX8_step_11 (ty1 hW t0) (hW.1 _ tf11.2).1 ?_
  refine g_aload_n hX dX8_step_14 (i := 0) rfl (j := 0) rfl ?_
  refine gf_X8_297 hX dX8_step_15 (ty1 hW t0) ?_
  refine g_iload_n hX dX8_step_18 (i := 2) rfl (j := 2) rfl ?_
  obtain ⟨g19, hF⟩ := gd_some hF
  obtain ⟨h19, e19, hF⟩ := lt_some hF
  refine g_iast hX dX8_step_19 tf11.1 (hW.1 _ tf11.2).1 (hW.1 _ tf11.2).2 hM g19 e19 ?_
  refine g_aload_n hX dX8_step_20 (i := 0) rfl (j := 0) rfl ?_
  refine g_dup hX dX8_step_21 rfl ?_
  refine gf_X8_297 hX dX8_step_22 (ty1 hW t0) ?_
  refine g_iconst (v := 1) hX dX8_step_25 (by decide) ?_
  refine g_iadd hX dX8_step_26 ?_
  obtain ⟨h27, e27, hF⟩ := lt_some hF
  refine pf_X8_297 hX dX8_step_27 (ty1 hW t0) hM e27 ?_
  obtain rfl := Option.some.inj hF
  exact g_vret hX dX8_step_30 hR
theorem ctX8_step {b N sz : Nat} {ok : Nat → Prop} {h : HH} {r : RR} {w : HH} (hM : N ≤ MM) (hW : WT KM lnM ok N r) (p0 : Nat) (a1 : Int32) (a2 : Int32) (t0 : KM p0 = 8 ∧ ok p0) (hF : fX8_step h r p0 a1 a2 = some w) : CT yX8_step cX8_step 3 (none) 1 b KM lnM MM N sz [.ref (b + p0), .int a1, .int a2] h r N sz none w r 0 0 :=
  CT_of (by decide) rfl (Nat.le_of_ble_eq_true rfl) (by decide) trivial (fun X hX hR => kX8_step hX hM hW p0 a1 a2 t0 hR hF)
/-! X8_isOn -/
def fX8_isOn_b32 (h : HH) (r : RR) (p0 : Nat) (a1 : Int32) (a2 : Int32) : Option (Int32) := some (0)
def fX8_isOn (h : HH) (r : RR) (p0 : Nat) (a1 : Int32) (a2 : Int32) : Option (Int32) := if (h p0 0) ≤ a2 then (fX8_isOn_b32 h r p0 a1 a2) else (gd (inb a1 (lnM (r p0 3))) (gd (inb a2 (lnM (r (r p0 3) (ix a1)))) (if (h (r (r p0 3) (ix a1)) (ix a2)) = 0 then (fX8_isOn_b32 h r p0 a1 a2) else (gd (inb a2 (lnM (r p0 25))) (if ¬ (h (r p0 25) (ix a2)) = 0 then (fX8_isOn_b32 h r p0 a1 a2) else (some (1)))))))
set_option maxRecDepth 100000 in
set_option maxHeartbeats 4000000 in
theorem kX8_isOn_b32 {X : XT} {b N sz : Nat} {ok : Nat → Prop} {h : HH} {r : RR} {w : Int32} (hX : XOK X RX8 cX8_isOn 3 1) (hM : N ≤ MM) (hW : WT KM lnM ok N r) (p0 : Nat) (a1 : Int32) (a2 : Int32) (t0 : KM p0 = 8 ∧ ok p0) (hR : XR X b KM lnM MM (some FieldType.boolean) 0 0 N sz (some (.int w)) h r) (hF : fX8_isOn_b32 h r p0 a1 a2 = some w) : GX X b KM lnM MM 3 0 0 N sz 32 [(0, .ref (b + p0)), (1, .int a1), (2, .int a2)] [] h r := by
  rw [fX8_isOn_b32] at hF
  refine g_iconst (v := 0) hX dX8_isOn_32 (by decide) ?_
  obtain rfl := Option.some.inj hF
  exact g_zret hX dX8_isOn_33 (by decide) hR
set_option maxRecDepth 100000 in
set_option maxHeartbeats 4000000 in
theorem kX8_isOn {X : XT} {b N sz : Nat} {ok : Nat → Prop} {h : HH} {r : RR} {w : Int32} (hX : XOK X RX8 cX8_isOn 3 1) (hM : N ≤ MM) (hW : WT KM lnM ok N r) (p0 : Nat) (a1 : Int32) (a2 : Int32) (t0 : KM p0 = 8 ∧ ok p0) (hR : XR X b KM lnM MM (some FieldType.boolean) 0 0 N sz (some (.int w)) h r) (hF : fX8_isOn h r p0 a1 a2 = some w) : GX X b KM lnM MM 3 0 0 N sz 0 [(0, .ref (b + p0)), (1, .int a1), (2, .int a2)] [] h r := by
  rw [fX8_isOn] at hF
  refine g_iload_n hX dX8_isOn_0 (i := 2) rfl (j := 2) rfl ?_
  refine g_aload_n hX dX8_isOn_1 (i := 0) rfl (j := 0) rfl ?_
  refine gf_X8_130 hX dX8_isOn_2 (ty1 hW t0) ?_
  refine g_icmp_ge (tgt := 32) hX dX8_isOn_5 (by decide) (fun c5 => ?_) (fun c5 => ?_)
  · have hF := ite_t hF c5
    refine g_sub (L' := [(0, .ref (b + p0)), (1, .int a1), (2, .int a2)]) [0, 1, 2] rfl ?_
    exact kX8_isOn_b32 hX hM hW p0 a1 a2 t0 hR hF
  · have hF := ite_f hF c5
    refine g_aload_n hX dX8_isOn_8 (i := 0) rfl (j := 0) rfl ?_
    have tf9 := (tyF (k := 3) hW t0 (by decide) rfl (by decide) : KM (r p0 3) = 15 ∧ ok (r p0 3))
    refine gf_X8_15 hX dX8_isOn_9 (ty1 hW t0) (hW.1 _ tf9.2).1 ?_
    refine g_iload_n hX dX8_isOn_12 (i := 1) rfl (j := 1) rfl ?_
    obtain ⟨g13, hF⟩ := gd_some hF
    have ta13 : KM (r (r p0 3) (ix a1)) = 10 ∧ ok (r (r p0 3) (ix a1)) := tyA hW tf9 (by decide) rfl (by decide) g13
    refine g_aald hX dX8_isOn_13 tf9.1 (by decide) (by decide) (hW.1 _ tf9.2).1 (hW.1 _ tf9.2).2 g13 (hW.1 _ ta13.2).1 ?_
    refine g_iload_n hX dX8_isOn_14 (i := 2) rfl (j := 2) rfl ?_
    obtain ⟨g15, hF⟩ := gd_some hF
    refine g_bald hX dX8_isOn_15 ta13.1 (hW.1 _ ta13.2).1 (hW.1 _ ta13.2).2 g15 ?_
    refine g_if_eq (tgt := 32) hX dX8_isOn_16 (by decide) (fun c16 => ?_) (fun c16 => ?_)
    · have hF := ite_t hF c16
      refine g_sub (L' := [(0, .ref (b + p0)), (1, .int a1), (2, .int a2)]) [0, 1, 2] rfl ?_
      exact kX8_isOn_b32 hX hM hW p0 a1 a2 t0 hR hF
    · have hF := ite_f hF c16
      refine g_aload_n hX dX8_isOn_19 (i := 0) rfl (j := 0) rfl ?_
      have tf20 := (tyF (k := 25) hW t0 (by decide) rfl (by decide) : KM (r p0 25) = 10 ∧ ok (r p0 25))
      refine gf_X8_55 hX dX8_isOn_20 (ty1 hW t0) (hW.1 _ tf20.2).1 ?_
      refine g_iload_n hX dX8_isOn_23 (i := 2) rfl (j := 2) rfl ?_
      obtain ⟨g24, hF⟩ := gd_some hF
      refine g_bald hX dX8_isOn_24 tf20.1 (hW.1 _ tf20.2).1 (hW.1 _ tf20.2).2 g24 ?_
      refine g_if_ne (tgt := 32) hX dX8_isOn_25 (by decide) (fun c25 => ?_) (fun c25 => ?_)
      · have hF := ite_t hF c25
        refine g_sub (L' := [(0, .ref (b + p0)), (1, .int a1), (2, .int a2)]) [0, 1, 2] rfl ?_
        exact kX8_isOn_b32 hX hM hW p0 a1 a2 t0 hR hF
      · have hF := ite_f hF (fun z => z c25)
        refine g_iconst (v := 1) hX dX8_isOn_28 (by decide) ?_
        refine g_goto (tgt := 33) hX dX8_isOn_29 (by decide) ?_
        obtain rfl := Option.some.inj hF
        exact g_zret hX dX8_isOn_33 (by decide) hR
theorem ctX8_isOn {b N sz : Nat} {ok : Nat → Prop} {h : HH} {r : RR} {w : Int32} (hM : N ≤ MM) (hW : WT KM lnM ok N r) (p0 : Nat) (a1 : Int32) (a2 : Int32) (t0 : KM p0 = 8 ∧ ok p0) (hF : fX8_isOn h r p0 a1 a2 = some w) : CT yX8_isOn cX8_isOn 3 (some FieldType.boolean) 1 b KM lnM MM N sz [.ref (b + p0), .int a1, .int a2] h r N sz (some (.int w)) h r 0 0 :=
  CT_of (by decide) rfl (Nat.le_of_ble_eq_true rfl) (by decide) trivial (fun X hX hR => kX8_isOn hX hM hW p0 a1 a2 t0 hR hF)
/-! X8_isAside -/
def fX8_isAside_b56 (h : HH) (r : RR) (p0 : Nat) (a1 : Int32) (a2 : Int32) : Option (Int32) := some (0)
def fX8_isAside_b52 (h : HH) (r : RR) (p0 : Nat) (a1 : Int32) (a2 : Int32) : Option (Int32) := some (1)
def fX8_isAside (h : HH) (r : RR) (p0 : Nat) (a1 : Int32) (a2 : Int32) : Option (Int32) := (fX8_isOn h r p0 a1 a2).bind (fun v3 => if v3 = 0 then (fX8_isAside_b56 h r p0 a1 a2) else (gd (inb a2 (lnM (r p0 30))) (if (h (r p0 30) (ix a2)) = 0 then (fX8_isAside_b52 h r p0 a1 a2) else (gd (inb a1 (lnM (r p0 4))) (gd (inb a2 (lnM (r (r p0 4) (ix a1)))) (gd (inb a2 (lnM (r p0 32))) (if ¬ (h (r (r p0 4) (ix a1)) (ix a2)) = (h (r p0 32) (ix a2)) then (fX8_isAside_b52 h r p0 a1 a2) else (gd (inb a1 (lnM (r p0 5))) (gd (inb a2 (lnM (r (r p0 5) (ix a1)))) (gd (inb a2 (lnM (r p0 33))) (if (h (r (r p0 5) (ix a1)) (ix a2)) = (h (r p0 33) (ix a2)) then (fX8_isAside_b56 h r p0 a1 a2) else (fX8_isAside_b52 h r p0 a1 a2))))))))))))
set_option maxRecDepth 100000 in
set_option maxHeartbeats 4000000 in
theorem kX8_isAside_b56 {X : XT} {b N sz : Nat} {ok : Nat → Prop} {h : HH} {r : RR} {w : Int32} (hX : XOK X RX8 cX8_isAside 3 2) (hM : N ≤ MM) (hW : WT KM lnM ok N r) (p0 : Nat) (a1 : Int32) (a2 : Int32) (t0 : KM p0 = 8 ∧ ok p0) (hR : XR X b KM lnM MM (some FieldType.boolean) 0 0 N sz (some (.int w)) h r) (hF : fX8_isAside_b56 h r p0 a1 a2 = some w) : GX X b KM lnM MM 3 0 0 N sz 56 [(0, .ref (b + p0)), (1, .int a1), (2, .int a2)] [] h r := by
  rw [fX8_isAside_b56] at hF
  refine g_iconst (v := 0) hX dX8_isAside_56 (by decide) ?_
  obtain rfl := Option.some.inj hF
  exact g_zret hX dX8_isAside_57 (by decide) hR
set_option maxRecDepth 100000 in
set_option maxHeartbeats 4000000 in
theorem kX8_isAside_b52 {X : XT} {b N sz : Nat} {ok : Nat → Prop} {h : HH} {r : RR} {w : Int32} (hX : XOK X RX8 cX8_isAside 3 2) (hM : N ≤ MM) (hW : WT KM lnM ok N r) (p0 : Nat) (a1 : Int32) (a2 : Int32) (t0 : KM p0 = 8 ∧ ok p0) (hR : XR X b KM lnM MM (some FieldType.boolean) 0 0 N sz (some (.int w)) h r) (hF : fX8_isAside_b52 h r p0 a1 a2 = some w) : GX X b KM lnM MM 3 0 0 N sz 52 [(0, .ref (b + p0)), (1, .int a1), (2, .int a2)] [] h r := by
  rw [fX8_isAside_b52] at hF
  refine g_iconst (v := 1) hX dX8_isAside_52 (by decide) ?_
  refine g_goto (tgt := 57) hX dX8_isAside_53 (by decide) ?_
  obtain rfl := Option.some.inj hF
  exact g_zret hX dX8_isAside_57 (by decide) hR
set_option maxRecDepth 100000 in
set_option maxHeartbeats 4000000 in
theorem kX8_isAside {X : XT} {b N sz : Nat} {ok : Nat → Prop} {h : HH} {r : RR} {w : Int32} (hX : XOK X RX8 cX8_isAside 3 2) (hM : N ≤ MM) (hW : WT KM lnM ok N r) (p0 : Nat) (a1 : Int32) (a2 : Int32) (t0 : KM p0 = 8 ∧ ok p0) (hR : XR X b KM lnM MM (some FieldType.boolean) 0 0 N sz (some (.int w)) h r) (hF : fX8_isAside h r p0 a1 a2 = some w) : GX X b KM lnM MM 3 0 0 N sz 0 [(0, .ref (b + p0)), (1, .int a1), (2, .int a2)] [] h r := by
  rw [fX8_isAside] at hF
  refine g_aload_n hX dX8_isAside_0 (i := 0) rfl (j := 0) rfl ?_
  refine g_iload_n hX dX8_isAside_1 (i := 1) rfl (j := 1) rfl ?_
  refine g_iload_n hX dX8_isAside_2 (i := 2) rfl (j := 2) rfl ?_
  obtain ⟨v3, e3, hF⟩ := bi_some hF
  refine g_callV (As := [.int a1, .int a2]) (rest := []) (stk := [.int v3]) hX dX8_isAside_3 (ctX8_isOn hM hW p0 a1 a2 t0 e3) (by decide) (by decide) wm_X8_300 wi_X8_isOn ws_X8_isOn wz_X8 wc_X8_isOn hyX8_isOn rfl (ci := 8) rfl (by decide) t0.1 (hW.1 _ t0.2).1 (hW.1 _ t0.2).2 (Nat.le_of_ble_eq_true rfl) rfl rfl ?_ rfl rfl
  refine g_if_eq (tgt := 56) hX dX8_isAside_6 (by decide) (fun c6 => ?_) (fun c6 => ?_)
  · have hF := ite_t hF c6
    refine g_sub (L' := [(0, .ref (b + p0)), (1, .int a1), (2, .int a2)]) [0, 1, 2] rfl ?_
    exact kX8_isAside_b56 hX hM hW p0 a1 a2 t0 hR hF
  · have hF := ite_f hF c6
    refine g_aload_n hX dX8_isAside_9 (i := 0) rfl (j := 0) rfl ?_
    have tf10 := (tyF (k := 30) hW t0 (by decide) rfl (by decide) : KM (r p0 30) = 10 ∧ ok (r p0 30))
    refine gf_X8_64 hX dX8_isAside_10 (ty1 hW t0) (hW.1 _ tf10.2).1 ?_
    refine g_iload_n hX dX8_isAside_13 (i := 2) rfl (j := 2) rfl ?_
    obtain ⟨g14, hF⟩ := gd_some hF
    refine g_bald hX dX8_isAside_14 tf10.1 (hW.1 _ tf10.2).1 (hW.1 _ tf10.2).2 g14 ?_
    refine g_if_eq (tgt := 52) hX dX8_isAside_15 (by decide) (fun c15 => ?_) (fun c15 => ?_)
    · have hF := ite_t hF c15
      refine g_sub (L' := [(0, .ref (b + p0)), (1, .int a1), (2, .int a2)]) [0, 1, 2] rfl ?_
      exact kX8_isAside_b52 hX hM hW p0 a1 a2 t0 hR hF
    · have hF := ite_f hF c15
      refine g_aload_n hX dX8_isAside_18 (i := 0) rfl (j := 0) rfl ?_
      have tf19 := (tyF (k := 4) hW t0 (by decide) rfl (by decide) : KM (r p0 4) = 14 ∧ ok (r p0 4))
      refine gf_X8_20 hX dX8_isAside_19 (ty1 hW t0) (hW.1 _ tf19.2).1 ?_
      refine g_iload_n hX dX8_isAside_22 (i := 1) rfl (j := 1) rfl ?_
      obtain ⟨g23, hF⟩ := gd_some hF
      have ta23 : KM (r (r p0 4) (ix a1)) = 9 ∧ ok (r (r p0 4) (ix a1)) := tyA hW tf19 (by decide) rfl (by decide) g23
      refine g_aald hX dX8_isAside_23 tf19.1 (by decide) (by decide) (hW.1 _ tf19.2).1 (hW.1 _ tf19.2).2 g23 (hW.1 _ ta23.2).1 ?_
      refine g_iload_n hX dX8_isAside_24 (i := 2) rfl (j := 2) rfl ?_
      obtain ⟨g25, hF⟩ := gd_some hF
      refine g_iald hX dX8_isAside_25 ta23.1 (hW.1 _ ta23.2).1 (hW.1 _ ta23.2).2 g25 ?_
      refine g_aload_n hX dX8_isAside_26 (i := 0) rfl (j := 0) rfl ?_
      have tf27 := (tyF (k := 32) hW t0 (by decide) rfl (by decide) : KM (r p0 32) = 9 ∧ ok (r p0 32))
      refine gf_X8_70 hX dX8_isAside_27 (ty1 hW t0) (hW.1 _ tf27.2).1 ?_
      refine g_iload_n hX dX8_isAside_30 (i := 2) rfl (j := 2) rfl ?_
      obtain ⟨g31, hF⟩ := gd_some hF
      refine g_iald hX dX8_isAside_31 tf27.1 (hW.1 _ tf27.2).1 (hW.1 _ tf27.2).2 g31 ?_
      refine g_icmp_ne (tgt := 52) hX dX8_isAside_32 (by decide) (fun c32 => ?_) (fun c32 => ?_)
      · have hF := ite_t hF c32
        refine g_sub (L' := [(0, .ref (b + p0)), (1, .int a1), (2, .int a2)]) [0, 1, 2] rfl ?_
        exact kX8_isAside_b52 hX hM hW p0 a1 a2 t0 hR hF
      · have hF := ite_f hF (fun z => z c32)
        refine g_aload_n hX dX8_isAside_35 (i := 0) rfl (j := 0) rfl ?_
        have tf36 := (tyF (k := 5) hW t0 (by decide) rfl (by decide) : KM (r p0 5) = 14 ∧ ok (r p0 5))
        refine gf_X8_23 hX dX8_isAside_36 (ty1 hW t0) (hW.1 _ tf36.2).1 ?_
        refine g_iload_n hX dX8_isAside_39 (i := 1) rfl (j := 1) rfl ?_
        obtain ⟨g40, hF⟩ := gd_some hF
        have ta40 : KM (r (r p0 5) (ix a1)) = 9 ∧ ok (r (r p0 5) (ix a1)) := tyA hW tf36 (by decide) rfl (by decide) g40
        refine g_aald hX dX8_isAside_40 tf36.1 (by decide) (by decide) (hW.1 _ tf36.2).1 (hW.1 _ tf36.2).2 g40 (hW.1 _ ta40.2).1 ?_
        refine g_iload_n hX dX8_isAside_41 (i := 2) rfl (j := 2) rfl ?_
        obtain ⟨g42, hF⟩ := gd_some hF
        refine g_iald hX dX8_isAside_42 ta40.1 (hW.1 _ ta40.2).1 (hW.1 _ ta40.2).2 g42 ?_
        refine g_aload_n hX dX8_isAside_43 (i := 0) rfl (j := 0) rfl ?_
        have tf44 := (tyF (k := 33) hW t0 (by decide) rfl (by decide) : KM (r p0 33) = 9 ∧ ok (r p0 33))
        refine gf_X8_73 hX dX8_isAside_44 (ty1 hW t0) (hW.1 _ tf44.2).1 ?_
        refine g_iload_n hX dX8_isAside_47 (i := 2) rfl (j := 2) rfl ?_
        obtain ⟨g48, hF⟩ := gd_some hF
        refine g_iald hX dX8_isAside_48 tf44.1 (hW.1 _ tf44.2).1 (hW.1 _ tf44.2).2 g48 ?_
        refine g_icmp_eq (tgt := 56) hX dX8_isAside_49 (by decide) (fun c49 => ?_) (fun c49 => ?_)
        · have hF := ite_t hF c49
          refine g_sub (L' := [(0, .ref (b + p0)), (1, .int a1), (2, .int a2)]) [0, 1, 2] rfl ?_
          exact kX8_isAside_b56 hX hM hW p0 a1 a2 t0 hR hF
        · have hF := ite_f hF c49
          refine g_sub (L' := [(0, .ref (b + p0)), (1, .int a1), (2, .int a2)]) [0, 1, 2] rfl ?_
          exact kX8_isAside_b52 hX hM hW p0 a1 a2 t0 hR hF
theorem ctX8_isAside {b N sz : Nat} {ok : Nat → Prop} {h : HH} {r : RR} {w : Int32} (hM : N ≤ MM) (hW : WT KM lnM ok N r) (p0 : Nat) (a1 : Int32) (a2 : Int32) (t0 : KM p0 = 8 ∧ ok p0) (hF : fX8_isAside h r p0 a1 a2 = some w) : CT yX8_isAside cX8_isAside 3 (some FieldType.boolean) 2 b KM lnM MM N sz [.ref (b + p0), .int a1, .int a2] h r N sz (some (.int w)) h r 0 0 :=
  CT_of (by decide) rfl (Nat.le_of_ble_eq_true rfl) (by decide) trivial (fun X hX hR => kX8_isAside hX hM hW p0 a1 a2 t0 hR hF)
/-! X8_tellPlan -/
def fX8_tellPlan_b30 (r : RR) (p0 : Nat) (a1 : Int32) (k7 : HH → Int32 → Option (HH)) (h : HH) (x2 : Int32) : Option (HH) := k7 h (x2 + 1)
def fX8_tellPlan_b108 (r : RR) (p0 : Nat) (a1 : Int32) (k38 : HH → Int32 → Option (HH)) (k46 : HH → Int32 → Int32 → Option (HH)) (h : HH) (x2 : Int32) (x3 : Int32) : Option (HH) := k46 h x2 (x3 + 1)
def fX8_tellPlan_b46 (r : RR) (p0 : Nat) (a1 : Int32) (k38 : HH → Int32 → Option (HH)) : Nat → HH → Int32 → Int32 → Option (HH)
  | 0, _, _, _ => none
  | n + 1, h, x2, x3 => if (h p0 27) ≤ x3 then (k38 h (x2 + 1)) else (gd (inb x3 (lnM (r p0 30))) (if (h (r p0 30) (ix x3)) = 0 then (fX8_tellPlan_b108 r p0 a1 k38 (fun h_ z2_ z3_ => fX8_tellPlan_b46 r p0 a1 k38 n h_ z2_ z3_) h x2 x3) else ((fX8_willDeep h r p0 x3).bind (fun v65 => if v65 = x2 then ((fX8_isOn h r p0 a1 x3).bind (fun v78 => if ¬ v78 = 0 then ((fX8_isAside h r p0 a1 x3).bind (fun v96 => if v96 = 0 then (fX8_tellPlan_b108 r p0 a1 k38 (fun h_ z2_ z3_ => fX8_tellPlan_b46 r p0 a1 k38 n h_ z2_ z3_) h x2 x3) else ((fX8_step h r p0 2 x3).bind (fun h105 => fX8_tellPlan_b108 r p0 a1 k38 (fun h_ z2_ z3_ => fX8_tellPlan_b46 r p0 a1 k38 n h_ z2_ z3_) h105 x2 x3)))) else ((fX8_step h r p0 1 x3).bind (fun h87 => fX8_tellPlan_b108 r p0 a1 k38 (fun h_ z2_ z3_ => fX8_tellPlan_b46 r p0 a1 k38 n h_ z2_ z3_) h87 x2 x3)))) else (fX8_tellPlan_b108 r p0 a1 k38 (fun h_ z2_ z3_ => fX8_tellPlan_b46 r p0 a1 k38 n h_ z2_ z3_) h x2 x3)))))
def fX8_tellPlan_b171 (r : RR) (p0 : Nat) (a1 : Int32) (k122 : HH → Int32 → Option (HH)) (h : HH) (x2 : Int32) : Option (HH) := k122 h (x2 + 1)
def fX8_tellPlan_b212 (r : RR) (p0 : Nat) (a1 : Int32) (k184 : HH → Int32 → Option (HH)) (h : HH) (x2 : Int32) : Option (HH) := k184 h (x2 + (-1))
def fX8_tellPlan_b184 (r : RR) (p0 : Nat) (a1 : Int32) : Nat → HH → Int32 → Option (HH)
  | 0, _, _ => none
  | n + 1, h, x2 => if x2 < 0 then (some h) else ((fX8_isAside h r p0 a1 x2).bind (fun v191 => if v191 = 0 then (fX8_tellPlan_b212 r p0 a1 (fun h_ z2_ => fX8_tellPlan_b184 r p0 a1 n h_ z2_) h x2) else (gd (inb x2 (lnM (r p0 30))) (if ¬ (h (r p0 30) (ix x2)) = 0 then (fX8_tellPlan_b212 r p0 a1 (fun h_ z2_ => fX8_tellPlan_b184 r p0 a1 n h_ z2_) h x2) else ((fX8_step h r p0 4 x2).bind (fun h209 => fX8_tellPlan_b212 r p0 a1 (fun h_ z2_ => fX8_tellPlan_b184 r p0 a1 n h_ z2_) h209 x2))))))
def fX8_tellPlan_b122 (r : RR) (p0 : Nat) (a1 : Int32) : Nat → HH → Int32 → Option (HH)
  | 0, _, _ => none
  | n + 1, h, x2 => if (h p0 0) ≤ x2 then (lt ((h p0 0) - 1) (fun y183 => fX8_tellPlan_b184 r p0 a1 lpF h y183)) else (gd (inb x2 (lnM (r p0 30))) (if (h (r p0 30) (ix x2)) = 0 then (fX8_tellPlan_b171 r p0 a1 (fun h_ z2_ => fX8_tellPlan_b122 r p0 a1 n h_ z2_) h x2) else ((fX8_isOn h r p0 a1 x2).bind (fun v142 => if v142 = 0 then (fX8_tellPlan_b171 r p0 a1 (fun h_ z2_ => fX8_tellPlan_b122 r p0 a1 n h_ z2_) h x2) else (gd (inb a1 (lnM (r p0 6))) (gd (inb x2 (lnM (r (r p0 6) (ix a1)))) (gd (inb x2 (lnM (r p0 34))) (if (h (r (r p0 6) (ix a1)) (ix x2)) = (h (r p0 34) (ix x2)) then (fX8_tellPlan_b171 r p0 a1 (fun h_ z2_ => fX8_tellPlan_b122 r p0 a1 n h_ z2_) h x2) else ((fX8_step h r p0 3 x2).bind (fun h168 => fX8_tellPlan_b171 r p0 a1 (fun h_ z2_ => fX8_tellPlan_b122 r p0 a1 n h_ z2_) h168 x2))))))))))
def fX8_tellPlan_b38 (r : RR) (p0 : Nat) (a1 : Int32) : Nat → HH → Int32 → Option (HH)
  | 0, _, _ => none
  | n + 1, h, x2 => if 30 < x2 then (fX8_tellPlan_b122 r p0 a1 lpF h 0) else (fX8_tellPlan_b46 r p0 a1 (fun h_ z2_ => fX8_tellPlan_b38 r p0 a1 n h_ z2_) lpF h x2 0)
def fX8_tellPlan_b7 (r : RR) (p0 : Nat) (a1 : Int32) : Nat → HH → Int32 → Option (HH)
  | 0, _, _ => none
  | n + 1, h, x2 => if (h p0 0) ≤ x2 then (fX8_tellPlan_b38 r p0 a1 lpF h 0) else ((fX8_isAside h r p0 a1 x2).bind (fun v18 => if v18 = 0 then (fX8_tellPlan_b30 r p0 a1 (fun h_ z2_ => fX8_tellPlan_b7 r p0 a1 n h_ z2_) h x2) else ((fX8_step h r p0 0 x2).bind (fun h27 => fX8_tellPlan_b30 r p0 a1 (fun h_ z2_ => fX8_tellPlan_b7 r p0 a1 n h_ z2_) h27 x2))))
def fX8_tellPlan (h : HH) (r : RR) (p0 : Nat) (a1 : Int32) : Option (HH) := lt (up h p0 35 0) (fun h2 => fX8_tellPlan_b7 r p0 a1 lpF h2 0)
set_option maxRecDepth 100000 in
set_option maxHeartbeats 4000000 in
theorem kX8_tellPlan_b30 {X : XT} {b N sz : Nat} {ok : Nat → Prop} {r : RR} {w : HH} (hX : XOK X RX8 cX8_tellPlan 4 3) (hM : N ≤ MM) (hW : WT KM lnM ok N r) (p0 : Nat) (a1 : Int32) (t0 : KM p0 = 8 ∧ ok p0) (hR : XR X b KM lnM MM (none) 0 0 N sz none w r) (k7 : HH → Int32 → Option (HH)) (hk7 : ∀ (h : HH) (x2 : Int32), k7 h x2 = some w → GX X b KM lnM MM 4 0 0 N sz 7 [(0, .ref (b + p0)), (1, .int a1), (2, .int x2)] [] h r) (h : HH) (x2 : Int32) (hF : fX8_tellPlan_b30 r p0 a1 k7 h x2 = some w) : GX X b KM lnM MM 4 0 0 N sz 30 [(0, .ref (b + p0)), (1, .int a1), (2, .int x2)] [] h r := by
  rw [fX8_tellPlan_b30] at hF
  refine g_iinc (L' := [(2, .int (x2 + 1)), (0, .ref (b + p0)), (1, .int a1)]) (j := 2) hX dX8_tellPlan_30 rfl rfl (by decide) rfl ?_
  refine g_goto (tgt := 7) hX dX8_tellPlan_33 (by decide) ?_
  refine g_sub (L' := [(0, .ref (b + p0)), (1, .int a1), (2, .int (x2 + 1))]) [1, 2, 0] rfl ?_
  exact hk7 h (x2 + 1) hF
set_option maxRecDepth 100000 in
set_option maxHeartbeats 4000000 in
theorem kX8_tellPlan_b108 {X : XT} {b N sz : Nat} {ok : Nat → Prop} {r : RR} {w : HH} (hX : XOK X RX8 cX8_tellPlan 4 3) (hM : N ≤ MM) (hW : WT KM lnM ok N r) (p0 : Nat) (a1 : Int32) (t0 : KM p0 = 8 ∧ ok p0) (hR : XR X b KM lnM MM (none) 0 0 N sz none w r) (k38 : HH → Int32 → Option (HH)) (hk38 : ∀ (h : HH) (x2 : Int32), k38 h x2 = some w → GX X b KM lnM MM 4 0 0 N sz 38 [(0, .ref (b + p0)), (1, .int a1), (2, .int x2)] [] h r) (k46 : HH → Int32 → Int32 → Option (HH)) (hk46 : ∀ (h : HH) (x2 : Int32) (x3 : Int32), k46 h x2 x3 = some w → GX X b KM lnM MM 4 0 0 N sz 46 [(0, .ref (b + p0)), (1, .int a1), (2, .int x2), (3, .int x3)] [] h r) (h : HH) (x2 : Int32) (x3 : Int32) (hF : fX8_tellPlan_b108 r p0 a1 k38 k46 h x2 x3 = some w) : GX X b KM lnM MM 4 0 0 N sz 108 [(0, .ref (b + p0)), (1, .int a1), (2, .int x2), (3, .int x3)] [] h r := by
  rw [fX8_tellPlan_b108] at hF
  refine g_iinc (L' := [(3, .int (x3 + 1)), (0, .ref (b + p0)), (1, .int a1), (2, .int x2)]) (j := 3) hX dX8_tellPlan_108 rfl rfl (by decide) rfl ?_
  refine g_goto (tgt := 46) hX dX8_tellPlan_111 (by decide) ?_
  refine g_sub (L' := [(0, .ref (b + p0)), (1, .int a1), (2, .int x2), (3, .int (x3 + 1))]) [1, 2, 3, 0] rfl ?_
  exact hk46 h x2 (x3 + 1) hF
set_option maxRecDepth 100000 in
set_option maxHeartbeats 4000000 in
theorem kX8_tellPlan_b46 {X : XT} {b N sz : Nat} {ok : Nat → Prop} {r : RR} {w : HH} (hX : XOK X RX8 cX8_tellPlan 4 3) (hM : N ≤ MM) (hW : WT KM lnM ok N r) (p0 : Nat) (a1 : Int32) (t0 : KM p0 = 8 ∧ ok p0) (hR : XR X b KM lnM MM (none) 0 0 N sz none w r) (k38 : HH → Int32 → Option (HH)) (hk38 : ∀ (h : HH) (x2 : Int32), k38 h x2 = some w → GX X b KM lnM MM 4 0 0 N sz 38 [(0, .ref (b + p0)), (1, .int a1), (2, .int x2)] [] h r) : ∀ (n : Nat) (h : HH) (x2 : Int32) (x3 : Int32), fX8_tellPlan_b46 r p0 a1 k38 n h x2 x3 = some w → GX X b KM lnM MM 4 0 0 N sz 46 [(0, .ref (b + p0)), (1, .int a1), (2, .int x2), (3, .int x3)] [] h r := by
  intro n
  induction n with
  | zero =>
    intro h x2 x3 hF
    cases hF
  | succ n ih =>
    intro h x2 x3 hF
    rw [fX8_tellPlan_b46] at hF
    refine g_iload_n hX dX8_tellPlan_46 (i := 3) rfl (j := 3) rfl ?_
    refine g_aload_n hX dX8_tellPlan_47 (i := 0) rfl (j := 0) rfl ?_
    refine gf_X8_260 hX dX8_tellPlan_48 (ty1 hW t0) ?_
    refine g_icmp_ge (tgt := 114) hX dX8_tellPlan_51 (by decide) (fun c51 => ?_) (fun c51 => ?_)
    · have hF := ite_t hF c51
      refine g_iinc (L' := [(2, .int (x2 + 1)), (0, .ref (b + p0)), (1, .int a1), (3, .int x3)]) (j := 2) hX dX8_tellPlan_114 rfl rfl (by decide) rfl ?_
      refine g_goto (tgt := 38) hX dX8_tellPlan_117 (by decide) ?_
      refine g_sub (L' := [(0, .ref (b + p0)), (1, .int a1), (2, .int (x2 + 1))]) [1, 2, 0] rfl ?_
      exact hk38 h (x2 + 1) hF
    · have hF := ite_f hF c51
      refine g_aload_n hX dX8_tellPlan_54 (i := 0) rfl (j := 0) rfl ?_
      have tf55 := (tyF (k := 30) hW t0 (by decide) rfl (by decide) : KM (r p0 30) = 10 ∧ ok (r p0 30))
      refine gf_X8_64 hX dX8_tellPlan_55 (ty1 hW t0) (hW.1 _ tf55.2).1 ?_
      refine g_iload_n hX dX8_tellPlan_58 (i := 3) rfl (j := 3) rfl ?_
      obtain ⟨g59, hF⟩ := gd_some hF
      refine g_bald hX dX8_tellPlan_59 tf55.1 (hW.1 _ tf55.2).1 (hW.1 _ tf55.2).2 g59 ?_
      refine g_if_eq (tgt := 108) hX dX8_tellPlan_60 (by decide) (fun c60 => ?_) (fun c60 => ?_)
      · have hF := ite_t hF c60
        refine g_sub (L' := [(0, .ref (b + p0)), (1, .int a1), (2, .int x2), (3, .int x3)]) [0, 1, 2, 3] rfl ?_
        exact kX8_tellPlan_b108 hX hM hW p0 a1 t0 hR k38 hk38 (fun h_ z2_ z3_ => fX8_tellPlan_b46 r p0 a1 k38 n h_ z2_ z3_) ih h x2 x3 hF
      · have hF := ite_f hF c60
        refine g_aload_n hX dX8_tellPlan_63 (i := 0) rfl (j := 0) rfl ?_
        refine g_iload_n hX dX8_tellPlan_64 (i := 3) rfl (j := 3) rfl ?_
        obtain ⟨v65, e65, hF⟩ := bi_some hF
        refine g_callV (As := [.int x3]) (rest := []) (stk := [.int v65]) hX dX8_tellPlan_65 (ctX8_willDeep hM hW p0 x3 t0 e65) (by decide) (by decide) wm_X8_294 wi_X8_willDeep ws_X8_willDeep wz_X8 wc_X8_willDeep hyX8_willDeep rfl (ci := 8) rfl (by decide) t0.1 (hW.1 _ t0.2).1 (hW.1 _ t0.2).2 (Nat.le_of_ble_eq_true rfl) rfl rfl ?_ rfl rfl
        refine g_iload_n hX dX8_tellPlan_68 (i := 2) rfl (j := 2) rfl ?_
        refine g_icmp_eq (tgt := 75) hX dX8_tellPlan_69 (by decide) (fun c69 => ?_) (fun c69 => ?_)
        · have hF := ite_t hF c69
          refine g_aload_n hX dX8_tellPlan_75 (i := 0) rfl (j := 0) rfl ?_
          refine g_iload_n hX dX8_tellPlan_76 (i := 1) rfl (j := 1) rfl ?_
          refine g_iload_n hX dX8_tellPlan_77 (i := 3) rfl (j := 3) rfl ?_
          obtain ⟨v78, e78, hF⟩ := bi_some hF
          refine g_callV (As := [.int a1, .int x3]) (rest := []) (stk := [.int v78]) hX dX8_tellPlan_78 (ctX8_isOn hM hW p0 a1 x3 t0 e78) (by decide) (by decide) wm_X8_300 wi_X8_isOn ws_X8_isOn wz_X8 wc_X8_isOn hyX8_isOn rfl (ci := 8) rfl (by decide) t0.1 (hW.1 _ t0.2).1 (hW.1 _ t0.2).2 (Nat.le_of_ble_eq_true rfl) rfl rfl ?_ rfl rfl
          refine g_if_ne (tgt := 93) hX dX8_tellPlan_81 (by decide) (fun c81 => ?_) (fun c81 => ?_)
          · have hF := ite_t hF c81
            refine g_aload_n hX dX8_tellPlan_93 (i := 0) rfl (j := 0) rfl ?_
            refine g_iload_n hX dX8_tellPlan_94 (i := 1) rfl (j := 1) rfl ?_
            refine g_iload_n hX dX8_tellPlan_95 (i := 3) rfl (j := 3) rfl ?_
            obtain ⟨v96, e96, hF⟩ := bi_some hF
            refine g_callV (As := [.int a1, .int x3]) (rest := []) (stk := [.int v96]) hX dX8_tellPlan_96 (ctX8_isAside hM hW p0 a1 x3 t0 e96) (by decide) (by decide) wm_X8_303 wi_X8_isAside ws_X8_isAside wz_X8 wc_X8_isAside hyX8_isAside rfl (ci := 8) rfl (by decide) t0.1 (hW.1 _ t0.2).1 (hW.1 _ t0.2).2 (Nat.le_of_ble_eq_true rfl) rfl rfl ?_ rfl rfl
            refine g_if_eq (tgt := 108) hX dX8_tellPlan_99 (by decide) (fun c99 => ?_) (fun c99 => ?_)
            · have hF := ite_t hF c99
              refine g_sub (L' := [(0, .ref (b + p0)), (1, .int a1), (2, .int x2), (3, .int x3)]) [0, 1, 2, 3] rfl ?_
              exact kX8_tellPlan_b108 hX hM hW p0 a1 t0 hR k38 hk38 (fun h_ z2_ z3_ => fX8_tellPlan_b46 r p0 a1 k38 n h_ z2_ z3_) ih h x2 x3 hF
            · have hF := ite_f hF c99
              refine g_aload_n hX dX8_tellPlan_102 (i := 0) rfl (j := 0) rfl ?_
              refine g_iconst (v := 2) hX dX8_tellPlan_103 (by decide) ?_
              refine g_iload_n hX dX8_tellPlan_104 (i := 3) rfl (j := 3) rfl ?_
              obtain ⟨h105, e105, hF⟩ := bi_some hF
              refine g_callV (As := [.int 2, .int x3]) (rest := []) (stk := []) hX dX8_tellPlan_105 (ctX8_step hM hW p0 2 x3 t0 e105) (by decide) (by decide) wm_X8_306 wi_X8_step ws_X8_step wz_X8 wc_X8_step hyX8_step rfl (ci := 8) rfl (by decide) t0.1 (hW.1 _ t0.2).1 (hW.1 _ t0.2).2 (Nat.le_of_ble_eq_true rfl) rfl rfl ?_ rfl rfl
              refine g_sub (L' := [(0, .ref (b + p0)), (1, .int a1), (2, .int x2), (3, .int x3)]) [0, 1, 2, 3] rfl ?_
              exact kX8_tellPlan_b108 hX hM hW p0 a1 t0 hR k38 hk38 (fun h_ z2_ z3_ => fX8_tellPlan_b46 r p0 a1 k38 n h_ z2_ z3_) ih h105 x2 x3 hF
          · have hF := ite_f hF (fun z => z c81)
            refine g_aload_n hX dX8_tellPlan_84 (i := 0) rfl (j := 0) rfl ?_
            refine g_iconst (v := 1) hX dX8_tellPlan_85 (by decide) ?_
            refine g_iload_n hX dX8_tellPlan_86 (i := 3) rfl (j := 3) rfl ?_
            obtain ⟨h87, e87, hF⟩ := bi_some hF
            refine g_callV (As := [.int 1, .int x3]) (rest := []) (stk := []) hX dX8_tellPlan_87 (ctX8_step hM hW p0 1 x3 t0 e87) (by decide) (by decide) wm_X8_306 wi_X8_step ws_X8_step wz_X8 wc_X8_step hyX8_step rfl (ci := 8) rfl (by decide) t0.1 (hW.1 _ t0.2).1 (hW.1 _ t0.2).2 (Nat.le_of_ble_eq_true rfl) rfl rfl ?_ rfl rfl
            refine g_goto (tgt := 108) hX dX8_tellPlan_90 (by decide) ?_
            refine g_sub (L' := [(0, .ref (b + p0)), (1, .int a1), (2, .int x2), (3, .int x3)]) [0, 1, 2, 3] rfl ?_
            exact kX8_tellPlan_b108 hX hM hW p0 a1 t0 hR k38 hk38 (fun h_ z2_ z3_ => fX8_tellPlan_b46 r p0 a1 k38 n h_ z2_ z3_) ih h87 x2 x3 hF
        · have hF := ite_f hF c69
          refine g_goto (tgt := 108) hX dX8_tellPlan_72 (by decide) ?_
          refine g_sub (L' := [(0, .ref (b + p0)), (1, .int a1), (2, .int x2), (3, .int x3)]) [0, 1, 2, 3] rfl ?_
          exact kX8_tellPlan_b108 hX hM hW p0 a1 t0 hR k38 hk38 (fun h_ z2_ z3_ => fX8_tellPlan_b46 r p0 a1 k38 n h_ z2_ z3_) ih h x2 x3 hF
set_option maxRecDepth 100000 in
set_option maxHeartbeats 4000000 in
theorem kX8_tellPlan_b171 {X : XT} {b N sz : Nat} {ok : Nat → Prop} {r : RR} {w : HH} (hX : XOK X RX8 cX8_tellPlan 4 3) (hM : N ≤ MM) (hW : WT KM lnM ok N r) (p0 : Nat) (a1 : Int32) (t0 : KM p0 = 8 ∧ ok p0) (hR : XR X b KM lnM MM (none) 0 0 N sz none w r) (k122 : HH → Int32 → Option (HH)) (hk122 : ∀ (h : HH) (x2 : Int32), k122 h x2 = some w → GX X b KM lnM MM 4 0 0 N sz 122 [(0, .ref (b + p0)), (1, .int a1), (2, .int x2)] [] h r) (h : HH) (x2 : Int32) (hF : fX8_tellPlan_b171 r p0 a1 k122 h x2 = some w) : GX X b KM lnM MM 4 0 0 N sz 171 [(0, .ref (b + p0)), (1, .int a1), (2, .int x2)] [] h r := by
  rw [fX8_tellPlan_b171] at hF
  refine g_iinc (L' := [(2, .int (x2 + 1)), (0, .ref (b + p0)), (1, .int a1)]) (j := 2) hX dX8_tellPlan_171 rfl rfl (by decide) rfl ?_
  refine g_goto (tgt := 122) hX dX8_tellPlan_174 (by decide) ?_
  refine g_sub (L' := [(0, .ref (b + p0)), (1, .int a1), (2, .int (x2 + 1))]) [1, 2, 0] rfl ?_
  exact hk122 h (x2 + 1) hF
set_option maxRecDepth 100000 in
set_option maxHeartbeats 4000000 in
theorem kX8_tellPlan_b212 {X : XT} {b N sz : Nat} {ok : Nat → Prop} {r : RR} {w : HH} (hX : XOK X RX8 cX8_tellPlan 4 3) (hM : N ≤ MM) (hW : WT KM lnM ok N r) (p0 : Nat) (a1 : Int32) (t0 : KM p0 = 8 ∧ ok p0) (hR : XR X b KM lnM MM (none) 0 0 N sz none w r) (k184 : HH → Int32 → Option (HH)) (hk184 : ∀ (h : HH) (x2 : Int32), k184 h x2 = some w → GX X b KM lnM MM 4 0 0 N sz 184 [(0, .ref (b + p0)), (1, .int a1), (2, .int x2)] [] h r) (h : HH) (x2 : Int32) (hF : fX8_tellPlan_b212 r p0 a1 k184 h x2 = some w) : GX X b KM lnM MM 4 0 0 N sz 212 [(0, .ref (b + p0)), (1, .int a1), (2, .int x2)] [] h r := by
  rw [fX8_tellPlan_b212] at hF
  refine g_iinc (L' := [(2, .int (x2 + (-1))), (0, .ref (b + p0)), (1, .int a1)]) (j := 2) hX dX8_tellPlan_212 rfl rfl (by decide) rfl ?_
  refine g_goto (tgt := 184) hX dX8_tellPlan_215 (by decide) ?_
  refine g_sub (L' := [(0, .ref (b + p0)), (1, .int a1), (2, .int (x2 + (-1)))]) [1, 2, 0] rfl ?_
  exact hk184 h (x2 + (-1)) hF
set_option maxRecDepth 100000 in
set_option maxHeartbeats 4000000 in
theorem kX8_tellPlan_b184 {X : XT} {b N sz : Nat} {ok : Nat → Prop} {r : RR} {w : HH} (hX : XOK X RX8 cX8_tellPlan 4 3) (hM : N ≤ MM) (hW : WT KM lnM ok N r) (p0 : Nat) (a1 : Int32) (t0 : KM p0 = 8 ∧ ok p0) (hR : XR X b KM lnM MM (none) 0 0 N sz none w r) : ∀ (n : Nat) (h : HH) (x2 : Int32), fX8_tellPlan_b184 r p0 a1 n h x2 = some w → GX X b KM lnM MM 4 0 0 N sz 184 [(0, .ref (b + p0)), (1, .int a1), (2, .int x2)] [] h r := by
  intro n
  induction n with
  | zero =>
    intro h x2 hF
    cases hF
  | succ n ih =>
    intro h x2 hF
    rw [fX8_tellPlan_b184] at hF
    refine g_iload_n hX dX8_tellPlan_184 (i := 2) rfl (j := 2) rfl ?_
    refine g_if_lt (tgt := 218) hX dX8_tellPlan_185 (by decide) (fun c185 => ?_) (fun c185 => ?_)
    · have hF := ite_t hF c185
      obtain rfl := Option.some.inj hF
      exact g_vret hX dX8_tellPlan_218 hR
    · have hF := ite_f hF c185
      refine g_aload_n hX dX8_tellPlan_188 (i := 0) rfl (j := 0) rfl ?_
      refine g_iload_n hX dX8_tellPlan_189 (i := 1) rfl (j := 1) rfl ?_
      refine g_iload_n hX dX8_tellPlan_190 (i := 2) rfl (j := 2) rfl ?_
      obtain ⟨v191, e191, hF⟩ := bi_some hF
      refine g_callV (As := [.int a1, .int x2]) (rest := []) (stk := [.int v191]) hX dX8_tellPlan_191 (ctX8_isAside hM hW p0 a1 x2 t0 e191) (by decide) (by decide) wm_X8_303 wi_X8_isAside ws_X8_isAside wz_X8 wc_X8_isAside hyX8_isAside rfl (ci := 8) rfl (by decide) t0.1 (hW.1 _ t0.2).1 (hW.1 _ t0.2).2 (Nat.le_of_ble_eq_true rfl) rfl rfl ?_ rfl rfl
      refine g_if_eq (tgt := 212) hX dX8_tellPlan_194 (by decide) (fun c194 => ?_) (fun c194 => ?_)
      · have hF := ite_t hF c194
        refine g_sub (L' := [(0, .ref (b + p0)), (1, .int a1), (2, .int x2)]) [0, 1, 2] rfl ?_
        exact kX8_tellPlan_b212 hX hM hW p0 a1 t0 hR (fun h_ z2_ => fX8_tellPlan_b184 r p0 a1 n h_ z2_) ih h x2 hF
      · have hF := ite_f hF c194
        refine g_aload_n hX dX8_tellPlan_197 (i := 0) rfl (j := 0) rfl ?_
        have tf198 := (tyF (k := 30) hW t0 (by decide) rfl (by decide) : KM (r p0 30) = 10 ∧ ok (r p0 30))
        refine gf_X8_64 hX dX8_tellPlan_198 (ty1 hW t0) (hW.1 _ tf198.2).1 ?_
        refine g_iload_n hX dX8_tellPlan_201 (i := 2) rfl (j := 2) rfl ?_
        obtain ⟨g202, hF⟩ := gd_some hF
        refine g_bald hX dX8_tellPlan_202 tf198.1 (hW.1 _ tf198.2).1 (hW.1 _ tf198.2).2 g202 ?_
        refine g_if_ne (tgt := 212) hX dX8_tellPlan_203 (by decide) (fun c203 => ?_) (fun c203 => ?_)
        · have hF := ite_t hF c203
          refine g_sub (L' := [(0, .ref (b + p0)), (1, .int a1), (2, .int x2)]) [0, 1, 2] rfl ?_
          exact kX8_tellPlan_b212 hX hM hW p0 a1 t0 hR (fun h_ z2_ => fX8_tellPlan_b184 r p0 a1 n h_ z2_) ih h x2 hF
        · have hF := ite_f hF (fun z => z c203)
          refine g_aload_n hX dX8_tellPlan_206 (i := 0) rfl (j := 0) rfl ?_
          refine g_iconst (v := 4) hX dX8_tellPlan_207 (by decide) ?_
          refine g_iload_n hX dX8_tellPlan_208 (i := 2) rfl (j := 2) rfl ?_
          obtain ⟨h209, e209, hF⟩ := bi_some hF
          refine g_callV (As := [.int 4, .int x2]) (rest := []) (stk := []) hX dX8_tellPlan_209 (ctX8_step hM hW p0 4 x2 t0 e209) (by decide) (by decide) wm_X8_306 wi_X8_step ws_X8_step wz_X8 wc_X8_step hyX8_step rfl (ci := 8) rfl (by decide) t0.1 (hW.1 _ t0.2).1 (hW.1 _ t0.2).2 (Nat.le_of_ble_eq_true rfl) rfl rfl ?_ rfl rfl
          refine g_sub (L' := [(0, .ref (b + p0)), (1, .int a1), (2, .int x2)]) [0, 1, 2] rfl ?_
          exact kX8_tellPlan_b212 hX hM hW p0 a1 t0 hR (fun h_ z2_ => fX8_tellPlan_b184 r p0 a1 n h_ z2_) ih h209 x2 hF
set_option maxRecDepth 100000 in
set_option maxHeartbeats 4000000 in
theorem kX8_tellPlan_b122 {X : XT} {b N sz : Nat} {ok : Nat → Prop} {r : RR} {w : HH} (hX : XOK X RX8 cX8_tellPlan 4 3) (hM : N ≤ MM) (hW : WT KM lnM ok N r) (p0 : Nat) (a1 : Int32) (t0 : KM p0 = 8 ∧ ok p0) (hR : XR X b KM lnM MM (none) 0 0 N sz none w r) : ∀ (n : Nat) (h : HH) (x2 : Int32), fX8_tellPlan_b122 r p0 a1 n h x2 = some w → GX X b KM lnM MM 4 0 0 N sz 122 [(0, .ref (b + p0)), (1, .int a1), (2, .int x2)] [] h r := by
  intro n
  induction n with
  | zero =>
    intro h x2 hF
    cases hF
  | succ n ih =>
    intro h x2 hF
    rw [fX8_tellPlan_b122] at hF
    refine g_iload_n hX dX8_tellPlan_122 (i := 2) rfl (j := 2) rfl ?_
    refine g_aload_n hX dX8_tellPlan_123 (i := 0) rfl (j := 0) rfl ?_
    refine gf_X8_130 hX dX8_tellPlan_124 (ty1 hW t0) ?_
    refine g_icmp_ge (tgt := 177) hX dX8_tellPlan_127 (by decide) (fun c127 => ?_) (fun c127 => ?_)
    · have hF := ite_t hF c127
      refine g_aload_n hX dX8_tellPlan_177 (i := 0) rfl (j := 0) rfl ?_
      refine gf_X8_130 hX dX8_tellPlan_178 (ty1 hW t0) ?_
      refine g_iconst (v := 1) hX dX8_tellPlan_181 (by decide) ?_
      refine g_isub hX dX8_tellPlan_182 ?_
      obtain ⟨y183, e183, hF⟩ := lt_some hF
      refine g_topi e183 ?_
      refine g_istore_n (L' := [(2, .int y183), (0, .ref (b + p0)), (1, .int a1)]) hX dX8_tellPlan_183 (i := 2) rfl (by decide) rfl ?_
      refine g_sub (L' := [(0, .ref (b + p0)), (1, .int a1), (2, .int y183)]) [1, 2, 0] rfl ?_
      exact kX8_tellPlan_b184 hX hM hW p0 a1 t0 hR lpF h y183 hF
    · have hF := ite_f hF c127
      refine g_aload_n hX dX8_tellPlan_130 (i := 0) rfl (j := 0) rfl ?_
      have tf131 := (tyF (k := 30) hW t0 (by decide) rfl (by decide) : KM (r p0 30) = 10 ∧ ok (r p0 30))
      refine gf_X8_64 hX dX8_tellPlan_131 (ty1 hW t0) (hW.1 _ tf131.2).1 ?_
      refine g_iload_n hX dX8_tellPlan_134 (i := 2) rfl (j := 2) rfl ?_
      obtain ⟨g135, hF⟩ := gd_some hF
      refine g_bald hX dX8_tellPlan_135 tf131.1 (hW.1 _ tf131.2).1 (hW.1 _ tf131.2).2 g135 ?_
      refine g_if_eq (tgt := 171) hX dX8_tellPlan_136 (by decide) (fun c136 => ?_) (fun c136 => ?_)
      · have hF := ite_t hF c136
        refine g_sub (L' := [(0, .ref (b + p0)), (1, .int a1), (2, .int x2)]) [0, 1, 2] rfl ?_
        exact kX8_tellPlan_b171 hX hM hW p0 a1 t0 hR (fun h_ z2_ => fX8_tellPlan_b122 r p0 a1 n h_ z2_) ih h x2 hF
      · have hF := ite_f hF c136
        refine g_aload_n hX dX8_tellPlan_139 (i := 0) rfl (j := 0) rfl ?_
        refine g_iload_n hX dX8_tellPlan_140 (i := 1) rfl (j := 1) rfl ?_
        refine g_iload_n hX dX8_tellPlan_141 (i := 2) rfl (j := 2) rfl ?_
        obtain ⟨v142, e142, hF⟩ := bi_some hF
        refine g_callV (As := [.int a1, .int x2]) (rest := []) (stk := [.int v142]) hX dX8_tellPlan_142 (ctX8_isOn hM hW p0 a1 x2 t0 e142) (by decide) (by decide) wm_X8_300 wi_X8_isOn ws_X8_isOn wz_X8 wc_X8_isOn hyX8_isOn rfl (ci := 8) rfl (by decide) t0.1 (hW.1 _ t0.2).1 (hW.1 _ t0.2).2 (Nat.le_of_ble_eq_true rfl) rfl rfl ?_ rfl rfl
        refine g_if_eq (tgt := 171) hX dX8_tellPlan_145 (by decide) (fun c145 => ?_) (fun c145 => ?_)
        · have hF := ite_t hF c145
          refine g_sub (L' := [(0, .ref (b + p0)), (1, .int a1), (2, .int x2)]) [0, 1, 2] rfl ?_
          exact kX8_tellPlan_b171 hX hM hW p0 a1 t0 hR (fun h_ z2_ => fX8_tellPlan_b122 r p0 a1 n h_ z2_) ih h x2 hF
        · have hF := ite_f hF c145
          refine g_aload_n hX dX8_tellPlan_148 (i := 0) rfl (j := 0) rfl ?_
          have tf149 := (tyF (k := 6) hW t0 (by decide) rfl (by decide) : KM (r p0 6) = 14 ∧ ok (r p0 6))
          refine gf_X8_26 hX dX8_tellPlan_149 (ty1 hW t0) (hW.1 _ tf149.2).1 ?_
          refine g_iload_n hX dX8_tellPlan_152 (i := 1) rfl (j := 1) rfl ?_
          obtain ⟨g153, hF⟩ := gd_some hF
          have ta153 : KM (r (r p0 6) (ix a1)) = 9 ∧ ok (r (r p0 6) (ix a1)) := tyA hW tf149 (by decide) rfl (by decide) g153
          refine g_aald hX dX8_tellPlan_153 tf149.1 (by decide) (by decide) (hW.1 _ tf149.2).1 (hW.1 _ tf149.2).2 g153 (hW.1 _ ta153.2).1 ?_
          refine g_iload_n hX dX8_tellPlan_154 (i := 2) rfl (j := 2) rfl ?_
          obtain ⟨g155, hF⟩ := gd_some hF
          refine g_iald hX dX8_tellPlan_155 ta153.1 (hW.1 _ ta153.2).1 (hW.1 _ ta153.2).2 g155 ?_
          refine g_aload_n hX dX8_tellPlan_156 (i := 0) rfl (j := 0) rfl ?_
          have tf157 := (tyF (k := 34) hW t0 (by decide) rfl (by decide) : KM (r p0 34) = 9 ∧ ok (r p0 34))
          refine gf_X8_76 hX dX8_tellPlan_157 (ty1 hW t0) (hW.1 _ tf157.2).1 ?_
          refine g_iload_n hX dX8_tellPlan_160 (i := 2) rfl (j := 2) rfl ?_
          obtain ⟨g161, hF⟩ := gd_some hF
          refine g_iald hX dX8_tellPlan_161 tf157.1 (hW.1 _ tf157.2).1 (hW.1 _ tf157.2).2 g161 ?_
          refine g_icmp_eq (tgt := 171) hX dX8_tellPlan_162 (by decide) (fun c162 => ?_) (fun c162 => ?_)
          · have hF := ite_t hF c162
            refine g_sub (L' := [(0, .ref (b + p0)), (1, .int a1), (2, .int x2)]) [0, 1, 2] rfl ?_
            exact kX8_tellPlan_b171 hX hM hW p0 a1 t0 hR (fun h_ z2_ => fX8_tellPlan_b122 r p0 a1 n h_ z2_) ih h x2 hF
          · have hF := ite_f hF c162
            refine g_aload_n hX dX8_tellPlan_165 (i := 0) rfl (j := 0) rfl ?_
            refine g_iconst (v := 3) hX dX8_tellPlan_166 (by decide) ?_
            refine g_iload_n hX dX8_tellPlan_167 (i := 2) rfl (j := 2) rfl ?_
            obtain ⟨h168, e168, hF⟩ := bi_some hF
            refine g_callV (As := [.int 3, .int x2]) (rest := []) (stk := []) hX dX8_tellPlan_168 (ctX8_step hM hW p0 3 x2 t0 e168) (by decide) (by decide) wm_X8_306 wi_X8_step ws_X8_step wz_X8 wc_X8_step hyX8_step rfl (ci := 8) rfl (by decide) t0.1 (hW.1 _ t0.2).1 (hW.1 _ t0.2).2 (Nat.le_of_ble_eq_true rfl) rfl rfl ?_ rfl rfl
            refine g_sub (L' := [(0, .ref (b + p0)), (1, .int a1), (2, .int x2)]) [0, 1, 2] rfl ?_
            exact kX8_tellPlan_b171 hX hM hW p0 a1 t0 hR (fun h_ z2_ => fX8_tellPlan_b122 r p0 a1 n h_ z2_) ih h168 x2 hF
set_option maxRecDepth 100000 in
set_option maxHeartbeats 4000000 in
theorem kX8_tellPlan_b38 {X : XT} {b N sz : Nat} {ok : Nat → Prop} {r : RR} {w : HH} (hX : XOK X RX8 cX8_tellPlan 4 3) (hM : N ≤ MM) (hW : WT KM lnM ok N r) (p0 : Nat) (a1 : Int32) (t0 : KM p0 = 8 ∧ ok p0) (hR : XR X b KM lnM MM (none) 0 0 N sz none w r) : ∀ (n : Nat) (h : HH) (x2 : Int32), fX8_tellPlan_b38 r p0 a1 n h x2 = some w → GX X b KM lnM MM 4 0 0 N sz 38 [(0, .ref (b + p0)), (1, .int a1), (2, .int x2)] [] h r := by
  intro n
  induction n with
  | zero =>
    intro h x2 hF
    cases hF
  | succ n ih =>
    intro h x2 hF
    rw [fX8_tellPlan_b38] at hF
    refine g_iload_n hX dX8_tellPlan_38 (i := 2) rfl (j := 2) rfl ?_
    refine g_bipush (v := 30) hX dX8_tellPlan_39 (by decide) ?_
    refine g_icmp_gt (tgt := 120) hX dX8_tellPlan_41 (by decide) (fun c41 => ?_) (fun c41 => ?_)
    · have hF := ite_t hF c41
      refine g_iconst (v := 0) hX dX8_tellPlan_120 (by decide) ?_
      refine g_istore_n (L' := [(2, .int 0), (0, .ref (b + p0)), (1, .int a1)]) hX dX8_tellPlan_121 (i := 2) rfl (by decide) rfl ?_
      refine g_sub (L' := [(0, .ref (b + p0)), (1, .int a1), (2, .int 0)]) [1, 2, 0] rfl ?_
      exact kX8_tellPlan_b122 hX hM hW p0 a1 t0 hR lpF h 0 hF
    · have hF := ite_f hF c41
      refine g_iconst (v := 0) hX dX8_tellPlan_44 (by decide) ?_
      refine g_istore_n (L' := [(3, .int 0), (0, .ref (b + p0)), (1, .int a1), (2, .int x2)]) hX dX8_tellPlan_45 (i := 3) rfl (by decide) rfl ?_
      refine g_sub (L' := [(0, .ref (b + p0)), (1, .int a1), (2, .int x2), (3, .int 0)]) [1, 2, 3, 0] rfl ?_
      exact kX8_tellPlan_b46 hX hM hW p0 a1 t0 hR (fun h_ z2_ => fX8_tellPlan_b38 r p0 a1 n h_ z2_) ih lpF h x2 0 hF
set_option maxRecDepth 100000 in
set_option maxHeartbeats 4000000 in
theorem kX8_tellPlan_b7 {X : XT} {b N sz : Nat} {ok : Nat → Prop} {r : RR} {w : HH} (hX : XOK X RX8 cX8_tellPlan 4 3) (hM : N ≤ MM) (hW : WT KM lnM ok N r) (p0 : Nat) (a1 : Int32) (t0 : KM p0 = 8 ∧ ok p0) (hR : XR X b KM lnM MM (none) 0 0 N sz none w r) : ∀ (n : Nat) (h : HH) (x2 : Int32), fX8_tellPlan_b7 r p0 a1 n h x2 = some w → GX X b KM lnM MM 4 0 0 N sz 7 [(0, .ref (b + p0)), (1, .int a1), (2, .int x2)] [] h r := by
  intro n
  induction n with
  | zero =>
    intro h x2 hF
    cases hF
  | succ n ih =>
    intro h x2 hF
    rw [fX8_tellPlan_b7] at hF
    refine g_iload_n hX dX8_tellPlan_7 (i := 2) rfl (j := 2) rfl ?_
    refine g_aload_n hX dX8_tellPlan_8 (i := 0) rfl (j := 0) rfl ?_
    refine gf_X8_130 hX dX8_tellPlan_9 (ty1 hW t0) ?_
    refine g_icmp_ge (tgt := 36) hX dX8_tellPlan_12 (by decide) (fun c12 => ?_) (fun c12 => ?_)
    · have hF := ite_t hF c12
      refine g_iconst (v := 0) hX dX8_tellPlan_36 (by decide) ?_
      refine g_istore_n (L' := [(2, .int 0), (0, .ref (b + p0)), (1, .int a1)]) hX dX8_tellPlan_37 (i := 2) rfl (by decide) rfl ?_
      refine g_sub (L' := [(0, .ref (b + p0)), (1, .int a1), (2, .int 0)]) [1, 2, 0] rfl ?_
      exact kX8_tellPlan_b38 hX hM hW p0 a1 t0 hR lpF h 0 hF
    · have hF := ite_f hF c12
      refine g_aload_n hX dX8_tellPlan_15 (i := 0) rfl (j := 0) rfl ?_
      refine g_iload_n hX dX8_tellPlan_16 (i := 1) rfl (j := 1) rfl ?_
      refine g_iload_n hX dX8_tellPlan_17 (i := 2) rfl (j := 2) rfl ?_
      obtain ⟨v18, e18, hF⟩ := bi_some hF
      refine g_callV (As := [.int a1, .int x2]) (rest := []) (stk := [.int v18]) hX dX8_tellPlan_18 (ctX8_isAside hM hW p0 a1 x2 t0 e18) (by decide) (by decide) wm_X8_303 wi_X8_isAside ws_X8_isAside wz_X8 wc_X8_isAside hyX8_isAside rfl (ci := 8) rfl (by decide) t0.1 (hW.1 _ t0.2).1 (hW.1 _ t0.2).2 (Nat.le_of_ble_eq_true rfl) rfl rfl ?_ rfl rfl
      refine g_if_eq (tgt := 30) hX dX8_tellPlan_21 (by decide) (fun c21 => ?_) (fun c21 => ?_)
      · have hF := ite_t hF c21
        refine g_sub (L' := [(0, .ref (b + p0)), (1, .int a1), (2, .int x2)]) [0, 1, 2] rfl ?_
        exact kX8_tellPlan_b30 hX hM hW p0 a1 t0 hR (fun h_ z2_ => fX8_tellPlan_b7 r p0 a1 n h_ z2_) ih h x2 hF
      · have hF := ite_f hF c21
        refine g_aload_n hX dX8_tellPlan_24 (i := 0) rfl (j := 0) rfl ?_
        refine g_iconst (v := 0) hX dX8_tellPlan_25 (by decide) ?_
        refine g_iload_n hX dX8_tellPlan_26 (i := 2) rfl (j := 2) rfl ?_
        obtain ⟨h27, e27, hF⟩ := bi_some hF
        refine g_callV (As := [.int 0, .int x2]) (rest := []) (stk := []) hX dX8_tellPlan_27 (ctX8_step hM hW p0 0 x2 t0 e27) (by decide) (by decide) wm_X8_306 wi_X8_step ws_X8_step wz_X8 wc_X8_step hyX8_step rfl (ci := 8) rfl (by decide) t0.1 (hW.1 _ t0.2).1 (hW.1 _ t0.2).2 (Nat.le_of_ble_eq_true rfl) rfl rfl ?_ rfl rfl
        refine g_sub (L' := [(0, .ref (b + p0)), (1, .int a1), (2, .int x2)]) [0, 1, 2] rfl ?_
        exact kX8_tellPlan_b30 hX hM hW p0 a1 t0 hR (fun h_ z2_ => fX8_tellPlan_b7 r p0 a1 n h_ z2_) ih h27 x2 hF
set_option maxRecDepth 100000 in
set_option maxHeartbeats 4000000 in
theorem kX8_tellPlan {X : XT} {b N sz : Nat} {ok : Nat → Prop} {h : HH} {r : RR} {w : HH} (hX : XOK X RX8 cX8_tellPlan 4 3) (hM : N ≤ MM) (hW : WT KM lnM ok N r) (p0 : Nat) (a1 : Int32) (t0 : KM p0 = 8 ∧ ok p0) (hR : XR X b KM lnM MM (none) 0 0 N sz none w r) (hF : fX8_tellPlan h r p0 a1 = some w) : GX X b KM lnM MM 4 0 0 N sz 0 [(0, .ref (b + p0)), (1, .int a1)] [] h r := by
  rw [fX8_tellPlan] at hF
  refine g_aload_n hX dX8_tellPlan_0 (i := 0) rfl (j := 0) rfl ?_
  refine g_iconst (v := 0) hX dX8_tellPlan_1 (by decide) ?_
  obtain ⟨h2, e2, hF⟩ := lt_some hF
  refine pf_X8_297 hX dX8_tellPlan_2 (ty1 hW t0) hM e2 ?_
  refine g_iconst (v := 0) hX dX8_tellPlan_5 (by decide) ?_
  refine g_istore_n (L' := [(2, .int 0), (0, .ref (b + p0)), (1, .int a1)]) hX dX8_tellPlan_6 (i := 2) rfl (by decide) rfl ?_
  refine g_sub (L' := [(0, .ref (b + p0)), (1, .int a1), (2, .int 0)]) [1, 2, 0] rfl ?_
  exact kX8_tellPlan_b7 hX hM hW p0 a1 t0 hR lpF h2 0 hF
theorem ctX8_tellPlan {b N sz : Nat} {ok : Nat → Prop} {h : HH} {r : RR} {w : HH} (hM : N ≤ MM) (hW : WT KM lnM ok N r) (p0 : Nat) (a1 : Int32) (t0 : KM p0 = 8 ∧ ok p0) (hF : fX8_tellPlan h r p0 a1 = some w) : CT yX8_tellPlan cX8_tellPlan 4 (none) 3 b KM lnM MM N sz [.ref (b + p0), .int a1] h r N sz none w r 0 0 :=
  CT_of (by decide) rfl (Nat.le_of_ble_eq_true rfl) (by decide) trivial (fun X hX hR => kX8_tellPlan hX hM hW p0 a1 t0 hR hF)
/-! X8_step_ -/
def fX8_step__b170 (r : RR) (p0 : Nat) (a1 : Int32) (a2 : Int32) (a3 : Int32) (h : HH) (x5 : Int32) : Option (Int32 × HH) := gd (inb x5 (lnM (r p0 34))) (some (h (r p0 34) (ix x5), h))
def fX8_step__b82 (r : RR) (p0 : Nat) (a1 : Int32) (a2 : Int32) (a3 : Int32) (h : HH) (s0 : Int32) (x4 : Int32) (x5 : Int32) : Option (Int32 × HH) := if 2 ≤ a3 then (if ¬ a3 = 2 then (if ¬ a3 = 3 then (if x4 = 1 then (fX8_step__b170 r p0 a1 a2 a3 h x5) else (if ¬ x4 = 3 then (some ((-1), h)) else (fX8_step__b170 r p0 a1 a2 a3 h x5))) else (if s0 = 0 then (if ¬ x4 = 0 then (some ((-1), h)) else (some (100 + x5, h))) else (gd (inb x5 (lnM (r p0 33))) (some (h (r p0 33) (ix x5), h))))) else (if s0 = 0 then (some ((-1), h)) else (gd (inb x5 (lnM (r p0 32))) (some (h (r p0 32) (ix x5), h))))) else (if ¬ a3 = 0 then (some (x5, h)) else (some (x4, h)))
def fX8_step__b77 (r : RR) (p0 : Nat) (a1 : Int32) (a2 : Int32) (a3 : Int32) (h : HH) (x4 : Int32) (x5 : Int32) : Option (Int32 × HH) := fX8_step__b82 r p0 a1 a2 a3 h 1 x4 x5
def fX8_step_ (h : HH) (r : RR) (p0 : Nat) (a1 : Int32) (a2 : Int32) (a3 : Int32) : Option (Int32 × HH) := (fX8_isSide h r a1).bind (fun v1 => if v1 = 0 then (some ((-2), h)) else ((fX8_in h r a3 0 4).bind (fun v10 => if ¬ v10 = 0 then ((fX8_tellTarget h r p0 (h p0 1)).bind (fun h24 => (fX8_tellPlan h24 r p0 a1).bind (fun h29 => (fX8_in h29 r a2 0 ((h29 p0 35) - 1)).bind (fun v40 => if ¬ v40 = 0 then (gd (inb a2 (lnM (r p0 36))) (lt (h29 (r p0 36) (ix a2)) (fun y55 => gd (inb a2 (lnM (r p0 37))) (lt (h29 (r p0 37) (ix a2)) (fun y63 => if y55 = 1 then (fX8_step__b77 r p0 a1 a2 a3 h29 y55 y63) else (if ¬ y55 = 2 then (fX8_step__b82 r p0 a1 a2 a3 h29 0 y55 y63) else (fX8_step__b77 r p0 a1 a2 a3 h29 y55 y63))))))) else (some ((-12), h29)))))) else (some ((-2), h)))))
set_option maxRecDepth 100000 in
set_option maxHeartbeats 4000000 in
theorem kX8_step__b170 {X : XT} {b N sz : Nat} {ok : Nat → Prop} {r : RR} {w : Int32 × HH} (hX : XOK X RX8 cX8_step_ 7 6) (hM : N ≤ MM) (hW : WT KM lnM ok N r) (p0 : Nat) (a1 : Int32) (a2 : Int32) (a3 : Int32) (t0 : KM p0 = 8 ∧ ok p0) (hR : XR X b KM lnM MM (some FieldType.int) 0 0 N sz (some (.int w.1)) w.2 r) (h : HH) (x5 : Int32) (hF : fX8_step__b170 r p0 a1 a2 a3 h x5 = some w) : GX X b KM lnM MM 7 0 0 N sz 170 [(0, .ref (b + p0)), (1, .int a1), (2, .int a2), (3, .int a3), (5, .int x5)] [] h r := by
  rw [fX8_step__b170] at hF
  refine g_aload_n hX dX8_step__170 (i := 0) rfl (j := 0) rfl ?_
  have tf171 := (tyF (k := 34) hW t0 (by decide) rfl (by decide) : KM (r p0 34) = 9 ∧ ok (r p0 34))
  refine gf_X8_76 hX dX8_step__171 (ty1 hW t0) (hW.1 _ tf171.2).1 ?_
  refine g_iload hX dX8_step__174 (j := 4) rfl ?_
  obtain ⟨g176, hF⟩ := gd_some hF
  refine g_iald hX dX8_step__176 tf171.1 (hW.1 _ tf171.2).1 (hW.1 _ tf171.2).2 g176 ?_
  refine g_goto (tgt := 181) hX dX8_step__177 (by decide) ?_
  obtain rfl := Option.some.inj hF
  exact g_iret hX dX8_step__181 hR
set_option maxRecDepth 100000 in
set_option maxHeartbeats 4000000 in
theorem kX8_step__b82 {X : XT} {b N sz : Nat} {ok : Nat → Prop} {r : RR} {w : Int32 × HH} (hX : XOK X RX8 cX8_step_ 7 6) (hM : N ≤ MM) (hW : WT KM lnM ok N r) (p0 : Nat) (a1 : Int32) (a2 : Int32) (a3 : Int32) (t0 : KM p0 = 8 ∧ ok p0) (hR : XR X b KM lnM MM (some FieldType.int) 0 0 N sz (some (.int w.1)) w.2 r) (h : HH) (s0 : Int32) (x4 : Int32) (x5 : Int32) (hF : fX8_step__b82 r p0 a1 a2 a3 h s0 x4 x5 = some w) : GX X b KM lnM MM 7 0 0 N sz 82 [(0, .ref (b + p0)), (1, .int a1), (2, .int a2), (3, .int a3), (4, .int x4), (5, .int x5)] [.int s0] h r := by
  rw [fX8_step__b82] at hF
  refine g_istore (L' := [(6, .int s0), (0, .ref (b + p0)), (1, .int a1), (2, .int a2), (3, .int a3), (4, .int x4), (5, .int x5)]) hX dX8_step__82 (by decide) rfl ?_
  refine g_iload_n hX dX8_step__84 (i := 3) rfl (j := 4) rfl ?_
  refine g_iconst (v := 2) hX dX8_step__85 (by decide) ?_
  refine g_icmp_ge (tgt := 101) hX dX8_step__86 (by decide) (fun c86 => ?_) (fun c86 => ?_)
  · have hF := ite_t hF c86
    refine g_iload_n hX dX8_step__101 (i := 3) rfl (j := 4) rfl ?_
    refine g_iconst (v := 2) hX dX8_step__102 (by decide) ?_
    refine g_icmp_ne (tgt := 123) hX dX8_step__103 (by decide) (fun c103 => ?_) (fun c103 => ?_)
    · have hF := ite_t hF c103
      refine g_iload_n hX dX8_step__123 (i := 3) rfl (j := 4) rfl ?_
      refine g_iconst (v := 3) hX dX8_step__124 (by decide) ?_
      refine g_icmp_ne (tgt := 158) hX dX8_step__125 (by decide) (fun c125 => ?_) (fun c125 => ?_)
      · have hF := ite_t hF c125
        refine g_iload hX dX8_step__158 (j := 5) rfl ?_
        refine g_iconst (v := 1) hX dX8_step__160 (by decide) ?_
        refine g_icmp_eq (tgt := 170) hX dX8_step__161 (by decide) (fun c161 => ?_) (fun c161 => ?_)
        · have hF := ite_t hF c161
          refine g_sub (L' := [(0, .ref (b + p0)), (1, .int a1), (2, .int a2), (3, .int a3), (5, .int x5)]) [1, 2, 3, 4, 6] rfl ?_
          exact kX8_step__b170 hX hM hW p0 a1 a2 a3 t0 hR h x5 hF
        · have hF := ite_f hF c161
          refine g_iload hX dX8_step__164 (j := 5) rfl ?_
          refine g_iconst (v := 3) hX dX8_step__166 (by decide) ?_
          refine g_icmp_ne (tgt := 180) hX dX8_step__167 (by decide) (fun c167 => ?_) (fun c167 => ?_)
          · have hF := ite_t hF c167
            refine g_iconst (v := (-1)) hX dX8_step__180 (by decide) ?_
            obtain rfl := Option.some.inj hF
            exact g_iret hX dX8_step__181 hR
          · have hF := ite_f hF (fun z => z c167)
            refine g_sub (L' := [(0, .ref (b + p0)), (1, .int a1), (2, .int a2), (3, .int a3), (5, .int x5)]) [1, 2, 3, 4, 6] rfl ?_
            exact kX8_step__b170 hX hM hW p0 a1 a2 a3 t0 hR h x5 hF
      · have hF := ite_f hF (fun z => z c125)
        refine g_iload hX dX8_step__128 (j := 0) rfl ?_
        refine g_if_eq (tgt := 143) hX dX8_step__130 (by decide) (fun c130 => ?_) (fun c130 => ?_)
        · have hF := ite_t hF c130
          refine g_iload hX dX8_step__143 (j := 5) rfl ?_
          refine g_if_ne (tgt := 156) hX dX8_step__145 (by decide) (fun c145 => ?_) (fun c145 => ?_)
          · have hF := ite_t hF c145
            refine g_iconst (v := (-1)) hX dX8_step__156 (by decide) ?_
            obtain rfl := Option.some.inj hF
            exact g_iret hX dX8_step__157 hR
          · have hF := ite_f hF (fun z => z c145)
            refine g_bipush (v := 100) hX dX8_step__148 (by decide) ?_
            refine g_iload hX dX8_step__150 (j := 6) rfl ?_
            refine g_iadd hX dX8_step__152 ?_
            refine g_goto (tgt := 157) hX dX8_step__153 (by decide) ?_
            obtain rfl := Option.some.inj hF
            exact g_iret hX dX8_step__157 hR
        · have hF := ite_f hF c130
          refine g_aload_n hX dX8_step__133 (i := 0) rfl (j := 1) rfl ?_
          have tf134 := (tyF (k := 33) hW t0 (by decide) rfl (by decide) : KM (r p0 33) = 9 ∧ ok (r p0 33))
          refine gf_X8_73 hX dX8_step__134 (ty1 hW t0) (hW.1 _ tf134.2).1 ?_
          refine g_iload hX dX8_step__137 (j := 6) rfl ?_
          obtain ⟨g139, hF⟩ := gd_some hF
          refine g_iald hX dX8_step__139 tf134.1 (hW.1 _ tf134.2).1 (hW.1 _ tf134.2).2 g139 ?_
          refine g_goto (tgt := 157) hX dX8_step__140 (by decide) ?_
          obtain rfl := Option.some.inj hF
          exact g_iret hX dX8_step__157 hR
    · have hF := ite_f hF (fun z => z c103)
      refine g_iload hX dX8_step__106 (j := 0) rfl ?_
      refine g_if_eq (tgt := 121) hX dX8_step__108 (by decide) (fun c108 => ?_) (fun c108 => ?_)
      · have hF := ite_t hF c108
        refine g_iconst (v := (-1)) hX dX8_step__121 (by decide) ?_
        obtain rfl := Option.some.inj hF
        exact g_iret hX dX8_step__122 hR
      · have hF := ite_f hF c108
        refine g_aload_n hX dX8_step__111 (i := 0) rfl (j := 1) rfl ?_
        have tf112 := (tyF (k := 32) hW t0 (by decide) rfl (by decide) : KM (r p0 32) = 9 ∧ ok (r p0 32))
        refine gf_X8_70 hX dX8_step__112 (ty1 hW t0) (hW.1 _ tf112.2).1 ?_
        refine g_iload hX dX8_step__115 (j := 6) rfl ?_
        obtain ⟨g117, hF⟩ := gd_some hF
        refine g_iald hX dX8_step__117 tf112.1 (hW.1 _ tf112.2).1 (hW.1 _ tf112.2).2 g117 ?_
        refine g_goto (tgt := 122) hX dX8_step__118 (by decide) ?_
        obtain rfl := Option.some.inj hF
        exact g_iret hX dX8_step__122 hR
  · have hF := ite_f hF c86
    refine g_iload_n hX dX8_step__89 (i := 3) rfl (j := 4) rfl ?_
    refine g_if_ne (tgt := 98) hX dX8_step__90 (by decide) (fun c90 => ?_) (fun c90 => ?_)
    · have hF := ite_t hF c90
      refine g_iload hX dX8_step__98 (j := 6) rfl ?_
      obtain rfl := Option.some.inj hF
      exact g_iret hX dX8_step__100 hR
    · have hF := ite_f hF (fun z => z c90)
      refine g_iload hX dX8_step__93 (j := 5) rfl ?_
      refine g_goto (tgt := 100) hX dX8_step__95 (by decide) ?_
      obtain rfl := Option.some.inj hF
      exact g_iret hX dX8_step__100 hR
set_option maxRecDepth 100000 in
set_option maxHeartbeats 4000000 in
theorem kX8_step__b77 {X : XT} {b N sz : Nat} {ok : Nat → Prop} {r : RR} {w : Int32 × HH} (hX : XOK X RX8 cX8_step_ 7 6) (hM : N ≤ MM) (hW : WT KM lnM ok N r) (p0 : Nat) (a1 : Int32) (a2 : Int32) (a3 : Int32) (t0 : KM p0 = 8 ∧ ok p0) (hR : XR X b KM lnM MM (some FieldType.int) 0 0 N sz (some (.int w.1)) w.2 r) (h : HH) (x4 : Int32) (x5 : Int32) (hF : fX8_step__b77 r p0 a1 a2 a3 h x4 x5 = some w) : GX X b KM lnM MM 7 0 0 N sz 77 [(0, .ref (b + p0)), (1, .int a1), (2, .int a2), (3, .int a3), (4, .int x4), (5, .int x5)] [] h r := by
  rw [fX8_step__b77] at hF
  refine g_iconst (v := 1) hX dX8_step__77 (by decide) ?_
  refine g_goto (tgt := 82) hX dX8_step__78 (by decide) ?_
  refine g_sub (L' := [(0, .ref (b + p0)), (1, .int a1), (2, .int a2), (3, .int a3), (4, .int x4), (5, .int x5)]) [0, 1, 2, 3, 4, 5] rfl ?_
  exact kX8_step__b82 hX hM hW p0 a1 a2 a3 t0 hR h 1 x4 x5 hF
set_option maxRecDepth 100000 in
set_option maxHeartbeats 4000000 in
theorem kX8_step_ {X : XT} {b N sz : Nat} {ok : Nat → Prop} {h : HH} {r : RR} {w : Int32 × HH} (hX : XOK X RX8 cX8_step_ 7 6) (hM : N ≤ MM) (hW : WT KM lnM ok N r) (p0 : Nat) (a1 : Int32) (a2 : Int32) (a3 : Int32) (t0 : KM p0 = 8 ∧ ok p0) (hR : XR X b KM lnM MM (some FieldType.int) 0 0 N sz (some (.int w.1)) w.2 r) (hF : fX8_step_ h r p0 a1 a2 a3 = some w) : GX X b KM lnM MM 7 0 0 N sz 0 [(0, .ref (b + p0)), (1, .int a1), (2, .int a2), (3, .int a3)] [] h r := by
  rw [fX8_step_] at hF
  refine g_iload_n hX dX8_step__0 (i := 1) rfl (j := 1) rfl ?_
  obtain ⟨v1, e1, hF⟩ := bi_some hF
  refine g_callS (As := [.int a1]) (rest := []) (stk := [.int v1]) hX dX8_step__1 (ctX8_isSide hM hW a1 e1) (by decide) (by decide) wm_X8_151 wt_X8_isSide wz_X8 wc_X8_isSide hyX8_isSide rfl (Nat.le_of_ble_eq_true rfl) rfl rfl ?_ rfl rfl
  refine g_if_eq (tgt := 16) hX dX8_step__4 (by decide) (fun c4 => ?_) (fun c4 => ?_)
  · have hF := ite_t hF c4
    refine g_bipush (v := (-2)) hX dX8_step__16 (by decide) ?_
    obtain rfl := Option.some.inj hF
    exact g_iret hX dX8_step__18 hR
  · have hF := ite_f hF c4
    refine g_iload_n hX dX8_step__7 (i := 3) rfl (j := 3) rfl ?_
    refine g_iconst (v := 0) hX dX8_step__8 (by decide) ?_
    refine g_iconst (v := 4) hX dX8_step__9 (by decide) ?_
    obtain ⟨v10, e10, hF⟩ := bi_some hF
    refine g_callS (As := [.int a3, .int 0, .int 4]) (rest := []) (stk := [.int v10]) hX dX8_step__10 (ctX8_in hM hW a3 0 4 e10) (by decide) (by decide) wm_X8_133 wt_X8_in wz_X8 wc_X8_in hyX8_in rfl (Nat.le_of_ble_eq_true rfl) rfl rfl ?_ rfl rfl
    refine g_if_ne (tgt := 19) hX dX8_step__13 (by decide) (fun c13 => ?_) (fun c13 => ?_)
    · have hF := ite_t hF c13
      refine g_aload_n hX dX8_step__19 (i := 0) rfl (j := 0) rfl ?_
      refine g_aload_n hX dX8_step__20 (i := 0) rfl (j := 0) rfl ?_
      refine gf_X8_288 hX dX8_step__21 (ty1 hW t0) ?_
      obtain ⟨h24, e24, hF⟩ := bi_some hF
      refine g_callV (As := [.int (h p0 1)]) (rest := []) (stk := []) hX dX8_step__24 (ctX8_tellTarget hM hW p0 (h p0 1) t0 e24) (by decide) (by decide) wm_X8_291 wi_X8_tellTarget ws_X8_tellTarget wz_X8 wc_X8_tellTarget hyX8_tellTarget rfl (ci := 8) rfl (by decide) t0.1 (hW.1 _ t0.2).1 (hW.1 _ t0.2).2 (Nat.le_of_ble_eq_true rfl) rfl rfl ?_ rfl rfl
      refine g_aload_n hX dX8_step__27 (i := 0) rfl (j := 0) rfl ?_
      refine g_iload_n hX dX8_step__28 (i := 1) rfl (j := 1) rfl ?_
      obtain ⟨h29, e29, hF⟩ := bi_some hF
      refine g_callV (As := [.int a1]) (rest := []) (stk := []) hX dX8_step__29 (ctX8_tellPlan hM hW p0 a1 t0 e29) (by decide) (by decide) wm_X8_309 wi_X8_tellPlan ws_X8_tellPlan wz_X8 wc_X8_tellPlan hyX8_tellPlan rfl (ci := 8) rfl (by decide) t0.1 (hW.1 _ t0.2).1 (hW.1 _ t0.2).2 (Nat.le_of_ble_eq_true rfl) rfl rfl ?_ rfl rfl
      refine g_iload_n hX dX8_step__32 (i := 2) rfl (j := 2) rfl ?_
      refine g_iconst (v := 0) hX dX8_step__33 (by decide) ?_
      refine g_aload_n hX dX8_step__34 (i := 0) rfl (j := 0) rfl ?_
      refine gf_X8_297 hX dX8_step__35 (ty1 hW t0) ?_
      refine g_iconst (v := 1) hX dX8_step__38 (by decide) ?_
      refine g_isub hX dX8_step__39 ?_
      obtain ⟨v40, e40, hF⟩ := bi_some hF
      refine g_callS (As := [.int a2, .int 0, .int ((h29 p0 35) - 1)]) (rest := []) (stk := [.int v40]) hX dX8_step__40 (ctX8_in hM hW a2 0 ((h29 p0 35) - 1) e40) (by decide) (by decide) wm_X8_133 wt_X8_in wz_X8 wc_X8_in hyX8_in rfl (Nat.le_of_ble_eq_true rfl) rfl rfl ?_ rfl rfl
      refine g_if_ne (tgt := 49) hX dX8_step__43 (by decide) (fun c43 => ?_) (fun c43 => ?_)
      · have hF := ite_t hF c43
        refine g_aload_n hX dX8_step__49 (i := 0) rfl (j := 0) rfl ?_
        have tf50 := (tyF (k := 36) hW t0 (by decide) rfl (by decide) : KM (r p0 36) = 9 ∧ ok (r p0 36))
        refine gf_X8_79 hX dX8_step__50 (ty1 hW t0) (hW.1 _ tf50.2).1 ?_
        refine g_iload_n hX dX8_step__53 (i := 2) rfl (j := 2) rfl ?_
        obtain ⟨g54, hF⟩ := gd_some hF
        refine g_iald hX dX8_step__54 tf50.1 (hW.1 _ tf50.2).1 (hW.1 _ tf50.2).2 g54 ?_
        obtain ⟨y55, e55, hF⟩ := lt_some hF
        refine g_topi e55 ?_
        refine g_istore (L' := [(4, .int y55), (0, .ref (b + p0)), (1, .int a1), (2, .int a2), (3, .int a3)]) hX dX8_step__55 (by decide) rfl ?_
        refine g_aload_n hX dX8_step__57 (i := 0) rfl (j := 1) rfl ?_
        have tf58 := (tyF (k := 37) hW t0 (by decide) rfl (by decide) : KM (r p0 37) = 9 ∧ ok (r p0 37))
        refine gf_X8_82 hX dX8_step__58 (ty1 hW t0) (hW.1 _ tf58.2).1 ?_
        refine g_iload_n hX dX8_step__61 (i := 2) rfl (j := 3) rfl ?_
        obtain ⟨g62, hF⟩ := gd_some hF
        refine g_iald hX dX8_step__62 tf58.1 (hW.1 _ tf58.2).1 (hW.1 _ tf58.2).2 g62 ?_
        obtain ⟨y63, e63, hF⟩ := lt_some hF
        refine g_topi e63 ?_
        refine g_istore (L' := [(5, .int y63), (4, .int y55), (0, .ref (b + p0)), (1, .int a1), (2, .int a2), (3, .int a3)]) hX dX8_step__63 (by decide) rfl ?_
        refine g_iload hX dX8_step__65 (j := 1) rfl ?_
        refine g_iconst (v := 1) hX dX8_step__67 (by decide) ?_
        refine g_icmp_eq (tgt := 77) hX dX8_step__68 (by decide) (fun c68 => ?_) (fun c68 => ?_)
        · have hF := ite_t hF c68
          refine g_sub (L' := [(0, .ref (b + p0)), (1, .int a1), (2, .int a2), (3, .int a3), (4, .int y55), (5, .int y63)]) [2, 3, 4, 5, 1, 0] rfl ?_
          exact kX8_step__b77 hX hM hW p0 a1 a2 a3 t0 hR h29 y55 y63 hF
        · have hF := ite_f hF c68
          refine g_iload hX dX8_step__71 (j := 1) rfl ?_
          refine g_iconst (v := 2) hX dX8_step__73 (by decide) ?_
          refine g_icmp_ne (tgt := 81) hX dX8_step__74 (by decide) (fun c74 => ?_) (fun c74 => ?_)
          · have hF := ite_t hF c74
            refine g_iconst (v := 0) hX dX8_step__81 (by decide) ?_
            refine g_sub (L' := [(0, .ref (b + p0)), (1, .int a1), (2, .int a2), (3, .int a3), (4, .int y55), (5, .int y63)]) [2, 3, 4, 5, 1, 0] rfl ?_
            exact kX8_step__b82 hX hM hW p0 a1 a2 a3 t0 hR h29 0 y55 y63 hF
          · have hF := ite_f hF (fun z => z c74)
            refine g_sub (L' := [(0, .ref (b + p0)), (1, .int a1), (2, .int a2), (3, .int a3), (4, .int y55), (5, .int y63)]) [2, 3, 4, 5, 1, 0] rfl ?_
            exact kX8_step__b77 hX hM hW p0 a1 a2 a3 t0 hR h29 y55 y63 hF
      · have hF := ite_f hF (fun z => z c43)
        refine g_bipush (v := (-12)) hX dX8_step__46 (by decide) ?_
        obtain rfl := Option.some.inj hF
        exact g_iret hX dX8_step__48 hR
    · have hF := ite_f hF (fun z => z c13)
      refine g_bipush (v := (-2)) hX dX8_step__16 (by decide) ?_
      obtain rfl := Option.some.inj hF
      exact g_iret hX dX8_step__18 hR
theorem ctX8_step_ {b N sz : Nat} {ok : Nat → Prop} {h : HH} {r : RR} {w : Int32 × HH} (hM : N ≤ MM) (hW : WT KM lnM ok N r) (p0 : Nat) (a1 : Int32) (a2 : Int32) (a3 : Int32) (t0 : KM p0 = 8 ∧ ok p0) (hF : fX8_step_ h r p0 a1 a2 a3 = some w) : CT yX8_step_ cX8_step_ 7 (some FieldType.int) 6 b KM lnM MM N sz [.ref (b + p0), .int a1, .int a2, .int a3] h r N sz (some (.int w.1)) w.2 r 0 0 :=
  CT_of (by decide) rfl (Nat.le_of_ble_eq_true rfl) (by decide) trivial (fun X hX hR => kX8_step_ hX hM hW p0 a1 a2 a3 t0 hR hF)
/-! X8_areAlike -/
def fX8_areAlike_b117 (r : RR) (p0 : Nat) (k6 : HH → Int32 → Option (Int32 × HH)) (h : HH) (x1 : Int32) : Option (Int32 × HH) := k6 h (x1 + 1)
def fX8_areAlike_b6 (r : RR) (p0 : Nat) : Nat → HH → Int32 → Option (Int32 × HH)
  | 0, _, _ => none
  | n + 1, h, x1 => if (h p0 0) ≤ x1 then (some (1, h)) else (gd (inb x1 (lnM (r p0 25))) (if (h (r p0 25) (ix x1)) = 0 then (gd (inb 0 (lnM (r p0 3))) (gd (inb x1 (lnM (r (r p0 3) (ix 0)))) (gd (inb 1 (lnM (r p0 3))) (gd (inb x1 (lnM (r (r p0 3) (ix 1)))) (if (h (r (r p0 3) (ix 0)) (ix x1)) = (h (r (r p0 3) (ix 1)) (ix x1)) then (gd (inb 0 (lnM (r p0 3))) (gd (inb x1 (lnM (r (r p0 3) (ix 0)))) (if (h (r (r p0 3) (ix 0)) (ix x1)) = 0 then (fX8_areAlike_b117 r p0 (fun h_ z1_ => fX8_areAlike_b6 r p0 n h_ z1_) h x1) else (gd (inb 0 (lnM (r p0 4))) (gd (inb x1 (lnM (r (r p0 4) (ix 0)))) (gd (inb 1 (lnM (r p0 4))) (gd (inb x1 (lnM (r (r p0 4) (ix 1)))) (if ¬ (h (r (r p0 4) (ix 0)) (ix x1)) = (h (r (r p0 4) (ix 1)) (ix x1)) then (some (0, h)) else (gd (inb 0 (lnM (r p0 5))) (gd (inb x1 (lnM (r (r p0 5) (ix 0)))) (gd (inb 1 (lnM (r p0 5))) (gd (inb x1 (lnM (r (r p0 5) (ix 1)))) (if ¬ (h (r (r p0 5) (ix 0)) (ix x1)) = (h (r (r p0 5) (ix 1)) (ix x1)) then (some (0, h)) else (gd (inb 0 (lnM (r p0 6))) (gd (inb x1 (lnM (r (r p0 6) (ix 0)))) (gd (inb 1 (lnM (r p0 6))) (gd (inb x1 (lnM (r (r p0 6) (ix 1)))) (if (h (r (r p0 6) (ix 0)) (ix x1)) = (h (r (r p0 6) (ix 1)) (ix x1)) then (fX8_areAlike_b117 r p0 (fun h_ z1_ => fX8_areAlike_b6 r p0 n h_ z1_) h x1) else (some (0, h)))))))))))))))))))) else (some (0, h))))))) else (fX8_areAlike_b117 r p0 (fun h_ z1_ => fX8_areAlike_b6 r p0 n h_ z1_) h x1)))
def fX8_areAlike (h : HH) (r : RR) (p0 : Nat) : Option (Int32 × HH) := (fX8_ignore h r p0).bind (fun h1 => fX8_areAlike_b6 r p0 lpF h1 0)
set_option maxRecDepth 100000 in
set_option maxHeartbeats 4000000 in
theorem kX8_areAlike_b117 {X : XT} {b N sz : Nat} {ok : Nat → Prop} {r : RR} {w : Int32 × HH} (hX : XOK X RX8 cX8_areAlike 2 5) (hM : N ≤ MM) (hW : WT KM lnM ok N r) (p0 : Nat) (t0 : KM p0 = 8 ∧ ok p0) (hR : XR X b KM lnM MM (some FieldType.boolean) 0 0 N sz (some (.int w.1)) w.2 r) (k6 : HH → Int32 → Option (Int32 × HH)) (hk6 : ∀ (h : HH) (x1 : Int32), k6 h x1 = some w → GX X b KM lnM MM 2 0 0 N sz 6 [(0, .ref (b + p0)), (1, .int x1)] [] h r) (h : HH) (x1 : Int32) (hF : fX8_areAlike_b117 r p0 k6 h x1 = some w) : GX X b KM lnM MM 2 0 0 N sz 117 [(0, .ref (b + p0)), (1, .int x1)] [] h r := by
  rw [fX8_areAlike_b117] at hF
  refine g_iinc (L' := [(1, .int (x1 + 1)), (0, .ref (b + p0))]) (j := 1) hX dX8_areAlike_117 rfl rfl (by decide) rfl ?_
  refine g_goto (tgt := 6) hX dX8_areAlike_120 (by decide) ?_
  refine g_sub (L' := [(0, .ref (b + p0)), (1, .int (x1 + 1))]) [1, 0] rfl ?_
  exact hk6 h (x1 + 1) hF
set_option maxRecDepth 100000 in
set_option maxHeartbeats 4000000 in
theorem kX8_areAlike_b6 {X : XT} {b N sz : Nat} {ok : Nat → Prop} {r : RR} {w : Int32 × HH} (hX : XOK X RX8 cX8_areAlike 2 5) (hM : N ≤ MM) (hW : WT KM lnM ok N r) (p0 : Nat) (t0 : KM p0 = 8 ∧ ok p0) (hR : XR X b KM lnM MM (some FieldType.boolean) 0 0 N sz (some (.int w.1)) w.2 r) : ∀ (n : Nat) (h : HH) (x1 : Int32), fX8_areAlike_b6 r p0 n h x1 = some w → GX X b KM lnM MM 2 0 0 N sz 6 [(0, .ref (b + p0)), (1, .int x1)] [] h r := by
  intro n
  induction n with
  | zero =>
    intro h x1 hF
    cases hF
  | succ n ih =>
    intro h x1 hF
    rw [fX8_areAlike_b6] at hF
    refine g_iload_n hX dX8_areAlike_6 (i := 1) rfl (j := 1) rfl ?_
    refine g_aload_n hX dX8_areAlike_7 (i := 0) rfl (j := 0) rfl ?_
    refine gf_X8_130 hX dX8_areAlike_8 (ty1 hW t0) ?_
    refine g_icmp_ge (tgt := 123) hX dX8_areAlike_11 (by decide) (fun c11 => ?_) (fun c11 => ?_)
    · have hF := ite_t hF c11
      refine g_iconst (v := 1) hX dX8_areAlike_123 (by decide) ?_
      obtain rfl := Option.some.inj hF
      exact g_zret hX dX8_areAlike_124 (by decide) hR
    · have hF := ite_f hF c11
      refine g_aload_n hX dX8_areAlike_14 (i := 0) rfl (j := 0) rfl ?_
      have tf15 := (tyF (k := 25) hW t0 (by decide) rfl (by decide) : KM (r p0 25) = 10 ∧ ok (r p0 25))
      refine gf_X8_55 hX dX8_areAlike_15 (ty1 hW t0) (hW.1 _ tf15.2).1 ?_
      refine g_iload_n hX dX8_areAlike_18 (i := 1) rfl (j := 1) rfl ?_
      obtain ⟨g19, hF⟩ := gd_some hF
      refine g_bald hX dX8_areAlike_19 tf15.1 (hW.1 _ tf15.2).1 (hW.1 _ tf15.2).2 g19 ?_
      refine g_if_eq (tgt := 26) hX dX8_areAlike_20 (by decide) (fun c20 => ?_) (fun c20 => ?_)
      · have hF := ite_t hF c20
        refine g_aload_n hX dX8_areAlike_26 (i := 0) rfl (j := 0) rfl ?_
        have tf27 := (tyF (k := 3) hW t0 (by decide) rfl (by decide) : KM (r p0 3) = 15 ∧ ok (r p0 3))
        refine gf_X8_15 hX dX8_areAlike_27 (ty1 hW t0) (hW.1 _ tf27.2).1 ?_
        refine g_iconst (v := 0) hX dX8_areAlike_30 (by decide) ?_
        obtain ⟨g31, hF⟩ := gd_some hF
        have ta31 : KM (r (r p0 3) (ix 0)) = 10 ∧ ok (r (r p0 3) (ix 0)) := tyA hW tf27 (by decide) rfl (by decide) g31
        refine g_aald hX dX8_areAlike_31 tf27.1 (by decide) (by decide) (hW.1 _ tf27.2).1 (hW.1 _ tf27.2).2 g31 (hW.1 _ ta31.2).1 ?_
        refine g_iload_n hX dX8_areAlike_32 (i := 1) rfl (j := 1) rfl ?_
        obtain ⟨g33, hF⟩ := gd_some hF
        refine g_bald hX dX8_areAlike_33 ta31.1 (hW.1 _ ta31.2).1 (hW.1 _ ta31.2).2 g33 ?_
        refine g_aload_n hX dX8_areAlike_34 (i := 0) rfl (j := 0) rfl ?_
        have tf35 := (tyF (k := 3) hW t0 (by decide) rfl (by decide) : KM (r p0 3) = 15 ∧ ok (r p0 3))
        refine gf_X8_15 hX dX8_areAlike_35 (ty1 hW t0) (hW.1 _ tf35.2).1 ?_
        refine g_iconst (v := 1) hX dX8_areAlike_38 (by decide) ?_
        obtain ⟨g39, hF⟩ := gd_some hF
        have ta39 : KM (r (r p0 3) (ix 1)) = 10 ∧ ok (r (r p0 3) (ix 1)) := tyA hW tf35 (by decide) rfl (by decide) g39
        refine g_aald hX dX8_areAlike_39 tf35.1 (by decide) (by decide) (hW.1 _ tf35.2).1 (hW.1 _ tf35.2).2 g39 (hW.1 _ ta39.2).1 ?_
        refine g_iload_n hX dX8_areAlike_40 (i := 1) rfl (j := 1) rfl ?_
        obtain ⟨g41, hF⟩ := gd_some hF
        refine g_bald hX dX8_areAlike_41 ta39.1 (hW.1 _ ta39.2).1 (hW.1 _ ta39.2).2 g41 ?_
        refine g_icmp_eq (tgt := 47) hX dX8_areAlike_42 (by decide) (fun c42 => ?_) (fun c42 => ?_)
        · have hF := ite_t hF c42
          refine g_aload_n hX dX8_areAlike_47 (i := 0) rfl (j := 0) rfl ?_
          have tf48 := (tyF (k := 3) hW t0 (by decide) rfl (by decide) : KM (r p0 3) = 15 ∧ ok (r p0 3))
          refine gf_X8_15 hX dX8_areAlike_48 (ty1 hW t0) (hW.1 _ tf48.2).1 ?_
          refine g_iconst (v := 0) hX dX8_areAlike_51 (by decide) ?_
          obtain ⟨g52, hF⟩ := gd_some hF
          have ta52 : KM (r (r p0 3) (ix 0)) = 10 ∧ ok (r (r p0 3) (ix 0)) := tyA hW tf48 (by decide) rfl (by decide) g52
          refine g_aald hX dX8_areAlike_52 tf48.1 (by decide) (by decide) (hW.1 _ tf48.2).1 (hW.1 _ tf48.2).2 g52 (hW.1 _ ta52.2).1 ?_
          refine g_iload_n hX dX8_areAlike_53 (i := 1) rfl (j := 1) rfl ?_
          obtain ⟨g54, hF⟩ := gd_some hF
          refine g_bald hX dX8_areAlike_54 ta52.1 (hW.1 _ ta52.2).1 (hW.1 _ ta52.2).2 g54 ?_
          refine g_if_eq (tgt := 117) hX dX8_areAlike_55 (by decide) (fun c55 => ?_) (fun c55 => ?_)
          · have hF := ite_t hF c55
            refine g_sub (L' := [(0, .ref (b + p0)), (1, .int x1)]) [0, 1] rfl ?_
            exact kX8_areAlike_b117 hX hM hW p0 t0 hR (fun h_ z1_ => fX8_areAlike_b6 r p0 n h_ z1_) ih h x1 hF
          · have hF := ite_f hF c55
            refine g_aload_n hX dX8_areAlike_58 (i := 0) rfl (j := 0) rfl ?_
            have tf59 := (tyF (k := 4) hW t0 (by decide) rfl (by decide) : KM (r p0 4) = 14 ∧ ok (r p0 4))
            refine gf_X8_20 hX dX8_areAlike_59 (ty1 hW t0) (hW.1 _ tf59.2).1 ?_
            refine g_iconst (v := 0) hX dX8_areAlike_62 (by decide) ?_
            obtain ⟨g63, hF⟩ := gd_some hF
            have ta63 : KM (r (r p0 4) (ix 0)) = 9 ∧ ok (r (r p0 4) (ix 0)) := tyA hW tf59 (by decide) rfl (by decide) g63
            refine g_aald hX dX8_areAlike_63 tf59.1 (by decide) (by decide) (hW.1 _ tf59.2).1 (hW.1 _ tf59.2).2 g63 (hW.1 _ ta63.2).1 ?_
            refine g_iload_n hX dX8_areAlike_64 (i := 1) rfl (j := 1) rfl ?_
            obtain ⟨g65, hF⟩ := gd_some hF
            refine g_iald hX dX8_areAlike_65 ta63.1 (hW.1 _ ta63.2).1 (hW.1 _ ta63.2).2 g65 ?_
            refine g_aload_n hX dX8_areAlike_66 (i := 0) rfl (j := 0) rfl ?_
            have tf67 := (tyF (k := 4) hW t0 (by decide) rfl (by decide) : KM (r p0 4) = 14 ∧ ok (r p0 4))
            refine gf_X8_20 hX dX8_areAlike_67 (ty1 hW t0) (hW.1 _ tf67.2).1 ?_
            refine g_iconst (v := 1) hX dX8_areAlike_70 (by decide) ?_
            obtain ⟨g71, hF⟩ := gd_some hF
            have ta71 : KM (r (r p0 4) (ix 1)) = 9 ∧ ok (r (r p0 4) (ix 1)) := tyA hW tf67 (by decide) rfl (by decide) g71
            refine g_aald hX dX8_areAlike_71 tf67.1 (by decide) (by decide) (hW.1 _ tf67.2).1 (hW.1 _ tf67.2).2 g71 (hW.1 _ ta71.2).1 ?_
            refine g_iload_n hX dX8_areAlike_72 (i := 1) rfl (j := 1) rfl ?_
            obtain ⟨g73, hF⟩ := gd_some hF
            refine g_iald hX dX8_areAlike_73 ta71.1 (hW.1 _ ta71.2).1 (hW.1 _ ta71.2).2 g73 ?_
            refine g_icmp_ne (tgt := 115) hX dX8_areAlike_74 (by decide) (fun c74 => ?_) (fun c74 => ?_)
            · have hF := ite_t hF c74
              refine g_iconst (v := 0) hX dX8_areAlike_115 (by decide) ?_
              obtain rfl := Option.some.inj hF
              exact g_zret hX dX8_areAlike_116 (by decide) hR
            · have hF := ite_f hF (fun z => z c74)
              refine g_aload_n hX dX8_areAlike_77 (i := 0) rfl (j := 0) rfl ?_
              have tf78 := (tyF (k := 5) hW t0 (by decide) rfl (by decide) : KM (r p0 5) = 14 ∧ ok (r p0 5))
              refine gf_X8_23 hX dX8_areAlike_78 (ty1 hW t0) (hW.1 _ tf78.2).1 ?_
              refine g_iconst (v := 0) hX dX8_areAlike_81 (by decide) ?_
              obtain ⟨g82, hF⟩ := gd_some hF
              have ta82 : KM (r (r p0 5) (ix 0)) = 9 ∧ ok (r (r p0 5) (ix 0)) := tyA hW tf78 (by decide) rfl (by decide) g82
              refine g_aald hX dX8_areAlike_82 tf78.1 (by decide) (by decide) (hW.1 _ tf78.2).1 (hW.1 _ tf78.2).2 g82 (hW.1 _ ta82.2).1 ?_
              refine g_iload_n hX dX8_areAlike_83 (i := 1) rfl (j := 1) rfl ?_
              obtain ⟨g84, hF⟩ := gd_some hF
              refine g_iald hX dX8_areAlike_84 ta82.1 (hW.1 _ ta82.2).1 (hW.1 _ ta82.2).2 g84 ?_
              refine g_aload_n hX dX8_areAlike_85 (i := 0) rfl (j := 0) rfl ?_
              have tf86 := (tyF (k := 5) hW t0 (by decide) rfl (by decide) : KM (r p0 5) = 14 ∧ ok (r p0 5))
              refine gf_X8_23 hX dX8_areAlike_86 (ty1 hW t0) (hW.1 _ tf86.2).1 ?_
              refine g_iconst (v := 1) hX dX8_areAlike_89 (by decide) ?_
              obtain ⟨g90, hF⟩ := gd_some hF
              have ta90 : KM (r (r p0 5) (ix 1)) = 9 ∧ ok (r (r p0 5) (ix 1)) := tyA hW tf86 (by decide) rfl (by decide) g90
              refine g_aald hX dX8_areAlike_90 tf86.1 (by decide) (by decide) (hW.1 _ tf86.2).1 (hW.1 _ tf86.2).2 g90 (hW.1 _ ta90.2).1 ?_
              refine g_iload_n hX dX8_areAlike_91 (i := 1) rfl (j := 1) rfl ?_
              obtain ⟨g92, hF⟩ := gd_some hF
              refine g_iald hX dX8_areAlike_92 ta90.1 (hW.1 _ ta90.2).1 (hW.1 _ ta90.2).2 g92 ?_
              refine g_icmp_ne (tgt := 115) hX dX8_areAlike_93 (by decide) (fun c93 => ?_) (fun c93 => ?_)
              · have hF := ite_t hF c93
                refine g_iconst (v := 0) hX dX8_areAlike_115 (by decide) ?_
                obtain rfl := Option.some.inj hF
                exact g_zret hX dX8_areAlike_116 (by decide) hR
              · have hF := ite_f hF (fun z => z c93)
                refine g_aload_n hX dX8_areAlike_96 (i := 0) rfl (j := 0) rfl ?_
                have tf97 := (tyF (k := 6) hW t0 (by decide) rfl (by decide) : KM (r p0 6) = 14 ∧ ok (r p0 6))
                refine gf_X8_26 hX dX8_areAlike_97 (ty1 hW t0) (hW.1 _ tf97.2).1 ?_
                refine g_iconst (v := 0) hX dX8_areAlike_100 (by decide) ?_
                obtain ⟨g101, hF⟩ := gd_some hF
                have ta101 : KM (r (r p0 6) (ix 0)) = 9 ∧ ok (r (r p0 6) (ix 0)) := tyA hW tf97 (by decide) rfl (by decide) g101
                refine g_aald hX dX8_areAlike_101 tf97.1 (by decide) (by decide) (hW.1 _ tf97.2).1 (hW.1 _ tf97.2).2 g101 (hW.1 _ ta101.2).1 ?_
                refine g_iload_n hX dX8_areAlike_102 (i := 1) rfl (j := 1) rfl ?_
                obtain ⟨g103, hF⟩ := gd_some hF
                refine g_iald hX dX8_areAlike_103 ta101.1 (hW.1 _ ta101.2).1 (hW.1 _ ta101.2).2 g103 ?_
                refine g_aload_n hX dX8_areAlike_104 (i := 0) rfl (j := 0) rfl ?_
                have tf105 := (tyF (k := 6) hW t0 (by decide) rfl (by decide) : KM (r p0 6) = 14 ∧ ok (r p0 6))
                refine gf_X8_26 hX dX8_areAlike_105 (ty1 hW t0) (hW.1 _ tf105.2).1 ?_
                refine g_iconst (v := 1) hX dX8_areAlike_108 (by decide) ?_
                obtain ⟨g109, hF⟩ := gd_some hF
                have ta109 : KM (r (r p0 6) (ix 1)) = 9 ∧ ok (r (r p0 6) (ix 1)) := tyA hW tf105 (by decide) rfl (by decide) g109
                refine g_aald hX dX8_areAlike_109 tf105.1 (by decide) (by decide) (hW.1 _ tf105.2).1 (hW.1 _ tf105.2).2 g109 (hW.1 _ ta109.2).1 ?_
                refine g_iload_n hX dX8_areAlike_110 (i := 1) rfl (j := 1) rfl ?_
                obtain ⟨g111, hF⟩ := gd_some hF
                refine g_iald hX dX8_areAlike_111 ta109.1 (hW.1 _ ta109.2).1 (hW.1 _ ta109.2).2 g111 ?_
                refine g_icmp_eq (tgt := 117) hX dX8_areAlike_112 (by decide) (fun c112 => ?_) (fun c112 => ?_)
                · have hF := ite_t hF c112
                  refine g_sub (L' := [(0, .ref (b + p0)), (1, .int x1)]) [0, 1] rfl ?_
                  exact kX8_areAlike_b117 hX hM hW p0 t0 hR (fun h_ z1_ => fX8_areAlike_b6 r p0 n h_ z1_) ih h x1 hF
                · have hF := ite_f hF c112
                  refine g_iconst (v := 0) hX dX8_areAlike_115 (by decide) ?_
                  obtain rfl := Option.some.inj hF
                  exact g_zret hX dX8_areAlike_116 (by decide) hR
        · have hF := ite_f hF c42
          refine g_iconst (v := 0) hX dX8_areAlike_45 (by decide) ?_
          obtain rfl := Option.some.inj hF
          exact g_zret hX dX8_areAlike_46 (by decide) hR
      · have hF := ite_f hF c20
        refine g_goto (tgt := 117) hX dX8_areAlike_23 (by decide) ?_
        refine g_sub (L' := [(0, .ref (b + p0)), (1, .int x1)]) [0, 1] rfl ?_
        exact kX8_areAlike_b117 hX hM hW p0 t0 hR (fun h_ z1_ => fX8_areAlike_b6 r p0 n h_ z1_) ih h x1 hF
set_option maxRecDepth 100000 in
set_option maxHeartbeats 4000000 in
theorem kX8_areAlike {X : XT} {b N sz : Nat} {ok : Nat → Prop} {h : HH} {r : RR} {w : Int32 × HH} (hX : XOK X RX8 cX8_areAlike 2 5) (hM : N ≤ MM) (hW : WT KM lnM ok N r) (p0 : Nat) (t0 : KM p0 = 8 ∧ ok p0) (hR : XR X b KM lnM MM (some FieldType.boolean) 0 0 N sz (some (.int w.1)) w.2 r) (hF : fX8_areAlike h r p0 = some w) : GX X b KM lnM MM 2 0 0 N sz 0 [(0, .ref (b + p0))] [] h r := by
  rw [fX8_areAlike] at hF
  refine g_aload_n hX dX8_areAlike_0 (i := 0) rfl (j := 0) rfl ?_
  obtain ⟨h1, e1, hF⟩ := bi_some hF
  refine g_callV (As := []) (rest := []) (stk := []) hX dX8_areAlike_1 (ctX8_ignore hM hW p0 t0 e1) (by decide) (by decide) wm_X8_196 wi_X8_ignore ws_X8_ignore wz_X8 wc_X8_ignore hyX8_ignore rfl (ci := 8) rfl (by decide) t0.1 (hW.1 _ t0.2).1 (hW.1 _ t0.2).2 (Nat.le_of_ble_eq_true rfl) rfl rfl ?_ rfl rfl
  refine g_iconst (v := 0) hX dX8_areAlike_4 (by decide) ?_
  refine g_istore_n (L' := [(1, .int 0), (0, .ref (b + p0))]) hX dX8_areAlike_5 (i := 1) rfl (by decide) rfl ?_
  refine g_sub (L' := [(0, .ref (b + p0)), (1, .int 0)]) [1, 0] rfl ?_
  exact kX8_areAlike_b6 hX hM hW p0 t0 hR lpF h1 0 hF
theorem ctX8_areAlike {b N sz : Nat} {ok : Nat → Prop} {h : HH} {r : RR} {w : Int32 × HH} (hM : N ≤ MM) (hW : WT KM lnM ok N r) (p0 : Nat) (t0 : KM p0 = 8 ∧ ok p0) (hF : fX8_areAlike h r p0 = some w) : CT yX8_areAlike cX8_areAlike 2 (some FieldType.boolean) 5 b KM lnM MM N sz [.ref (b + p0)] h r N sz (some (.int w.1)) w.2 r 0 0 :=
  CT_of (by decide) rfl (Nat.le_of_ble_eq_true rfl) (by decide) trivial (fun X hX hR => kX8_areAlike hX hM hW p0 t0 hR hF)
/-! X8_would -/
def fX8_would (h : HH) (r : RR) (p0 : Nat) (a1 : Int32) : Option (Int32 × HH) := (fX8_in h r a1 0 3).bind (fun v3 => if ¬ v3 = 0 then (if ¬ a1 = 3 then ((fX8_tellTarget h r p0 (h p0 1)).bind (fun h35 => if ¬ a1 = 0 then ((fX8_tellPlan h35 r p0 (a1 - 1)).bind (fun h51 => some (h51 p0 35, h51))) else (some (h35 p0 26, h35)))) else (bi2 (fX8_areAlike h r p0) (fun v18 h18 => if v18 = 0 then (some (0, h18)) else (some (1, h18))))) else (some ((-2), h)))
set_option maxRecDepth 100000 in
set_option maxHeartbeats 4000000 in
theorem kX8_would {X : XT} {b N sz : Nat} {ok : Nat → Prop} {h : HH} {r : RR} {w : Int32 × HH} (hX : XOK X RX8 cX8_would 2 6) (hM : N ≤ MM) (hW : WT KM lnM ok N r) (p0 : Nat) (a1 : Int32) (t0 : KM p0 = 8 ∧ ok p0) (hR : XR X b KM lnM MM (some FieldType.int) 0 0 N sz (some (.int w.1)) w.2 r) (hF : fX8_would h r p0 a1 = some w) : GX X b KM lnM MM 2 0 0 N sz 0 [(0, .ref (b + p0)), (1, .int a1)] [] h r := by
  rw [fX8_would] at hF
  refine g_iload_n hX dX8_would_0 (i := 1) rfl (j := 1) rfl ?_
  refine g_iconst (v := 0) hX dX8_would_1 (by decide) ?_
  refine g_iconst (v := 3) hX dX8_would_2 (by decide) ?_
  obtain ⟨v3, e3, hF⟩ := bi_some hF
  refine g_callS (As := [.int a1, .int 0, .int 3]) (rest := []) (stk := [.int v3]) hX dX8_would_3 (ctX8_in hM hW a1 0 3 e3) (by decide) (by decide) wm_X8_133 wt_X8_in wz_X8 wc_X8_in hyX8_in rfl (Nat.le_of_ble_eq_true rfl) rfl rfl ?_ rfl rfl
  refine g_if_ne (tgt := 12) hX dX8_would_6 (by decide) (fun c6 => ?_) (fun c6 => ?_)
  · have hF := ite_t hF c6
    refine g_iload_n hX dX8_would_12 (i := 1) rfl (j := 1) rfl ?_
    refine g_iconst (v := 3) hX dX8_would_13 (by decide) ?_
    refine g_icmp_ne (tgt := 30) hX dX8_would_14 (by decide) (fun c14 => ?_) (fun c14 => ?_)
    · have hF := ite_t hF c14
      refine g_aload_n hX dX8_would_30 (i := 0) rfl (j := 0) rfl ?_
      refine g_aload_n hX dX8_would_31 (i := 0) rfl (j := 0) rfl ?_
      refine gf_X8_288 hX dX8_would_32 (ty1 hW t0) ?_
      obtain ⟨h35, e35, hF⟩ := bi_some hF
      refine g_callV (As := [.int (h p0 1)]) (rest := []) (stk := []) hX dX8_would_35 (ctX8_tellTarget hM hW p0 (h p0 1) t0 e35) (by decide) (by decide) wm_X8_291 wi_X8_tellTarget ws_X8_tellTarget wz_X8 wc_X8_tellTarget hyX8_tellTarget rfl (ci := 8) rfl (by decide) t0.1 (hW.1 _ t0.2).1 (hW.1 _ t0.2).2 (Nat.le_of_ble_eq_true rfl) rfl rfl ?_ rfl rfl
      refine g_iload_n hX dX8_would_38 (i := 1) rfl (j := 1) rfl ?_
      refine g_if_ne (tgt := 47) hX dX8_would_39 (by decide) (fun c39 => ?_) (fun c39 => ?_)
      · have hF := ite_t hF c39
        refine g_aload_n hX dX8_would_47 (i := 0) rfl (j := 0) rfl ?_
        refine g_iload_n hX dX8_would_48 (i := 1) rfl (j := 1) rfl ?_
        refine g_iconst (v := 1) hX dX8_would_49 (by decide) ?_
        refine g_isub hX dX8_would_50 ?_
        obtain ⟨h51, e51, hF⟩ := bi_some hF
        refine g_callV (As := [.int (a1 - 1)]) (rest := []) (stk := []) hX dX8_would_51 (ctX8_tellPlan hM hW p0 (a1 - 1) t0 e51) (by decide) (by decide) wm_X8_309 wi_X8_tellPlan ws_X8_tellPlan wz_X8 wc_X8_tellPlan hyX8_tellPlan rfl (ci := 8) rfl (by decide) t0.1 (hW.1 _ t0.2).1 (hW.1 _ t0.2).2 (Nat.le_of_ble_eq_true rfl) rfl rfl ?_ rfl rfl
        refine g_aload_n hX dX8_would_54 (i := 0) rfl (j := 0) rfl ?_
        refine gf_X8_297 hX dX8_would_55 (ty1 hW t0) ?_
        obtain rfl := Option.some.inj hF
        exact g_iret hX dX8_would_58 hR
      · have hF := ite_f hF (fun z => z c39)
        refine g_aload_n hX dX8_would_42 (i := 0) rfl (j := 0) rfl ?_
        refine gf_X8_249 hX dX8_would_43 (ty1 hW t0) ?_
        obtain rfl := Option.some.inj hF
        exact g_iret hX dX8_would_46 hR
    · have hF := ite_f hF (fun z => z c14)
      refine g_aload_n hX dX8_would_17 (i := 0) rfl (j := 0) rfl ?_
      obtain ⟨v18, h18, e18, hF⟩ := bi2_some hF
      refine g_callV (As := []) (rest := []) (stk := [.int v18]) hX dX8_would_18 (ctX8_areAlike hM hW p0 t0 e18) (by decide) (by decide) wm_X8_312 wi_X8_areAlike ws_X8_areAlike wz_X8 wc_X8_areAlike hyX8_areAlike rfl (ci := 8) rfl (by decide) t0.1 (hW.1 _ t0.2).1 (hW.1 _ t0.2).2 (Nat.le_of_ble_eq_true rfl) rfl rfl ?_ rfl rfl
      refine g_if_eq (tgt := 28) hX dX8_would_21 (by decide) (fun c21 => ?_) (fun c21 => ?_)
      · have hF := ite_t hF c21
        refine g_iconst (v := 0) hX dX8_would_28 (by decide) ?_
        obtain rfl := Option.some.inj hF
        exact g_iret hX dX8_would_29 hR
      · have hF := ite_f hF c21
        refine g_iconst (v := 1) hX dX8_would_24 (by decide) ?_
        refine g_goto (tgt := 29) hX dX8_would_25 (by decide) ?_
        obtain rfl := Option.some.inj hF
        exact g_iret hX dX8_would_29 hR
  · have hF := ite_f hF (fun z => z c6)
    refine g_bipush (v := (-2)) hX dX8_would_9 (by decide) ?_
    obtain rfl := Option.some.inj hF
    exact g_iret hX dX8_would_11 hR
theorem ctX8_would {b N sz : Nat} {ok : Nat → Prop} {h : HH} {r : RR} {w : Int32 × HH} (hM : N ≤ MM) (hW : WT KM lnM ok N r) (p0 : Nat) (a1 : Int32) (t0 : KM p0 = 8 ∧ ok p0) (hF : fX8_would h r p0 a1 = some w) : CT yX8_would cX8_would 2 (some FieldType.int) 6 b KM lnM MM N sz [.ref (b + p0), .int a1] h r N sz (some (.int w.1)) w.2 r 0 0 :=
  CT_of (by decide) rfl (Nat.le_of_ble_eq_true rfl) (by decide) trivial (fun X hX hR => kX8_would hX hM hW p0 a1 t0 hR hF)
/-! X8_becomesTarget -/
def fX8_becomesTarget_b77 (r : RR) (p0 : Nat) (a1 : Int32) (k2 : HH → Int32 → Option (HH)) (h : HH) (x2 : Int32) : Option (HH) := k2 h (x2 + 1)
def fX8_becomesTarget_b30 (r : RR) (p0 : Nat) (a1 : Int32) (k2 : HH → Int32 → Option (HH)) (h : HH) (x2 : Int32) : Option (HH) := gd (inb a1 (lnM (r p0 3))) (gd (inb x2 (lnM (r p0 30))) (gd (inb x2 (lnM (r (r p0 3) (ix a1)))) (lt (up h (r (r p0 3) (ix a1)) (ix x2) (zn (h (r p0 30) (ix x2)))) (fun h43 => gd (inb x2 (lnM (r p0 30))) (if (h43 (r p0 30) (ix x2)) = 0 then (fX8_becomesTarget_b77 r p0 a1 k2 h43 x2) else (gd (inb x2 (lnM (r p0 32))) (gd (inb x2 (lnM (r p0 33))) (gd (inb x2 (lnM (r p0 34))) ((fX8_stand h43 r p0 a1 x2 (h43 (r p0 32) (ix x2)) (h43 (r p0 33) (ix x2)) (h43 (r p0 34) (ix x2))).bind (fun h74 => fX8_becomesTarget_b77 r p0 a1 k2 h74 x2))))))))))
def fX8_becomesTarget_b2 (r : RR) (p0 : Nat) (a1 : Int32) : Nat → HH → Int32 → Option (HH)
  | 0, _, _ => none
  | n + 1, h, x2 => if (h p0 27) ≤ x2 then (some h) else (if (h p0 0) ≤ x2 then (fX8_becomesTarget_b30 r p0 a1 (fun h_ z2_ => fX8_becomesTarget_b2 r p0 a1 n h_ z2_) h x2) else (gd (inb x2 (lnM (r p0 25))) (if (h (r p0 25) (ix x2)) = 0 then (fX8_becomesTarget_b30 r p0 a1 (fun h_ z2_ => fX8_becomesTarget_b2 r p0 a1 n h_ z2_) h x2) else (fX8_becomesTarget_b77 r p0 a1 (fun h_ z2_ => fX8_becomesTarget_b2 r p0 a1 n h_ z2_) h x2))))
def fX8_becomesTarget (h : HH) (r : RR) (p0 : Nat) (a1 : Int32) : Option (HH) := fX8_becomesTarget_b2 r p0 a1 lpF h 0
set_option maxRecDepth 100000 in
set_option maxHeartbeats 4000000 in
theorem kX8_becomesTarget_b77 {X : XT} {b N sz : Nat} {ok : Nat → Prop} {r : RR} {w : HH} (hX : XOK X RX8 cX8_becomesTarget 3 2) (hM : N ≤ MM) (hW : WT KM lnM ok N r) (p0 : Nat) (a1 : Int32) (t0 : KM p0 = 8 ∧ ok p0) (hR : XR X b KM lnM MM (none) 0 0 N sz none w r) (k2 : HH → Int32 → Option (HH)) (hk2 : ∀ (h : HH) (x2 : Int32), k2 h x2 = some w → GX X b KM lnM MM 3 0 0 N sz 2 [(0, .ref (b + p0)), (1, .int a1), (2, .int x2)] [] h r) (h : HH) (x2 : Int32) (hF : fX8_becomesTarget_b77 r p0 a1 k2 h x2 = some w) : GX X b KM lnM MM 3 0 0 N sz 77 [(0, .ref (b + p0)), (1, .int a1), (2, .int x2)] [] h r := by
  rw [fX8_becomesTarget_b77] at hF
  refine g_iinc (L' := [(2, .int (x2 + 1)), (0, .ref (b + p0)), (1, .int a1)]) (j := 2) hX dX8_becomesTarget_77 rfl rfl (by decide) rfl ?_
  refine g_goto (tgt := 2) hX dX8_becomesTarget_80 (by decide) ?_
  refine g_sub (L' := [(0, .ref (b + p0)), (1, .int a1), (2, .int (x2 + 1))]) [1, 2, 0] rfl ?_
  exact hk2 h (x2 + 1) hF
set_option maxRecDepth 100000 in
set_option maxHeartbeats 4000000 in
theorem kX8_becomesTarget_b30 {X : XT} {b N sz : Nat} {ok : Nat → Prop} {r : RR} {w : HH} (hX : XOK X RX8 cX8_becomesTarget 3 2) (hM : N ≤ MM) (hW : WT KM lnM ok N r) (p0 : Nat) (a1 : Int32) (t0 : KM p0 = 8 ∧ ok p0) (hR : XR X b KM lnM MM (none) 0 0 N sz none w r) (k2 : HH → Int32 → Option (HH)) (hk2 : ∀ (h : HH) (x2 : Int32), k2 h x2 = some w → GX X b KM lnM MM 3 0 0 N sz 2 [(0, .ref (b + p0)), (1, .int a1), (2, .int x2)] [] h r) (h : HH) (x2 : Int32) (hF : fX8_becomesTarget_b30 r p0 a1 k2 h x2 = some w) : GX X b KM lnM MM 3 0 0 N sz 30 [(0, .ref (b + p0)), (1, .int a1), (2, .int x2)] [] h r := by
  rw [fX8_becomesTarget_b30] at hF
  refine g_aload_n hX dX8_becomesTarget_30 (i := 0) rfl (j := 0) rfl ?_
  have tf31 := (tyF (k := 3) hW t0 (by decide) rfl (by decide) : KM (r p0 3) = 15 ∧ ok (r p0 3))
  refine gf_X8_15 hX dX8_becomesTarget_31 (ty1 hW t0) (hW.1 _ tf31.2).1 ?_
  refine g_iload_n hX dX8_becomesTarget_34 (i := 1) rfl (j := 1) rfl ?_
  obtain ⟨g35, hF⟩ := gd_some hF
  have ta35 : KM (r (r p0 3) (ix a1)) = 10 ∧ ok (r (r p0 3) (ix a1)) := tyA hW tf31 (by decide) rfl (by decide) g35
  refine g_aald hX dX8_becomesTarget_35 tf31.1 (by decide) (by decide) (hW.1 _ tf31.2).1 (hW.1 _ tf31.2).2 g35 (hW.1 _ ta35.2).1 ?_
  refine g_iload_n hX dX8_becomesTarget_36 (i := 2) rfl (j := 2) rfl ?_
  refine g_aload_n hX dX8_becomesTarget_37 (i := 0) rfl (j := 0) rfl ?_
  have tf38 := (tyF (k := 30) hW t0 (by decide) rfl (by decide) : KM (r p0 30) = 10 ∧ ok (r p0 30))
  refine gf_X8_64 hX dX8_becomesTarget_38 (ty1 hW t0) (hW.1 _ tf38.2).1 ?_
  refine g_iload_n hX dX8_becomesTarget_41 (i := 2) rfl (j := 2) rfl ?_
  obtain ⟨g42, hF⟩ := gd_some hF
  refine g_bald hX dX8_becomesTarget_42 tf38.1 (hW.1 _ tf38.2).1 (hW.1 _ tf38.2).2 g42 ?_
  obtain ⟨g43, hF⟩ := gd_some hF
  obtain ⟨h43, e43, hF⟩ := lt_some hF
  refine g_bast hX dX8_becomesTarget_43 ta35.1 (hW.1 _ ta35.2).1 (hW.1 _ ta35.2).2 hM g43 e43 ?_
  refine g_aload_n hX dX8_becomesTarget_44 (i := 0) rfl (j := 0) rfl ?_
  have tf45 := (tyF (k := 30) hW t0 (by decide) rfl (by decide) : KM (r p0 30) = 10 ∧ ok (r p0 30))
  refine gf_X8_64 hX dX8_becomesTarget_45 (ty1 hW t0) (hW.1 _ tf45.2).1 ?_
  refine g_iload_n hX dX8_becomesTarget_48 (i := 2) rfl (j := 2) rfl ?_
  obtain ⟨g49, hF⟩ := gd_some hF
  refine g_bald hX dX8_becomesTarget_49 tf45.1 (hW.1 _ tf45.2).1 (hW.1 _ tf45.2).2 g49 ?_
  refine g_if_eq (tgt := 77) hX dX8_becomesTarget_50 (by decide) (fun c50 => ?_) (fun c50 => ?_)
  · have hF := ite_t hF c50
    refine g_sub (L' := [(0, .ref (b + p0)), (1, .int a1), (2, .int x2)]) [0, 1, 2] rfl ?_
    exact kX8_becomesTarget_b77 hX hM hW p0 a1 t0 hR k2 hk2 h43 x2 hF
  · have hF := ite_f hF c50
    refine g_aload_n hX dX8_becomesTarget_53 (i := 0) rfl (j := 0) rfl ?_
    refine g_iload_n hX dX8_becomesTarget_54 (i := 1) rfl (j := 1) rfl ?_
    refine g_iload_n hX dX8_becomesTarget_55 (i := 2) rfl (j := 2) rfl ?_
    refine g_aload_n hX dX8_becomesTarget_56 (i := 0) rfl (j := 0) rfl ?_
    have tf57 := (tyF (k := 32) hW t0 (by decide) rfl (by decide) : KM (r p0 32) = 9 ∧ ok (r p0 32))
    refine gf_X8_70 hX dX8_becomesTarget_57 (ty1 hW t0) (hW.1 _ tf57.2).1 ?_
    refine g_iload_n hX dX8_becomesTarget_60 (i := 2) rfl (j := 2) rfl ?_
    obtain ⟨g61, hF⟩ := gd_some hF
    refine g_iald hX dX8_becomesTarget_61 tf57.1 (hW.1 _ tf57.2).1 (hW.1 _ tf57.2).2 g61 ?_
    refine g_aload_n hX dX8_becomesTarget_62 (i := 0) rfl (j := 0) rfl ?_
    have tf63 := (tyF (k := 33) hW t0 (by decide) rfl (by decide) : KM (r p0 33) = 9 ∧ ok (r p0 33))
    refine gf_X8_73 hX dX8_becomesTarget_63 (ty1 hW t0) (hW.1 _ tf63.2).1 ?_
    refine g_iload_n hX dX8_becomesTarget_66 (i := 2) rfl (j := 2) rfl ?_
    obtain ⟨g67, hF⟩ := gd_some hF
    refine g_iald hX dX8_becomesTarget_67 tf63.1 (hW.1 _ tf63.2).1 (hW.1 _ tf63.2).2 g67 ?_
    refine g_aload_n hX dX8_becomesTarget_68 (i := 0) rfl (j := 0) rfl ?_
    have tf69 := (tyF (k := 34) hW t0 (by decide) rfl (by decide) : KM (r p0 34) = 9 ∧ ok (r p0 34))
    refine gf_X8_76 hX dX8_becomesTarget_69 (ty1 hW t0) (hW.1 _ tf69.2).1 ?_
    refine g_iload_n hX dX8_becomesTarget_72 (i := 2) rfl (j := 2) rfl ?_
    obtain ⟨g73, hF⟩ := gd_some hF
    refine g_iald hX dX8_becomesTarget_73 tf69.1 (hW.1 _ tf69.2).1 (hW.1 _ tf69.2).2 g73 ?_
    obtain ⟨h74, e74, hF⟩ := bi_some hF
    refine g_callV (As := [.int a1, .int x2, .int (h43 (r p0 32) (ix x2)), .int (h43 (r p0 33) (ix x2)), .int (h43 (r p0 34) (ix x2))]) (rest := []) (stk := []) hX dX8_becomesTarget_74 (ctX8_stand hM hW p0 a1 x2 (h43 (r p0 32) (ix x2)) (h43 (r p0 33) (ix x2)) (h43 (r p0 34) (ix x2)) t0 e74) (by decide) (by decide) wm_X8_173 wi_X8_stand ws_X8_stand wz_X8 wc_X8_stand hyX8_stand rfl (ci := 8) rfl (by decide) t0.1 (hW.1 _ t0.2).1 (hW.1 _ t0.2).2 (Nat.le_of_ble_eq_true rfl) rfl rfl ?_ rfl rfl
    refine g_sub (L' := [(0, .ref (b + p0)), (1, .int a1), (2, .int x2)]) [0, 1, 2] rfl ?_
    exact kX8_becomesTarget_b77 hX hM hW p0 a1 t0 hR k2 hk2 h74 x2 hF
set_option maxRecDepth 100000 in
set_option maxHeartbeats 4000000 in
theorem kX8_becomesTarget_b2 {X : XT} {b N sz : Nat} {ok : Nat → Prop} {r : RR} {w : HH} (hX : XOK X RX8 cX8_becomesTarget 3 2) (hM : N ≤ MM) (hW : WT KM lnM ok N r) (p0 : Nat) (a1 : Int32) (t0 : KM p0 = 8 ∧ ok p0) (hR : XR X b KM lnM MM (none) 0 0 N sz none w r) : ∀ (n : Nat) (h : HH) (x2 : Int32), fX8_becomesTarget_b2 r p0 a1 n h x2 = some w → GX X b KM lnM MM 3 0 0 N sz 2 [(0, .ref (b + p0)), (1, .int a1), (2, .int x2)] [] h r := by
  intro n
  induction n with
  | zero =>
    intro h x2 hF
    cases hF
  | succ n ih =>
    intro h x2 hF
    rw [fX8_becomesTarget_b2] at hF
    refine g_iload_n hX dX8_becomesTarget_2 (i := 2) rfl (j := 2) rfl ?_
    refine g_aload_n hX dX8_becomesTarget_3 (i := 0) rfl (j := 0) rfl ?_
    refine gf_X8_260 hX dX8_becomesTarget_4 (ty1 hW t0) ?_
    refine g_icmp_ge (tgt := 83) hX dX8_becomesTarget_7 (by decide) (fun c7 => ?_) (fun c7 => ?_)
    · have hF := ite_t hF c7
      obtain rfl := Option.some.inj hF
      exact g_vret hX dX8_becomesTarget_83 hR
    · have hF := ite_f hF c7
      refine g_iload_n hX dX8_becomesTarget_10 (i := 2) rfl (j := 2) rfl ?_
      refine g_aload_n hX dX8_becomesTarget_11 (i := 0) rfl (j := 0) rfl ?_
      refine gf_X8_130 hX dX8_becomesTarget_12 (ty1 hW t0) ?_
      refine g_icmp_ge (tgt := 30) hX dX8_becomesTarget_15 (by decide) (fun c15 => ?_) (fun c15 => ?_)
      · have hF := ite_t hF c15
        refine g_sub (L' := [(0, .ref (b + p0)), (1, .int a1), (2, .int x2)]) [0, 1, 2] rfl ?_
        exact kX8_becomesTarget_b30 hX hM hW p0 a1 t0 hR (fun h_ z2_ => fX8_becomesTarget_b2 r p0 a1 n h_ z2_) ih h x2 hF
      · have hF := ite_f hF c15
        refine g_aload_n hX dX8_becomesTarget_18 (i := 0) rfl (j := 0) rfl ?_
        have tf19 := (tyF (k := 25) hW t0 (by decide) rfl (by decide) : KM (r p0 25) = 10 ∧ ok (r p0 25))
        refine gf_X8_55 hX dX8_becomesTarget_19 (ty1 hW t0) (hW.1 _ tf19.2).1 ?_
        refine g_iload_n hX dX8_becomesTarget_22 (i := 2) rfl (j := 2) rfl ?_
        obtain ⟨g23, hF⟩ := gd_some hF
        refine g_bald hX dX8_becomesTarget_23 tf19.1 (hW.1 _ tf19.2).1 (hW.1 _ tf19.2).2 g23 ?_
        refine g_if_eq (tgt := 30) hX dX8_becomesTarget_24 (by decide) (fun c24 => ?_) (fun c24 => ?_)
        · have hF := ite_t hF c24
          refine g_sub (L' := [(0, .ref (b + p0)), (1, .int a1), (2, .int x2)]) [0, 1, 2] rfl ?_
          exact kX8_becomesTarget_b30 hX hM hW p0 a1 t0 hR (fun h_ z2_ => fX8_becomesTarget_b2 r p0 a1 n h_ z2_) ih h x2 hF
        · have hF := ite_f hF c24
          refine g_goto (tgt := 77) hX dX8_becomesTarget_27 (by decide) ?_
          refine g_sub (L' := [(0, .ref (b + p0)), (1, .int a1), (2, .int x2)]) [0, 1, 2] rfl ?_
          exact kX8_becomesTarget_b77 hX hM hW p0 a1 t0 hR (fun h_ z2_ => fX8_becomesTarget_b2 r p0 a1 n h_ z2_) ih h x2 hF
set_option maxRecDepth 100000 in
set_option maxHeartbeats 4000000 in
theorem kX8_becomesTarget {X : XT} {b N sz : Nat} {ok : Nat → Prop} {h : HH} {r : RR} {w : HH} (hX : XOK X RX8 cX8_becomesTarget 3 2) (hM : N ≤ MM) (hW : WT KM lnM ok N r) (p0 : Nat) (a1 : Int32) (t0 : KM p0 = 8 ∧ ok p0) (hR : XR X b KM lnM MM (none) 0 0 N sz none w r) (hF : fX8_becomesTarget h r p0 a1 = some w) : GX X b KM lnM MM 3 0 0 N sz 0 [(0, .ref (b + p0)), (1, .int a1)] [] h r := by
  rw [fX8_becomesTarget] at hF
  refine g_iconst (v := 0) hX dX8_becomesTarget_0 (by decide) ?_
  refine g_istore_n (L' := [(2, .int 0), (0, .ref (b + p0)), (1, .int a1)]) hX dX8_becomesTarget_1 (i := 2) rfl (by decide) rfl ?_
  refine g_sub (L' := [(0, .ref (b + p0)), (1, .int a1), (2, .int 0)]) [1, 2, 0] rfl ?_
  exact kX8_becomesTarget_b2 hX hM hW p0 a1 t0 hR lpF h 0 hF
theorem ctX8_becomesTarget {b N sz : Nat} {ok : Nat → Prop} {h : HH} {r : RR} {w : HH} (hM : N ≤ MM) (hW : WT KM lnM ok N r) (p0 : Nat) (a1 : Int32) (t0 : KM p0 = 8 ∧ ok p0) (hF : fX8_becomesTarget h r p0 a1 = some w) : CT yX8_becomesTarget cX8_becomesTarget 3 (none) 2 b KM lnM MM N sz [.ref (b + p0), .int a1] h r N sz none w r 0 0 :=
  CT_of (by decide) rfl (Nat.le_of_ble_eq_true rfl) (by decide) trivial (fun X hX hR => kX8_becomesTarget hX hM hW p0 a1 t0 hR hF)
/-! X8_leavesIgnored -/
def fX8_leavesIgnored_b77 (r : RR) (p0 : Nat) (k2 : HH → Int32 → Option (HH)) (k10 : HH → Int32 → Int32 → Option (HH)) (h : HH) (x1 : Int32) (x2 : Int32) : Option (HH) := k10 h x1 (x2 + 1)
def fX8_leavesIgnored_b10 (r : RR) (p0 : Nat) (k2 : HH → Int32 → Option (HH)) : Nat → HH → Int32 → Int32 → Option (HH)
  | 0, _, _, _ => none
  | n + 1, h, x1, x2 => if (h p0 0) ≤ x2 then (k2 h x1) else (gd (inb 2 (lnM (r p0 4))) (gd (inb x2 (lnM (r (r p0 4) (ix 2)))) (lt (h (r (r p0 4) (ix 2)) (ix x2)) (fun y26 => gd (inb x2 (lnM (r p0 25))) (if (h (r p0 25) (ix x2)) = 0 then (fX8_leavesIgnored_b77 r p0 k2 (fun h_ z1_ z2_ => fX8_leavesIgnored_b10 r p0 k2 n h_ z1_ z2_) h x1 x2) else (gd (inb 2 (lnM (r p0 3))) (gd (inb x2 (lnM (r (r p0 3) (ix 2)))) (if (h (r (r p0 3) (ix 2)) (ix x2)) = 0 then (fX8_leavesIgnored_b77 r p0 k2 (fun h_ z1_ z2_ => fX8_leavesIgnored_b10 r p0 k2 n h_ z1_ z2_) h x1 x2) else (if y26 = (-1) then (fX8_leavesIgnored_b77 r p0 k2 (fun h_ z1_ z2_ => fX8_leavesIgnored_b10 r p0 k2 n h_ z1_ z2_) h x1 x2) else (gd (inb 2 (lnM (r p0 3))) (gd (inb y26 (lnM (r (r p0 3) (ix 2)))) (if (h (r (r p0 3) (ix 2)) (ix y26)) = 0 then (gd (inb 2 (lnM (r p0 3))) (gd (inb x2 (lnM (r (r p0 3) (ix 2)))) (lt (up h (r (r p0 3) (ix 2)) (ix x2) (zn 0)) (fun h74 => fX8_leavesIgnored_b77 r p0 k2 (fun h_ z1_ z2_ => fX8_leavesIgnored_b10 r p0 k2 n h_ z1_ z2_) h74 1 x2)))) else (fX8_leavesIgnored_b77 r p0 k2 (fun h_ z1_ z2_ => fX8_leavesIgnored_b10 r p0 k2 n h_ z1_ z2_) h x1 x2)))))))))))))
def fX8_leavesIgnored_b2 (r : RR) (p0 : Nat) : Nat → HH → Int32 → Option (HH)
  | 0, _, _ => none
  | n + 1, h, x1 => if x1 = 0 then (some h) else (fX8_leavesIgnored_b10 r p0 (fun h_ z1_ => fX8_leavesIgnored_b2 r p0 n h_ z1_) lpF h 0 0)
def fX8_leavesIgnored (h : HH) (r : RR) (p0 : Nat) : Option (HH) := fX8_leavesIgnored_b2 r p0 lpF h 1
set_option maxRecDepth 100000 in
set_option maxHeartbeats 4000000 in
theorem kX8_leavesIgnored_b77 {X : XT} {b N sz : Nat} {ok : Nat → Prop} {r : RR} {w : HH} (hX : XOK X RX8 cX8_leavesIgnored 4 1) (hM : N ≤ MM) (hW : WT KM lnM ok N r) (p0 : Nat) (t0 : KM p0 = 8 ∧ ok p0) (hR : XR X b KM lnM MM (none) 0 0 N sz none w r) (k2 : HH → Int32 → Option (HH)) (hk2 : ∀ (h : HH) (x1 : Int32), k2 h x1 = some w → GX X b KM lnM MM 4 0 0 N sz 2 [(0, .ref (b + p0)), (1, .int x1)] [] h r) (k10 : HH → Int32 → Int32 → Option (HH)) (hk10 : ∀ (h : HH) (x1 : Int32) (x2 : Int32), k10 h x1 x2 = some w → GX X b KM lnM MM 4 0 0 N sz 10 [(0, .ref (b + p0)), (1, .int x1), (2, .int x2)] [] h r) (h : HH) (x1 : Int32) (x2 : Int32) (hF : fX8_leavesIgnored_b77 r p0 k2 k10 h x1 x2 = some w) : GX X b KM lnM MM 4 0 0 N sz 77 [(0, .ref (b + p0)), (1, .int x1), (2, .int x2)] [] h r := by
  rw [fX8_leavesIgnored_b77] at hF
  refine g_iinc (L' := [(2, .int (x2 + 1)), (0, .ref (b + p0)), (1, .int x1)]) (j := 2) hX dX8_leavesIgnored_77 rfl rfl (by decide) rfl ?_
  refine g_goto (tgt := 10) hX dX8_leavesIgnored_80 (by decide) ?_
  refine g_sub (L' := [(0, .ref (b + p0)), (1, .int x1), (2, .int (x2 + 1))]) [1, 2, 0] rfl ?_
  exact hk10 h x1 (x2 + 1) hF
set_option maxRecDepth 100000 in
set_option maxHeartbeats 4000000 in
theorem kX8_leavesIgnored_b10 {X : XT} {b N sz : Nat} {ok : Nat → Prop} {r : RR} {w : HH} (hX : XOK X RX8 cX8_leavesIgnored 4 1) (hM : N ≤ MM) (hW : WT KM lnM ok N r) (p0 : Nat) (t0 : KM p0 = 8 ∧ ok p0) (hR : XR X b KM lnM MM (none) 0 0 N sz none w r) (k2 : HH → Int32 → Option (HH)) (hk2 : ∀ (h : HH) (x1 : Int32), k2 h x1 = some w → GX X b KM lnM MM 4 0 0 N sz 2 [(0, .ref (b + p0)), (1, .int x1)] [] h r) : ∀ (n : Nat) (h : HH) (x1 : Int32) (x2 : Int32), fX8_leavesIgnored_b10 r p0 k2 n h x1 x2 = some w → GX X b KM lnM MM 4 0 0 N sz 10 [(0, .ref (b + p0)), (1, .int x1), (2, .int x2)] [] h r := by
  intro n
  induction n with
  | zero =>
    intro h x1 x2 hF
    cases hF
  | succ n ih =>
    intro h x1 x2 hF
    rw [fX8_leavesIgnored_b10] at hF
    refine g_iload_n hX dX8_leavesIgnored_10 (i := 2) rfl (j := 2) rfl ?_
    refine g_aload_n hX dX8_leavesIgnored_11 (i := 0) rfl (j := 0) rfl ?_
    refine gf_X8_130 hX dX8_leavesIgnored_12 (ty1 hW t0) ?_
    refine g_icmp_ge (tgt := 83) hX dX8_leavesIgnored_15 (by decide) (fun c15 => ?_) (fun c15 => ?_)
    · have hF := ite_t hF c15
      refine g_goto (tgt := 2) hX dX8_leavesIgnored_83 (by decide) ?_
      refine g_sub (L' := [(0, .ref (b + p0)), (1, .int x1)]) [0, 1] rfl ?_
      exact hk2 h x1 hF
    · have hF := ite_f hF c15
      refine g_aload_n hX dX8_leavesIgnored_18 (i := 0) rfl (j := 0) rfl ?_
      have tf19 := (tyF (k := 4) hW t0 (by decide) rfl (by decide) : KM (r p0 4) = 14 ∧ ok (r p0 4))
      refine gf_X8_20 hX dX8_leavesIgnored_19 (ty1 hW t0) (hW.1 _ tf19.2).1 ?_
      refine g_iconst (v := 2) hX dX8_leavesIgnored_22 (by decide) ?_
      obtain ⟨g23, hF⟩ := gd_some hF
      have ta23 : KM (r (r p0 4) (ix 2)) = 9 ∧ ok (r (r p0 4) (ix 2)) := tyA hW tf19 (by decide) rfl (by decide) g23
      refine g_aald hX dX8_leavesIgnored_23 tf19.1 (by decide) (by decide) (hW.1 _ tf19.2).1 (hW.1 _ tf19.2).2 g23 (hW.1 _ ta23.2).1 ?_
      refine g_iload_n hX dX8_leavesIgnored_24 (i := 2) rfl (j := 2) rfl ?_
      obtain ⟨g25, hF⟩ := gd_some hF
      refine g_iald hX dX8_leavesIgnored_25 ta23.1 (hW.1 _ ta23.2).1 (hW.1 _ ta23.2).2 g25 ?_
      obtain ⟨y26, e26, hF⟩ := lt_some hF
      refine g_topi e26 ?_
      refine g_istore_n (L' := [(3, .int y26), (0, .ref (b + p0)), (1, .int x1), (2, .int x2)]) hX dX8_leavesIgnored_26 (i := 3) rfl (by decide) rfl ?_
      refine g_aload_n hX dX8_leavesIgnored_27 (i := 0) rfl (j := 1) rfl ?_
      have tf28 := (tyF (k := 25) hW t0 (by decide) rfl (by decide) : KM (r p0 25) = 10 ∧ ok (r p0 25))
      refine gf_X8_55 hX dX8_leavesIgnored_28 (ty1 hW t0) (hW.1 _ tf28.2).1 ?_
      refine g_iload_n hX dX8_leavesIgnored_31 (i := 2) rfl (j := 3) rfl ?_
      obtain ⟨g32, hF⟩ := gd_some hF
      refine g_bald hX dX8_leavesIgnored_32 tf28.1 (hW.1 _ tf28.2).1 (hW.1 _ tf28.2).2 g32 ?_
      refine g_if_eq (tgt := 77) hX dX8_leavesIgnored_33 (by decide) (fun c33 => ?_) (fun c33 => ?_)
      · have hF := ite_t hF c33
        refine g_sub (L' := [(0, .ref (b + p0)), (1, .int x1), (2, .int x2)]) [1, 2, 3] rfl ?_
        exact kX8_leavesIgnored_b77 hX hM hW p0 t0 hR k2 hk2 (fun h_ z1_ z2_ => fX8_leavesIgnored_b10 r p0 k2 n h_ z1_ z2_) ih h x1 x2 hF
      · have hF := ite_f hF c33
        refine g_aload_n hX dX8_leavesIgnored_36 (i := 0) rfl (j := 1) rfl ?_
        have tf37 := (tyF (k := 3) hW t0 (by decide) rfl (by decide) : KM (r p0 3) = 15 ∧ ok (r p0 3))
        refine gf_X8_15 hX dX8_leavesIgnored_37 (ty1 hW t0) (hW.1 _ tf37.2).1 ?_
        refine g_iconst (v := 2) hX dX8_leavesIgnored_40 (by decide) ?_
        obtain ⟨g41, hF⟩ := gd_some hF
        have ta41 : KM (r (r p0 3) (ix 2)) = 10 ∧ ok (r (r p0 3) (ix 2)) := tyA hW tf37 (by decide) rfl (by decide) g41
        refine g_aald hX dX8_leavesIgnored_41 tf37.1 (by decide) (by decide) (hW.1 _ tf37.2).1 (hW.1 _ tf37.2).2 g41 (hW.1 _ ta41.2).1 ?_
        refine g_iload_n hX dX8_leavesIgnored_42 (i := 2) rfl (j := 3) rfl ?_
        obtain ⟨g43, hF⟩ := gd_some hF
        refine g_bald hX dX8_leavesIgnored_43 ta41.1 (hW.1 _ ta41.2).1 (hW.1 _ ta41.2).2 g43 ?_
        refine g_if_eq (tgt := 77) hX dX8_leavesIgnored_44 (by decide) (fun c44 => ?_) (fun c44 => ?_)
        · have hF := ite_t hF c44
          refine g_sub (L' := [(0, .ref (b + p0)), (1, .int x1), (2, .int x2)]) [1, 2, 3] rfl ?_
          exact kX8_leavesIgnored_b77 hX hM hW p0 t0 hR k2 hk2 (fun h_ z1_ z2_ => fX8_leavesIgnored_b10 r p0 k2 n h_ z1_ z2_) ih h x1 x2 hF
        · have hF := ite_f hF c44
          refine g_iload_n hX dX8_leavesIgnored_47 (i := 3) rfl (j := 0) rfl ?_
          refine g_iconst (v := (-1)) hX dX8_leavesIgnored_48 (by decide) ?_
          refine g_icmp_eq (tgt := 77) hX dX8_leavesIgnored_49 (by decide) (fun c49 => ?_) (fun c49 => ?_)
          · have hF := ite_t hF c49
            refine g_sub (L' := [(0, .ref (b + p0)), (1, .int x1), (2, .int x2)]) [1, 2, 3] rfl ?_
            exact kX8_leavesIgnored_b77 hX hM hW p0 t0 hR k2 hk2 (fun h_ z1_ z2_ => fX8_leavesIgnored_b10 r p0 k2 n h_ z1_ z2_) ih h x1 x2 hF
          · have hF := ite_f hF c49
            refine g_aload_n hX dX8_leavesIgnored_52 (i := 0) rfl (j := 1) rfl ?_
            have tf53 := (tyF (k := 3) hW t0 (by decide) rfl (by decide) : KM (r p0 3) = 15 ∧ ok (r p0 3))
            refine gf_X8_15 hX dX8_leavesIgnored_53 (ty1 hW t0) (hW.1 _ tf53.2).1 ?_
            refine g_iconst (v := 2) hX dX8_leavesIgnored_56 (by decide) ?_
            obtain ⟨g57, hF⟩ := gd_some hF
            have ta57 : KM (r (r p0 3) (ix 2)) = 10 ∧ ok (r (r p0 3) (ix 2)) := tyA hW tf53 (by decide) rfl (by decide) g57
            refine g_aald hX dX8_leavesIgnored_57 tf53.1 (by decide) (by decide) (hW.1 _ tf53.2).1 (hW.1 _ tf53.2).2 g57 (hW.1 _ ta57.2).1 ?_
            refine g_iload_n hX dX8_leavesIgnored_58 (i := 3) rfl (j := 0) rfl ?_
            obtain ⟨g59, hF⟩ := gd_some hF
            refine g_bald hX dX8_leavesIgnored_59 ta57.1 (hW.1 _ ta57.2).1 (hW.1 _ ta57.2).2 g59 ?_
            refine g_if_eq (tgt := 66) hX dX8_leavesIgnored_60 (by decide) (fun c60 => ?_) (fun c60 => ?_)
            · have hF := ite_t hF c60
              refine g_aload_n hX dX8_leavesIgnored_66 (i := 0) rfl (j := 1) rfl ?_
              have tf67 := (tyF (k := 3) hW t0 (by decide) rfl (by decide) : KM (r p0 3) = 15 ∧ ok (r p0 3))
              refine gf_X8_15 hX dX8_leavesIgnored_67 (ty1 hW t0) (hW.1 _ tf67.2).1 ?_
              refine g_iconst (v := 2) hX dX8_leavesIgnored_70 (by decide) ?_
              obtain ⟨g71, hF⟩ := gd_some hF
              have ta71 : KM (r (r p0 3) (ix 2)) = 10 ∧ ok (r (r p0 3) (ix 2)) := tyA hW tf67 (by decide) rfl (by decide) g71
              refine g_aald hX dX8_leavesIgnored_71 tf67.1 (by decide) (by decide) (hW.1 _ tf67.2).1 (hW.1 _ tf67.2).2 g71 (hW.1 _ ta71.2).1 ?_
              refine g_iload_n hX dX8_leavesIgnored_72 (i := 2) rfl (j := 3) rfl ?_
              refine g_iconst (v := 0) hX dX8_leavesIgnored_73 (by decide) ?_
              obtain ⟨g74, hF⟩ := gd_some hF
              obtain ⟨h74, e74, hF⟩ := lt_some hF
              refine g_bast hX dX8_leavesIgnored_74 ta71.1 (hW.1 _ ta71.2).1 (hW.1 _ ta71.2).2 hM g74 e74 ?_
              refine g_iconst (v := 1) hX dX8_leavesIgnored_75 (by decide) ?_
              refine g_istore_n (L' := [(1, .int 1), (3, .int y26), (0, .ref (b + p0)), (2, .int x2)]) hX dX8_leavesIgnored_76 (i := 1) rfl (by decide) rfl ?_
              refine g_sub (L' := [(0, .ref (b + p0)), (1, .int 1), (2, .int x2)]) [2, 0, 3] rfl ?_
              exact kX8_leavesIgnored_b77 hX hM hW p0 t0 hR k2 hk2 (fun h_ z1_ z2_ => fX8_leavesIgnored_b10 r p0 k2 n h_ z1_ z2_) ih h74 1 x2 hF
            · have hF := ite_f hF c60
              refine g_goto (tgt := 77) hX dX8_leavesIgnored_63 (by decide) ?_
              refine g_sub (L' := [(0, .ref (b + p0)), (1, .int x1), (2, .int x2)]) [1, 2, 3] rfl ?_
              exact kX8_leavesIgnored_b77 hX hM hW p0 t0 hR k2 hk2 (fun h_ z1_ z2_ => fX8_leavesIgnored_b10 r p0 k2 n h_ z1_ z2_) ih h x1 x2 hF
set_option maxRecDepth 100000 in
set_option maxHeartbeats 4000000 in
theorem kX8_leavesIgnored_b2 {X : XT} {b N sz : Nat} {ok : Nat → Prop} {r : RR} {w : HH} (hX : XOK X RX8 cX8_leavesIgnored 4 1) (hM : N ≤ MM) (hW : WT KM lnM ok N r) (p0 : Nat) (t0 : KM p0 = 8 ∧ ok p0) (hR : XR X b KM lnM MM (none) 0 0 N sz none w r) : ∀ (n : Nat) (h : HH) (x1 : Int32), fX8_leavesIgnored_b2 r p0 n h x1 = some w → GX X b KM lnM MM 4 0 0 N sz 2 [(0, .ref (b + p0)), (1, .int x1)] [] h r := by
  intro n
  induction n with
  | zero =>
    intro h x1 hF
    cases hF
  | succ n ih =>
    intro h x1 hF
    rw [fX8_leavesIgnored_b2] at hF
    refine g_iload_n hX dX8_leavesIgnored_2 (i := 1) rfl (j := 1) rfl ?_
    refine g_if_eq (tgt := 86) hX dX8_leavesIgnored_3 (by decide) (fun c3 => ?_) (fun c3 => ?_)
    · have hF := ite_t hF c3
      obtain rfl := Option.some.inj hF
      exact g_vret hX dX8_leavesIgnored_86 hR
    · have hF := ite_f hF c3
      refine g_iconst (v := 0) hX dX8_leavesIgnored_6 (by decide) ?_
      refine g_istore_n (L' := [(1, .int 0), (0, .ref (b + p0))]) hX dX8_leavesIgnored_7 (i := 1) rfl (by decide) rfl ?_
      refine g_iconst (v := 0) hX dX8_leavesIgnored_8 (by decide) ?_
      refine g_istore_n (L' := [(2, .int 0), (1, .int 0), (0, .ref (b + p0))]) hX dX8_leavesIgnored_9 (i := 2) rfl (by decide) rfl ?_
      refine g_sub (L' := [(0, .ref (b + p0)), (1, .int 0), (2, .int 0)]) [2, 1, 0] rfl ?_
      exact kX8_leavesIgnored_b10 hX hM hW p0 t0 hR (fun h_ z1_ => fX8_leavesIgnored_b2 r p0 n h_ z1_) ih lpF h 0 0 hF
set_option maxRecDepth 100000 in
set_option maxHeartbeats 4000000 in
theorem kX8_leavesIgnored {X : XT} {b N sz : Nat} {ok : Nat → Prop} {h : HH} {r : RR} {w : HH} (hX : XOK X RX8 cX8_leavesIgnored 4 1) (hM : N ≤ MM) (hW : WT KM lnM ok N r) (p0 : Nat) (t0 : KM p0 = 8 ∧ ok p0) (hR : XR X b KM lnM MM (none) 0 0 N sz none w r) (hF : fX8_leavesIgnored h r p0 = some w) : GX X b KM lnM MM 4 0 0 N sz 0 [(0, .ref (b + p0))] [] h r := by
  rw [fX8_leavesIgnored] at hF
  refine g_iconst (v := 1) hX dX8_leavesIgnored_0 (by decide) ?_
  refine g_istore_n (L' := [(1, .int 1), (0, .ref (b + p0))]) hX dX8_leavesIgnored_1 (i := 1) rfl (by decide) rfl ?_
  refine g_sub (L' := [(0, .ref (b + p0)), (1, .int 1)]) [1, 0] rfl ?_
  exact kX8_leavesIgnored_b2 hX hM hW p0 t0 hR lpF h 1 hF
theorem ctX8_leavesIgnored {b N sz : Nat} {ok : Nat → Prop} {h : HH} {r : RR} {w : HH} (hM : N ≤ MM) (hW : WT KM lnM ok N r) (p0 : Nat) (t0 : KM p0 = 8 ∧ ok p0) (hF : fX8_leavesIgnored h r p0 = some w) : CT yX8_leavesIgnored cX8_leavesIgnored 4 (none) 1 b KM lnM MM N sz [.ref (b + p0)] h r N sz none w r 0 0 :=
  CT_of (by decide) rfl (Nat.le_of_ble_eq_true rfl) (by decide) trivial (fun X hX hR => kX8_leavesIgnored hX hM hW p0 t0 hR hF)
/-! X8_sync -/
def fX8_sync_b57 (r : RR) (p0 : Nat) : Nat → HH → Int32 → Int32 → Option (Int32 × HH)
  | 0, _, _, _ => none
  | n + 1, h, x1, x2 => if (h p0 27) ≤ x2 then (lt (up h p0 0 (h p0 27)) (fun h83 => some (x1, h83))) else (gd (inb x2 (lnM (r p0 2))) (lt (up h (r p0 2) (ix x2) (zn 0)) (fun h71 => fX8_sync_b57 r p0 n h71 x1 (x2 + 1))))
def fX8_sync_b32 (r : RR) (p0 : Nat) : Nat → HH → Int32 → Int32 → Option (Int32 × HH)
  | 0, _, _, _ => none
  | n + 1, h, x1, x2 => if 3 ≤ x2 then ((fX8_leavesIgnored h r p0).bind (fun h49 => lt (h49 p0 0) (fun y56 => fX8_sync_b57 r p0 lpF h49 x1 y56))) else ((fX8_becomesTarget h r p0 x2).bind (fun h39 => fX8_sync_b32 r p0 n h39 x1 (x2 + 1)))
def fX8_sync (h : HH) (r : RR) (p0 : Nat) : Option (Int32 × HH) := (fX8_tellTarget h r p0 (h p0 1)).bind (fun h5 => (fX8_tellPlan h5 r p0 0).bind (fun h10 => lt (h10 p0 35) (fun y17 => (fX8_tellPlan h10 r p0 1).bind (fun h20 => lt (y17 + (h20 p0 35)) (fun y29 => fX8_sync_b32 r p0 lpF h20 y29 0)))))
set_option maxRecDepth 100000 in
set_option maxHeartbeats 4000000 in
theorem kX8_sync_b57 {X : XT} {b N sz : Nat} {ok : Nat → Prop} {r : RR} {w : Int32 × HH} (hX : XOK X RX8 cX8_sync 3 6) (hM : N ≤ MM) (hW : WT KM lnM ok N r) (p0 : Nat) (t0 : KM p0 = 8 ∧ ok p0) (hR : XR X b KM lnM MM (some FieldType.int) 0 0 N sz (some (.int w.1)) w.2 r) : ∀ (n : Nat) (h : HH) (x1 : Int32) (x2 : Int32), fX8_sync_b57 r p0 n h x1 x2 = some w → GX X b KM lnM MM 3 0 0 N sz 57 [(0, .ref (b + p0)), (1, .int x1), (2, .int x2)] [] h r := by
  intro n
  induction n with
  | zero =>
    intro h x1 x2 hF
    cases hF
  | succ n ih =>
    intro h x1 x2 hF
    rw [fX8_sync_b57] at hF
    refine g_iload_n hX dX8_sync_57 (i := 2) rfl (j := 2) rfl ?_
    refine g_aload_n hX dX8_sync_58 (i := 0) rfl (j := 0) rfl ?_
    refine gf_X8_260 hX dX8_sync_59 (ty1 hW t0) ?_
    refine g_icmp_ge (tgt := 78) hX dX8_sync_62 (by decide) (fun c62 => ?_) (fun c62 => ?_)
    · have hF := ite_t hF c62
      refine g_aload_n hX dX8_sync_78 (i := 0) rfl (j := 0) rfl ?_
      refine g_aload_n hX dX8_sync_79 (i := 0) rfl (j := 0) rfl ?_
      refine gf_X8_260 hX dX8_sync_80 (ty1 hW t0) ?_
      obtain ⟨h83, e83, hF⟩ := lt_some hF
      refine pf_X8_130 hX dX8_sync_83 (ty1 hW t0) hM e83 ?_
      refine g_iload_n hX dX8_sync_86 (i := 1) rfl (j := 1) rfl ?_
      obtain rfl := Option.some.inj hF
      exact g_iret hX dX8_sync_87 hR
    · have hF := ite_f hF c62
      refine g_aload_n hX dX8_sync_65 (i := 0) rfl (j := 0) rfl ?_
      have tf66 := (tyF (k := 2) hW t0 (by decide) rfl (by decide) : KM (r p0 2) = 10 ∧ ok (r p0 2))
      refine gf_X8_9 hX dX8_sync_66 (ty1 hW t0) (hW.1 _ tf66.2).1 ?_
      refine g_iload_n hX dX8_sync_69 (i := 2) rfl (j := 2) rfl ?_
      refine g_iconst (v := 0) hX dX8_sync_70 (by decide) ?_
      obtain ⟨g71, hF⟩ := gd_some hF
      obtain ⟨h71, e71, hF⟩ := lt_some hF
      refine g_bast hX dX8_sync_71 tf66.1 (hW.1 _ tf66.2).1 (hW.1 _ tf66.2).2 hM g71 e71 ?_
      refine g_iinc (L' := [(2, .int (x2 + 1)), (0, .ref (b + p0)), (1, .int x1)]) (j := 2) hX dX8_sync_72 rfl rfl (by decide) rfl ?_
      refine g_goto (tgt := 57) hX dX8_sync_75 (by decide) ?_
      refine g_sub (L' := [(0, .ref (b + p0)), (1, .int x1), (2, .int (x2 + 1))]) [1, 2, 0] rfl ?_
      exact ih h71 x1 (x2 + 1) hF
set_option maxRecDepth 100000 in
set_option maxHeartbeats 4000000 in
theorem kX8_sync_b32 {X : XT} {b N sz : Nat} {ok : Nat → Prop} {r : RR} {w : Int32 × HH} (hX : XOK X RX8 cX8_sync 3 6) (hM : N ≤ MM) (hW : WT KM lnM ok N r) (p0 : Nat) (t0 : KM p0 = 8 ∧ ok p0) (hR : XR X b KM lnM MM (some FieldType.int) 0 0 N sz (some (.int w.1)) w.2 r) : ∀ (n : Nat) (h : HH) (x1 : Int32) (x2 : Int32), fX8_sync_b32 r p0 n h x1 x2 = some w → GX X b KM lnM MM 3 0 0 N sz 32 [(0, .ref (b + p0)), (1, .int x1), (2, .int x2)] [] h r := by
  intro n
  induction n with
  | zero =>
    intro h x1 x2 hF
    cases hF
  | succ n ih =>
    intro h x1 x2 hF
    rw [fX8_sync_b32] at hF
    refine g_iload_n hX dX8_sync_32 (i := 2) rfl (j := 2) rfl ?_
    refine g_iconst (v := 3) hX dX8_sync_33 (by decide) ?_
    refine g_icmp_ge (tgt := 48) hX dX8_sync_34 (by decide) (fun c34 => ?_) (fun c34 => ?_)
    · have hF := ite_t hF c34
      refine g_aload_n hX dX8_sync_48 (i := 0) rfl (j := 0) rfl ?_
      obtain ⟨h49, e49, hF⟩ := bi_some hF
      refine g_callV (As := []) (rest := []) (stk := []) hX dX8_sync_49 (ctX8_leavesIgnored hM hW p0 t0 e49) (by decide) (by decide) wm_X8_319 wi_X8_leavesIgnored ws_X8_leavesIgnored wz_X8 wc_X8_leavesIgnored hyX8_leavesIgnored rfl (ci := 8) rfl (by decide) t0.1 (hW.1 _ t0.2).1 (hW.1 _ t0.2).2 (Nat.le_of_ble_eq_true rfl) rfl rfl ?_ rfl rfl
      refine g_aload_n hX dX8_sync_52 (i := 0) rfl (j := 0) rfl ?_
      refine gf_X8_130 hX dX8_sync_53 (ty1 hW t0) ?_
      obtain ⟨y56, e56, hF⟩ := lt_some hF
      refine g_topi e56 ?_
      refine g_istore_n (L' := [(2, .int y56), (0, .ref (b + p0)), (1, .int x1)]) hX dX8_sync_56 (i := 2) rfl (by decide) rfl ?_
      refine g_sub (L' := [(0, .ref (b + p0)), (1, .int x1), (2, .int y56)]) [1, 2, 0] rfl ?_
      exact kX8_sync_b57 hX hM hW p0 t0 hR lpF h49 x1 y56 hF
    · have hF := ite_f hF c34
      refine g_aload_n hX dX8_sync_37 (i := 0) rfl (j := 0) rfl ?_
      refine g_iload_n hX dX8_sync_38 (i := 2) rfl (j := 2) rfl ?_
      obtain ⟨h39, e39, hF⟩ := bi_some hF
      refine g_callV (As := [.int x2]) (rest := []) (stk := []) hX dX8_sync_39 (ctX8_becomesTarget hM hW p0 x2 t0 e39) (by decide) (by decide) wm_X8_316 wi_X8_becomesTarget ws_X8_becomesTarget wz_X8 wc_X8_becomesTarget hyX8_becomesTarget rfl (ci := 8) rfl (by decide) t0.1 (hW.1 _ t0.2).1 (hW.1 _ t0.2).2 (Nat.le_of_ble_eq_true rfl) rfl rfl ?_ rfl rfl
      refine g_iinc (L' := [(2, .int (x2 + 1)), (0, .ref (b + p0)), (1, .int x1)]) (j := 2) hX dX8_sync_42 rfl rfl (by decide) rfl ?_
      refine g_goto (tgt := 32) hX dX8_sync_45 (by decide) ?_
      refine g_sub (L' := [(0, .ref (b + p0)), (1, .int x1), (2, .int (x2 + 1))]) [1, 2, 0] rfl ?_
      exact ih h39 x1 (x2 + 1) hF
set_option maxRecDepth 100000 in
set_option maxHeartbeats 4000000 in
theorem kX8_sync {X : XT} {b N sz : Nat} {ok : Nat → Prop} {h : HH} {r : RR} {w : Int32 × HH} (hX : XOK X RX8 cX8_sync 3 6) (hM : N ≤ MM) (hW : WT KM lnM ok N r) (p0 : Nat) (t0 : KM p0 = 8 ∧ ok p0) (hR : XR X b KM lnM MM (some FieldType.int) 0 0 N sz (some (.int w.1)) w.2 r) (hF : fX8_sync h r p0 = some w) : GX X b KM lnM MM 3 0 0 N sz 0 [(0, .ref (b + p0))] [] h r := by
  rw [fX8_sync] at hF
  refine g_aload_n hX dX8_sync_0 (i := 0) rfl (j := 0) rfl ?_
  refine g_aload_n hX dX8_sync_1 (i := 0) rfl (j := 0) rfl ?_
  refine gf_X8_288 hX dX8_sync_2 (ty1 hW t0) ?_
  obtain ⟨h5, e5, hF⟩ := bi_some hF
  refine g_callV (As := [.int (h p0 1)]) (rest := []) (stk := []) hX dX8_sync_5 (ctX8_tellTarget hM hW p0 (h p0 1) t0 e5) (by decide) (by decide) wm_X8_291 wi_X8_tellTarget ws_X8_tellTarget wz_X8 wc_X8_tellTarget hyX8_tellTarget rfl (ci := 8) rfl (by decide) t0.1 (hW.1 _ t0.2).1 (hW.1 _ t0.2).2 (Nat.le_of_ble_eq_true rfl) rfl rfl ?_ rfl rfl
  refine g_aload_n hX dX8_sync_8 (i := 0) rfl (j := 0) rfl ?_
  refine g_iconst (v := 0) hX dX8_sync_9 (by decide) ?_
  obtain ⟨h10, e10, hF⟩ := bi_some hF
  refine g_callV (As := [.int 0]) (rest := []) (stk := []) hX dX8_sync_10 (ctX8_tellPlan hM hW p0 0 t0 e10) (by decide) (by decide) wm_X8_309 wi_X8_tellPlan ws_X8_tellPlan wz_X8 wc_X8_tellPlan hyX8_tellPlan rfl (ci := 8) rfl (by decide) t0.1 (hW.1 _ t0.2).1 (hW.1 _ t0.2).2 (Nat.le_of_ble_eq_true rfl) rfl rfl ?_ rfl rfl
  refine g_aload_n hX dX8_sync_13 (i := 0) rfl (j := 0) rfl ?_
  refine gf_X8_297 hX dX8_sync_14 (ty1 hW t0) ?_
  obtain ⟨y17, e17, hF⟩ := lt_some hF
  refine g_topi e17 ?_
  refine g_istore_n (L' := [(1, .int y17), (0, .ref (b + p0))]) hX dX8_sync_17 (i := 1) rfl (by decide) rfl ?_
  refine g_aload_n hX dX8_sync_18 (i := 0) rfl (j := 1) rfl ?_
  refine g_iconst (v := 1) hX dX8_sync_19 (by decide) ?_
  obtain ⟨h20, e20, hF⟩ := bi_some hF
  refine g_callV (As := [.int 1]) (rest := []) (stk := []) hX dX8_sync_20 (ctX8_tellPlan hM hW p0 1 t0 e20) (by decide) (by decide) wm_X8_309 wi_X8_tellPlan ws_X8_tellPlan wz_X8 wc_X8_tellPlan hyX8_tellPlan rfl (ci := 8) rfl (by decide) t0.1 (hW.1 _ t0.2).1 (hW.1 _ t0.2).2 (Nat.le_of_ble_eq_true rfl) rfl rfl ?_ rfl rfl
  refine g_iload_n hX dX8_sync_23 (i := 1) rfl (j := 0) rfl ?_
  refine g_aload_n hX dX8_sync_24 (i := 0) rfl (j := 1) rfl ?_
  refine gf_X8_297 hX dX8_sync_25 (ty1 hW t0) ?_
  refine g_iadd hX dX8_sync_28 ?_
  obtain ⟨y29, e29, hF⟩ := lt_some hF
  refine g_topi e29 ?_
  refine g_istore_n (L' := [(1, .int y29), (0, .ref (b + p0))]) hX dX8_sync_29 (i := 1) rfl (by decide) rfl ?_
  refine g_iconst (v := 0) hX dX8_sync_30 (by decide) ?_
  refine g_istore_n (L' := [(2, .int 0), (1, .int y29), (0, .ref (b + p0))]) hX dX8_sync_31 (i := 2) rfl (by decide) rfl ?_
  refine g_sub (L' := [(0, .ref (b + p0)), (1, .int y29), (2, .int 0)]) [2, 1, 0] rfl ?_
  exact kX8_sync_b32 hX hM hW p0 t0 hR lpF h20 y29 0 hF
theorem ctX8_sync {b N sz : Nat} {ok : Nat → Prop} {h : HH} {r : RR} {w : Int32 × HH} (hM : N ≤ MM) (hW : WT KM lnM ok N r) (p0 : Nat) (t0 : KM p0 = 8 ∧ ok p0) (hF : fX8_sync h r p0 = some w) : CT yX8_sync cX8_sync 3 (some FieldType.int) 6 b KM lnM MM N sz [.ref (b + p0)] h r N sz (some (.int w.1)) w.2 r 0 0 :=
  CT_of (by decide) rfl (Nat.le_of_ble_eq_true rfl) (by decide) trivial (fun X hX hR => kX8_sync hX hM hW p0 t0 hR hF)
