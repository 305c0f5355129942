/-! X8_keep -/
def fX8_keep_b2 (r : RR) (p0 : Nat) : Nat → HH → Int32 → Option (HH)
  | 0, _, _ => none
  | n + 1, h, x1 => if 3 ≤ x1 then (some h) else (gd (inb x1 (lnM (r p0 3))) (gd (inb x1 (lnM (r p0 38))) (gd (cpok 0 0 30 (lnM (r (r p0 3) (ix x1))) (lnM (r (r p0 38) (ix x1)))) (lt (cpH h (r (r p0 3) (ix x1)) (r (r p0 38) (ix x1)) (ix 0) (ix 0) (ix 30)) (fun h23 => gd (inb x1 (lnM (r p0 4))) (gd (inb x1 (lnM (r p0 39))) (gd (cpok 0 0 30 (lnM (r (r p0 4) (ix x1))) (lnM (r (r p0 39) (ix x1)))) (lt (cpH h23 (r (r p0 4) (ix x1)) (r (r p0 39) (ix x1)) (ix 0) (ix 0) (ix 30)) (fun h42 => gd (inb x1 (lnM (r p0 5))) (gd (inb x1 (lnM (r p0 40))) (gd (cpok 0 0 30 (lnM (r (r p0 5) (ix x1))) (lnM (r (r p0 40) (ix x1)))) (lt (cpH h42 (r (r p0 5) (ix x1)) (r (r p0 40) (ix x1)) (ix 0) (ix 0) (ix 30)) (fun h61 => gd (inb x1 (lnM (r p0 6))) (gd (inb x1 (lnM (r p0 41))) (gd (cpok 0 0 30 (lnM (r (r p0 6) (ix x1))) (lnM (r (r p0 41) (ix x1)))) (lt (cpH h61 (r (r p0 6) (ix x1)) (r (r p0 41) (ix x1)) (ix 0) (ix 0) (ix 30)) (fun h80 => fX8_keep_b2 r p0 n h80 (x1 + 1))))))))))))))))))
def fX8_keep (h : HH) (r : RR) (p0 : Nat) : Option (HH) := fX8_keep_b2 r p0 lpF h 0
set_option maxRecDepth 100000 in
set_option maxHeartbeats 4000000 in
theorem kX8_keep_b2 {X : XT} {b N sz : Nat} {ok : Nat → Prop} {r : RR} {w : HH} (hX : XOK X RX8 cX8_keep 2 1) (hM : N ≤ MM) (hW : WT KM lnM ok N r) (p0 : Nat) (t0 : KM p0 = 8 ∧ ok p0) (hR : XR X b KM lnM MM (none) 0 0 N sz none w r) : ∀ (n : Nat) (h : HH) (x1 : Int32), fX8_keep_b2 r p0 n h x1 = some w → GX X b KM lnM MM 2 0 0 N sz 2 [(0, .ref (b + p0)), (1, .int x1)] [] h r := by
  intro n
  induction n with
  | zero =>
    intro h x1 hF
    cases hF
  | succ n ih =>
    intro h x1 hF
    rw [fX8_keep_b2] at hF
    refine g_iload_n hX dX8_keep_2 (i := 1) rfl (j := 1) rfl ?_
    refine g_iconst (v := 3) hX dX8_keep_3 (by decide) ?_
    refine g_icmp_ge (tgt := 89) hX dX8_keep_4 (by decide) (fun c4 => ?_) (fun c4 => ?_)
    · have hF := ite_t hF c4
      obtain rfl := Option.some.inj hF
      exact g_vret hX dX8_keep_89 hR
    · have hF := ite_f hF c4
      refine g_aload_n hX dX8_keep_7 (i := 0) rfl (j := 0) rfl ?_
      have tf8 := (tyF (k := 3) hW t0 (by decide) rfl (by decide) : KM (r p0 3) = 15 ∧ ok (r p0 3))
      refine gf_X8_15 hX dX8_keep_8 (ty1 hW t0) (hW.1 _ tf8.2).1 ?_
      refine g_iload_n hX dX8_keep_11 (i := 1) rfl (j := 1) rfl ?_
      obtain ⟨g12, hF⟩ := gd_some hF
      have ta12 : KM (r (r p0 3) (ix x1)) = 10 ∧ ok (r (r p0 3) (ix x1)) := tyA hW tf8 (by decide) rfl (by decide) g12
      refine g_aald hX dX8_keep_12 tf8.1 (by decide) (by decide) (hW.1 _ tf8.2).1 (hW.1 _ tf8.2).2 g12 (hW.1 _ ta12.2).1 ?_
      refine g_iconst (v := 0) hX dX8_keep_13 (by decide) ?_
      refine g_aload_n hX dX8_keep_14 (i := 0) rfl (j := 0) rfl ?_
      have tf15 := (tyF (k := 38) hW t0 (by decide) rfl (by decide) : KM (r p0 38) = 15 ∧ ok (r p0 38))
      refine gf_X8_85 hX dX8_keep_15 (ty1 hW t0) (hW.1 _ tf15.2).1 ?_
      refine g_iload_n hX dX8_keep_18 (i := 1) rfl (j := 1) rfl ?_
      obtain ⟨g19, hF⟩ := gd_some hF
      have ta19 : KM (r (r p0 38) (ix x1)) = 10 ∧ ok (r (r p0 38) (ix x1)) := tyA hW tf15 (by decide) rfl (by decide) g19
      refine g_aald hX dX8_keep_19 tf15.1 (by decide) (by decide) (hW.1 _ tf15.2).1 (hW.1 _ tf15.2).2 g19 (hW.1 _ ta19.2).1 ?_
      refine g_iconst (v := 0) hX dX8_keep_20 (by decide) ?_
      refine g_bipush (v := 30) hX dX8_keep_21 (by decide) ?_
      obtain ⟨g23, hF⟩ := gd_some hF
      obtain ⟨h23, e23, hF⟩ := lt_some hF
      refine g_acopy hX dX8_keep_23 wm_X8_322 (ty1 hW ta12) (ty1 hW ta19) (by decide) hM g23 (by decide) (Nat.le_of_ble_eq_true rfl) e23 ?_
      refine g_aload_n hX dX8_keep_26 (i := 0) rfl (j := 0) rfl ?_
      have tf27 := (tyF (k := 4) hW t0 (by decide) rfl (by decide) : KM (r p0 4) = 14 ∧ ok (r p0 4))
      refine gf_X8_20 hX dX8_keep_27 (ty1 hW t0) (hW.1 _ tf27.2).1 ?_
      refine g_iload_n hX dX8_keep_30 (i := 1) rfl (j := 1) rfl ?_
      obtain ⟨g31, hF⟩ := gd_some hF
      have ta31 : KM (r (r p0 4) (ix x1)) = 9 ∧ ok (r (r p0 4) (ix x1)) := tyA hW tf27 (by decide) rfl (by decide) g31
      refine g_aald hX dX8_keep_31 tf27.1 (by decide) (by decide) (hW.1 _ tf27.2).1 (hW.1 _ tf27.2).2 g31 (hW.1 _ ta31.2).1 ?_
      refine g_iconst (v := 0) hX dX8_keep_32 (by decide) ?_
      refine g_aload_n hX dX8_keep_33 (i := 0) rfl (j := 0) rfl ?_
      have tf34 := (tyF (k := 39) hW t0 (by decide) rfl (by decide) : KM (r p0 39) = 14 ∧ ok (r p0 39))
      refine gf_X8_88 hX dX8_keep_34 (ty1 hW t0) (hW.1 _ tf34.2).1 ?_
      refine g_iload_n hX dX8_keep_37 (i := 1) rfl (j := 1) rfl ?_
      obtain ⟨g38, hF⟩ := gd_some hF
      have ta38 : KM (r (r p0 39) (ix x1)) = 9 ∧ ok (r (r p0 39) (ix x1)) := tyA hW tf34 (by decide) rfl (by decide) g38
      refine g_aald hX dX8_keep_38 tf34.1 (by decide) (by decide) (hW.1 _ tf34.2).1 (hW.1 _ tf34.2).2 g38 (hW.1 _ ta38.2).1 ?_
      refine g_iconst (v := 0) hX dX8_keep_39 (by decide) ?_
      refine g_bipush (v := 30) hX dX8_keep_40 (by decide) ?_
      obtain ⟨g42, hF⟩ := gd_some hF
      obtain ⟨h42, e42, hF⟩ := lt_some hF
      refine g_acopy hX dX8_keep_42 wm_X8_322 (ty1 hW ta31) (ty1 hW ta38) (by decide) hM g42 (by decide) (Nat.le_of_ble_eq_true rfl) e42 ?_
      refine g_aload_n hX dX8_keep_45 (i := 0) rfl (j := 0) rfl ?_
      have tf46 := (tyF (k := 5) hW t0 (by decide) rfl (by decide) : KM (r p0 5) = 14 ∧ ok (r p0 5))
      refine gf_X8_23 hX dX8_keep_46 (ty1 hW t0) (hW.1 _ tf46.2).1 ?_
      refine g_iload_n hX dX8_keep_49 (i := 1) rfl (j := 1) rfl ?_
      obtain ⟨g50, hF⟩ := gd_some hF
      have ta50 : KM (r (r p0 5) (ix x1)) = 9 ∧ ok (r (r p0 5) (ix x1)) := tyA hW tf46 (by decide) rfl (by decide) g50
      refine g_aald hX dX8_keep_50 tf46.1 (by decide) (by decide) (hW.1 _ tf46.2).1 (hW.1 _ tf46.2).2 g50 (hW.1 _ ta50.2).1 ?_
      refine g_iconst (v := 0) hX dX8_keep_51 (by decide) ?_
      refine g_aload_n hX dX8_keep_52 (i := 0) rfl (j := 0) rfl ?_
      have tf53 := (tyF (k := 40) hW t0 (by decide) rfl (by decide) : KM (r p0 40) = 14 ∧ ok (r p0 40))
      refine gf_X8_91 hX dX8_keep_53 (ty1 hW t0) (hW.1 _ tf53.2).1 ?_
      refine g_iload_n hX dX8_keep_56 (i := 1) rfl (j := 1) rfl ?_
      obtain ⟨g57, hF⟩ := gd_some hF
      have ta57 : KM (r (r p0 40) (ix x1)) = 9 ∧ ok (r (r p0 40) (ix x1)) := tyA hW tf53 (by decide) rfl (by decide) g57
      refine g_aald hX dX8_keep_57 tf53.1 (by decide) (by decide) (hW.1 _ tf53.2).1 (hW.1 _ tf53.2).2 g57 (hW.1 _ ta57.2).1 ?_
      refine g_iconst (v := 0) hX dX8_keep_58 (by decide) ?_
      refine g_bipush (v := 30) hX dX8_keep_59 (by decide) ?_
      obtain ⟨g61, hF⟩ := gd_some hF
      obtain ⟨h61, e61, hF⟩ := lt_some hF
      refine g_acopy hX dX8_keep_61 wm_X8_322 (ty1 hW ta50) (ty1 hW ta57) (by decide) hM g61 (by decide) (Nat.le_of_ble_eq_true rfl) e61 ?_
      refine g_aload_n hX dX8_keep_64 (i := 0) rfl (j := 0) rfl ?_
      have tf65 := (tyF (k := 6) hW t0 (by decide) rfl (by decide) : KM (r p0 6) = 14 ∧ ok (r p0 6))
      refine gf_X8_26 hX dX8_keep_65 (ty1 hW t0) (hW.1 _ tf65.2).1 ?_
      refine g_iload_n hX dX8_keep_68 (i := 1) rfl (j := 1) rfl ?_
      obtain ⟨g69, hF⟩ := gd_some hF
      have ta69 : KM (r (r p0 6) (ix x1)) = 9 ∧ ok (r (r p0 6) (ix x1)) := tyA hW tf65 (by decide) rfl (by decide) g69
      refine g_aald hX dX8_keep_69 tf65.1 (by decide) (by decide) (hW.1 _ tf65.2).1 (hW.1 _ tf65.2).2 g69 (hW.1 _ ta69.2).1 ?_
      refine g_iconst (v := 0) hX dX8_keep_70 (by decide) ?_
      refine g_aload_n hX dX8_keep_71 (i := 0) rfl (j := 0) rfl ?_
      have tf72 := (tyF (k := 41) hW t0 (by decide) rfl (by decide) : KM (r p0 41) = 14 ∧ ok (r p0 41))
      refine gf_X8_94 hX dX8_keep_72 (ty1 hW t0) (hW.1 _ tf72.2).1 ?_
      refine g_iload_n hX dX8_keep_75 (i := 1) rfl (j := 1) rfl ?_
      obtain ⟨g76, hF⟩ := gd_some hF
      have ta76 : KM (r (r p0 41) (ix x1)) = 9 ∧ ok (r (r p0 41) (ix x1)) := tyA hW tf72 (by decide) rfl (by decide) g76
      refine g_aald hX dX8_keep_76 tf72.1 (by decide) (by decide) (hW.1 _ tf72.2).1 (hW.1 _ tf72.2).2 g76 (hW.1 _ ta76.2).1 ?_
      refine g_iconst (v := 0) hX dX8_keep_77 (by decide) ?_
      refine g_bipush (v := 30) hX dX8_keep_78 (by decide) ?_
      obtain ⟨g80, hF⟩ := gd_some hF
      obtain ⟨h80, e80, hF⟩ := lt_some hF
      refine g_acopy hX dX8_keep_80 wm_X8_322 (ty1 hW ta69) (ty1 hW ta76) (by decide) hM g80 (by decide) (Nat.le_of_ble_eq_true rfl) e80 ?_
      refine g_iinc (L' := [(1, .int (x1 + 1)), (0, .ref (b + p0))]) (j := 1) hX dX8_keep_83 rfl rfl (by decide) rfl ?_
      refine g_goto (tgt := 2) hX dX8_keep_86 (by decide) ?_
      refine g_sub (L' := [(0, .ref (b + p0)), (1, .int (x1 + 1))]) [1, 0] rfl ?_
      exact ih h80 (x1 + 1) hF
set_option maxRecDepth 100000 in
set_option maxHeartbeats 4000000 in
theorem kX8_keep {X : XT} {b N sz : Nat} {ok : Nat → Prop} {h : HH} {r : RR} {w : HH} (hX : XOK X RX8 cX8_keep 2 1) (hM : N ≤ MM) (hW : WT KM lnM ok N r) (p0 : Nat) (t0 : KM p0 = 8 ∧ ok p0) (hR : XR X b KM lnM MM (none) 0 0 N sz none w r) (hF : fX8_keep h r p0 = some w) : GX X b KM lnM MM 2 0 0 N sz 0 [(0, .ref (b + p0))] [] h r := by
  rw [fX8_keep] at hF
  refine g_iconst (v := 0) hX dX8_keep_0 (by decide) ?_
  refine g_istore_n (L' := [(1, .int 0), (0, .ref (b + p0))]) hX dX8_keep_1 (i := 1) rfl (by decide) rfl ?_
  refine g_sub (L' := [(0, .ref (b + p0)), (1, .int 0)]) [1, 0] rfl ?_
  exact kX8_keep_b2 hX hM hW p0 t0 hR lpF h 0 hF
theorem ctX8_keep {b N sz : Nat} {ok : Nat → Prop} {h : HH} {r : RR} {w : HH} (hM : N ≤ MM) (hW : WT KM lnM ok N r) (p0 : Nat) (t0 : KM p0 = 8 ∧ ok p0) (hF : fX8_keep h r p0 = some w) : CT yX8_keep cX8_keep 2 (none) 1 b KM lnM MM N sz [.ref (b + p0)] h r N sz none w r 0 0 :=
  CT_of (by decide) rfl (Nat.le_of_ble_eq_true rfl) (by decide) trivial (fun X hX hR => kX8_keep hX hM hW p0 t0 hR hF)
/-! X8_layBack -/
def fX8_layBack_b2 (r : RR) (p0 : Nat) : Nat → HH → Int32 → Option (HH)
  | 0, _, _ => none
  | n + 1, h, x1 => if 3 ≤ x1 then (some h) else (gd (inb x1 (lnM (r p0 38))) (gd (inb x1 (lnM (r p0 3))) (gd (cpok 0 0 30 (lnM (r (r p0 38) (ix x1))) (lnM (r (r p0 3) (ix x1)))) (lt (cpH h (r (r p0 38) (ix x1)) (r (r p0 3) (ix x1)) (ix 0) (ix 0) (ix 30)) (fun h23 => gd (inb x1 (lnM (r p0 39))) (gd (inb x1 (lnM (r p0 4))) (gd (cpok 0 0 30 (lnM (r (r p0 39) (ix x1))) (lnM (r (r p0 4) (ix x1)))) (lt (cpH h23 (r (r p0 39) (ix x1)) (r (r p0 4) (ix x1)) (ix 0) (ix 0) (ix 30)) (fun h42 => gd (inb x1 (lnM (r p0 40))) (gd (inb x1 (lnM (r p0 5))) (gd (cpok 0 0 30 (lnM (r (r p0 40) (ix x1))) (lnM (r (r p0 5) (ix x1)))) (lt (cpH h42 (r (r p0 40) (ix x1)) (r (r p0 5) (ix x1)) (ix 0) (ix 0) (ix 30)) (fun h61 => gd (inb x1 (lnM (r p0 41))) (gd (inb x1 (lnM (r p0 6))) (gd (cpok 0 0 30 (lnM (r (r p0 41) (ix x1))) (lnM (r (r p0 6) (ix x1)))) (lt (cpH h61 (r (r p0 41) (ix x1)) (r (r p0 6) (ix x1)) (ix 0) (ix 0) (ix 30)) (fun h80 => fX8_layBack_b2 r p0 n h80 (x1 + 1))))))))))))))))))
def fX8_layBack (h : HH) (r : RR) (p0 : Nat) : Option (HH) := fX8_layBack_b2 r p0 lpF h 0
set_option maxRecDepth 100000 in
set_option maxHeartbeats 4000000 in
theorem kX8_layBack_b2 {X : XT} {b N sz : Nat} {ok : Nat → Prop} {r : RR} {w : HH} (hX : XOK X RX8 cX8_layBack 2 1) (hM : N ≤ MM) (hW : WT KM lnM ok N r) (p0 : Nat) (t0 : KM p0 = 8 ∧ ok p0) (hR : XR X b KM lnM MM (none) 0 0 N sz none w r) : ∀ (n : Nat) (h : HH) (x1 : Int32), fX8_layBack_b2 r p0 n h x1 = some w → GX X b KM lnM MM 2 0 0 N sz 2 [(0, .ref (b + p0)), (1, .int x1)] [] h r := by
  intro n
  induction n with
  | zero =>
    intro h x1 hF
    cases hF
  | succ n ih =>
    intro h x1 hF
    rw [fX8_layBack_b2] at hF
    refine g_iload_n hX dX8_layBack_2 (i := 1) rfl (j := 1) rfl ?_
    refine g_iconst (v := 3) hX dX8_layBack_3 (by decide) ?_
    refine g_icmp_ge (tgt := 89) hX dX8_layBack_4 (by decide) (fun c4 => ?_) (fun c4 => ?_)
    · have hF := ite_t hF c4
      obtain rfl := Option.some.inj hF
      exact g_vret hX dX8_layBack_89 hR
    · have hF := ite_f hF c4
      refine g_aload_n hX dX8_layBack_7 (i := 0) rfl (j := 0) rfl ?_
      have tf8 := (tyF (k := 38) hW t0 (by decide) rfl (by decide) : KM (r p0 38) = 15 ∧ ok (r p0 38))
      refine gf_X8_85 hX dX8_layBack_8 (ty1 hW t0) (hW.1 _ tf8.2).1 ?_
      refine g_iload_n hX dX8_layBack_11 (i := 1) rfl (j := 1) rfl ?_
      obtain ⟨g12, hF⟩ := gd_some hF
      have ta12 : KM (r (r p0 38) (ix x1)) = 10 ∧ ok (r (r p0 38) (ix x1)) := tyA hW tf8 (by decide) rfl (by decide) g12
      refine g_aald hX dX8_layBack_12 tf8.1 (by decide) (by decide) (hW.1 _ tf8.2).1 (hW.1 _ tf8.2).2 g12 (hW.1 _ ta12.2).1 ?_
      refine g_iconst (v := 0) hX dX8_layBack_13 (by decide) ?_
      refine g_aload_n hX dX8_layBack_14 (i := 0) rfl (j := 0) rfl ?_
      have tf15 := (tyF (k := 3) hW t0 (by decide) rfl (by decide) : KM (r p0 3) = 15 ∧ ok (r p0 3))
      refine gf_X8_15 hX dX8_layBack_15 (ty1 hW t0) (hW.1 _ tf15.2).1 ?_
      refine g_iload_n hX dX8_layBack_18 (i := 1) rfl (j := 1) rfl ?_
      obtain ⟨g19, hF⟩ := gd_some hF
      have ta19 : KM (r (r p0 3) (ix x1)) = 10 ∧ ok (r (r p0 3) (ix x1)) := tyA hW tf15 (by decide) rfl (by decide) g19
      refine g_aald hX dX8_layBack_19 tf15.1 (by decide) (by decide) (hW.1 _ tf15.2).1 (hW.1 _ tf15.2).2 g19 (hW.1 _ ta19.2).1 ?_
      refine g_iconst (v := 0) hX dX8_layBack_20 (by decide) ?_
      refine g_bipush (v := 30) hX dX8_layBack_21 (by decide) ?_
      obtain ⟨g23, hF⟩ := gd_some hF
      obtain ⟨h23, e23, hF⟩ := lt_some hF
      refine g_acopy hX dX8_layBack_23 wm_X8_322 (ty1 hW ta12) (ty1 hW ta19) (by decide) hM g23 (by decide) (Nat.le_of_ble_eq_true rfl) e23 ?_
      refine g_aload_n hX dX8_layBack_26 (i := 0) rfl (j := 0) rfl ?_
      have tf27 := (tyF (k := 39) hW t0 (by decide) rfl (by decide) : KM (r p0 39) = 14 ∧ ok (r p0 39))
      refine gf_X8_88 hX dX8_layBack_27 (ty1 hW t0) (hW.1 _ tf27.2).1 ?_
      refine g_iload_n hX dX8_layBack_30 (i := 1) rfl (j := 1) rfl ?_
      obtain ⟨g31, hF⟩ := gd_some hF
      have ta31 : KM (r (r p0 39) (ix x1)) = 9 ∧ ok (r (r p0 39) (ix x1)) := tyA hW tf27 (by decide) rfl (by decide) g31
      refine g_aald hX dX8_layBack_31 tf27.1 (by decide) (by decide) (hW.1 _ tf27.2).1 (hW.1 _ tf27.2).2 g31 (hW.1 _ ta31.2).1 ?_
      refine g_iconst (v := 0) hX dX8_layBack_32 (by decide) ?_
      refine g_aload_n hX dX8_layBack_33 (i := 0) rfl (j := 0) rfl ?_
      have tf34 := (tyF (k := 4) hW t0 (by decide) rfl (by decide) : KM (r p0 4) = 14 ∧ ok (r p0 4))
      refine gf_X8_20 hX dX8_layBack_34 (ty1 hW t0) (hW.1 _ tf34.2).1 ?_
      refine g_iload_n hX dX8_layBack_37 (i := 1) rfl (j := 1) rfl ?_
      obtain ⟨g38, hF⟩ := gd_some hF
      have ta38 : KM (r (r p0 4) (ix x1)) = 9 ∧ ok (r (r p0 4) (ix x1)) := tyA hW tf34 (by decide) rfl (by decide) g38
      refine g_aald hX dX8_layBack_38 tf34.1 (by decide) (by decide) (hW.1 _ tf34.2).1 (hW.1 _ tf34.2).2 g38 (hW.1 _ ta38.2).1 ?_
      refine g_iconst (v := 0) hX dX8_layBack_39 (by decide) ?_
      refine g_bipush (v := 30) hX dX8_layBack_40 (by decide) ?_
      obtain ⟨g42, hF⟩ := gd_some hF
      obtain ⟨h42, e42, hF⟩ := lt_some hF
      refine g_acopy hX dX8_layBack_42 wm_X8_322 (ty1 hW ta31) (ty1 hW ta38) (by decide) hM g42 (by decide) (Nat.le_of_ble_eq_true rfl) e42 ?_
      refine g_aload_n hX dX8_layBack_45 (i := 0) rfl (j := 0) rfl ?_
      have tf46 := (tyF (k := 40) hW t0 (by decide) rfl (by decide) : KM (r p0 40) = 14 ∧ ok (r p0 40))
      refine gf_X8_91 hX dX8_layBack_46 (ty1 hW t0) (hW.1 _ tf46.2).1 ?_
      refine g_iload_n hX dX8_layBack_49 (i := 1) rfl (j := 1) rfl ?_
      obtain ⟨g50, hF⟩ := gd_some hF
      have ta50 : KM (r (r p0 40) (ix x1)) = 9 ∧ ok (r (r p0 40) (ix x1)) := tyA hW tf46 (by decide) rfl (by decide) g50
      refine g_aald hX dX8_layBack_50 tf46.1 (by decide) (by decide) (hW.1 _ tf46.2).1 (hW.1 _ tf46.2).2 g50 (hW.1 _ ta50.2).1 ?_
      refine g_iconst (v := 0) hX dX8_layBack_51 (by decide) ?_
      refine g_aload_n hX dX8_layBack_52 (i := 0) rfl (j := 0) rfl ?_
      have tf53 := (tyF (k := 5) hW t0 (by decide) rfl (by decide) : KM (r p0 5) = 14 ∧ ok (r p0 5))
      refine gf_X8_23 hX dX8_layBack_53 (ty1 hW t0) (hW.1 _ tf53.2).1 ?_
      refine g_iload_n hX dX8_layBack_56 (i := 1) rfl (j := 1) rfl ?_
      obtain ⟨g57, hF⟩ := gd_some hF
      have ta57 : KM (r (r p0 5) (ix x1)) = 9 ∧ ok (r (r p0 5) (ix x1)) := tyA hW tf53 (by decide) rfl (by decide) g57
      refine g_aald hX dX8_layBack_57 tf53.1 (by decide) (by decide) (hW.1 _ tf53.2).1 (hW.1 _ tf53.2).2 g57 (hW.1 _ ta57.2).1 ?_
      refine g_iconst (v := 0) hX dX8_layBack_58 (by decide) ?_
      refine g_bipush (v := 30) hX dX8_layBack_59 (by decide) ?_
      obtain ⟨g61, hF⟩ := gd_some hF
      obtain ⟨h61, e61, hF⟩ := lt_some hF
      refine g_acopy hX dX8_layBack_61 wm_X8_322 (ty1 hW ta50) (ty1 hW ta57) (by decide) hM g61 (by decide) (Nat.le_of_ble_eq_true rfl) e61 ?_
      refine g_aload_n hX dX8_layBack_64 (i := 0) rfl (j := 0) rfl ?_
      have tf65 := (tyF (k := 41) hW t0 (by decide) rfl (by decide) : KM (r p0 41) = 14 ∧ ok (r p0 41))
      refine gf_X8_94 hX dX8_layBack_65 (ty1 hW t0) (hW.1 _ tf65.2).1 ?_
      refine g_iload_n hX dX8_layBack_68 (i := 1) rfl (j := 1) rfl ?_
      obtain ⟨g69, hF⟩ := gd_some hF
      have ta69 : KM (r (r p0 41) (ix x1)) = 9 ∧ ok (r (r p0 41) (ix x1)) := tyA hW tf65 (by decide) rfl (by decide) g69
      refine g_aald hX dX8_layBack_69 tf65.1 (by decide) (by decide) (hW.1 _ tf65.2).1 (hW.1 _ tf65.2).2 g69 (hW.1 _ ta69.2).1 ?_
      refine g_iconst (v := 0) hX dX8_layBack_70 (by decide) ?_
      refine g_aload_n hX dX8_layBack_71 (i := 0) rfl (j := 0) rfl ?_
      have tf72 := (tyF (k := 6) hW t0 (by decide) rfl (by decide) : KM (r p0 6) = 14 ∧ ok (r p0 6))
      refine gf_X8_26 hX dX8_layBack_72 (ty1 hW t0) (hW.1 _ tf72.2).1 ?_
      refine g_iload_n hX dX8_layBack_75 (i := 1) rfl (j := 1) rfl ?_
      obtain ⟨g76, hF⟩ := gd_some hF
      have ta76 : KM (r (r p0 6) (ix x1)) = 9 ∧ ok (r (r p0 6) (ix x1)) := tyA hW tf72 (by decide) rfl (by decide) g76
      refine g_aald hX dX8_layBack_76 tf72.1 (by decide) (by decide) (hW.1 _ tf72.2).1 (hW.1 _ tf72.2).2 g76 (hW.1 _ ta76.2).1 ?_
      refine g_iconst (v := 0) hX dX8_layBack_77 (by decide) ?_
      refine g_bipush (v := 30) hX dX8_layBack_78 (by decide) ?_
      obtain ⟨g80, hF⟩ := gd_some hF
      obtain ⟨h80, e80, hF⟩ := lt_some hF
      refine g_acopy hX dX8_layBack_80 wm_X8_322 (ty1 hW ta69) (ty1 hW ta76) (by decide) hM g80 (by decide) (Nat.le_of_ble_eq_true rfl) e80 ?_
      refine g_iinc (L' := [(1, .int (x1 + 1)), (0, .ref (b + p0))]) (j := 1) hX dX8_layBack_83 rfl rfl (by decide) rfl ?_
      refine g_goto (tgt := 2) hX dX8_layBack_86 (by decide) ?_
      refine g_sub (L' := [(0, .ref (b + p0)), (1, .int (x1 + 1))]) [1, 0] rfl ?_
      exact ih h80 (x1 + 1) hF
set_option maxRecDepth 100000 in
set_option maxHeartbeats 4000000 in
theorem kX8_layBack {X : XT} {b N sz : Nat} {ok : Nat → Prop} {h : HH} {r : RR} {w : HH} (hX : XOK X RX8 cX8_layBack 2 1) (hM : N ≤ MM) (hW : WT KM lnM ok N r) (p0 : Nat) (t0 : KM p0 = 8 ∧ ok p0) (hR : XR X b KM lnM MM (none) 0 0 N sz none w r) (hF : fX8_layBack h r p0 = some w) : GX X b KM lnM MM 2 0 0 N sz 0 [(0, .ref (b + p0))] [] h r := by
  rw [fX8_layBack] at hF
  refine g_iconst (v := 0) hX dX8_layBack_0 (by decide) ?_
  refine g_istore_n (L' := [(1, .int 0), (0, .ref (b + p0))]) hX dX8_layBack_1 (i := 1) rfl (by decide) rfl ?_
  refine g_sub (L' := [(0, .ref (b + p0)), (1, .int 0)]) [1, 0] rfl ?_
  exact kX8_layBack_b2 hX hM hW p0 t0 hR lpF h 0 hF
theorem ctX8_layBack {b N sz : Nat} {ok : Nat → Prop} {h : HH} {r : RR} {w : HH} (hM : N ≤ MM) (hW : WT KM lnM ok N r) (p0 : Nat) (t0 : KM p0 = 8 ∧ ok p0) (hF : fX8_layBack h r p0 = some w) : CT yX8_layBack cX8_layBack 2 (none) 1 b KM lnM MM N sz [.ref (b + p0)] h r N sz none w r 0 0 :=
  CT_of (by decide) rfl (Nat.le_of_ble_eq_true rfl) (by decide) trivial (fun X hX hR => kX8_layBack hX hM hW p0 t0 hR hF)
/-! X8_spared -/
def fX8_spared (h : HH) (r : RR) (p0 : Nat) (a1 : Int32) (a2 : Int32) : Option (Int32 × HH) := (fX8_isSide h r a1).bind (fun v1 => if v1 = 0 then (some ((-2), h)) else ((fX8_isThing h r p0 a2).bind (fun v9 => if ¬ v9 = 0 then ((fX8_ignore h r p0).bind (fun h19 => (fX8_changed h19 r p0 a1 a2).bind (fun v25 => if ¬ (v25 &&& 8) = 0 then ((fX8_tellTarget h19 r p0 (h19 p0 1)).bind (fun h42 => lt (h42 p0 26) (fun y49 => gd (inb a1 (lnM (r p0 6))) (gd (inb a2 (lnM (r (r p0 6) (ix a1)))) (lt (h42 (r (r p0 6) (ix a1)) (ix a2)) (fun y58 => gd (inb a1 (lnM (r p0 6))) (gd (inb 2 (lnM (r p0 6))) (gd (inb a2 (lnM (r (r p0 6) (ix 2)))) (gd (inb a2 (lnM (r (r p0 6) (ix a1)))) (lt (up h42 (r (r p0 6) (ix a1)) (ix a2) (h42 (r (r p0 6) (ix 2)) (ix a2))) (fun h75 => (fX8_tellTarget h75 r p0 (h75 p0 1)).bind (fun h81 => gd (inb a1 (lnM (r p0 6))) (gd (inb a2 (lnM (r (r p0 6) (ix a1)))) (lt (up h81 (r (r p0 6) (ix a1)) (ix a2) y58) (fun h93 => some (y49 - (h93 p0 26), h93)))))))))))))))) else (some ((-3), h19))))) else (some ((-2), h)))))
set_option maxRecDepth 100000 in
set_option maxHeartbeats 4000000 in
theorem kX8_spared {X : XT} {b N sz : Nat} {ok : Nat → Prop} {h : HH} {r : RR} {w : Int32 × HH} (hX : XOK X RX8 cX8_spared 5 6) (hM : N ≤ MM) (hW : WT KM lnM ok N r) (p0 : Nat) (a1 : Int32) (a2 : Int32) (t0 : KM p0 = 8 ∧ ok p0) (hR : XR X b KM lnM MM (some FieldType.int) 0 0 N sz (some (.int w.1)) w.2 r) (hF : fX8_spared h r p0 a1 a2 = some w) : GX X b KM lnM MM 5 0 0 N sz 0 [(0, .ref (b + p0)), (1, .int a1), (2, .int a2)] [] h r := by
  rw [fX8_spared] at hF
  refine g_iload_n hX dX8_spared_0 (i := 1) rfl (j := 1) rfl ?_
  obtain ⟨v1, e1, hF⟩ := bi_some hF
  refine g_callS (As := [.int a1]) (rest := []) (stk := [.int v1]) hX dX8_spared_1 (ctX8_isSide hM hW a1 e1) (by decide) (by decide) wm_X8_151 wt_X8_isSide wz_X8 wc_X8_isSide hyX8_isSide rfl (Nat.le_of_ble_eq_true rfl) rfl rfl ?_ rfl rfl
  refine g_if_eq (tgt := 15) hX dX8_spared_4 (by decide) (fun c4 => ?_) (fun c4 => ?_)
  · have hF := ite_t hF c4
    refine g_bipush (v := (-2)) hX dX8_spared_15 (by decide) ?_
    obtain rfl := Option.some.inj hF
    exact g_iret hX dX8_spared_17 hR
  · have hF := ite_f hF c4
    refine g_aload_n hX dX8_spared_7 (i := 0) rfl (j := 0) rfl ?_
    refine g_iload_n hX dX8_spared_8 (i := 2) rfl (j := 2) rfl ?_
    obtain ⟨v9, e9, hF⟩ := bi_some hF
    refine g_callV (As := [.int a2]) (rest := []) (stk := [.int v9]) hX dX8_spared_9 (ctX8_isThing hM hW p0 a2 t0 e9) (by decide) (by decide) wm_X8_137 wi_X8_isThing ws_X8_isThing wz_X8 wc_X8_isThing hyX8_isThing rfl (ci := 8) rfl (by decide) t0.1 (hW.1 _ t0.2).1 (hW.1 _ t0.2).2 (Nat.le_of_ble_eq_true rfl) rfl rfl ?_ rfl rfl
    refine g_if_ne (tgt := 18) hX dX8_spared_12 (by decide) (fun c12 => ?_) (fun c12 => ?_)
    · have hF := ite_t hF c12
      refine g_aload_n hX dX8_spared_18 (i := 0) rfl (j := 0) rfl ?_
      obtain ⟨h19, e19, hF⟩ := bi_some hF
      refine g_callV (As := []) (rest := []) (stk := []) hX dX8_spared_19 (ctX8_ignore hM hW p0 t0 e19) (by decide) (by decide) wm_X8_196 wi_X8_ignore ws_X8_ignore wz_X8 wc_X8_ignore hyX8_ignore rfl (ci := 8) rfl (by decide) t0.1 (hW.1 _ t0.2).1 (hW.1 _ t0.2).2 (Nat.le_of_ble_eq_true rfl) rfl rfl ?_ rfl rfl
      refine g_aload_n hX dX8_spared_22 (i := 0) rfl (j := 0) rfl ?_
      refine g_iload_n hX dX8_spared_23 (i := 1) rfl (j := 1) rfl ?_
      refine g_iload_n hX dX8_spared_24 (i := 2) rfl (j := 2) rfl ?_
      obtain ⟨v25, e25, hF⟩ := bi_some hF
      refine g_callV (As := [.int a1, .int a2]) (rest := []) (stk := [.int v25]) hX dX8_spared_25 (ctX8_changed hM hW p0 a1 a2 t0 e25) (by decide) (by decide) wm_X8_199 wi_X8_changed ws_X8_changed wz_X8 wc_X8_changed hyX8_changed rfl (ci := 8) rfl (by decide) t0.1 (hW.1 _ t0.2).1 (hW.1 _ t0.2).2 (Nat.le_of_ble_eq_true rfl) rfl rfl ?_ rfl rfl
      refine g_bipush (v := 8) hX dX8_spared_28 (by decide) ?_
      refine g_iand hX dX8_spared_30 ?_
      refine g_if_ne (tgt := 37) hX dX8_spared_31 (by decide) (fun c31 => ?_) (fun c31 => ?_)
      · have hF := ite_t hF c31
        refine g_aload_n hX dX8_spared_37 (i := 0) rfl (j := 0) rfl ?_
        refine g_aload_n hX dX8_spared_38 (i := 0) rfl (j := 0) rfl ?_
        refine gf_X8_288 hX dX8_spared_39 (ty1 hW t0) ?_
        obtain ⟨h42, e42, hF⟩ := bi_some hF
        refine g_callV (As := [.int (h19 p0 1)]) (rest := []) (stk := []) hX dX8_spared_42 (ctX8_tellTarget hM hW p0 (h19 p0 1) t0 e42) (by decide) (by decide) wm_X8_291 wi_X8_tellTarget ws_X8_tellTarget wz_X8 wc_X8_tellTarget hyX8_tellTarget rfl (ci := 8) rfl (by decide) t0.1 (hW.1 _ t0.2).1 (hW.1 _ t0.2).2 (Nat.le_of_ble_eq_true rfl) rfl rfl ?_ rfl rfl
        refine g_aload_n hX dX8_spared_45 (i := 0) rfl (j := 0) rfl ?_
        refine gf_X8_249 hX dX8_spared_46 (ty1 hW t0) ?_
        obtain ⟨y49, e49, hF⟩ := lt_some hF
        refine g_topi e49 ?_
        refine g_istore_n (L' := [(3, .int y49), (0, .ref (b + p0)), (1, .int a1), (2, .int a2)]) hX dX8_spared_49 (i := 3) rfl (by decide) rfl ?_
        refine g_aload_n hX dX8_spared_50 (i := 0) rfl (j := 1) rfl ?_
        have tf51 := (tyF (k := 6) hW t0 (by decide) rfl (by decide) : KM (r p0 6) = 14 ∧ ok (r p0 6))
        refine gf_X8_26 hX dX8_spared_51 (ty1 hW t0) (hW.1 _ tf51.2).1 ?_
        refine g_iload_n hX dX8_spared_54 (i := 1) rfl (j := 2) rfl ?_
        obtain ⟨g55, hF⟩ := gd_some hF
        have ta55 : KM (r (r p0 6) (ix a1)) = 9 ∧ ok (r (r p0 6) (ix a1)) := tyA hW tf51 (by decide) rfl (by decide) g55
        refine g_aald hX dX8_spared_55 tf51.1 (by decide) (by decide) (hW.1 _ tf51.2).1 (hW.1 _ tf51.2).2 g55 (hW.1 _ ta55.2).1 ?_
        refine g_iload_n hX dX8_spared_56 (i := 2) rfl (j := 3) rfl ?_
        obtain ⟨g57, hF⟩ := gd_some hF
        refine g_iald hX dX8_spared_57 ta55.1 (hW.1 _ ta55.2).1 (hW.1 _ ta55.2).2 g57 ?_
        obtain ⟨y58, e58, hF⟩ := lt_some hF
        refine g_topi e58 ?_
        refine g_istore (L' := [(4, .int y58), (3, .int y49), (0, .ref (b + p0)), (1, .int a1), (2, .int a2)]) hX dX8_spared_58 (by decide) rfl ?_
        refine g_aload_n hX dX8_spared_60 (i := 0) rfl (j := 2) rfl ?_
        have tf61 := (tyF (k := 6) hW t0 (by decide) rfl (by decide) : KM (r p0 6) = 14 ∧ ok (r p0 6))
        refine gf_X8_26 hX dX8_spared_61 (ty1 hW t0) (hW.1 _ tf61.2).1 ?_
        refine g_iload_n hX dX8_spared_64 (i := 1) rfl (j := 3) rfl ?_
        obtain ⟨g65, hF⟩ := gd_some hF
        have ta65 : KM (r (r p0 6) (ix a1)) = 9 ∧ ok (r (r p0 6) (ix a1)) := tyA hW tf61 (by decide) rfl (by decide) g65
        refine g_aald hX dX8_spared_65 tf61.1 (by decide) (by decide) (hW.1 _ tf61.2).1 (hW.1 _ tf61.2).2 g65 (hW.1 _ ta65.2).1 ?_
        refine g_iload_n hX dX8_spared_66 (i := 2) rfl (j := 4) rfl ?_
        refine g_aload_n hX dX8_spared_67 (i := 0) rfl (j := 2) rfl ?_
        have tf68 := (tyF (k := 6) hW t0 (by decide) rfl (by decide) : KM (r p0 6) = 14 ∧ ok (r p0 6))
        refine gf_X8_26 hX dX8_spared_68 (ty1 hW t0) (hW.1 _ tf68.2).1 ?_
        refine g_iconst (v := 2) hX dX8_spared_71 (by decide) ?_
        obtain ⟨g72, hF⟩ := gd_some hF
        have ta72 : KM (r (r p0 6) (ix 2)) = 9 ∧ ok (r (r p0 6) (ix 2)) := tyA hW tf68 (by decide) rfl (by decide) g72
        refine g_aald hX dX8_spared_72 tf68.1 (by decide) (by decide) (hW.1 _ tf68.2).1 (hW.1 _ tf68.2).2 g72 (hW.1 _ ta72.2).1 ?_
        refine g_iload_n hX dX8_spared_73 (i := 2) rfl (j := 4) rfl ?_
        obtain ⟨g74, hF⟩ := gd_some hF
        refine g_iald hX dX8_spared_74 ta72.1 (hW.1 _ ta72.2).1 (hW.1 _ ta72.2).2 g74 ?_
        obtain ⟨g75, hF⟩ := gd_some hF
        obtain ⟨h75, e75, hF⟩ := lt_some hF
        refine g_iast hX dX8_spared_75 ta65.1 (hW.1 _ ta65.2).1 (hW.1 _ ta65.2).2 hM g75 e75 ?_
        refine g_aload_n hX dX8_spared_76 (i := 0) rfl (j := 2) rfl ?_
        refine g_aload_n hX dX8_spared_77 (i := 0) rfl (j := 2) rfl ?_
        refine gf_X8_288 hX dX8_spared_78 (ty1 hW t0) ?_
        obtain ⟨h81, e81, hF⟩ := bi_some hF
        refine g_callV (As := [.int (h75 p0 1)]) (rest := []) (stk := []) hX dX8_spared_81 (ctX8_tellTarget hM hW p0 (h75 p0 1) t0 e81) (by decide) (by decide) wm_X8_291 wi_X8_tellTarget ws_X8_tellTarget wz_X8 wc_X8_tellTarget hyX8_tellTarget rfl (ci := 8) rfl (by decide) t0.1 (hW.1 _ t0.2).1 (hW.1 _ t0.2).2 (Nat.le_of_ble_eq_true rfl) rfl rfl ?_ rfl rfl
        refine g_aload_n hX dX8_spared_84 (i := 0) rfl (j := 2) rfl ?_
        have tf85 := (tyF (k := 6) hW t0 (by decide) rfl (by decide) : KM (r p0 6) = 14 ∧ ok (r p0 6))
        refine gf_X8_26 hX dX8_spared_85 (ty1 hW t0) (hW.1 _ tf85.2).1 ?_
        refine g_iload_n hX dX8_spared_88 (i := 1) rfl (j := 3) rfl ?_
        obtain ⟨g89, hF⟩ := gd_some hF
        have ta89 : KM (r (r p0 6) (ix a1)) = 9 ∧ ok (r (r p0 6) (ix a1)) := tyA hW tf85 (by decide) rfl (by decide) g89
        refine g_aald hX dX8_spared_89 tf85.1 (by decide) (by decide) (hW.1 _ tf85.2).1 (hW.1 _ tf85.2).2 g89 (hW.1 _ ta89.2).1 ?_
        refine g_iload_n hX dX8_spared_90 (i := 2) rfl (j := 4) rfl ?_
        refine g_iload hX dX8_spared_91 (j := 0) rfl ?_
        obtain ⟨g93, hF⟩ := gd_some hF
        obtain ⟨h93, e93, hF⟩ := lt_some hF
        refine g_iast hX dX8_spared_93 ta89.1 (hW.1 _ ta89.2).1 (hW.1 _ ta89.2).2 hM g93 e93 ?_
        refine g_iload_n hX dX8_spared_94 (i := 3) rfl (j := 1) rfl ?_
        refine g_aload_n hX dX8_spared_95 (i := 0) rfl (j := 2) rfl ?_
        refine gf_X8_249 hX dX8_spared_96 (ty1 hW t0) ?_
        refine g_isub hX dX8_spared_99 ?_
        obtain rfl := Option.some.inj hF
        exact g_iret hX dX8_spared_100 hR
      · have hF := ite_f hF (fun z => z c31)
        refine g_bipush (v := (-3)) hX dX8_spared_34 (by decide) ?_
        obtain rfl := Option.some.inj hF
        exact g_iret hX dX8_spared_36 hR
    · have hF := ite_f hF (fun z => z c12)
      refine g_bipush (v := (-2)) hX dX8_spared_15 (by decide) ?_
      obtain rfl := Option.some.inj hF
      exact g_iret hX dX8_spared_17 hR
theorem ctX8_spared {b N sz : Nat} {ok : Nat → Prop} {h : HH} {r : RR} {w : Int32 × HH} (hM : N ≤ MM) (hW : WT KM lnM ok N r) (p0 : Nat) (a1 : Int32) (a2 : Int32) (t0 : KM p0 = 8 ∧ ok p0) (hF : fX8_spared h r p0 a1 a2 = some w) : CT yX8_spared cX8_spared 5 (some FieldType.int) 6 b KM lnM MM N sz [.ref (b + p0), .int a1, .int a2] h r N sz (some (.int w.1)) w.2 r 0 0 :=
  CT_of (by decide) rfl (Nat.le_of_ble_eq_true rfl) (by decide) trivial (fun X hX hR => kX8_spared hX hM hW p0 a1 a2 t0 hR hF)
/-! X8_draw -/
def fX8_draw (h : HH) (r : RR) (p0 : Nat) (a1 : Int32) : Option (Int32 × HH) := lt (up h p0 42 (((h p0 42) * 1103515245) + 12345)) (fun h13 => gd (decide (¬ a1 = 0)) (some (irm (ushr (h13 p0 42) 9) a1, h13)))
set_option maxRecDepth 100000 in
set_option maxHeartbeats 4000000 in
theorem kX8_draw {X : XT} {b N sz : Nat} {ok : Nat → Prop} {h : HH} {r : RR} {w : Int32 × HH} (hX : XOK X RX8 cX8_draw 2 1) (hM : N ≤ MM) (hW : WT KM lnM ok N r) (p0 : Nat) (a1 : Int32) (t0 : KM p0 = 8 ∧ ok p0) (hR : XR X b KM lnM MM (some FieldType.int) 0 0 N sz (some (.int w.1)) w.2 r) (hF : fX8_draw h r p0 a1 = some w) : GX X b KM lnM MM 2 0 0 N sz 0 [(0, .ref (b + p0)), (1, .int a1)] [] h r := by
  rw [fX8_draw] at hF
  refine g_aload_n hX dX8_draw_0 (i := 0) rfl (j := 0) rfl ?_
  refine g_aload_n hX dX8_draw_1 (i := 0) rfl (j := 0) rfl ?_
  refine gf_X8_328 hX dX8_draw_2 (ty1 hW t0) ?_
  refine g_ldcw hX dX8_draw_5 wk_X8_331 ?_
  refine g_imul hX dX8_draw_8 ?_
  refine g_sipush (v := 12345) hX dX8_draw_9 (by decide) ?_
  refine g_iadd hX dX8_draw_12 ?_
  obtain ⟨h13, e13, hF⟩ := lt_some hF
  refine pf_X8_328 hX dX8_draw_13 (ty1 hW t0) hM e13 ?_
  refine g_aload_n hX dX8_draw_16 (i := 0) rfl (j := 0) rfl ?_
  refine gf_X8_328 hX dX8_draw_17 (ty1 hW t0) ?_
  refine g_bipush (v := 9) hX dX8_draw_20 (by decide) ?_
  refine g_iushr hX dX8_draw_22 ?_
  refine g_iload_n hX dX8_draw_23 (i := 1) rfl (j := 1) rfl ?_
  obtain ⟨g24, hF⟩ := gd_some hF
  refine g_irem hX dX8_draw_24 (of_decide_eq_true g24) ?_
  obtain rfl := Option.some.inj hF
  exact g_iret hX dX8_draw_25 hR
theorem ctX8_draw {b N sz : Nat} {ok : Nat → Prop} {h : HH} {r : RR} {w : Int32 × HH} (hM : N ≤ MM) (hW : WT KM lnM ok N r) (p0 : Nat) (a1 : Int32) (t0 : KM p0 = 8 ∧ ok p0) (hF : fX8_draw h r p0 a1 = some w) : CT yX8_draw cX8_draw 2 (some FieldType.int) 1 b KM lnM MM N sz [.ref (b + p0), .int a1] h r N sz (some (.int w.1)) w.2 r 0 0 :=
  CT_of (by decide) rfl (Nat.le_of_ble_eq_true rfl) (by decide) trivial (fun X hX hR => kX8_draw hX hM hW p0 a1 t0 hR hF)
/-! X8_byLot -/
def fX8_byLot_b117 (r : RR) (p0 : Nat) (a1 : Int32) (a2 : Int32) (k29 : HH → Int32 → Int32 → Int32 → Int32 → Option (Int32 × HH)) (h : HH) (s0 : Int32) (x3 : Int32) (x4 : Int32) (x5 : Int32) (x6 : Int32) : Option (Int32 × HH) := k29 h x3 x4 x5 (x6 + 1)
def fX8_byLot_b29 (r : RR) (p0 : Nat) (a1 : Int32) (a2 : Int32) : Nat → HH → Int32 → Int32 → Int32 → Int32 → Option (Int32 × HH)
  | 0, _, _, _, _, _ => none
  | n + 1, h, x3, x4, x5, x6 => if a2 ≤ x6 then ((fX8_tellTarget h r p0 (h p0 1)).bind (fun h130 => (fX8_layBack h130 r p0).bind (fun h134 => lt (up h134 p0 7 x3) (fun h139 => lt (up h139 p0 8 x4) (fun h145 => lt (up h145 p0 9 x5) (fun h151 => some (h151 p0 26, h151))))))) else (bi2 (fX8_draw h r p0 2) (fun v37 h37 => bi2 (fX8_draw h37 r p0 (mx 1 (h37 p0 0))) (fun v51 h51 => bi2 (fX8_draw h51 r p0 3) (fun v58 h58 => bi2 (fX8_draw h58 r p0 50) (fun v66 h66 => if ¬ v58 = 0 then (if ¬ v58 = 1 then (bi2 (fX8_remove h66 r p0 v37 v51) (fun v114 h114 => fX8_byLot_b117 r p0 a1 a2 (fun h_ z3_ z4_ z5_ z6_ => fX8_byLot_b29 r p0 a1 a2 n h_ z3_ z4_ z5_ z6_) h114 v114 x3 x4 x5 x6)) else (bi2 (fX8_move h66 r p0 v37 v51 (-1) v66) (fun v103 h103 => fX8_byLot_b117 r p0 a1 a2 (fun h_ z3_ z4_ z5_ z6_ => fX8_byLot_b29 r p0 a1 a2 n h_ z3_ z4_ z5_ z6_) h103 v103 x3 x4 x5 x6))) else (bi2 (fX8_write h66 r p0 v37 v51 v66) (fun v83 h83 => fX8_byLot_b117 r p0 a1 a2 (fun h_ z3_ z4_ z5_ z6_ => fX8_byLot_b29 r p0 a1 a2 n h_ z3_ z4_ z5_ z6_) h83 v83 x3 x4 x5 x6)))))))
def fX8_byLot (h : HH) (r : RR) (p0 : Nat) (a1 : Int32) (a2 : Int32) : Option (Int32 × HH) := lt (h p0 7) (fun y4 => lt (h p0 8) (fun y9 => lt (h p0 9) (fun y15 => (fX8_keep h r p0).bind (fun h18 => lt (up h18 p0 42 a1) (fun h23 => fX8_byLot_b29 r p0 a1 a2 lpF h23 y4 y9 y15 0)))))
set_option maxRecDepth 100000 in
set_option maxHeartbeats 4000000 in
theorem kX8_byLot_b117 {X : XT} {b N sz : Nat} {ok : Nat → Prop} {r : RR} {w : Int32 × HH} (hX : XOK X RX8 cX8_byLot 12 6) (hM : N ≤ MM) (hW : WT KM lnM ok N r) (p0 : Nat) (a1 : Int32) (a2 : Int32) (t0 : KM p0 = 8 ∧ ok p0) (hR : XR X b KM lnM MM (some FieldType.int) 0 0 N sz (some (.int w.1)) w.2 r) (k29 : HH → Int32 → Int32 → Int32 → Int32 → Option (Int32 × HH)) (hk29 : ∀ (h : HH) (x3 : Int32) (x4 : Int32) (x5 : Int32) (x6 : Int32), k29 h x3 x4 x5 x6 = some w → GX X b KM lnM MM 12 0 0 N sz 29 [(0, .ref (b + p0)), (1, .int a1), (2, .int a2), (3, .int x3), (4, .int x4), (5, .int x5), (6, .int x6)] [] h r) (h : HH) (s0 : Int32) (x3 : Int32) (x4 : Int32) (x5 : Int32) (x6 : Int32) (hF : fX8_byLot_b117 r p0 a1 a2 k29 h s0 x3 x4 x5 x6 = some w) : GX X b KM lnM MM 12 0 0 N sz 117 [(0, .ref (b + p0)), (1, .int a1), (2, .int a2), (3, .int x3), (4, .int x4), (5, .int x5), (6, .int x6)] [.int s0] h r := by
  rw [fX8_byLot_b117] at hF
  refine g_istore (L' := [(11, .int s0), (0, .ref (b + p0)), (1, .int a1), (2, .int a2), (3, .int x3), (4, .int x4), (5, .int x5), (6, .int x6)]) hX dX8_byLot_117 (by decide) rfl ?_
  refine g_iinc (L' := [(6, .int (x6 + 1)), (11, .int s0), (0, .ref (b + p0)), (1, .int a1), (2, .int a2), (3, .int x3), (4, .int x4), (5, .int x5)]) (j := 7) hX dX8_byLot_119 rfl rfl (by decide) rfl ?_
  refine g_goto (tgt := 29) hX dX8_byLot_122 (by decide) ?_
  refine g_sub (L' := [(0, .ref (b + p0)), (1, .int a1), (2, .int a2), (3, .int x3), (4, .int x4), (5, .int x5), (6, .int (x6 + 1))]) [2, 3, 4, 5, 6, 7, 0] rfl ?_
  exact hk29 h x3 x4 x5 (x6 + 1) hF
set_option maxRecDepth 100000 in
set_option maxHeartbeats 4000000 in
theorem kX8_byLot_b29 {X : XT} {b N sz : Nat} {ok : Nat → Prop} {r : RR} {w : Int32 × HH} (hX : XOK X RX8 cX8_byLot 12 6) (hM : N ≤ MM) (hW : WT KM lnM ok N r) (p0 : Nat) (a1 : Int32) (a2 : Int32) (t0 : KM p0 = 8 ∧ ok p0) (hR : XR X b KM lnM MM (some FieldType.int) 0 0 N sz (some (.int w.1)) w.2 r) : ∀ (n : Nat) (h : HH) (x3 : Int32) (x4 : Int32) (x5 : Int32) (x6 : Int32), fX8_byLot_b29 r p0 a1 a2 n h x3 x4 x5 x6 = some w → GX X b KM lnM MM 12 0 0 N sz 29 [(0, .ref (b + p0)), (1, .int a1), (2, .int a2), (3, .int x3), (4, .int x4), (5, .int x5), (6, .int x6)] [] h r := by
  intro n
  induction n with
  | zero =>
    intro h x3 x4 x5 x6 hF
    cases hF
  | succ n ih =>
    intro h x3 x4 x5 x6 hF
    rw [fX8_byLot_b29] at hF
    refine g_iload hX dX8_byLot_29 (j := 6) rfl ?_
    refine g_iload_n hX dX8_byLot_31 (i := 2) rfl (j := 2) rfl ?_
    refine g_icmp_ge (tgt := 125) hX dX8_byLot_32 (by decide) (fun c32 => ?_) (fun c32 => ?_)
    · have hF := ite_t hF c32
      refine g_aload_n hX dX8_byLot_125 (i := 0) rfl (j := 0) rfl ?_
      refine g_aload_n hX dX8_byLot_126 (i := 0) rfl (j := 0) rfl ?_
      refine gf_X8_288 hX dX8_byLot_127 (ty1 hW t0) ?_
      obtain ⟨h130, e130, hF⟩ := bi_some hF
      refine g_callV (As := [.int (h p0 1)]) (rest := []) (stk := []) hX dX8_byLot_130 (ctX8_tellTarget hM hW p0 (h p0 1) t0 e130) (by decide) (by decide) wm_X8_291 wi_X8_tellTarget ws_X8_tellTarget wz_X8 wc_X8_tellTarget hyX8_tellTarget rfl (ci := 8) rfl (by decide) t0.1 (hW.1 _ t0.2).1 (hW.1 _ t0.2).2 (Nat.le_of_ble_eq_true rfl) rfl rfl ?_ rfl rfl
      refine g_aload_n hX dX8_byLot_133 (i := 0) rfl (j := 0) rfl ?_
      obtain ⟨h134, e134, hF⟩ := bi_some hF
      refine g_callV (As := []) (rest := []) (stk := []) hX dX8_byLot_134 (ctX8_layBack hM hW p0 t0 e134) (by decide) (by decide) wm_X8_348 wi_X8_layBack ws_X8_layBack wz_X8 wc_X8_layBack hyX8_layBack rfl (ci := 8) rfl (by decide) t0.1 (hW.1 _ t0.2).1 (hW.1 _ t0.2).2 (Nat.le_of_ble_eq_true rfl) rfl rfl ?_ rfl rfl
      refine g_aload_n hX dX8_byLot_137 (i := 0) rfl (j := 0) rfl ?_
      refine g_iload_n hX dX8_byLot_138 (i := 3) rfl (j := 3) rfl ?_
      obtain ⟨h139, e139, hF⟩ := lt_some hF
      refine pf_X8_145 hX dX8_byLot_139 (ty1 hW t0) hM e139 ?_
      refine g_aload_n hX dX8_byLot_142 (i := 0) rfl (j := 0) rfl ?_
      refine g_iload hX dX8_byLot_143 (j := 4) rfl ?_
      obtain ⟨h145, e145, hF⟩ := lt_some hF
      refine pf_X8_29 hX dX8_byLot_145 (ty1 hW t0) hM e145 ?_
      refine g_aload_n hX dX8_byLot_148 (i := 0) rfl (j := 0) rfl ?_
      refine g_iload hX dX8_byLot_149 (j := 5) rfl ?_
      obtain ⟨h151, e151, hF⟩ := lt_some hF
      refine pf_X8_148 hX dX8_byLot_151 (ty1 hW t0) hM e151 ?_
      refine g_aload_n hX dX8_byLot_154 (i := 0) rfl (j := 0) rfl ?_
      refine gf_X8_249 hX dX8_byLot_155 (ty1 hW t0) ?_
      obtain rfl := Option.some.inj hF
      exact g_iret hX dX8_byLot_158 hR
    · have hF := ite_f hF c32
      refine g_aload_n hX dX8_byLot_35 (i := 0) rfl (j := 0) rfl ?_
      refine g_iconst (v := 2) hX dX8_byLot_36 (by decide) ?_
      obtain ⟨v37, h37, e37, hF⟩ := bi2_some hF
      refine g_callV (As := [.int 2]) (rest := []) (stk := [.int v37]) hX dX8_byLot_37 (ctX8_draw hM hW p0 2 t0 e37) (by decide) (by decide) wm_X8_335 wi_X8_draw ws_X8_draw wz_X8 wc_X8_draw hyX8_draw rfl (ci := 8) rfl (by decide) t0.1 (hW.1 _ t0.2).1 (hW.1 _ t0.2).2 (Nat.le_of_ble_eq_true rfl) rfl rfl ?_ rfl rfl
      refine g_istore (L' := [(7, .int v37), (0, .ref (b + p0)), (1, .int a1), (2, .int a2), (3, .int x3), (4, .int x4), (5, .int x5), (6, .int x6)]) hX dX8_byLot_40 (by decide) rfl ?_
      refine g_aload_n hX dX8_byLot_42 (i := 0) rfl (j := 1) rfl ?_
      refine g_iconst (v := 1) hX dX8_byLot_43 (by decide) ?_
      refine g_aload_n hX dX8_byLot_44 (i := 0) rfl (j := 1) rfl ?_
      refine gf_X8_130 hX dX8_byLot_45 (ty1 hW t0) ?_
      refine g_max hX dX8_byLot_48 wm_X8_167 (by decide) (Nat.le_of_ble_eq_true rfl) ?_ rfl rfl
      obtain ⟨v51, h51, e51, hF⟩ := bi2_some hF
      refine g_callV (As := [.int (mx 1 (h37 p0 0))]) (rest := []) (stk := [.int v51]) hX dX8_byLot_51 (ctX8_draw hM hW p0 (mx 1 (h37 p0 0)) t0 e51) (by decide) (by decide) wm_X8_335 wi_X8_draw ws_X8_draw wz_X8 wc_X8_draw hyX8_draw rfl (ci := 8) rfl (by decide) t0.1 (hW.1 _ t0.2).1 (hW.1 _ t0.2).2 (Nat.le_of_ble_eq_true rfl) rfl rfl ?_ rfl rfl
      refine g_istore (L' := [(8, .int v51), (7, .int v37), (0, .ref (b + p0)), (1, .int a1), (2, .int a2), (3, .int x3), (4, .int x4), (5, .int x5), (6, .int x6)]) hX dX8_byLot_54 (by decide) rfl ?_
      refine g_aload_n hX dX8_byLot_56 (i := 0) rfl (j := 2) rfl ?_
      refine g_iconst (v := 3) hX dX8_byLot_57 (by decide) ?_
      obtain ⟨v58, h58, e58, hF⟩ := bi2_some hF
      refine g_callV (As := [.int 3]) (rest := []) (stk := [.int v58]) hX dX8_byLot_58 (ctX8_draw hM hW p0 3 t0 e58) (by decide) (by decide) wm_X8_335 wi_X8_draw ws_X8_draw wz_X8 wc_X8_draw hyX8_draw rfl (ci := 8) rfl (by decide) t0.1 (hW.1 _ t0.2).1 (hW.1 _ t0.2).2 (Nat.le_of_ble_eq_true rfl) rfl rfl ?_ rfl rfl
      refine g_istore (L' := [(9, .int v58), (8, .int v51), (7, .int v37), (0, .ref (b + p0)), (1, .int a1), (2, .int a2), (3, .int x3), (4, .int x4), (5, .int x5), (6, .int x6)]) hX dX8_byLot_61 (by decide) rfl ?_
      refine g_aload_n hX dX8_byLot_63 (i := 0) rfl (j := 3) rfl ?_
      refine g_bipush (v := 50) hX dX8_byLot_64 (by decide) ?_
      obtain ⟨v66, h66, e66, hF⟩ := bi2_some hF
      refine g_callV (As := [.int 50]) (rest := []) (stk := [.int v66]) hX dX8_byLot_66 (ctX8_draw hM hW p0 50 t0 e66) (by decide) (by decide) wm_X8_335 wi_X8_draw ws_X8_draw wz_X8 wc_X8_draw hyX8_draw rfl (ci := 8) rfl (by decide) t0.1 (hW.1 _ t0.2).1 (hW.1 _ t0.2).2 (Nat.le_of_ble_eq_true rfl) rfl rfl ?_ rfl rfl
      refine g_istore (L' := [(10, .int v66), (9, .int v58), (8, .int v51), (7, .int v37), (0, .ref (b + p0)), (1, .int a1), (2, .int a2), (3, .int x3), (4, .int x4), (5, .int x5), (6, .int x6)]) hX dX8_byLot_69 (by decide) rfl ?_
      refine g_iload hX dX8_byLot_71 (j := 1) rfl ?_
      refine g_if_ne (tgt := 89) hX dX8_byLot_73 (by decide) (fun c73 => ?_) (fun c73 => ?_)
      · have hF := ite_t hF c73
        refine g_iload hX dX8_byLot_89 (j := 1) rfl ?_
        refine g_iconst (v := 1) hX dX8_byLot_91 (by decide) ?_
        refine g_icmp_ne (tgt := 109) hX dX8_byLot_92 (by decide) (fun c92 => ?_) (fun c92 => ?_)
        · have hF := ite_t hF c92
          refine g_aload_n hX dX8_byLot_109 (i := 0) rfl (j := 4) rfl ?_
          refine g_iload hX dX8_byLot_110 (j := 3) rfl ?_
          refine g_iload hX dX8_byLot_112 (j := 2) rfl ?_
          obtain ⟨v114, h114, e114, hF⟩ := bi2_some hF
          refine g_callV (As := [.int v37, .int v51]) (rest := []) (stk := [.int v114]) hX dX8_byLot_114 (ctX8_remove hM hW p0 v37 v51 t0 e114) (by decide) (by decide) wm_X8_345 wi_X8_remove ws_X8_remove wz_X8 wc_X8_remove hyX8_remove rfl (ci := 8) rfl (by decide) t0.1 (hW.1 _ t0.2).1 (hW.1 _ t0.2).2 (Nat.le_of_ble_eq_true rfl) rfl rfl ?_ rfl rfl
          refine g_sub (L' := [(0, .ref (b + p0)), (1, .int a1), (2, .int a2), (3, .int x3), (4, .int x4), (5, .int x5), (6, .int x6)]) [4, 5, 6, 7, 8, 9, 10] rfl ?_
          exact kX8_byLot_b117 hX hM hW p0 a1 a2 t0 hR (fun h_ z3_ z4_ z5_ z6_ => fX8_byLot_b29 r p0 a1 a2 n h_ z3_ z4_ z5_ z6_) ih h114 v114 x3 x4 x5 x6 hF
        · have hF := ite_f hF (fun z => z c92)
          refine g_aload_n hX dX8_byLot_95 (i := 0) rfl (j := 4) rfl ?_
          refine g_iload hX dX8_byLot_96 (j := 3) rfl ?_
          refine g_iload hX dX8_byLot_98 (j := 2) rfl ?_
          refine g_iconst (v := (-1)) hX dX8_byLot_100 (by decide) ?_
          refine g_iload hX dX8_byLot_101 (j := 0) rfl ?_
          obtain ⟨v103, h103, e103, hF⟩ := bi2_some hF
          refine g_callV (As := [.int v37, .int v51, .int (-1), .int v66]) (rest := []) (stk := [.int v103]) hX dX8_byLot_103 (ctX8_move hM hW p0 v37 v51 (-1) v66 t0 e103) (by decide) (by decide) wm_X8_341 wi_X8_move ws_X8_move wz_X8 wc_X8_move hyX8_move rfl (ci := 8) rfl (by decide) t0.1 (hW.1 _ t0.2).1 (hW.1 _ t0.2).2 (Nat.le_of_ble_eq_true rfl) rfl rfl ?_ rfl rfl
          refine g_goto (tgt := 117) hX dX8_byLot_106 (by decide) ?_
          refine g_sub (L' := [(0, .ref (b + p0)), (1, .int a1), (2, .int a2), (3, .int x3), (4, .int x4), (5, .int x5), (6, .int x6)]) [4, 5, 6, 7, 8, 9, 10] rfl ?_
          exact kX8_byLot_b117 hX hM hW p0 a1 a2 t0 hR (fun h_ z3_ z4_ z5_ z6_ => fX8_byLot_b29 r p0 a1 a2 n h_ z3_ z4_ z5_ z6_) ih h103 v103 x3 x4 x5 x6 hF
      · have hF := ite_f hF (fun z => z c73)
        refine g_aload_n hX dX8_byLot_76 (i := 0) rfl (j := 4) rfl ?_
        refine g_iload hX dX8_byLot_77 (j := 3) rfl ?_
        refine g_iload hX dX8_byLot_79 (j := 2) rfl ?_
        refine g_iload hX dX8_byLot_81 (j := 0) rfl ?_
        obtain ⟨v83, h83, e83, hF⟩ := bi2_some hF
        refine g_callV (As := [.int v37, .int v51, .int v66]) (rest := []) (stk := [.int v83]) hX dX8_byLot_83 (ctX8_write hM hW p0 v37 v51 v66 t0 e83) (by decide) (by decide) wm_X8_338 wi_X8_write ws_X8_write wz_X8 wc_X8_write hyX8_write rfl (ci := 8) rfl (by decide) t0.1 (hW.1 _ t0.2).1 (hW.1 _ t0.2).2 (Nat.le_of_ble_eq_true rfl) rfl rfl ?_ rfl rfl
        refine g_goto (tgt := 117) hX dX8_byLot_86 (by decide) ?_
        refine g_sub (L' := [(0, .ref (b + p0)), (1, .int a1), (2, .int a2), (3, .int x3), (4, .int x4), (5, .int x5), (6, .int x6)]) [4, 5, 6, 7, 8, 9, 10] rfl ?_
        exact kX8_byLot_b117 hX hM hW p0 a1 a2 t0 hR (fun h_ z3_ z4_ z5_ z6_ => fX8_byLot_b29 r p0 a1 a2 n h_ z3_ z4_ z5_ z6_) ih h83 v83 x3 x4 x5 x6 hF
set_option maxRecDepth 100000 in
set_option maxHeartbeats 4000000 in
theorem kX8_byLot {X : XT} {b N sz : Nat} {ok : Nat → Prop} {h : HH} {r : RR} {w : Int32 × HH} (hX : XOK X RX8 cX8_byLot 12 6) (hM : N ≤ MM) (hW : WT KM lnM ok N r) (p0 : Nat) (a1 : Int32) (a2 : Int32) (t0 : KM p0 = 8 ∧ ok p0) (hR : XR X b KM lnM MM (some FieldType.int) 0 0 N sz (some (.int w.1)) w.2 r) (hF : fX8_byLot h r p0 a1 a2 = some w) : GX X b KM lnM MM 12 0 0 N sz 0 [(0, .ref (b + p0)), (1, .int a1), (2, .int a2)] [] h r := by
  rw [fX8_byLot] at hF
  refine g_aload_n hX dX8_byLot_0 (i := 0) rfl (j := 0) rfl ?_
  refine gf_X8_145 hX dX8_byLot_1 (ty1 hW t0) ?_
  obtain ⟨y4, e4, hF⟩ := lt_some hF
  refine g_topi e4 ?_
  refine g_istore_n (L' := [(3, .int y4), (0, .ref (b + p0)), (1, .int a1), (2, .int a2)]) hX dX8_byLot_4 (i := 3) rfl (by decide) rfl ?_
  refine g_aload_n hX dX8_byLot_5 (i := 0) rfl (j := 1) rfl ?_
  refine gf_X8_29 hX dX8_byLot_6 (ty1 hW t0) ?_
  obtain ⟨y9, e9, hF⟩ := lt_some hF
  refine g_topi e9 ?_
  refine g_istore (L' := [(4, .int y9), (3, .int y4), (0, .ref (b + p0)), (1, .int a1), (2, .int a2)]) hX dX8_byLot_9 (by decide) rfl ?_
  refine g_aload_n hX dX8_byLot_11 (i := 0) rfl (j := 2) rfl ?_
  refine gf_X8_148 hX dX8_byLot_12 (ty1 hW t0) ?_
  obtain ⟨y15, e15, hF⟩ := lt_some hF
  refine g_topi e15 ?_
  refine g_istore (L' := [(5, .int y15), (4, .int y9), (3, .int y4), (0, .ref (b + p0)), (1, .int a1), (2, .int a2)]) hX dX8_byLot_15 (by decide) rfl ?_
  refine g_aload_n hX dX8_byLot_17 (i := 0) rfl (j := 3) rfl ?_
  obtain ⟨h18, e18, hF⟩ := bi_some hF
  refine g_callV (As := []) (rest := []) (stk := []) hX dX8_byLot_18 (ctX8_keep hM hW p0 t0 e18) (by decide) (by decide) wm_X8_332 wi_X8_keep ws_X8_keep wz_X8 wc_X8_keep hyX8_keep rfl (ci := 8) rfl (by decide) t0.1 (hW.1 _ t0.2).1 (hW.1 _ t0.2).2 (Nat.le_of_ble_eq_true rfl) rfl rfl ?_ rfl rfl
  refine g_aload_n hX dX8_byLot_21 (i := 0) rfl (j := 3) rfl ?_
  refine g_iload_n hX dX8_byLot_22 (i := 1) rfl (j := 4) rfl ?_
  obtain ⟨h23, e23, hF⟩ := lt_some hF
  refine pf_X8_328 hX dX8_byLot_23 (ty1 hW t0) hM e23 ?_
  refine g_iconst (v := 0) hX dX8_byLot_26 (by decide) ?_
  refine g_istore (L' := [(6, .int 0), (5, .int y15), (4, .int y9), (3, .int y4), (0, .ref (b + p0)), (1, .int a1), (2, .int a2)]) hX dX8_byLot_27 (by decide) rfl ?_
  refine g_sub (L' := [(0, .ref (b + p0)), (1, .int a1), (2, .int a2), (3, .int y4), (4, .int y9), (5, .int y15), (6, .int 0)]) [4, 5, 6, 3, 2, 1, 0] rfl ?_
  exact kX8_byLot_b29 hX hM hW p0 a1 a2 t0 hR lpF h23 y4 y9 y15 0 hF
theorem ctX8_byLot {b N sz : Nat} {ok : Nat → Prop} {h : HH} {r : RR} {w : Int32 × HH} (hM : N ≤ MM) (hW : WT KM lnM ok N r) (p0 : Nat) (a1 : Int32) (a2 : Int32) (t0 : KM p0 = 8 ∧ ok p0) (hF : fX8_byLot h r p0 a1 a2 = some w) : CT yX8_byLot cX8_byLot 12 (some FieldType.int) 6 b KM lnM MM N sz [.ref (b + p0), .int a1, .int a2] h r N sz (some (.int w.1)) w.2 r 0 0 :=
  CT_of (by decide) rfl (Nat.le_of_ble_eq_true rfl) (by decide) trivial (fun X hX hR => kX8_byLot hX hM hW p0 a1 a2 t0 hR hF)
/-! X8_drawn -/
def fX8_drawn (h : HH) (r : RR) (p0 : Nat) (a1 : Int32) (a2 : Int32) : Option (Int32 × HH) := (fX8_in h r a2 0 20).bind (fun v4 => if v4 = 0 then (some ((-2), h)) else (bi2 (fX8_byLot h r p0 a1 a2) (fun v13 h13 => some (v13, h13))))
set_option maxRecDepth 100000 in
set_option maxHeartbeats 4000000 in
theorem kX8_drawn {X : XT} {b N sz : Nat} {ok : Nat → Prop} {h : HH} {r : RR} {w : Int32 × HH} (hX : XOK X RX8 cX8_drawn 3 7) (hM : N ≤ MM) (hW : WT KM lnM ok N r) (p0 : Nat) (a1 : Int32) (a2 : Int32) (t0 : KM p0 = 8 ∧ ok p0) (hR : XR X b KM lnM MM (some FieldType.int) 0 0 N sz (some (.int w.1)) w.2 r) (hF : fX8_drawn h r p0 a1 a2 = some w) : GX X b KM lnM MM 3 0 0 N sz 0 [(0, .ref (b + p0)), (1, .int a1), (2, .int a2)] [] h r := by
  rw [fX8_drawn] at hF
  refine g_iload_n hX dX8_drawn_0 (i := 2) rfl (j := 2) rfl ?_
  refine g_iconst (v := 0) hX dX8_drawn_1 (by decide) ?_
  refine g_bipush (v := 20) hX dX8_drawn_2 (by decide) ?_
  obtain ⟨v4, e4, hF⟩ := bi_some hF
  refine g_callS (As := [.int a2, .int 0, .int 20]) (rest := []) (stk := [.int v4]) hX dX8_drawn_4 (ctX8_in hM hW a2 0 20 e4) (by decide) (by decide) wm_X8_133 wt_X8_in wz_X8 wc_X8_in hyX8_in rfl (Nat.le_of_ble_eq_true rfl) rfl rfl ?_ rfl rfl
  refine g_if_eq (tgt := 19) hX dX8_drawn_7 (by decide) (fun c7 => ?_) (fun c7 => ?_)
  · have hF := ite_t hF c7
    refine g_bipush (v := (-2)) hX dX8_drawn_19 (by decide) ?_
    obtain rfl := Option.some.inj hF
    exact g_iret hX dX8_drawn_21 hR
  · have hF := ite_f hF c7
    refine g_aload_n hX dX8_drawn_10 (i := 0) rfl (j := 0) rfl ?_
    refine g_iload_n hX dX8_drawn_11 (i := 1) rfl (j := 1) rfl ?_
    refine g_iload_n hX dX8_drawn_12 (i := 2) rfl (j := 2) rfl ?_
    obtain ⟨v13, h13, e13, hF⟩ := bi2_some hF
    refine g_callV (As := [.int a1, .int a2]) (rest := []) (stk := [.int v13]) hX dX8_drawn_13 (ctX8_byLot hM hW p0 a1 a2 t0 e13) (by decide) (by decide) wm_X8_351 wi_X8_byLot ws_X8_byLot wz_X8 wc_X8_byLot hyX8_byLot rfl (ci := 8) rfl (by decide) t0.1 (hW.1 _ t0.2).1 (hW.1 _ t0.2).2 (Nat.le_of_ble_eq_true rfl) rfl rfl ?_ rfl rfl
    refine g_goto (tgt := 21) hX dX8_drawn_16 (by decide) ?_
    obtain rfl := Option.some.inj hF
    exact g_iret hX dX8_drawn_21 hR
theorem ctX8_drawn {b N sz : Nat} {ok : Nat → Prop} {h : HH} {r : RR} {w : Int32 × HH} (hM : N ≤ MM) (hW : WT KM lnM ok N r) (p0 : Nat) (a1 : Int32) (a2 : Int32) (t0 : KM p0 = 8 ∧ ok p0) (hF : fX8_drawn h r p0 a1 a2 = some w) : CT yX8_drawn cX8_drawn 3 (some FieldType.int) 7 b KM lnM MM N sz [.ref (b + p0), .int a1, .int a2] h r N sz (some (.int w.1)) w.2 r 0 0 :=
  CT_of (by decide) rfl (Nat.le_of_ble_eq_true rfl) (by decide) trivial (fun X hX hR => kX8_drawn hX hM hW p0 a1 a2 t0 hR hF)
/-! X8_common -/
def fX8_common (h : HH) (r : RR) : Nat → Int32 → Int32 → Option Int32
  | 0, _, _ => none
  | n + 1, a0, a1 => if ¬ a1 = 0 then (gd (decide (¬ a1 = 0)) ((fX8_common h r n a1 (irm a0 a1)).bind (fun v12 => some (v12)))) else (some (a0))
set_option maxRecDepth 100000 in
set_option maxHeartbeats 4000000 in
theorem ctX8_common {b N sz : Nat} {ok : Nat → Prop} {h : HH} {r : RR} : ∀ (n : Nat) (hM : N ≤ MM) (hW : WT KM lnM ok N r) (a0 a1 : Int32) {w : Int32} (hF : fX8_common h r n a0 a1 = some w), CT yX8_common cX8_common 2 (some FieldType.int) n b KM lnM MM N sz [.int a0, .int a1] h r N sz (some (.int w)) h r 0 0 := by
  intro n
  induction n with
  | zero =>
    intro hM hW a0 a1 w hF
    cases hF
  | succ n ih =>
    intro hM hW a0 a1 w hF
    rw [fX8_common] at hF
    refine CT_of (by decide) rfl (Nat.le_of_ble_eq_true rfl) (by decide) trivial (fun X hX hR => ?_)
    refine g_sub (L' := [(0, .int a0), (1, .int a1)]) [0, 1] rfl ?_
    refine g_iload_n hX dX8_common_0 (i := 1) rfl (j := 1) rfl ?_
    refine g_if_ne (tgt := 8) hX dX8_common_1 (by decide) (fun c1 => ?_) (fun c1 => ?_)
    · have hF := ite_t hF c1
      refine g_iload_n hX dX8_common_8 (i := 1) rfl (j := 1) rfl ?_
      refine g_iload_n hX dX8_common_9 (i := 0) rfl (j := 0) rfl ?_
      refine g_iload_n hX dX8_common_10 (i := 1) rfl (j := 1) rfl ?_
      obtain ⟨g11, hF⟩ := gd_some hF
      refine g_irem hX dX8_common_11 (of_decide_eq_true g11) ?_
      obtain ⟨v12, e12, hF⟩ := bi_some hF
      refine g_callS (As := [.int a1, .int (irm a0 a1)]) (rest := []) (stk := [.int v12]) hX dX8_common_12 (ih hM hW a1 (irm a0 a1) e12) (Nat.le_refl _) (by decide) wm_X8_354 wt_X8_common wz_X8 wc_X8_common hyX8_common rfl (Nat.le_of_ble_eq_true rfl) rfl rfl ?_ rfl rfl
      obtain rfl := Option.some.inj hF
      exact g_iret hX dX8_common_15 hR
    · have hF := ite_f hF (fun z => z c1)
      refine g_iload_n hX dX8_common_4 (i := 0) rfl (j := 0) rfl ?_
      refine g_goto (tgt := 15) hX dX8_common_5 (by decide) ?_
      obtain rfl := Option.some.inj hF
      exact g_iret hX dX8_common_15 hR
/-! X8_chance -/
def fX8_chance_b50 (r : RR) (p0 : Nat) (a1 : Int32) (a2 : Int32) (a3 : Int32) (k28 : HH → Int32 → Int32 → Option (Int32 × HH)) (h : HH) (x4 : Int32) (x5 : Int32) : Option (Int32 × HH) := k28 h x4 (x5 + 1)
def fX8_chance_b66 (r : RR) (p0 : Nat) (a1 : Int32) (a2 : Int32) (a3 : Int32) (h : HH) (s0 : Int32) (x4 : Int32) : Option (Int32 × HH) := (fX8_common h r 64 x4 a2).bind (fun v69 => gd (decide (¬ v69 = 0)) (some (s0 / v69, h)))
def fX8_chance_b28 (r : RR) (p0 : Nat) (a1 : Int32) (a2 : Int32) (a3 : Int32) : Nat → HH → Int32 → Int32 → Option (Int32 × HH)
  | 0, _, _, _ => none
  | n + 1, h, x4, x5 => if a2 ≤ x5 then (if ¬ a3 = 0 then (fX8_chance_b66 r p0 a1 a2 a3 h a2 x4) else (fX8_chance_b66 r p0 a1 a2 a3 h x4 x4)) else (bi2 (fX8_byLot h r p0 (a1 + x5) 8) (fun v41 h41 => if v41 ≤ 0 then (fX8_chance_b50 r p0 a1 a2 a3 (fun h_ z4_ z5_ => fX8_chance_b28 r p0 a1 a2 a3 n h_ z4_ z5_) h41 x4 x5) else (fX8_chance_b50 r p0 a1 a2 a3 (fun h_ z4_ z5_ => fX8_chance_b28 r p0 a1 a2 a3 n h_ z4_ z5_) h41 (x4 + 1) x5)))
def fX8_chance (h : HH) (r : RR) (p0 : Nat) (a1 : Int32) (a2 : Int32) (a3 : Int32) : Option (Int32 × HH) := (fX8_in h r a2 1 10).bind (fun v4 => if v4 = 0 then (some ((-2), h)) else ((fX8_in h r a3 0 1).bind (fun v13 => if ¬ v13 = 0 then (fX8_chance_b28 r p0 a1 a2 a3 lpF h 0 0) else (some ((-2), h)))))
set_option maxRecDepth 100000 in
set_option maxHeartbeats 4000000 in
theorem kX8_chance_b50 {X : XT} {b N sz : Nat} {ok : Nat → Prop} {r : RR} {w : Int32 × HH} (hX : XOK X RX8 cX8_chance 6 65) (hM : N ≤ MM) (hW : WT KM lnM ok N r) (p0 : Nat) (a1 : Int32) (a2 : Int32) (a3 : Int32) (t0 : KM p0 = 8 ∧ ok p0) (hR : XR X b KM lnM MM (some FieldType.int) 0 0 N sz (some (.int w.1)) w.2 r) (k28 : HH → Int32 → Int32 → Option (Int32 × HH)) (hk28 : ∀ (h : HH) (x4 : Int32) (x5 : Int32), k28 h x4 x5 = some w → GX X b KM lnM MM 6 0 0 N sz 28 [(0, .ref (b + p0)), (1, .int a1), (2, .int a2), (3, .int a3), (4, .int x4), (5, .int x5)] [] h r) (h : HH) (x4 : Int32) (x5 : Int32) (hF : fX8_chance_b50 r p0 a1 a2 a3 k28 h x4 x5 = some w) : GX X b KM lnM MM 6 0 0 N sz 50 [(0, .ref (b + p0)), (1, .int a1), (2, .int a2), (3, .int a3), (4, .int x4), (5, .int x5)] [] h r := by
  rw [fX8_chance_b50] at hF
  refine g_iinc (L' := [(5, .int (x5 + 1)), (0, .ref (b + p0)), (1, .int a1), (2, .int a2), (3, .int a3), (4, .int x4)]) (j := 5) hX dX8_chance_50 rfl rfl (by decide) rfl ?_
  refine g_goto (tgt := 28) hX dX8_chance_53 (by decide) ?_
  refine g_sub (L' := [(0, .ref (b + p0)), (1, .int a1), (2, .int a2), (3, .int a3), (4, .int x4), (5, .int (x5 + 1))]) [1, 2, 3, 4, 5, 0] rfl ?_
  exact hk28 h x4 (x5 + 1) hF
set_option maxRecDepth 100000 in
set_option maxHeartbeats 4000000 in
theorem kX8_chance_b66 {X : XT} {b N sz : Nat} {ok : Nat → Prop} {r : RR} {w : Int32 × HH} (hX : XOK X RX8 cX8_chance 6 65) (hM : N ≤ MM) (hW : WT KM lnM ok N r) (p0 : Nat) (a1 : Int32) (a2 : Int32) (a3 : Int32) (t0 : KM p0 = 8 ∧ ok p0) (hR : XR X b KM lnM MM (some FieldType.int) 0 0 N sz (some (.int w.1)) w.2 r) (h : HH) (s0 : Int32) (x4 : Int32) (hF : fX8_chance_b66 r p0 a1 a2 a3 h s0 x4 = some w) : GX X b KM lnM MM 6 0 0 N sz 66 [(0, .ref (b + p0)), (1, .int a1), (2, .int a2), (3, .int a3), (4, .int x4)] [.int s0] h r := by
  rw [fX8_chance_b66] at hF
  refine g_iload hX dX8_chance_66 (j := 4) rfl ?_
  refine g_iload_n hX dX8_chance_68 (i := 2) rfl (j := 2) rfl ?_
  obtain ⟨v69, e69, hF⟩ := bi_some hF
  refine g_callS (As := [.int x4, .int a2]) (rest := [.int s0]) (stk := [.int v69, .int s0]) hX dX8_chance_69 (ctX8_common 64 hM hW x4 a2 e69) (by decide) (by decide) wm_X8_354 wt_X8_common wz_X8 wc_X8_common hyX8_common rfl (Nat.le_of_ble_eq_true rfl) rfl rfl ?_ rfl rfl
  obtain ⟨g72, hF⟩ := gd_some hF
  refine g_idiv hX dX8_chance_72 (of_decide_eq_true g72) ?_
  obtain rfl := Option.some.inj hF
  exact g_iret hX dX8_chance_73 hR
set_option maxRecDepth 100000 in
set_option maxHeartbeats 4000000 in
theorem kX8_chance_b28 {X : XT} {b N sz : Nat} {ok : Nat → Prop} {r : RR} {w : Int32 × HH} (hX : XOK X RX8 cX8_chance 6 65) (hM : N ≤ MM) (hW : WT KM lnM ok N r) (p0 : Nat) (a1 : Int32) (a2 : Int32) (a3 : Int32) (t0 : KM p0 = 8 ∧ ok p0) (hR : XR X b KM lnM MM (some FieldType.int) 0 0 N sz (some (.int w.1)) w.2 r) : ∀ (n : Nat) (h : HH) (x4 : Int32) (x5 : Int32), fX8_chance_b28 r p0 a1 a2 a3 n h x4 x5 = some w → GX X b KM lnM MM 6 0 0 N sz 28 [(0, .ref (b + p0)), (1, .int a1), (2, .int a2), (3, .int a3), (4, .int x4), (5, .int x5)] [] h r := by
  intro n
  induction n with
  | zero =>
    intro h x4 x5 hF
    cases hF
  | succ n ih =>
    intro h x4 x5 hF
    rw [fX8_chance_b28] at hF
    refine g_iload hX dX8_chance_28 (j := 5) rfl ?_
    refine g_iload_n hX dX8_chance_30 (i := 2) rfl (j := 2) rfl ?_
    refine g_icmp_ge (tgt := 56) hX dX8_chance_31 (by decide) (fun c31 => ?_) (fun c31 => ?_)
    · have hF := ite_t hF c31
      refine g_iload_n hX dX8_chance_56 (i := 3) rfl (j := 3) rfl ?_
      refine g_if_ne (tgt := 65) hX dX8_chance_57 (by decide) (fun c57 => ?_) (fun c57 => ?_)
      · have hF := ite_t hF c57
        refine g_iload_n hX dX8_chance_65 (i := 2) rfl (j := 2) rfl ?_
        refine g_sub (L' := [(0, .ref (b + p0)), (1, .int a1), (2, .int a2), (3, .int a3), (4, .int x4)]) [0, 1, 2, 3, 4] rfl ?_
        exact kX8_chance_b66 hX hM hW p0 a1 a2 a3 t0 hR h a2 x4 hF
      · have hF := ite_f hF (fun z => z c57)
        refine g_iload hX dX8_chance_60 (j := 4) rfl ?_
        refine g_goto (tgt := 66) hX dX8_chance_62 (by decide) ?_
        refine g_sub (L' := [(0, .ref (b + p0)), (1, .int a1), (2, .int a2), (3, .int a3), (4, .int x4)]) [0, 1, 2, 3, 4] rfl ?_
        exact kX8_chance_b66 hX hM hW p0 a1 a2 a3 t0 hR h x4 x4 hF
    · have hF := ite_f hF c31
      refine g_aload_n hX dX8_chance_34 (i := 0) rfl (j := 0) rfl ?_
      refine g_iload_n hX dX8_chance_35 (i := 1) rfl (j := 1) rfl ?_
      refine g_iload hX dX8_chance_36 (j := 5) rfl ?_
      refine g_iadd hX dX8_chance_38 ?_
      refine g_bipush (v := 8) hX dX8_chance_39 (by decide) ?_
      obtain ⟨v41, h41, e41, hF⟩ := bi2_some hF
      refine g_callV (As := [.int (a1 + x5), .int 8]) (rest := []) (stk := [.int v41]) hX dX8_chance_41 (ctX8_byLot hM hW p0 (a1 + x5) 8 t0 e41) (by decide) (by decide) wm_X8_351 wi_X8_byLot ws_X8_byLot wz_X8 wc_X8_byLot hyX8_byLot rfl (ci := 8) rfl (by decide) t0.1 (hW.1 _ t0.2).1 (hW.1 _ t0.2).2 (Nat.le_of_ble_eq_true rfl) rfl rfl ?_ rfl rfl
      refine g_if_le (tgt := 50) hX dX8_chance_44 (by decide) (fun c44 => ?_) (fun c44 => ?_)
      · have hF := ite_t hF c44
        refine g_sub (L' := [(0, .ref (b + p0)), (1, .int a1), (2, .int a2), (3, .int a3), (4, .int x4), (5, .int x5)]) [0, 1, 2, 3, 4, 5] rfl ?_
        exact kX8_chance_b50 hX hM hW p0 a1 a2 a3 t0 hR (fun h_ z4_ z5_ => fX8_chance_b28 r p0 a1 a2 a3 n h_ z4_ z5_) ih h41 x4 x5 hF
      · have hF := ite_f hF c44
        refine g_iinc (L' := [(4, .int (x4 + 1)), (0, .ref (b + p0)), (1, .int a1), (2, .int a2), (3, .int a3), (5, .int x5)]) (j := 4) hX dX8_chance_47 rfl rfl (by decide) rfl ?_
        refine g_sub (L' := [(0, .ref (b + p0)), (1, .int a1), (2, .int a2), (3, .int a3), (4, .int (x4 + 1)), (5, .int x5)]) [1, 2, 3, 4, 0, 5] rfl ?_
        exact kX8_chance_b50 hX hM hW p0 a1 a2 a3 t0 hR (fun h_ z4_ z5_ => fX8_chance_b28 r p0 a1 a2 a3 n h_ z4_ z5_) ih h41 (x4 + 1) x5 hF
set_option maxRecDepth 100000 in
set_option maxHeartbeats 4000000 in
theorem kX8_chance {X : XT} {b N sz : Nat} {ok : Nat → Prop} {h : HH} {r : RR} {w : Int32 × HH} (hX : XOK X RX8 cX8_chance 6 65) (hM : N ≤ MM) (hW : WT KM lnM ok N r) (p0 : Nat) (a1 : Int32) (a2 : Int32) (a3 : Int32) (t0 : KM p0 = 8 ∧ ok p0) (hR : XR X b KM lnM MM (some FieldType.int) 0 0 N sz (some (.int w.1)) w.2 r) (hF : fX8_chance h r p0 a1 a2 a3 = some w) : GX X b KM lnM MM 6 0 0 N sz 0 [(0, .ref (b + p0)), (1, .int a1), (2, .int a2), (3, .int a3)] [] h r := by
  rw [fX8_chance] at hF
  refine g_iload_n hX dX8_chance_0 (i := 2) rfl (j := 2) rfl ?_
  refine g_iconst (v := 1) hX dX8_chance_1 (by decide) ?_
  refine g_bipush (v := 10) hX dX8_chance_2 (by decide) ?_
  obtain ⟨v4, e4, hF⟩ := bi_some hF
  refine g_callS (As := [.int a2, .int 1, .int 10]) (rest := []) (stk := [.int v4]) hX dX8_chance_4 (ctX8_in hM hW a2 1 10 e4) (by decide) (by decide) wm_X8_133 wt_X8_in wz_X8 wc_X8_in hyX8_in rfl (Nat.le_of_ble_eq_true rfl) rfl rfl ?_ rfl rfl
  refine g_if_eq (tgt := 19) hX dX8_chance_7 (by decide) (fun c7 => ?_) (fun c7 => ?_)
  · have hF := ite_t hF c7
    refine g_bipush (v := (-2)) hX dX8_chance_19 (by decide) ?_
    obtain rfl := Option.some.inj hF
    exact g_iret hX dX8_chance_21 hR
  · have hF := ite_f hF c7
    refine g_iload_n hX dX8_chance_10 (i := 3) rfl (j := 3) rfl ?_
    refine g_iconst (v := 0) hX dX8_chance_11 (by decide) ?_
    refine g_iconst (v := 1) hX dX8_chance_12 (by decide) ?_
    obtain ⟨v13, e13, hF⟩ := bi_some hF
    refine g_callS (As := [.int a3, .int 0, .int 1]) (rest := []) (stk := [.int v13]) hX dX8_chance_13 (ctX8_in hM hW a3 0 1 e13) (by decide) (by decide) wm_X8_133 wt_X8_in wz_X8 wc_X8_in hyX8_in rfl (Nat.le_of_ble_eq_true rfl) rfl rfl ?_ rfl rfl
    refine g_if_ne (tgt := 22) hX dX8_chance_16 (by decide) (fun c16 => ?_) (fun c16 => ?_)
    · have hF := ite_t hF c16
      refine g_iconst (v := 0) hX dX8_chance_22 (by decide) ?_
      refine g_istore (L' := [(4, .int 0), (0, .ref (b + p0)), (1, .int a1), (2, .int a2), (3, .int a3)]) hX dX8_chance_23 (by decide) rfl ?_
      refine g_iconst (v := 0) hX dX8_chance_25 (by decide) ?_
      refine g_istore (L' := [(5, .int 0), (4, .int 0), (0, .ref (b + p0)), (1, .int a1), (2, .int a2), (3, .int a3)]) hX dX8_chance_26 (by decide) rfl ?_
      refine g_sub (L' := [(0, .ref (b + p0)), (1, .int a1), (2, .int a2), (3, .int a3), (4, .int 0), (5, .int 0)]) [2, 3, 4, 5, 1, 0] rfl ?_
      exact kX8_chance_b28 hX hM hW p0 a1 a2 a3 t0 hR lpF h 0 0 hF
    · have hF := ite_f hF (fun z => z c16)
      refine g_bipush (v := (-2)) hX dX8_chance_19 (by decide) ?_
      obtain rfl := Option.some.inj hF
      exact g_iret hX dX8_chance_21 hR
theorem ctX8_chance {b N sz : Nat} {ok : Nat → Prop} {h : HH} {r : RR} {w : Int32 × HH} (hM : N ≤ MM) (hW : WT KM lnM ok N r) (p0 : Nat) (a1 : Int32) (a2 : Int32) (a3 : Int32) (t0 : KM p0 = 8 ∧ ok p0) (hF : fX8_chance h r p0 a1 a2 a3 = some w) : CT yX8_chance cX8_chance 6 (some FieldType.int) 65 b KM lnM MM N sz [.ref (b + p0), .int a1, .int a2, .int a3] h r N sz (some (.int w.1)) w.2 r 0 0 :=
  CT_of (by decide) rfl (Nat.le_of_ble_eq_true rfl) (by decide) trivial (fun X hX hR => kX8_chance hX hM hW p0 a1 a2 a3 t0 hR hF)
/-! X8_contentOn -/
def fX8_contentOn_b30 (h : HH) (r : RR) (p0 : Nat) (a1 : Int32) (a2 : Int32) : Option (Int32) := some (-1)
def fX8_contentOn (h : HH) (r : RR) (p0 : Nat) (a1 : Int32) (a2 : Int32) : Option (Int32) := (fX8_isThing h r p0 a2).bind (fun v2 => if v2 = 0 then (fX8_contentOn_b30 h r p0 a1 a2) else (gd (inb a1 (lnM (r p0 3))) (gd (inb a2 (lnM (r (r p0 3) (ix a1)))) (if (h (r (r p0 3) (ix a1)) (ix a2)) = 0 then (fX8_contentOn_b30 h r p0 a1 a2) else (gd (inb a1 (lnM (r p0 6))) (gd (inb a2 (lnM (r (r p0 6) (ix a1)))) (some (h (r (r p0 6) (ix a1)) (ix a2)))))))))
set_option maxRecDepth 100000 in
set_option maxHeartbeats 4000000 in
theorem kX8_contentOn_b30 {X : XT} {b N sz : Nat} {ok : Nat → Prop} {h : HH} {r : RR} {w : Int32} (hX : XOK X RX8 cX8_contentOn 3 3) (hM : N ≤ MM) (hW : WT KM lnM ok N r) (p0 : Nat) (a1 : Int32) (a2 : Int32) (t0 : KM p0 = 8 ∧ ok p0) (hR : XR X b KM lnM MM (some FieldType.int) 0 0 N sz (some (.int w)) h r) (hF : fX8_contentOn_b30 h r p0 a1 a2 = some w) : GX X b KM lnM MM 3 0 0 N sz 30 [(0, .ref (b + p0)), (1, .int a1), (2, .int a2)] [] h r := by
  rw [fX8_contentOn_b30] at hF
  refine g_iconst (v := (-1)) hX dX8_contentOn_30 (by decide) ?_
  obtain rfl := Option.some.inj hF
  exact g_iret hX dX8_contentOn_31 hR
set_option maxRecDepth 100000 in
set_option maxHeartbeats 4000000 in
theorem kX8_contentOn {X : XT} {b N sz : Nat} {ok : Nat → Prop} {h : HH} {r : RR} {w : Int32} (hX : XOK X RX8 cX8_contentOn 3 3) (hM : N ≤ MM) (hW : WT KM lnM ok N r) (p0 : Nat) (a1 : Int32) (a2 : Int32) (t0 : KM p0 = 8 ∧ ok p0) (hR : XR X b KM lnM MM (some FieldType.int) 0 0 N sz (some (.int w)) h r) (hF : fX8_contentOn h r p0 a1 a2 = some w) : GX X b KM lnM MM 3 0 0 N sz 0 [(0, .ref (b + p0)), (1, .int a1), (2, .int a2)] [] h r := by
  rw [fX8_contentOn] at hF
  refine g_aload_n hX dX8_contentOn_0 (i := 0) rfl (j := 0) rfl ?_
  refine g_iload_n hX dX8_contentOn_1 (i := 2) rfl (j := 2) rfl ?_
  obtain ⟨v2, e2, hF⟩ := bi_some hF
  refine g_callV (As := [.int a2]) (rest := []) (stk := [.int v2]) hX dX8_contentOn_2 (ctX8_isThing hM hW p0 a2 t0 e2) (by decide) (by decide) wm_X8_137 wi_X8_isThing ws_X8_isThing wz_X8 wc_X8_isThing hyX8_isThing rfl (ci := 8) rfl (by decide) t0.1 (hW.1 _ t0.2).1 (hW.1 _ t0.2).2 (Nat.le_of_ble_eq_true rfl) rfl rfl ?_ rfl rfl
  refine g_if_eq (tgt := 30) hX dX8_contentOn_5 (by decide) (fun c5 => ?_) (fun c5 => ?_)
  · have hF := ite_t hF c5
    refine g_sub (L' := [(0, .ref (b + p0)), (1, .int a1), (2, .int a2)]) [0, 1, 2] rfl ?_
    exact kX8_contentOn_b30 hX hM hW p0 a1 a2 t0 hR hF
  · have hF := ite_f hF c5
    refine g_aload_n hX dX8_contentOn_8 (i := 0) rfl (j := 0) rfl ?_
    have tf9 := (tyF (k := 3) hW t0 (by decide) rfl (by decide) : KM (r p0 3) = 15 ∧ ok (r p0 3))
    refine gf_X8_15 hX dX8_contentOn_9 (ty1 hW t0) (hW.1 _ tf9.2).1 ?_
    refine g_iload_n hX dX8_contentOn_12 (i := 1) rfl (j := 1) rfl ?_
    obtain ⟨g13, hF⟩ := gd_some hF
    have ta13 : KM (r (r p0 3) (ix a1)) = 10 ∧ ok (r (r p0 3) (ix a1)) := tyA hW tf9 (by decide) rfl (by decide) g13
    refine g_aald hX dX8_contentOn_13 tf9.1 (by decide) (by decide) (hW.1 _ tf9.2).1 (hW.1 _ tf9.2).2 g13 (hW.1 _ ta13.2).1 ?_
    refine g_iload_n hX dX8_contentOn_14 (i := 2) rfl (j := 2) rfl ?_
    obtain ⟨g15, hF⟩ := gd_some hF
    refine g_bald hX dX8_contentOn_15 ta13.1 (hW.1 _ ta13.2).1 (hW.1 _ ta13.2).2 g15 ?_
    refine g_if_eq (tgt := 30) hX dX8_contentOn_16 (by decide) (fun c16 => ?_) (fun c16 => ?_)
    · have hF := ite_t hF c16
      refine g_sub (L' := [(0, .ref (b + p0)), (1, .int a1), (2, .int a2)]) [0, 1, 2] rfl ?_
      exact kX8_contentOn_b30 hX hM hW p0 a1 a2 t0 hR hF
    · have hF := ite_f hF c16
      refine g_aload_n hX dX8_contentOn_19 (i := 0) rfl (j := 0) rfl ?_
      have tf20 := (tyF (k := 6) hW t0 (by decide) rfl (by decide) : KM (r p0 6) = 14 ∧ ok (r p0 6))
      refine gf_X8_26 hX dX8_contentOn_20 (ty1 hW t0) (hW.1 _ tf20.2).1 ?_
      refine g_iload_n hX dX8_contentOn_23 (i := 1) rfl (j := 1) rfl ?_
      obtain ⟨g24, hF⟩ := gd_some hF
      have ta24 : KM (r (r p0 6) (ix a1)) = 9 ∧ ok (r (r p0 6) (ix a1)) := tyA hW tf20 (by decide) rfl (by decide) g24
      refine g_aald hX dX8_contentOn_24 tf20.1 (by decide) (by decide) (hW.1 _ tf20.2).1 (hW.1 _ tf20.2).2 g24 (hW.1 _ ta24.2).1 ?_
      refine g_iload_n hX dX8_contentOn_25 (i := 2) rfl (j := 2) rfl ?_
      obtain ⟨g26, hF⟩ := gd_some hF
      refine g_iald hX dX8_contentOn_26 ta24.1 (hW.1 _ ta24.2).1 (hW.1 _ ta24.2).2 g26 ?_
      refine g_goto (tgt := 31) hX dX8_contentOn_27 (by decide) ?_
      obtain rfl := Option.some.inj hF
      exact g_iret hX dX8_contentOn_31 hR
theorem ctX8_contentOn {b N sz : Nat} {ok : Nat → Prop} {h : HH} {r : RR} {w : Int32} (hM : N ≤ MM) (hW : WT KM lnM ok N r) (p0 : Nat) (a1 : Int32) (a2 : Int32) (t0 : KM p0 = 8 ∧ ok p0) (hF : fX8_contentOn h r p0 a1 a2 = some w) : CT yX8_contentOn cX8_contentOn 3 (some FieldType.int) 3 b KM lnM MM N sz [.ref (b + p0), .int a1, .int a2] h r N sz (some (.int w)) h r 0 0 :=
  CT_of (by decide) rfl (Nat.le_of_ble_eq_true rfl) (by decide) trivial (fun X hX hR => kX8_contentOn hX hM hW p0 a1 a2 t0 hR hF)
/-! X8_otherwise -/
def fX8_otherwise_b2 (h : HH) (r : RR) (p0 : Nat) (a1 : Int32) (a2 : Int32) : Nat → Int32 → Option (Int32)
  | 0, _ => none
  | n + 1, x3 => gd (inb a1 (lnM (r p0 52))) (if (h (r p0 52) (ix a1)) ≤ x3 then (some (-1)) else ((fX8_contentOn h r p0 a2 x3).bind (fun v15 => gd (inb a1 (lnM (r p0 53))) (gd (inb x3 (lnM (r (r p0 53) (ix a1)))) (if v15 = (h (r (r p0 53) (ix a1)) (ix x3)) then (fX8_otherwise_b2 h r p0 a1 a2 n (x3 + 1)) else (some (x3)))))))
def fX8_otherwise (h : HH) (r : RR) (p0 : Nat) (a1 : Int32) (a2 : Int32) : Option (Int32) := fX8_otherwise_b2 h r p0 a1 a2 lpF 0
set_option maxRecDepth 100000 in
set_option maxHeartbeats 4000000 in
theorem kX8_otherwise_b2 {X : XT} {b N sz : Nat} {ok : Nat → Prop} {h : HH} {r : RR} {w : Int32} (hX : XOK X RX8 cX8_otherwise 4 4) (hM : N ≤ MM) (hW : WT KM lnM ok N r) (p0 : Nat) (a1 : Int32) (a2 : Int32) (t0 : KM p0 = 8 ∧ ok p0) (hR : XR X b KM lnM MM (some FieldType.int) 0 0 N sz (some (.int w)) h r) : ∀ (n : Nat) (x3 : Int32), fX8_otherwise_b2 h r p0 a1 a2 n x3 = some w → GX X b KM lnM MM 4 0 0 N sz 2 [(0, .ref (b + p0)), (1, .int a1), (2, .int a2), (3, .int x3)] [] h r := by
  intro n
  induction n with
  | zero =>
    intro x3 hF
    cases hF
  | succ n ih =>
    intro x3 hF
    rw [fX8_otherwise_b2] at hF
    refine g_iload_n hX dX8_otherwise_2 (i := 3) rfl (j := 3) rfl ?_
    refine g_aload_n hX dX8_otherwise_3 (i := 0) rfl (j := 0) rfl ?_
    have tf4 := (tyF (k := 52) hW t0 (by decide) rfl (by decide) : KM (r p0 52) = 9 ∧ ok (r p0 52))
    refine gf_X8_121 hX dX8_otherwise_4 (ty1 hW t0) (hW.1 _ tf4.2).1 ?_
    refine g_iload_n hX dX8_otherwise_7 (i := 1) rfl (j := 1) rfl ?_
    obtain ⟨g8, hF⟩ := gd_some hF
    refine g_iald hX dX8_otherwise_8 tf4.1 (hW.1 _ tf4.2).1 (hW.1 _ tf4.2).2 g8 ?_
    refine g_icmp_ge (tgt := 37) hX dX8_otherwise_9 (by decide) (fun c9 => ?_) (fun c9 => ?_)
    · have hF := ite_t hF c9
      refine g_iconst (v := (-1)) hX dX8_otherwise_37 (by decide) ?_
      obtain rfl := Option.some.inj hF
      exact g_iret hX dX8_otherwise_38 hR
    · have hF := ite_f hF c9
      refine g_aload_n hX dX8_otherwise_12 (i := 0) rfl (j := 0) rfl ?_
      refine g_iload_n hX dX8_otherwise_13 (i := 2) rfl (j := 2) rfl ?_
      refine g_iload_n hX dX8_otherwise_14 (i := 3) rfl (j := 3) rfl ?_
      obtain ⟨v15, e15, hF⟩ := bi_some hF
      refine g_callV (As := [.int a2, .int x3]) (rest := []) (stk := [.int v15]) hX dX8_otherwise_15 (ctX8_contentOn hM hW p0 a2 x3 t0 e15) (by decide) (by decide) wm_X8_357 wi_X8_contentOn ws_X8_contentOn wz_X8 wc_X8_contentOn hyX8_contentOn rfl (ci := 8) rfl (by decide) t0.1 (hW.1 _ t0.2).1 (hW.1 _ t0.2).2 (Nat.le_of_ble_eq_true rfl) rfl rfl ?_ rfl rfl
      refine g_aload_n hX dX8_otherwise_18 (i := 0) rfl (j := 0) rfl ?_
      have tf19 := (tyF (k := 53) hW t0 (by decide) rfl (by decide) : KM (r p0 53) = 14 ∧ ok (r p0 53))
      refine gf_X8_124 hX dX8_otherwise_19 (ty1 hW t0) (hW.1 _ tf19.2).1 ?_
      refine g_iload_n hX dX8_otherwise_22 (i := 1) rfl (j := 1) rfl ?_
      obtain ⟨g23, hF⟩ := gd_some hF
      have ta23 : KM (r (r p0 53) (ix a1)) = 9 ∧ ok (r (r p0 53) (ix a1)) := tyA hW tf19 (by decide) rfl (by decide) g23
      refine g_aald hX dX8_otherwise_23 tf19.1 (by decide) (by decide) (hW.1 _ tf19.2).1 (hW.1 _ tf19.2).2 g23 (hW.1 _ ta23.2).1 ?_
      refine g_iload_n hX dX8_otherwise_24 (i := 3) rfl (j := 3) rfl ?_
      obtain ⟨g25, hF⟩ := gd_some hF
      refine g_iald hX dX8_otherwise_25 ta23.1 (hW.1 _ ta23.2).1 (hW.1 _ ta23.2).2 g25 ?_
      refine g_icmp_eq (tgt := 31) hX dX8_otherwise_26 (by decide) (fun c26 => ?_) (fun c26 => ?_)
      · have hF := ite_t hF c26
        refine g_iinc (L' := [(3, .int (x3 + 1)), (0, .ref (b + p0)), (1, .int a1), (2, .int a2)]) (j := 3) hX dX8_otherwise_31 rfl rfl (by decide) rfl ?_
        refine g_goto (tgt := 2) hX dX8_otherwise_34 (by decide) ?_
        refine g_sub (L' := [(0, .ref (b + p0)), (1, .int a1), (2, .int a2), (3, .int (x3 + 1))]) [1, 2, 3, 0] rfl ?_
        exact ih (x3 + 1) hF
      · have hF := ite_f hF c26
        refine g_iload_n hX dX8_otherwise_29 (i := 3) rfl (j := 3) rfl ?_
        obtain rfl := Option.some.inj hF
        exact g_iret hX dX8_otherwise_30 hR
set_option maxRecDepth 100000 in
set_option maxHeartbeats 4000000 in
theorem kX8_otherwise {X : XT} {b N sz : Nat} {ok : Nat → Prop} {h : HH} {r : RR} {w : Int32} (hX : XOK X RX8 cX8_otherwise 4 4) (hM : N ≤ MM) (hW : WT KM lnM ok N r) (p0 : Nat) (a1 : Int32) (a2 : Int32) (t0 : KM p0 = 8 ∧ ok p0) (hR : XR X b KM lnM MM (some FieldType.int) 0 0 N sz (some (.int w)) h r) (hF : fX8_otherwise h r p0 a1 a2 = some w) : GX X b KM lnM MM 4 0 0 N sz 0 [(0, .ref (b + p0)), (1, .int a1), (2, .int a2)] [] h r := by
  rw [fX8_otherwise] at hF
  refine g_iconst (v := 0) hX dX8_otherwise_0 (by decide) ?_
  refine g_istore_n (L' := [(3, .int 0), (0, .ref (b + p0)), (1, .int a1), (2, .int a2)]) hX dX8_otherwise_1 (i := 3) rfl (by decide) rfl ?_
  refine g_sub (L' := [(0, .ref (b + p0)), (1, .int a1), (2, .int a2), (3, .int 0)]) [1, 2, 3, 0] rfl ?_
  exact kX8_otherwise_b2 hX hM hW p0 a1 a2 t0 hR lpF 0 hF
theorem ctX8_otherwise {b N sz : Nat} {ok : Nat → Prop} {h : HH} {r : RR} {w : Int32} (hM : N ≤ MM) (hW : WT KM lnM ok N r) (p0 : Nat) (a1 : Int32) (a2 : Int32) (t0 : KM p0 = 8 ∧ ok p0) (hF : fX8_otherwise h r p0 a1 a2 = some w) : CT yX8_otherwise cX8_otherwise 4 (some FieldType.int) 4 b KM lnM MM N sz [.ref (b + p0), .int a1, .int a2] h r N sz (some (.int w)) h r 0 0 :=
  CT_of (by decide) rfl (Nat.le_of_ble_eq_true rfl) (by decide) trivial (fun X hX hR => kX8_otherwise hX hM hW p0 a1 a2 t0 hR hF)
/-! X8_isTarget -/
def fX8_isTarget_b36 (r : RR) (p0 : Nat) (a1 : Int32) (a2 : Int32) (k7 : HH → Int32 → Option (Int32 × HH)) (h : HH) (s0 : Int32) (x3 : Int32) : Option (Int32 × HH) := gd (inb a1 (lnM (r p0 53))) (gd (inb x3 (lnM (r (r p0 53) (ix a1)))) (if s0 = (h (r (r p0 53) (ix a1)) (ix x3)) then (k7 h (x3 + 1)) else (some (0, h))))
def fX8_isTarget_b7 (r : RR) (p0 : Nat) (a1 : Int32) (a2 : Int32) : Nat → HH → Int32 → Option (Int32 × HH)
  | 0, _, _ => none
  | n + 1, h, x3 => gd (inb a1 (lnM (r p0 52))) (if (h (r p0 52) (ix a1)) ≤ x3 then (some (1, h)) else (gd (inb x3 (lnM (r p0 30))) (if (h (r p0 30) (ix x3)) = 0 then (fX8_isTarget_b36 r p0 a1 a2 (fun h_ z3_ => fX8_isTarget_b7 r p0 a1 a2 n h_ z3_) h (-1) x3) else (gd (inb x3 (lnM (r p0 34))) (fX8_isTarget_b36 r p0 a1 a2 (fun h_ z3_ => fX8_isTarget_b7 r p0 a1 a2 n h_ z3_) h (h (r p0 34) (ix x3)) x3)))))
def fX8_isTarget (h : HH) (r : RR) (p0 : Nat) (a1 : Int32) (a2 : Int32) : Option (Int32 × HH) := (fX8_tellTarget h r p0 a2).bind (fun h2 => fX8_isTarget_b7 r p0 a1 a2 lpF h2 0)
set_option maxRecDepth 100000 in
set_option maxHeartbeats 4000000 in
theorem kX8_isTarget_b36 {X : XT} {b N sz : Nat} {ok : Nat → Prop} {r : RR} {w : Int32 × HH} (hX : XOK X RX8 cX8_isTarget 4 6) (hM : N ≤ MM) (hW : WT KM lnM ok N r) (p0 : Nat) (a1 : Int32) (a2 : Int32) (t0 : KM p0 = 8 ∧ ok p0) (hR : XR X b KM lnM MM (some FieldType.boolean) 0 0 N sz (some (.int w.1)) w.2 r) (k7 : HH → Int32 → Option (Int32 × HH)) (hk7 : ∀ (h : HH) (x3 : Int32), k7 h x3 = some w → GX X b KM lnM MM 4 0 0 N sz 7 [(0, .ref (b + p0)), (1, .int a1), (2, .int a2), (3, .int x3)] [] h r) (h : HH) (s0 : Int32) (x3 : Int32) (hF : fX8_isTarget_b36 r p0 a1 a2 k7 h s0 x3 = some w) : GX X b KM lnM MM 4 0 0 N sz 36 [(0, .ref (b + p0)), (1, .int a1), (2, .int a2), (3, .int x3)] [.int s0] h r := by
  rw [fX8_isTarget_b36] at hF
  refine g_aload_n hX dX8_isTarget_36 (i := 0) rfl (j := 0) rfl ?_
  have tf37 := (tyF (k := 53) hW t0 (by decide) rfl (by decide) : KM (r p0 53) = 14 ∧ ok (r p0 53))
  refine gf_X8_124 hX dX8_isTarget_37 (ty1 hW t0) (hW.1 _ tf37.2).1 ?_
  refine g_iload_n hX dX8_isTarget_40 (i := 1) rfl (j := 1) rfl ?_
  obtain ⟨g41, hF⟩ := gd_some hF
  have ta41 : KM (r (r p0 53) (ix a1)) = 9 ∧ ok (r (r p0 53) (ix a1)) := tyA hW tf37 (by decide) rfl (by decide) g41
  refine g_aald hX dX8_isTarget_41 tf37.1 (by decide) (by decide) (hW.1 _ tf37.2).1 (hW.1 _ tf37.2).2 g41 (hW.1 _ ta41.2).1 ?_
  refine g_iload_n hX dX8_isTarget_42 (i := 3) rfl (j := 3) rfl ?_
  obtain ⟨g43, hF⟩ := gd_some hF
  refine g_iald hX dX8_isTarget_43 ta41.1 (hW.1 _ ta41.2).1 (hW.1 _ ta41.2).2 g43 ?_
  refine g_icmp_eq (tgt := 49) hX dX8_isTarget_44 (by decide) (fun c44 => ?_) (fun c44 => ?_)
  · have hF := ite_t hF c44
    refine g_iinc (L' := [(3, .int (x3 + 1)), (0, .ref (b + p0)), (1, .int a1), (2, .int a2)]) (j := 3) hX dX8_isTarget_49 rfl rfl (by decide) rfl ?_
    refine g_goto (tgt := 7) hX dX8_isTarget_52 (by decide) ?_
    refine g_sub (L' := [(0, .ref (b + p0)), (1, .int a1), (2, .int a2), (3, .int (x3 + 1))]) [1, 2, 3, 0] rfl ?_
    exact hk7 h (x3 + 1) hF
  · have hF := ite_f hF c44
    refine g_iconst (v := 0) hX dX8_isTarget_47 (by decide) ?_
    obtain rfl := Option.some.inj hF
    exact g_zret hX dX8_isTarget_48 (by decide) hR
set_option maxRecDepth 100000 in
set_option maxHeartbeats 4000000 in
theorem kX8_isTarget_b7 {X : XT} {b N sz : Nat} {ok : Nat → Prop} {r : RR} {w : Int32 × HH} (hX : XOK X RX8 cX8_isTarget 4 6) (hM : N ≤ MM) (hW : WT KM lnM ok N r) (p0 : Nat) (a1 : Int32) (a2 : Int32) (t0 : KM p0 = 8 ∧ ok p0) (hR : XR X b KM lnM MM (some FieldType.boolean) 0 0 N sz (some (.int w.1)) w.2 r) : ∀ (n : Nat) (h : HH) (x3 : Int32), fX8_isTarget_b7 r p0 a1 a2 n h x3 = some w → GX X b KM lnM MM 4 0 0 N sz 7 [(0, .ref (b + p0)), (1, .int a1), (2, .int a2), (3, .int x3)] [] h r := by
  intro n
  induction n with
  | zero =>
    intro h x3 hF
    cases hF
  | succ n ih =>
    intro h x3 hF
    rw [fX8_isTarget_b7] at hF
    refine g_iload_n hX dX8_isTarget_7 (i := 3) rfl (j := 3) rfl ?_
    refine g_aload_n hX dX8_isTarget_8 (i := 0) rfl (j := 0) rfl ?_
    have tf9 := (tyF (k := 52) hW t0 (by decide) rfl (by decide) : KM (r p0 52) = 9 ∧ ok (r p0 52))
    refine gf_X8_121 hX dX8_isTarget_9 (ty1 hW t0) (hW.1 _ tf9.2).1 ?_
    refine g_iload_n hX dX8_isTarget_12 (i := 1) rfl (j := 1) rfl ?_
    obtain ⟨g13, hF⟩ := gd_some hF
    refine g_iald hX dX8_isTarget_13 tf9.1 (hW.1 _ tf9.2).1 (hW.1 _ tf9.2).2 g13 ?_
    refine g_icmp_ge (tgt := 55) hX dX8_isTarget_14 (by decide) (fun c14 => ?_) (fun c14 => ?_)
    · have hF := ite_t hF c14
      refine g_iconst (v := 1) hX dX8_isTarget_55 (by decide) ?_
      obtain rfl := Option.some.inj hF
      exact g_zret hX dX8_isTarget_56 (by decide) hR
    · have hF := ite_f hF c14
      refine g_aload_n hX dX8_isTarget_17 (i := 0) rfl (j := 0) rfl ?_
      have tf18 := (tyF (k := 30) hW t0 (by decide) rfl (by decide) : KM (r p0 30) = 10 ∧ ok (r p0 30))
      refine gf_X8_64 hX dX8_isTarget_18 (ty1 hW t0) (hW.1 _ tf18.2).1 ?_
      refine g_iload_n hX dX8_isTarget_21 (i := 3) rfl (j := 3) rfl ?_
      obtain ⟨g22, hF⟩ := gd_some hF
      refine g_bald hX dX8_isTarget_22 tf18.1 (hW.1 _ tf18.2).1 (hW.1 _ tf18.2).2 g22 ?_
      refine g_if_eq (tgt := 35) hX dX8_isTarget_23 (by decide) (fun c23 => ?_) (fun c23 => ?_)
      · have hF := ite_t hF c23
        refine g_iconst (v := (-1)) hX dX8_isTarget_35 (by decide) ?_
        refine g_sub (L' := [(0, .ref (b + p0)), (1, .int a1), (2, .int a2), (3, .int x3)]) [0, 1, 2, 3] rfl ?_
        exact kX8_isTarget_b36 hX hM hW p0 a1 a2 t0 hR (fun h_ z3_ => fX8_isTarget_b7 r p0 a1 a2 n h_ z3_) ih h (-1) x3 hF
      · have hF := ite_f hF c23
        refine g_aload_n hX dX8_isTarget_26 (i := 0) rfl (j := 0) rfl ?_
        have tf27 := (tyF (k := 34) hW t0 (by decide) rfl (by decide) : KM (r p0 34) = 9 ∧ ok (r p0 34))
        refine gf_X8_76 hX dX8_isTarget_27 (ty1 hW t0) (hW.1 _ tf27.2).1 ?_
        refine g_iload_n hX dX8_isTarget_30 (i := 3) rfl (j := 3) rfl ?_
        obtain ⟨g31, hF⟩ := gd_some hF
        refine g_iald hX dX8_isTarget_31 tf27.1 (hW.1 _ tf27.2).1 (hW.1 _ tf27.2).2 g31 ?_
        refine g_goto (tgt := 36) hX dX8_isTarget_32 (by decide) ?_
        refine g_sub (L' := [(0, .ref (b + p0)), (1, .int a1), (2, .int a2), (3, .int x3)]) [0, 1, 2, 3] rfl ?_
        exact kX8_isTarget_b36 hX hM hW p0 a1 a2 t0 hR (fun h_ z3_ => fX8_isTarget_b7 r p0 a1 a2 n h_ z3_) ih h (h (r p0 34) (ix x3)) x3 hF
set_option maxRecDepth 100000 in
set_option maxHeartbeats 4000000 in
theorem kX8_isTarget {X : XT} {b N sz : Nat} {ok : Nat → Prop} {h : HH} {r : RR} {w : Int32 × HH} (hX : XOK X RX8 cX8_isTarget 4 6) (hM : N ≤ MM) (hW : WT KM lnM ok N r) (p0 : Nat) (a1 : Int32) (a2 : Int32) (t0 : KM p0 = 8 ∧ ok p0) (hR : XR X b KM lnM MM (some FieldType.boolean) 0 0 N sz (some (.int w.1)) w.2 r) (hF : fX8_isTarget h r p0 a1 a2 = some w) : GX X b KM lnM MM 4 0 0 N sz 0 [(0, .ref (b + p0)), (1, .int a1), (2, .int a2)] [] h r := by
  rw [fX8_isTarget] at hF
  refine g_aload_n hX dX8_isTarget_0 (i := 0) rfl (j := 0) rfl ?_
  refine g_iload_n hX dX8_isTarget_1 (i := 2) rfl (j := 2) rfl ?_
  obtain ⟨h2, e2, hF⟩ := bi_some hF
  refine g_callV (As := [.int a2]) (rest := []) (stk := []) hX dX8_isTarget_2 (ctX8_tellTarget hM hW p0 a2 t0 e2) (by decide) (by decide) wm_X8_291 wi_X8_tellTarget ws_X8_tellTarget wz_X8 wc_X8_tellTarget hyX8_tellTarget rfl (ci := 8) rfl (by decide) t0.1 (hW.1 _ t0.2).1 (hW.1 _ t0.2).2 (Nat.le_of_ble_eq_true rfl) rfl rfl ?_ rfl rfl
  refine g_iconst (v := 0) hX dX8_isTarget_5 (by decide) ?_
  refine g_istore_n (L' := [(3, .int 0), (0, .ref (b + p0)), (1, .int a1), (2, .int a2)]) hX dX8_isTarget_6 (i := 3) rfl (by decide) rfl ?_
  refine g_sub (L' := [(0, .ref (b + p0)), (1, .int a1), (2, .int a2), (3, .int 0)]) [1, 2, 3, 0] rfl ?_
  exact kX8_isTarget_b7 hX hM hW p0 a1 a2 t0 hR lpF h2 0 hF
theorem ctX8_isTarget {b N sz : Nat} {ok : Nat → Prop} {h : HH} {r : RR} {w : Int32 × HH} (hM : N ≤ MM) (hW : WT KM lnM ok N r) (p0 : Nat) (a1 : Int32) (a2 : Int32) (t0 : KM p0 = 8 ∧ ok p0) (hF : fX8_isTarget h r p0 a1 a2 = some w) : CT yX8_isTarget cX8_isTarget 4 (some FieldType.boolean) 6 b KM lnM MM N sz [.ref (b + p0), .int a1, .int a2] h r N sz (some (.int w.1)) w.2 r 0 0 :=
  CT_of (by decide) rfl (Nat.le_of_ble_eq_true rfl) (by decide) trivial (fun X hX hR => kX8_isTarget hX hM hW p0 a1 a2 t0 hR hF)
/-! X8_isSheet -/
def fX8_isSheet (h : HH) (r : RR) (a0 : Int32) : Option (Int32) := (fX8_in h r a0 0 3).bind (fun v3 => bz v3 (some (v3)))
set_option maxRecDepth 100000 in
set_option maxHeartbeats 4000000 in
theorem kX8_isSheet {X : XT} {b N sz : Nat} {ok : Nat → Prop} {h : HH} {r : RR} {w : Int32} (hX : XOK X RX8 cX8_isSheet 1 2) (hM : N ≤ MM) (hW : WT KM lnM ok N r) (a0 : Int32) (hR : XR X b KM lnM MM (some FieldType.boolean) 0 0 N sz (some (.int w)) h r) (hF : fX8_isSheet h r a0 = some w) : GX X b KM lnM MM 1 0 0 N sz 0 [(0, .int a0)] [] h r := by
  rw [fX8_isSheet] at hF
  refine g_iload_n hX dX8_isSheet_0 (i := 0) rfl (j := 0) rfl ?_
  refine g_iconst (v := 0) hX dX8_isSheet_1 (by decide) ?_
  refine g_iconst (v := 3) hX dX8_isSheet_2 (by decide) ?_
  obtain ⟨v3, e3, hF⟩ := bi_some hF
  refine g_callS (As := [.int a0, .int 0, .int 3]) (rest := []) (stk := [.int v3]) hX dX8_isSheet_3 (ctX8_in hM hW a0 0 3 e3) (by decide) (by decide) wm_X8_133 wt_X8_in wz_X8 wc_X8_in hyX8_in rfl (Nat.le_of_ble_eq_true rfl) rfl rfl ?_ rfl rfl
  obtain ⟨z6, hF⟩ := bz_some hF
  obtain rfl := Option.some.inj hF
  exact g_zret hX dX8_isSheet_6 z6 hR
theorem ctX8_isSheet {b N sz : Nat} {ok : Nat → Prop} {h : HH} {r : RR} {w : Int32} (hM : N ≤ MM) (hW : WT KM lnM ok N r) (a0 : Int32) (hF : fX8_isSheet h r a0 = some w) : CT yX8_isSheet cX8_isSheet 1 (some FieldType.boolean) 2 b KM lnM MM N sz [.int a0] h r N sz (some (.int w)) h r 0 0 :=
  CT_of (by decide) rfl (Nat.le_of_ble_eq_true rfl) (by decide) trivial (fun X hX hR => kX8_isSheet hX hM hW a0 hR hF)
/-! X8_tells -/
def fX8_tells_b95 (r : RR) (p0 : Nat) (a1 : Int32) (a2 : Int32) (a3 : Int32) (k69 : HH → Int32 → Int32 → Option (Int32 × HH)) (h : HH) (x4 : Int32) (x5 : Int32) : Option (Int32 × HH) := k69 h x4 (x5 + 1)
def fX8_tells_b130 (r : RR) (p0 : Nat) (a1 : Int32) (a2 : Int32) (a3 : Int32) (k104 : HH → Int32 → Int32 → Option (Int32 × HH)) (h : HH) (x4 : Int32) (x5 : Int32) : Option (Int32 × HH) := k104 h x4 (x5 + 1)
def fX8_tells_b104 (r : RR) (p0 : Nat) (a1 : Int32) (a2 : Int32) (a3 : Int32) : Nat → HH → Int32 → Int32 → Option (Int32 × HH)
  | 0, _, _, _ => none
  | n + 1, h, x4, x5 => if 2 ≤ x5 then (some (x4, h)) else (bi2 (fX8_isTarget h r p0 a1 x5) (fun v114 h114 => if v114 = 0 then (fX8_tells_b130 r p0 a1 a2 a3 (fun h_ z4_ z5_ => fX8_tells_b104 r p0 a1 a2 a3 n h_ z4_ z5_) h114 x4 x5) else (lt (x4 ||| (8 <<< (x5 &&& 31))) (fun y128 => fX8_tells_b130 r p0 a1 a2 a3 (fun h_ z4_ z5_ => fX8_tells_b104 r p0 a1 a2 a3 n h_ z4_ z5_) h114 y128 x5))))
def fX8_tells_b69 (r : RR) (p0 : Nat) (a1 : Int32) (a2 : Int32) (a3 : Int32) : Nat → HH → Int32 → Int32 → Option (Int32 × HH)
  | 0, _, _, _ => none
  | n + 1, h, x4, x5 => if 3 ≤ x5 then (fX8_tells_b104 r p0 a1 a2 a3 lpF h x4 0) else ((fX8_otherwise h r p0 a1 x5).bind (fun v79 => if ¬ v79 = (-1) then (fX8_tells_b95 r p0 a1 a2 a3 (fun h_ z4_ z5_ => fX8_tells_b69 r p0 a1 a2 a3 n h_ z4_ z5_) h x4 x5) else (lt (x4 ||| (1 <<< (x5 &&& 31))) (fun y93 => fX8_tells_b95 r p0 a1 a2 a3 (fun h_ z4_ z5_ => fX8_tells_b69 r p0 a1 a2 a3 n h_ z4_ z5_) h y93 x5))))
def fX8_tells (h : HH) (r : RR) (p0 : Nat) (a1 : Int32) (a2 : Int32) (a3 : Int32) : Option (Int32 × HH) := (fX8_isSheet h r a1).bind (fun v1 => if v1 = 0 then (some ((-2), h)) else ((fX8_isPlace h r a2).bind (fun v8 => if v8 = 0 then (some ((-2), h)) else ((fX8_in h r a3 0 1).bind (fun v17 => if ¬ v17 = 0 then (gd (inb a1 (lnM (r p0 51))) (if 0 ≤ (h (r p0 51) (ix a1)) then (gd (inb a1 (lnM (r p0 52))) (if (h (r p0 52) (ix a1)) ≤ 30 then (if ¬ a3 = 0 then (fX8_tells_b69 r p0 a1 a2 a3 lpF h 0 0) else ((fX8_otherwise h r p0 a1 a2).bind (fun v59 => some (v59, h)))) else (some ((-2), h)))) else (some ((-11), h)))) else (some ((-2), h)))))))
set_option maxRecDepth 100000 in
set_option maxHeartbeats 4000000 in
theorem kX8_tells_b95 {X : XT} {b N sz : Nat} {ok : Nat → Prop} {r : RR} {w : Int32 × HH} (hX : XOK X RX8 cX8_tells 6 7) (hM : N ≤ MM) (hW : WT KM lnM ok N r) (p0 : Nat) (a1 : Int32) (a2 : Int32) (a3 : Int32) (t0 : KM p0 = 8 ∧ ok p0) (hR : XR X b KM lnM MM (some FieldType.int) 0 0 N sz (some (.int w.1)) w.2 r) (k69 : HH → Int32 → Int32 → Option (Int32 × HH)) (hk69 : ∀ (h : HH) (x4 : Int32) (x5 : Int32), k69 h x4 x5 = some w → GX X b KM lnM MM 6 0 0 N sz 69 [(0, .ref (b + p0)), (1, .int a1), (2, .int a2), (3, .int a3), (4, .int x4), (5, .int x5)] [] h r) (h : HH) (x4 : Int32) (x5 : Int32) (hF : fX8_tells_b95 r p0 a1 a2 a3 k69 h x4 x5 = some w) : GX X b KM lnM MM 6 0 0 N sz 95 [(0, .ref (b + p0)), (1, .int a1), (2, .int a2), (3, .int a3), (4, .int x4), (5, .int x5)] [] h r := by
  rw [fX8_tells_b95] at hF
  refine g_iinc (L' := [(5, .int (x5 + 1)), (0, .ref (b + p0)), (1, .int a1), (2, .int a2), (3, .int a3), (4, .int x4)]) (j := 5) hX dX8_tells_95 rfl rfl (by decide) rfl ?_
  refine g_goto (tgt := 69) hX dX8_tells_98 (by decide) ?_
  refine g_sub (L' := [(0, .ref (b + p0)), (1, .int a1), (2, .int a2), (3, .int a3), (4, .int x4), (5, .int (x5 + 1))]) [1, 2, 3, 4, 5, 0] rfl ?_
  exact hk69 h x4 (x5 + 1) hF
set_option maxRecDepth 100000 in
set_option maxHeartbeats 4000000 in
theorem kX8_tells_b130 {X : XT} {b N sz : Nat} {ok : Nat → Prop} {r : RR} {w : Int32 × HH} (hX : XOK X RX8 cX8_tells 6 7) (hM : N ≤ MM) (hW : WT KM lnM ok N r) (p0 : Nat) (a1 : Int32) (a2 : Int32) (a3 : Int32) (t0 : KM p0 = 8 ∧ ok p0) (hR : XR X b KM lnM MM (some FieldType.int) 0 0 N sz (some (.int w.1)) w.2 r) (k104 : HH → Int32 → Int32 → Option (Int32 × HH)) (hk104 : ∀ (h : HH) (x4 : Int32) (x5 : Int32), k104 h x4 x5 = some w → GX X b KM lnM MM 6 0 0 N sz 104 [(0, .ref (b + p0)), (1, .int a1), (2, .int a2), (3, .int a3), (4, .int x4), (5, .int x5)] [] h r) (h : HH) (x4 : Int32) (x5 : Int32) (hF : fX8_tells_b130 r p0 a1 a2 a3 k104 h x4 x5 = some w) : GX X b KM lnM MM 6 0 0 N sz 130 [(0, .ref (b + p0)), (1, .int a1), (2, .int a2), (3, .int a3), (4, .int x4), (5, .int x5)] [] h r := by
  rw [fX8_tells_b130] at hF
  refine g_iinc (L' := [(5, .int (x5 + 1)), (0, .ref (b + p0)), (1, .int a1), (2, .int a2), (3, .int a3), (4, .int x4)]) (j := 5) hX dX8_tells_130 rfl rfl (by decide) rfl ?_
  refine g_goto (tgt := 104) hX dX8_tells_133 (by decide) ?_
  refine g_sub (L' := [(0, .ref (b + p0)), (1, .int a1), (2, .int a2), (3, .int a3), (4, .int x4), (5, .int (x5 + 1))]) [1, 2, 3, 4, 5, 0] rfl ?_
  exact hk104 h x4 (x5 + 1) hF
set_option maxRecDepth 100000 in
set_option maxHeartbeats 4000000 in
theorem kX8_tells_b104 {X : XT} {b N sz : Nat} {ok : Nat → Prop} {r : RR} {w : Int32 × HH} (hX : XOK X RX8 cX8_tells 6 7) (hM : N ≤ MM) (hW : WT KM lnM ok N r) (p0 : Nat) (a1 : Int32) (a2 : Int32) (a3 : Int32) (t0 : KM p0 = 8 ∧ ok p0) (hR : XR X b KM lnM MM (some FieldType.int) 0 0 N sz (some (.int w.1)) w.2 r) : ∀ (n : Nat) (h : HH) (x4 : Int32) (x5 : Int32), fX8_tells_b104 r p0 a1 a2 a3 n h x4 x5 = some w → GX X b KM lnM MM 6 0 0 N sz 104 [(0, .ref (b + p0)), (1, .int a1), (2, .int a2), (3, .int a3), (4, .int x4), (5, .int x5)] [] h r := by
  intro n
  induction n with
  | zero =>
    intro h x4 x5 hF
    cases hF
  | succ n ih =>
    intro h x4 x5 hF
    rw [fX8_tells_b104] at hF
    refine g_iload hX dX8_tells_104 (j := 5) rfl ?_
    refine g_iconst (v := 2) hX dX8_tells_106 (by decide) ?_
    refine g_icmp_ge (tgt := 136) hX dX8_tells_107 (by decide) (fun c107 => ?_) (fun c107 => ?_)
    · have hF := ite_t hF c107
      refine g_iload hX dX8_tells_136 (j := 4) rfl ?_
      obtain rfl := Option.some.inj hF
      exact g_iret hX dX8_tells_138 hR
    · have hF := ite_f hF c107
      refine g_aload_n hX dX8_tells_110 (i := 0) rfl (j := 0) rfl ?_
      refine g_iload_n hX dX8_tells_111 (i := 1) rfl (j := 1) rfl ?_
      refine g_iload hX dX8_tells_112 (j := 5) rfl ?_
      obtain ⟨v114, h114, e114, hF⟩ := bi2_some hF
      refine g_callV (As := [.int a1, .int x5]) (rest := []) (stk := [.int v114]) hX dX8_tells_114 (ctX8_isTarget hM hW p0 a1 x5 t0 e114) (by decide) (by decide) wm_X8_366 wi_X8_isTarget ws_X8_isTarget wz_X8 wc_X8_isTarget hyX8_isTarget rfl (ci := 8) rfl (by decide) t0.1 (hW.1 _ t0.2).1 (hW.1 _ t0.2).2 (Nat.le_of_ble_eq_true rfl) rfl rfl ?_ rfl rfl
      refine g_if_eq (tgt := 130) hX dX8_tells_117 (by decide) (fun c117 => ?_) (fun c117 => ?_)
      · have hF := ite_t hF c117
        refine g_sub (L' := [(0, .ref (b + p0)), (1, .int a1), (2, .int a2), (3, .int a3), (4, .int x4), (5, .int x5)]) [0, 1, 2, 3, 4, 5] rfl ?_
        exact kX8_tells_b130 hX hM hW p0 a1 a2 a3 t0 hR (fun h_ z4_ z5_ => fX8_tells_b104 r p0 a1 a2 a3 n h_ z4_ z5_) ih h114 x4 x5 hF
      · have hF := ite_f hF c117
        refine g_iload hX dX8_tells_120 (j := 4) rfl ?_
        refine g_bipush (v := 8) hX dX8_tells_122 (by decide) ?_
        refine g_iload hX dX8_tells_124 (j := 5) rfl ?_
        refine g_ishl hX dX8_tells_126 ?_
        refine g_ior hX dX8_tells_127 ?_
        obtain ⟨y128, e128, hF⟩ := lt_some hF
        refine g_topi e128 ?_
        refine g_istore (L' := [(4, .int y128), (0, .ref (b + p0)), (1, .int a1), (2, .int a2), (3, .int a3), (5, .int x5)]) hX dX8_tells_128 (by decide) rfl ?_
        refine g_sub (L' := [(0, .ref (b + p0)), (1, .int a1), (2, .int a2), (3, .int a3), (4, .int y128), (5, .int x5)]) [1, 2, 3, 4, 0, 5] rfl ?_
        exact kX8_tells_b130 hX hM hW p0 a1 a2 a3 t0 hR (fun h_ z4_ z5_ => fX8_tells_b104 r p0 a1 a2 a3 n h_ z4_ z5_) ih h114 y128 x5 hF
set_option maxRecDepth 100000 in
set_option maxHeartbeats 4000000 in
theorem kX8_tells_b69 {X : XT} {b N sz : Nat} {ok : Nat → Prop} {r : RR} {w : Int32 × HH} (hX : XOK X RX8 cX8_tells 6 7) (hM : N ≤ MM) (hW : WT KM lnM ok N r) (p0 : Nat) (a1 : Int32) (a2 : Int32) (a3 : Int32) (t0 : KM p0 = 8 ∧ ok p0) (hR : XR X b KM lnM MM (some FieldType.int) 0 0 N sz (some (.int w.1)) w.2 r) : ∀ (n : Nat) (h : HH) (x4 : Int32) (x5 : Int32), fX8_tells_b69 r p0 a1 a2 a3 n h x4 x5 = some w → GX X b KM lnM MM 6 0 0 N sz 69 [(0, .ref (b + p0)), (1, .int a1), (2, .int a2), (3, .int a3), (4, .int x4), (5, .int x5)] [] h r := by
  intro n
  induction n with
  | zero =>
    intro h x4 x5 hF
    cases hF
  | succ n ih =>
    intro h x4 x5 hF
    rw [fX8_tells_b69] at hF
    refine g_iload hX dX8_tells_69 (j := 5) rfl ?_
    refine g_iconst (v := 3) hX dX8_tells_71 (by decide) ?_
    refine g_icmp_ge (tgt := 101) hX dX8_tells_72 (by decide) (fun c72 => ?_) (fun c72 => ?_)
    · have hF := ite_t hF c72
      refine g_iconst (v := 0) hX dX8_tells_101 (by decide) ?_
      refine g_istore (L' := [(5, .int 0), (0, .ref (b + p0)), (1, .int a1), (2, .int a2), (3, .int a3), (4, .int x4)]) hX dX8_tells_102 (by decide) rfl ?_
      refine g_sub (L' := [(0, .ref (b + p0)), (1, .int a1), (2, .int a2), (3, .int a3), (4, .int x4), (5, .int 0)]) [1, 2, 3, 4, 5, 0] rfl ?_
      exact kX8_tells_b104 hX hM hW p0 a1 a2 a3 t0 hR lpF h x4 0 hF
    · have hF := ite_f hF c72
      refine g_aload_n hX dX8_tells_75 (i := 0) rfl (j := 0) rfl ?_
      refine g_iload_n hX dX8_tells_76 (i := 1) rfl (j := 1) rfl ?_
      refine g_iload hX dX8_tells_77 (j := 5) rfl ?_
      obtain ⟨v79, e79, hF⟩ := bi_some hF
      refine g_callV (As := [.int a1, .int x5]) (rest := []) (stk := [.int v79]) hX dX8_tells_79 (ctX8_otherwise hM hW p0 a1 x5 t0 e79) (by decide) (by decide) wm_X8_363 wi_X8_otherwise ws_X8_otherwise wz_X8 wc_X8_otherwise hyX8_otherwise rfl (ci := 8) rfl (by decide) t0.1 (hW.1 _ t0.2).1 (hW.1 _ t0.2).2 (Nat.le_of_ble_eq_true rfl) rfl rfl ?_ rfl rfl
      refine g_iconst (v := (-1)) hX dX8_tells_82 (by decide) ?_
      refine g_icmp_ne (tgt := 95) hX dX8_tells_83 (by decide) (fun c83 => ?_) (fun c83 => ?_)
      · have hF := ite_t hF c83
        refine g_sub (L' := [(0, .ref (b + p0)), (1, .int a1), (2, .int a2), (3, .int a3), (4, .int x4), (5, .int x5)]) [0, 1, 2, 3, 4, 5] rfl ?_
        exact kX8_tells_b95 hX hM hW p0 a1 a2 a3 t0 hR (fun h_ z4_ z5_ => fX8_tells_b69 r p0 a1 a2 a3 n h_ z4_ z5_) ih h x4 x5 hF
      · have hF := ite_f hF (fun z => z c83)
        refine g_iload hX dX8_tells_86 (j := 4) rfl ?_
        refine g_iconst (v := 1) hX dX8_tells_88 (by decide) ?_
        refine g_iload hX dX8_tells_89 (j := 5) rfl ?_
        refine g_ishl hX dX8_tells_91 ?_
        refine g_ior hX dX8_tells_92 ?_
        obtain ⟨y93, e93, hF⟩ := lt_some hF
        refine g_topi e93 ?_
        refine g_istore (L' := [(4, .int y93), (0, .ref (b + p0)), (1, .int a1), (2, .int a2), (3, .int a3), (5, .int x5)]) hX dX8_tells_93 (by decide) rfl ?_
        refine g_sub (L' := [(0, .ref (b + p0)), (1, .int a1), (2, .int a2), (3, .int a3), (4, .int y93), (5, .int x5)]) [1, 2, 3, 4, 0, 5] rfl ?_
        exact kX8_tells_b95 hX hM hW p0 a1 a2 a3 t0 hR (fun h_ z4_ z5_ => fX8_tells_b69 r p0 a1 a2 a3 n h_ z4_ z5_) ih h y93 x5 hF
set_option maxRecDepth 100000 in
set_option maxHeartbeats 4000000 in
theorem kX8_tells {X : XT} {b N sz : Nat} {ok : Nat → Prop} {h : HH} {r : RR} {w : Int32 × HH} (hX : XOK X RX8 cX8_tells 6 7) (hM : N ≤ MM) (hW : WT KM lnM ok N r) (p0 : Nat) (a1 : Int32) (a2 : Int32) (a3 : Int32) (t0 : KM p0 = 8 ∧ ok p0) (hR : XR X b KM lnM MM (some FieldType.int) 0 0 N sz (some (.int w.1)) w.2 r) (hF : fX8_tells h r p0 a1 a2 a3 = some w) : GX X b KM lnM MM 6 0 0 N sz 0 [(0, .ref (b + p0)), (1, .int a1), (2, .int a2), (3, .int a3)] [] h r := by
  rw [fX8_tells] at hF
  refine g_iload_n hX dX8_tells_0 (i := 1) rfl (j := 1) rfl ?_
  obtain ⟨v1, e1, hF⟩ := bi_some hF
  refine g_callS (As := [.int a1]) (rest := []) (stk := [.int v1]) hX dX8_tells_1 (ctX8_isSheet hM hW a1 e1) (by decide) (by decide) wm_X8_360 wt_X8_isSheet wz_X8 wc_X8_isSheet hyX8_isSheet rfl (Nat.le_of_ble_eq_true rfl) rfl rfl ?_ rfl rfl
  refine g_if_eq (tgt := 23) hX dX8_tells_4 (by decide) (fun c4 => ?_) (fun c4 => ?_)
  · have hF := ite_t hF c4
    refine g_bipush (v := (-2)) hX dX8_tells_23 (by decide) ?_
    obtain rfl := Option.some.inj hF
    exact g_iret hX dX8_tells_25 hR
  · have hF := ite_f hF c4
    refine g_iload_n hX dX8_tells_7 (i := 2) rfl (j := 2) rfl ?_
    obtain ⟨v8, e8, hF⟩ := bi_some hF
    refine g_callS (As := [.int a2]) (rest := []) (stk := [.int v8]) hX dX8_tells_8 (ctX8_isPlace hM hW a2 e8) (by decide) (by decide) wm_X8_187 wt_X8_isPlace wz_X8 wc_X8_isPlace hyX8_isPlace rfl (Nat.le_of_ble_eq_true rfl) rfl rfl ?_ rfl rfl
    refine g_if_eq (tgt := 23) hX dX8_tells_11 (by decide) (fun c11 => ?_) (fun c11 => ?_)
    · have hF := ite_t hF c11
      refine g_bipush (v := (-2)) hX dX8_tells_23 (by decide) ?_
      obtain rfl := Option.some.inj hF
      exact g_iret hX dX8_tells_25 hR
    · have hF := ite_f hF c11
      refine g_iload_n hX dX8_tells_14 (i := 3) rfl (j := 3) rfl ?_
      refine g_iconst (v := 0) hX dX8_tells_15 (by decide) ?_
      refine g_iconst (v := 1) hX dX8_tells_16 (by decide) ?_
      obtain ⟨v17, e17, hF⟩ := bi_some hF
      refine g_callS (As := [.int a3, .int 0, .int 1]) (rest := []) (stk := [.int v17]) hX dX8_tells_17 (ctX8_in hM hW a3 0 1 e17) (by decide) (by decide) wm_X8_133 wt_X8_in wz_X8 wc_X8_in hyX8_in rfl (Nat.le_of_ble_eq_true rfl) rfl rfl ?_ rfl rfl
      refine g_if_ne (tgt := 26) hX dX8_tells_20 (by decide) (fun c20 => ?_) (fun c20 => ?_)
      · have hF := ite_t hF c20
        refine g_aload_n hX dX8_tells_26 (i := 0) rfl (j := 0) rfl ?_
        have tf27 := (tyF (k := 51) hW t0 (by decide) rfl (by decide) : KM (r p0 51) = 9 ∧ ok (r p0 51))
        refine gf_X8_118 hX dX8_tells_27 (ty1 hW t0) (hW.1 _ tf27.2).1 ?_
        refine g_iload_n hX dX8_tells_30 (i := 1) rfl (j := 1) rfl ?_
        obtain ⟨g31, hF⟩ := gd_some hF
        refine g_iald hX dX8_tells_31 tf27.1 (hW.1 _ tf27.2).1 (hW.1 _ tf27.2).2 g31 ?_
        refine g_if_ge (tgt := 38) hX dX8_tells_32 (by decide) (fun c32 => ?_) (fun c32 => ?_)
        · have hF := ite_t hF c32
          refine g_aload_n hX dX8_tells_38 (i := 0) rfl (j := 0) rfl ?_
          have tf39 := (tyF (k := 52) hW t0 (by decide) rfl (by decide) : KM (r p0 52) = 9 ∧ ok (r p0 52))
          refine gf_X8_121 hX dX8_tells_39 (ty1 hW t0) (hW.1 _ tf39.2).1 ?_
          refine g_iload_n hX dX8_tells_42 (i := 1) rfl (j := 1) rfl ?_
          obtain ⟨g43, hF⟩ := gd_some hF
          refine g_iald hX dX8_tells_43 tf39.1 (hW.1 _ tf39.2).1 (hW.1 _ tf39.2).2 g43 ?_
          refine g_bipush (v := 30) hX dX8_tells_44 (by decide) ?_
          refine g_icmp_le (tgt := 52) hX dX8_tells_46 (by decide) (fun c46 => ?_) (fun c46 => ?_)
          · have hF := ite_t hF c46
            refine g_iload_n hX dX8_tells_52 (i := 3) rfl (j := 3) rfl ?_
            refine g_if_ne (tgt := 63) hX dX8_tells_53 (by decide) (fun c53 => ?_) (fun c53 => ?_)
            · have hF := ite_t hF c53
              refine g_iconst (v := 0) hX dX8_tells_63 (by decide) ?_
              refine g_istore (L' := [(4, .int 0), (0, .ref (b + p0)), (1, .int a1), (2, .int a2), (3, .int a3)]) hX dX8_tells_64 (by decide) rfl ?_
              refine g_iconst (v := 0) hX dX8_tells_66 (by decide) ?_
              refine g_istore (L' := [(5, .int 0), (4, .int 0), (0, .ref (b + p0)), (1, .int a1), (2, .int a2), (3, .int a3)]) hX dX8_tells_67 (by decide) rfl ?_
              refine g_sub (L' := [(0, .ref (b + p0)), (1, .int a1), (2, .int a2), (3, .int a3), (4, .int 0), (5, .int 0)]) [2, 3, 4, 5, 1, 0] rfl ?_
              exact kX8_tells_b69 hX hM hW p0 a1 a2 a3 t0 hR lpF h 0 0 hF
            · have hF := ite_f hF (fun z => z c53)
              refine g_aload_n hX dX8_tells_56 (i := 0) rfl (j := 0) rfl ?_
              refine g_iload_n hX dX8_tells_57 (i := 1) rfl (j := 1) rfl ?_
              refine g_iload_n hX dX8_tells_58 (i := 2) rfl (j := 2) rfl ?_
              obtain ⟨v59, e59, hF⟩ := bi_some hF
              refine g_callV (As := [.int a1, .int a2]) (rest := []) (stk := [.int v59]) hX dX8_tells_59 (ctX8_otherwise hM hW p0 a1 a2 t0 e59) (by decide) (by decide) wm_X8_363 wi_X8_otherwise ws_X8_otherwise wz_X8 wc_X8_otherwise hyX8_otherwise rfl (ci := 8) rfl (by decide) t0.1 (hW.1 _ t0.2).1 (hW.1 _ t0.2).2 (Nat.le_of_ble_eq_true rfl) rfl rfl ?_ rfl rfl
              obtain rfl := Option.some.inj hF
              exact g_iret hX dX8_tells_62 hR
          · have hF := ite_f hF c46
            refine g_bipush (v := (-2)) hX dX8_tells_49 (by decide) ?_
            obtain rfl := Option.some.inj hF
            exact g_iret hX dX8_tells_51 hR
        · have hF := ite_f hF c32
          refine g_bipush (v := (-11)) hX dX8_tells_35 (by decide) ?_
          obtain rfl := Option.some.inj hF
          exact g_iret hX dX8_tells_37 hR
      · have hF := ite_f hF (fun z => z c20)
        refine g_bipush (v := (-2)) hX dX8_tells_23 (by decide) ?_
        obtain rfl := Option.some.inj hF
        exact g_iret hX dX8_tells_25 hR
theorem ctX8_tells {b N sz : Nat} {ok : Nat → Prop} {h : HH} {r : RR} {w : Int32 × HH} (hM : N ≤ MM) (hW : WT KM lnM ok N r) (p0 : Nat) (a1 : Int32) (a2 : Int32) (a3 : Int32) (t0 : KM p0 = 8 ∧ ok p0) (hF : fX8_tells h r p0 a1 a2 a3 = some w) : CT yX8_tells cX8_tells 6 (some FieldType.int) 7 b KM lnM MM N sz [.ref (b + p0), .int a1, .int a2, .int a3] h r N sz (some (.int w.1)) w.2 r 0 0 :=
  CT_of (by decide) rfl (Nat.le_of_ble_eq_true rfl) (by decide) trivial (fun X hX hR => kX8_tells hX hM hW p0 a1 a2 a3 t0 hR hF)
/-! X8_film -/
def fX8_film_b44 (r : RR) (p0 : Nat) (a1 : Int32) (a2 : Int32) (a3 : Int32) : Nat → HH → Int32 → Option (Int32 × HH)
  | 0, _, _ => none
  | n + 1, h, x4 => if a3 ≤ x4 then (some (a3, h)) else (gd (inb a1 (lnM (r p0 53))) ((fX8_contentOn h r p0 a2 x4).bind (fun v62 => gd (inb x4 (lnM (r (r p0 53) (ix a1)))) (lt (up h (r (r p0 53) (ix a1)) (ix x4) v62) (fun h65 => fX8_film_b44 r p0 a1 a2 a3 n h65 (x4 + 1))))))
def fX8_film (h : HH) (r : RR) (p0 : Nat) (a1 : Int32) (a2 : Int32) (a3 : Int32) : Option (Int32 × HH) := (fX8_isSheet h r a1).bind (fun v1 => if v1 = 0 then (some ((-2), h)) else ((fX8_isPlace h r a2).bind (fun v8 => if v8 = 0 then (some ((-2), h)) else ((fX8_in h r a3 0 30).bind (fun v18 => if ¬ v18 = 0 then (gd (inb a1 (lnM (r p0 51))) (lt (up h (r p0 51) (ix a1) 1) (fun h33 => gd (inb a1 (lnM (r p0 52))) (lt (up h33 (r p0 52) (ix a1) a3) (fun h40 => fX8_film_b44 r p0 a1 a2 a3 lpF h40 0))))) else (some ((-2), h)))))))
set_option maxRecDepth 100000 in
set_option maxHeartbeats 4000000 in
theorem kX8_film_b44 {X : XT} {b N sz : Nat} {ok : Nat → Prop} {r : RR} {w : Int32 × HH} (hX : XOK X RX8 cX8_film 5 4) (hM : N ≤ MM) (hW : WT KM lnM ok N r) (p0 : Nat) (a1 : Int32) (a2 : Int32) (a3 : Int32) (t0 : KM p0 = 8 ∧ ok p0) (hR : XR X b KM lnM MM (some FieldType.int) 0 0 N sz (some (.int w.1)) w.2 r) : ∀ (n : Nat) (h : HH) (x4 : Int32), fX8_film_b44 r p0 a1 a2 a3 n h x4 = some w → GX X b KM lnM MM 5 0 0 N sz 44 [(0, .ref (b + p0)), (1, .int a1), (2, .int a2), (3, .int a3), (4, .int x4)] [] h r := by
  intro n
  induction n with
  | zero =>
    intro h x4 hF
    cases hF
  | succ n ih =>
    intro h x4 hF
    rw [fX8_film_b44] at hF
    refine g_iload hX dX8_film_44 (j := 4) rfl ?_
    refine g_iload_n hX dX8_film_46 (i := 3) rfl (j := 3) rfl ?_
    refine g_icmp_ge (tgt := 72) hX dX8_film_47 (by decide) (fun c47 => ?_) (fun c47 => ?_)
    · have hF := ite_t hF c47
      refine g_iload_n hX dX8_film_72 (i := 3) rfl (j := 3) rfl ?_
      obtain rfl := Option.some.inj hF
      exact g_iret hX dX8_film_73 hR
    · have hF := ite_f hF c47
      refine g_aload_n hX dX8_film_50 (i := 0) rfl (j := 0) rfl ?_
      have tf51 := (tyF (k := 53) hW t0 (by decide) rfl (by decide) : KM (r p0 53) = 14 ∧ ok (r p0 53))
      refine gf_X8_124 hX dX8_film_51 (ty1 hW t0) (hW.1 _ tf51.2).1 ?_
      refine g_iload_n hX dX8_film_54 (i := 1) rfl (j := 1) rfl ?_
      obtain ⟨g55, hF⟩ := gd_some hF
      have ta55 : KM (r (r p0 53) (ix a1)) = 9 ∧ ok (r (r p0 53) (ix a1)) := tyA hW tf51 (by decide) rfl (by decide) g55
      refine g_aald hX dX8_film_55 tf51.1 (by decide) (by decide) (hW.1 _ tf51.2).1 (hW.1 _ tf51.2).2 g55 (hW.1 _ ta55.2).1 ?_
      refine g_iload hX dX8_film_56 (j := 4) rfl ?_
      refine g_aload_n hX dX8_film_58 (i := 0) rfl (j := 0) rfl ?_
      refine g_iload_n hX dX8_film_59 (i := 2) rfl (j := 2) rfl ?_
      refine g_iload hX dX8_film_60 (j := 4) rfl ?_
      obtain ⟨v62, e62, hF⟩ := bi_some hF
      refine g_callV (As := [.int a2, .int x4]) (rest := [.int x4, .ref (b + (r (r p0 53) (ix a1)))]) (stk := [.int v62, .int x4, .ref (b + (r (r p0 53) (ix a1)))]) hX dX8_film_62 (ctX8_contentOn hM hW p0 a2 x4 t0 e62) (by decide) (by decide) wm_X8_357 wi_X8_contentOn ws_X8_contentOn wz_X8 wc_X8_contentOn hyX8_contentOn rfl (ci := 8) rfl (by decide) t0.1 (hW.1 _ t0.2).1 (hW.1 _ t0.2).2 (Nat.le_of_ble_eq_true rfl) rfl rfl ?_ rfl rfl
      obtain ⟨g65, hF⟩ := gd_some hF
      obtain ⟨h65, e65, hF⟩ := lt_some hF
      refine g_iast hX dX8_film_65 ta55.1 (hW.1 _ ta55.2).1 (hW.1 _ ta55.2).2 hM g65 e65 ?_
      refine g_iinc (L' := [(4, .int (x4 + 1)), (0, .ref (b + p0)), (1, .int a1), (2, .int a2), (3, .int a3)]) (j := 4) hX dX8_film_66 rfl rfl (by decide) rfl ?_
      refine g_goto (tgt := 44) hX dX8_film_69 (by decide) ?_
      refine g_sub (L' := [(0, .ref (b + p0)), (1, .int a1), (2, .int a2), (3, .int a3), (4, .int (x4 + 1))]) [1, 2, 3, 4, 0] rfl ?_
      exact ih h65 (x4 + 1) hF
set_option maxRecDepth 100000 in
set_option maxHeartbeats 4000000 in
theorem kX8_film {X : XT} {b N sz : Nat} {ok : Nat → Prop} {h : HH} {r : RR} {w : Int32 × HH} (hX : XOK X RX8 cX8_film 5 4) (hM : N ≤ MM) (hW : WT KM lnM ok N r) (p0 : Nat) (a1 : Int32) (a2 : Int32) (a3 : Int32) (t0 : KM p0 = 8 ∧ ok p0) (hR : XR X b KM lnM MM (some FieldType.int) 0 0 N sz (some (.int w.1)) w.2 r) (hF : fX8_film h r p0 a1 a2 a3 = some w) : GX X b KM lnM MM 5 0 0 N sz 0 [(0, .ref (b + p0)), (1, .int a1), (2, .int a2), (3, .int a3)] [] h r := by
  rw [fX8_film] at hF
  refine g_iload_n hX dX8_film_0 (i := 1) rfl (j := 1) rfl ?_
  obtain ⟨v1, e1, hF⟩ := bi_some hF
  refine g_callS (As := [.int a1]) (rest := []) (stk := [.int v1]) hX dX8_film_1 (ctX8_isSheet hM hW a1 e1) (by decide) (by decide) wm_X8_360 wt_X8_isSheet wz_X8 wc_X8_isSheet hyX8_isSheet rfl (Nat.le_of_ble_eq_true rfl) rfl rfl ?_ rfl rfl
  refine g_if_eq (tgt := 24) hX dX8_film_4 (by decide) (fun c4 => ?_) (fun c4 => ?_)
  · have hF := ite_t hF c4
    refine g_bipush (v := (-2)) hX dX8_film_24 (by decide) ?_
    obtain rfl := Option.some.inj hF
    exact g_iret hX dX8_film_26 hR
  · have hF := ite_f hF c4
    refine g_iload_n hX dX8_film_7 (i := 2) rfl (j := 2) rfl ?_
    obtain ⟨v8, e8, hF⟩ := bi_some hF
    refine g_callS (As := [.int a2]) (rest := []) (stk := [.int v8]) hX dX8_film_8 (ctX8_isPlace hM hW a2 e8) (by decide) (by decide) wm_X8_187 wt_X8_isPlace wz_X8 wc_X8_isPlace hyX8_isPlace rfl (Nat.le_of_ble_eq_true rfl) rfl rfl ?_ rfl rfl
    refine g_if_eq (tgt := 24) hX dX8_film_11 (by decide) (fun c11 => ?_) (fun c11 => ?_)
    · have hF := ite_t hF c11
      refine g_bipush (v := (-2)) hX dX8_film_24 (by decide) ?_
      obtain rfl := Option.some.inj hF
      exact g_iret hX dX8_film_26 hR
    · have hF := ite_f hF c11
      refine g_iload_n hX dX8_film_14 (i := 3) rfl (j := 3) rfl ?_
      refine g_iconst (v := 0) hX dX8_film_15 (by decide) ?_
      refine g_bipush (v := 30) hX dX8_film_16 (by decide) ?_
      obtain ⟨v18, e18, hF⟩ := bi_some hF
      refine g_callS (As := [.int a3, .int 0, .int 30]) (rest := []) (stk := [.int v18]) hX dX8_film_18 (ctX8_in hM hW a3 0 30 e18) (by decide) (by decide) wm_X8_133 wt_X8_in wz_X8 wc_X8_in hyX8_in rfl (Nat.le_of_ble_eq_true rfl) rfl rfl ?_ rfl rfl
      refine g_if_ne (tgt := 27) hX dX8_film_21 (by decide) (fun c21 => ?_) (fun c21 => ?_)
      · have hF := ite_t hF c21
        refine g_aload_n hX dX8_film_27 (i := 0) rfl (j := 0) rfl ?_
        have tf28 := (tyF (k := 51) hW t0 (by decide) rfl (by decide) : KM (r p0 51) = 9 ∧ ok (r p0 51))
        refine gf_X8_118 hX dX8_film_28 (ty1 hW t0) (hW.1 _ tf28.2).1 ?_
        refine g_iload_n hX dX8_film_31 (i := 1) rfl (j := 1) rfl ?_
        refine g_iconst (v := 1) hX dX8_film_32 (by decide) ?_
        obtain ⟨g33, hF⟩ := gd_some hF
        obtain ⟨h33, e33, hF⟩ := lt_some hF
        refine g_iast hX dX8_film_33 tf28.1 (hW.1 _ tf28.2).1 (hW.1 _ tf28.2).2 hM g33 e33 ?_
        refine g_aload_n hX dX8_film_34 (i := 0) rfl (j := 0) rfl ?_
        have tf35 := (tyF (k := 52) hW t0 (by decide) rfl (by decide) : KM (r p0 52) = 9 ∧ ok (r p0 52))
        refine gf_X8_121 hX dX8_film_35 (ty1 hW t0) (hW.1 _ tf35.2).1 ?_
        refine g_iload_n hX dX8_film_38 (i := 1) rfl (j := 1) rfl ?_
        refine g_iload_n hX dX8_film_39 (i := 3) rfl (j := 3) rfl ?_
        obtain ⟨g40, hF⟩ := gd_some hF
        obtain ⟨h40, e40, hF⟩ := lt_some hF
        refine g_iast hX dX8_film_40 tf35.1 (hW.1 _ tf35.2).1 (hW.1 _ tf35.2).2 hM g40 e40 ?_
        refine g_iconst (v := 0) hX dX8_film_41 (by decide) ?_
        refine g_istore (L' := [(4, .int 0), (0, .ref (b + p0)), (1, .int a1), (2, .int a2), (3, .int a3)]) hX dX8_film_42 (by decide) rfl ?_
        refine g_sub (L' := [(0, .ref (b + p0)), (1, .int a1), (2, .int a2), (3, .int a3), (4, .int 0)]) [1, 2, 3, 4, 0] rfl ?_
        exact kX8_film_b44 hX hM hW p0 a1 a2 a3 t0 hR lpF h40 0 hF
      · have hF := ite_f hF (fun z => z c21)
        refine g_bipush (v := (-2)) hX dX8_film_24 (by decide) ?_
        obtain rfl := Option.some.inj hF
        exact g_iret hX dX8_film_26 hR
theorem ctX8_film {b N sz : Nat} {ok : Nat → Prop} {h : HH} {r : RR} {w : Int32 × HH} (hM : N ≤ MM) (hW : WT KM lnM ok N r) (p0 : Nat) (a1 : Int32) (a2 : Int32) (a3 : Int32) (t0 : KM p0 = 8 ∧ ok p0) (hF : fX8_film h r p0 a1 a2 a3 = some w) : CT yX8_film cX8_film 5 (some FieldType.int) 4 b KM lnM MM N sz [.ref (b + p0), .int a1, .int a2, .int a3] h r N sz (some (.int w.1)) w.2 r 0 0 :=
  CT_of (by decide) rfl (Nat.le_of_ble_eq_true rfl) (by decide) trivial (fun X hX hR => kX8_film hX hM hW p0 a1 a2 a3 t0 hR hF)
/-! X8_image -/
def fX8_image_b190 (r : RR) (p0 : Nat) : Nat → HH → Int32 → Option (Int32 × HH)
  | 0, _, _ => none
  | n + 1, h, x1 => if 6 ≤ x1 then (gd (cpok 0 0 6 (lnM (r p0 13)) (lnM (r p0 50))) (lt (cpH h (r p0 13) (r p0 50) (ix 0) (ix 0) (ix 6)) (fun h233 => some (h233 p0 0, h233)))) else (gd (inb x1 (lnM (r p0 14))) (gd (inb x1 (lnM (r p0 49))) (gd (cpok 0 0 8 (lnM (r (r p0 14) (ix x1))) (lnM (r (r p0 49) (ix x1)))) (lt (cpH h (r (r p0 14) (ix x1)) (r (r p0 49) (ix x1)) (ix 0) (ix 0) (ix 8)) (fun h212 => fX8_image_b190 r p0 n h212 (x1 + 1))))))
def fX8_image_b67 (r : RR) (p0 : Nat) : Nat → HH → Int32 → Option (Int32 × HH)
  | 0, _, _ => none
  | n + 1, h, x1 => if 3 ≤ x1 then (gd (inb 3 (lnM (r p0 45))) (gd (cpok 0 0 30 (lnM (r p0 2)) (lnM (r (r p0 45) (ix 3)))) (lt (cpH h (r p0 2) (r (r p0 45) (ix 3)) (ix 0) (ix 0) (ix 30)) (fun h168 => gd (inb 4 (lnM (r p0 45))) (gd (cpok 0 0 6 (lnM (r p0 12)) (lnM (r (r p0 45) (ix 4)))) (lt (cpH h168 (r p0 12) (r (r p0 45) (ix 4)) (ix 0) (ix 0) (ix 6)) (fun h185 => fX8_image_b190 r p0 lpF h185 0))))))) else (gd (inb x1 (lnM (r p0 3))) (gd (inb x1 (lnM (r p0 45))) (gd (cpok 0 0 30 (lnM (r (r p0 3) (ix x1))) (lnM (r (r p0 45) (ix x1)))) (lt (cpH h (r (r p0 3) (ix x1)) (r (r p0 45) (ix x1)) (ix 0) (ix 0) (ix 30)) (fun h88 => gd (inb x1 (lnM (r p0 4))) (gd (inb x1 (lnM (r p0 46))) (gd (cpok 0 0 30 (lnM (r (r p0 4) (ix x1))) (lnM (r (r p0 46) (ix x1)))) (lt (cpH h88 (r (r p0 4) (ix x1)) (r (r p0 46) (ix x1)) (ix 0) (ix 0) (ix 30)) (fun h107 => gd (inb x1 (lnM (r p0 5))) (gd (inb x1 (lnM (r p0 47))) (gd (cpok 0 0 30 (lnM (r (r p0 5) (ix x1))) (lnM (r (r p0 47) (ix x1)))) (lt (cpH h107 (r (r p0 5) (ix x1)) (r (r p0 47) (ix x1)) (ix 0) (ix 0) (ix 30)) (fun h126 => gd (inb x1 (lnM (r p0 6))) (gd (inb x1 (lnM (r p0 48))) (gd (cpok 0 0 30 (lnM (r (r p0 6) (ix x1))) (lnM (r (r p0 48) (ix x1)))) (lt (cpH h126 (r (r p0 6) (ix x1)) (r (r p0 48) (ix x1)) (ix 0) (ix 0) (ix 30)) (fun h145 => fX8_image_b67 r p0 n h145 (x1 + 1))))))))))))))))))
def fX8_image (h : HH) (r : RR) (p0 : Nat) : Option (Int32 × HH) := lt (up h p0 43 1) (fun h2 => gd (inb 0 (lnM (r p0 44))) (lt (up h2 (r p0 44) (ix 0) (h2 p0 0)) (fun h14 => gd (inb 1 (lnM (r p0 44))) (lt (up h14 (r p0 44) (ix 1) (h14 p0 1)) (fun h24 => gd (inb 2 (lnM (r p0 44))) (lt (up h24 (r p0 44) (ix 2) (h24 p0 7)) (fun h34 => gd (inb 3 (lnM (r p0 44))) (lt (up h34 (r p0 44) (ix 3) (h34 p0 8)) (fun h44 => gd (inb 4 (lnM (r p0 44))) (lt (up h44 (r p0 44) (ix 4) (h44 p0 9)) (fun h54 => gd (inb 5 (lnM (r p0 44))) (lt (up h54 (r p0 44) (ix 5) (h54 p0 11)) (fun h64 => fX8_image_b67 r p0 lpF h64 0)))))))))))))
set_option maxRecDepth 100000 in
set_option maxHeartbeats 4000000 in
theorem kX8_image_b190 {X : XT} {b N sz : Nat} {ok : Nat → Prop} {r : RR} {w : Int32 × HH} (hX : XOK X RX8 cX8_image 2 1) (hM : N ≤ MM) (hW : WT KM lnM ok N r) (p0 : Nat) (t0 : KM p0 = 8 ∧ ok p0) (hR : XR X b KM lnM MM (some FieldType.int) 0 0 N sz (some (.int w.1)) w.2 r) : ∀ (n : Nat) (h : HH) (x1 : Int32), fX8_image_b190 r p0 n h x1 = some w → GX X b KM lnM MM 2 0 0 N sz 190 [(0, .ref (b + p0)), (1, .int x1)] [] h r := by
  intro n
  induction n with
  | zero =>
    intro h x1 hF
    cases hF
  | succ n ih =>
    intro h x1 hF
    rw [fX8_image_b190] at hF
    refine g_iload_n hX dX8_image_190 (i := 1) rfl (j := 1) rfl ?_
    refine g_bipush (v := 6) hX dX8_image_191 (by decide) ?_
    refine g_icmp_ge (tgt := 221) hX dX8_image_193 (by decide) (fun c193 => ?_) (fun c193 => ?_)
    · have hF := ite_t hF c193
      refine g_aload_n hX dX8_image_221 (i := 0) rfl (j := 0) rfl ?_
      have tf222 := (tyF (k := 13) hW t0 (by decide) rfl (by decide) : KM (r p0 13) = 9 ∧ ok (r p0 13))
      refine gf_X8_39 hX dX8_image_222 (ty1 hW t0) (hW.1 _ tf222.2).1 ?_
      refine g_iconst (v := 0) hX dX8_image_225 (by decide) ?_
      refine g_aload_n hX dX8_image_226 (i := 0) rfl (j := 0) rfl ?_
      have tf227 := (tyF (k := 50) hW t0 (by decide) rfl (by decide) : KM (r p0 50) = 9 ∧ ok (r p0 50))
      refine gf_X8_115 hX dX8_image_227 (ty1 hW t0) (hW.1 _ tf227.2).1 ?_
      refine g_iconst (v := 0) hX dX8_image_230 (by decide) ?_
      refine g_bipush (v := 6) hX dX8_image_231 (by decide) ?_
      obtain ⟨g233, hF⟩ := gd_some hF
      obtain ⟨h233, e233, hF⟩ := lt_some hF
      refine g_acopy hX dX8_image_233 wm_X8_322 (ty1 hW tf222) (ty1 hW tf227) (by decide) hM g233 (by decide) (Nat.le_of_ble_eq_true rfl) e233 ?_
      refine g_aload_n hX dX8_image_236 (i := 0) rfl (j := 0) rfl ?_
      refine gf_X8_130 hX dX8_image_237 (ty1 hW t0) ?_
      obtain rfl := Option.some.inj hF
      exact g_iret hX dX8_image_240 hR
    · have hF := ite_f hF c193
      refine g_aload_n hX dX8_image_196 (i := 0) rfl (j := 0) rfl ?_
      have tf197 := (tyF (k := 14) hW t0 (by decide) rfl (by decide) : KM (r p0 14) = 14 ∧ ok (r p0 14))
      refine gf_X8_43 hX dX8_image_197 (ty1 hW t0) (hW.1 _ tf197.2).1 ?_
      refine g_iload_n hX dX8_image_200 (i := 1) rfl (j := 1) rfl ?_
      obtain ⟨g201, hF⟩ := gd_some hF
      have ta201 : KM (r (r p0 14) (ix x1)) = 9 ∧ ok (r (r p0 14) (ix x1)) := tyA hW tf197 (by decide) rfl (by decide) g201
      refine g_aald hX dX8_image_201 tf197.1 (by decide) (by decide) (hW.1 _ tf197.2).1 (hW.1 _ tf197.2).2 g201 (hW.1 _ ta201.2).1 ?_
      refine g_iconst (v := 0) hX dX8_image_202 (by decide) ?_
      refine g_aload_n hX dX8_image_203 (i := 0) rfl (j := 0) rfl ?_
      have tf204 := (tyF (k := 49) hW t0 (by decide) rfl (by decide) : KM (r p0 49) = 14 ∧ ok (r p0 49))
      refine gf_X8_112 hX dX8_image_204 (ty1 hW t0) (hW.1 _ tf204.2).1 ?_
      refine g_iload_n hX dX8_image_207 (i := 1) rfl (j := 1) rfl ?_
      obtain ⟨g208, hF⟩ := gd_some hF
      have ta208 : KM (r (r p0 49) (ix x1)) = 9 ∧ ok (r (r p0 49) (ix x1)) := tyA hW tf204 (by decide) rfl (by decide) g208
      refine g_aald hX dX8_image_208 tf204.1 (by decide) (by decide) (hW.1 _ tf204.2).1 (hW.1 _ tf204.2).2 g208 (hW.1 _ ta208.2).1 ?_
      refine g_iconst (v := 0) hX dX8_image_209 (by decide) ?_
      refine g_bipush (v := 8) hX dX8_image_210 (by decide) ?_
      obtain ⟨g212, hF⟩ := gd_some hF
      obtain ⟨h212, e212, hF⟩ := lt_some hF
      refine g_acopy hX dX8_image_212 wm_X8_322 (ty1 hW ta201) (ty1 hW ta208) (by decide) hM g212 (by decide) (Nat.le_of_ble_eq_true rfl) e212 ?_
      refine g_iinc (L' := [(1, .int (x1 + 1)), (0, .ref (b + p0))]) (j := 1) hX dX8_image_215 rfl rfl (by decide) rfl ?_
      refine g_goto (tgt := 190) hX dX8_image_218 (by decide) ?_
      refine g_sub (L' := [(0, .ref (b + p0)), (1, .int (x1 + 1))]) [1, 0] rfl ?_
      exact ih h212 (x1 + 1) hF
set_option maxRecDepth 100000 in
set_option maxHeartbeats 4000000 in
theorem kX8_image_b67 {X : XT} {b N sz : Nat} {ok : Nat → Prop} {r : RR} {w : Int32 × HH} (hX : XOK X RX8 cX8_image 2 1) (hM : N ≤ MM) (hW : WT KM lnM ok N r) (p0 : Nat) (t0 : KM p0 = 8 ∧ ok p0) (hR : XR X b KM lnM MM (some FieldType.int) 0 0 N sz (some (.int w.1)) w.2 r) : ∀ (n : Nat) (h : HH) (x1 : Int32), fX8_image_b67 r p0 n h x1 = some w → GX X b KM lnM MM 2 0 0 N sz 67 [(0, .ref (b + p0)), (1, .int x1)] [] h r := by
  intro n
  induction n with
  | zero =>
    intro h x1 hF
    cases hF
  | succ n ih =>
    intro h x1 hF
    rw [fX8_image_b67] at hF
    refine g_iload_n hX dX8_image_67 (i := 1) rfl (j := 1) rfl ?_
    refine g_iconst (v := 3) hX dX8_image_68 (by decide) ?_
    refine g_icmp_ge (tgt := 154) hX dX8_image_69 (by decide) (fun c69 => ?_) (fun c69 => ?_)
    · have hF := ite_t hF c69
      refine g_aload_n hX dX8_image_154 (i := 0) rfl (j := 0) rfl ?_
      have tf155 := (tyF (k := 2) hW t0 (by decide) rfl (by decide) : KM (r p0 2) = 10 ∧ ok (r p0 2))
      refine gf_X8_9 hX dX8_image_155 (ty1 hW t0) (hW.1 _ tf155.2).1 ?_
      refine g_iconst (v := 0) hX dX8_image_158 (by decide) ?_
      refine g_aload_n hX dX8_image_159 (i := 0) rfl (j := 0) rfl ?_
      have tf160 := (tyF (k := 45) hW t0 (by decide) rfl (by decide) : KM (r p0 45) = 15 ∧ ok (r p0 45))
      refine gf_X8_100 hX dX8_image_160 (ty1 hW t0) (hW.1 _ tf160.2).1 ?_
      refine g_iconst (v := 3) hX dX8_image_163 (by decide) ?_
      obtain ⟨g164, hF⟩ := gd_some hF
      have ta164 : KM (r (r p0 45) (ix 3)) = 10 ∧ ok (r (r p0 45) (ix 3)) := tyA hW tf160 (by decide) rfl (by decide) g164
      refine g_aald hX dX8_image_164 tf160.1 (by decide) (by decide) (hW.1 _ tf160.2).1 (hW.1 _ tf160.2).2 g164 (hW.1 _ ta164.2).1 ?_
      refine g_iconst (v := 0) hX dX8_image_165 (by decide) ?_
      refine g_bipush (v := 30) hX dX8_image_166 (by decide) ?_
      obtain ⟨g168, hF⟩ := gd_some hF
      obtain ⟨h168, e168, hF⟩ := lt_some hF
      refine g_acopy hX dX8_image_168 wm_X8_322 (ty1 hW tf155) (ty1 hW ta164) (by decide) hM g168 (by decide) (Nat.le_of_ble_eq_true rfl) e168 ?_
      refine g_aload_n hX dX8_image_171 (i := 0) rfl (j := 0) rfl ?_
      have tf172 := (tyF (k := 12) hW t0 (by decide) rfl (by decide) : KM (r p0 12) = 10 ∧ ok (r p0 12))
      refine gf_X8_36 hX dX8_image_172 (ty1 hW t0) (hW.1 _ tf172.2).1 ?_
      refine g_iconst (v := 0) hX dX8_image_175 (by decide) ?_
      refine g_aload_n hX dX8_image_176 (i := 0) rfl (j := 0) rfl ?_
      have tf177 := (tyF (k := 45) hW t0 (by decide) rfl (by decide) : KM (r p0 45) = 15 ∧ ok (r p0 45))
      refine gf_X8_100 hX dX8_image_177 (ty1 hW t0) (hW.1 _ tf177.2).1 ?_
      refine g_iconst (v := 4) hX dX8_image_180 (by decide) ?_
      obtain ⟨g181, hF⟩ := gd_some hF
      have ta181 : KM (r (r p0 45) (ix 4)) = 10 ∧ ok (r (r p0 45) (ix 4)) := tyA hW tf177 (by decide) rfl (by decide) g181
      refine g_aald hX dX8_image_181 tf177.1 (by decide) (by decide) (hW.1 _ tf177.2).1 (hW.1 _ tf177.2).2 g181 (hW.1 _ ta181.2).1 ?_
      refine g_iconst (v := 0) hX dX8_image_182 (by decide) ?_
      refine g_bipush (v := 6) hX dX8_image_183 (by decide) ?_
      obtain ⟨g185, hF⟩ := gd_some hF
      obtain ⟨h185, e185, hF⟩ := lt_some hF
      refine g_acopy hX dX8_image_185 wm_X8_322 (ty1 hW tf172) (ty1 hW ta181) (by decide) hM g185 (by decide) (Nat.le_of_ble_eq_true rfl) e185 ?_
      refine g_iconst (v := 0) hX dX8_image_188 (by decide) ?_
      refine g_istore_n (L' := [(1, .int 0), (0, .ref (b + p0))]) hX dX8_image_189 (i := 1) rfl (by decide) rfl ?_
      refine g_sub (L' := [(0, .ref (b + p0)), (1, .int 0)]) [1, 0] rfl ?_
      exact kX8_image_b190 hX hM hW p0 t0 hR lpF h185 0 hF
    · have hF := ite_f hF c69
      refine g_aload_n hX dX8_image_72 (i := 0) rfl (j := 0) rfl ?_
      have tf73 := (tyF (k := 3) hW t0 (by decide) rfl (by decide) : KM (r p0 3) = 15 ∧ ok (r p0 3))
      refine gf_X8_15 hX dX8_image_73 (ty1 hW t0) (hW.1 _ tf73.2).1 ?_
      refine g_iload_n hX dX8_image_76 (i := 1) rfl (j := 1) rfl ?_
      obtain ⟨g77, hF⟩ := gd_some hF
      have ta77 : KM (r (r p0 3) (ix x1)) = 10 ∧ ok (r (r p0 3) (ix x1)) := tyA hW tf73 (by decide) rfl (by decide) g77
      refine g_aald hX dX8_image_77 tf73.1 (by decide) (by decide) (hW.1 _ tf73.2).1 (hW.1 _ tf73.2).2 g77 (hW.1 _ ta77.2).1 ?_
      refine g_iconst (v := 0) hX dX8_image_78 (by decide) ?_
      refine g_aload_n hX dX8_image_79 (i := 0) rfl (j := 0) rfl ?_
      have tf80 := (tyF (k := 45) hW t0 (by decide) rfl (by decide) : KM (r p0 45) = 15 ∧ ok (r p0 45))
      refine gf_X8_100 hX dX8_image_80 (ty1 hW t0) (hW.1 _ tf80.2).1 ?_
      refine g_iload_n hX dX8_image_83 (i := 1) rfl (j := 1) rfl ?_
      obtain ⟨g84, hF⟩ := gd_some hF
      have ta84 : KM (r (r p0 45) (ix x1)) = 10 ∧ ok (r (r p0 45) (ix x1)) := tyA hW tf80 (by decide) rfl (by decide) g84
      refine g_aald hX dX8_image_84 tf80.1 (by decide) (by decide) (hW.1 _ tf80.2).1 (hW.1 _ tf80.2).2 g84 (hW.1 _ ta84.2).1 ?_
      refine g_iconst (v := 0) hX dX8_image_85 (by decide) ?_
      refine g_bipush (v := 30) hX dX8_image_86 (by decide) ?_
      obtain ⟨g88, hF⟩ := gd_some hF
      obtain ⟨h88, e88, hF⟩ := lt_some hF
      refine g_acopy hX dX8_image_88 wm_X8_322 (ty1 hW ta77) (ty1 hW ta84) (by decide) hM g88 (by decide) (Nat.le_of_ble_eq_true rfl) e88 ?_
      refine g_aload_n hX dX8_image_91 (i := 0) rfl (j := 0) rfl ?_
      have tf92 := (tyF (k := 4) hW t0 (by decide) rfl (by decide) : KM (r p0 4) = 14 ∧ ok (r p0 4))
      refine gf_X8_20 hX dX8_image_92 (ty1 hW t0) (hW.1 _ tf92.2).1 ?_
      refine g_iload_n hX dX8_image_95 (i := 1) rfl (j := 1) rfl ?_
      obtain ⟨g96, hF⟩ := gd_some hF
      have ta96 : KM (r (r p0 4) (ix x1)) = 9 ∧ ok (r (r p0 4) (ix x1)) := tyA hW tf92 (by decide) rfl (by decide) g96
      refine g_aald hX dX8_image_96 tf92.1 (by decide) (by decide) (hW.1 _ tf92.2).1 (hW.1 _ tf92.2).2 g96 (hW.1 _ ta96.2).1 ?_
      refine g_iconst (v := 0) hX dX8_image_97 (by decide) ?_
      refine g_aload_n hX dX8_image_98 (i := 0) rfl (j := 0) rfl ?_
      have tf99 := (tyF (k := 46) hW t0 (by decide) rfl (by decide) : KM (r p0 46) = 14 ∧ ok (r p0 46))
      refine gf_X8_103 hX dX8_image_99 (ty1 hW t0) (hW.1 _ tf99.2).1 ?_
      refine g_iload_n hX dX8_image_102 (i := 1) rfl (j := 1) rfl ?_
      obtain ⟨g103, hF⟩ := gd_some hF
      have ta103 : KM (r (r p0 46) (ix x1)) = 9 ∧ ok (r (r p0 46) (ix x1)) := tyA hW tf99 (by decide) rfl (by decide) g103
      refine g_aald hX dX8_image_103 tf99.1 (by decide) (by decide) (hW.1 _ tf99.2).1 (hW.1 _ tf99.2).2 g103 (hW.1 _ ta103.2).1 ?_
      refine g_iconst (v := 0) hX dX8_image_104 (by decide) ?_
      refine g_bipush (v := 30) hX dX8_image_105 (by decide) ?_
      obtain ⟨g107, hF⟩ := gd_some hF
      obtain ⟨h107, e107, hF⟩ := lt_some hF
      refine g_acopy hX dX8_image_107 wm_X8_322 (ty1 hW ta96) (ty1 hW ta103) (by decide) hM g107 (by decide) (Nat.le_of_ble_eq_true rfl) e107 ?_
      refine g_aload_n hX dX8_image_110 (i := 0) rfl (j := 0) rfl ?_
      have tf111 := (tyF (k := 5) hW t0 (by decide) rfl (by decide) : KM (r p0 5) = 14 ∧ ok (r p0 5))
      refine gf_X8_23 hX dX8_image_111 (ty1 hW t0) (hW.1 _ tf111.2).1 ?_
      refine g_iload_n hX dX8_image_114 (i := 1) rfl (j := 1) rfl ?_
      obtain ⟨g115, hF⟩ := gd_some hF
      have ta115 : KM (r (r p0 5) (ix x1)) = 9 ∧ ok (r (r p0 5) (ix x1)) := tyA hW tf111 (by decide) rfl (by decide) g115
      refine g_aald hX dX8_image_115 tf111.1 (by decide) (by decide) (hW.1 _ tf111.2).1 (hW.1 _ tf111.2).2 g115 (hW.1 _ ta115.2).1 ?_
      refine g_iconst (v := 0) hX dX8_image_116 (by decide) ?_
      refine g_aload_n hX dX8_image_117 (i := 0) rfl (j := 0) rfl ?_
      have tf118 := (tyF (k := 47) hW t0 (by decide) rfl (by decide) : KM (r p0 47) = 14 ∧ ok (r p0 47))
      refine gf_X8_106 hX dX8_image_118 (ty1 hW t0) (hW.1 _ tf118.2).1 ?_
      refine g_iload_n hX dX8_image_121 (i := 1) rfl (j := 1) rfl ?_
      obtain ⟨g122, hF⟩ := gd_some hF
      have ta122 : KM (r (r p0 47) (ix x1)) = 9 ∧ ok (r (r p0 47) (ix x1)) := tyA hW tf118 (by decide) rfl (by decide) g122
      refine g_aald hX dX8_image_122 tf118.1 (by decide) (by decide) (hW.1 _ tf118.2).1 (hW.1 _ tf118.2).2 g122 (hW.1 _ ta122.2).1 ?_
      refine g_iconst (v := 0) hX dX8_image_123 (by decide) ?_
      refine g_bipush (v := 30) hX dX8_image_124 (by decide) ?_
      obtain ⟨g126, hF⟩ := gd_some hF
      obtain ⟨h126, e126, hF⟩ := lt_some hF
      refine g_acopy hX dX8_image_126 wm_X8_322 (ty1 hW ta115) (ty1 hW ta122) (by decide) hM g126 (by decide) (Nat.le_of_ble_eq_true rfl) e126 ?_
      refine g_aload_n hX dX8_image_129 (i := 0) rfl (j := 0) rfl ?_
      have tf130 := (tyF (k := 6) hW t0 (by decide) rfl (by decide) : KM (r p0 6) = 14 ∧ ok (r p0 6))
      refine gf_X8_26 hX dX8_image_130 (ty1 hW t0) (hW.1 _ tf130.2).1 ?_
      refine g_iload_n hX dX8_image_133 (i := 1) rfl (j := 1) rfl ?_
      obtain ⟨g134, hF⟩ := gd_some hF
      have ta134 : KM (r (r p0 6) (ix x1)) = 9 ∧ ok (r (r p0 6) (ix x1)) := tyA hW tf130 (by decide) rfl (by decide) g134
      refine g_aald hX dX8_image_134 tf130.1 (by decide) (by decide) (hW.1 _ tf130.2).1 (hW.1 _ tf130.2).2 g134 (hW.1 _ ta134.2).1 ?_
      refine g_iconst (v := 0) hX dX8_image_135 (by decide) ?_
      refine g_aload_n hX dX8_image_136 (i := 0) rfl (j := 0) rfl ?_
      have tf137 := (tyF (k := 48) hW t0 (by decide) rfl (by decide) : KM (r p0 48) = 14 ∧ ok (r p0 48))
      refine gf_X8_109 hX dX8_image_137 (ty1 hW t0) (hW.1 _ tf137.2).1 ?_
      refine g_iload_n hX dX8_image_140 (i := 1) rfl (j := 1) rfl ?_
      obtain ⟨g141, hF⟩ := gd_some hF
      have ta141 : KM (r (r p0 48) (ix x1)) = 9 ∧ ok (r (r p0 48) (ix x1)) := tyA hW tf137 (by decide) rfl (by decide) g141
      refine g_aald hX dX8_image_141 tf137.1 (by decide) (by decide) (hW.1 _ tf137.2).1 (hW.1 _ tf137.2).2 g141 (hW.1 _ ta141.2).1 ?_
      refine g_iconst (v := 0) hX dX8_image_142 (by decide) ?_
      refine g_bipush (v := 30) hX dX8_image_143 (by decide) ?_
      obtain ⟨g145, hF⟩ := gd_some hF
      obtain ⟨h145, e145, hF⟩ := lt_some hF
      refine g_acopy hX dX8_image_145 wm_X8_322 (ty1 hW ta134) (ty1 hW ta141) (by decide) hM g145 (by decide) (Nat.le_of_ble_eq_true rfl) e145 ?_
      refine g_iinc (L' := [(1, .int (x1 + 1)), (0, .ref (b + p0))]) (j := 1) hX dX8_image_148 rfl rfl (by decide) rfl ?_
      refine g_goto (tgt := 67) hX dX8_image_151 (by decide) ?_
      refine g_sub (L' := [(0, .ref (b + p0)), (1, .int (x1 + 1))]) [1, 0] rfl ?_
      exact ih h145 (x1 + 1) hF
set_option maxRecDepth 100000 in
set_option maxHeartbeats 4000000 in
theorem kX8_image {X : XT} {b N sz : Nat} {ok : Nat → Prop} {h : HH} {r : RR} {w : Int32 × HH} (hX : XOK X RX8 cX8_image 2 1) (hM : N ≤ MM) (hW : WT KM lnM ok N r) (p0 : Nat) (t0 : KM p0 = 8 ∧ ok p0) (hR : XR X b KM lnM MM (some FieldType.int) 0 0 N sz (some (.int w.1)) w.2 r) (hF : fX8_image h r p0 = some w) : GX X b KM lnM MM 2 0 0 N sz 0 [(0, .ref (b + p0))] [] h r := by
  rw [fX8_image] at hF
  refine g_aload_n hX dX8_image_0 (i := 0) rfl (j := 0) rfl ?_
  refine g_iconst (v := 1) hX dX8_image_1 (by decide) ?_
  obtain ⟨h2, e2, hF⟩ := lt_some hF
  refine pf_X8_369 hX dX8_image_2 (ty1 hW t0) hM (by decide) e2 ?_
  refine g_aload_n hX dX8_image_5 (i := 0) rfl (j := 0) rfl ?_
  have tf6 := (tyF (k := 44) hW t0 (by decide) rfl (by decide) : KM (r p0 44) = 9 ∧ ok (r p0 44))
  refine gf_X8_97 hX dX8_image_6 (ty1 hW t0) (hW.1 _ tf6.2).1 ?_
  refine g_iconst (v := 0) hX dX8_image_9 (by decide) ?_
  refine g_aload_n hX dX8_image_10 (i := 0) rfl (j := 0) rfl ?_
  refine gf_X8_130 hX dX8_image_11 (ty1 hW t0) ?_
  obtain ⟨g14, hF⟩ := gd_some hF
  obtain ⟨h14, e14, hF⟩ := lt_some hF
  refine g_iast hX dX8_image_14 tf6.1 (hW.1 _ tf6.2).1 (hW.1 _ tf6.2).2 hM g14 e14 ?_
  refine g_aload_n hX dX8_image_15 (i := 0) rfl (j := 0) rfl ?_
  have tf16 := (tyF (k := 44) hW t0 (by decide) rfl (by decide) : KM (r p0 44) = 9 ∧ ok (r p0 44))
  refine gf_X8_97 hX dX8_image_16 (ty1 hW t0) (hW.1 _ tf16.2).1 ?_
  refine g_iconst (v := 1) hX dX8_image_19 (by decide) ?_
  refine g_aload_n hX dX8_image_20 (i := 0) rfl (j := 0) rfl ?_
  refine gf_X8_288 hX dX8_image_21 (ty1 hW t0) ?_
  obtain ⟨g24, hF⟩ := gd_some hF
  obtain ⟨h24, e24, hF⟩ := lt_some hF
  refine g_iast hX dX8_image_24 tf16.1 (hW.1 _ tf16.2).1 (hW.1 _ tf16.2).2 hM g24 e24 ?_
  refine g_aload_n hX dX8_image_25 (i := 0) rfl (j := 0) rfl ?_
  have tf26 := (tyF (k := 44) hW t0 (by decide) rfl (by decide) : KM (r p0 44) = 9 ∧ ok (r p0 44))
  refine gf_X8_97 hX dX8_image_26 (ty1 hW t0) (hW.1 _ tf26.2).1 ?_
  refine g_iconst (v := 2) hX dX8_image_29 (by decide) ?_
  refine g_aload_n hX dX8_image_30 (i := 0) rfl (j := 0) rfl ?_
  refine gf_X8_145 hX dX8_image_31 (ty1 hW t0) ?_
  obtain ⟨g34, hF⟩ := gd_some hF
  obtain ⟨h34, e34, hF⟩ := lt_some hF
  refine g_iast hX dX8_image_34 tf26.1 (hW.1 _ tf26.2).1 (hW.1 _ tf26.2).2 hM g34 e34 ?_
  refine g_aload_n hX dX8_image_35 (i := 0) rfl (j := 0) rfl ?_
  have tf36 := (tyF (k := 44) hW t0 (by decide) rfl (by decide) : KM (r p0 44) = 9 ∧ ok (r p0 44))
  refine gf_X8_97 hX dX8_image_36 (ty1 hW t0) (hW.1 _ tf36.2).1 ?_
  refine g_iconst (v := 3) hX dX8_image_39 (by decide) ?_
  refine g_aload_n hX dX8_image_40 (i := 0) rfl (j := 0) rfl ?_
  refine gf_X8_29 hX dX8_image_41 (ty1 hW t0) ?_
  obtain ⟨g44, hF⟩ := gd_some hF
  obtain ⟨h44, e44, hF⟩ := lt_some hF
  refine g_iast hX dX8_image_44 tf36.1 (hW.1 _ tf36.2).1 (hW.1 _ tf36.2).2 hM g44 e44 ?_
  refine g_aload_n hX dX8_image_45 (i := 0) rfl (j := 0) rfl ?_
  have tf46 := (tyF (k := 44) hW t0 (by decide) rfl (by decide) : KM (r p0 44) = 9 ∧ ok (r p0 44))
  refine gf_X8_97 hX dX8_image_46 (ty1 hW t0) (hW.1 _ tf46.2).1 ?_
  refine g_iconst (v := 4) hX dX8_image_49 (by decide) ?_
  refine g_aload_n hX dX8_image_50 (i := 0) rfl (j := 0) rfl ?_
  refine gf_X8_148 hX dX8_image_51 (ty1 hW t0) ?_
  obtain ⟨g54, hF⟩ := gd_some hF
  obtain ⟨h54, e54, hF⟩ := lt_some hF
  refine g_iast hX dX8_image_54 tf46.1 (hW.1 _ tf46.2).1 (hW.1 _ tf46.2).2 hM g54 e54 ?_
  refine g_aload_n hX dX8_image_55 (i := 0) rfl (j := 0) rfl ?_
  have tf56 := (tyF (k := 44) hW t0 (by decide) rfl (by decide) : KM (r p0 44) = 9 ∧ ok (r p0 44))
  refine gf_X8_97 hX dX8_image_56 (ty1 hW t0) (hW.1 _ tf56.2).1 ?_
  refine g_iconst (v := 5) hX dX8_image_59 (by decide) ?_
  refine g_aload_n hX dX8_image_60 (i := 0) rfl (j := 0) rfl ?_
  refine gf_X8_230 hX dX8_image_61 (ty1 hW t0) ?_
  obtain ⟨g64, hF⟩ := gd_some hF
  obtain ⟨h64, e64, hF⟩ := lt_some hF
  refine g_iast hX dX8_image_64 tf56.1 (hW.1 _ tf56.2).1 (hW.1 _ tf56.2).2 hM g64 e64 ?_
  refine g_iconst (v := 0) hX dX8_image_65 (by decide) ?_
  refine g_istore_n (L' := [(1, .int 0), (0, .ref (b + p0))]) hX dX8_image_66 (i := 1) rfl (by decide) rfl ?_
  refine g_sub (L' := [(0, .ref (b + p0)), (1, .int 0)]) [1, 0] rfl ?_
  exact kX8_image_b67 hX hM hW p0 t0 hR lpF h64 0 hF
theorem ctX8_image {b N sz : Nat} {ok : Nat → Prop} {h : HH} {r : RR} {w : Int32 × HH} (hM : N ≤ MM) (hW : WT KM lnM ok N r) (p0 : Nat) (t0 : KM p0 = 8 ∧ ok p0) (hF : fX8_image h r p0 = some w) : CT yX8_image cX8_image 2 (some FieldType.int) 1 b KM lnM MM N sz [.ref (b + p0)] h r N sz (some (.int w.1)) w.2 r 0 0 :=
  CT_of (by decide) rfl (Nat.le_of_ble_eq_true rfl) (by decide) trivial (fun X hX hR => kX8_image hX hM hW p0 t0 hR hF)
/-! X8_back -/
def fX8_back_b195 (r : RR) (p0 : Nat) : Nat → HH → Int32 → Option (Int32 × HH)
  | 0, _, _ => none
  | n + 1, h, x1 => if 6 ≤ x1 then (gd (cpok 0 0 6 (lnM (r p0 50)) (lnM (r p0 13))) (lt (cpH h (r p0 50) (r p0 13) (ix 0) (ix 0) (ix 6)) (fun h238 => some (h238 p0 0, h238)))) else (gd (inb x1 (lnM (r p0 49))) (gd (inb x1 (lnM (r p0 14))) (gd (cpok 0 0 8 (lnM (r (r p0 49) (ix x1))) (lnM (r (r p0 14) (ix x1)))) (lt (cpH h (r (r p0 49) (ix x1)) (r (r p0 14) (ix x1)) (ix 0) (ix 0) (ix 8)) (fun h217 => fX8_back_b195 r p0 n h217 (x1 + 1))))))
def fX8_back_b72 (r : RR) (p0 : Nat) : Nat → HH → Int32 → Option (Int32 × HH)
  | 0, _, _ => none
  | n + 1, h, x1 => if 3 ≤ x1 then (gd (inb 3 (lnM (r p0 45))) (gd (cpok 0 0 30 (lnM (r (r p0 45) (ix 3))) (lnM (r p0 2))) (lt (cpH h (r (r p0 45) (ix 3)) (r p0 2) (ix 0) (ix 0) (ix 30)) (fun h173 => gd (inb 4 (lnM (r p0 45))) (gd (cpok 0 0 6 (lnM (r (r p0 45) (ix 4))) (lnM (r p0 12))) (lt (cpH h173 (r (r p0 45) (ix 4)) (r p0 12) (ix 0) (ix 0) (ix 6)) (fun h190 => fX8_back_b195 r p0 lpF h190 0))))))) else (gd (inb x1 (lnM (r p0 45))) (gd (inb x1 (lnM (r p0 3))) (gd (cpok 0 0 30 (lnM (r (r p0 45) (ix x1))) (lnM (r (r p0 3) (ix x1)))) (lt (cpH h (r (r p0 45) (ix x1)) (r (r p0 3) (ix x1)) (ix 0) (ix 0) (ix 30)) (fun h93 => gd (inb x1 (lnM (r p0 46))) (gd (inb x1 (lnM (r p0 4))) (gd (cpok 0 0 30 (lnM (r (r p0 46) (ix x1))) (lnM (r (r p0 4) (ix x1)))) (lt (cpH h93 (r (r p0 46) (ix x1)) (r (r p0 4) (ix x1)) (ix 0) (ix 0) (ix 30)) (fun h112 => gd (inb x1 (lnM (r p0 47))) (gd (inb x1 (lnM (r p0 5))) (gd (cpok 0 0 30 (lnM (r (r p0 47) (ix x1))) (lnM (r (r p0 5) (ix x1)))) (lt (cpH h112 (r (r p0 47) (ix x1)) (r (r p0 5) (ix x1)) (ix 0) (ix 0) (ix 30)) (fun h131 => gd (inb x1 (lnM (r p0 48))) (gd (inb x1 (lnM (r p0 6))) (gd (cpok 0 0 30 (lnM (r (r p0 48) (ix x1))) (lnM (r (r p0 6) (ix x1)))) (lt (cpH h131 (r (r p0 48) (ix x1)) (r (r p0 6) (ix x1)) (ix 0) (ix 0) (ix 30)) (fun h150 => fX8_back_b72 r p0 n h150 (x1 + 1))))))))))))))))))
def fX8_back (h : HH) (r : RR) (p0 : Nat) : Option (Int32 × HH) := if ¬ (h p0 43) = 0 then (gd (inb 0 (lnM (r p0 44))) (lt (up h p0 0 (h (r p0 44) (ix 0))) (fun h17 => gd (inb 1 (lnM (r p0 44))) (lt (up h17 p0 1 (h17 (r p0 44) (ix 1))) (fun h27 => gd (inb 2 (lnM (r p0 44))) (lt (up h27 p0 7 (h27 (r p0 44) (ix 2))) (fun h37 => gd (inb 3 (lnM (r p0 44))) (lt (up h37 p0 8 (h37 (r p0 44) (ix 3))) (fun h47 => gd (inb 4 (lnM (r p0 44))) (lt (up h47 p0 9 (h47 (r p0 44) (ix 4))) (fun h57 => gd (inb 5 (lnM (r p0 44))) (lt (up h57 p0 11 (h57 (r p0 44) (ix 5))) (fun h67 => fX8_back_b72 r p0 lpF h67 0))))))))))))) else (some ((-3), h))
set_option maxRecDepth 100000 in
set_option maxHeartbeats 4000000 in
theorem kX8_back_b195 {X : XT} {b N sz : Nat} {ok : Nat → Prop} {r : RR} {w : Int32 × HH} (hX : XOK X RX8 cX8_back 2 1) (hM : N ≤ MM) (hW : WT KM lnM ok N r) (p0 : Nat) (t0 : KM p0 = 8 ∧ ok p0) (hR : XR X b KM lnM MM (some FieldType.int) 0 0 N sz (some (.int w.1)) w.2 r) : ∀ (n : Nat) (h : HH) (x1 : Int32), fX8_back_b195 r p0 n h x1 = some w → GX X b KM lnM MM 2 0 0 N sz 195 [(0, .ref (b + p0)), (1, .int x1)] [] h r := by
  intro n
  induction n with
  | zero =>
    intro h x1 hF
    cases hF
  | succ n ih =>
    intro h x1 hF
    rw [fX8_back_b195] at hF
    refine g_iload_n hX dX8_back_195 (i := 1) rfl (j := 1) rfl ?_
    refine g_bipush (v := 6) hX dX8_back_196 (by decide) ?_
    refine g_icmp_ge (tgt := 226) hX dX8_back_198 (by decide) (fun c198 => ?_) (fun c198 => ?_)
    · have hF := ite_t hF c198
      refine g_aload_n hX dX8_back_226 (i := 0) rfl (j := 0) rfl ?_
      have tf227 := (tyF (k := 50) hW t0 (by decide) rfl (by decide) : KM (r p0 50) = 9 ∧ ok (r p0 50))
      refine gf_X8_115 hX dX8_back_227 (ty1 hW t0) (hW.1 _ tf227.2).1 ?_
      refine g_iconst (v := 0) hX dX8_back_230 (by decide) ?_
      refine g_aload_n hX dX8_back_231 (i := 0) rfl (j := 0) rfl ?_
      have tf232 := (tyF (k := 13) hW t0 (by decide) rfl (by decide) : KM (r p0 13) = 9 ∧ ok (r p0 13))
      refine gf_X8_39 hX dX8_back_232 (ty1 hW t0) (hW.1 _ tf232.2).1 ?_
      refine g_iconst (v := 0) hX dX8_back_235 (by decide) ?_
      refine g_bipush (v := 6) hX dX8_back_236 (by decide) ?_
      obtain ⟨g238, hF⟩ := gd_some hF
      obtain ⟨h238, e238, hF⟩ := lt_some hF
      refine g_acopy hX dX8_back_238 wm_X8_322 (ty1 hW tf227) (ty1 hW tf232) (by decide) hM g238 (by decide) (Nat.le_of_ble_eq_true rfl) e238 ?_
      refine g_aload_n hX dX8_back_241 (i := 0) rfl (j := 0) rfl ?_
      refine gf_X8_130 hX dX8_back_242 (ty1 hW t0) ?_
      obtain rfl := Option.some.inj hF
      exact g_iret hX dX8_back_245 hR
    · have hF := ite_f hF c198
      refine g_aload_n hX dX8_back_201 (i := 0) rfl (j := 0) rfl ?_
      have tf202 := (tyF (k := 49) hW t0 (by decide) rfl (by decide) : KM (r p0 49) = 14 ∧ ok (r p0 49))
      refine gf_X8_112 hX dX8_back_202 (ty1 hW t0) (hW.1 _ tf202.2).1 ?_
      refine g_iload_n hX dX8_back_205 (i := 1) rfl (j := 1) rfl ?_
      obtain ⟨g206, hF⟩ := gd_some hF
      have ta206 : KM (r (r p0 49) (ix x1)) = 9 ∧ ok (r (r p0 49) (ix x1)) := tyA hW tf202 (by decide) rfl (by decide) g206
      refine g_aald hX dX8_back_206 tf202.1 (by decide) (by decide) (hW.1 _ tf202.2).1 (hW.1 _ tf202.2).2 g206 (hW.1 _ ta206.2).1 ?_
      refine g_iconst (v := 0) hX dX8_back_207 (by decide) ?_
      refine g_aload_n hX dX8_back_208 (i := 0) rfl (j := 0) rfl ?_
      have tf209 := (tyF (k := 14) hW t0 (by decide) rfl (by decide) : KM (r p0 14) = 14 ∧ ok (r p0 14))
      refine gf_X8_43 hX dX8_back_209 (ty1 hW t0) (hW.1 _ tf209.2).1 ?_
      refine g_iload_n hX dX8_back_212 (i := 1) rfl (j := 1) rfl ?_
      obtain ⟨g213, hF⟩ := gd_some hF
      have ta213 : KM (r (r p0 14) (ix x1)) = 9 ∧ ok (r (r p0 14) (ix x1)) := tyA hW tf209 (by decide) rfl (by decide) g213
      refine g_aald hX dX8_back_213 tf209.1 (by decide) (by decide) (hW.1 _ tf209.2).1 (hW.1 _ tf209.2).2 g213 (hW.1 _ ta213.2).1 ?_
      refine g_iconst (v := 0) hX dX8_back_214 (by decide) ?_
      refine g_bipush (v := 8) hX dX8_back_215 (by decide) ?_
      obtain ⟨g217, hF⟩ := gd_some hF
      obtain ⟨h217, e217, hF⟩ := lt_some hF
      refine g_acopy hX dX8_back_217 wm_X8_322 (ty1 hW ta206) (ty1 hW ta213) (by decide) hM g217 (by decide) (Nat.le_of_ble_eq_true rfl) e217 ?_
      refine g_iinc (L' := [(1, .int (x1 + 1)), (0, .ref (b + p0))]) (j := 1) hX dX8_back_220 rfl rfl (by decide) rfl ?_
      refine g_goto (tgt := 195) hX dX8_back_223 (by decide) ?_
      refine g_sub (L' := [(0, .ref (b + p0)), (1, .int (x1 + 1))]) [1, 0] rfl ?_
      exact ih h217 (x1 + 1) hF
set_option maxRecDepth 100000 in
set_option maxHeartbeats 4000000 in
theorem kX8_back_b72 {X : XT} {b N sz : Nat} {ok : Nat → Prop} {r : RR} {w : Int32 × HH} (hX : XOK X RX8 cX8_back 2 1) (hM : N ≤ MM) (hW : WT KM lnM ok N r) (p0 : Nat) (t0 : KM p0 = 8 ∧ ok p0) (hR : XR X b KM lnM MM (some FieldType.int) 0 0 N sz (some (.int w.1)) w.2 r) : ∀ (n : Nat) (h : HH) (x1 : Int32), fX8_back_b72 r p0 n h x1 = some w → GX X b KM lnM MM 2 0 0 N sz 72 [(0, .ref (b + p0)), (1, .int x1)] [] h r := by
  intro n
  induction n with
  | zero =>
    intro h x1 hF
    cases hF
  | succ n ih =>
    intro h x1 hF
    rw [fX8_back_b72] at hF
    refine g_iload_n hX dX8_back_72 (i := 1) rfl (j := 1) rfl ?_
    refine g_iconst (v := 3) hX dX8_back_73 (by decide) ?_
    refine g_icmp_ge (tgt := 159) hX dX8_back_74 (by decide) (fun c74 => ?_) (fun c74 => ?_)
    · have hF := ite_t hF c74
      refine g_aload_n hX dX8_back_159 (i := 0) rfl (j := 0) rfl ?_
      have tf160 := (tyF (k := 45) hW t0 (by decide) rfl (by decide) : KM (r p0 45) = 15 ∧ ok (r p0 45))
      refine gf_X8_100 hX dX8_back_160 (ty1 hW t0) (hW.1 _ tf160.2).1 ?_
      refine g_iconst (v := 3) hX dX8_back_163 (by decide) ?_
      obtain ⟨g164, hF⟩ := gd_some hF
      have ta164 : KM (r (r p0 45) (ix 3)) = 10 ∧ ok (r (r p0 45) (ix 3)) := tyA hW tf160 (by decide) rfl (by decide) g164
      refine g_aald hX dX8_back_164 tf160.1 (by decide) (by decide) (hW.1 _ tf160.2).1 (hW.1 _ tf160.2).2 g164 (hW.1 _ ta164.2).1 ?_
      refine g_iconst (v := 0) hX dX8_back_165 (by decide) ?_
      refine g_aload_n hX dX8_back_166 (i := 0) rfl (j := 0) rfl ?_
      have tf167 := (tyF (k := 2) hW t0 (by decide) rfl (by decide) : KM (r p0 2) = 10 ∧ ok (r p0 2))
      refine gf_X8_9 hX dX8_back_167 (ty1 hW t0) (hW.1 _ tf167.2).1 ?_
      refine g_iconst (v := 0) hX dX8_back_170 (by decide) ?_
      refine g_bipush (v := 30) hX dX8_back_171 (by decide) ?_
      obtain ⟨g173, hF⟩ := gd_some hF
      obtain ⟨h173, e173, hF⟩ := lt_some hF
      refine g_acopy hX dX8_back_173 wm_X8_322 (ty1 hW ta164) (ty1 hW tf167) (by decide) hM g173 (by decide) (Nat.le_of_ble_eq_true rfl) e173 ?_
      refine g_aload_n hX dX8_back_176 (i := 0) rfl (j := 0) rfl ?_
      have tf177 := (tyF (k := 45) hW t0 (by decide) rfl (by decide) : KM (r p0 45) = 15 ∧ ok (r p0 45))
      refine gf_X8_100 hX dX8_back_177 (ty1 hW t0) (hW.1 _ tf177.2).1 ?_
      refine g_iconst (v := 4) hX dX8_back_180 (by decide) ?_
      obtain ⟨g181, hF⟩ := gd_some hF
      have ta181 : KM (r (r p0 45) (ix 4)) = 10 ∧ ok (r (r p0 45) (ix 4)) := tyA hW tf177 (by decide) rfl (by decide) g181
      refine g_aald hX dX8_back_181 tf177.1 (by decide) (by decide) (hW.1 _ tf177.2).1 (hW.1 _ tf177.2).2 g181 (hW.1 _ ta181.2).1 ?_
      refine g_iconst (v := 0) hX dX8_back_182 (by decide) ?_
      refine g_aload_n hX dX8_back_183 (i := 0) rfl (j := 0) rfl ?_
      have tf184 := (tyF (k := 12) hW t0 (by decide) rfl (by decide) : KM (r p0 12) = 10 ∧ ok (r p0 12))
      refine gf_X8_36 hX dX8_back_184 (ty1 hW t0) (hW.1 _ tf184.2).1 ?_
      refine g_iconst (v := 0) hX dX8_back_187 (by decide) ?_
      refine g_bipush (v := 6) hX dX8_back_188 (by decide) ?_
      obtain ⟨g190, hF⟩ := gd_some hF
      obtain ⟨h190, e190, hF⟩ := lt_some hF
      refine g_acopy hX dX8_back_190 wm_X8_322 (ty1 hW ta181) (ty1 hW tf184) (by decide) hM g190 (by decide) (Nat.le_of_ble_eq_true rfl) e190 ?_
      refine g_iconst (v := 0) hX dX8_back_193 (by decide) ?_
      refine g_istore_n (L' := [(1, .int 0), (0, .ref (b + p0))]) hX dX8_back_194 (i := 1) rfl (by decide) rfl ?_
      refine g_sub (L' := [(0, .ref (b + p0)), (1, .int 0)]) [1, 0] rfl ?_
      exact kX8_back_b195 hX hM hW p0 t0 hR lpF h190 0 hF
    · have hF := ite_f hF c74
      refine g_aload_n hX dX8_back_77 (i := 0) rfl (j := 0) rfl ?_
      have tf78 := (tyF (k := 45) hW t0 (by decide) rfl (by decide) : KM (r p0 45) = 15 ∧ ok (r p0 45))
      refine gf_X8_100 hX dX8_back_78 (ty1 hW t0) (hW.1 _ tf78.2).1 ?_
      refine g_iload_n hX dX8_back_81 (i := 1) rfl (j := 1) rfl ?_
      obtain ⟨g82, hF⟩ := gd_some hF
      have ta82 : KM (r (r p0 45) (ix x1)) = 10 ∧ ok (r (r p0 45) (ix x1)) := tyA hW tf78 (by decide) rfl (by decide) g82
      refine g_aald hX dX8_back_82 tf78.1 (by decide) (by decide) (hW.1 _ tf78.2).1 (hW.1 _ tf78.2).2 g82 (hW.1 _ ta82.2).1 ?_
      refine g_iconst (v := 0) hX dX8_back_83 (by decide) ?_
      refine g_aload_n hX dX8_back_84 (i := 0) rfl (j := 0) rfl ?_
      have tf85 := (tyF (k := 3) hW t0 (by decide) rfl (by decide) : KM (r p0 3) = 15 ∧ ok (r p0 3))
      refine gf_X8_15 hX dX8_back_85 (ty1 hW t0) (hW.1 _ tf85.2).1 ?_
      refine g_iload_n hX dX8_back_88 (i := 1) rfl (j := 1) rfl ?_
      obtain ⟨g89, hF⟩ := gd_some hF
      have ta89 : KM (r (r p0 3) (ix x1)) = 10 ∧ ok (r (r p0 3) (ix x1)) := tyA hW tf85 (by decide) rfl (by decide) g89
      refine g_aald hX dX8_back_89 tf85.1 (by decide) (by decide) (hW.1 _ tf85.2).1 (hW.1 _ tf85.2).2 g89 (hW.1 _ ta89.2).1 ?_
      refine g_iconst (v := 0) hX dX8_back_90 (by decide) ?_
      refine g_bipush (v := 30) hX dX8_back_91 (by decide) ?_
      obtain ⟨g93, hF⟩ := gd_some hF
      obtain ⟨h93, e93, hF⟩ := lt_some hF
      refine g_acopy hX dX8_back_93 wm_X8_322 (ty1 hW ta82) (ty1 hW ta89) (by decide) hM g93 (by decide) (Nat.le_of_ble_eq_true rfl) e93 ?_
      refine g_aload_n hX dX8_back_96 (i := 0) rfl (j := 0) rfl ?_
      have tf97 := (tyF (k := 46) hW t0 (by decide) rfl (by decide) : KM (r p0 46) = 14 ∧ ok (r p0 46))
      refine gf_X8_103 hX dX8_back_97 (ty1 hW t0) (hW.1 _ tf97.2).1 ?_
      refine g_iload_n hX dX8_back_100 (i := 1) rfl (j := 1) rfl ?_
      obtain ⟨g101, hF⟩ := gd_some hF
      have ta101 : KM (r (r p0 46) (ix x1)) = 9 ∧ ok (r (r p0 46) (ix x1)) := tyA hW tf97 (by decide) rfl (by decide) g101
      refine g_aald hX dX8_back_101 tf97.1 (by decide) (by decide) (hW.1 _ tf97.2).1 (hW.1 _ tf97.2).2 g101 (hW.1 _ ta101.2).1 ?_
      refine g_iconst (v := 0) hX dX8_back_102 (by decide) ?_
      refine g_aload_n hX dX8_back_103 (i := 0) rfl (j := 0) rfl ?_
      have tf104 := (tyF (k := 4) hW t0 (by decide) rfl (by decide) : KM (r p0 4) = 14 ∧ ok (r p0 4))
      refine gf_X8_20 hX dX8_back_104 (ty1 hW t0) (hW.1 _ tf104.2).1 ?_
      refine g_iload_n hX dX8_back_107 (i := 1) rfl (j := 1) rfl ?_
      obtain ⟨g108, hF⟩ := gd_some hF
      have ta108 : KM (r (r p0 4) (ix x1)) = 9 ∧ ok (r (r p0 4) (ix x1)) := tyA hW tf104 (by decide) rfl (by decide) g108
      refine g_aald hX dX8_back_108 tf104.1 (by decide) (by decide) (hW.1 _ tf104.2).1 (hW.1 _ tf104.2).2 g108 (hW.1 _ ta108.2).1 ?_
      refine g_iconst (v := 0) hX dX8_back_109 (by decide) ?_
      refine g_bipush (v := 30) hX dX8_back_110 (by decide) ?_
      obtain ⟨g112, hF⟩ := gd_some hF
      obtain ⟨h112, e112, hF⟩ := lt_some hF
      refine g_acopy hX dX8_back_112 wm_X8_322 (ty1 hW ta101) (ty1 hW ta108) (by decide) hM g112 (by decide) (Nat.le_of_ble_eq_true rfl) e112 ?_
      refine g_aload_n hX dX8_back_115 (i := 0) rfl (j := 0) rfl ?_
      have tf116 := (tyF (k := 47) hW t0 (by decide) rfl (by decide) : KM (r p0 47) = 14 ∧ ok (r p0 47))
      refine gf_X8_106 hX dX8_back_116 (ty1 hW t0) (hW.1 _ tf116.2).1 ?_
      refine g_iload_n hX dX8_back_119 (i := 1) rfl (j := 1) rfl ?_
      obtain ⟨g120, hF⟩ := gd_some hF
      have ta120 : KM (r (r p0 47) (ix x1)) = 9 ∧ ok (r (r p0 47) (ix x1)) := tyA hW tf116 (by decide) rfl (by decide) g120
      refine g_aald hX dX8_back_120 tf116.1 (by decide) (by decide) (hW.1 _ tf116.2).1 (hW.1 _ tf116.2).2 g120 (hW.1 _ ta120.2).1 ?_
      refine g_iconst (v := 0) hX dX8_back_121 (by decide) ?_
      refine g_aload_n hX dX8_back_122 (i := 0) rfl (j := 0) rfl ?_
      have tf123 := (tyF (k := 5) hW t0 (by decide) rfl (by decide) : KM (r p0 5) = 14 ∧ ok (r p0 5))
      refine gf_X8_23 hX dX8_back_123 (ty1 hW t0) (hW.1 _ tf123.2).1 ?_
      refine g_iload_n hX dX8_back_126 (i := 1) rfl (j := 1) rfl ?_
      obtain ⟨g127, hF⟩ := gd_some hF
      have ta127 : KM (r (r p0 5) (ix x1)) = 9 ∧ ok (r (r p0 5) (ix x1)) := tyA hW tf123 (by decide) rfl (by decide) g127
      refine g_aald hX dX8_back_127 tf123.1 (by decide) (by decide) (hW.1 _ tf123.2).1 (hW.1 _ tf123.2).2 g127 (hW.1 _ ta127.2).1 ?_
      refine g_iconst (v := 0) hX dX8_back_128 (by decide) ?_
      refine g_bipush (v := 30) hX dX8_back_129 (by decide) ?_
      obtain ⟨g131, hF⟩ := gd_some hF
      obtain ⟨h131, e131, hF⟩ := lt_some hF
      refine g_acopy hX dX8_back_131 wm_X8_322 (ty1 hW ta120) (ty1 hW ta127) (by decide) hM g131 (by decide) (Nat.le_of_ble_eq_true rfl) e131 ?_
      refine g_aload_n hX dX8_back_134 (i := 0) rfl (j := 0) rfl ?_
      have tf135 := (tyF (k := 48) hW t0 (by decide) rfl (by decide) : KM (r p0 48) = 14 ∧ ok (r p0 48))
      refine gf_X8_109 hX dX8_back_135 (ty1 hW t0) (hW.1 _ tf135.2).1 ?_
      refine g_iload_n hX dX8_back_138 (i := 1) rfl (j := 1) rfl ?_
      obtain ⟨g139, hF⟩ := gd_some hF
      have ta139 : KM (r (r p0 48) (ix x1)) = 9 ∧ ok (r (r p0 48) (ix x1)) := tyA hW tf135 (by decide) rfl (by decide) g139
      refine g_aald hX dX8_back_139 tf135.1 (by decide) (by decide) (hW.1 _ tf135.2).1 (hW.1 _ tf135.2).2 g139 (hW.1 _ ta139.2).1 ?_
      refine g_iconst (v := 0) hX dX8_back_140 (by decide) ?_
      refine g_aload_n hX dX8_back_141 (i := 0) rfl (j := 0) rfl ?_
      have tf142 := (tyF (k := 6) hW t0 (by decide) rfl (by decide) : KM (r p0 6) = 14 ∧ ok (r p0 6))
      refine gf_X8_26 hX dX8_back_142 (ty1 hW t0) (hW.1 _ tf142.2).1 ?_
      refine g_iload_n hX dX8_back_145 (i := 1) rfl (j := 1) rfl ?_
      obtain ⟨g146, hF⟩ := gd_some hF
      have ta146 : KM (r (r p0 6) (ix x1)) = 9 ∧ ok (r (r p0 6) (ix x1)) := tyA hW tf142 (by decide) rfl (by decide) g146
      refine g_aald hX dX8_back_146 tf142.1 (by decide) (by decide) (hW.1 _ tf142.2).1 (hW.1 _ tf142.2).2 g146 (hW.1 _ ta146.2).1 ?_
      refine g_iconst (v := 0) hX dX8_back_147 (by decide) ?_
      refine g_bipush (v := 30) hX dX8_back_148 (by decide) ?_
      obtain ⟨g150, hF⟩ := gd_some hF
      obtain ⟨h150, e150, hF⟩ := lt_some hF
      refine g_acopy hX dX8_back_150 wm_X8_322 (ty1 hW ta139) (ty1 hW ta146) (by decide) hM g150 (by decide) (Nat.le_of_ble_eq_true rfl) e150 ?_
      refine g_iinc (L' := [(1, .int (x1 + 1)), (0, .ref (b + p0))]) (j := 1) hX dX8_back_153 rfl rfl (by decide) rfl ?_
      refine g_goto (tgt := 72) hX dX8_back_156 (by decide) ?_
      refine g_sub (L' := [(0, .ref (b + p0)), (1, .int (x1 + 1))]) [1, 0] rfl ?_
      exact ih h150 (x1 + 1) hF
set_option maxRecDepth 100000 in
set_option maxHeartbeats 4000000 in
theorem kX8_back {X : XT} {b N sz : Nat} {ok : Nat → Prop} {h : HH} {r : RR} {w : Int32 × HH} (hX : XOK X RX8 cX8_back 2 1) (hM : N ≤ MM) (hW : WT KM lnM ok N r) (p0 : Nat) (t0 : KM p0 = 8 ∧ ok p0) (hR : XR X b KM lnM MM (some FieldType.int) 0 0 N sz (some (.int w.1)) w.2 r) (hF : fX8_back h r p0 = some w) : GX X b KM lnM MM 2 0 0 N sz 0 [(0, .ref (b + p0))] [] h r := by
  rw [fX8_back] at hF
  refine g_aload_n hX dX8_back_0 (i := 0) rfl (j := 0) rfl ?_
  refine gf_X8_369 hX dX8_back_1 (ty1 hW t0) ?_
  refine g_if_ne (tgt := 10) hX dX8_back_4 (by decide) (fun c4 => ?_) (fun c4 => ?_)
  · have hF := ite_t hF c4
    refine g_aload_n hX dX8_back_10 (i := 0) rfl (j := 0) rfl ?_
    refine g_aload_n hX dX8_back_11 (i := 0) rfl (j := 0) rfl ?_
    have tf12 := (tyF (k := 44) hW t0 (by decide) rfl (by decide) : KM (r p0 44) = 9 ∧ ok (r p0 44))
    refine gf_X8_97 hX dX8_back_12 (ty1 hW t0) (hW.1 _ tf12.2).1 ?_
    refine g_iconst (v := 0) hX dX8_back_15 (by decide) ?_
    obtain ⟨g16, hF⟩ := gd_some hF
    refine g_iald hX dX8_back_16 tf12.1 (hW.1 _ tf12.2).1 (hW.1 _ tf12.2).2 g16 ?_
    obtain ⟨h17, e17, hF⟩ := lt_some hF
    refine pf_X8_130 hX dX8_back_17 (ty1 hW t0) hM e17 ?_
    refine g_aload_n hX dX8_back_20 (i := 0) rfl (j := 0) rfl ?_
    refine g_aload_n hX dX8_back_21 (i := 0) rfl (j := 0) rfl ?_
    have tf22 := (tyF (k := 44) hW t0 (by decide) rfl (by decide) : KM (r p0 44) = 9 ∧ ok (r p0 44))
    refine gf_X8_97 hX dX8_back_22 (ty1 hW t0) (hW.1 _ tf22.2).1 ?_
    refine g_iconst (v := 1) hX dX8_back_25 (by decide) ?_
    obtain ⟨g26, hF⟩ := gd_some hF
    refine g_iald hX dX8_back_26 tf22.1 (hW.1 _ tf22.2).1 (hW.1 _ tf22.2).2 g26 ?_
    obtain ⟨h27, e27, hF⟩ := lt_some hF
    refine pf_X8_288 hX dX8_back_27 (ty1 hW t0) hM e27 ?_
    refine g_aload_n hX dX8_back_30 (i := 0) rfl (j := 0) rfl ?_
    refine g_aload_n hX dX8_back_31 (i := 0) rfl (j := 0) rfl ?_
    have tf32 := (tyF (k := 44) hW t0 (by decide) rfl (by decide) : KM (r p0 44) = 9 ∧ ok (r p0 44))
    refine gf_X8_97 hX dX8_back_32 (ty1 hW t0) (hW.1 _ tf32.2).1 ?_
    refine g_iconst (v := 2) hX dX8_back_35 (by decide) ?_
    obtain ⟨g36, hF⟩ := gd_some hF
    refine g_iald hX dX8_back_36 tf32.1 (hW.1 _ tf32.2).1 (hW.1 _ tf32.2).2 g36 ?_
    obtain ⟨h37, e37, hF⟩ := lt_some hF
    refine pf_X8_145 hX dX8_back_37 (ty1 hW t0) hM e37 ?_
    refine g_aload_n hX dX8_back_40 (i := 0) rfl (j := 0) rfl ?_
    refine g_aload_n hX dX8_back_41 (i := 0) rfl (j := 0) rfl ?_
    have tf42 := (tyF (k := 44) hW t0 (by decide) rfl (by decide) : KM (r p0 44) = 9 ∧ ok (r p0 44))
    refine gf_X8_97 hX dX8_back_42 (ty1 hW t0) (hW.1 _ tf42.2).1 ?_
    refine g_iconst (v := 3) hX dX8_back_45 (by decide) ?_
    obtain ⟨g46, hF⟩ := gd_some hF
    refine g_iald hX dX8_back_46 tf42.1 (hW.1 _ tf42.2).1 (hW.1 _ tf42.2).2 g46 ?_
    obtain ⟨h47, e47, hF⟩ := lt_some hF
    refine pf_X8_29 hX dX8_back_47 (ty1 hW t0) hM e47 ?_
    refine g_aload_n hX dX8_back_50 (i := 0) rfl (j := 0) rfl ?_
    refine g_aload_n hX dX8_back_51 (i := 0) rfl (j := 0) rfl ?_
    have tf52 := (tyF (k := 44) hW t0 (by decide) rfl (by decide) : KM (r p0 44) = 9 ∧ ok (r p0 44))
    refine gf_X8_97 hX dX8_back_52 (ty1 hW t0) (hW.1 _ tf52.2).1 ?_
    refine g_iconst (v := 4) hX dX8_back_55 (by decide) ?_
    obtain ⟨g56, hF⟩ := gd_some hF
    refine g_iald hX dX8_back_56 tf52.1 (hW.1 _ tf52.2).1 (hW.1 _ tf52.2).2 g56 ?_
    obtain ⟨h57, e57, hF⟩ := lt_some hF
    refine pf_X8_148 hX dX8_back_57 (ty1 hW t0) hM e57 ?_
    refine g_aload_n hX dX8_back_60 (i := 0) rfl (j := 0) rfl ?_
    refine g_aload_n hX dX8_back_61 (i := 0) rfl (j := 0) rfl ?_
    have tf62 := (tyF (k := 44) hW t0 (by decide) rfl (by decide) : KM (r p0 44) = 9 ∧ ok (r p0 44))
    refine gf_X8_97 hX dX8_back_62 (ty1 hW t0) (hW.1 _ tf62.2).1 ?_
    refine g_iconst (v := 5) hX dX8_back_65 (by decide) ?_
    obtain ⟨g66, hF⟩ := gd_some hF
    refine g_iald hX dX8_back_66 tf62.1 (hW.1 _ tf62.2).1 (hW.1 _ tf62.2).2 g66 ?_
    obtain ⟨h67, e67, hF⟩ := lt_some hF
    refine pf_X8_230 hX dX8_back_67 (ty1 hW t0) hM e67 ?_
    refine g_iconst (v := 0) hX dX8_back_70 (by decide) ?_
    refine g_istore_n (L' := [(1, .int 0), (0, .ref (b + p0))]) hX dX8_back_71 (i := 1) rfl (by decide) rfl ?_
    refine g_sub (L' := [(0, .ref (b + p0)), (1, .int 0)]) [1, 0] rfl ?_
    exact kX8_back_b72 hX hM hW p0 t0 hR lpF h67 0 hF
  · have hF := ite_f hF (fun z => z c4)
    refine g_bipush (v := (-3)) hX dX8_back_7 (by decide) ?_
    obtain rfl := Option.some.inj hF
    exact g_iret hX dX8_back_9 hR
theorem ctX8_back {b N sz : Nat} {ok : Nat → Prop} {h : HH} {r : RR} {w : Int32 × HH} (hM : N ≤ MM) (hW : WT KM lnM ok N r) (p0 : Nat) (t0 : KM p0 = 8 ∧ ok p0) (hF : fX8_back h r p0 = some w) : CT yX8_back cX8_back 2 (some FieldType.int) 1 b KM lnM MM N sz [.ref (b + p0)] h r N sz (some (.int w.1)) w.2 r 0 0 :=
  CT_of (by decide) rfl (Nat.le_of_ble_eq_true rfl) (by decide) trivial (fun X hX hR => kX8_back hX hM hW p0 t0 hR hF)
/-! X8_count -/
def fX8_count_b68 (h : HH) (r : RR) (p0 : Nat) (a1 : Int32) (k46 : Int32 → Int32 → Option (Int32)) (x2 : Int32) (x3 : Int32) : Option (Int32) := k46 x2 (x3 + 1)
def fX8_count_b46 (h : HH) (r : RR) (p0 : Nat) (a1 : Int32) : Nat → Int32 → Int32 → Option (Int32)
  | 0, _, _ => none
  | n + 1, x2, x3 => if (h p0 0) ≤ x3 then (some (x2)) else (gd (inb a1 (lnM (r p0 3))) (gd (inb x3 (lnM (r (r p0 3) (ix a1)))) (if (h (r (r p0 3) (ix a1)) (ix x3)) = 0 then (fX8_count_b68 h r p0 a1 (fun z2_ z3_ => fX8_count_b46 h r p0 a1 n z2_ z3_) x2 x3) else (fX8_count_b68 h r p0 a1 (fun z2_ z3_ => fX8_count_b46 h r p0 a1 n z2_ z3_) (x2 + 1) x3))))
def fX8_count (h : HH) (r : RR) (p0 : Nat) (a1 : Int32) : Option (Int32) := if a1 = 0 then (fX8_count_b46 h r p0 a1 lpF 0 0) else (if a1 = 1 then (fX8_count_b46 h r p0 a1 lpF 0 0) else (if a1 = 2 then (fX8_count_b46 h r p0 a1 lpF 0 0) else (if a1 = 3 then (some (h p0 0)) else (if a1 = 4 then (some (h p0 11)) else (if a1 = 5 then (some (h p0 16)) else (if a1 = 6 then (some (h p0 1)) else (some (-2))))))))
set_option maxRecDepth 100000 in
set_option maxHeartbeats 4000000 in
theorem kX8_count_b68 {X : XT} {b N sz : Nat} {ok : Nat → Prop} {h : HH} {r : RR} {w : Int32} (hX : XOK X RX8 cX8_count 4 1) (hM : N ≤ MM) (hW : WT KM lnM ok N r) (p0 : Nat) (a1 : Int32) (t0 : KM p0 = 8 ∧ ok p0) (hR : XR X b KM lnM MM (some FieldType.int) 0 0 N sz (some (.int w)) h r) (k46 : Int32 → Int32 → Option (Int32)) (hk46 : ∀ (x2 : Int32) (x3 : Int32), k46 x2 x3 = some w → GX X b KM lnM MM 4 0 0 N sz 46 [(0, .ref (b + p0)), (1, .int a1), (2, .int x2), (3, .int x3)] [] h r) (x2 : Int32) (x3 : Int32) (hF : fX8_count_b68 h r p0 a1 k46 x2 x3 = some w) : GX X b KM lnM MM 4 0 0 N sz 68 [(0, .ref (b + p0)), (1, .int a1), (2, .int x2), (3, .int x3)] [] h r := by
  rw [fX8_count_b68] at hF
  refine g_iinc (L' := [(3, .int (x3 + 1)), (0, .ref (b + p0)), (1, .int a1), (2, .int x2)]) (j := 3) hX dX8_count_68 rfl rfl (by decide) rfl ?_
  refine g_goto (tgt := 46) hX dX8_count_71 (by decide) ?_
  refine g_sub (L' := [(0, .ref (b + p0)), (1, .int a1), (2, .int x2), (3, .int (x3 + 1))]) [1, 2, 3, 0] rfl ?_
  exact hk46 x2 (x3 + 1) hF
set_option maxRecDepth 100000 in
set_option maxHeartbeats 4000000 in
theorem kX8_count_b46 {X : XT} {b N sz : Nat} {ok : Nat → Prop} {h : HH} {r : RR} {w : Int32} (hX : XOK X RX8 cX8_count 4 1) (hM : N ≤ MM) (hW : WT KM lnM ok N r) (p0 : Nat) (a1 : Int32) (t0 : KM p0 = 8 ∧ ok p0) (hR : XR X b KM lnM MM (some FieldType.int) 0 0 N sz (some (.int w)) h r) : ∀ (n : Nat) (x2 : Int32) (x3 : Int32), fX8_count_b46 h r p0 a1 n x2 x3 = some w → GX X b KM lnM MM 4 0 0 N sz 46 [(0, .ref (b + p0)), (1, .int a1), (2, .int x2), (3, .int x3)] [] h r := by
  intro n
  induction n with
  | zero =>
    intro x2 x3 hF
    cases hF
  | succ n ih =>
    intro x2 x3 hF
    rw [fX8_count_b46] at hF
    refine g_iload_n hX dX8_count_46 (i := 3) rfl (j := 3) rfl ?_
    refine g_aload_n hX dX8_count_47 (i := 0) rfl (j := 0) rfl ?_
    refine gf_X8_130 hX dX8_count_48 (ty1 hW t0) ?_
    refine g_icmp_ge (tgt := 74) hX dX8_count_51 (by decide) (fun c51 => ?_) (fun c51 => ?_)
    · have hF := ite_t hF c51
      refine g_iload_n hX dX8_count_74 (i := 2) rfl (j := 2) rfl ?_
      obtain rfl := Option.some.inj hF
      exact g_iret hX dX8_count_75 hR
    · have hF := ite_f hF c51
      refine g_aload_n hX dX8_count_54 (i := 0) rfl (j := 0) rfl ?_
      have tf55 := (tyF (k := 3) hW t0 (by decide) rfl (by decide) : KM (r p0 3) = 15 ∧ ok (r p0 3))
      refine gf_X8_15 hX dX8_count_55 (ty1 hW t0) (hW.1 _ tf55.2).1 ?_
      refine g_iload_n hX dX8_count_58 (i := 1) rfl (j := 1) rfl ?_
      obtain ⟨g59, hF⟩ := gd_some hF
      have ta59 : KM (r (r p0 3) (ix a1)) = 10 ∧ ok (r (r p0 3) (ix a1)) := tyA hW tf55 (by decide) rfl (by decide) g59
      refine g_aald hX dX8_count_59 tf55.1 (by decide) (by decide) (hW.1 _ tf55.2).1 (hW.1 _ tf55.2).2 g59 (hW.1 _ ta59.2).1 ?_
      refine g_iload_n hX dX8_count_60 (i := 3) rfl (j := 3) rfl ?_
      obtain ⟨g61, hF⟩ := gd_some hF
      refine g_bald hX dX8_count_61 ta59.1 (hW.1 _ ta59.2).1 (hW.1 _ ta59.2).2 g61 ?_
      refine g_if_eq (tgt := 68) hX dX8_count_62 (by decide) (fun c62 => ?_) (fun c62 => ?_)
      · have hF := ite_t hF c62
        refine g_sub (L' := [(0, .ref (b + p0)), (1, .int a1), (2, .int x2), (3, .int x3)]) [0, 1, 2, 3] rfl ?_
        exact kX8_count_b68 hX hM hW p0 a1 t0 hR (fun z2_ z3_ => fX8_count_b46 h r p0 a1 n z2_ z3_) ih x2 x3 hF
      · have hF := ite_f hF c62
        refine g_iinc (L' := [(2, .int (x2 + 1)), (0, .ref (b + p0)), (1, .int a1), (3, .int x3)]) (j := 2) hX dX8_count_65 rfl rfl (by decide) rfl ?_
        refine g_sub (L' := [(0, .ref (b + p0)), (1, .int a1), (2, .int (x2 + 1)), (3, .int x3)]) [1, 2, 0, 3] rfl ?_
        exact kX8_count_b68 hX hM hW p0 a1 t0 hR (fun z2_ z3_ => fX8_count_b46 h r p0 a1 n z2_ z3_) ih (x2 + 1) x3 hF
set_option maxRecDepth 100000 in
set_option maxHeartbeats 4000000 in
theorem kX8_count {X : XT} {b N sz : Nat} {ok : Nat → Prop} {h : HH} {r : RR} {w : Int32} (hX : XOK X RX8 cX8_count 4 1) (hM : N ≤ MM) (hW : WT KM lnM ok N r) (p0 : Nat) (a1 : Int32) (t0 : KM p0 = 8 ∧ ok p0) (hR : XR X b KM lnM MM (some FieldType.int) 0 0 N sz (some (.int w)) h r) (hF : fX8_count h r p0 a1 = some w) : GX X b KM lnM MM 4 0 0 N sz 0 [(0, .ref (b + p0)), (1, .int a1)] [] h r := by
  rw [fX8_count] at hF
  refine g_iconst (v := 0) hX dX8_count_0 (by decide) ?_
  refine g_istore_n (L' := [(2, .int 0), (0, .ref (b + p0)), (1, .int a1)]) hX dX8_count_1 (i := 2) rfl (by decide) rfl ?_
  refine g_iload_n hX dX8_count_2 (i := 1) rfl (j := 2) rfl ?_
  by_cases c3_0 : a1 = 0
  · have hF := ite_t hF c3_0
    refine g_tin (tgt := 44) hX dX8_count_3 c3_0 (by decide) (by decide) rfl (by decide) ?_
    refine g_iconst (v := 0) hX dX8_count_44 (by decide) ?_
    refine g_istore_n (L' := [(3, .int 0), (2, .int 0), (0, .ref (b + p0)), (1, .int a1)]) hX dX8_count_45 (i := 3) rfl (by decide) rfl ?_
    refine g_sub (L' := [(0, .ref (b + p0)), (1, .int a1), (2, .int 0), (3, .int 0)]) [2, 3, 1, 0] rfl ?_
    exact kX8_count_b46 hX hM hW p0 a1 t0 hR lpF 0 0 hF
  have hF := ite_f hF c3_0
  by_cases c3_1 : a1 = 1
  · have hF := ite_t hF c3_1
    refine g_tin (tgt := 44) hX dX8_count_3 c3_1 (by decide) (by decide) rfl (by decide) ?_
    refine g_iconst (v := 0) hX dX8_count_44 (by decide) ?_
    refine g_istore_n (L' := [(3, .int 0), (2, .int 0), (0, .ref (b + p0)), (1, .int a1)]) hX dX8_count_45 (i := 3) rfl (by decide) rfl ?_
    refine g_sub (L' := [(0, .ref (b + p0)), (1, .int a1), (2, .int 0), (3, .int 0)]) [2, 3, 1, 0] rfl ?_
    exact kX8_count_b46 hX hM hW p0 a1 t0 hR lpF 0 0 hF
  have hF := ite_f hF c3_1
  by_cases c3_2 : a1 = 2
  · have hF := ite_t hF c3_2
    refine g_tin (tgt := 44) hX dX8_count_3 c3_2 (by decide) (by decide) rfl (by decide) ?_
    refine g_iconst (v := 0) hX dX8_count_44 (by decide) ?_
    refine g_istore_n (L' := [(3, .int 0), (2, .int 0), (0, .ref (b + p0)), (1, .int a1)]) hX dX8_count_45 (i := 3) rfl (by decide) rfl ?_
    refine g_sub (L' := [(0, .ref (b + p0)), (1, .int a1), (2, .int 0), (3, .int 0)]) [2, 3, 1, 0] rfl ?_
    exact kX8_count_b46 hX hM hW p0 a1 t0 hR lpF 0 0 hF
  have hF := ite_f hF c3_2
  by_cases c3_3 : a1 = 3
  · have hF := ite_t hF c3_3
    refine g_tin (tgt := 76) hX dX8_count_3 c3_3 (by decide) (by decide) rfl (by decide) ?_
    refine g_aload_n hX dX8_count_76 (i := 0) rfl (j := 1) rfl ?_
    refine gf_X8_130 hX dX8_count_77 (ty1 hW t0) ?_
    obtain rfl := Option.some.inj hF
    exact g_iret hX dX8_count_80 hR
  have hF := ite_f hF c3_3
  by_cases c3_4 : a1 = 4
  · have hF := ite_t hF c3_4
    refine g_tin (tgt := 81) hX dX8_count_3 c3_4 (by decide) (by decide) rfl (by decide) ?_
    refine g_aload_n hX dX8_count_81 (i := 0) rfl (j := 1) rfl ?_
    refine gf_X8_230 hX dX8_count_82 (ty1 hW t0) ?_
    obtain rfl := Option.some.inj hF
    exact g_iret hX dX8_count_85 hR
  have hF := ite_f hF c3_4
  by_cases c3_5 : a1 = 5
  · have hF := ite_t hF c3_5
    refine g_tin (tgt := 86) hX dX8_count_3 c3_5 (by decide) (by decide) rfl (by decide) ?_
    refine g_aload_n hX dX8_count_86 (i := 0) rfl (j := 1) rfl ?_
    refine gf_X8_208 hX dX8_count_87 (ty1 hW t0) ?_
    obtain rfl := Option.some.inj hF
    exact g_iret hX dX8_count_90 hR
  have hF := ite_f hF c3_5
  by_cases c3_6 : a1 = 6
  · have hF := ite_t hF c3_6
    refine g_tin (tgt := 91) hX dX8_count_3 c3_6 (by decide) (by decide) rfl (by decide) ?_
    refine g_aload_n hX dX8_count_91 (i := 0) rfl (j := 1) rfl ?_
    refine gf_X8_288 hX dX8_count_92 (ty1 hW t0) ?_
    obtain rfl := Option.some.inj hF
    exact g_iret hX dX8_count_95 hR
  have hF := ite_f hF c3_6
  have n3_0 := lv_neT c3_0 (a := 0) (by decide)
  have n3_1 := lv_neT c3_1 (a := 1) (by decide)
  have n3_2 := lv_neT c3_2 (a := 2) (by decide)
  have n3_3 := lv_neT c3_3 (a := 3) (by decide)
  have n3_4 := lv_neT c3_4 (a := 4) (by decide)
  have n3_5 := lv_neT c3_5 (a := 5) (by decide)
  have n3_6 := lv_neT c3_6 (a := 6) (by decide)
  refine g_tout (tgt := 96) hX dX8_count_3 (by omega) (by decide) ?_
  refine g_bipush (v := (-2)) hX dX8_count_96 (by decide) ?_
  obtain rfl := Option.some.inj hF
  exact g_iret hX dX8_count_98 hR
theorem ctX8_count {b N sz : Nat} {ok : Nat → Prop} {h : HH} {r : RR} {w : Int32} (hM : N ≤ MM) (hW : WT KM lnM ok N r) (p0 : Nat) (a1 : Int32) (t0 : KM p0 = 8 ∧ ok p0) (hF : fX8_count h r p0 a1 = some w) : CT yX8_count cX8_count 4 (some FieldType.int) 1 b KM lnM MM N sz [.ref (b + p0), .int a1] h r N sz (some (.int w)) h r 0 0 :=
  CT_of (by decide) rfl (Nat.le_of_ble_eq_true rfl) (by decide) trivial (fun X hX hR => kX8_count hX hM hW p0 a1 t0 hR hF)
/-! X8_sheet -/
def fX8_sheet_b65 (r : RR) (p0 : Nat) (a1 : Int32) (a2 : Int32) (a3 : Int32) : Nat → HH → Int32 → Option (Int32 × HH)
  | 0, _, _ => none
  | n + 1, h, x4 => if 40 ≤ x4 then (some (1, h)) else (gd (inb a1 (lnM (r p0 53))) (gd (inb x4 (lnM (r (r p0 53) (ix a1)))) (lt (up h (r (r p0 53) (ix a1)) (ix x4) 0) (fun h81 => fX8_sheet_b65 r p0 a1 a2 a3 n h81 (x4 + 1)))))
def fX8_sheet_b61 (r : RR) (p0 : Nat) (a1 : Int32) (a2 : Int32) (a3 : Int32) (h : HH) (u0 : Nat) (s1 : Int32) (s2 : Int32) : Option (Int32 × HH) := gd (inb s1 (lnM u0)) (lt (up h u0 (ix s1) s2) (fun h61 => fX8_sheet_b65 r p0 a1 a2 a3 lpF h61 0))
def fX8_sheet_b40 (r : RR) (p0 : Nat) (a1 : Int32) (a2 : Int32) (a3 : Int32) (h : HH) : Option (Int32 × HH) := gd (inb a1 (lnM (r p0 51))) (lt (up h (r p0 51) (ix a1) a2) (fun h46 => if 0 ≤ a2 then (fX8_sheet_b61 r p0 a1 a2 a3 h46 (r p0 52) a1 a3) else (fX8_sheet_b61 r p0 a1 a2 a3 h46 (r p0 52) a1 0)))
def fX8_sheet_b29 (r : RR) (p0 : Nat) (a1 : Int32) (a2 : Int32) (a3 : Int32) (h : HH) : Option (Int32 × HH) := if a2 < 0 then (fX8_sheet_b40 r p0 a1 a2 a3 h) else (if 0 ≤ a3 then (fX8_sheet_b40 r p0 a1 a2 a3 h) else (some ((-14), h)))
def fX8_sheet (h : HH) (r : RR) (p0 : Nat) (a1 : Int32) (a2 : Int32) (a3 : Int32) : Option (Int32 × HH) := (fX8_isSheet h r a1).bind (fun v1 => if v1 = 0 then (some ((-2), h)) else ((fX8_in h r a2 (-1) 1).bind (fun v10 => if v10 = 0 then (some ((-2), h)) else (if a2 < 0 then (fX8_sheet_b29 r p0 a1 a2 a3 h) else (if a3 ≤ 40 then (fX8_sheet_b29 r p0 a1 a2 a3 h) else (some ((-2), h)))))))
set_option maxRecDepth 100000 in
set_option maxHeartbeats 4000000 in
theorem kX8_sheet_b65 {X : XT} {b N sz : Nat} {ok : Nat → Prop} {r : RR} {w : Int32 × HH} (hX : XOK X RX8 cX8_sheet 5 3) (hM : N ≤ MM) (hW : WT KM lnM ok N r) (p0 : Nat) (a1 : Int32) (a2 : Int32) (a3 : Int32) (t0 : KM p0 = 8 ∧ ok p0) (hR : XR X b KM lnM MM (some FieldType.int) 0 0 N sz (some (.int w.1)) w.2 r) : ∀ (n : Nat) (h : HH) (x4 : Int32), fX8_sheet_b65 r p0 a1 a2 a3 n h x4 = some w → GX X b KM lnM MM 5 0 0 N sz 65 [(0, .ref (b + p0)), (1, .int a1), (2, .int a2), (3, .int a3), (4, .int x4)] [] h r := by
  intro n
  induction n with
  | zero =>
    intro h x4 hF
    cases hF
  | succ n ih =>
    intro h x4 hF
    rw [fX8_sheet_b65] at hF
    refine g_iload hX dX8_sheet_65 (j := 4) rfl ?_
    refine g_bipush (v := 40) hX dX8_sheet_67 (by decide) ?_
    refine g_icmp_ge (tgt := 88) hX dX8_sheet_69 (by decide) (fun c69 => ?_) (fun c69 => ?_)
    · have hF := ite_t hF c69
      refine g_iconst (v := 1) hX dX8_sheet_88 (by decide) ?_
      obtain rfl := Option.some.inj hF
      exact g_iret hX dX8_sheet_89 hR
    · have hF := ite_f hF c69
      refine g_aload_n hX dX8_sheet_72 (i := 0) rfl (j := 0) rfl ?_
      have tf73 := (tyF (k := 53) hW t0 (by decide) rfl (by decide) : KM (r p0 53) = 14 ∧ ok (r p0 53))
      refine gf_X8_124 hX dX8_sheet_73 (ty1 hW t0) (hW.1 _ tf73.2).1 ?_
      refine g_iload_n hX dX8_sheet_76 (i := 1) rfl (j := 1) rfl ?_
      obtain ⟨g77, hF⟩ := gd_some hF
      have ta77 : KM (r (r p0 53) (ix a1)) = 9 ∧ ok (r (r p0 53) (ix a1)) := tyA hW tf73 (by decide) rfl (by decide) g77
      refine g_aald hX dX8_sheet_77 tf73.1 (by decide) (by decide) (hW.1 _ tf73.2).1 (hW.1 _ tf73.2).2 g77 (hW.1 _ ta77.2).1 ?_
      refine g_iload hX dX8_sheet_78 (j := 4) rfl ?_
      refine g_iconst (v := 0) hX dX8_sheet_80 (by decide) ?_
      obtain ⟨g81, hF⟩ := gd_some hF
      obtain ⟨h81, e81, hF⟩ := lt_some hF
      refine g_iast hX dX8_sheet_81 ta77.1 (hW.1 _ ta77.2).1 (hW.1 _ ta77.2).2 hM g81 e81 ?_
      refine g_iinc (L' := [(4, .int (x4 + 1)), (0, .ref (b + p0)), (1, .int a1), (2, .int a2), (3, .int a3)]) (j := 4) hX dX8_sheet_82 rfl rfl (by decide) rfl ?_
      refine g_goto (tgt := 65) hX dX8_sheet_85 (by decide) ?_
      refine g_sub (L' := [(0, .ref (b + p0)), (1, .int a1), (2, .int a2), (3, .int a3), (4, .int (x4 + 1))]) [1, 2, 3, 4, 0] rfl ?_
      exact ih h81 (x4 + 1) hF
set_option maxRecDepth 100000 in
set_option maxHeartbeats 4000000 in
theorem kX8_sheet_b61 {X : XT} {b N sz : Nat} {ok : Nat → Prop} {r : RR} {w : Int32 × HH} (hX : XOK X RX8 cX8_sheet 5 3) (hM : N ≤ MM) (hW : WT KM lnM ok N r) (p0 : Nat) (a1 : Int32) (a2 : Int32) (a3 : Int32) (t0 : KM p0 = 8 ∧ ok p0) (hR : XR X b KM lnM MM (some FieldType.int) 0 0 N sz (some (.int w.1)) w.2 r) (h : HH) (u0 : Nat) (s1 : Int32) (s2 : Int32) (ts0 : KM u0 = 9 ∧ ok u0) (hF : fX8_sheet_b61 r p0 a1 a2 a3 h u0 s1 s2 = some w) : GX X b KM lnM MM 5 0 0 N sz 61 [(0, .ref (b + p0)), (1, .int a1), (2, .int a2), (3, .int a3)] [.int s2, .int s1, .ref (b + u0)] h r := by
  rw [fX8_sheet_b61] at hF
  obtain ⟨g61, hF⟩ := gd_some hF
  obtain ⟨h61, e61, hF⟩ := lt_some hF
  refine g_iast hX dX8_sheet_61 ts0.1 (hW.1 _ ts0.2).1 (hW.1 _ ts0.2).2 hM g61 e61 ?_
  refine g_iconst (v := 0) hX dX8_sheet_62 (by decide) ?_
  refine g_istore (L' := [(4, .int 0), (0, .ref (b + p0)), (1, .int a1), (2, .int a2), (3, .int a3)]) hX dX8_sheet_63 (by decide) rfl ?_
  refine g_sub (L' := [(0, .ref (b + p0)), (1, .int a1), (2, .int a2), (3, .int a3), (4, .int 0)]) [1, 2, 3, 4, 0] rfl ?_
  exact kX8_sheet_b65 hX hM hW p0 a1 a2 a3 t0 hR lpF h61 0 hF
set_option maxRecDepth 100000 in
set_option maxHeartbeats 4000000 in
theorem kX8_sheet_b40 {X : XT} {b N sz : Nat} {ok : Nat → Prop} {r : RR} {w : Int32 × HH} (hX : XOK X RX8 cX8_sheet 5 3) (hM : N ≤ MM) (hW : WT KM lnM ok N r) (p0 : Nat) (a1 : Int32) (a2 : Int32) (a3 : Int32) (t0 : KM p0 = 8 ∧ ok p0) (hR : XR X b KM lnM MM (some FieldType.int) 0 0 N sz (some (.int w.1)) w.2 r) (h : HH) (hF : fX8_sheet_b40 r p0 a1 a2 a3 h = some w) : GX X b KM lnM MM 5 0 0 N sz 40 [(0, .ref (b + p0)), (1, .int a1), (2, .int a2), (3, .int a3)] [] h r := by
  rw [fX8_sheet_b40] at hF
  refine g_aload_n hX dX8_sheet_40 (i := 0) rfl (j := 0) rfl ?_
  have tf41 := (tyF (k := 51) hW t0 (by decide) rfl (by decide) : KM (r p0 51) = 9 ∧ ok (r p0 51))
  refine gf_X8_118 hX dX8_sheet_41 (ty1 hW t0) (hW.1 _ tf41.2).1 ?_
  refine g_iload_n hX dX8_sheet_44 (i := 1) rfl (j := 1) rfl ?_
  refine g_iload_n hX dX8_sheet_45 (i := 2) rfl (j := 2) rfl ?_
  obtain ⟨g46, hF⟩ := gd_some hF
  obtain ⟨h46, e46, hF⟩ := lt_some hF
  refine g_iast hX dX8_sheet_46 tf41.1 (hW.1 _ tf41.2).1 (hW.1 _ tf41.2).2 hM g46 e46 ?_
  refine g_aload_n hX dX8_sheet_47 (i := 0) rfl (j := 0) rfl ?_
  have tf48 := (tyF (k := 52) hW t0 (by decide) rfl (by decide) : KM (r p0 52) = 9 ∧ ok (r p0 52))
  refine gf_X8_121 hX dX8_sheet_48 (ty1 hW t0) (hW.1 _ tf48.2).1 ?_
  refine g_iload_n hX dX8_sheet_51 (i := 1) rfl (j := 1) rfl ?_
  refine g_iload_n hX dX8_sheet_52 (i := 2) rfl (j := 2) rfl ?_
  refine g_if_ge (tgt := 60) hX dX8_sheet_53 (by decide) (fun c53 => ?_) (fun c53 => ?_)
  · have hF := ite_t hF c53
    refine g_iload_n hX dX8_sheet_60 (i := 3) rfl (j := 3) rfl ?_
    refine g_sub (L' := [(0, .ref (b + p0)), (1, .int a1), (2, .int a2), (3, .int a3)]) [0, 1, 2, 3] rfl ?_
    exact kX8_sheet_b61 hX hM hW p0 a1 a2 a3 t0 hR h46 (r p0 52) a1 a3 tf48 hF
  · have hF := ite_f hF c53
    refine g_iconst (v := 0) hX dX8_sheet_56 (by decide) ?_
    refine g_goto (tgt := 61) hX dX8_sheet_57 (by decide) ?_
    refine g_sub (L' := [(0, .ref (b + p0)), (1, .int a1), (2, .int a2), (3, .int a3)]) [0, 1, 2, 3] rfl ?_
    exact kX8_sheet_b61 hX hM hW p0 a1 a2 a3 t0 hR h46 (r p0 52) a1 0 tf48 hF
set_option maxRecDepth 100000 in
set_option maxHeartbeats 4000000 in
theorem kX8_sheet_b29 {X : XT} {b N sz : Nat} {ok : Nat → Prop} {r : RR} {w : Int32 × HH} (hX : XOK X RX8 cX8_sheet 5 3) (hM : N ≤ MM) (hW : WT KM lnM ok N r) (p0 : Nat) (a1 : Int32) (a2 : Int32) (a3 : Int32) (t0 : KM p0 = 8 ∧ ok p0) (hR : XR X b KM lnM MM (some FieldType.int) 0 0 N sz (some (.int w.1)) w.2 r) (h : HH) (hF : fX8_sheet_b29 r p0 a1 a2 a3 h = some w) : GX X b KM lnM MM 5 0 0 N sz 29 [(0, .ref (b + p0)), (1, .int a1), (2, .int a2), (3, .int a3)] [] h r := by
  rw [fX8_sheet_b29] at hF
  refine g_iload_n hX dX8_sheet_29 (i := 2) rfl (j := 2) rfl ?_
  refine g_if_lt (tgt := 40) hX dX8_sheet_30 (by decide) (fun c30 => ?_) (fun c30 => ?_)
  · have hF := ite_t hF c30
    refine g_sub (L' := [(0, .ref (b + p0)), (1, .int a1), (2, .int a2), (3, .int a3)]) [0, 1, 2, 3] rfl ?_
    exact kX8_sheet_b40 hX hM hW p0 a1 a2 a3 t0 hR h hF
  · have hF := ite_f hF c30
    refine g_iload_n hX dX8_sheet_33 (i := 3) rfl (j := 3) rfl ?_
    refine g_if_ge (tgt := 40) hX dX8_sheet_34 (by decide) (fun c34 => ?_) (fun c34 => ?_)
    · have hF := ite_t hF c34
      refine g_sub (L' := [(0, .ref (b + p0)), (1, .int a1), (2, .int a2), (3, .int a3)]) [0, 1, 2, 3] rfl ?_
      exact kX8_sheet_b40 hX hM hW p0 a1 a2 a3 t0 hR h hF
    · have hF := ite_f hF c34
      refine g_bipush (v := (-14)) hX dX8_sheet_37 (by decide) ?_
      obtain rfl := Option.some.inj hF
      exact g_iret hX dX8_sheet_39 hR
set_option maxRecDepth 100000 in
set_option maxHeartbeats 4000000 in
theorem kX8_sheet {X : XT} {b N sz : Nat} {ok : Nat → Prop} {h : HH} {r : RR} {w : Int32 × HH} (hX : XOK X RX8 cX8_sheet 5 3) (hM : N ≤ MM) (hW : WT KM lnM ok N r) (p0 : Nat) (a1 : Int32) (a2 : Int32) (a3 : Int32) (t0 : KM p0 = 8 ∧ ok p0) (hR : XR X b KM lnM MM (some FieldType.int) 0 0 N sz (some (.int w.1)) w.2 r) (hF : fX8_sheet h r p0 a1 a2 a3 = some w) : GX X b KM lnM MM 5 0 0 N sz 0 [(0, .ref (b + p0)), (1, .int a1), (2, .int a2), (3, .int a3)] [] h r := by
  rw [fX8_sheet] at hF
  refine g_iload_n hX dX8_sheet_0 (i := 1) rfl (j := 1) rfl ?_
  obtain ⟨v1, e1, hF⟩ := bi_some hF
  refine g_callS (As := [.int a1]) (rest := []) (stk := [.int v1]) hX dX8_sheet_1 (ctX8_isSheet hM hW a1 e1) (by decide) (by decide) wm_X8_360 wt_X8_isSheet wz_X8 wc_X8_isSheet hyX8_isSheet rfl (Nat.le_of_ble_eq_true rfl) rfl rfl ?_ rfl rfl
  refine g_if_eq (tgt := 26) hX dX8_sheet_4 (by decide) (fun c4 => ?_) (fun c4 => ?_)
  · have hF := ite_t hF c4
    refine g_bipush (v := (-2)) hX dX8_sheet_26 (by decide) ?_
    obtain rfl := Option.some.inj hF
    exact g_iret hX dX8_sheet_28 hR
  · have hF := ite_f hF c4
    refine g_iload_n hX dX8_sheet_7 (i := 2) rfl (j := 2) rfl ?_
    refine g_iconst (v := (-1)) hX dX8_sheet_8 (by decide) ?_
    refine g_iconst (v := 1) hX dX8_sheet_9 (by decide) ?_
    obtain ⟨v10, e10, hF⟩ := bi_some hF
    refine g_callS (As := [.int a2, .int (-1), .int 1]) (rest := []) (stk := [.int v10]) hX dX8_sheet_10 (ctX8_in hM hW a2 (-1) 1 e10) (by decide) (by decide) wm_X8_133 wt_X8_in wz_X8 wc_X8_in hyX8_in rfl (Nat.le_of_ble_eq_true rfl) rfl rfl ?_ rfl rfl
    refine g_if_eq (tgt := 26) hX dX8_sheet_13 (by decide) (fun c13 => ?_) (fun c13 => ?_)
    · have hF := ite_t hF c13
      refine g_bipush (v := (-2)) hX dX8_sheet_26 (by decide) ?_
      obtain rfl := Option.some.inj hF
      exact g_iret hX dX8_sheet_28 hR
    · have hF := ite_f hF c13
      refine g_iload_n hX dX8_sheet_16 (i := 2) rfl (j := 2) rfl ?_
      refine g_if_lt (tgt := 29) hX dX8_sheet_17 (by decide) (fun c17 => ?_) (fun c17 => ?_)
      · have hF := ite_t hF c17
        refine g_sub (L' := [(0, .ref (b + p0)), (1, .int a1), (2, .int a2), (3, .int a3)]) [0, 1, 2, 3] rfl ?_
        exact kX8_sheet_b29 hX hM hW p0 a1 a2 a3 t0 hR h hF
      · have hF := ite_f hF c17
        refine g_iload_n hX dX8_sheet_20 (i := 3) rfl (j := 3) rfl ?_
        refine g_bipush (v := 40) hX dX8_sheet_21 (by decide) ?_
        refine g_icmp_le (tgt := 29) hX dX8_sheet_23 (by decide) (fun c23 => ?_) (fun c23 => ?_)
        · have hF := ite_t hF c23
          refine g_sub (L' := [(0, .ref (b + p0)), (1, .int a1), (2, .int a2), (3, .int a3)]) [0, 1, 2, 3] rfl ?_
          exact kX8_sheet_b29 hX hM hW p0 a1 a2 a3 t0 hR h hF
        · have hF := ite_f hF c23
          refine g_bipush (v := (-2)) hX dX8_sheet_26 (by decide) ?_
          obtain rfl := Option.some.inj hF
          exact g_iret hX dX8_sheet_28 hR
theorem ctX8_sheet {b N sz : Nat} {ok : Nat → Prop} {h : HH} {r : RR} {w : Int32 × HH} (hM : N ≤ MM) (hW : WT KM lnM ok N r) (p0 : Nat) (a1 : Int32) (a2 : Int32) (a3 : Int32) (t0 : KM p0 = 8 ∧ ok p0) (hF : fX8_sheet h r p0 a1 a2 a3 = some w) : CT yX8_sheet cX8_sheet 5 (some FieldType.int) 3 b KM lnM MM N sz [.ref (b + p0), .int a1, .int a2, .int a3] h r N sz (some (.int w.1)) w.2 r 0 0 :=
  CT_of (by decide) rfl (Nat.le_of_ble_eq_true rfl) (by decide) trivial (fun X hX hR => kX8_sheet hX hM hW p0 a1 a2 a3 t0 hR hF)
/-! X8_cell -/
def fX8_cell_b63 (r : RR) (p0 : Nat) (a1 : Int32) (a2 : Int32) (a3 : Int32) (h : HH) (u0 : Nat) (s1 : Int32) (s2 : Int32) : Option (Int32 × HH) := gd (inb s1 (lnM u0)) (lt (up h u0 (ix s1) s2) (fun h63 => some (1, h63)))
def fX8_cell (h : HH) (r : RR) (p0 : Nat) (a1 : Int32) (a2 : Int32) (a3 : Int32) : Option (Int32 × HH) := (fX8_isSheet h r a1).bind (fun v1 => if ¬ v1 = 0 then (gd (inb a1 (lnM (r p0 51))) (if 0 ≤ (h (r p0 51) (ix a1)) then (gd (inb a1 (lnM (r p0 52))) ((fX8_in h r a2 0 ((h (r p0 52) (ix a1)) - 1)).bind (fun v32 => if ¬ v32 = 0 then (gd (inb a1 (lnM (r p0 53))) (gd (inb a1 (lnM (r p0 51))) (if ¬ (h (r p0 51) (ix a1)) = 0 then (fX8_cell_b63 r p0 a1 a2 a3 h (r (r p0 53) (ix a1)) a2 a3) else (fX8_cell_b63 r p0 a1 a2 a3 h (r (r p0 53) (ix a1)) a2 (i2s a3))))) else (some ((-12), h))))) else (some ((-11), h)))) else (some ((-2), h)))
set_option maxRecDepth 100000 in
set_option maxHeartbeats 4000000 in
theorem kX8_cell_b63 {X : XT} {b N sz : Nat} {ok : Nat → Prop} {r : RR} {w : Int32 × HH} (hX : XOK X RX8 cX8_cell 4 3) (hM : N ≤ MM) (hW : WT KM lnM ok N r) (p0 : Nat) (a1 : Int32) (a2 : Int32) (a3 : Int32) (t0 : KM p0 = 8 ∧ ok p0) (hR : XR X b KM lnM MM (some FieldType.int) 0 0 N sz (some (.int w.1)) w.2 r) (h : HH) (u0 : Nat) (s1 : Int32) (s2 : Int32) (ts0 : KM u0 = 9 ∧ ok u0) (hF : fX8_cell_b63 r p0 a1 a2 a3 h u0 s1 s2 = some w) : GX X b KM lnM MM 4 0 0 N sz 63 [(0, .ref (b + p0)), (1, .int a1), (2, .int a2), (3, .int a3)] [.int s2, .int s1, .ref (b + u0)] h r := by
  rw [fX8_cell_b63] at hF
  obtain ⟨g63, hF⟩ := gd_some hF
  obtain ⟨h63, e63, hF⟩ := lt_some hF
  refine g_iast hX dX8_cell_63 ts0.1 (hW.1 _ ts0.2).1 (hW.1 _ ts0.2).2 hM g63 e63 ?_
  refine g_iconst (v := 1) hX dX8_cell_64 (by decide) ?_
  obtain rfl := Option.some.inj hF
  exact g_iret hX dX8_cell_65 hR
set_option maxRecDepth 100000 in
set_option maxHeartbeats 4000000 in
theorem kX8_cell {X : XT} {b N sz : Nat} {ok : Nat → Prop} {h : HH} {r : RR} {w : Int32 × HH} (hX : XOK X RX8 cX8_cell 4 3) (hM : N ≤ MM) (hW : WT KM lnM ok N r) (p0 : Nat) (a1 : Int32) (a2 : Int32) (a3 : Int32) (t0 : KM p0 = 8 ∧ ok p0) (hR : XR X b KM lnM MM (some FieldType.int) 0 0 N sz (some (.int w.1)) w.2 r) (hF : fX8_cell h r p0 a1 a2 a3 = some w) : GX X b KM lnM MM 4 0 0 N sz 0 [(0, .ref (b + p0)), (1, .int a1), (2, .int a2), (3, .int a3)] [] h r := by
  rw [fX8_cell] at hF
  refine g_iload_n hX dX8_cell_0 (i := 1) rfl (j := 1) rfl ?_
  obtain ⟨v1, e1, hF⟩ := bi_some hF
  refine g_callS (As := [.int a1]) (rest := []) (stk := [.int v1]) hX dX8_cell_1 (ctX8_isSheet hM hW a1 e1) (by decide) (by decide) wm_X8_360 wt_X8_isSheet wz_X8 wc_X8_isSheet hyX8_isSheet rfl (Nat.le_of_ble_eq_true rfl) rfl rfl ?_ rfl rfl
  refine g_if_ne (tgt := 10) hX dX8_cell_4 (by decide) (fun c4 => ?_) (fun c4 => ?_)
  · have hF := ite_t hF c4
    refine g_aload_n hX dX8_cell_10 (i := 0) rfl (j := 0) rfl ?_
    have tf11 := (tyF (k := 51) hW t0 (by decide) rfl (by decide) : KM (r p0 51) = 9 ∧ ok (r p0 51))
    refine gf_X8_118 hX dX8_cell_11 (ty1 hW t0) (hW.1 _ tf11.2).1 ?_
    refine g_iload_n hX dX8_cell_14 (i := 1) rfl (j := 1) rfl ?_
    obtain ⟨g15, hF⟩ := gd_some hF
    refine g_iald hX dX8_cell_15 tf11.1 (hW.1 _ tf11.2).1 (hW.1 _ tf11.2).2 g15 ?_
    refine g_if_ge (tgt := 22) hX dX8_cell_16 (by decide) (fun c16 => ?_) (fun c16 => ?_)
    · have hF := ite_t hF c16
      refine g_iload_n hX dX8_cell_22 (i := 2) rfl (j := 2) rfl ?_
      refine g_iconst (v := 0) hX dX8_cell_23 (by decide) ?_
      refine g_aload_n hX dX8_cell_24 (i := 0) rfl (j := 0) rfl ?_
      have tf25 := (tyF (k := 52) hW t0 (by decide) rfl (by decide) : KM (r p0 52) = 9 ∧ ok (r p0 52))
      refine gf_X8_121 hX dX8_cell_25 (ty1 hW t0) (hW.1 _ tf25.2).1 ?_
      refine g_iload_n hX dX8_cell_28 (i := 1) rfl (j := 1) rfl ?_
      obtain ⟨g29, hF⟩ := gd_some hF
      refine g_iald hX dX8_cell_29 tf25.1 (hW.1 _ tf25.2).1 (hW.1 _ tf25.2).2 g29 ?_
      refine g_iconst (v := 1) hX dX8_cell_30 (by decide) ?_
      refine g_isub hX dX8_cell_31 ?_
      obtain ⟨v32, e32, hF⟩ := bi_some hF
      refine g_callS (As := [.int a2, .int 0, .int ((h (r p0 52) (ix a1)) - 1)]) (rest := []) (stk := [.int v32]) hX dX8_cell_32 (ctX8_in hM hW a2 0 ((h (r p0 52) (ix a1)) - 1) e32) (by decide) (by decide) wm_X8_133 wt_X8_in wz_X8 wc_X8_in hyX8_in rfl (Nat.le_of_ble_eq_true rfl) rfl rfl ?_ rfl rfl
      refine g_if_ne (tgt := 41) hX dX8_cell_35 (by decide) (fun c35 => ?_) (fun c35 => ?_)
      · have hF := ite_t hF c35
        refine g_aload_n hX dX8_cell_41 (i := 0) rfl (j := 0) rfl ?_
        have tf42 := (tyF (k := 53) hW t0 (by decide) rfl (by decide) : KM (r p0 53) = 14 ∧ ok (r p0 53))
        refine gf_X8_124 hX dX8_cell_42 (ty1 hW t0) (hW.1 _ tf42.2).1 ?_
        refine g_iload_n hX dX8_cell_45 (i := 1) rfl (j := 1) rfl ?_
        obtain ⟨g46, hF⟩ := gd_some hF
        have ta46 : KM (r (r p0 53) (ix a1)) = 9 ∧ ok (r (r p0 53) (ix a1)) := tyA hW tf42 (by decide) rfl (by decide) g46
        refine g_aald hX dX8_cell_46 tf42.1 (by decide) (by decide) (hW.1 _ tf42.2).1 (hW.1 _ tf42.2).2 g46 (hW.1 _ ta46.2).1 ?_
        refine g_iload_n hX dX8_cell_47 (i := 2) rfl (j := 2) rfl ?_
        refine g_aload_n hX dX8_cell_48 (i := 0) rfl (j := 0) rfl ?_
        have tf49 := (tyF (k := 51) hW t0 (by decide) rfl (by decide) : KM (r p0 51) = 9 ∧ ok (r p0 51))
        refine gf_X8_118 hX dX8_cell_49 (ty1 hW t0) (hW.1 _ tf49.2).1 ?_
        refine g_iload_n hX dX8_cell_52 (i := 1) rfl (j := 1) rfl ?_
        obtain ⟨g53, hF⟩ := gd_some hF
        refine g_iald hX dX8_cell_53 tf49.1 (hW.1 _ tf49.2).1 (hW.1 _ tf49.2).2 g53 ?_
        refine g_if_ne (tgt := 62) hX dX8_cell_54 (by decide) (fun c54 => ?_) (fun c54 => ?_)
        · have hF := ite_t hF c54
          refine g_iload_n hX dX8_cell_62 (i := 3) rfl (j := 3) rfl ?_
          refine g_sub (L' := [(0, .ref (b + p0)), (1, .int a1), (2, .int a2), (3, .int a3)]) [0, 1, 2, 3] rfl ?_
          exact kX8_cell_b63 hX hM hW p0 a1 a2 a3 t0 hR h (r (r p0 53) (ix a1)) a2 a3 ta46 hF
        · have hF := ite_f hF (fun z => z c54)
          refine g_iload_n hX dX8_cell_57 (i := 3) rfl (j := 3) rfl ?_
          refine g_i2s hX dX8_cell_58 ?_
          refine g_goto (tgt := 63) hX dX8_cell_59 (by decide) ?_
          refine g_sub (L' := [(0, .ref (b + p0)), (1, .int a1), (2, .int a2), (3, .int a3)]) [0, 1, 2, 3] rfl ?_
          exact kX8_cell_b63 hX hM hW p0 a1 a2 a3 t0 hR h (r (r p0 53) (ix a1)) a2 (i2s a3) ta46 hF
      · have hF := ite_f hF (fun z => z c35)
        refine g_bipush (v := (-12)) hX dX8_cell_38 (by decide) ?_
        obtain rfl := Option.some.inj hF
        exact g_iret hX dX8_cell_40 hR
    · have hF := ite_f hF c16
      refine g_bipush (v := (-11)) hX dX8_cell_19 (by decide) ?_
      obtain rfl := Option.some.inj hF
      exact g_iret hX dX8_cell_21 hR
  · have hF := ite_f hF (fun z => z c4)
    refine g_bipush (v := (-2)) hX dX8_cell_7 (by decide) ?_
    obtain rfl := Option.some.inj hF
    exact g_iret hX dX8_cell_9 hR
theorem ctX8_cell {b N sz : Nat} {ok : Nat → Prop} {h : HH} {r : RR} {w : Int32 × HH} (hM : N ≤ MM) (hW : WT KM lnM ok N r) (p0 : Nat) (a1 : Int32) (a2 : Int32) (a3 : Int32) (t0 : KM p0 = 8 ∧ ok p0) (hF : fX8_cell h r p0 a1 a2 a3 = some w) : CT yX8_cell cX8_cell 4 (some FieldType.int) 3 b KM lnM MM N sz [.ref (b + p0), .int a1, .int a2, .int a3] h r N sz (some (.int w.1)) w.2 r 0 0 :=
  CT_of (by decide) rfl (Nat.le_of_ble_eq_true rfl) (by decide) trivial (fun X hX hR => kX8_cell hX hM hW p0 a1 a2 a3 t0 hR hF)
/-! X8_copy -/
def fX8_copy (h : HH) (r : RR) (p0 : Nat) (a1 : Int32) (a2 : Int32) (a3 : Int32) (a4 : Int32) (a5 : Int32) : Option (Int32 × HH) := (fX8_isSheet h r a1).bind (fun v1 => if v1 = 0 then (some ((-2), h)) else ((fX8_isSheet h r a3).bind (fun v8 => if ¬ v8 = 0 then (gd (inb a1 (lnM (r p0 51))) (if (h (r p0 51) (ix a1)) < 0 then (some ((-11), h)) else (gd (inb a3 (lnM (r p0 51))) (if 0 ≤ (h (r p0 51) (ix a3)) then (gd (inb a1 (lnM (r p0 51))) (gd (inb a3 (lnM (r p0 51))) (if (h (r p0 51) (ix a1)) = (h (r p0 51) (ix a3)) then (if a5 < 0 then (some ((-12), h)) else (if a2 < 0 then (some ((-12), h)) else (if a4 < 0 then (some ((-12), h)) else (gd (inb a1 (lnM (r p0 52))) (if ((h (r p0 52) (ix a1)) - a5) < a2 then (some ((-12), h)) else (gd (inb a3 (lnM (r p0 52))) (if a4 ≤ ((h (r p0 52) (ix a3)) - a5) then (gd (inb a1 (lnM (r p0 53))) (gd (cpok a2 0 a5 (lnM (r (r p0 53) (ix a1))) (lnM (r p0 54))) (lt (cpH h (r (r p0 53) (ix a1)) (r p0 54) (ix a2) (ix 0) (ix a5)) (fun h114 => gd (inb a3 (lnM (r p0 53))) (gd (cpok 0 a4 a5 (lnM (r p0 54)) (lnM (r (r p0 53) (ix a3)))) (lt (cpH h114 (r p0 54) (r (r p0 53) (ix a3)) (ix 0) (ix a4) (ix a5)) (fun h132 => some (a5, h132)))))))) else (some ((-12), h))))))))) else (some ((-13), h))))) else (some ((-11), h)))))) else (some ((-2), h)))))
set_option maxRecDepth 100000 in
set_option maxHeartbeats 4000000 in
theorem kX8_copy {X : XT} {b N sz : Nat} {ok : Nat → Prop} {h : HH} {r : RR} {w : Int32 × HH} (hX : XOK X RX8 cX8_copy 6 3) (hM : N ≤ MM) (hW : WT KM lnM ok N r) (p0 : Nat) (a1 : Int32) (a2 : Int32) (a3 : Int32) (a4 : Int32) (a5 : Int32) (t0 : KM p0 = 8 ∧ ok p0) (hR : XR X b KM lnM MM (some FieldType.int) 0 0 N sz (some (.int w.1)) w.2 r) (hF : fX8_copy h r p0 a1 a2 a3 a4 a5 = some w) : GX X b KM lnM MM 6 0 0 N sz 0 [(0, .ref (b + p0)), (1, .int a1), (2, .int a2), (3, .int a3), (4, .int a4), (5, .int a5)] [] h r := by
  rw [fX8_copy] at hF
  refine g_iload_n hX dX8_copy_0 (i := 1) rfl (j := 1) rfl ?_
  obtain ⟨v1, e1, hF⟩ := bi_some hF
  refine g_callS (As := [.int a1]) (rest := []) (stk := [.int v1]) hX dX8_copy_1 (ctX8_isSheet hM hW a1 e1) (by decide) (by decide) wm_X8_360 wt_X8_isSheet wz_X8 wc_X8_isSheet hyX8_isSheet rfl (Nat.le_of_ble_eq_true rfl) rfl rfl ?_ rfl rfl
  refine g_if_eq (tgt := 14) hX dX8_copy_4 (by decide) (fun c4 => ?_) (fun c4 => ?_)
  · have hF := ite_t hF c4
    refine g_bipush (v := (-2)) hX dX8_copy_14 (by decide) ?_
    obtain rfl := Option.some.inj hF
    exact g_iret hX dX8_copy_16 hR
  · have hF := ite_f hF c4
    refine g_iload_n hX dX8_copy_7 (i := 3) rfl (j := 3) rfl ?_
    obtain ⟨v8, e8, hF⟩ := bi_some hF
    refine g_callS (As := [.int a3]) (rest := []) (stk := [.int v8]) hX dX8_copy_8 (ctX8_isSheet hM hW a3 e8) (by decide) (by decide) wm_X8_360 wt_X8_isSheet wz_X8 wc_X8_isSheet hyX8_isSheet rfl (Nat.le_of_ble_eq_true rfl) rfl rfl ?_ rfl rfl
    refine g_if_ne (tgt := 17) hX dX8_copy_11 (by decide) (fun c11 => ?_) (fun c11 => ?_)
    · have hF := ite_t hF c11
      refine g_aload_n hX dX8_copy_17 (i := 0) rfl (j := 0) rfl ?_
      have tf18 := (tyF (k := 51) hW t0 (by decide) rfl (by decide) : KM (r p0 51) = 9 ∧ ok (r p0 51))
      refine gf_X8_118 hX dX8_copy_18 (ty1 hW t0) (hW.1 _ tf18.2).1 ?_
      refine g_iload_n hX dX8_copy_21 (i := 1) rfl (j := 1) rfl ?_
      obtain ⟨g22, hF⟩ := gd_some hF
      refine g_iald hX dX8_copy_22 tf18.1 (hW.1 _ tf18.2).1 (hW.1 _ tf18.2).2 g22 ?_
      refine g_if_lt (tgt := 35) hX dX8_copy_23 (by decide) (fun c23 => ?_) (fun c23 => ?_)
      · have hF := ite_t hF c23
        refine g_bipush (v := (-11)) hX dX8_copy_35 (by decide) ?_
        obtain rfl := Option.some.inj hF
        exact g_iret hX dX8_copy_37 hR
      · have hF := ite_f hF c23
        refine g_aload_n hX dX8_copy_26 (i := 0) rfl (j := 0) rfl ?_
        have tf27 := (tyF (k := 51) hW t0 (by decide) rfl (by decide) : KM (r p0 51) = 9 ∧ ok (r p0 51))
        refine gf_X8_118 hX dX8_copy_27 (ty1 hW t0) (hW.1 _ tf27.2).1 ?_
        refine g_iload_n hX dX8_copy_30 (i := 3) rfl (j := 3) rfl ?_
        obtain ⟨g31, hF⟩ := gd_some hF
        refine g_iald hX dX8_copy_31 tf27.1 (hW.1 _ tf27.2).1 (hW.1 _ tf27.2).2 g31 ?_
        refine g_if_ge (tgt := 38) hX dX8_copy_32 (by decide) (fun c32 => ?_) (fun c32 => ?_)
        · have hF := ite_t hF c32
          refine g_aload_n hX dX8_copy_38 (i := 0) rfl (j := 0) rfl ?_
          have tf39 := (tyF (k := 51) hW t0 (by decide) rfl (by decide) : KM (r p0 51) = 9 ∧ ok (r p0 51))
          refine gf_X8_118 hX dX8_copy_39 (ty1 hW t0) (hW.1 _ tf39.2).1 ?_
          refine g_iload_n hX dX8_copy_42 (i := 1) rfl (j := 1) rfl ?_
          obtain ⟨g43, hF⟩ := gd_some hF
          refine g_iald hX dX8_copy_43 tf39.1 (hW.1 _ tf39.2).1 (hW.1 _ tf39.2).2 g43 ?_
          refine g_aload_n hX dX8_copy_44 (i := 0) rfl (j := 0) rfl ?_
          have tf45 := (tyF (k := 51) hW t0 (by decide) rfl (by decide) : KM (r p0 51) = 9 ∧ ok (r p0 51))
          refine gf_X8_118 hX dX8_copy_45 (ty1 hW t0) (hW.1 _ tf45.2).1 ?_
          refine g_iload_n hX dX8_copy_48 (i := 3) rfl (j := 3) rfl ?_
          obtain ⟨g49, hF⟩ := gd_some hF
          refine g_iald hX dX8_copy_49 tf45.1 (hW.1 _ tf45.2).1 (hW.1 _ tf45.2).2 g49 ?_
          refine g_icmp_eq (tgt := 56) hX dX8_copy_50 (by decide) (fun c50 => ?_) (fun c50 => ?_)
          · have hF := ite_t hF c50
            refine g_iload hX dX8_copy_56 (j := 5) rfl ?_
            refine g_if_lt (tgt := 97) hX dX8_copy_58 (by decide) (fun c58 => ?_) (fun c58 => ?_)
            · have hF := ite_t hF c58
              refine g_bipush (v := (-12)) hX dX8_copy_97 (by decide) ?_
              obtain rfl := Option.some.inj hF
              exact g_iret hX dX8_copy_99 hR
            · have hF := ite_f hF c58
              refine g_iload_n hX dX8_copy_61 (i := 2) rfl (j := 2) rfl ?_
              refine g_if_lt (tgt := 97) hX dX8_copy_62 (by decide) (fun c62 => ?_) (fun c62 => ?_)
              · have hF := ite_t hF c62
                refine g_bipush (v := (-12)) hX dX8_copy_97 (by decide) ?_
                obtain rfl := Option.some.inj hF
                exact g_iret hX dX8_copy_99 hR
              · have hF := ite_f hF c62
                refine g_iload hX dX8_copy_65 (j := 4) rfl ?_
                refine g_if_lt (tgt := 97) hX dX8_copy_67 (by decide) (fun c67 => ?_) (fun c67 => ?_)
                · have hF := ite_t hF c67
                  refine g_bipush (v := (-12)) hX dX8_copy_97 (by decide) ?_
                  obtain rfl := Option.some.inj hF
                  exact g_iret hX dX8_copy_99 hR
                · have hF := ite_f hF c67
                  refine g_iload_n hX dX8_copy_70 (i := 2) rfl (j := 2) rfl ?_
                  refine g_aload_n hX dX8_copy_71 (i := 0) rfl (j := 0) rfl ?_
                  have tf72 := (tyF (k := 52) hW t0 (by decide) rfl (by decide) : KM (r p0 52) = 9 ∧ ok (r p0 52))
                  refine gf_X8_121 hX dX8_copy_72 (ty1 hW t0) (hW.1 _ tf72.2).1 ?_
                  refine g_iload_n hX dX8_copy_75 (i := 1) rfl (j := 1) rfl ?_
                  obtain ⟨g76, hF⟩ := gd_some hF
                  refine g_iald hX dX8_copy_76 tf72.1 (hW.1 _ tf72.2).1 (hW.1 _ tf72.2).2 g76 ?_
                  refine g_iload hX dX8_copy_77 (j := 5) rfl ?_
                  refine g_isub hX dX8_copy_79 ?_
                  refine g_icmp_gt (tgt := 97) hX dX8_copy_80 (by decide) (fun c80 => ?_) (fun c80 => ?_)
                  · have hF := ite_t hF c80
                    refine g_bipush (v := (-12)) hX dX8_copy_97 (by decide) ?_
                    obtain rfl := Option.some.inj hF
                    exact g_iret hX dX8_copy_99 hR
                  · have hF := ite_f hF c80
                    refine g_iload hX dX8_copy_83 (j := 4) rfl ?_
                    refine g_aload_n hX dX8_copy_85 (i := 0) rfl (j := 0) rfl ?_
                    have tf86 := (tyF (k := 52) hW t0 (by decide) rfl (by decide) : KM (r p0 52) = 9 ∧ ok (r p0 52))
                    refine gf_X8_121 hX dX8_copy_86 (ty1 hW t0) (hW.1 _ tf86.2).1 ?_
                    refine g_iload_n hX dX8_copy_89 (i := 3) rfl (j := 3) rfl ?_
                    obtain ⟨g90, hF⟩ := gd_some hF
                    refine g_iald hX dX8_copy_90 tf86.1 (hW.1 _ tf86.2).1 (hW.1 _ tf86.2).2 g90 ?_
                    refine g_iload hX dX8_copy_91 (j := 5) rfl ?_
                    refine g_isub hX dX8_copy_93 ?_
                    refine g_icmp_le (tgt := 100) hX dX8_copy_94 (by decide) (fun c94 => ?_) (fun c94 => ?_)
                    · have hF := ite_t hF c94
                      refine g_aload_n hX dX8_copy_100 (i := 0) rfl (j := 0) rfl ?_
                      have tf101 := (tyF (k := 53) hW t0 (by decide) rfl (by decide) : KM (r p0 53) = 14 ∧ ok (r p0 53))
                      refine gf_X8_124 hX dX8_copy_101 (ty1 hW t0) (hW.1 _ tf101.2).1 ?_
                      refine g_iload_n hX dX8_copy_104 (i := 1) rfl (j := 1) rfl ?_
                      obtain ⟨g105, hF⟩ := gd_some hF
                      have ta105 : KM (r (r p0 53) (ix a1)) = 9 ∧ ok (r (r p0 53) (ix a1)) := tyA hW tf101 (by decide) rfl (by decide) g105
                      refine g_aald hX dX8_copy_105 tf101.1 (by decide) (by decide) (hW.1 _ tf101.2).1 (hW.1 _ tf101.2).2 g105 (hW.1 _ ta105.2).1 ?_
                      refine g_iload_n hX dX8_copy_106 (i := 2) rfl (j := 2) rfl ?_
                      refine g_aload_n hX dX8_copy_107 (i := 0) rfl (j := 0) rfl ?_
                      have tf108 := (tyF (k := 54) hW t0 (by decide) rfl (by decide) : KM (r p0 54) = 9 ∧ ok (r p0 54))
                      refine gf_X8_127 hX dX8_copy_108 (ty1 hW t0) (hW.1 _ tf108.2).1 ?_
                      refine g_iconst (v := 0) hX dX8_copy_111 (by decide) ?_
                      refine g_iload hX dX8_copy_112 (j := 5) rfl ?_
                      obtain ⟨g114, hF⟩ := gd_some hF
                      obtain ⟨h114, e114, hF⟩ := lt_some hF
                      refine g_acopy hX dX8_copy_114 wm_X8_322 (ty1 hW ta105) (ty1 hW tf108) (by decide) hM g114 (by decide) (Nat.le_of_ble_eq_true rfl) e114 ?_
                      refine g_aload_n hX dX8_copy_117 (i := 0) rfl (j := 0) rfl ?_
                      have tf118 := (tyF (k := 54) hW t0 (by decide) rfl (by decide) : KM (r p0 54) = 9 ∧ ok (r p0 54))
                      refine gf_X8_127 hX dX8_copy_118 (ty1 hW t0) (hW.1 _ tf118.2).1 ?_
                      refine g_iconst (v := 0) hX dX8_copy_121 (by decide) ?_
                      refine g_aload_n hX dX8_copy_122 (i := 0) rfl (j := 0) rfl ?_
                      have tf123 := (tyF (k := 53) hW t0 (by decide) rfl (by decide) : KM (r p0 53) = 14 ∧ ok (r p0 53))
                      refine gf_X8_124 hX dX8_copy_123 (ty1 hW t0) (hW.1 _ tf123.2).1 ?_
                      refine g_iload_n hX dX8_copy_126 (i := 3) rfl (j := 3) rfl ?_
                      obtain ⟨g127, hF⟩ := gd_some hF
                      have ta127 : KM (r (r p0 53) (ix a3)) = 9 ∧ ok (r (r p0 53) (ix a3)) := tyA hW tf123 (by decide) rfl (by decide) g127
                      refine g_aald hX dX8_copy_127 tf123.1 (by decide) (by decide) (hW.1 _ tf123.2).1 (hW.1 _ tf123.2).2 g127 (hW.1 _ ta127.2).1 ?_
                      refine g_iload hX dX8_copy_128 (j := 4) rfl ?_
                      refine g_iload hX dX8_copy_130 (j := 5) rfl ?_
                      obtain ⟨g132, hF⟩ := gd_some hF
                      obtain ⟨h132, e132, hF⟩ := lt_some hF
                      refine g_acopy hX dX8_copy_132 wm_X8_322 (ty1 hW tf118) (ty1 hW ta127) (by decide) hM g132 (by decide) (Nat.le_of_ble_eq_true rfl) e132 ?_
                      refine g_iload hX dX8_copy_135 (j := 5) rfl ?_
                      obtain rfl := Option.some.inj hF
                      exact g_iret hX dX8_copy_137 hR
                    · have hF := ite_f hF c94
                      refine g_bipush (v := (-12)) hX dX8_copy_97 (by decide) ?_
                      obtain rfl := Option.some.inj hF
                      exact g_iret hX dX8_copy_99 hR
          · have hF := ite_f hF c50
            refine g_bipush (v := (-13)) hX dX8_copy_53 (by decide) ?_
            obtain rfl := Option.some.inj hF
            exact g_iret hX dX8_copy_55 hR
        · have hF := ite_f hF c32
          refine g_bipush (v := (-11)) hX dX8_copy_35 (by decide) ?_
          obtain rfl := Option.some.inj hF
          exact g_iret hX dX8_copy_37 hR
    · have hF := ite_f hF (fun z => z c11)
      refine g_bipush (v := (-2)) hX dX8_copy_14 (by decide) ?_
      obtain rfl := Option.some.inj hF
      exact g_iret hX dX8_copy_16 hR
theorem ctX8_copy {b N sz : Nat} {ok : Nat → Prop} {h : HH} {r : RR} {w : Int32 × HH} (hM : N ≤ MM) (hW : WT KM lnM ok N r) (p0 : Nat) (a1 : Int32) (a2 : Int32) (a3 : Int32) (a4 : Int32) (a5 : Int32) (t0 : KM p0 = 8 ∧ ok p0) (hF : fX8_copy h r p0 a1 a2 a3 a4 a5 = some w) : CT yX8_copy cX8_copy 6 (some FieldType.int) 3 b KM lnM MM N sz [.ref (b + p0), .int a1, .int a2, .int a3, .int a4, .int a5] h r N sz (some (.int w.1)) w.2 r 0 0 :=
  CT_of (by decide) rfl (Nat.le_of_ble_eq_true rfl) (by decide) trivial (fun X hX hR => kX8_copy hX hM hW p0 a1 a2 a3 a4 a5 t0 hR hF)
