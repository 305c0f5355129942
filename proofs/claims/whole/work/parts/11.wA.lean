/-! X0_addOther -/
def fX0_addOther (h : HH) (r : RR) (p0 : Nat) (a1 : Int32) : Option (HH) := if 30 ≤ (h p0 4) then (some h) else (gd (inb a1 (lnA (r (r p0 3) 1))) (gd (inb a1 (lnA (r (r p0 3) 2))) (gwd (h p0 0) (fun q_36 => gd (inb (1 - (h p0 5)) (lnA (r q_36 2))) (gd (inb a1 (lnA (r (r (r q_36 2) (ix (1 - (h p0 5)))) 3))) ((fX5_put h r (r p0 3) (h p0 4) (h (r (r p0 3) 1) (ix a1)) (h (r (r p0 3) 2) (ix a1)) (h (r (r (r q_36 2) (ix (1 - (h p0 5)))) 3) (ix a1))).bind (fun h54 => lt (up h54 p0 4 ((h54 p0 4) + 1)) (fun h64 => some h64))))))))
set_option maxRecDepth 100000 in
set_option maxHeartbeats 4000000 in
theorem kX0_addOther {X : XT} {b N sz : Nat} {ok : Nat → Prop} {h : HH} {r : RR} {w : HH} (hX : XOK X RX0 cX0_addOther 2 2) (hM : N ≤ MA) (hW : WT KA lnA ok N r) (hA : ∀ p, KA p < 16 → ok p) (p0 : Nat) (a1 : Int32) (t0 : KA p0 = 0 ∧ ok p0) (hR : XR X b KA lnA MA (none) 0 0 N sz none w r) (hF : fX0_addOther h r p0 a1 = some w) : GX X b KA lnA MA 2 0 0 N sz 0 [(0, .ref (b + p0)), (1, .int a1)] [] h r := by
  rw [fX0_addOther] at hF
  refine g_aload_n hX dX0_addOther_0 (i := 0) rfl (j := 0) rfl ?_
  refine gf_X0_27 hX dX0_addOther_1 (ty1 hW t0) ?_
  refine g_bipush (v := 30) hX dX0_addOther_4 (by decide) ?_
  refine g_icmp_ge (tgt := 67) hX dX0_addOther_6 (by decide) (fun c6 => ?_) (fun c6 => ?_)
  · have hF := ite_t hF c6
    obtain rfl := Option.some.inj hF
    exact g_vret hX dX0_addOther_67 hR
  · have hF := ite_f hF c6
    refine g_aload_n hX dX0_addOther_9 (i := 0) rfl (j := 0) rfl ?_
    have tf10 := (tyF (k := 3) hW t0 (by decide) rfl (by decide) : KA (r p0 3) = 5 ∧ ok (r p0 3))
    refine gf_X0_23 hX dX0_addOther_10 (ty1 hW t0) (hW.1 _ tf10.2).1 ?_
    refine g_aload_n hX dX0_addOther_13 (i := 0) rfl (j := 0) rfl ?_
    refine gf_X0_27 hX dX0_addOther_14 (ty1 hW t0) ?_
    refine g_aload_n hX dX0_addOther_17 (i := 0) rfl (j := 0) rfl ?_
    have tf18 := (tyF (k := 3) hW t0 (by decide) rfl (by decide) : KA (r p0 3) = 5 ∧ ok (r p0 3))
    refine gf_X0_23 hX dX0_addOther_18 (ty1 hW t0) (hW.1 _ tf18.2).1 ?_
    have tf21 := (tyF (k := 1) hW tf18 (by decide) rfl (by decide) : KA (r (r p0 3) 1) = 9 ∧ ok (r (r p0 3) 1))
    refine gf_X0_69 hX dX0_addOther_21 (ty1 hW tf18) (hW.1 _ tf21.2).1 ?_
    refine g_iload_n hX dX0_addOther_24 (i := 1) rfl (j := 1) rfl ?_
    obtain ⟨g25, hF⟩ := gd_some hF
    refine g_iald hX dX0_addOther_25 tf21.1 (hW.1 _ tf21.2).1 (hW.1 _ tf21.2).2 g25 ?_
    refine g_aload_n hX dX0_addOther_26 (i := 0) rfl (j := 0) rfl ?_
    have tf27 := (tyF (k := 3) hW t0 (by decide) rfl (by decide) : KA (r p0 3) = 5 ∧ ok (r p0 3))
    refine gf_X0_23 hX dX0_addOther_27 (ty1 hW t0) (hW.1 _ tf27.2).1 ?_
    have tf30 := (tyF (k := 2) hW tf27 (by decide) rfl (by decide) : KA (r (r p0 3) 2) = 9 ∧ ok (r (r p0 3) 2))
    refine gf_X0_123 hX dX0_addOther_30 (ty1 hW tf27) (hW.1 _ tf30.2).1 ?_
    refine g_iload_n hX dX0_addOther_33 (i := 1) rfl (j := 1) rfl ?_
    obtain ⟨g34, hF⟩ := gd_some hF
    refine g_iald hX dX0_addOther_34 tf30.1 (hW.1 _ tf30.2).1 (hW.1 _ tf30.2).2 g34 ?_
    refine g_aload_n hX dX0_addOther_35 (i := 0) rfl (j := 0) rfl ?_
    obtain ⟨q_36, w36, z36, hF⟩ := gwd_some hF
    have tw36 := ty_w hA z36
    refine gw_X0_44 hX dX0_addOther_36 (ty1 hW t0) w36 (hW.1 _ tw36.2).1 ?_
    have tf39 := (tyF (k := 2) hW tw36 (by decide) rfl (by decide) : KA (r q_36 2) = 13 ∧ ok (r q_36 2))
    refine gf_X0_57 hX dX0_addOther_39 (ty1 hW tw36) (hW.1 _ tf39.2).1 ?_
    refine g_iconst (v := 1) hX dX0_addOther_42 (by decide) ?_
    refine g_aload_n hX dX0_addOther_43 (i := 0) rfl (j := 0) rfl ?_
    refine gf_X0_31 hX dX0_addOther_44 (ty1 hW t0) ?_
    refine g_isub hX dX0_addOther_47 ?_
    obtain ⟨g48, hF⟩ := gd_some hF
    have ta48 : KA (r (r q_36 2) (ix (1 - (h p0 5)))) = 5 ∧ ok (r (r q_36 2) (ix (1 - (h p0 5)))) := tyA hW tf39 (by decide) rfl (by decide) g48
    refine g_aald hX dX0_addOther_48 tf39.1 (by decide) (by decide) (hW.1 _ tf39.2).1 (hW.1 _ tf39.2).2 g48 (hW.1 _ ta48.2).1 ?_
    have tf49 := (tyF (k := 3) hW ta48 (by decide) rfl (by decide) : KA (r (r (r q_36 2) (ix (1 - (h p0 5)))) 3) = 9 ∧ ok (r (r (r q_36 2) (ix (1 - (h p0 5)))) 3))
    refine gf_X0_129 hX dX0_addOther_49 (ty1 hW ta48) (hW.1 _ tf49.2).1 ?_
    refine g_iload_n hX dX0_addOther_52 (i := 1) rfl (j := 1) rfl ?_
    obtain ⟨g53, hF⟩ := gd_some hF
    refine g_iald hX dX0_addOther_53 tf49.1 (hW.1 _ tf49.2).1 (hW.1 _ tf49.2).2 g53 ?_
    obtain ⟨h54, e54, hF⟩ := bi_some hF
    refine g_callV (As := [.int (h p0 4), .int (h (r (r p0 3) 1) (ix a1)), .int (h (r (r p0 3) 2) (ix a1)), .int (h (r (r (r q_36 2) (ix (1 - (h p0 5)))) 3) (ix a1))]) (rest := []) (stk := []) hX dX0_addOther_54 (ctX5_put hM hW (r p0 3) (h p0 4) (h (r (r p0 3) 1) (ix a1)) (h (r (r p0 3) 2) (ix a1)) (h (r (r (r q_36 2) (ix (1 - (h p0 5)))) 3) (ix a1)) tf10 e54) (by decide) (by decide) wm_X0_112 wi_X5_put ws_X5_put wz_X5 wc_X5_put hyX5_put rfl (ci := 5) rfl (by decide) tf10.1 (hW.1 _ tf10.2).1 (hW.1 _ tf10.2).2 (Nat.le_of_ble_eq_true rfl) rfl rfl ?_ rfl rfl
    refine g_aload_n hX dX0_addOther_57 (i := 0) rfl (j := 0) rfl ?_
    refine g_dup hX dX0_addOther_58 rfl ?_
    refine gf_X0_27 hX dX0_addOther_59 (ty1 hW t0) ?_
    refine g_iconst (v := 1) hX dX0_addOther_62 (by decide) ?_
    refine g_iadd hX dX0_addOther_63 ?_
    obtain ⟨h64, e64, hF⟩ := lt_some hF
    refine pf_X0_27 hX dX0_addOther_64 (ty1 hW t0) hM e64 ?_
    obtain rfl := Option.some.inj hF
    exact g_vret hX dX0_addOther_67 hR
theorem ctX0_addOther {b N sz : Nat} {ok : Nat → Prop} {h : HH} {r : RR} {w : HH} (hM : N ≤ MA) (hW : WT KA lnA ok N r) (hA : ∀ p, KA p < 16 → ok p) (p0 : Nat) (a1 : Int32) (t0 : KA p0 = 0 ∧ ok p0) (hF : fX0_addOther h r p0 a1 = some w) : CT yX0_addOther cX0_addOther 2 (none) 2 b KA lnA MA N sz [.ref (b + p0), .int a1] h r N sz none w r 0 0 :=
  CT_of (by decide) rfl (Nat.le_of_ble_eq_true rfl) (by decide) trivial (fun X hX hR => kX0_addOther hX hM hW hA p0 a1 t0 hR hF)
/-! X0_decideContents -/
def fX0_decideContents_b94 (r : RR) (p0 : Nat) (k2 : HH → Int32 → Option (HH)) (h : HH) (x1 : Int32) : Option (HH) := k2 h (x1 + 1)
def fX0_decideContents_b2 (r : RR) (p0 : Nat) : Nat → HH → Int32 → Option (HH)
  | 0, _, _ => none
  | n + 1, h, x1 => gwd (h p0 0) (fun q_4 => if (h q_4 0) ≤ x1 then (some h) else ((fX5_has h r (r p0 3) x1).bind (fun v18 => if ¬ v18 = 0 then ((fX0_decider h r p0 x1 8).bind (fun v39 => gd (decide (KA v39 = 5)) (gd (inb x1 (lnA (r v39 3))) (gd (inb x1 (lnA (r (r p0 3) 3))) (lt (up h (r (r p0 3) 3) (ix x1) (h (r v39 3) (ix x1))) (fun h47 => (fX0_bothDid h47 r p0 x1 8).bind (fun v52 => if v52 = 0 then (fX0_decideContents_b94 r p0 (fun h_ z1_ => fX0_decideContents_b2 r p0 n h_ z1_) h47 x1) else (gwd (h47 p0 0) (fun q_59 => gd (inb 0 (lnA (r q_59 2))) (gwd (h47 p0 0) (fun q_68 => gd (inb 1 (lnA (r q_68 2))) ((fX5_holdsAsIn h47 r (r (r q_59 2) (ix 0)) (r (r q_68 2) (ix 1)) x1).bind (fun v77 => if ¬ v77 = 0 then (fX0_decideContents_b94 r p0 (fun h_ z1_ => fX0_decideContents_b2 r p0 n h_ z1_) h47 x1) else ((fX0_addClash h47 r p0 2 x1).bind (fun h86 => (fX0_addOther h86 r p0 x1).bind (fun h91 => fX0_decideContents_b94 r p0 (fun h_ z1_ => fX0_decideContents_b2 r p0 n h_ z1_) h91 x1)))))))))))))))) else (fX0_decideContents_b94 r p0 (fun h_ z1_ => fX0_decideContents_b2 r p0 n h_ z1_) h x1))))
def fX0_decideContents (h : HH) (r : RR) (p0 : Nat) : Option (HH) := fX0_decideContents_b2 r p0 lpF h 0
set_option maxRecDepth 100000 in
set_option maxHeartbeats 4000000 in
theorem kX0_decideContents_b94 {X : XT} {b N sz : Nat} {ok : Nat → Prop} {r : RR} {w : HH} (hX : XOK X RX0 cX0_decideContents 2 3) (hM : N ≤ MA) (hW : WT KA lnA ok N r) (hA : ∀ p, KA p < 16 → ok p) (p0 : Nat) (t0 : KA p0 = 0 ∧ ok p0) (hR : XR X b KA lnA MA (none) 0 0 N sz none w r) (k2 : HH → Int32 → Option (HH)) (hk2 : ∀ (h : HH) (x1 : Int32), k2 h x1 = some w → GX X b KA lnA MA 2 0 0 N sz 2 [(0, .ref (b + p0)), (1, .int x1)] [] h r) (h : HH) (x1 : Int32) (hF : fX0_decideContents_b94 r p0 k2 h x1 = some w) : GX X b KA lnA MA 2 0 0 N sz 94 [(0, .ref (b + p0)), (1, .int x1)] [] h r := by
  rw [fX0_decideContents_b94] at hF
  refine g_iinc (L' := [(1, .int (x1 + 1)), (0, .ref (b + p0))]) (j := 1) hX dX0_decideContents_94 rfl rfl (by decide) rfl ?_
  refine g_goto (tgt := 2) hX dX0_decideContents_97 (by decide) ?_
  refine g_sub (L' := [(0, .ref (b + p0)), (1, .int (x1 + 1))]) [1, 0] rfl ?_
  exact hk2 h (x1 + 1) hF
set_option maxRecDepth 100000 in
set_option maxHeartbeats 4000000 in
theorem kX0_decideContents_b2 {X : XT} {b N sz : Nat} {ok : Nat → Prop} {r : RR} {w : HH} (hX : XOK X RX0 cX0_decideContents 2 3) (hM : N ≤ MA) (hW : WT KA lnA ok N r) (hA : ∀ p, KA p < 16 → ok p) (p0 : Nat) (t0 : KA p0 = 0 ∧ ok p0) (hR : XR X b KA lnA MA (none) 0 0 N sz none w r) : ∀ (n : Nat) (h : HH) (x1 : Int32), fX0_decideContents_b2 r p0 n h x1 = some w → GX X b KA lnA MA 2 0 0 N sz 2 [(0, .ref (b + p0)), (1, .int x1)] [] h r := by
  intro n
  induction n with
  | zero =>
    intro h x1 hF
    cases hF
  | succ n ih =>
    intro h x1 hF
    rw [fX0_decideContents_b2] at hF
    refine g_iload_n hX dX0_decideContents_2 (i := 1) rfl (j := 1) rfl ?_
    refine g_aload_n hX dX0_decideContents_3 (i := 0) rfl (j := 0) rfl ?_
    obtain ⟨q_4, w4, z4, hF⟩ := gwd_some hF
    have tw4 := ty_w hA z4
    refine gw_X0_44 hX dX0_decideContents_4 (ty1 hW t0) w4 (hW.1 _ tw4.2).1 ?_
    refine gf_X0_86 hX dX0_decideContents_7 (ty1 hW tw4) ?_
    refine g_icmp_ge (tgt := 100) hX dX0_decideContents_10 (by decide) (fun c10 => ?_) (fun c10 => ?_)
    · have hF := ite_t hF c10
      obtain rfl := Option.some.inj hF
      exact g_vret hX dX0_decideContents_100 hR
    · have hF := ite_f hF c10
      refine g_aload_n hX dX0_decideContents_13 (i := 0) rfl (j := 0) rfl ?_
      have tf14 := (tyF (k := 3) hW t0 (by decide) rfl (by decide) : KA (r p0 3) = 5 ∧ ok (r p0 3))
      refine gf_X0_23 hX dX0_decideContents_14 (ty1 hW t0) (hW.1 _ tf14.2).1 ?_
      refine g_iload_n hX dX0_decideContents_17 (i := 1) rfl (j := 1) rfl ?_
      obtain ⟨v18, e18, hF⟩ := bi_some hF
      refine g_callV (As := [.int x1]) (rest := []) (stk := [.int v18]) hX dX0_decideContents_18 (ctX5_has hM hW (r p0 3) x1 tf14 e18) (by decide) (by decide) wm_X0_72 wi_X5_has ws_X5_has wz_X5 wc_X5_has hyX5_has rfl (ci := 5) rfl (by decide) tf14.1 (hW.1 _ tf14.2).1 (hW.1 _ tf14.2).2 (Nat.le_of_ble_eq_true rfl) rfl rfl ?_ rfl rfl
      refine g_if_ne (tgt := 27) hX dX0_decideContents_21 (by decide) (fun c21 => ?_) (fun c21 => ?_)
      · have hF := ite_t hF c21
        refine g_aload_n hX dX0_decideContents_27 (i := 0) rfl (j := 0) rfl ?_
        have tf28 := (tyF (k := 3) hW t0 (by decide) rfl (by decide) : KA (r p0 3) = 5 ∧ ok (r p0 3))
        refine gf_X0_23 hX dX0_decideContents_28 (ty1 hW t0) (hW.1 _ tf28.2).1 ?_
        have tf31 := (tyF (k := 3) hW tf28 (by decide) rfl (by decide) : KA (r (r p0 3) 3) = 9 ∧ ok (r (r p0 3) 3))
        refine gf_X0_129 hX dX0_decideContents_31 (ty1 hW tf28) (hW.1 _ tf31.2).1 ?_
        refine g_iload_n hX dX0_decideContents_34 (i := 1) rfl (j := 1) rfl ?_
        refine g_aload_n hX dX0_decideContents_35 (i := 0) rfl (j := 0) rfl ?_
        refine g_iload_n hX dX0_decideContents_36 (i := 1) rfl (j := 1) rfl ?_
        refine g_bipush (v := 8) hX dX0_decideContents_37 (by decide) ?_
        obtain ⟨v39, e39, hF⟩ := bi_some hF
        obtain ⟨g39, hF⟩ := gd_some hF
        have tr39 : KA v39 = 5 ∧ ok v39 := ty_r hA (of_decide_eq_true g39) (by decide)
        refine g_callV (As := [.int x1, .int 8]) (rest := [.int x1, .ref (b + (r (r p0 3) 3))]) (stk := [.ref (b + v39), .int x1, .ref (b + (r (r p0 3) 3))]) hX dX0_decideContents_39 (ctX0_decider hM hW hA p0 x1 8 t0 e39) (by decide) (by decide) wm_X0_119 wi_X0_decider ws_X0_decider wz_X0 wc_X0_decider hyX0_decider rfl (ci := 0) rfl (by decide) t0.1 (hW.1 _ t0.2).1 (hW.1 _ t0.2).2 (Nat.le_of_ble_eq_true rfl) rfl rfl ?_ rfl rfl
        have tf42 := (tyF (k := 3) hW tr39 (by decide) rfl (by decide) : KA (r v39 3) = 9 ∧ ok (r v39 3))
        refine gf_X0_129 hX dX0_decideContents_42 (ty1 hW tr39) (hW.1 _ tf42.2).1 ?_
        refine g_iload_n hX dX0_decideContents_45 (i := 1) rfl (j := 1) rfl ?_
        obtain ⟨g46, hF⟩ := gd_some hF
        refine g_iald hX dX0_decideContents_46 tf42.1 (hW.1 _ tf42.2).1 (hW.1 _ tf42.2).2 g46 ?_
        obtain ⟨g47, hF⟩ := gd_some hF
        obtain ⟨h47, e47, hF⟩ := lt_some hF
        refine g_iast hX dX0_decideContents_47 tf31.1 (hW.1 _ tf31.2).1 (hW.1 _ tf31.2).2 hM g47 e47 ?_
        refine g_aload_n hX dX0_decideContents_48 (i := 0) rfl (j := 0) rfl ?_
        refine g_iload_n hX dX0_decideContents_49 (i := 1) rfl (j := 1) rfl ?_
        refine g_bipush (v := 8) hX dX0_decideContents_50 (by decide) ?_
        obtain ⟨v52, e52, hF⟩ := bi_some hF
        refine g_callV (As := [.int x1, .int 8]) (rest := []) (stk := [.int v52]) hX dX0_decideContents_52 (ctX0_bothDid hM hW p0 x1 8 t0 e52) (by decide) (by decide) wm_X0_126 wi_X0_bothDid ws_X0_bothDid wz_X0 wc_X0_bothDid hyX0_bothDid rfl (ci := 0) rfl (by decide) t0.1 (hW.1 _ t0.2).1 (hW.1 _ t0.2).2 (Nat.le_of_ble_eq_true rfl) rfl rfl ?_ rfl rfl
        refine g_if_eq (tgt := 94) hX dX0_decideContents_55 (by decide) (fun c55 => ?_) (fun c55 => ?_)
        · have hF := ite_t hF c55
          refine g_sub (L' := [(0, .ref (b + p0)), (1, .int x1)]) [0, 1] rfl ?_
          exact kX0_decideContents_b94 hX hM hW hA p0 t0 hR (fun h_ z1_ => fX0_decideContents_b2 r p0 n h_ z1_) ih h47 x1 hF
        · have hF := ite_f hF c55
          refine g_aload_n hX dX0_decideContents_58 (i := 0) rfl (j := 0) rfl ?_
          obtain ⟨q_59, w59, z59, hF⟩ := gwd_some hF
          have tw59 := ty_w hA z59
          refine gw_X0_44 hX dX0_decideContents_59 (ty1 hW t0) w59 (hW.1 _ tw59.2).1 ?_
          have tf62 := (tyF (k := 2) hW tw59 (by decide) rfl (by decide) : KA (r q_59 2) = 13 ∧ ok (r q_59 2))
          refine gf_X0_57 hX dX0_decideContents_62 (ty1 hW tw59) (hW.1 _ tf62.2).1 ?_
          refine g_iconst (v := 0) hX dX0_decideContents_65 (by decide) ?_
          obtain ⟨g66, hF⟩ := gd_some hF
          have ta66 : KA (r (r q_59 2) (ix 0)) = 5 ∧ ok (r (r q_59 2) (ix 0)) := tyA hW tf62 (by decide) rfl (by decide) g66
          refine g_aald hX dX0_decideContents_66 tf62.1 (by decide) (by decide) (hW.1 _ tf62.2).1 (hW.1 _ tf62.2).2 g66 (hW.1 _ ta66.2).1 ?_
          refine g_aload_n hX dX0_decideContents_67 (i := 0) rfl (j := 0) rfl ?_
          obtain ⟨q_68, w68, z68, hF⟩ := gwd_some hF
          have tw68 := ty_w hA z68
          refine gw_X0_44 hX dX0_decideContents_68 (ty1 hW t0) w68 (hW.1 _ tw68.2).1 ?_
          have tf71 := (tyF (k := 2) hW tw68 (by decide) rfl (by decide) : KA (r q_68 2) = 13 ∧ ok (r q_68 2))
          refine gf_X0_57 hX dX0_decideContents_71 (ty1 hW tw68) (hW.1 _ tf71.2).1 ?_
          refine g_iconst (v := 1) hX dX0_decideContents_74 (by decide) ?_
          obtain ⟨g75, hF⟩ := gd_some hF
          have ta75 : KA (r (r q_68 2) (ix 1)) = 5 ∧ ok (r (r q_68 2) (ix 1)) := tyA hW tf71 (by decide) rfl (by decide) g75
          refine g_aald hX dX0_decideContents_75 tf71.1 (by decide) (by decide) (hW.1 _ tf71.2).1 (hW.1 _ tf71.2).2 g75 (hW.1 _ ta75.2).1 ?_
          refine g_iload_n hX dX0_decideContents_76 (i := 1) rfl (j := 1) rfl ?_
          obtain ⟨v77, e77, hF⟩ := bi_some hF
          refine g_callV (As := [.ref (b + (r (r q_68 2) (ix 1))), .int x1]) (rest := []) (stk := [.int v77]) hX dX0_decideContents_77 (ctX5_holdsAsIn hM hW (r (r q_59 2) (ix 0)) (r (r q_68 2) (ix 1)) x1 ta66 ta75 e77) (by decide) (by decide) wm_X0_79 wi_X5_holdsAsIn ws_X5_holdsAsIn wz_X5 wc_X5_holdsAsIn hyX5_holdsAsIn rfl (ci := 5) rfl (by decide) ta66.1 (hW.1 _ ta66.2).1 (hW.1 _ ta66.2).2 (Nat.le_of_ble_eq_true rfl) rfl rfl ?_ rfl rfl
          refine g_if_ne (tgt := 94) hX dX0_decideContents_80 (by decide) (fun c80 => ?_) (fun c80 => ?_)
          · have hF := ite_t hF c80
            refine g_sub (L' := [(0, .ref (b + p0)), (1, .int x1)]) [0, 1] rfl ?_
            exact kX0_decideContents_b94 hX hM hW hA p0 t0 hR (fun h_ z1_ => fX0_decideContents_b2 r p0 n h_ z1_) ih h47 x1 hF
          · have hF := ite_f hF (fun z => z c80)
            refine g_aload_n hX dX0_decideContents_83 (i := 0) rfl (j := 0) rfl ?_
            refine g_iconst (v := 2) hX dX0_decideContents_84 (by decide) ?_
            refine g_iload_n hX dX0_decideContents_85 (i := 1) rfl (j := 1) rfl ?_
            obtain ⟨h86, e86, hF⟩ := bi_some hF
            refine g_callV (As := [.int 2, .int x1]) (rest := []) (stk := []) hX dX0_decideContents_86 (ctX0_addClash hM hW p0 2 x1 t0 e86) (by decide) (by decide) wm_X0_108 wi_X0_addClash ws_X0_addClash wz_X0 wc_X0_addClash hyX0_addClash rfl (ci := 0) rfl (by decide) t0.1 (hW.1 _ t0.2).1 (hW.1 _ t0.2).2 (Nat.le_of_ble_eq_true rfl) rfl rfl ?_ rfl rfl
            refine g_aload_n hX dX0_decideContents_89 (i := 0) rfl (j := 0) rfl ?_
            refine g_iload_n hX dX0_decideContents_90 (i := 1) rfl (j := 1) rfl ?_
            obtain ⟨h91, e91, hF⟩ := bi_some hF
            refine g_callV (As := [.int x1]) (rest := []) (stk := []) hX dX0_decideContents_91 (ctX0_addOther hM hW hA p0 x1 t0 e91) (by decide) (by decide) wm_X0_132 wi_X0_addOther ws_X0_addOther wz_X0 wc_X0_addOther hyX0_addOther rfl (ci := 0) rfl (by decide) t0.1 (hW.1 _ t0.2).1 (hW.1 _ t0.2).2 (Nat.le_of_ble_eq_true rfl) rfl rfl ?_ rfl rfl
            refine g_sub (L' := [(0, .ref (b + p0)), (1, .int x1)]) [0, 1] rfl ?_
            exact kX0_decideContents_b94 hX hM hW hA p0 t0 hR (fun h_ z1_ => fX0_decideContents_b2 r p0 n h_ z1_) ih h91 x1 hF
      · have hF := ite_f hF (fun z => z c21)
        refine g_goto (tgt := 94) hX dX0_decideContents_24 (by decide) ?_
        refine g_sub (L' := [(0, .ref (b + p0)), (1, .int x1)]) [0, 1] rfl ?_
        exact kX0_decideContents_b94 hX hM hW hA p0 t0 hR (fun h_ z1_ => fX0_decideContents_b2 r p0 n h_ z1_) ih h x1 hF
set_option maxRecDepth 100000 in
set_option maxHeartbeats 4000000 in
theorem kX0_decideContents {X : XT} {b N sz : Nat} {ok : Nat → Prop} {h : HH} {r : RR} {w : HH} (hX : XOK X RX0 cX0_decideContents 2 3) (hM : N ≤ MA) (hW : WT KA lnA ok N r) (hA : ∀ p, KA p < 16 → ok p) (p0 : Nat) (t0 : KA p0 = 0 ∧ ok p0) (hR : XR X b KA lnA MA (none) 0 0 N sz none w r) (hF : fX0_decideContents h r p0 = some w) : GX X b KA lnA MA 2 0 0 N sz 0 [(0, .ref (b + p0))] [] h r := by
  rw [fX0_decideContents] at hF
  refine g_iconst (v := 0) hX dX0_decideContents_0 (by decide) ?_
  refine g_istore_n (L' := [(1, .int 0), (0, .ref (b + p0))]) hX dX0_decideContents_1 (i := 1) rfl (by decide) rfl ?_
  refine g_sub (L' := [(0, .ref (b + p0)), (1, .int 0)]) [1, 0] rfl ?_
  exact kX0_decideContents_b2 hX hM hW hA p0 t0 hR lpF h 0 hF
theorem ctX0_decideContents {b N sz : Nat} {ok : Nat → Prop} {h : HH} {r : RR} {w : HH} (hM : N ≤ MA) (hW : WT KA lnA ok N r) (hA : ∀ p, KA p < 16 → ok p) (p0 : Nat) (t0 : KA p0 = 0 ∧ ok p0) (hF : fX0_decideContents h r p0 = some w) : CT yX0_decideContents cX0_decideContents 2 (none) 3 b KA lnA MA N sz [.ref (b + p0)] h r N sz none w r 0 0 :=
  CT_of (by decide) rfl (Nat.le_of_ble_eq_true rfl) (by decide) trivial (fun X hX hR => kX0_decideContents hX hM hW hA p0 t0 hR hF)
/-! X0_greatestInRing -/
def fX0_greatestInRing_b3 (h : HH) (r : RR) (p0 : Nat) : Nat → Int32 → Option (Int32)
  | 0, _ => none
  | n + 1, x1 => if x1 < 0 then (some (-1)) else ((fX5_isInner h r (r p0 3) x1 x1).bind (fun v13 => if v13 = 0 then (fX0_greatestInRing_b3 h r p0 n (x1 + (-1))) else (some (x1))))
def fX0_greatestInRing (h : HH) (r : RR) (p0 : Nat) : Option (Int32) := fX0_greatestInRing_b3 h r p0 lpF 29
set_option maxRecDepth 100000 in
set_option maxHeartbeats 4000000 in
theorem kX0_greatestInRing_b3 {X : XT} {b N sz : Nat} {ok : Nat → Prop} {h : HH} {r : RR} {w : Int32} (hX : XOK X RX0 cX0_greatestInRing 2 3) (hM : N ≤ MA) (hW : WT KA lnA ok N r) (p0 : Nat) (t0 : KA p0 = 0 ∧ ok p0) (hR : XR X b KA lnA MA (some FieldType.int) 0 0 N sz (some (.int w)) h r) : ∀ (n : Nat) (x1 : Int32), fX0_greatestInRing_b3 h r p0 n x1 = some w → GX X b KA lnA MA 2 0 0 N sz 3 [(0, .ref (b + p0)), (1, .int x1)] [] h r := by
  intro n
  induction n with
  | zero =>
    intro x1 hF
    cases hF
  | succ n ih =>
    intro x1 hF
    rw [fX0_greatestInRing_b3] at hF
    refine g_iload_n hX dX0_greatestInRing_3 (i := 1) rfl (j := 1) rfl ?_
    refine g_if_lt (tgt := 27) hX dX0_greatestInRing_4 (by decide) (fun c4 => ?_) (fun c4 => ?_)
    · have hF := ite_t hF c4
      refine g_iconst (v := (-1)) hX dX0_greatestInRing_27 (by decide) ?_
      obtain rfl := Option.some.inj hF
      exact g_iret hX dX0_greatestInRing_28 hR
    · have hF := ite_f hF c4
      refine g_aload_n hX dX0_greatestInRing_7 (i := 0) rfl (j := 0) rfl ?_
      have tf8 := (tyF (k := 3) hW t0 (by decide) rfl (by decide) : KA (r p0 3) = 5 ∧ ok (r p0 3))
      refine gf_X0_23 hX dX0_greatestInRing_8 (ty1 hW t0) (hW.1 _ tf8.2).1 ?_
      refine g_iload_n hX dX0_greatestInRing_11 (i := 1) rfl (j := 1) rfl ?_
      refine g_iload_n hX dX0_greatestInRing_12 (i := 1) rfl (j := 1) rfl ?_
      obtain ⟨v13, e13, hF⟩ := bi_some hF
      refine g_callV (As := [.int x1, .int x1]) (rest := []) (stk := [.int v13]) hX dX0_greatestInRing_13 (ctX5_isInner hM hW (r p0 3) x1 x1 tf8 e13) (by decide) (by decide) wm_X0_116 wi_X5_isInner ws_X5_isInner wz_X5 wc_X5_isInner hyX5_isInner rfl (ci := 5) rfl (by decide) tf8.1 (hW.1 _ tf8.2).1 (hW.1 _ tf8.2).2 (Nat.le_of_ble_eq_true rfl) rfl rfl ?_ rfl rfl
      refine g_if_eq (tgt := 21) hX dX0_greatestInRing_16 (by decide) (fun c16 => ?_) (fun c16 => ?_)
      · have hF := ite_t hF c16
        refine g_iinc (L' := [(1, .int (x1 + (-1))), (0, .ref (b + p0))]) (j := 1) hX dX0_greatestInRing_21 rfl rfl (by decide) rfl ?_
        refine g_goto (tgt := 3) hX dX0_greatestInRing_24 (by decide) ?_
        refine g_sub (L' := [(0, .ref (b + p0)), (1, .int (x1 + (-1)))]) [1, 0] rfl ?_
        exact ih (x1 + (-1)) hF
      · have hF := ite_f hF c16
        refine g_iload_n hX dX0_greatestInRing_19 (i := 1) rfl (j := 1) rfl ?_
        obtain rfl := Option.some.inj hF
        exact g_iret hX dX0_greatestInRing_20 hR
set_option maxRecDepth 100000 in
set_option maxHeartbeats 4000000 in
theorem kX0_greatestInRing {X : XT} {b N sz : Nat} {ok : Nat → Prop} {h : HH} {r : RR} {w : Int32} (hX : XOK X RX0 cX0_greatestInRing 2 3) (hM : N ≤ MA) (hW : WT KA lnA ok N r) (p0 : Nat) (t0 : KA p0 = 0 ∧ ok p0) (hR : XR X b KA lnA MA (some FieldType.int) 0 0 N sz (some (.int w)) h r) (hF : fX0_greatestInRing h r p0 = some w) : GX X b KA lnA MA 2 0 0 N sz 0 [(0, .ref (b + p0))] [] h r := by
  rw [fX0_greatestInRing] at hF
  refine g_bipush (v := 29) hX dX0_greatestInRing_0 (by decide) ?_
  refine g_istore_n (L' := [(1, .int 29), (0, .ref (b + p0))]) hX dX0_greatestInRing_2 (i := 1) rfl (by decide) rfl ?_
  refine g_sub (L' := [(0, .ref (b + p0)), (1, .int 29)]) [1, 0] rfl ?_
  exact kX0_greatestInRing_b3 hX hM hW p0 t0 hR lpF 29 hF
theorem ctX0_greatestInRing {b N sz : Nat} {ok : Nat → Prop} {h : HH} {r : RR} {w : Int32} (hM : N ≤ MA) (hW : WT KA lnA ok N r) (p0 : Nat) (t0 : KA p0 = 0 ∧ ok p0) (hF : fX0_greatestInRing h r p0 = some w) : CT yX0_greatestInRing cX0_greatestInRing 2 (some FieldType.int) 3 b KA lnA MA N sz [.ref (b + p0)] h r N sz (some (.int w)) h r 0 0 :=
  CT_of (by decide) rfl (Nat.le_of_ble_eq_true rfl) (by decide) trivial (fun X hX hR => kX0_greatestInRing hX hM hW p0 t0 hR hF)
/-! X0_mendRings -/
def fX0_mendRings_b2 (r : RR) (p0 : Nat) : Nat → HH → Int32 → Option (HH)
  | 0, _, _ => none
  | n + 1, h, x1 => if 30 ≤ x1 then (some h) else ((fX0_greatestInRing h r p0).bind (fun v9 => if ¬ v9 = (-1) then (gd (inb v9 (lnA (r (r p0 3) 1))) (lt (up h (r (r p0 3) 1) (ix v9) (-1)) (fun h28 => (fX0_addClash h28 r p0 4 v9).bind (fun h32 => fX0_mendRings_b2 r p0 n h32 (x1 + 1))))) else (some h)))
def fX0_mendRings (h : HH) (r : RR) (p0 : Nat) : Option (HH) := fX0_mendRings_b2 r p0 lpF h 0
set_option maxRecDepth 100000 in
set_option maxHeartbeats 4000000 in
theorem kX0_mendRings_b2 {X : XT} {b N sz : Nat} {ok : Nat → Prop} {r : RR} {w : HH} (hX : XOK X RX0 cX0_mendRings 3 4) (hM : N ≤ MA) (hW : WT KA lnA ok N r) (p0 : Nat) (t0 : KA p0 = 0 ∧ ok p0) (hR : XR X b KA lnA MA (none) 0 0 N sz none w r) : ∀ (n : Nat) (h : HH) (x1 : Int32), fX0_mendRings_b2 r p0 n h x1 = some w → GX X b KA lnA MA 3 0 0 N sz 2 [(0, .ref (b + p0)), (1, .int x1)] [] h r := by
  intro n
  induction n with
  | zero =>
    intro h x1 hF
    cases hF
  | succ n ih =>
    intro h x1 hF
    rw [fX0_mendRings_b2] at hF
    refine g_iload_n hX dX0_mendRings_2 (i := 1) rfl (j := 1) rfl ?_
    refine g_bipush (v := 30) hX dX0_mendRings_3 (by decide) ?_
    refine g_icmp_ge (tgt := 41) hX dX0_mendRings_5 (by decide) (fun c5 => ?_) (fun c5 => ?_)
    · have hF := ite_t hF c5
      obtain rfl := Option.some.inj hF
      exact g_vret hX dX0_mendRings_41 hR
    · have hF := ite_f hF c5
      refine g_aload_n hX dX0_mendRings_8 (i := 0) rfl (j := 0) rfl ?_
      obtain ⟨v9, e9, hF⟩ := bi_some hF
      refine g_callV (As := []) (rest := []) (stk := [.int v9]) hX dX0_mendRings_9 (ctX0_greatestInRing hM hW p0 t0 e9) (by decide) (by decide) wm_X0_136 wi_X0_greatestInRing ws_X0_greatestInRing wz_X0 wc_X0_greatestInRing hyX0_greatestInRing rfl (ci := 0) rfl (by decide) t0.1 (hW.1 _ t0.2).1 (hW.1 _ t0.2).2 (Nat.le_of_ble_eq_true rfl) rfl rfl ?_ rfl rfl
      refine g_istore_n (L' := [(2, .int v9), (0, .ref (b + p0)), (1, .int x1)]) hX dX0_mendRings_12 (i := 2) rfl (by decide) rfl ?_
      refine g_iload_n hX dX0_mendRings_13 (i := 2) rfl (j := 0) rfl ?_
      refine g_iconst (v := (-1)) hX dX0_mendRings_14 (by decide) ?_
      refine g_icmp_ne (tgt := 19) hX dX0_mendRings_15 (by decide) (fun c15 => ?_) (fun c15 => ?_)
      · have hF := ite_t hF c15
        refine g_aload_n hX dX0_mendRings_19 (i := 0) rfl (j := 1) rfl ?_
        have tf20 := (tyF (k := 3) hW t0 (by decide) rfl (by decide) : KA (r p0 3) = 5 ∧ ok (r p0 3))
        refine gf_X0_23 hX dX0_mendRings_20 (ty1 hW t0) (hW.1 _ tf20.2).1 ?_
        have tf23 := (tyF (k := 1) hW tf20 (by decide) rfl (by decide) : KA (r (r p0 3) 1) = 9 ∧ ok (r (r p0 3) 1))
        refine gf_X0_69 hX dX0_mendRings_23 (ty1 hW tf20) (hW.1 _ tf23.2).1 ?_
        refine g_iload_n hX dX0_mendRings_26 (i := 2) rfl (j := 0) rfl ?_
        refine g_iconst (v := (-1)) hX dX0_mendRings_27 (by decide) ?_
        obtain ⟨g28, hF⟩ := gd_some hF
        obtain ⟨h28, e28, hF⟩ := lt_some hF
        refine g_iast hX dX0_mendRings_28 tf23.1 (hW.1 _ tf23.2).1 (hW.1 _ tf23.2).2 hM g28 e28 ?_
        refine g_aload_n hX dX0_mendRings_29 (i := 0) rfl (j := 1) rfl ?_
        refine g_iconst (v := 4) hX dX0_mendRings_30 (by decide) ?_
        refine g_iload_n hX dX0_mendRings_31 (i := 2) rfl (j := 0) rfl ?_
        obtain ⟨h32, e32, hF⟩ := bi_some hF
        refine g_callV (As := [.int 4, .int v9]) (rest := []) (stk := []) hX dX0_mendRings_32 (ctX0_addClash hM hW p0 4 v9 t0 e32) (by decide) (by decide) wm_X0_108 wi_X0_addClash ws_X0_addClash wz_X0 wc_X0_addClash hyX0_addClash rfl (ci := 0) rfl (by decide) t0.1 (hW.1 _ t0.2).1 (hW.1 _ t0.2).2 (Nat.le_of_ble_eq_true rfl) rfl rfl ?_ rfl rfl
        refine g_iinc (L' := [(1, .int (x1 + 1)), (2, .int v9), (0, .ref (b + p0))]) (j := 2) hX dX0_mendRings_35 rfl rfl (by decide) rfl ?_
        refine g_goto (tgt := 2) hX dX0_mendRings_38 (by decide) ?_
        refine g_sub (L' := [(0, .ref (b + p0)), (1, .int (x1 + 1))]) [2, 0] rfl ?_
        exact ih h32 (x1 + 1) hF
      · have hF := ite_f hF (fun z => z c15)
        obtain rfl := Option.some.inj hF
        exact g_vret hX dX0_mendRings_18 hR
set_option maxRecDepth 100000 in
set_option maxHeartbeats 4000000 in
theorem kX0_mendRings {X : XT} {b N sz : Nat} {ok : Nat → Prop} {h : HH} {r : RR} {w : HH} (hX : XOK X RX0 cX0_mendRings 3 4) (hM : N ≤ MA) (hW : WT KA lnA ok N r) (p0 : Nat) (t0 : KA p0 = 0 ∧ ok p0) (hR : XR X b KA lnA MA (none) 0 0 N sz none w r) (hF : fX0_mendRings h r p0 = some w) : GX X b KA lnA MA 3 0 0 N sz 0 [(0, .ref (b + p0))] [] h r := by
  rw [fX0_mendRings] at hF
  refine g_iconst (v := 0) hX dX0_mendRings_0 (by decide) ?_
  refine g_istore_n (L' := [(1, .int 0), (0, .ref (b + p0))]) hX dX0_mendRings_1 (i := 1) rfl (by decide) rfl ?_
  refine g_sub (L' := [(0, .ref (b + p0)), (1, .int 0)]) [1, 0] rfl ?_
  exact kX0_mendRings_b2 hX hM hW p0 t0 hR lpF h 0 hF
theorem ctX0_mendRings {b N sz : Nat} {ok : Nat → Prop} {h : HH} {r : RR} {w : HH} (hM : N ≤ MA) (hW : WT KA lnA ok N r) (p0 : Nat) (t0 : KA p0 = 0 ∧ ok p0) (hF : fX0_mendRings h r p0 = some w) : CT yX0_mendRings cX0_mendRings 3 (none) 4 b KA lnA MA N sz [.ref (b + p0)] h r N sz none w r 0 0 :=
  CT_of (by decide) rfl (Nat.le_of_ble_eq_true rfl) (by decide) trivial (fun X hX hR => kX0_mendRings hX hM hW p0 t0 hR hF)
/-! X5_isAt -/
def fX5_isAt_b33 (h : HH) (r : RR) (p0 : Nat) (a1 : Int32) (a2 : Int32) (a3 : Int32) : Option (Int32) := some (0)
def fX5_isAt (h : HH) (r : RR) (p0 : Nat) (a1 : Int32) (a2 : Int32) (a3 : Int32) : Option (Int32) := gd (inb a1 (lnA (r p0 0))) (if (h (r p0 0) (ix a1)) = 0 then (fX5_isAt_b33 h r p0 a1 a2 a3) else (gd (inb a1 (lnA (r p0 1))) (if ¬ (h (r p0 1) (ix a1)) = a2 then (fX5_isAt_b33 h r p0 a1 a2 a3) else (gd (inb a1 (lnA (r p0 2))) (if ¬ (h (r p0 2) (ix a1)) = a3 then (fX5_isAt_b33 h r p0 a1 a2 a3) else (some (1)))))))
set_option maxRecDepth 100000 in
set_option maxHeartbeats 4000000 in
theorem kX5_isAt_b33 {X : XT} {b N sz : Nat} {ok : Nat → Prop} {h : HH} {r : RR} {w : Int32} (hX : XOK X RX5 cX5_isAt 4 1) (hM : N ≤ MA) (hW : WT KA lnA ok N r) (p0 : Nat) (a1 : Int32) (a2 : Int32) (a3 : Int32) (t0 : KA p0 = 5 ∧ ok p0) (hR : XR X b KA lnA MA (some FieldType.boolean) 0 0 N sz (some (.int w)) h r) (hF : fX5_isAt_b33 h r p0 a1 a2 a3 = some w) : GX X b KA lnA MA 4 0 0 N sz 33 [(0, .ref (b + p0)), (1, .int a1), (2, .int a2), (3, .int a3)] [] h r := by
  rw [fX5_isAt_b33] at hF
  refine g_iconst (v := 0) hX dX5_isAt_33 (by decide) ?_
  obtain rfl := Option.some.inj hF
  exact g_zret hX dX5_isAt_34 (by decide) hR
set_option maxRecDepth 100000 in
set_option maxHeartbeats 4000000 in
theorem kX5_isAt {X : XT} {b N sz : Nat} {ok : Nat → Prop} {h : HH} {r : RR} {w : Int32} (hX : XOK X RX5 cX5_isAt 4 1) (hM : N ≤ MA) (hW : WT KA lnA ok N r) (p0 : Nat) (a1 : Int32) (a2 : Int32) (a3 : Int32) (t0 : KA p0 = 5 ∧ ok p0) (hR : XR X b KA lnA MA (some FieldType.boolean) 0 0 N sz (some (.int w)) h r) (hF : fX5_isAt h r p0 a1 a2 a3 = some w) : GX X b KA lnA MA 4 0 0 N sz 0 [(0, .ref (b + p0)), (1, .int a1), (2, .int a2), (3, .int a3)] [] h r := by
  rw [fX5_isAt] at hF
  refine g_aload_n hX dX5_isAt_0 (i := 0) rfl (j := 0) rfl ?_
  have tf1 := (tyF (k := 0) hW t0 (by decide) rfl (by decide) : KA (r p0 0) = 10 ∧ ok (r p0 0))
  refine gf_X5_9 hX dX5_isAt_1 (ty1 hW t0) (hW.1 _ tf1.2).1 ?_
  refine g_iload_n hX dX5_isAt_4 (i := 1) rfl (j := 1) rfl ?_
  obtain ⟨g5, hF⟩ := gd_some hF
  refine g_bald hX dX5_isAt_5 tf1.1 (hW.1 _ tf1.2).1 (hW.1 _ tf1.2).2 g5 ?_
  refine g_if_eq (tgt := 33) hX dX5_isAt_6 (by decide) (fun c6 => ?_) (fun c6 => ?_)
  · have hF := ite_t hF c6
    refine g_sub (L' := [(0, .ref (b + p0)), (1, .int a1), (2, .int a2), (3, .int a3)]) [0, 1, 2, 3] rfl ?_
    exact kX5_isAt_b33 hX hM hW p0 a1 a2 a3 t0 hR hF
  · have hF := ite_f hF c6
    refine g_aload_n hX dX5_isAt_9 (i := 0) rfl (j := 0) rfl ?_
    have tf10 := (tyF (k := 1) hW t0 (by decide) rfl (by decide) : KA (r p0 1) = 9 ∧ ok (r p0 1))
    refine gf_X5_15 hX dX5_isAt_10 (ty1 hW t0) (hW.1 _ tf10.2).1 ?_
    refine g_iload_n hX dX5_isAt_13 (i := 1) rfl (j := 1) rfl ?_
    obtain ⟨g14, hF⟩ := gd_some hF
    refine g_iald hX dX5_isAt_14 tf10.1 (hW.1 _ tf10.2).1 (hW.1 _ tf10.2).2 g14 ?_
    refine g_iload_n hX dX5_isAt_15 (i := 2) rfl (j := 2) rfl ?_
    refine g_icmp_ne (tgt := 33) hX dX5_isAt_16 (by decide) (fun c16 => ?_) (fun c16 => ?_)
    · have hF := ite_t hF c16
      refine g_sub (L' := [(0, .ref (b + p0)), (1, .int a1), (2, .int a2), (3, .int a3)]) [0, 1, 2, 3] rfl ?_
      exact kX5_isAt_b33 hX hM hW p0 a1 a2 a3 t0 hR hF
    · have hF := ite_f hF (fun z => z c16)
      refine g_aload_n hX dX5_isAt_19 (i := 0) rfl (j := 0) rfl ?_
      have tf20 := (tyF (k := 2) hW t0 (by decide) rfl (by decide) : KA (r p0 2) = 9 ∧ ok (r p0 2))
      refine gf_X5_19 hX dX5_isAt_20 (ty1 hW t0) (hW.1 _ tf20.2).1 ?_
      refine g_iload_n hX dX5_isAt_23 (i := 1) rfl (j := 1) rfl ?_
      obtain ⟨g24, hF⟩ := gd_some hF
      refine g_iald hX dX5_isAt_24 tf20.1 (hW.1 _ tf20.2).1 (hW.1 _ tf20.2).2 g24 ?_
      refine g_iload_n hX dX5_isAt_25 (i := 3) rfl (j := 3) rfl ?_
      refine g_icmp_ne (tgt := 33) hX dX5_isAt_26 (by decide) (fun c26 => ?_) (fun c26 => ?_)
      · have hF := ite_t hF c26
        refine g_sub (L' := [(0, .ref (b + p0)), (1, .int a1), (2, .int a2), (3, .int a3)]) [0, 1, 2, 3] rfl ?_
        exact kX5_isAt_b33 hX hM hW p0 a1 a2 a3 t0 hR hF
      · have hF := ite_f hF (fun z => z c26)
        refine g_iconst (v := 1) hX dX5_isAt_29 (by decide) ?_
        refine g_goto (tgt := 34) hX dX5_isAt_30 (by decide) ?_
        obtain rfl := Option.some.inj hF
        exact g_zret hX dX5_isAt_34 (by decide) hR
theorem ctX5_isAt {b N sz : Nat} {ok : Nat → Prop} {h : HH} {r : RR} {w : Int32} (hM : N ≤ MA) (hW : WT KA lnA ok N r) (p0 : Nat) (a1 : Int32) (a2 : Int32) (a3 : Int32) (t0 : KA p0 = 5 ∧ ok p0) (hF : fX5_isAt h r p0 a1 a2 a3 = some w) : CT yX5_isAt cX5_isAt 4 (some FieldType.boolean) 1 b KA lnA MA N sz [.ref (b + p0), .int a1, .int a2, .int a3] h r N sz (some (.int w)) h r 0 0 :=
  CT_of (by decide) rfl (Nat.le_of_ble_eq_true rfl) (by decide) trivial (fun X hX hR => kX5_isAt hX hM hW p0 a1 a2 a3 t0 hR hF)
/-! X5_standing -/
def fX5_standing_b2 (h : HH) (r : RR) (p0 : Nat) (a1 : Int32) (a2 : Int32) : Nat → Int32 → Option (Int32)
  | 0, _ => none
  | n + 1, x3 => if 30 ≤ x3 then (some (-1)) else ((fX5_isAt h r p0 x3 a1 a2).bind (fun v12 => if v12 = 0 then (fX5_standing_b2 h r p0 a1 a2 n (x3 + 1)) else (some (x3))))
def fX5_standing (h : HH) (r : RR) (p0 : Nat) (a1 : Int32) (a2 : Int32) : Option (Int32) := fX5_standing_b2 h r p0 a1 a2 lpF 0
set_option maxRecDepth 100000 in
set_option maxHeartbeats 4000000 in
theorem kX5_standing_b2 {X : XT} {b N sz : Nat} {ok : Nat → Prop} {h : HH} {r : RR} {w : Int32} (hX : XOK X RX5 cX5_standing 4 2) (hM : N ≤ MA) (hW : WT KA lnA ok N r) (p0 : Nat) (a1 : Int32) (a2 : Int32) (t0 : KA p0 = 5 ∧ ok p0) (hR : XR X b KA lnA MA (some FieldType.int) 0 0 N sz (some (.int w)) h r) : ∀ (n : Nat) (x3 : Int32), fX5_standing_b2 h r p0 a1 a2 n x3 = some w → GX X b KA lnA MA 4 0 0 N sz 2 [(0, .ref (b + p0)), (1, .int a1), (2, .int a2), (3, .int x3)] [] h r := by
  intro n
  induction n with
  | zero =>
    intro x3 hF
    cases hF
  | succ n ih =>
    intro x3 hF
    rw [fX5_standing_b2] at hF
    refine g_iload_n hX dX5_standing_2 (i := 3) rfl (j := 3) rfl ?_
    refine g_bipush (v := 30) hX dX5_standing_3 (by decide) ?_
    refine g_icmp_ge (tgt := 26) hX dX5_standing_5 (by decide) (fun c5 => ?_) (fun c5 => ?_)
    · have hF := ite_t hF c5
      refine g_iconst (v := (-1)) hX dX5_standing_26 (by decide) ?_
      obtain rfl := Option.some.inj hF
      exact g_iret hX dX5_standing_27 hR
    · have hF := ite_f hF c5
      refine g_aload_n hX dX5_standing_8 (i := 0) rfl (j := 0) rfl ?_
      refine g_iload_n hX dX5_standing_9 (i := 3) rfl (j := 3) rfl ?_
      refine g_iload_n hX dX5_standing_10 (i := 1) rfl (j := 1) rfl ?_
      refine g_iload_n hX dX5_standing_11 (i := 2) rfl (j := 2) rfl ?_
      obtain ⟨v12, e12, hF⟩ := bi_some hF
      refine g_callV (As := [.int x3, .int a1, .int a2]) (rest := []) (stk := [.int v12]) hX dX5_standing_12 (ctX5_isAt hM hW p0 x3 a1 a2 t0 e12) (by decide) (by decide) wm_X5_36 wi_X5_isAt ws_X5_isAt wz_X5 wc_X5_isAt hyX5_isAt rfl (ci := 5) rfl (by decide) t0.1 (hW.1 _ t0.2).1 (hW.1 _ t0.2).2 (Nat.le_of_ble_eq_true rfl) rfl rfl ?_ rfl rfl
      refine g_if_eq (tgt := 20) hX dX5_standing_15 (by decide) (fun c15 => ?_) (fun c15 => ?_)
      · have hF := ite_t hF c15
        refine g_iinc (L' := [(3, .int (x3 + 1)), (0, .ref (b + p0)), (1, .int a1), (2, .int a2)]) (j := 3) hX dX5_standing_20 rfl rfl (by decide) rfl ?_
        refine g_goto (tgt := 2) hX dX5_standing_23 (by decide) ?_
        refine g_sub (L' := [(0, .ref (b + p0)), (1, .int a1), (2, .int a2), (3, .int (x3 + 1))]) [1, 2, 3, 0] rfl ?_
        exact ih (x3 + 1) hF
      · have hF := ite_f hF c15
        refine g_iload_n hX dX5_standing_18 (i := 3) rfl (j := 3) rfl ?_
        obtain rfl := Option.some.inj hF
        exact g_iret hX dX5_standing_19 hR
set_option maxRecDepth 100000 in
set_option maxHeartbeats 4000000 in
theorem kX5_standing {X : XT} {b N sz : Nat} {ok : Nat → Prop} {h : HH} {r : RR} {w : Int32} (hX : XOK X RX5 cX5_standing 4 2) (hM : N ≤ MA) (hW : WT KA lnA ok N r) (p0 : Nat) (a1 : Int32) (a2 : Int32) (t0 : KA p0 = 5 ∧ ok p0) (hR : XR X b KA lnA MA (some FieldType.int) 0 0 N sz (some (.int w)) h r) (hF : fX5_standing h r p0 a1 a2 = some w) : GX X b KA lnA MA 4 0 0 N sz 0 [(0, .ref (b + p0)), (1, .int a1), (2, .int a2)] [] h r := by
  rw [fX5_standing] at hF
  refine g_iconst (v := 0) hX dX5_standing_0 (by decide) ?_
  refine g_istore_n (L' := [(3, .int 0), (0, .ref (b + p0)), (1, .int a1), (2, .int a2)]) hX dX5_standing_1 (i := 3) rfl (by decide) rfl ?_
  refine g_sub (L' := [(0, .ref (b + p0)), (1, .int a1), (2, .int a2), (3, .int 0)]) [1, 2, 3, 0] rfl ?_
  exact kX5_standing_b2 hX hM hW p0 a1 a2 t0 hR lpF 0 hF
theorem ctX5_standing {b N sz : Nat} {ok : Nat → Prop} {h : HH} {r : RR} {w : Int32} (hM : N ≤ MA) (hW : WT KA lnA ok N r) (p0 : Nat) (a1 : Int32) (a2 : Int32) (t0 : KA p0 = 5 ∧ ok p0) (hF : fX5_standing h r p0 a1 a2 = some w) : CT yX5_standing cX5_standing 4 (some FieldType.int) 2 b KA lnA MA N sz [.ref (b + p0), .int a1, .int a2] h r N sz (some (.int w)) h r 0 0 :=
  CT_of (by decide) rfl (Nat.le_of_ble_eq_true rfl) (by decide) trivial (fun X hX hR => kX5_standing hX hM hW p0 a1 a2 t0 hR hF)
/-! X0_ignoredHas -/
def fX0_ignoredHas_b57 (h : HH) (r : RR) (p0 : Nat) (a1 : Int32) (a2 : Int32) (k2 : Int32 → Option (Int32)) (k21 : Int32 → Nat → Int32 → Option (Int32)) (x3 : Int32) (q4 : Nat) (x5 : Int32) : Option (Int32) := k21 x3 q4 (x5 + 1)
def fX0_ignoredHas_b21 (h : HH) (r : RR) (p0 : Nat) (a1 : Int32) (a2 : Int32) (k2 : Int32 → Option (Int32)) : Nat → Int32 → Nat → Int32 → Option (Int32)
  | 0, _, _, _ => none
  | n + 1, x3, q4, x5 => gwd (h p0 0) (fun q_24 => if (h q_24 0) ≤ x5 then (k2 (x3 + 1)) else (gd (inb x5 (lnA (r p0 1))) (if (h (r p0 1) (ix x5)) = 0 then (fX0_ignoredHas_b57 h r p0 a1 a2 k2 (fun z3_ z4_ z5_ => fX0_ignoredHas_b21 h r p0 a1 a2 k2 n z3_ z4_ z5_) x3 q4 x5) else ((fX5_isAt h r q4 x5 a1 a2).bind (fun v49 => if v49 = 0 then (fX0_ignoredHas_b57 h r p0 a1 a2 k2 (fun z3_ z4_ z5_ => fX0_ignoredHas_b21 h r p0 a1 a2 k2 n z3_ z4_ z5_) x3 q4 x5) else (some (1)))))))
def fX0_ignoredHas_b2 (h : HH) (r : RR) (p0 : Nat) (a1 : Int32) (a2 : Int32) : Nat → Int32 → Option (Int32)
  | 0, _ => none
  | n + 1, x3 => if 3 ≤ x3 then (some (0)) else (gwd (h p0 0) (fun q_8 => gd (inb x3 (lnA (r q_8 2))) (fX0_ignoredHas_b21 h r p0 a1 a2 (fun z3_ => fX0_ignoredHas_b2 h r p0 a1 a2 n z3_) lpF x3 (r (r q_8 2) (ix x3)) 0)))
def fX0_ignoredHas (h : HH) (r : RR) (p0 : Nat) (a1 : Int32) (a2 : Int32) : Option (Int32) := fX0_ignoredHas_b2 h r p0 a1 a2 lpF 0
set_option maxRecDepth 100000 in
set_option maxHeartbeats 4000000 in
theorem kX0_ignoredHas_b57 {X : XT} {b N sz : Nat} {ok : Nat → Prop} {h : HH} {r : RR} {w : Int32} (hX : XOK X RX0 cX0_ignoredHas 6 2) (hM : N ≤ MA) (hW : WT KA lnA ok N r) (hA : ∀ p, KA p < 16 → ok p) (p0 : Nat) (a1 : Int32) (a2 : Int32) (t0 : KA p0 = 0 ∧ ok p0) (hR : XR X b KA lnA MA (some FieldType.boolean) 0 0 N sz (some (.int w)) h r) (k2 : Int32 → Option (Int32)) (hk2 : ∀ (x3 : Int32), k2 x3 = some w → GX X b KA lnA MA 6 0 0 N sz 2 [(0, .ref (b + p0)), (1, .int a1), (2, .int a2), (3, .int x3)] [] h r) (k21 : Int32 → Nat → Int32 → Option (Int32)) (hk21 : ∀ (x3 : Int32) (q4 : Nat) (x5 : Int32), (KA q4 = 5 ∧ ok q4) → k21 x3 q4 x5 = some w → GX X b KA lnA MA 6 0 0 N sz 21 [(0, .ref (b + p0)), (1, .int a1), (2, .int a2), (3, .int x3), (4, .ref (b + q4)), (5, .int x5)] [] h r) (x3 : Int32) (q4 : Nat) (x5 : Int32) (t4 : KA q4 = 5 ∧ ok q4) (hF : fX0_ignoredHas_b57 h r p0 a1 a2 k2 k21 x3 q4 x5 = some w) : GX X b KA lnA MA 6 0 0 N sz 57 [(0, .ref (b + p0)), (1, .int a1), (2, .int a2), (3, .int x3), (4, .ref (b + q4)), (5, .int x5)] [] h r := by
  rw [fX0_ignoredHas_b57] at hF
  refine g_iinc (L' := [(5, .int (x5 + 1)), (0, .ref (b + p0)), (1, .int a1), (2, .int a2), (3, .int x3), (4, .ref (b + q4))]) (j := 5) hX dX0_ignoredHas_57 rfl rfl (by decide) rfl ?_
  refine g_goto (tgt := 21) hX dX0_ignoredHas_60 (by decide) ?_
  refine g_sub (L' := [(0, .ref (b + p0)), (1, .int a1), (2, .int a2), (3, .int x3), (4, .ref (b + q4)), (5, .int (x5 + 1))]) [1, 2, 3, 4, 5, 0] rfl ?_
  exact hk21 x3 q4 (x5 + 1) t4 hF
set_option maxRecDepth 100000 in
set_option maxHeartbeats 4000000 in
theorem kX0_ignoredHas_b21 {X : XT} {b N sz : Nat} {ok : Nat → Prop} {h : HH} {r : RR} {w : Int32} (hX : XOK X RX0 cX0_ignoredHas 6 2) (hM : N ≤ MA) (hW : WT KA lnA ok N r) (hA : ∀ p, KA p < 16 → ok p) (p0 : Nat) (a1 : Int32) (a2 : Int32) (t0 : KA p0 = 0 ∧ ok p0) (hR : XR X b KA lnA MA (some FieldType.boolean) 0 0 N sz (some (.int w)) h r) (k2 : Int32 → Option (Int32)) (hk2 : ∀ (x3 : Int32), k2 x3 = some w → GX X b KA lnA MA 6 0 0 N sz 2 [(0, .ref (b + p0)), (1, .int a1), (2, .int a2), (3, .int x3)] [] h r) : ∀ (n : Nat) (x3 : Int32) (q4 : Nat) (x5 : Int32), (KA q4 = 5 ∧ ok q4) → fX0_ignoredHas_b21 h r p0 a1 a2 k2 n x3 q4 x5 = some w → GX X b KA lnA MA 6 0 0 N sz 21 [(0, .ref (b + p0)), (1, .int a1), (2, .int a2), (3, .int x3), (4, .ref (b + q4)), (5, .int x5)] [] h r := by
  intro n
  induction n with
  | zero =>
    intro x3 q4 x5 t4 hF
    cases hF
  | succ n ih =>
    intro x3 q4 x5 t4 hF
    rw [fX0_ignoredHas_b21] at hF
    refine g_iload hX dX0_ignoredHas_21 (j := 5) rfl ?_
    refine g_aload_n hX dX0_ignoredHas_23 (i := 0) rfl (j := 0) rfl ?_
    obtain ⟨q_24, w24, z24, hF⟩ := gwd_some hF
    have tw24 := ty_w hA z24
    refine gw_X0_44 hX dX0_ignoredHas_24 (ty1 hW t0) w24 (hW.1 _ tw24.2).1 ?_
    refine gf_X0_86 hX dX0_ignoredHas_27 (ty1 hW tw24) ?_
    refine g_icmp_ge (tgt := 63) hX dX0_ignoredHas_30 (by decide) (fun c30 => ?_) (fun c30 => ?_)
    · have hF := ite_t hF c30
      refine g_iinc (L' := [(3, .int (x3 + 1)), (0, .ref (b + p0)), (1, .int a1), (2, .int a2), (4, .ref (b + q4)), (5, .int x5)]) (j := 3) hX dX0_ignoredHas_63 rfl rfl (by decide) rfl ?_
      refine g_goto (tgt := 2) hX dX0_ignoredHas_66 (by decide) ?_
      refine g_sub (L' := [(0, .ref (b + p0)), (1, .int a1), (2, .int a2), (3, .int (x3 + 1))]) [1, 2, 3, 0] rfl ?_
      exact hk2 (x3 + 1) hF
    · have hF := ite_f hF c30
      refine g_aload_n hX dX0_ignoredHas_33 (i := 0) rfl (j := 0) rfl ?_
      have tf34 := (tyF (k := 1) hW t0 (by decide) rfl (by decide) : KA (r p0 1) = 10 ∧ ok (r p0 1))
      refine gf_X0_9 hX dX0_ignoredHas_34 (ty1 hW t0) (hW.1 _ tf34.2).1 ?_
      refine g_iload hX dX0_ignoredHas_37 (j := 5) rfl ?_
      obtain ⟨g39, hF⟩ := gd_some hF
      refine g_bald hX dX0_ignoredHas_39 tf34.1 (hW.1 _ tf34.2).1 (hW.1 _ tf34.2).2 g39 ?_
      refine g_if_eq (tgt := 57) hX dX0_ignoredHas_40 (by decide) (fun c40 => ?_) (fun c40 => ?_)
      · have hF := ite_t hF c40
        refine g_sub (L' := [(0, .ref (b + p0)), (1, .int a1), (2, .int a2), (3, .int x3), (4, .ref (b + q4)), (5, .int x5)]) [0, 1, 2, 3, 4, 5] rfl ?_
        exact kX0_ignoredHas_b57 hX hM hW hA p0 a1 a2 t0 hR k2 hk2 (fun z3_ z4_ z5_ => fX0_ignoredHas_b21 h r p0 a1 a2 k2 n z3_ z4_ z5_) ih x3 q4 x5 t4 hF
      · have hF := ite_f hF c40
        refine g_aload hX dX0_ignoredHas_43 (j := 4) rfl ?_
        refine g_iload hX dX0_ignoredHas_45 (j := 5) rfl ?_
        refine g_iload_n hX dX0_ignoredHas_47 (i := 1) rfl (j := 1) rfl ?_
        refine g_iload_n hX dX0_ignoredHas_48 (i := 2) rfl (j := 2) rfl ?_
        obtain ⟨v49, e49, hF⟩ := bi_some hF
        refine g_callV (As := [.int x5, .int a1, .int a2]) (rest := []) (stk := [.int v49]) hX dX0_ignoredHas_49 (ctX5_isAt hM hW q4 x5 a1 a2 t4 e49) (by decide) (by decide) wm_X0_151 wi_X5_isAt ws_X5_isAt wz_X5 wc_X5_isAt hyX5_isAt rfl (ci := 5) rfl (by decide) t4.1 (hW.1 _ t4.2).1 (hW.1 _ t4.2).2 (Nat.le_of_ble_eq_true rfl) rfl rfl ?_ rfl rfl
        refine g_if_eq (tgt := 57) hX dX0_ignoredHas_52 (by decide) (fun c52 => ?_) (fun c52 => ?_)
        · have hF := ite_t hF c52
          refine g_sub (L' := [(0, .ref (b + p0)), (1, .int a1), (2, .int a2), (3, .int x3), (4, .ref (b + q4)), (5, .int x5)]) [0, 1, 2, 3, 4, 5] rfl ?_
          exact kX0_ignoredHas_b57 hX hM hW hA p0 a1 a2 t0 hR k2 hk2 (fun z3_ z4_ z5_ => fX0_ignoredHas_b21 h r p0 a1 a2 k2 n z3_ z4_ z5_) ih x3 q4 x5 t4 hF
        · have hF := ite_f hF c52
          refine g_iconst (v := 1) hX dX0_ignoredHas_55 (by decide) ?_
          obtain rfl := Option.some.inj hF
          exact g_zret hX dX0_ignoredHas_56 (by decide) hR
set_option maxRecDepth 100000 in
set_option maxHeartbeats 4000000 in
theorem kX0_ignoredHas_b2 {X : XT} {b N sz : Nat} {ok : Nat → Prop} {h : HH} {r : RR} {w : Int32} (hX : XOK X RX0 cX0_ignoredHas 6 2) (hM : N ≤ MA) (hW : WT KA lnA ok N r) (hA : ∀ p, KA p < 16 → ok p) (p0 : Nat) (a1 : Int32) (a2 : Int32) (t0 : KA p0 = 0 ∧ ok p0) (hR : XR X b KA lnA MA (some FieldType.boolean) 0 0 N sz (some (.int w)) h r) : ∀ (n : Nat) (x3 : Int32), fX0_ignoredHas_b2 h r p0 a1 a2 n x3 = some w → GX X b KA lnA MA 6 0 0 N sz 2 [(0, .ref (b + p0)), (1, .int a1), (2, .int a2), (3, .int x3)] [] h r := by
  intro n
  induction n with
  | zero =>
    intro x3 hF
    cases hF
  | succ n ih =>
    intro x3 hF
    rw [fX0_ignoredHas_b2] at hF
    refine g_iload_n hX dX0_ignoredHas_2 (i := 3) rfl (j := 3) rfl ?_
    refine g_iconst (v := 3) hX dX0_ignoredHas_3 (by decide) ?_
    refine g_icmp_ge (tgt := 69) hX dX0_ignoredHas_4 (by decide) (fun c4 => ?_) (fun c4 => ?_)
    · have hF := ite_t hF c4
      refine g_iconst (v := 0) hX dX0_ignoredHas_69 (by decide) ?_
      obtain rfl := Option.some.inj hF
      exact g_zret hX dX0_ignoredHas_70 (by decide) hR
    · have hF := ite_f hF c4
      refine g_aload_n hX dX0_ignoredHas_7 (i := 0) rfl (j := 0) rfl ?_
      obtain ⟨q_8, w8, z8, hF⟩ := gwd_some hF
      have tw8 := ty_w hA z8
      refine gw_X0_44 hX dX0_ignoredHas_8 (ty1 hW t0) w8 (hW.1 _ tw8.2).1 ?_
      have tf11 := (tyF (k := 2) hW tw8 (by decide) rfl (by decide) : KA (r q_8 2) = 13 ∧ ok (r q_8 2))
      refine gf_X0_57 hX dX0_ignoredHas_11 (ty1 hW tw8) (hW.1 _ tf11.2).1 ?_
      refine g_iload_n hX dX0_ignoredHas_14 (i := 3) rfl (j := 3) rfl ?_
      obtain ⟨g15, hF⟩ := gd_some hF
      have ta15 : KA (r (r q_8 2) (ix x3)) = 5 ∧ ok (r (r q_8 2) (ix x3)) := tyA hW tf11 (by decide) rfl (by decide) g15
      refine g_aald hX dX0_ignoredHas_15 tf11.1 (by decide) (by decide) (hW.1 _ tf11.2).1 (hW.1 _ tf11.2).2 g15 (hW.1 _ ta15.2).1 ?_
      refine g_astore (L' := [(4, .ref (b + (r (r q_8 2) (ix x3)))), (0, .ref (b + p0)), (1, .int a1), (2, .int a2), (3, .int x3)]) hX dX0_ignoredHas_16 (by decide) rfl ?_
      refine g_iconst (v := 0) hX dX0_ignoredHas_18 (by decide) ?_
      refine g_istore (L' := [(5, .int 0), (4, .ref (b + (r (r q_8 2) (ix x3)))), (0, .ref (b + p0)), (1, .int a1), (2, .int a2), (3, .int x3)]) hX dX0_ignoredHas_19 (by decide) rfl ?_
      refine g_sub (L' := [(0, .ref (b + p0)), (1, .int a1), (2, .int a2), (3, .int x3), (4, .ref (b + (r (r q_8 2) (ix x3)))), (5, .int 0)]) [2, 3, 4, 5, 1, 0] rfl ?_
      exact kX0_ignoredHas_b21 hX hM hW hA p0 a1 a2 t0 hR (fun z3_ => fX0_ignoredHas_b2 h r p0 a1 a2 n z3_) ih lpF x3 (r (r q_8 2) (ix x3)) 0 ta15 hF
set_option maxRecDepth 100000 in
set_option maxHeartbeats 4000000 in
theorem kX0_ignoredHas {X : XT} {b N sz : Nat} {ok : Nat → Prop} {h : HH} {r : RR} {w : Int32} (hX : XOK X RX0 cX0_ignoredHas 6 2) (hM : N ≤ MA) (hW : WT KA lnA ok N r) (hA : ∀ p, KA p < 16 → ok p) (p0 : Nat) (a1 : Int32) (a2 : Int32) (t0 : KA p0 = 0 ∧ ok p0) (hR : XR X b KA lnA MA (some FieldType.boolean) 0 0 N sz (some (.int w)) h r) (hF : fX0_ignoredHas h r p0 a1 a2 = some w) : GX X b KA lnA MA 6 0 0 N sz 0 [(0, .ref (b + p0)), (1, .int a1), (2, .int a2)] [] h r := by
  rw [fX0_ignoredHas] at hF
  refine g_iconst (v := 0) hX dX0_ignoredHas_0 (by decide) ?_
  refine g_istore_n (L' := [(3, .int 0), (0, .ref (b + p0)), (1, .int a1), (2, .int a2)]) hX dX0_ignoredHas_1 (i := 3) rfl (by decide) rfl ?_
  refine g_sub (L' := [(0, .ref (b + p0)), (1, .int a1), (2, .int a2), (3, .int 0)]) [1, 2, 3, 0] rfl ?_
  exact kX0_ignoredHas_b2 hX hM hW hA p0 a1 a2 t0 hR lpF 0 hF
theorem ctX0_ignoredHas {b N sz : Nat} {ok : Nat → Prop} {h : HH} {r : RR} {w : Int32} (hM : N ≤ MA) (hW : WT KA lnA ok N r) (hA : ∀ p, KA p < 16 → ok p) (p0 : Nat) (a1 : Int32) (a2 : Int32) (t0 : KA p0 = 0 ∧ ok p0) (hF : fX0_ignoredHas h r p0 a1 a2 = some w) : CT yX0_ignoredHas cX0_ignoredHas 6 (some FieldType.boolean) 2 b KA lnA MA N sz [.ref (b + p0), .int a1, .int a2] h r N sz (some (.int w)) h r 0 0 :=
  CT_of (by decide) rfl (Nat.le_of_ble_eq_true rfl) (by decide) trivial (fun X hX hR => kX0_ignoredHas hX hM hW hA p0 a1 a2 t0 hR hF)
/-! X0_leastFreeName -/
def fX0_leastFreeName_b30 (h : HH) (r : RR) (p0 : Nat) (a1 : Int32) (k2 : Int32 → Option (Int32)) (x2 : Int32) : Option (Int32) := k2 (x2 + 1)
def fX0_leastFreeName_b2 (h : HH) (r : RR) (p0 : Nat) (a1 : Int32) : Nat → Int32 → Option (Int32)
  | 0, _ => none
  | n + 1, x2 => if 120 ≤ x2 then (some (x2)) else ((fX5_standing h r (r p0 3) a1 x2).bind (fun v14 => if ¬ v14 = (-1) then (fX0_leastFreeName_b30 h r p0 a1 (fun z2_ => fX0_leastFreeName_b2 h r p0 a1 n z2_) x2) else ((fX0_ignoredHas h r p0 a1 x2).bind (fun v24 => if v24 = 0 then (some (x2)) else (fX0_leastFreeName_b30 h r p0 a1 (fun z2_ => fX0_leastFreeName_b2 h r p0 a1 n z2_) x2)))))
def fX0_leastFreeName (h : HH) (r : RR) (p0 : Nat) (a1 : Int32) : Option (Int32) := fX0_leastFreeName_b2 h r p0 a1 lpF 0
set_option maxRecDepth 100000 in
set_option maxHeartbeats 4000000 in
theorem kX0_leastFreeName_b30 {X : XT} {b N sz : Nat} {ok : Nat → Prop} {h : HH} {r : RR} {w : Int32} (hX : XOK X RX0 cX0_leastFreeName 3 3) (hM : N ≤ MA) (hW : WT KA lnA ok N r) (hA : ∀ p, KA p < 16 → ok p) (p0 : Nat) (a1 : Int32) (t0 : KA p0 = 0 ∧ ok p0) (hR : XR X b KA lnA MA (some FieldType.int) 0 0 N sz (some (.int w)) h r) (k2 : Int32 → Option (Int32)) (hk2 : ∀ (x2 : Int32), k2 x2 = some w → GX X b KA lnA MA 3 0 0 N sz 2 [(0, .ref (b + p0)), (1, .int a1), (2, .int x2)] [] h r) (x2 : Int32) (hF : fX0_leastFreeName_b30 h r p0 a1 k2 x2 = some w) : GX X b KA lnA MA 3 0 0 N sz 30 [(0, .ref (b + p0)), (1, .int a1), (2, .int x2)] [] h r := by
  rw [fX0_leastFreeName_b30] at hF
  refine g_iinc (L' := [(2, .int (x2 + 1)), (0, .ref (b + p0)), (1, .int a1)]) (j := 2) hX dX0_leastFreeName_30 rfl rfl (by decide) rfl ?_
  refine g_goto (tgt := 2) hX dX0_leastFreeName_33 (by decide) ?_
  refine g_sub (L' := [(0, .ref (b + p0)), (1, .int a1), (2, .int (x2 + 1))]) [1, 2, 0] rfl ?_
  exact hk2 (x2 + 1) hF
set_option maxRecDepth 100000 in
set_option maxHeartbeats 4000000 in
theorem kX0_leastFreeName_b2 {X : XT} {b N sz : Nat} {ok : Nat → Prop} {h : HH} {r : RR} {w : Int32} (hX : XOK X RX0 cX0_leastFreeName 3 3) (hM : N ≤ MA) (hW : WT KA lnA ok N r) (hA : ∀ p, KA p < 16 → ok p) (p0 : Nat) (a1 : Int32) (t0 : KA p0 = 0 ∧ ok p0) (hR : XR X b KA lnA MA (some FieldType.int) 0 0 N sz (some (.int w)) h r) : ∀ (n : Nat) (x2 : Int32), fX0_leastFreeName_b2 h r p0 a1 n x2 = some w → GX X b KA lnA MA 3 0 0 N sz 2 [(0, .ref (b + p0)), (1, .int a1), (2, .int x2)] [] h r := by
  intro n
  induction n with
  | zero =>
    intro x2 hF
    cases hF
  | succ n ih =>
    intro x2 hF
    rw [fX0_leastFreeName_b2] at hF
    refine g_iload_n hX dX0_leastFreeName_2 (i := 2) rfl (j := 2) rfl ?_
    refine g_bipush (v := 120) hX dX0_leastFreeName_3 (by decide) ?_
    refine g_icmp_ge (tgt := 36) hX dX0_leastFreeName_5 (by decide) (fun c5 => ?_) (fun c5 => ?_)
    · have hF := ite_t hF c5
      refine g_iload_n hX dX0_leastFreeName_36 (i := 2) rfl (j := 2) rfl ?_
      obtain rfl := Option.some.inj hF
      exact g_iret hX dX0_leastFreeName_37 hR
    · have hF := ite_f hF c5
      refine g_aload_n hX dX0_leastFreeName_8 (i := 0) rfl (j := 0) rfl ?_
      have tf9 := (tyF (k := 3) hW t0 (by decide) rfl (by decide) : KA (r p0 3) = 5 ∧ ok (r p0 3))
      refine gf_X0_23 hX dX0_leastFreeName_9 (ty1 hW t0) (hW.1 _ tf9.2).1 ?_
      refine g_iload_n hX dX0_leastFreeName_12 (i := 1) rfl (j := 1) rfl ?_
      refine g_iload_n hX dX0_leastFreeName_13 (i := 2) rfl (j := 2) rfl ?_
      obtain ⟨v14, e14, hF⟩ := bi_some hF
      refine g_callV (As := [.int a1, .int x2]) (rest := []) (stk := [.int v14]) hX dX0_leastFreeName_14 (ctX5_standing hM hW (r p0 3) a1 x2 tf9 e14) (by decide) (by decide) wm_X0_140 wi_X5_standing ws_X5_standing wz_X5 wc_X5_standing hyX5_standing rfl (ci := 5) rfl (by decide) tf9.1 (hW.1 _ tf9.2).1 (hW.1 _ tf9.2).2 (Nat.le_of_ble_eq_true rfl) rfl rfl ?_ rfl rfl
      refine g_iconst (v := (-1)) hX dX0_leastFreeName_17 (by decide) ?_
      refine g_icmp_ne (tgt := 30) hX dX0_leastFreeName_18 (by decide) (fun c18 => ?_) (fun c18 => ?_)
      · have hF := ite_t hF c18
        refine g_sub (L' := [(0, .ref (b + p0)), (1, .int a1), (2, .int x2)]) [0, 1, 2] rfl ?_
        exact kX0_leastFreeName_b30 hX hM hW hA p0 a1 t0 hR (fun z2_ => fX0_leastFreeName_b2 h r p0 a1 n z2_) ih x2 hF
      · have hF := ite_f hF (fun z => z c18)
        refine g_aload_n hX dX0_leastFreeName_21 (i := 0) rfl (j := 0) rfl ?_
        refine g_iload_n hX dX0_leastFreeName_22 (i := 1) rfl (j := 1) rfl ?_
        refine g_iload_n hX dX0_leastFreeName_23 (i := 2) rfl (j := 2) rfl ?_
        obtain ⟨v24, e24, hF⟩ := bi_some hF
        refine g_callV (As := [.int a1, .int x2]) (rest := []) (stk := [.int v24]) hX dX0_leastFreeName_24 (ctX0_ignoredHas hM hW hA p0 a1 x2 t0 e24) (by decide) (by decide) wm_X0_144 wi_X0_ignoredHas ws_X0_ignoredHas wz_X0 wc_X0_ignoredHas hyX0_ignoredHas rfl (ci := 0) rfl (by decide) t0.1 (hW.1 _ t0.2).1 (hW.1 _ t0.2).2 (Nat.le_of_ble_eq_true rfl) rfl rfl ?_ rfl rfl
        refine g_if_eq (tgt := 36) hX dX0_leastFreeName_27 (by decide) (fun c27 => ?_) (fun c27 => ?_)
        · have hF := ite_t hF c27
          refine g_iload_n hX dX0_leastFreeName_36 (i := 2) rfl (j := 2) rfl ?_
          obtain rfl := Option.some.inj hF
          exact g_iret hX dX0_leastFreeName_37 hR
        · have hF := ite_f hF c27
          refine g_sub (L' := [(0, .ref (b + p0)), (1, .int a1), (2, .int x2)]) [0, 1, 2] rfl ?_
          exact kX0_leastFreeName_b30 hX hM hW hA p0 a1 t0 hR (fun z2_ => fX0_leastFreeName_b2 h r p0 a1 n z2_) ih x2 hF
set_option maxRecDepth 100000 in
set_option maxHeartbeats 4000000 in
theorem kX0_leastFreeName {X : XT} {b N sz : Nat} {ok : Nat → Prop} {h : HH} {r : RR} {w : Int32} (hX : XOK X RX0 cX0_leastFreeName 3 3) (hM : N ≤ MA) (hW : WT KA lnA ok N r) (hA : ∀ p, KA p < 16 → ok p) (p0 : Nat) (a1 : Int32) (t0 : KA p0 = 0 ∧ ok p0) (hR : XR X b KA lnA MA (some FieldType.int) 0 0 N sz (some (.int w)) h r) (hF : fX0_leastFreeName h r p0 a1 = some w) : GX X b KA lnA MA 3 0 0 N sz 0 [(0, .ref (b + p0)), (1, .int a1)] [] h r := by
  rw [fX0_leastFreeName] at hF
  refine g_iconst (v := 0) hX dX0_leastFreeName_0 (by decide) ?_
  refine g_istore_n (L' := [(2, .int 0), (0, .ref (b + p0)), (1, .int a1)]) hX dX0_leastFreeName_1 (i := 2) rfl (by decide) rfl ?_
  refine g_sub (L' := [(0, .ref (b + p0)), (1, .int a1), (2, .int 0)]) [1, 2, 0] rfl ?_
  exact kX0_leastFreeName_b2 hX hM hW hA p0 a1 t0 hR lpF 0 hF
theorem ctX0_leastFreeName {b N sz : Nat} {ok : Nat → Prop} {h : HH} {r : RR} {w : Int32} (hM : N ≤ MA) (hW : WT KA lnA ok N r) (hA : ∀ p, KA p < 16 → ok p) (p0 : Nat) (a1 : Int32) (t0 : KA p0 = 0 ∧ ok p0) (hF : fX0_leastFreeName h r p0 a1 = some w) : CT yX0_leastFreeName cX0_leastFreeName 3 (some FieldType.int) 3 b KA lnA MA N sz [.ref (b + p0), .int a1] h r N sz (some (.int w)) h r 0 0 :=
  CT_of (by decide) rfl (Nat.le_of_ble_eq_true rfl) (by decide) trivial (fun X hX hR => kX0_leastFreeName hX hM hW hA p0 a1 t0 hR hF)
/-! X0_mendNames -/
def fX0_mendNames_b86 (r : RR) (p0 : Nat) (k2 : HH → Int32 → Option (HH)) (h : HH) (x1 : Int32) : Option (HH) := k2 h (x1 + 1)
def fX0_mendNames_b66 (r : RR) (p0 : Nat) (k2 : HH → Int32 → Option (HH)) (h : HH) (x1 : Int32) (x2 : Int32) : Option (HH) := (fX0_leastFreeName h r p0 x2).bind (fun v76 => gd (inb x1 (lnA (r (r p0 3) 2))) (lt (up h (r (r p0 3) 2) (ix x1) v76) (fun h79 => (fX0_addClash h79 r p0 3 x1).bind (fun h83 => fX0_mendNames_b86 r p0 k2 h83 x1))))
def fX0_mendNames_b2 (r : RR) (p0 : Nat) : Nat → HH → Int32 → Option (HH)
  | 0, _, _ => none
  | n + 1, h, x1 => if (h p0 4) ≤ x1 then (some h) else ((fX5_has h r (r p0 3) x1).bind (fun v15 => if ¬ v15 = 0 then (gd (inb x1 (lnA (r (r p0 3) 1))) (lt (h (r (r p0 3) 1) (ix x1)) (fun y33 => gd (inb x1 (lnA (r (r p0 3) 2))) (lt (h (r (r p0 3) 2) (ix x1)) (fun y43 => (fX5_standing h r (r p0 3) y33 y43).bind (fun v50 => if v50 < x1 then (fX0_mendNames_b66 r p0 (fun h_ z1_ => fX0_mendNames_b2 r p0 n h_ z1_) h x1 y33) else ((fX0_ignoredHas h r p0 y33 y43).bind (fun v60 => if v60 = 0 then (fX0_mendNames_b86 r p0 (fun h_ z1_ => fX0_mendNames_b2 r p0 n h_ z1_) h x1) else (fX0_mendNames_b66 r p0 (fun h_ z1_ => fX0_mendNames_b2 r p0 n h_ z1_) h x1 y33))))))))) else (fX0_mendNames_b86 r p0 (fun h_ z1_ => fX0_mendNames_b2 r p0 n h_ z1_) h x1)))
def fX0_mendNames (h : HH) (r : RR) (p0 : Nat) : Option (HH) := fX0_mendNames_b2 r p0 lpF h 0
set_option maxRecDepth 100000 in
set_option maxHeartbeats 4000000 in
theorem kX0_mendNames_b86 {X : XT} {b N sz : Nat} {ok : Nat → Prop} {r : RR} {w : HH} (hX : XOK X RX0 cX0_mendNames 4 4) (hM : N ≤ MA) (hW : WT KA lnA ok N r) (hA : ∀ p, KA p < 16 → ok p) (p0 : Nat) (t0 : KA p0 = 0 ∧ ok p0) (hR : XR X b KA lnA MA (none) 0 0 N sz none w r) (k2 : HH → Int32 → Option (HH)) (hk2 : ∀ (h : HH) (x1 : Int32), k2 h x1 = some w → GX X b KA lnA MA 4 0 0 N sz 2 [(0, .ref (b + p0)), (1, .int x1)] [] h r) (h : HH) (x1 : Int32) (hF : fX0_mendNames_b86 r p0 k2 h x1 = some w) : GX X b KA lnA MA 4 0 0 N sz 86 [(0, .ref (b + p0)), (1, .int x1)] [] h r := by
  rw [fX0_mendNames_b86] at hF
  refine g_iinc (L' := [(1, .int (x1 + 1)), (0, .ref (b + p0))]) (j := 1) hX dX0_mendNames_86 rfl rfl (by decide) rfl ?_
  refine g_goto (tgt := 2) hX dX0_mendNames_89 (by decide) ?_
  refine g_sub (L' := [(0, .ref (b + p0)), (1, .int (x1 + 1))]) [1, 0] rfl ?_
  exact hk2 h (x1 + 1) hF
set_option maxRecDepth 100000 in
set_option maxHeartbeats 4000000 in
theorem kX0_mendNames_b66 {X : XT} {b N sz : Nat} {ok : Nat → Prop} {r : RR} {w : HH} (hX : XOK X RX0 cX0_mendNames 4 4) (hM : N ≤ MA) (hW : WT KA lnA ok N r) (hA : ∀ p, KA p < 16 → ok p) (p0 : Nat) (t0 : KA p0 = 0 ∧ ok p0) (hR : XR X b KA lnA MA (none) 0 0 N sz none w r) (k2 : HH → Int32 → Option (HH)) (hk2 : ∀ (h : HH) (x1 : Int32), k2 h x1 = some w → GX X b KA lnA MA 4 0 0 N sz 2 [(0, .ref (b + p0)), (1, .int x1)] [] h r) (h : HH) (x1 : Int32) (x2 : Int32) (hF : fX0_mendNames_b66 r p0 k2 h x1 x2 = some w) : GX X b KA lnA MA 4 0 0 N sz 66 [(0, .ref (b + p0)), (1, .int x1), (2, .int x2)] [] h r := by
  rw [fX0_mendNames_b66] at hF
  refine g_aload_n hX dX0_mendNames_66 (i := 0) rfl (j := 0) rfl ?_
  have tf67 := (tyF (k := 3) hW t0 (by decide) rfl (by decide) : KA (r p0 3) = 5 ∧ ok (r p0 3))
  refine gf_X0_23 hX dX0_mendNames_67 (ty1 hW t0) (hW.1 _ tf67.2).1 ?_
  have tf70 := (tyF (k := 2) hW tf67 (by decide) rfl (by decide) : KA (r (r p0 3) 2) = 9 ∧ ok (r (r p0 3) 2))
  refine gf_X0_123 hX dX0_mendNames_70 (ty1 hW tf67) (hW.1 _ tf70.2).1 ?_
  refine g_iload_n hX dX0_mendNames_73 (i := 1) rfl (j := 1) rfl ?_
  refine g_aload_n hX dX0_mendNames_74 (i := 0) rfl (j := 0) rfl ?_
  refine g_iload_n hX dX0_mendNames_75 (i := 2) rfl (j := 2) rfl ?_
  obtain ⟨v76, e76, hF⟩ := bi_some hF
  refine g_callV (As := [.int x2]) (rest := [.int x1, .ref (b + (r (r p0 3) 2))]) (stk := [.int v76, .int x1, .ref (b + (r (r p0 3) 2))]) hX dX0_mendNames_76 (ctX0_leastFreeName hM hW hA p0 x2 t0 e76) (by decide) (by decide) wm_X0_147 wi_X0_leastFreeName ws_X0_leastFreeName wz_X0 wc_X0_leastFreeName hyX0_leastFreeName rfl (ci := 0) rfl (by decide) t0.1 (hW.1 _ t0.2).1 (hW.1 _ t0.2).2 (Nat.le_of_ble_eq_true rfl) rfl rfl ?_ rfl rfl
  obtain ⟨g79, hF⟩ := gd_some hF
  obtain ⟨h79, e79, hF⟩ := lt_some hF
  refine g_iast hX dX0_mendNames_79 tf70.1 (hW.1 _ tf70.2).1 (hW.1 _ tf70.2).2 hM g79 e79 ?_
  refine g_aload_n hX dX0_mendNames_80 (i := 0) rfl (j := 0) rfl ?_
  refine g_iconst (v := 3) hX dX0_mendNames_81 (by decide) ?_
  refine g_iload_n hX dX0_mendNames_82 (i := 1) rfl (j := 1) rfl ?_
  obtain ⟨h83, e83, hF⟩ := bi_some hF
  refine g_callV (As := [.int 3, .int x1]) (rest := []) (stk := []) hX dX0_mendNames_83 (ctX0_addClash hM hW p0 3 x1 t0 e83) (by decide) (by decide) wm_X0_108 wi_X0_addClash ws_X0_addClash wz_X0 wc_X0_addClash hyX0_addClash rfl (ci := 0) rfl (by decide) t0.1 (hW.1 _ t0.2).1 (hW.1 _ t0.2).2 (Nat.le_of_ble_eq_true rfl) rfl rfl ?_ rfl rfl
  refine g_sub (L' := [(0, .ref (b + p0)), (1, .int x1)]) [0, 1] rfl ?_
  exact kX0_mendNames_b86 hX hM hW hA p0 t0 hR k2 hk2 h83 x1 hF
set_option maxRecDepth 100000 in
set_option maxHeartbeats 4000000 in
theorem kX0_mendNames_b2 {X : XT} {b N sz : Nat} {ok : Nat → Prop} {r : RR} {w : HH} (hX : XOK X RX0 cX0_mendNames 4 4) (hM : N ≤ MA) (hW : WT KA lnA ok N r) (hA : ∀ p, KA p < 16 → ok p) (p0 : Nat) (t0 : KA p0 = 0 ∧ ok p0) (hR : XR X b KA lnA MA (none) 0 0 N sz none w r) : ∀ (n : Nat) (h : HH) (x1 : Int32), fX0_mendNames_b2 r p0 n h x1 = some w → GX X b KA lnA MA 4 0 0 N sz 2 [(0, .ref (b + p0)), (1, .int x1)] [] h r := by
  intro n
  induction n with
  | zero =>
    intro h x1 hF
    cases hF
  | succ n ih =>
    intro h x1 hF
    rw [fX0_mendNames_b2] at hF
    refine g_iload_n hX dX0_mendNames_2 (i := 1) rfl (j := 1) rfl ?_
    refine g_aload_n hX dX0_mendNames_3 (i := 0) rfl (j := 0) rfl ?_
    refine gf_X0_27 hX dX0_mendNames_4 (ty1 hW t0) ?_
    refine g_icmp_ge (tgt := 92) hX dX0_mendNames_7 (by decide) (fun c7 => ?_) (fun c7 => ?_)
    · have hF := ite_t hF c7
      obtain rfl := Option.some.inj hF
      exact g_vret hX dX0_mendNames_92 hR
    · have hF := ite_f hF c7
      refine g_aload_n hX dX0_mendNames_10 (i := 0) rfl (j := 0) rfl ?_
      have tf11 := (tyF (k := 3) hW t0 (by decide) rfl (by decide) : KA (r p0 3) = 5 ∧ ok (r p0 3))
      refine gf_X0_23 hX dX0_mendNames_11 (ty1 hW t0) (hW.1 _ tf11.2).1 ?_
      refine g_iload_n hX dX0_mendNames_14 (i := 1) rfl (j := 1) rfl ?_
      obtain ⟨v15, e15, hF⟩ := bi_some hF
      refine g_callV (As := [.int x1]) (rest := []) (stk := [.int v15]) hX dX0_mendNames_15 (ctX5_has hM hW (r p0 3) x1 tf11 e15) (by decide) (by decide) wm_X0_72 wi_X5_has ws_X5_has wz_X5 wc_X5_has hyX5_has rfl (ci := 5) rfl (by decide) tf11.1 (hW.1 _ tf11.2).1 (hW.1 _ tf11.2).2 (Nat.le_of_ble_eq_true rfl) rfl rfl ?_ rfl rfl
      refine g_if_ne (tgt := 24) hX dX0_mendNames_18 (by decide) (fun c18 => ?_) (fun c18 => ?_)
      · have hF := ite_t hF c18
        refine g_aload_n hX dX0_mendNames_24 (i := 0) rfl (j := 0) rfl ?_
        have tf25 := (tyF (k := 3) hW t0 (by decide) rfl (by decide) : KA (r p0 3) = 5 ∧ ok (r p0 3))
        refine gf_X0_23 hX dX0_mendNames_25 (ty1 hW t0) (hW.1 _ tf25.2).1 ?_
        have tf28 := (tyF (k := 1) hW tf25 (by decide) rfl (by decide) : KA (r (r p0 3) 1) = 9 ∧ ok (r (r p0 3) 1))
        refine gf_X0_69 hX dX0_mendNames_28 (ty1 hW tf25) (hW.1 _ tf28.2).1 ?_
        refine g_iload_n hX dX0_mendNames_31 (i := 1) rfl (j := 1) rfl ?_
        obtain ⟨g32, hF⟩ := gd_some hF
        refine g_iald hX dX0_mendNames_32 tf28.1 (hW.1 _ tf28.2).1 (hW.1 _ tf28.2).2 g32 ?_
        obtain ⟨y33, e33, hF⟩ := lt_some hF
        refine g_topi e33 ?_
        refine g_istore_n (L' := [(2, .int y33), (0, .ref (b + p0)), (1, .int x1)]) hX dX0_mendNames_33 (i := 2) rfl (by decide) rfl ?_
        refine g_aload_n hX dX0_mendNames_34 (i := 0) rfl (j := 1) rfl ?_
        have tf35 := (tyF (k := 3) hW t0 (by decide) rfl (by decide) : KA (r p0 3) = 5 ∧ ok (r p0 3))
        refine gf_X0_23 hX dX0_mendNames_35 (ty1 hW t0) (hW.1 _ tf35.2).1 ?_
        have tf38 := (tyF (k := 2) hW tf35 (by decide) rfl (by decide) : KA (r (r p0 3) 2) = 9 ∧ ok (r (r p0 3) 2))
        refine gf_X0_123 hX dX0_mendNames_38 (ty1 hW tf35) (hW.1 _ tf38.2).1 ?_
        refine g_iload_n hX dX0_mendNames_41 (i := 1) rfl (j := 2) rfl ?_
        obtain ⟨g42, hF⟩ := gd_some hF
        refine g_iald hX dX0_mendNames_42 tf38.1 (hW.1 _ tf38.2).1 (hW.1 _ tf38.2).2 g42 ?_
        obtain ⟨y43, e43, hF⟩ := lt_some hF
        refine g_topi e43 ?_
        refine g_istore_n (L' := [(3, .int y43), (2, .int y33), (0, .ref (b + p0)), (1, .int x1)]) hX dX0_mendNames_43 (i := 3) rfl (by decide) rfl ?_
        refine g_aload_n hX dX0_mendNames_44 (i := 0) rfl (j := 2) rfl ?_
        have tf45 := (tyF (k := 3) hW t0 (by decide) rfl (by decide) : KA (r p0 3) = 5 ∧ ok (r p0 3))
        refine gf_X0_23 hX dX0_mendNames_45 (ty1 hW t0) (hW.1 _ tf45.2).1 ?_
        refine g_iload_n hX dX0_mendNames_48 (i := 2) rfl (j := 1) rfl ?_
        refine g_iload_n hX dX0_mendNames_49 (i := 3) rfl (j := 0) rfl ?_
        obtain ⟨v50, e50, hF⟩ := bi_some hF
        refine g_callV (As := [.int y33, .int y43]) (rest := []) (stk := [.int v50]) hX dX0_mendNames_50 (ctX5_standing hM hW (r p0 3) y33 y43 tf45 e50) (by decide) (by decide) wm_X0_140 wi_X5_standing ws_X5_standing wz_X5 wc_X5_standing hyX5_standing rfl (ci := 5) rfl (by decide) tf45.1 (hW.1 _ tf45.2).1 (hW.1 _ tf45.2).2 (Nat.le_of_ble_eq_true rfl) rfl rfl ?_ rfl rfl
        refine g_iload_n hX dX0_mendNames_53 (i := 1) rfl (j := 3) rfl ?_
        refine g_icmp_lt (tgt := 66) hX dX0_mendNames_54 (by decide) (fun c54 => ?_) (fun c54 => ?_)
        · have hF := ite_t hF c54
          refine g_sub (L' := [(0, .ref (b + p0)), (1, .int x1), (2, .int y33)]) [2, 3, 1] rfl ?_
          exact kX0_mendNames_b66 hX hM hW hA p0 t0 hR (fun h_ z1_ => fX0_mendNames_b2 r p0 n h_ z1_) ih h x1 y33 hF
        · have hF := ite_f hF c54
          refine g_aload_n hX dX0_mendNames_57 (i := 0) rfl (j := 2) rfl ?_
          refine g_iload_n hX dX0_mendNames_58 (i := 2) rfl (j := 1) rfl ?_
          refine g_iload_n hX dX0_mendNames_59 (i := 3) rfl (j := 0) rfl ?_
          obtain ⟨v60, e60, hF⟩ := bi_some hF
          refine g_callV (As := [.int y33, .int y43]) (rest := []) (stk := [.int v60]) hX dX0_mendNames_60 (ctX0_ignoredHas hM hW hA p0 y33 y43 t0 e60) (by decide) (by decide) wm_X0_144 wi_X0_ignoredHas ws_X0_ignoredHas wz_X0 wc_X0_ignoredHas hyX0_ignoredHas rfl (ci := 0) rfl (by decide) t0.1 (hW.1 _ t0.2).1 (hW.1 _ t0.2).2 (Nat.le_of_ble_eq_true rfl) rfl rfl ?_ rfl rfl
          refine g_if_eq (tgt := 86) hX dX0_mendNames_63 (by decide) (fun c63 => ?_) (fun c63 => ?_)
          · have hF := ite_t hF c63
            refine g_sub (L' := [(0, .ref (b + p0)), (1, .int x1)]) [2, 3] rfl ?_
            exact kX0_mendNames_b86 hX hM hW hA p0 t0 hR (fun h_ z1_ => fX0_mendNames_b2 r p0 n h_ z1_) ih h x1 hF
          · have hF := ite_f hF c63
            refine g_sub (L' := [(0, .ref (b + p0)), (1, .int x1), (2, .int y33)]) [2, 3, 1] rfl ?_
            exact kX0_mendNames_b66 hX hM hW hA p0 t0 hR (fun h_ z1_ => fX0_mendNames_b2 r p0 n h_ z1_) ih h x1 y33 hF
      · have hF := ite_f hF (fun z => z c18)
        refine g_goto (tgt := 86) hX dX0_mendNames_21 (by decide) ?_
        refine g_sub (L' := [(0, .ref (b + p0)), (1, .int x1)]) [0, 1] rfl ?_
        exact kX0_mendNames_b86 hX hM hW hA p0 t0 hR (fun h_ z1_ => fX0_mendNames_b2 r p0 n h_ z1_) ih h x1 hF
set_option maxRecDepth 100000 in
set_option maxHeartbeats 4000000 in
theorem kX0_mendNames {X : XT} {b N sz : Nat} {ok : Nat → Prop} {h : HH} {r : RR} {w : HH} (hX : XOK X RX0 cX0_mendNames 4 4) (hM : N ≤ MA) (hW : WT KA lnA ok N r) (hA : ∀ p, KA p < 16 → ok p) (p0 : Nat) (t0 : KA p0 = 0 ∧ ok p0) (hR : XR X b KA lnA MA (none) 0 0 N sz none w r) (hF : fX0_mendNames h r p0 = some w) : GX X b KA lnA MA 4 0 0 N sz 0 [(0, .ref (b + p0))] [] h r := by
  rw [fX0_mendNames] at hF
  refine g_iconst (v := 0) hX dX0_mendNames_0 (by decide) ?_
  refine g_istore_n (L' := [(1, .int 0), (0, .ref (b + p0))]) hX dX0_mendNames_1 (i := 1) rfl (by decide) rfl ?_
  refine g_sub (L' := [(0, .ref (b + p0)), (1, .int 0)]) [1, 0] rfl ?_
  exact kX0_mendNames_b2 hX hM hW hA p0 t0 hR lpF h 0 hF
theorem ctX0_mendNames {b N sz : Nat} {ok : Nat → Prop} {h : HH} {r : RR} {w : HH} (hM : N ≤ MA) (hW : WT KA lnA ok N r) (hA : ∀ p, KA p < 16 → ok p) (p0 : Nat) (t0 : KA p0 = 0 ∧ ok p0) (hF : fX0_mendNames h r p0 = some w) : CT yX0_mendNames cX0_mendNames 4 (none) 4 b KA lnA MA N sz [.ref (b + p0)] h r N sz none w r 0 0 :=
  CT_of (by decide) rfl (Nat.le_of_ble_eq_true rfl) (by decide) trivial (fun X hX hR => kX0_mendNames hX hM hW hA p0 t0 hR hF)
/-! X0_settle -/
def fX0_settle (h : HH) (r : RR) (p0 : Nat) (p1 : Nat) (a2 : Int32) : Option (HH) := (fX0_compare h r p0 p1).bind (fun h2 => lt (up h2 p0 5 a2) (fun h7 => gwd (h7 p0 0) (fun q_12 => lt (up h7 p0 4 (h7 q_12 0)) (fun h18 => lt (up h18 p0 8 0) (fun h23 => (fX5_clear h23 r (r p0 3)).bind (fun h30 => (fX0_decideWho h30 r p0).bind (fun h34 => (fX0_decidePlaces h34 r p0).bind (fun h38 => (fX0_decideContents h38 r p0).bind (fun h42 => (fX0_mendRings h42 r p0).bind (fun h46 => (fX0_mendNames h46 r p0).bind (fun h50 => some h50)))))))))))
set_option maxRecDepth 100000 in
set_option maxHeartbeats 4000000 in
theorem kX0_settle {X : XT} {b N sz : Nat} {ok : Nat → Prop} {h : HH} {r : RR} {w : HH} (hX : XOK X RX0 cX0_settle 3 5) (hM : N ≤ MA) (hW : WT KA lnA ok N r) (hA : ∀ p, KA p < 16 → ok p) (p0 : Nat) (p1 : Nat) (a2 : Int32) (t0 : KA p0 = 0 ∧ ok p0) (t1 : KA p1 = 6 ∧ ok p1) (hR : XR X b KA lnA MA (none) 0 0 N sz none w r) (hF : fX0_settle h r p0 p1 a2 = some w) : GX X b KA lnA MA 3 0 0 N sz 0 [(0, .ref (b + p0)), (1, .ref (b + p1)), (2, .int a2)] [] h r := by
  rw [fX0_settle] at hF
  refine g_aload_n hX dX0_settle_0 (i := 0) rfl (j := 0) rfl ?_
  refine g_aload_n hX dX0_settle_1 (i := 1) rfl (j := 1) rfl ?_
  obtain ⟨h2, e2, hF⟩ := bi_some hF
  refine g_callV (As := [.ref (b + p1)]) (rest := []) (stk := []) hX dX0_settle_2 (ctX0_compare hM hW hA p0 p1 t0 t1 e2) (by decide) (by decide) wm_X0_82 wi_X0_compare ws_X0_compare wz_X0 wc_X0_compare hyX0_compare rfl (ci := 0) rfl (by decide) t0.1 (hW.1 _ t0.2).1 (hW.1 _ t0.2).2 (Nat.le_of_ble_eq_true rfl) rfl rfl ?_ rfl rfl
  refine g_aload_n hX dX0_settle_5 (i := 0) rfl (j := 0) rfl ?_
  refine g_iload_n hX dX0_settle_6 (i := 2) rfl (j := 2) rfl ?_
  obtain ⟨h7, e7, hF⟩ := lt_some hF
  refine pf_X0_31 hX dX0_settle_7 (ty1 hW t0) hM e7 ?_
  refine g_aload_n hX dX0_settle_10 (i := 0) rfl (j := 0) rfl ?_
  refine g_aload_n hX dX0_settle_11 (i := 0) rfl (j := 0) rfl ?_
  obtain ⟨q_12, w12, z12, hF⟩ := gwd_some hF
  have tw12 := ty_w hA z12
  refine gw_X0_44 hX dX0_settle_12 (ty1 hW t0) w12 (hW.1 _ tw12.2).1 ?_
  refine gf_X0_86 hX dX0_settle_15 (ty1 hW tw12) ?_
  obtain ⟨h18, e18, hF⟩ := lt_some hF
  refine pf_X0_27 hX dX0_settle_18 (ty1 hW t0) hM e18 ?_
  refine g_aload_n hX dX0_settle_21 (i := 0) rfl (j := 0) rfl ?_
  refine g_iconst (v := 0) hX dX0_settle_22 (by decide) ?_
  obtain ⟨h23, e23, hF⟩ := lt_some hF
  refine pf_X0_41 hX dX0_settle_23 (ty1 hW t0) hM e23 ?_
  refine g_aload_n hX dX0_settle_26 (i := 0) rfl (j := 0) rfl ?_
  have tf27 := (tyF (k := 3) hW t0 (by decide) rfl (by decide) : KA (r p0 3) = 5 ∧ ok (r p0 3))
  refine gf_X0_23 hX dX0_settle_27 (ty1 hW t0) (hW.1 _ tf27.2).1 ?_
  obtain ⟨h30, e30, hF⟩ := bi_some hF
  refine g_callV (As := []) (rest := []) (stk := []) hX dX0_settle_30 (ctX5_clear hM hW (r p0 3) tf27 e30) (by decide) (by decide) wm_X0_87 wi_X5_clear ws_X5_clear wz_X5 wc_X5_clear hyX5_clear rfl (ci := 5) rfl (by decide) tf27.1 (hW.1 _ tf27.2).1 (hW.1 _ tf27.2).2 (Nat.le_of_ble_eq_true rfl) rfl rfl ?_ rfl rfl
  refine g_aload_n hX dX0_settle_33 (i := 0) rfl (j := 0) rfl ?_
  obtain ⟨h34, e34, hF⟩ := bi_some hF
  refine g_callV (As := []) (rest := []) (stk := []) hX dX0_settle_34 (ctX0_decideWho hM hW hA p0 t0 e34) (by decide) (by decide) wm_X0_90 wi_X0_decideWho ws_X0_decideWho wz_X0 wc_X0_decideWho hyX0_decideWho rfl (ci := 0) rfl (by decide) t0.1 (hW.1 _ t0.2).1 (hW.1 _ t0.2).2 (Nat.le_of_ble_eq_true rfl) rfl rfl ?_ rfl rfl
  refine g_aload_n hX dX0_settle_37 (i := 0) rfl (j := 0) rfl ?_
  obtain ⟨h38, e38, hF⟩ := bi_some hF
  refine g_callV (As := []) (rest := []) (stk := []) hX dX0_settle_38 (ctX0_decidePlaces hM hW hA p0 t0 e38) (by decide) (by decide) wm_X0_93 wi_X0_decidePlaces ws_X0_decidePlaces wz_X0 wc_X0_decidePlaces hyX0_decidePlaces rfl (ci := 0) rfl (by decide) t0.1 (hW.1 _ t0.2).1 (hW.1 _ t0.2).2 (Nat.le_of_ble_eq_true rfl) rfl rfl ?_ rfl rfl
  refine g_aload_n hX dX0_settle_41 (i := 0) rfl (j := 0) rfl ?_
  obtain ⟨h42, e42, hF⟩ := bi_some hF
  refine g_callV (As := []) (rest := []) (stk := []) hX dX0_settle_42 (ctX0_decideContents hM hW hA p0 t0 e42) (by decide) (by decide) wm_X0_96 wi_X0_decideContents ws_X0_decideContents wz_X0 wc_X0_decideContents hyX0_decideContents rfl (ci := 0) rfl (by decide) t0.1 (hW.1 _ t0.2).1 (hW.1 _ t0.2).2 (Nat.le_of_ble_eq_true rfl) rfl rfl ?_ rfl rfl
  refine g_aload_n hX dX0_settle_45 (i := 0) rfl (j := 0) rfl ?_
  obtain ⟨h46, e46, hF⟩ := bi_some hF
  refine g_callV (As := []) (rest := []) (stk := []) hX dX0_settle_46 (ctX0_mendRings hM hW p0 t0 e46) (by decide) (by decide) wm_X0_99 wi_X0_mendRings ws_X0_mendRings wz_X0 wc_X0_mendRings hyX0_mendRings rfl (ci := 0) rfl (by decide) t0.1 (hW.1 _ t0.2).1 (hW.1 _ t0.2).2 (Nat.le_of_ble_eq_true rfl) rfl rfl ?_ rfl rfl
  refine g_aload_n hX dX0_settle_49 (i := 0) rfl (j := 0) rfl ?_
  obtain ⟨h50, e50, hF⟩ := bi_some hF
  refine g_callV (As := []) (rest := []) (stk := []) hX dX0_settle_50 (ctX0_mendNames hM hW hA p0 t0 e50) (by decide) (by decide) wm_X0_102 wi_X0_mendNames ws_X0_mendNames wz_X0 wc_X0_mendNames hyX0_mendNames rfl (ci := 0) rfl (by decide) t0.1 (hW.1 _ t0.2).1 (hW.1 _ t0.2).2 (Nat.le_of_ble_eq_true rfl) rfl rfl ?_ rfl rfl
  obtain rfl := Option.some.inj hF
  exact g_vret hX dX0_settle_53 hR
theorem ctX0_settle {b N sz : Nat} {ok : Nat → Prop} {h : HH} {r : RR} {w : HH} (hM : N ≤ MA) (hW : WT KA lnA ok N r) (hA : ∀ p, KA p < 16 → ok p) (p0 : Nat) (p1 : Nat) (a2 : Int32) (t0 : KA p0 = 0 ∧ ok p0) (t1 : KA p1 = 6 ∧ ok p1) (hF : fX0_settle h r p0 p1 a2 = some w) : CT yX0_settle cX0_settle 3 (none) 5 b KA lnA MA N sz [.ref (b + p0), .ref (b + p1), .int a2] h r N sz none w r 0 0 :=
  CT_of (by decide) rfl (Nat.le_of_ble_eq_true rfl) (by decide) trivial (fun X hX hR => kX0_settle hX hM hW hA p0 p1 a2 t0 t1 hR hF)
/-! X0_areAlike -/
def fX0_areAlike_b87 (h : HH) (r : RR) (p0 : Nat) (k22 : Nat → Nat → Int32 → Option (Int32)) (q1 : Nat) (q2 : Nat) (x3 : Int32) : Option (Int32) := k22 q1 q2 (x3 + 1)
def fX0_areAlike_b69 (h : HH) (r : RR) (p0 : Nat) (k22 : Nat → Nat → Int32 → Option (Int32)) (s0 : Int32) (q1 : Nat) (q2 : Nat) (x3 : Int32) : Option (Int32) := gd (inb x3 (lnA (r p0 1))) (if ¬ (h (r p0 1) (ix x3)) = 0 then (fX0_areAlike_b87 h r p0 k22 q1 q2 x3) else (if ¬ s0 = 0 then (fX0_areAlike_b87 h r p0 k22 q1 q2 x3) else (some (0))))
def fX0_areAlike_b68 (h : HH) (r : RR) (p0 : Nat) (k22 : Nat → Nat → Int32 → Option (Int32)) (q1 : Nat) (q2 : Nat) (x3 : Int32) : Option (Int32) := fX0_areAlike_b69 h r p0 k22 0 q1 q2 x3
def fX0_areAlike_b22 (h : HH) (r : RR) (p0 : Nat) : Nat → Nat → Nat → Int32 → Option (Int32)
  | 0, _, _, _ => none
  | n + 1, q1, q2, x3 => gwd (h p0 0) (fun q_24 => if (h q_24 0) ≤ x3 then (some (1)) else ((fX5_has h r q1 x3).bind (fun v35 => (fX5_has h r q2 x3).bind (fun v40 => if ¬ v35 = v40 then (fX0_areAlike_b68 h r p0 (fun z1_ z2_ z3_ => fX0_areAlike_b22 h r p0 n z1_ z2_ z3_) q1 q2 x3) else ((fX5_placesAsIn h r q1 q2 x3).bind (fun v49 => if v49 = 0 then (fX0_areAlike_b68 h r p0 (fun z1_ z2_ z3_ => fX0_areAlike_b22 h r p0 n z1_ z2_ z3_) q1 q2 x3) else ((fX5_holdsAsIn h r q1 q2 x3).bind (fun v58 => if v58 = 0 then (fX0_areAlike_b68 h r p0 (fun z1_ z2_ z3_ => fX0_areAlike_b22 h r p0 n z1_ z2_ z3_) q1 q2 x3) else (fX0_areAlike_b69 h r p0 (fun z1_ z2_ z3_ => fX0_areAlike_b22 h r p0 n z1_ z2_ z3_) 1 q1 q2 x3)))))))))
def fX0_areAlike (h : HH) (r : RR) (p0 : Nat) : Option (Int32) := gwd (h p0 0) (fun q_1 => gd (inb 0 (lnA (r q_1 2))) (gwd (h p0 0) (fun q_11 => gd (inb 1 (lnA (r q_11 2))) (fX0_areAlike_b22 h r p0 lpF (r (r q_1 2) (ix 0)) (r (r q_11 2) (ix 1)) 0))))
set_option maxRecDepth 100000 in
set_option maxHeartbeats 4000000 in
theorem kX0_areAlike_b87 {X : XT} {b N sz : Nat} {ok : Nat → Prop} {h : HH} {r : RR} {w : Int32} (hX : XOK X RX0 cX0_areAlike 5 2) (hM : N ≤ MA) (hW : WT KA lnA ok N r) (hA : ∀ p, KA p < 16 → ok p) (p0 : Nat) (t0 : KA p0 = 0 ∧ ok p0) (hR : XR X b KA lnA MA (some FieldType.boolean) 0 0 N sz (some (.int w)) h r) (k22 : Nat → Nat → Int32 → Option (Int32)) (hk22 : ∀ (q1 : Nat) (q2 : Nat) (x3 : Int32), (KA q1 = 5 ∧ ok q1) → (KA q2 = 5 ∧ ok q2) → k22 q1 q2 x3 = some w → GX X b KA lnA MA 5 0 0 N sz 22 [(0, .ref (b + p0)), (1, .ref (b + q1)), (2, .ref (b + q2)), (3, .int x3)] [] h r) (q1 : Nat) (q2 : Nat) (x3 : Int32) (t1 : KA q1 = 5 ∧ ok q1) (t2 : KA q2 = 5 ∧ ok q2) (hF : fX0_areAlike_b87 h r p0 k22 q1 q2 x3 = some w) : GX X b KA lnA MA 5 0 0 N sz 87 [(0, .ref (b + p0)), (1, .ref (b + q1)), (2, .ref (b + q2)), (3, .int x3)] [] h r := by
  rw [fX0_areAlike_b87] at hF
  refine g_iinc (L' := [(3, .int (x3 + 1)), (0, .ref (b + p0)), (1, .ref (b + q1)), (2, .ref (b + q2))]) (j := 3) hX dX0_areAlike_87 rfl rfl (by decide) rfl ?_
  refine g_goto (tgt := 22) hX dX0_areAlike_90 (by decide) ?_
  refine g_sub (L' := [(0, .ref (b + p0)), (1, .ref (b + q1)), (2, .ref (b + q2)), (3, .int (x3 + 1))]) [1, 2, 3, 0] rfl ?_
  exact hk22 q1 q2 (x3 + 1) t1 t2 hF
set_option maxRecDepth 100000 in
set_option maxHeartbeats 4000000 in
theorem kX0_areAlike_b69 {X : XT} {b N sz : Nat} {ok : Nat → Prop} {h : HH} {r : RR} {w : Int32} (hX : XOK X RX0 cX0_areAlike 5 2) (hM : N ≤ MA) (hW : WT KA lnA ok N r) (hA : ∀ p, KA p < 16 → ok p) (p0 : Nat) (t0 : KA p0 = 0 ∧ ok p0) (hR : XR X b KA lnA MA (some FieldType.boolean) 0 0 N sz (some (.int w)) h r) (k22 : Nat → Nat → Int32 → Option (Int32)) (hk22 : ∀ (q1 : Nat) (q2 : Nat) (x3 : Int32), (KA q1 = 5 ∧ ok q1) → (KA q2 = 5 ∧ ok q2) → k22 q1 q2 x3 = some w → GX X b KA lnA MA 5 0 0 N sz 22 [(0, .ref (b + p0)), (1, .ref (b + q1)), (2, .ref (b + q2)), (3, .int x3)] [] h r) (s0 : Int32) (q1 : Nat) (q2 : Nat) (x3 : Int32) (t1 : KA q1 = 5 ∧ ok q1) (t2 : KA q2 = 5 ∧ ok q2) (hF : fX0_areAlike_b69 h r p0 k22 s0 q1 q2 x3 = some w) : GX X b KA lnA MA 5 0 0 N sz 69 [(0, .ref (b + p0)), (1, .ref (b + q1)), (2, .ref (b + q2)), (3, .int x3)] [.int s0] h r := by
  rw [fX0_areAlike_b69] at hF
  refine g_istore (L' := [(4, .int s0), (0, .ref (b + p0)), (1, .ref (b + q1)), (2, .ref (b + q2)), (3, .int x3)]) hX dX0_areAlike_69 (by decide) rfl ?_
  refine g_aload_n hX dX0_areAlike_71 (i := 0) rfl (j := 1) rfl ?_
  have tf72 := (tyF (k := 1) hW t0 (by decide) rfl (by decide) : KA (r p0 1) = 10 ∧ ok (r p0 1))
  refine gf_X0_9 hX dX0_areAlike_72 (ty1 hW t0) (hW.1 _ tf72.2).1 ?_
  refine g_iload_n hX dX0_areAlike_75 (i := 3) rfl (j := 4) rfl ?_
  obtain ⟨g76, hF⟩ := gd_some hF
  refine g_bald hX dX0_areAlike_76 tf72.1 (hW.1 _ tf72.2).1 (hW.1 _ tf72.2).2 g76 ?_
  refine g_if_ne (tgt := 87) hX dX0_areAlike_77 (by decide) (fun c77 => ?_) (fun c77 => ?_)
  · have hF := ite_t hF c77
    refine g_sub (L' := [(0, .ref (b + p0)), (1, .ref (b + q1)), (2, .ref (b + q2)), (3, .int x3)]) [1, 2, 3, 4] rfl ?_
    exact kX0_areAlike_b87 hX hM hW hA p0 t0 hR k22 hk22 q1 q2 x3 t1 t2 hF
  · have hF := ite_f hF (fun z => z c77)
    refine g_iload hX dX0_areAlike_80 (j := 0) rfl ?_
    refine g_if_ne (tgt := 87) hX dX0_areAlike_82 (by decide) (fun c82 => ?_) (fun c82 => ?_)
    · have hF := ite_t hF c82
      refine g_sub (L' := [(0, .ref (b + p0)), (1, .ref (b + q1)), (2, .ref (b + q2)), (3, .int x3)]) [1, 2, 3, 4] rfl ?_
      exact kX0_areAlike_b87 hX hM hW hA p0 t0 hR k22 hk22 q1 q2 x3 t1 t2 hF
    · have hF := ite_f hF (fun z => z c82)
      refine g_iconst (v := 0) hX dX0_areAlike_85 (by decide) ?_
      obtain rfl := Option.some.inj hF
      exact g_zret hX dX0_areAlike_86 (by decide) hR
set_option maxRecDepth 100000 in
set_option maxHeartbeats 4000000 in
theorem kX0_areAlike_b68 {X : XT} {b N sz : Nat} {ok : Nat → Prop} {h : HH} {r : RR} {w : Int32} (hX : XOK X RX0 cX0_areAlike 5 2) (hM : N ≤ MA) (hW : WT KA lnA ok N r) (hA : ∀ p, KA p < 16 → ok p) (p0 : Nat) (t0 : KA p0 = 0 ∧ ok p0) (hR : XR X b KA lnA MA (some FieldType.boolean) 0 0 N sz (some (.int w)) h r) (k22 : Nat → Nat → Int32 → Option (Int32)) (hk22 : ∀ (q1 : Nat) (q2 : Nat) (x3 : Int32), (KA q1 = 5 ∧ ok q1) → (KA q2 = 5 ∧ ok q2) → k22 q1 q2 x3 = some w → GX X b KA lnA MA 5 0 0 N sz 22 [(0, .ref (b + p0)), (1, .ref (b + q1)), (2, .ref (b + q2)), (3, .int x3)] [] h r) (q1 : Nat) (q2 : Nat) (x3 : Int32) (t1 : KA q1 = 5 ∧ ok q1) (t2 : KA q2 = 5 ∧ ok q2) (hF : fX0_areAlike_b68 h r p0 k22 q1 q2 x3 = some w) : GX X b KA lnA MA 5 0 0 N sz 68 [(0, .ref (b + p0)), (1, .ref (b + q1)), (2, .ref (b + q2)), (3, .int x3)] [] h r := by
  rw [fX0_areAlike_b68] at hF
  refine g_iconst (v := 0) hX dX0_areAlike_68 (by decide) ?_
  refine g_sub (L' := [(0, .ref (b + p0)), (1, .ref (b + q1)), (2, .ref (b + q2)), (3, .int x3)]) [0, 1, 2, 3] rfl ?_
  exact kX0_areAlike_b69 hX hM hW hA p0 t0 hR k22 hk22 0 q1 q2 x3 t1 t2 hF
set_option maxRecDepth 100000 in
set_option maxHeartbeats 4000000 in
theorem kX0_areAlike_b22 {X : XT} {b N sz : Nat} {ok : Nat → Prop} {h : HH} {r : RR} {w : Int32} (hX : XOK X RX0 cX0_areAlike 5 2) (hM : N ≤ MA) (hW : WT KA lnA ok N r) (hA : ∀ p, KA p < 16 → ok p) (p0 : Nat) (t0 : KA p0 = 0 ∧ ok p0) (hR : XR X b KA lnA MA (some FieldType.boolean) 0 0 N sz (some (.int w)) h r) : ∀ (n : Nat) (q1 : Nat) (q2 : Nat) (x3 : Int32), (KA q1 = 5 ∧ ok q1) → (KA q2 = 5 ∧ ok q2) → fX0_areAlike_b22 h r p0 n q1 q2 x3 = some w → GX X b KA lnA MA 5 0 0 N sz 22 [(0, .ref (b + p0)), (1, .ref (b + q1)), (2, .ref (b + q2)), (3, .int x3)] [] h r := by
  intro n
  induction n with
  | zero =>
    intro q1 q2 x3 t1 t2 hF
    cases hF
  | succ n ih =>
    intro q1 q2 x3 t1 t2 hF
    rw [fX0_areAlike_b22] at hF
    refine g_iload_n hX dX0_areAlike_22 (i := 3) rfl (j := 3) rfl ?_
    refine g_aload_n hX dX0_areAlike_23 (i := 0) rfl (j := 0) rfl ?_
    obtain ⟨q_24, w24, z24, hF⟩ := gwd_some hF
    have tw24 := ty_w hA z24
    refine gw_X0_44 hX dX0_areAlike_24 (ty1 hW t0) w24 (hW.1 _ tw24.2).1 ?_
    refine gf_X0_86 hX dX0_areAlike_27 (ty1 hW tw24) ?_
    refine g_icmp_ge (tgt := 93) hX dX0_areAlike_30 (by decide) (fun c30 => ?_) (fun c30 => ?_)
    · have hF := ite_t hF c30
      refine g_iconst (v := 1) hX dX0_areAlike_93 (by decide) ?_
      obtain rfl := Option.some.inj hF
      exact g_zret hX dX0_areAlike_94 (by decide) hR
    · have hF := ite_f hF c30
      refine g_aload_n hX dX0_areAlike_33 (i := 1) rfl (j := 1) rfl ?_
      refine g_iload_n hX dX0_areAlike_34 (i := 3) rfl (j := 3) rfl ?_
      obtain ⟨v35, e35, hF⟩ := bi_some hF
      refine g_callV (As := [.int x3]) (rest := []) (stk := [.int v35]) hX dX0_areAlike_35 (ctX5_has hM hW q1 x3 t1 e35) (by decide) (by decide) wm_X0_72 wi_X5_has ws_X5_has wz_X5 wc_X5_has hyX5_has rfl (ci := 5) rfl (by decide) t1.1 (hW.1 _ t1.2).1 (hW.1 _ t1.2).2 (Nat.le_of_ble_eq_true rfl) rfl rfl ?_ rfl rfl
      refine g_aload_n hX dX0_areAlike_38 (i := 2) rfl (j := 2) rfl ?_
      refine g_iload_n hX dX0_areAlike_39 (i := 3) rfl (j := 3) rfl ?_
      obtain ⟨v40, e40, hF⟩ := bi_some hF
      refine g_callV (As := [.int x3]) (rest := [.int v35]) (stk := [.int v40, .int v35]) hX dX0_areAlike_40 (ctX5_has hM hW q2 x3 t2 e40) (by decide) (by decide) wm_X0_72 wi_X5_has ws_X5_has wz_X5 wc_X5_has hyX5_has rfl (ci := 5) rfl (by decide) t2.1 (hW.1 _ t2.2).1 (hW.1 _ t2.2).2 (Nat.le_of_ble_eq_true rfl) rfl rfl ?_ rfl rfl
      refine g_icmp_ne (tgt := 68) hX dX0_areAlike_43 (by decide) (fun c43 => ?_) (fun c43 => ?_)
      · have hF := ite_t hF c43
        refine g_sub (L' := [(0, .ref (b + p0)), (1, .ref (b + q1)), (2, .ref (b + q2)), (3, .int x3)]) [0, 1, 2, 3] rfl ?_
        exact kX0_areAlike_b68 hX hM hW hA p0 t0 hR (fun z1_ z2_ z3_ => fX0_areAlike_b22 h r p0 n z1_ z2_ z3_) ih q1 q2 x3 t1 t2 hF
      · have hF := ite_f hF (fun z => z c43)
        refine g_aload_n hX dX0_areAlike_46 (i := 1) rfl (j := 1) rfl ?_
        refine g_aload_n hX dX0_areAlike_47 (i := 2) rfl (j := 2) rfl ?_
        refine g_iload_n hX dX0_areAlike_48 (i := 3) rfl (j := 3) rfl ?_
        obtain ⟨v49, e49, hF⟩ := bi_some hF
        refine g_callV (As := [.ref (b + q2), .int x3]) (rest := []) (stk := [.int v49]) hX dX0_areAlike_49 (ctX5_placesAsIn hM hW q1 q2 x3 t1 t2 e49) (by decide) (by decide) wm_X0_75 wi_X5_placesAsIn ws_X5_placesAsIn wz_X5 wc_X5_placesAsIn hyX5_placesAsIn rfl (ci := 5) rfl (by decide) t1.1 (hW.1 _ t1.2).1 (hW.1 _ t1.2).2 (Nat.le_of_ble_eq_true rfl) rfl rfl ?_ rfl rfl
        refine g_if_eq (tgt := 68) hX dX0_areAlike_52 (by decide) (fun c52 => ?_) (fun c52 => ?_)
        · have hF := ite_t hF c52
          refine g_sub (L' := [(0, .ref (b + p0)), (1, .ref (b + q1)), (2, .ref (b + q2)), (3, .int x3)]) [0, 1, 2, 3] rfl ?_
          exact kX0_areAlike_b68 hX hM hW hA p0 t0 hR (fun z1_ z2_ z3_ => fX0_areAlike_b22 h r p0 n z1_ z2_ z3_) ih q1 q2 x3 t1 t2 hF
        · have hF := ite_f hF c52
          refine g_aload_n hX dX0_areAlike_55 (i := 1) rfl (j := 1) rfl ?_
          refine g_aload_n hX dX0_areAlike_56 (i := 2) rfl (j := 2) rfl ?_
          refine g_iload_n hX dX0_areAlike_57 (i := 3) rfl (j := 3) rfl ?_
          obtain ⟨v58, e58, hF⟩ := bi_some hF
          refine g_callV (As := [.ref (b + q2), .int x3]) (rest := []) (stk := [.int v58]) hX dX0_areAlike_58 (ctX5_holdsAsIn hM hW q1 q2 x3 t1 t2 e58) (by decide) (by decide) wm_X0_79 wi_X5_holdsAsIn ws_X5_holdsAsIn wz_X5 wc_X5_holdsAsIn hyX5_holdsAsIn rfl (ci := 5) rfl (by decide) t1.1 (hW.1 _ t1.2).1 (hW.1 _ t1.2).2 (Nat.le_of_ble_eq_true rfl) rfl rfl ?_ rfl rfl
          refine g_if_eq (tgt := 68) hX dX0_areAlike_61 (by decide) (fun c61 => ?_) (fun c61 => ?_)
          · have hF := ite_t hF c61
            refine g_sub (L' := [(0, .ref (b + p0)), (1, .ref (b + q1)), (2, .ref (b + q2)), (3, .int x3)]) [0, 1, 2, 3] rfl ?_
            exact kX0_areAlike_b68 hX hM hW hA p0 t0 hR (fun z1_ z2_ z3_ => fX0_areAlike_b22 h r p0 n z1_ z2_ z3_) ih q1 q2 x3 t1 t2 hF
          · have hF := ite_f hF c61
            refine g_iconst (v := 1) hX dX0_areAlike_64 (by decide) ?_
            refine g_goto (tgt := 69) hX dX0_areAlike_65 (by decide) ?_
            refine g_sub (L' := [(0, .ref (b + p0)), (1, .ref (b + q1)), (2, .ref (b + q2)), (3, .int x3)]) [0, 1, 2, 3] rfl ?_
            exact kX0_areAlike_b69 hX hM hW hA p0 t0 hR (fun z1_ z2_ z3_ => fX0_areAlike_b22 h r p0 n z1_ z2_ z3_) ih 1 q1 q2 x3 t1 t2 hF
set_option maxRecDepth 100000 in
set_option maxHeartbeats 4000000 in
theorem kX0_areAlike {X : XT} {b N sz : Nat} {ok : Nat → Prop} {h : HH} {r : RR} {w : Int32} (hX : XOK X RX0 cX0_areAlike 5 2) (hM : N ≤ MA) (hW : WT KA lnA ok N r) (hA : ∀ p, KA p < 16 → ok p) (p0 : Nat) (t0 : KA p0 = 0 ∧ ok p0) (hR : XR X b KA lnA MA (some FieldType.boolean) 0 0 N sz (some (.int w)) h r) (hF : fX0_areAlike h r p0 = some w) : GX X b KA lnA MA 5 0 0 N sz 0 [(0, .ref (b + p0))] [] h r := by
  rw [fX0_areAlike] at hF
  refine g_aload_n hX dX0_areAlike_0 (i := 0) rfl (j := 0) rfl ?_
  obtain ⟨q_1, w1, z1, hF⟩ := gwd_some hF
  have tw1 := ty_w hA z1
  refine gw_X0_44 hX dX0_areAlike_1 (ty1 hW t0) w1 (hW.1 _ tw1.2).1 ?_
  have tf4 := (tyF (k := 2) hW tw1 (by decide) rfl (by decide) : KA (r q_1 2) = 13 ∧ ok (r q_1 2))
  refine gf_X0_57 hX dX0_areAlike_4 (ty1 hW tw1) (hW.1 _ tf4.2).1 ?_
  refine g_iconst (v := 0) hX dX0_areAlike_7 (by decide) ?_
  obtain ⟨g8, hF⟩ := gd_some hF
  have ta8 : KA (r (r q_1 2) (ix 0)) = 5 ∧ ok (r (r q_1 2) (ix 0)) := tyA hW tf4 (by decide) rfl (by decide) g8
  refine g_aald hX dX0_areAlike_8 tf4.1 (by decide) (by decide) (hW.1 _ tf4.2).1 (hW.1 _ tf4.2).2 g8 (hW.1 _ ta8.2).1 ?_
  refine g_astore_n (L' := [(1, .ref (b + (r (r q_1 2) (ix 0)))), (0, .ref (b + p0))]) hX dX0_areAlike_9 (i := 1) rfl (by decide) rfl ?_
  refine g_aload_n hX dX0_areAlike_10 (i := 0) rfl (j := 1) rfl ?_
  obtain ⟨q_11, w11, z11, hF⟩ := gwd_some hF
  have tw11 := ty_w hA z11
  refine gw_X0_44 hX dX0_areAlike_11 (ty1 hW t0) w11 (hW.1 _ tw11.2).1 ?_
  have tf14 := (tyF (k := 2) hW tw11 (by decide) rfl (by decide) : KA (r q_11 2) = 13 ∧ ok (r q_11 2))
  refine gf_X0_57 hX dX0_areAlike_14 (ty1 hW tw11) (hW.1 _ tf14.2).1 ?_
  refine g_iconst (v := 1) hX dX0_areAlike_17 (by decide) ?_
  obtain ⟨g18, hF⟩ := gd_some hF
  have ta18 : KA (r (r q_11 2) (ix 1)) = 5 ∧ ok (r (r q_11 2) (ix 1)) := tyA hW tf14 (by decide) rfl (by decide) g18
  refine g_aald hX dX0_areAlike_18 tf14.1 (by decide) (by decide) (hW.1 _ tf14.2).1 (hW.1 _ tf14.2).2 g18 (hW.1 _ ta18.2).1 ?_
  refine g_astore_n (L' := [(2, .ref (b + (r (r q_11 2) (ix 1)))), (1, .ref (b + (r (r q_1 2) (ix 0)))), (0, .ref (b + p0))]) hX dX0_areAlike_19 (i := 2) rfl (by decide) rfl ?_
  refine g_iconst (v := 0) hX dX0_areAlike_20 (by decide) ?_
  refine g_istore_n (L' := [(3, .int 0), (2, .ref (b + (r (r q_11 2) (ix 1)))), (1, .ref (b + (r (r q_1 2) (ix 0)))), (0, .ref (b + p0))]) hX dX0_areAlike_21 (i := 3) rfl (by decide) rfl ?_
  refine g_sub (L' := [(0, .ref (b + p0)), (1, .ref (b + (r (r q_1 2) (ix 0)))), (2, .ref (b + (r (r q_11 2) (ix 1)))), (3, .int 0)]) [3, 2, 1, 0] rfl ?_
  exact kX0_areAlike_b22 hX hM hW hA p0 t0 hR lpF (r (r q_1 2) (ix 0)) (r (r q_11 2) (ix 1)) 0 ta8 ta18 hF
theorem ctX0_areAlike {b N sz : Nat} {ok : Nat → Prop} {h : HH} {r : RR} {w : Int32} (hM : N ≤ MA) (hW : WT KA lnA ok N r) (hA : ∀ p, KA p < 16 → ok p) (p0 : Nat) (t0 : KA p0 = 0 ∧ ok p0) (hF : fX0_areAlike h r p0 = some w) : CT yX0_areAlike cX0_areAlike 5 (some FieldType.boolean) 2 b KA lnA MA N sz [.ref (b + p0)] h r N sz (some (.int w)) h r 0 0 :=
  CT_of (by decide) rfl (Nat.le_of_ble_eq_true rfl) (by decide) trivial (fun X hX hR => kX0_areAlike hX hM hW hA p0 t0 hR hF)
/-! X5_putAsIn -/
def fX5_putAsIn (h : HH) (r : RR) (p0 : Nat) (p1 : Nat) (a2 : Int32) : Option (HH) := gd (inb a2 (lnA (r p1 0))) (gd (inb a2 (lnA (r p0 0))) (lt (up h (r p0 0) (ix a2) (zn (h (r p1 0) (ix a2)))) (fun h11 => gd (inb a2 (lnA (r p1 1))) (gd (inb a2 (lnA (r p0 1))) (lt (up h11 (r p0 1) (ix a2) (h11 (r p1 1) (ix a2))) (fun h23 => gd (inb a2 (lnA (r p1 2))) (gd (inb a2 (lnA (r p0 2))) (lt (up h23 (r p0 2) (ix a2) (h23 (r p1 2) (ix a2))) (fun h35 => gd (inb a2 (lnA (r p1 3))) (gd (inb a2 (lnA (r p0 3))) (lt (up h35 (r p0 3) (ix a2) (h35 (r p1 3) (ix a2))) (fun h47 => some h47))))))))))))
set_option maxRecDepth 100000 in
set_option maxHeartbeats 4000000 in
theorem kX5_putAsIn {X : XT} {b N sz : Nat} {ok : Nat → Prop} {h : HH} {r : RR} {w : HH} (hX : XOK X RX5 cX5_putAsIn 3 1) (hM : N ≤ MA) (hW : WT KA lnA ok N r) (p0 : Nat) (p1 : Nat) (a2 : Int32) (t0 : KA p0 = 5 ∧ ok p0) (t1 : KA p1 = 5 ∧ ok p1) (hR : XR X b KA lnA MA (none) 0 0 N sz none w r) (hF : fX5_putAsIn h r p0 p1 a2 = some w) : GX X b KA lnA MA 3 0 0 N sz 0 [(0, .ref (b + p0)), (1, .ref (b + p1)), (2, .int a2)] [] h r := by
  rw [fX5_putAsIn] at hF
  refine g_aload_n hX dX5_putAsIn_0 (i := 0) rfl (j := 0) rfl ?_
  have tf1 := (tyF (k := 0) hW t0 (by decide) rfl (by decide) : KA (r p0 0) = 10 ∧ ok (r p0 0))
  refine gf_X5_9 hX dX5_putAsIn_1 (ty1 hW t0) (hW.1 _ tf1.2).1 ?_
  refine g_iload_n hX dX5_putAsIn_4 (i := 2) rfl (j := 2) rfl ?_
  refine g_aload_n hX dX5_putAsIn_5 (i := 1) rfl (j := 1) rfl ?_
  have tf6 := (tyF (k := 0) hW t1 (by decide) rfl (by decide) : KA (r p1 0) = 10 ∧ ok (r p1 0))
  refine gf_X5_9 hX dX5_putAsIn_6 (ty1 hW t1) (hW.1 _ tf6.2).1 ?_
  refine g_iload_n hX dX5_putAsIn_9 (i := 2) rfl (j := 2) rfl ?_
  obtain ⟨g10, hF⟩ := gd_some hF
  refine g_bald hX dX5_putAsIn_10 tf6.1 (hW.1 _ tf6.2).1 (hW.1 _ tf6.2).2 g10 ?_
  obtain ⟨g11, hF⟩ := gd_some hF
  obtain ⟨h11, e11, hF⟩ := lt_some hF
  refine g_bast hX dX5_putAsIn_11 tf1.1 (hW.1 _ tf1.2).1 (hW.1 _ tf1.2).2 hM g11 e11 ?_
  refine g_aload_n hX dX5_putAsIn_12 (i := 0) rfl (j := 0) rfl ?_
  have tf13 := (tyF (k := 1) hW t0 (by decide) rfl (by decide) : KA (r p0 1) = 9 ∧ ok (r p0 1))
  refine gf_X5_15 hX dX5_putAsIn_13 (ty1 hW t0) (hW.1 _ tf13.2).1 ?_
  refine g_iload_n hX dX5_putAsIn_16 (i := 2) rfl (j := 2) rfl ?_
  refine g_aload_n hX dX5_putAsIn_17 (i := 1) rfl (j := 1) rfl ?_
  have tf18 := (tyF (k := 1) hW t1 (by decide) rfl (by decide) : KA (r p1 1) = 9 ∧ ok (r p1 1))
  refine gf_X5_15 hX dX5_putAsIn_18 (ty1 hW t1) (hW.1 _ tf18.2).1 ?_
  refine g_iload_n hX dX5_putAsIn_21 (i := 2) rfl (j := 2) rfl ?_
  obtain ⟨g22, hF⟩ := gd_some hF
  refine g_iald hX dX5_putAsIn_22 tf18.1 (hW.1 _ tf18.2).1 (hW.1 _ tf18.2).2 g22 ?_
  obtain ⟨g23, hF⟩ := gd_some hF
  obtain ⟨h23, e23, hF⟩ := lt_some hF
  refine g_iast hX dX5_putAsIn_23 tf13.1 (hW.1 _ tf13.2).1 (hW.1 _ tf13.2).2 hM g23 e23 ?_
  refine g_aload_n hX dX5_putAsIn_24 (i := 0) rfl (j := 0) rfl ?_
  have tf25 := (tyF (k := 2) hW t0 (by decide) rfl (by decide) : KA (r p0 2) = 9 ∧ ok (r p0 2))
  refine gf_X5_19 hX dX5_putAsIn_25 (ty1 hW t0) (hW.1 _ tf25.2).1 ?_
  refine g_iload_n hX dX5_putAsIn_28 (i := 2) rfl (j := 2) rfl ?_
  refine g_aload_n hX dX5_putAsIn_29 (i := 1) rfl (j := 1) rfl ?_
  have tf30 := (tyF (k := 2) hW t1 (by decide) rfl (by decide) : KA (r p1 2) = 9 ∧ ok (r p1 2))
  refine gf_X5_19 hX dX5_putAsIn_30 (ty1 hW t1) (hW.1 _ tf30.2).1 ?_
  refine g_iload_n hX dX5_putAsIn_33 (i := 2) rfl (j := 2) rfl ?_
  obtain ⟨g34, hF⟩ := gd_some hF
  refine g_iald hX dX5_putAsIn_34 tf30.1 (hW.1 _ tf30.2).1 (hW.1 _ tf30.2).2 g34 ?_
  obtain ⟨g35, hF⟩ := gd_some hF
  obtain ⟨h35, e35, hF⟩ := lt_some hF
  refine g_iast hX dX5_putAsIn_35 tf25.1 (hW.1 _ tf25.2).1 (hW.1 _ tf25.2).2 hM g35 e35 ?_
  refine g_aload_n hX dX5_putAsIn_36 (i := 0) rfl (j := 0) rfl ?_
  have tf37 := (tyF (k := 3) hW t0 (by decide) rfl (by decide) : KA (r p0 3) = 9 ∧ ok (r p0 3))
  refine gf_X5_22 hX dX5_putAsIn_37 (ty1 hW t0) (hW.1 _ tf37.2).1 ?_
  refine g_iload_n hX dX5_putAsIn_40 (i := 2) rfl (j := 2) rfl ?_
  refine g_aload_n hX dX5_putAsIn_41 (i := 1) rfl (j := 1) rfl ?_
  have tf42 := (tyF (k := 3) hW t1 (by decide) rfl (by decide) : KA (r p1 3) = 9 ∧ ok (r p1 3))
  refine gf_X5_22 hX dX5_putAsIn_42 (ty1 hW t1) (hW.1 _ tf42.2).1 ?_
  refine g_iload_n hX dX5_putAsIn_45 (i := 2) rfl (j := 2) rfl ?_
  obtain ⟨g46, hF⟩ := gd_some hF
  refine g_iald hX dX5_putAsIn_46 tf42.1 (hW.1 _ tf42.2).1 (hW.1 _ tf42.2).2 g46 ?_
  obtain ⟨g47, hF⟩ := gd_some hF
  obtain ⟨h47, e47, hF⟩ := lt_some hF
  refine g_iast hX dX5_putAsIn_47 tf37.1 (hW.1 _ tf37.2).1 (hW.1 _ tf37.2).2 hM g47 e47 ?_
  obtain rfl := Option.some.inj hF
  exact g_vret hX dX5_putAsIn_48 hR
theorem ctX5_putAsIn {b N sz : Nat} {ok : Nat → Prop} {h : HH} {r : RR} {w : HH} (hM : N ≤ MA) (hW : WT KA lnA ok N r) (p0 : Nat) (p1 : Nat) (a2 : Int32) (t0 : KA p0 = 5 ∧ ok p0) (t1 : KA p1 = 5 ∧ ok p1) (hF : fX5_putAsIn h r p0 p1 a2 = some w) : CT yX5_putAsIn cX5_putAsIn 3 (none) 1 b KA lnA MA N sz [.ref (b + p0), .ref (b + p1), .int a2] h r N sz none w r 0 0 :=
  CT_of (by decide) rfl (Nat.le_of_ble_eq_true rfl) (by decide) trivial (fun X hX hR => kX5_putAsIn hX hM hW p0 p1 a2 t0 t1 hR hF)
/-! X0_forgetHomeless -/
def fX0_forgetHomeless_b80 (r : RR) (p0 : Nat) (k14 : HH → Nat → Int32 → Int32 → Option (HH)) (k29 : HH → Nat → Int32 → Int32 → Int32 → Option (HH)) (h : HH) (q1 : Nat) (x2 : Int32) (x3 : Int32) (x4 : Int32) : Option (HH) := k29 h q1 x2 x3 (x4 + 1)
def fX0_forgetHomeless_b29 (r : RR) (p0 : Nat) (k14 : HH → Nat → Int32 → Int32 → Option (HH)) : Nat → HH → Nat → Int32 → Int32 → Int32 → Option (HH)
  | 0, _, _, _, _, _ => none
  | n + 1, h, q1, x2, x3, x4 => if (h p0 4) ≤ x4 then (k14 h q1 x2 (x3 + 1)) else ((fX5_has h r q1 x4).bind (fun v41 => if v41 = 0 then (fX0_forgetHomeless_b80 r p0 k14 (fun h_ z1_ z2_ z3_ z4_ => fX0_forgetHomeless_b29 r p0 k14 n h_ z1_ z2_ z3_ z4_) h q1 x2 x3 x4) else (gd (inb x4 (lnA (r q1 1))) (if (h (r q1 1) (ix x4)) = (-1) then (fX0_forgetHomeless_b80 r p0 k14 (fun h_ z1_ z2_ z3_ z4_ => fX0_forgetHomeless_b29 r p0 k14 n h_ z1_ z2_ z3_ z4_) h q1 x2 x3 x4) else (gd (inb x4 (lnA (r q1 1))) ((fX5_has h r q1 (h (r q1 1) (ix x4))).bind (fun v66 => if ¬ v66 = 0 then (fX0_forgetHomeless_b80 r p0 k14 (fun h_ z1_ z2_ z3_ z4_ => fX0_forgetHomeless_b29 r p0 k14 n h_ z1_ z2_ z3_ z4_) h q1 x2 x3 x4) else ((fX5_takeOut h r q1 x4).bind (fun h75 => fX0_forgetHomeless_b80 r p0 k14 (fun h_ z1_ z2_ z3_ z4_ => fX0_forgetHomeless_b29 r p0 k14 n h_ z1_ z2_ z3_ z4_) h75 q1 1 x3 x4)))))))))
def fX0_forgetHomeless_b14 (r : RR) (p0 : Nat) : Nat → HH → Nat → Int32 → Int32 → Option (HH)
  | 0, _, _, _, _ => none
  | n + 1, h, q1, x2, x3 => if 30 ≤ x3 then (some h) else (if x2 = 0 then (some h) else (fX0_forgetHomeless_b29 r p0 (fun h_ z1_ z2_ z3_ => fX0_forgetHomeless_b14 r p0 n h_ z1_ z2_ z3_) lpF h q1 0 x3 0))
def fX0_forgetHomeless (h : HH) (r : RR) (p0 : Nat) : Option (HH) := gwd (h p0 0) (fun q_1 => gd (inb 2 (lnA (r q_1 2))) (fX0_forgetHomeless_b14 r p0 lpF h (r (r q_1 2) (ix 2)) 1 0))
set_option maxRecDepth 100000 in
set_option maxHeartbeats 4000000 in
theorem kX0_forgetHomeless_b80 {X : XT} {b N sz : Nat} {ok : Nat → Prop} {r : RR} {w : HH} (hX : XOK X RX0 cX0_forgetHomeless 5 2) (hM : N ≤ MA) (hW : WT KA lnA ok N r) (hA : ∀ p, KA p < 16 → ok p) (p0 : Nat) (t0 : KA p0 = 0 ∧ ok p0) (hR : XR X b KA lnA MA (none) 0 0 N sz none w r) (k14 : HH → Nat → Int32 → Int32 → Option (HH)) (hk14 : ∀ (h : HH) (q1 : Nat) (x2 : Int32) (x3 : Int32), (KA q1 = 5 ∧ ok q1) → k14 h q1 x2 x3 = some w → GX X b KA lnA MA 5 0 0 N sz 14 [(0, .ref (b + p0)), (1, .ref (b + q1)), (2, .int x2), (3, .int x3)] [] h r) (k29 : HH → Nat → Int32 → Int32 → Int32 → Option (HH)) (hk29 : ∀ (h : HH) (q1 : Nat) (x2 : Int32) (x3 : Int32) (x4 : Int32), (KA q1 = 5 ∧ ok q1) → k29 h q1 x2 x3 x4 = some w → GX X b KA lnA MA 5 0 0 N sz 29 [(0, .ref (b + p0)), (1, .ref (b + q1)), (2, .int x2), (3, .int x3), (4, .int x4)] [] h r) (h : HH) (q1 : Nat) (x2 : Int32) (x3 : Int32) (x4 : Int32) (t1 : KA q1 = 5 ∧ ok q1) (hF : fX0_forgetHomeless_b80 r p0 k14 k29 h q1 x2 x3 x4 = some w) : GX X b KA lnA MA 5 0 0 N sz 80 [(0, .ref (b + p0)), (1, .ref (b + q1)), (2, .int x2), (3, .int x3), (4, .int x4)] [] h r := by
  rw [fX0_forgetHomeless_b80] at hF
  refine g_iinc (L' := [(4, .int (x4 + 1)), (0, .ref (b + p0)), (1, .ref (b + q1)), (2, .int x2), (3, .int x3)]) (j := 4) hX dX0_forgetHomeless_80 rfl rfl (by decide) rfl ?_
  refine g_goto (tgt := 29) hX dX0_forgetHomeless_83 (by decide) ?_
  refine g_sub (L' := [(0, .ref (b + p0)), (1, .ref (b + q1)), (2, .int x2), (3, .int x3), (4, .int (x4 + 1))]) [1, 2, 3, 4, 0] rfl ?_
  exact hk29 h q1 x2 x3 (x4 + 1) t1 hF
set_option maxRecDepth 100000 in
set_option maxHeartbeats 4000000 in
theorem kX0_forgetHomeless_b29 {X : XT} {b N sz : Nat} {ok : Nat → Prop} {r : RR} {w : HH} (hX : XOK X RX0 cX0_forgetHomeless 5 2) (hM : N ≤ MA) (hW : WT KA lnA ok N r) (hA : ∀ p, KA p < 16 → ok p) (p0 : Nat) (t0 : KA p0 = 0 ∧ ok p0) (hR : XR X b KA lnA MA (none) 0 0 N sz none w r) (k14 : HH → Nat → Int32 → Int32 → Option (HH)) (hk14 : ∀ (h : HH) (q1 : Nat) (x2 : Int32) (x3 : Int32), (KA q1 = 5 ∧ ok q1) → k14 h q1 x2 x3 = some w → GX X b KA lnA MA 5 0 0 N sz 14 [(0, .ref (b + p0)), (1, .ref (b + q1)), (2, .int x2), (3, .int x3)] [] h r) : ∀ (n : Nat) (h : HH) (q1 : Nat) (x2 : Int32) (x3 : Int32) (x4 : Int32), (KA q1 = 5 ∧ ok q1) → fX0_forgetHomeless_b29 r p0 k14 n h q1 x2 x3 x4 = some w → GX X b KA lnA MA 5 0 0 N sz 29 [(0, .ref (b + p0)), (1, .ref (b + q1)), (2, .int x2), (3, .int x3), (4, .int x4)] [] h r := by
  intro n
  induction n with
  | zero =>
    intro h q1 x2 x3 x4 t1 hF
    cases hF
  | succ n ih =>
    intro h q1 x2 x3 x4 t1 hF
    rw [fX0_forgetHomeless_b29] at hF
    refine g_iload hX dX0_forgetHomeless_29 (j := 4) rfl ?_
    refine g_aload_n hX dX0_forgetHomeless_31 (i := 0) rfl (j := 0) rfl ?_
    refine gf_X0_27 hX dX0_forgetHomeless_32 (ty1 hW t0) ?_
    refine g_icmp_ge (tgt := 86) hX dX0_forgetHomeless_35 (by decide) (fun c35 => ?_) (fun c35 => ?_)
    · have hF := ite_t hF c35
      refine g_iinc (L' := [(3, .int (x3 + 1)), (0, .ref (b + p0)), (1, .ref (b + q1)), (2, .int x2), (4, .int x4)]) (j := 3) hX dX0_forgetHomeless_86 rfl rfl (by decide) rfl ?_
      refine g_goto (tgt := 14) hX dX0_forgetHomeless_89 (by decide) ?_
      refine g_sub (L' := [(0, .ref (b + p0)), (1, .ref (b + q1)), (2, .int x2), (3, .int (x3 + 1))]) [1, 2, 3, 0] rfl ?_
      exact hk14 h q1 x2 (x3 + 1) t1 hF
    · have hF := ite_f hF c35
      refine g_aload_n hX dX0_forgetHomeless_38 (i := 1) rfl (j := 1) rfl ?_
      refine g_iload hX dX0_forgetHomeless_39 (j := 4) rfl ?_
      obtain ⟨v41, e41, hF⟩ := bi_some hF
      refine g_callV (As := [.int x4]) (rest := []) (stk := [.int v41]) hX dX0_forgetHomeless_41 (ctX5_has hM hW q1 x4 t1 e41) (by decide) (by decide) wm_X0_72 wi_X5_has ws_X5_has wz_X5 wc_X5_has hyX5_has rfl (ci := 5) rfl (by decide) t1.1 (hW.1 _ t1.2).1 (hW.1 _ t1.2).2 (Nat.le_of_ble_eq_true rfl) rfl rfl ?_ rfl rfl
      refine g_if_eq (tgt := 80) hX dX0_forgetHomeless_44 (by decide) (fun c44 => ?_) (fun c44 => ?_)
      · have hF := ite_t hF c44
        refine g_sub (L' := [(0, .ref (b + p0)), (1, .ref (b + q1)), (2, .int x2), (3, .int x3), (4, .int x4)]) [0, 1, 2, 3, 4] rfl ?_
        exact kX0_forgetHomeless_b80 hX hM hW hA p0 t0 hR k14 hk14 (fun h_ z1_ z2_ z3_ z4_ => fX0_forgetHomeless_b29 r p0 k14 n h_ z1_ z2_ z3_ z4_) ih h q1 x2 x3 x4 t1 hF
      · have hF := ite_f hF c44
        refine g_aload_n hX dX0_forgetHomeless_47 (i := 1) rfl (j := 1) rfl ?_
        have tf48 := (tyF (k := 1) hW t1 (by decide) rfl (by decide) : KA (r q1 1) = 9 ∧ ok (r q1 1))
        refine gf_X0_69 hX dX0_forgetHomeless_48 (ty1 hW t1) (hW.1 _ tf48.2).1 ?_
        refine g_iload hX dX0_forgetHomeless_51 (j := 4) rfl ?_
        obtain ⟨g53, hF⟩ := gd_some hF
        refine g_iald hX dX0_forgetHomeless_53 tf48.1 (hW.1 _ tf48.2).1 (hW.1 _ tf48.2).2 g53 ?_
        refine g_iconst (v := (-1)) hX dX0_forgetHomeless_54 (by decide) ?_
        refine g_icmp_eq (tgt := 80) hX dX0_forgetHomeless_55 (by decide) (fun c55 => ?_) (fun c55 => ?_)
        · have hF := ite_t hF c55
          refine g_sub (L' := [(0, .ref (b + p0)), (1, .ref (b + q1)), (2, .int x2), (3, .int x3), (4, .int x4)]) [0, 1, 2, 3, 4] rfl ?_
          exact kX0_forgetHomeless_b80 hX hM hW hA p0 t0 hR k14 hk14 (fun h_ z1_ z2_ z3_ z4_ => fX0_forgetHomeless_b29 r p0 k14 n h_ z1_ z2_ z3_ z4_) ih h q1 x2 x3 x4 t1 hF
        · have hF := ite_f hF c55
          refine g_aload_n hX dX0_forgetHomeless_58 (i := 1) rfl (j := 1) rfl ?_
          refine g_aload_n hX dX0_forgetHomeless_59 (i := 1) rfl (j := 1) rfl ?_
          have tf60 := (tyF (k := 1) hW t1 (by decide) rfl (by decide) : KA (r q1 1) = 9 ∧ ok (r q1 1))
          refine gf_X0_69 hX dX0_forgetHomeless_60 (ty1 hW t1) (hW.1 _ tf60.2).1 ?_
          refine g_iload hX dX0_forgetHomeless_63 (j := 4) rfl ?_
          obtain ⟨g65, hF⟩ := gd_some hF
          refine g_iald hX dX0_forgetHomeless_65 tf60.1 (hW.1 _ tf60.2).1 (hW.1 _ tf60.2).2 g65 ?_
          obtain ⟨v66, e66, hF⟩ := bi_some hF
          refine g_callV (As := [.int (h (r q1 1) (ix x4))]) (rest := []) (stk := [.int v66]) hX dX0_forgetHomeless_66 (ctX5_has hM hW q1 (h (r q1 1) (ix x4)) t1 e66) (by decide) (by decide) wm_X0_72 wi_X5_has ws_X5_has wz_X5 wc_X5_has hyX5_has rfl (ci := 5) rfl (by decide) t1.1 (hW.1 _ t1.2).1 (hW.1 _ t1.2).2 (Nat.le_of_ble_eq_true rfl) rfl rfl ?_ rfl rfl
          refine g_if_ne (tgt := 80) hX dX0_forgetHomeless_69 (by decide) (fun c69 => ?_) (fun c69 => ?_)
          · have hF := ite_t hF c69
            refine g_sub (L' := [(0, .ref (b + p0)), (1, .ref (b + q1)), (2, .int x2), (3, .int x3), (4, .int x4)]) [0, 1, 2, 3, 4] rfl ?_
            exact kX0_forgetHomeless_b80 hX hM hW hA p0 t0 hR k14 hk14 (fun h_ z1_ z2_ z3_ z4_ => fX0_forgetHomeless_b29 r p0 k14 n h_ z1_ z2_ z3_ z4_) ih h q1 x2 x3 x4 t1 hF
          · have hF := ite_f hF (fun z => z c69)
            refine g_aload_n hX dX0_forgetHomeless_72 (i := 1) rfl (j := 1) rfl ?_
            refine g_iload hX dX0_forgetHomeless_73 (j := 4) rfl ?_
            obtain ⟨h75, e75, hF⟩ := bi_some hF
            refine g_callV (As := [.int x4]) (rest := []) (stk := []) hX dX0_forgetHomeless_75 (ctX5_takeOut hM hW q1 x4 t1 e75) (by decide) (by decide) wm_X0_165 wi_X5_takeOut ws_X5_takeOut wz_X5 wc_X5_takeOut hyX5_takeOut rfl (ci := 5) rfl (by decide) t1.1 (hW.1 _ t1.2).1 (hW.1 _ t1.2).2 (Nat.le_of_ble_eq_true rfl) rfl rfl ?_ rfl rfl
            refine g_iconst (v := 1) hX dX0_forgetHomeless_78 (by decide) ?_
            refine g_istore_n (L' := [(2, .int 1), (0, .ref (b + p0)), (1, .ref (b + q1)), (3, .int x3), (4, .int x4)]) hX dX0_forgetHomeless_79 (i := 2) rfl (by decide) rfl ?_
            refine g_sub (L' := [(0, .ref (b + p0)), (1, .ref (b + q1)), (2, .int 1), (3, .int x3), (4, .int x4)]) [1, 2, 0, 3, 4] rfl ?_
            exact kX0_forgetHomeless_b80 hX hM hW hA p0 t0 hR k14 hk14 (fun h_ z1_ z2_ z3_ z4_ => fX0_forgetHomeless_b29 r p0 k14 n h_ z1_ z2_ z3_ z4_) ih h75 q1 1 x3 x4 t1 hF
set_option maxRecDepth 100000 in
set_option maxHeartbeats 4000000 in
theorem kX0_forgetHomeless_b14 {X : XT} {b N sz : Nat} {ok : Nat → Prop} {r : RR} {w : HH} (hX : XOK X RX0 cX0_forgetHomeless 5 2) (hM : N ≤ MA) (hW : WT KA lnA ok N r) (hA : ∀ p, KA p < 16 → ok p) (p0 : Nat) (t0 : KA p0 = 0 ∧ ok p0) (hR : XR X b KA lnA MA (none) 0 0 N sz none w r) : ∀ (n : Nat) (h : HH) (q1 : Nat) (x2 : Int32) (x3 : Int32), (KA q1 = 5 ∧ ok q1) → fX0_forgetHomeless_b14 r p0 n h q1 x2 x3 = some w → GX X b KA lnA MA 5 0 0 N sz 14 [(0, .ref (b + p0)), (1, .ref (b + q1)), (2, .int x2), (3, .int x3)] [] h r := by
  intro n
  induction n with
  | zero =>
    intro h q1 x2 x3 t1 hF
    cases hF
  | succ n ih =>
    intro h q1 x2 x3 t1 hF
    rw [fX0_forgetHomeless_b14] at hF
    refine g_iload_n hX dX0_forgetHomeless_14 (i := 3) rfl (j := 3) rfl ?_
    refine g_bipush (v := 30) hX dX0_forgetHomeless_15 (by decide) ?_
    refine g_icmp_ge (tgt := 92) hX dX0_forgetHomeless_17 (by decide) (fun c17 => ?_) (fun c17 => ?_)
    · have hF := ite_t hF c17
      obtain rfl := Option.some.inj hF
      exact g_vret hX dX0_forgetHomeless_92 hR
    · have hF := ite_f hF c17
      refine g_iload_n hX dX0_forgetHomeless_20 (i := 2) rfl (j := 2) rfl ?_
      refine g_if_eq (tgt := 92) hX dX0_forgetHomeless_21 (by decide) (fun c21 => ?_) (fun c21 => ?_)
      · have hF := ite_t hF c21
        obtain rfl := Option.some.inj hF
        exact g_vret hX dX0_forgetHomeless_92 hR
      · have hF := ite_f hF c21
        refine g_iconst (v := 0) hX dX0_forgetHomeless_24 (by decide) ?_
        refine g_istore_n (L' := [(2, .int 0), (0, .ref (b + p0)), (1, .ref (b + q1)), (3, .int x3)]) hX dX0_forgetHomeless_25 (i := 2) rfl (by decide) rfl ?_
        refine g_iconst (v := 0) hX dX0_forgetHomeless_26 (by decide) ?_
        refine g_istore (L' := [(4, .int 0), (2, .int 0), (0, .ref (b + p0)), (1, .ref (b + q1)), (3, .int x3)]) hX dX0_forgetHomeless_27 (by decide) rfl ?_
        refine g_sub (L' := [(0, .ref (b + p0)), (1, .ref (b + q1)), (2, .int 0), (3, .int x3), (4, .int 0)]) [2, 3, 1, 4, 0] rfl ?_
        exact kX0_forgetHomeless_b29 hX hM hW hA p0 t0 hR (fun h_ z1_ z2_ z3_ => fX0_forgetHomeless_b14 r p0 n h_ z1_ z2_ z3_) ih lpF h q1 0 x3 0 t1 hF
set_option maxRecDepth 100000 in
set_option maxHeartbeats 4000000 in
theorem kX0_forgetHomeless {X : XT} {b N sz : Nat} {ok : Nat → Prop} {h : HH} {r : RR} {w : HH} (hX : XOK X RX0 cX0_forgetHomeless 5 2) (hM : N ≤ MA) (hW : WT KA lnA ok N r) (hA : ∀ p, KA p < 16 → ok p) (p0 : Nat) (t0 : KA p0 = 0 ∧ ok p0) (hR : XR X b KA lnA MA (none) 0 0 N sz none w r) (hF : fX0_forgetHomeless h r p0 = some w) : GX X b KA lnA MA 5 0 0 N sz 0 [(0, .ref (b + p0))] [] h r := by
  rw [fX0_forgetHomeless] at hF
  refine g_aload_n hX dX0_forgetHomeless_0 (i := 0) rfl (j := 0) rfl ?_
  obtain ⟨q_1, w1, z1, hF⟩ := gwd_some hF
  have tw1 := ty_w hA z1
  refine gw_X0_44 hX dX0_forgetHomeless_1 (ty1 hW t0) w1 (hW.1 _ tw1.2).1 ?_
  have tf4 := (tyF (k := 2) hW tw1 (by decide) rfl (by decide) : KA (r q_1 2) = 13 ∧ ok (r q_1 2))
  refine gf_X0_57 hX dX0_forgetHomeless_4 (ty1 hW tw1) (hW.1 _ tf4.2).1 ?_
  refine g_iconst (v := 2) hX dX0_forgetHomeless_7 (by decide) ?_
  obtain ⟨g8, hF⟩ := gd_some hF
  have ta8 : KA (r (r q_1 2) (ix 2)) = 5 ∧ ok (r (r q_1 2) (ix 2)) := tyA hW tf4 (by decide) rfl (by decide) g8
  refine g_aald hX dX0_forgetHomeless_8 tf4.1 (by decide) (by decide) (hW.1 _ tf4.2).1 (hW.1 _ tf4.2).2 g8 (hW.1 _ ta8.2).1 ?_
  refine g_astore_n (L' := [(1, .ref (b + (r (r q_1 2) (ix 2)))), (0, .ref (b + p0))]) hX dX0_forgetHomeless_9 (i := 1) rfl (by decide) rfl ?_
  refine g_iconst (v := 1) hX dX0_forgetHomeless_10 (by decide) ?_
  refine g_istore_n (L' := [(2, .int 1), (1, .ref (b + (r (r q_1 2) (ix 2)))), (0, .ref (b + p0))]) hX dX0_forgetHomeless_11 (i := 2) rfl (by decide) rfl ?_
  refine g_iconst (v := 0) hX dX0_forgetHomeless_12 (by decide) ?_
  refine g_istore_n (L' := [(3, .int 0), (2, .int 1), (1, .ref (b + (r (r q_1 2) (ix 2)))), (0, .ref (b + p0))]) hX dX0_forgetHomeless_13 (i := 3) rfl (by decide) rfl ?_
  refine g_sub (L' := [(0, .ref (b + p0)), (1, .ref (b + (r (r q_1 2) (ix 2)))), (2, .int 1), (3, .int 0)]) [3, 2, 1, 0] rfl ?_
  exact kX0_forgetHomeless_b14 hX hM hW hA p0 t0 hR lpF h (r (r q_1 2) (ix 2)) 1 0 ta8 hF
theorem ctX0_forgetHomeless {b N sz : Nat} {ok : Nat → Prop} {h : HH} {r : RR} {w : HH} (hM : N ≤ MA) (hW : WT KA lnA ok N r) (hA : ∀ p, KA p < 16 → ok p) (p0 : Nat) (t0 : KA p0 = 0 ∧ ok p0) (hF : fX0_forgetHomeless h r p0 = some w) : CT yX0_forgetHomeless cX0_forgetHomeless 5 (none) 2 b KA lnA MA N sz [.ref (b + p0)] h r N sz none w r 0 0 :=
  CT_of (by decide) rfl (Nat.le_of_ble_eq_true rfl) (by decide) trivial (fun X hX hR => kX0_forgetHomeless hX hM hW hA p0 t0 hR hF)
/-! X0_carryOut -/
def fX0_carryOut_b75 (r : RR) (p0 : Nat) (k34 : HH → Int32 → Option (HH)) (k41 : HH → Int32 → Int32 → Option (HH)) (h : HH) (x1 : Int32) (x2 : Int32) : Option (HH) := k41 h x1 (x2 + 1)
def fX0_carryOut_b41 (r : RR) (p0 : Nat) (k34 : HH → Int32 → Option (HH)) : Nat → HH → Int32 → Int32 → Option (HH)
  | 0, _, _, _ => none
  | n + 1, h, x1, x2 => if (h p0 4) ≤ x2 then (k34 h (x1 + 1)) else (gd (inb x2 (lnA (r p0 1))) (if ¬ (h (r p0 1) (ix x2)) = 0 then (fX0_carryOut_b75 r p0 k34 (fun h_ z1_ z2_ => fX0_carryOut_b41 r p0 k34 n h_ z1_ z2_) h x1 x2) else (gwd (h p0 0) (fun q_59 => gd (inb x1 (lnA (r q_59 2))) ((fX5_putAsIn h r (r (r q_59 2) (ix x1)) (r p0 3) x2).bind (fun h72 => fX0_carryOut_b75 r p0 k34 (fun h_ z1_ z2_ => fX0_carryOut_b41 r p0 k34 n h_ z1_ z2_) h72 x1 x2))))))
def fX0_carryOut_b34 (r : RR) (p0 : Nat) : Nat → HH → Int32 → Option (HH)
  | 0, _, _ => none
  | n + 1, h, x1 => if 3 ≤ x1 then (gwd (h p0 0) (fun q_88 => lt (up h q_88 0 (h p0 4)) (fun h95 => (fX0_forgetHomeless h95 r p0).bind (fun h99 => some h99)))) else (fX0_carryOut_b41 r p0 (fun h_ z1_ => fX0_carryOut_b34 r p0 n h_ z1_) lpF h x1 0)
def fX0_carryOut_b8 (r : RR) (p0 : Nat) : Nat → HH → Int32 → Option (HH)
  | 0, _, _ => none
  | n + 1, h, x1 => if (h p0 4) ≤ x1 then (fX0_carryOut_b34 r p0 lpF h 0) else (gwd (h p0 0) (fun q_17 => gd (inb x1 (lnA (r q_17 1))) (lt (up h (r q_17 1) (ix x1) (zn 0)) (fun h25 => fX0_carryOut_b8 r p0 n h25 (x1 + 1)))))
def fX0_carryOut (h : HH) (r : RR) (p0 : Nat) : Option (HH) := gwd (h p0 0) (fun q_1 => lt (h q_1 0) (fun y7 => fX0_carryOut_b8 r p0 lpF h y7))
set_option maxRecDepth 100000 in
set_option maxHeartbeats 4000000 in
theorem kX0_carryOut_b75 {X : XT} {b N sz : Nat} {ok : Nat → Prop} {r : RR} {w : HH} (hX : XOK X RX0 cX0_carryOut 3 3) (hM : N ≤ MA) (hW : WT KA lnA ok N r) (hA : ∀ p, KA p < 16 → ok p) (p0 : Nat) (t0 : KA p0 = 0 ∧ ok p0) (hR : XR X b KA lnA MA (none) 0 0 N sz none w r) (k34 : HH → Int32 → Option (HH)) (hk34 : ∀ (h : HH) (x1 : Int32), k34 h x1 = some w → GX X b KA lnA MA 3 0 0 N sz 34 [(0, .ref (b + p0)), (1, .int x1)] [] h r) (k41 : HH → Int32 → Int32 → Option (HH)) (hk41 : ∀ (h : HH) (x1 : Int32) (x2 : Int32), k41 h x1 x2 = some w → GX X b KA lnA MA 3 0 0 N sz 41 [(0, .ref (b + p0)), (1, .int x1), (2, .int x2)] [] h r) (h : HH) (x1 : Int32) (x2 : Int32) (hF : fX0_carryOut_b75 r p0 k34 k41 h x1 x2 = some w) : GX X b KA lnA MA 3 0 0 N sz 75 [(0, .ref (b + p0)), (1, .int x1), (2, .int x2)] [] h r := by
  rw [fX0_carryOut_b75] at hF
  refine g_iinc (L' := [(2, .int (x2 + 1)), (0, .ref (b + p0)), (1, .int x1)]) (j := 2) hX dX0_carryOut_75 rfl rfl (by decide) rfl ?_
  refine g_goto (tgt := 41) hX dX0_carryOut_78 (by decide) ?_
  refine g_sub (L' := [(0, .ref (b + p0)), (1, .int x1), (2, .int (x2 + 1))]) [1, 2, 0] rfl ?_
  exact hk41 h x1 (x2 + 1) hF
set_option maxRecDepth 100000 in
set_option maxHeartbeats 4000000 in
theorem kX0_carryOut_b41 {X : XT} {b N sz : Nat} {ok : Nat → Prop} {r : RR} {w : HH} (hX : XOK X RX0 cX0_carryOut 3 3) (hM : N ≤ MA) (hW : WT KA lnA ok N r) (hA : ∀ p, KA p < 16 → ok p) (p0 : Nat) (t0 : KA p0 = 0 ∧ ok p0) (hR : XR X b KA lnA MA (none) 0 0 N sz none w r) (k34 : HH → Int32 → Option (HH)) (hk34 : ∀ (h : HH) (x1 : Int32), k34 h x1 = some w → GX X b KA lnA MA 3 0 0 N sz 34 [(0, .ref (b + p0)), (1, .int x1)] [] h r) : ∀ (n : Nat) (h : HH) (x1 : Int32) (x2 : Int32), fX0_carryOut_b41 r p0 k34 n h x1 x2 = some w → GX X b KA lnA MA 3 0 0 N sz 41 [(0, .ref (b + p0)), (1, .int x1), (2, .int x2)] [] h r := by
  intro n
  induction n with
  | zero =>
    intro h x1 x2 hF
    cases hF
  | succ n ih =>
    intro h x1 x2 hF
    rw [fX0_carryOut_b41] at hF
    refine g_iload_n hX dX0_carryOut_41 (i := 2) rfl (j := 2) rfl ?_
    refine g_aload_n hX dX0_carryOut_42 (i := 0) rfl (j := 0) rfl ?_
    refine gf_X0_27 hX dX0_carryOut_43 (ty1 hW t0) ?_
    refine g_icmp_ge (tgt := 81) hX dX0_carryOut_46 (by decide) (fun c46 => ?_) (fun c46 => ?_)
    · have hF := ite_t hF c46
      refine g_iinc (L' := [(1, .int (x1 + 1)), (0, .ref (b + p0)), (2, .int x2)]) (j := 1) hX dX0_carryOut_81 rfl rfl (by decide) rfl ?_
      refine g_goto (tgt := 34) hX dX0_carryOut_84 (by decide) ?_
      refine g_sub (L' := [(0, .ref (b + p0)), (1, .int (x1 + 1))]) [1, 0] rfl ?_
      exact hk34 h (x1 + 1) hF
    · have hF := ite_f hF c46
      refine g_aload_n hX dX0_carryOut_49 (i := 0) rfl (j := 0) rfl ?_
      have tf50 := (tyF (k := 1) hW t0 (by decide) rfl (by decide) : KA (r p0 1) = 10 ∧ ok (r p0 1))
      refine gf_X0_9 hX dX0_carryOut_50 (ty1 hW t0) (hW.1 _ tf50.2).1 ?_
      refine g_iload_n hX dX0_carryOut_53 (i := 2) rfl (j := 2) rfl ?_
      obtain ⟨g54, hF⟩ := gd_some hF
      refine g_bald hX dX0_carryOut_54 tf50.1 (hW.1 _ tf50.2).1 (hW.1 _ tf50.2).2 g54 ?_
      refine g_if_ne (tgt := 75) hX dX0_carryOut_55 (by decide) (fun c55 => ?_) (fun c55 => ?_)
      · have hF := ite_t hF c55
        refine g_sub (L' := [(0, .ref (b + p0)), (1, .int x1), (2, .int x2)]) [0, 1, 2] rfl ?_
        exact kX0_carryOut_b75 hX hM hW hA p0 t0 hR k34 hk34 (fun h_ z1_ z2_ => fX0_carryOut_b41 r p0 k34 n h_ z1_ z2_) ih h x1 x2 hF
      · have hF := ite_f hF (fun z => z c55)
        refine g_aload_n hX dX0_carryOut_58 (i := 0) rfl (j := 0) rfl ?_
        obtain ⟨q_59, w59, z59, hF⟩ := gwd_some hF
        have tw59 := ty_w hA z59
        refine gw_X0_44 hX dX0_carryOut_59 (ty1 hW t0) w59 (hW.1 _ tw59.2).1 ?_
        have tf62 := (tyF (k := 2) hW tw59 (by decide) rfl (by decide) : KA (r q_59 2) = 13 ∧ ok (r q_59 2))
        refine gf_X0_57 hX dX0_carryOut_62 (ty1 hW tw59) (hW.1 _ tf62.2).1 ?_
        refine g_iload_n hX dX0_carryOut_65 (i := 1) rfl (j := 1) rfl ?_
        obtain ⟨g66, hF⟩ := gd_some hF
        have ta66 : KA (r (r q_59 2) (ix x1)) = 5 ∧ ok (r (r q_59 2) (ix x1)) := tyA hW tf62 (by decide) rfl (by decide) g66
        refine g_aald hX dX0_carryOut_66 tf62.1 (by decide) (by decide) (hW.1 _ tf62.2).1 (hW.1 _ tf62.2).2 g66 (hW.1 _ ta66.2).1 ?_
        refine g_aload_n hX dX0_carryOut_67 (i := 0) rfl (j := 0) rfl ?_
        have tf68 := (tyF (k := 3) hW t0 (by decide) rfl (by decide) : KA (r p0 3) = 5 ∧ ok (r p0 3))
        refine gf_X0_23 hX dX0_carryOut_68 (ty1 hW t0) (hW.1 _ tf68.2).1 ?_
        refine g_iload_n hX dX0_carryOut_71 (i := 2) rfl (j := 2) rfl ?_
        obtain ⟨h72, e72, hF⟩ := bi_some hF
        refine g_callV (As := [.ref (b + (r p0 3)), .int x2]) (rest := []) (stk := []) hX dX0_carryOut_72 (ctX5_putAsIn hM hW (r (r q_59 2) (ix x1)) (r p0 3) x2 ta66 tf68 e72) (by decide) (by decide) wm_X0_158 wi_X5_putAsIn ws_X5_putAsIn wz_X5 wc_X5_putAsIn hyX5_putAsIn rfl (ci := 5) rfl (by decide) ta66.1 (hW.1 _ ta66.2).1 (hW.1 _ ta66.2).2 (Nat.le_of_ble_eq_true rfl) rfl rfl ?_ rfl rfl
        refine g_sub (L' := [(0, .ref (b + p0)), (1, .int x1), (2, .int x2)]) [0, 1, 2] rfl ?_
        exact kX0_carryOut_b75 hX hM hW hA p0 t0 hR k34 hk34 (fun h_ z1_ z2_ => fX0_carryOut_b41 r p0 k34 n h_ z1_ z2_) ih h72 x1 x2 hF
set_option maxRecDepth 100000 in
set_option maxHeartbeats 4000000 in
theorem kX0_carryOut_b34 {X : XT} {b N sz : Nat} {ok : Nat → Prop} {r : RR} {w : HH} (hX : XOK X RX0 cX0_carryOut 3 3) (hM : N ≤ MA) (hW : WT KA lnA ok N r) (hA : ∀ p, KA p < 16 → ok p) (p0 : Nat) (t0 : KA p0 = 0 ∧ ok p0) (hR : XR X b KA lnA MA (none) 0 0 N sz none w r) : ∀ (n : Nat) (h : HH) (x1 : Int32), fX0_carryOut_b34 r p0 n h x1 = some w → GX X b KA lnA MA 3 0 0 N sz 34 [(0, .ref (b + p0)), (1, .int x1)] [] h r := by
  intro n
  induction n with
  | zero =>
    intro h x1 hF
    cases hF
  | succ n ih =>
    intro h x1 hF
    rw [fX0_carryOut_b34] at hF
    refine g_iload_n hX dX0_carryOut_34 (i := 1) rfl (j := 1) rfl ?_
    refine g_iconst (v := 3) hX dX0_carryOut_35 (by decide) ?_
    refine g_icmp_ge (tgt := 87) hX dX0_carryOut_36 (by decide) (fun c36 => ?_) (fun c36 => ?_)
    · have hF := ite_t hF c36
      refine g_aload_n hX dX0_carryOut_87 (i := 0) rfl (j := 0) rfl ?_
      obtain ⟨q_88, w88, z88, hF⟩ := gwd_some hF
      have tw88 := ty_w hA z88
      refine gw_X0_44 hX dX0_carryOut_88 (ty1 hW t0) w88 (hW.1 _ tw88.2).1 ?_
      refine g_aload_n hX dX0_carryOut_91 (i := 0) rfl (j := 0) rfl ?_
      refine gf_X0_27 hX dX0_carryOut_92 (ty1 hW t0) ?_
      obtain ⟨h95, e95, hF⟩ := lt_some hF
      refine pf_X0_86 hX dX0_carryOut_95 (ty1 hW tw88) hM e95 ?_
      refine g_aload_n hX dX0_carryOut_98 (i := 0) rfl (j := 0) rfl ?_
      obtain ⟨h99, e99, hF⟩ := bi_some hF
      refine g_callV (As := []) (rest := []) (stk := []) hX dX0_carryOut_99 (ctX0_forgetHomeless hM hW hA p0 t0 e99) (by decide) (by decide) wm_X0_162 wi_X0_forgetHomeless ws_X0_forgetHomeless wz_X0 wc_X0_forgetHomeless hyX0_forgetHomeless rfl (ci := 0) rfl (by decide) t0.1 (hW.1 _ t0.2).1 (hW.1 _ t0.2).2 (Nat.le_of_ble_eq_true rfl) rfl rfl ?_ rfl rfl
      obtain rfl := Option.some.inj hF
      exact g_vret hX dX0_carryOut_102 hR
    · have hF := ite_f hF c36
      refine g_iconst (v := 0) hX dX0_carryOut_39 (by decide) ?_
      refine g_istore_n (L' := [(2, .int 0), (0, .ref (b + p0)), (1, .int x1)]) hX dX0_carryOut_40 (i := 2) rfl (by decide) rfl ?_
      refine g_sub (L' := [(0, .ref (b + p0)), (1, .int x1), (2, .int 0)]) [1, 2, 0] rfl ?_
      exact kX0_carryOut_b41 hX hM hW hA p0 t0 hR (fun h_ z1_ => fX0_carryOut_b34 r p0 n h_ z1_) ih lpF h x1 0 hF
set_option maxRecDepth 100000 in
set_option maxHeartbeats 4000000 in
theorem kX0_carryOut_b8 {X : XT} {b N sz : Nat} {ok : Nat → Prop} {r : RR} {w : HH} (hX : XOK X RX0 cX0_carryOut 3 3) (hM : N ≤ MA) (hW : WT KA lnA ok N r) (hA : ∀ p, KA p < 16 → ok p) (p0 : Nat) (t0 : KA p0 = 0 ∧ ok p0) (hR : XR X b KA lnA MA (none) 0 0 N sz none w r) : ∀ (n : Nat) (h : HH) (x1 : Int32), fX0_carryOut_b8 r p0 n h x1 = some w → GX X b KA lnA MA 3 0 0 N sz 8 [(0, .ref (b + p0)), (1, .int x1)] [] h r := by
  intro n
  induction n with
  | zero =>
    intro h x1 hF
    cases hF
  | succ n ih =>
    intro h x1 hF
    rw [fX0_carryOut_b8] at hF
    refine g_iload_n hX dX0_carryOut_8 (i := 1) rfl (j := 1) rfl ?_
    refine g_aload_n hX dX0_carryOut_9 (i := 0) rfl (j := 0) rfl ?_
    refine gf_X0_27 hX dX0_carryOut_10 (ty1 hW t0) ?_
    refine g_icmp_ge (tgt := 32) hX dX0_carryOut_13 (by decide) (fun c13 => ?_) (fun c13 => ?_)
    · have hF := ite_t hF c13
      refine g_iconst (v := 0) hX dX0_carryOut_32 (by decide) ?_
      refine g_istore_n (L' := [(1, .int 0), (0, .ref (b + p0))]) hX dX0_carryOut_33 (i := 1) rfl (by decide) rfl ?_
      refine g_sub (L' := [(0, .ref (b + p0)), (1, .int 0)]) [1, 0] rfl ?_
      exact kX0_carryOut_b34 hX hM hW hA p0 t0 hR lpF h 0 hF
    · have hF := ite_f hF c13
      refine g_aload_n hX dX0_carryOut_16 (i := 0) rfl (j := 0) rfl ?_
      obtain ⟨q_17, w17, z17, hF⟩ := gwd_some hF
      have tw17 := ty_w hA z17
      refine gw_X0_44 hX dX0_carryOut_17 (ty1 hW t0) w17 (hW.1 _ tw17.2).1 ?_
      have tf20 := (tyF (k := 1) hW tw17 (by decide) rfl (by decide) : KA (r q_17 1) = 10 ∧ ok (r q_17 1))
      refine gf_X0_155 hX dX0_carryOut_20 (ty1 hW tw17) (hW.1 _ tf20.2).1 ?_
      refine g_iload_n hX dX0_carryOut_23 (i := 1) rfl (j := 1) rfl ?_
      refine g_iconst (v := 0) hX dX0_carryOut_24 (by decide) ?_
      obtain ⟨g25, hF⟩ := gd_some hF
      obtain ⟨h25, e25, hF⟩ := lt_some hF
      refine g_bast hX dX0_carryOut_25 tf20.1 (hW.1 _ tf20.2).1 (hW.1 _ tf20.2).2 hM g25 e25 ?_
      refine g_iinc (L' := [(1, .int (x1 + 1)), (0, .ref (b + p0))]) (j := 1) hX dX0_carryOut_26 rfl rfl (by decide) rfl ?_
      refine g_goto (tgt := 8) hX dX0_carryOut_29 (by decide) ?_
      refine g_sub (L' := [(0, .ref (b + p0)), (1, .int (x1 + 1))]) [1, 0] rfl ?_
      exact ih h25 (x1 + 1) hF
set_option maxRecDepth 100000 in
set_option maxHeartbeats 4000000 in
theorem kX0_carryOut {X : XT} {b N sz : Nat} {ok : Nat → Prop} {h : HH} {r : RR} {w : HH} (hX : XOK X RX0 cX0_carryOut 3 3) (hM : N ≤ MA) (hW : WT KA lnA ok N r) (hA : ∀ p, KA p < 16 → ok p) (p0 : Nat) (t0 : KA p0 = 0 ∧ ok p0) (hR : XR X b KA lnA MA (none) 0 0 N sz none w r) (hF : fX0_carryOut h r p0 = some w) : GX X b KA lnA MA 3 0 0 N sz 0 [(0, .ref (b + p0))] [] h r := by
  rw [fX0_carryOut] at hF
  refine g_aload_n hX dX0_carryOut_0 (i := 0) rfl (j := 0) rfl ?_
  obtain ⟨q_1, w1, z1, hF⟩ := gwd_some hF
  have tw1 := ty_w hA z1
  refine gw_X0_44 hX dX0_carryOut_1 (ty1 hW t0) w1 (hW.1 _ tw1.2).1 ?_
  refine gf_X0_86 hX dX0_carryOut_4 (ty1 hW tw1) ?_
  obtain ⟨y7, e7, hF⟩ := lt_some hF
  refine g_topi e7 ?_
  refine g_istore_n (L' := [(1, .int y7), (0, .ref (b + p0))]) hX dX0_carryOut_7 (i := 1) rfl (by decide) rfl ?_
  refine g_sub (L' := [(0, .ref (b + p0)), (1, .int y7)]) [1, 0] rfl ?_
  exact kX0_carryOut_b8 hX hM hW hA p0 t0 hR lpF h y7 hF
theorem ctX0_carryOut {b N sz : Nat} {ok : Nat → Prop} {h : HH} {r : RR} {w : HH} (hM : N ≤ MA) (hW : WT KA lnA ok N r) (hA : ∀ p, KA p < 16 → ok p) (p0 : Nat) (t0 : KA p0 = 0 ∧ ok p0) (hF : fX0_carryOut h r p0 = some w) : CT yX0_carryOut cX0_carryOut 3 (none) 3 b KA lnA MA N sz [.ref (b + p0)] h r N sz none w r 0 0 :=
  CT_of (by decide) rfl (Nat.le_of_ble_eq_true rfl) (by decide) trivial (fun X hX hR => kX0_carryOut hX hM hW hA p0 t0 hR hF)
/-! X1_become -/
def fX1_become (h : HH) (r : RR) (p0 : Nat) (p1 : Nat) : Option (HH) := gd (cpok 0 0 8 (lnA (r p1 0)) (lnA (r p0 0))) (lt (cpH h (r p1 0) (r p0 0) (ix 0) (ix 0) (ix 8)) (fun h12 => lt (up h12 p0 1 (h12 p1 1)) (fun h20 => bz (h20 p1 2) (lt (up h20 p0 2 (h20 p1 2)) (fun h28 => some h28)))))
set_option maxRecDepth 100000 in
set_option maxHeartbeats 4000000 in
theorem kX1_become {X : XT} {b N sz : Nat} {ok : Nat → Prop} {h : HH} {r : RR} {w : HH} (hX : XOK X RX1 cX1_become 2 1) (hM : N ≤ MA) (hW : WT KA lnA ok N r) (p0 : Nat) (p1 : Nat) (t0 : KA p0 = 1 ∧ ok p0) (t1 : KA p1 = 1 ∧ ok p1) (hR : XR X b KA lnA MA (none) 0 0 N sz none w r) (hF : fX1_become h r p0 p1 = some w) : GX X b KA lnA MA 2 0 0 N sz 0 [(0, .ref (b + p0)), (1, .ref (b + p1))] [] h r := by
  rw [fX1_become] at hF
  refine g_aload_n hX dX1_become_0 (i := 1) rfl (j := 1) rfl ?_
  have tf1 := (tyF (k := 0) hW t1 (by decide) rfl (by decide) : KA (r p1 0) = 9 ∧ ok (r p1 0))
  refine gf_X1_9 hX dX1_become_1 (ty1 hW t1) (hW.1 _ tf1.2).1 ?_
  refine g_iconst (v := 0) hX dX1_become_4 (by decide) ?_
  refine g_aload_n hX dX1_become_5 (i := 0) rfl (j := 0) rfl ?_
  have tf6 := (tyF (k := 0) hW t0 (by decide) rfl (by decide) : KA (r p0 0) = 9 ∧ ok (r p0 0))
  refine gf_X1_9 hX dX1_become_6 (ty1 hW t0) (hW.1 _ tf6.2).1 ?_
  refine g_iconst (v := 0) hX dX1_become_9 (by decide) ?_
  refine g_bipush (v := 8) hX dX1_become_10 (by decide) ?_
  obtain ⟨g12, hF⟩ := gd_some hF
  obtain ⟨h12, e12, hF⟩ := lt_some hF
  refine g_acopy hX dX1_become_12 wm_X1_27 (ty1 hW tf1) (ty1 hW tf6) (by decide) hM g12 (by decide) (Nat.le_of_ble_eq_true rfl) e12 ?_
  refine g_aload_n hX dX1_become_15 (i := 0) rfl (j := 0) rfl ?_
  refine g_aload_n hX dX1_become_16 (i := 1) rfl (j := 1) rfl ?_
  refine gf_X1_23 hX dX1_become_17 (ty1 hW t1) ?_
  obtain ⟨h20, e20, hF⟩ := lt_some hF
  refine pf_X1_23 hX dX1_become_20 (ty1 hW t0) hM e20 ?_
  refine g_aload_n hX dX1_become_23 (i := 0) rfl (j := 0) rfl ?_
  refine g_aload_n hX dX1_become_24 (i := 1) rfl (j := 1) rfl ?_
  refine gf_X1_33 hX dX1_become_25 (ty1 hW t1) ?_
  obtain ⟨z28, hF⟩ := bz_some hF
  obtain ⟨h28, e28, hF⟩ := lt_some hF
  refine pf_X1_33 hX dX1_become_28 (ty1 hW t0) hM z28 e28 ?_
  obtain rfl := Option.some.inj hF
  exact g_vret hX dX1_become_31 hR
theorem ctX1_become {b N sz : Nat} {ok : Nat → Prop} {h : HH} {r : RR} {w : HH} (hM : N ≤ MA) (hW : WT KA lnA ok N r) (p0 : Nat) (p1 : Nat) (t0 : KA p0 = 1 ∧ ok p0) (t1 : KA p1 = 1 ∧ ok p1) (hF : fX1_become h r p0 p1 = some w) : CT yX1_become cX1_become 2 (none) 1 b KA lnA MA N sz [.ref (b + p0), .ref (b + p1)] h r N sz none w r 0 0 :=
  CT_of (by decide) rfl (Nat.le_of_ble_eq_true rfl) (by decide) trivial (fun X hX hR => kX1_become hX hM hW p0 p1 t0 t1 hR hF)
/-! X2_add -/
def fX2_add (h : HH) (r : RR) (p0 : Nat) (a1 : Int32) (a2 : Int32) : Option (HH) := if 120 ≤ (h p0 4) then (some h) else (gd (inb (h p0 4) (lnA (r p0 0))) (lt (up h (r p0 0) (ix (h p0 4)) a1) (fun h18 => gd (inb (h18 p0 4) (lnA (r p0 1))) (lt (up h18 (r p0 1) (ix (h18 p0 4)) a2) (fun h28 => lt (up h28 p0 4 ((h28 p0 4) + 1)) (fun h36 => some h36))))))
set_option maxRecDepth 100000 in
set_option maxHeartbeats 4000000 in
theorem kX2_add {X : XT} {b N sz : Nat} {ok : Nat → Prop} {h : HH} {r : RR} {w : HH} (hX : XOK X RX2 cX2_add 3 1) (hM : N ≤ MA) (hW : WT KA lnA ok N r) (p0 : Nat) (a1 : Int32) (a2 : Int32) (t0 : KA p0 = 2 ∧ ok p0) (hR : XR X b KA lnA MA (none) 0 0 N sz none w r) (hF : fX2_add h r p0 a1 a2 = some w) : GX X b KA lnA MA 3 0 0 N sz 0 [(0, .ref (b + p0)), (1, .int a1), (2, .int a2)] [] h r := by
  rw [fX2_add] at hF
  refine g_aload_n hX dX2_add_0 (i := 0) rfl (j := 0) rfl ?_
  refine gf_X2_25 hX dX2_add_1 (ty1 hW t0) ?_
  refine g_bipush (v := 120) hX dX2_add_4 (by decide) ?_
  refine g_icmp_ge (tgt := 39) hX dX2_add_6 (by decide) (fun c6 => ?_) (fun c6 => ?_)
  · have hF := ite_t hF c6
    obtain rfl := Option.some.inj hF
    exact g_vret hX dX2_add_39 hR
  · have hF := ite_f hF c6
    refine g_aload_n hX dX2_add_9 (i := 0) rfl (j := 0) rfl ?_
    have tf10 := (tyF (k := 0) hW t0 (by decide) rfl (by decide) : KA (r p0 0) = 9 ∧ ok (r p0 0))
    refine gf_X2_9 hX dX2_add_10 (ty1 hW t0) (hW.1 _ tf10.2).1 ?_
    refine g_aload_n hX dX2_add_13 (i := 0) rfl (j := 0) rfl ?_
    refine gf_X2_25 hX dX2_add_14 (ty1 hW t0) ?_
    refine g_iload_n hX dX2_add_17 (i := 1) rfl (j := 1) rfl ?_
    obtain ⟨g18, hF⟩ := gd_some hF
    obtain ⟨h18, e18, hF⟩ := lt_some hF
    refine g_iast hX dX2_add_18 tf10.1 (hW.1 _ tf10.2).1 (hW.1 _ tf10.2).2 hM g18 e18 ?_
    refine g_aload_n hX dX2_add_19 (i := 0) rfl (j := 0) rfl ?_
    have tf20 := (tyF (k := 1) hW t0 (by decide) rfl (by decide) : KA (r p0 1) = 9 ∧ ok (r p0 1))
    refine gf_X2_15 hX dX2_add_20 (ty1 hW t0) (hW.1 _ tf20.2).1 ?_
    refine g_aload_n hX dX2_add_23 (i := 0) rfl (j := 0) rfl ?_
    refine gf_X2_25 hX dX2_add_24 (ty1 hW t0) ?_
    refine g_iload_n hX dX2_add_27 (i := 2) rfl (j := 2) rfl ?_
    obtain ⟨g28, hF⟩ := gd_some hF
    obtain ⟨h28, e28, hF⟩ := lt_some hF
    refine g_iast hX dX2_add_28 tf20.1 (hW.1 _ tf20.2).1 (hW.1 _ tf20.2).2 hM g28 e28 ?_
    refine g_aload_n hX dX2_add_29 (i := 0) rfl (j := 0) rfl ?_
    refine g_dup hX dX2_add_30 rfl ?_
    refine gf_X2_25 hX dX2_add_31 (ty1 hW t0) ?_
    refine g_iconst (v := 1) hX dX2_add_34 (by decide) ?_
    refine g_iadd hX dX2_add_35 ?_
    obtain ⟨h36, e36, hF⟩ := lt_some hF
    refine pf_X2_25 hX dX2_add_36 (ty1 hW t0) hM e36 ?_
    obtain rfl := Option.some.inj hF
    exact g_vret hX dX2_add_39 hR
theorem ctX2_add {b N sz : Nat} {ok : Nat → Prop} {h : HH} {r : RR} {w : HH} (hM : N ≤ MA) (hW : WT KA lnA ok N r) (p0 : Nat) (a1 : Int32) (a2 : Int32) (t0 : KA p0 = 2 ∧ ok p0) (hF : fX2_add h r p0 a1 a2 = some w) : CT yX2_add cX2_add 3 (none) 1 b KA lnA MA N sz [.ref (b + p0), .int a1, .int a2] h r N sz none w r 0 0 :=
  CT_of (by decide) rfl (Nat.le_of_ble_eq_true rfl) (by decide) trivial (fun X hX hR => kX2_add hX hM hW p0 a1 a2 t0 hR hF)
/-! X2_addAtDepth -/
def fX2_addAtDepth_b53 (r : RR) (p0 : Nat) (p1 : Nat) (a2 : Int32) (k2 : HH → Int32 → Option (HH)) (h : HH) (x3 : Int32) : Option (HH) := k2 h (x3 + 1)
def fX2_addAtDepth_b2 (r : RR) (p0 : Nat) (p1 : Nat) (a2 : Int32) : Nat → HH → Int32 → Option (HH)
  | 0, _, _ => none
  | n + 1, h, x3 => if 30 ≤ x3 then (some h) else (gd (inb x3 (lnA (r p0 3))) (if (h (r p0 3) (ix x3)) = a2 then ((fX5_has h r p1 x3).bind (fun v23 => if ¬ v23 = 0 then (gd (inb x3 (lnA (r p0 2))) (if (h (r p0 2) (ix x3)) = 0 then (fX2_addAtDepth_b53 r p0 p1 a2 (fun h_ z3_ => fX2_addAtDepth_b2 r p0 p1 a2 n h_ z3_) h x3) else ((fX2_add h r p0 2 x3).bind (fun h50 => fX2_addAtDepth_b53 r p0 p1 a2 (fun h_ z3_ => fX2_addAtDepth_b2 r p0 p1 a2 n h_ z3_) h50 x3)))) else ((fX2_add h r p0 1 x3).bind (fun h32 => fX2_addAtDepth_b53 r p0 p1 a2 (fun h_ z3_ => fX2_addAtDepth_b2 r p0 p1 a2 n h_ z3_) h32 x3)))) else (fX2_addAtDepth_b53 r p0 p1 a2 (fun h_ z3_ => fX2_addAtDepth_b2 r p0 p1 a2 n h_ z3_) h x3)))
def fX2_addAtDepth (h : HH) (r : RR) (p0 : Nat) (p1 : Nat) (a2 : Int32) : Option (HH) := fX2_addAtDepth_b2 r p0 p1 a2 lpF h 0
set_option maxRecDepth 100000 in
set_option maxHeartbeats 4000000 in
theorem kX2_addAtDepth_b53 {X : XT} {b N sz : Nat} {ok : Nat → Prop} {r : RR} {w : HH} (hX : XOK X RX2 cX2_addAtDepth 4 2) (hM : N ≤ MA) (hW : WT KA lnA ok N r) (p0 : Nat) (p1 : Nat) (a2 : Int32) (t0 : KA p0 = 2 ∧ ok p0) (t1 : KA p1 = 5 ∧ ok p1) (hR : XR X b KA lnA MA (none) 0 0 N sz none w r) (k2 : HH → Int32 → Option (HH)) (hk2 : ∀ (h : HH) (x3 : Int32), k2 h x3 = some w → GX X b KA lnA MA 4 0 0 N sz 2 [(0, .ref (b + p0)), (1, .ref (b + p1)), (2, .int a2), (3, .int x3)] [] h r) (h : HH) (x3 : Int32) (hF : fX2_addAtDepth_b53 r p0 p1 a2 k2 h x3 = some w) : GX X b KA lnA MA 4 0 0 N sz 53 [(0, .ref (b + p0)), (1, .ref (b + p1)), (2, .int a2), (3, .int x3)] [] h r := by
  rw [fX2_addAtDepth_b53] at hF
  refine g_iinc (L' := [(3, .int (x3 + 1)), (0, .ref (b + p0)), (1, .ref (b + p1)), (2, .int a2)]) (j := 3) hX dX2_addAtDepth_53 rfl rfl (by decide) rfl ?_
  refine g_goto (tgt := 2) hX dX2_addAtDepth_56 (by decide) ?_
  refine g_sub (L' := [(0, .ref (b + p0)), (1, .ref (b + p1)), (2, .int a2), (3, .int (x3 + 1))]) [1, 2, 3, 0] rfl ?_
  exact hk2 h (x3 + 1) hF
set_option maxRecDepth 100000 in
set_option maxHeartbeats 4000000 in
theorem kX2_addAtDepth_b2 {X : XT} {b N sz : Nat} {ok : Nat → Prop} {r : RR} {w : HH} (hX : XOK X RX2 cX2_addAtDepth 4 2) (hM : N ≤ MA) (hW : WT KA lnA ok N r) (p0 : Nat) (p1 : Nat) (a2 : Int32) (t0 : KA p0 = 2 ∧ ok p0) (t1 : KA p1 = 5 ∧ ok p1) (hR : XR X b KA lnA MA (none) 0 0 N sz none w r) : ∀ (n : Nat) (h : HH) (x3 : Int32), fX2_addAtDepth_b2 r p0 p1 a2 n h x3 = some w → GX X b KA lnA MA 4 0 0 N sz 2 [(0, .ref (b + p0)), (1, .ref (b + p1)), (2, .int a2), (3, .int x3)] [] h r := by
  intro n
  induction n with
  | zero =>
    intro h x3 hF
    cases hF
  | succ n ih =>
    intro h x3 hF
    rw [fX2_addAtDepth_b2] at hF
    refine g_iload_n hX dX2_addAtDepth_2 (i := 3) rfl (j := 3) rfl ?_
    refine g_bipush (v := 30) hX dX2_addAtDepth_3 (by decide) ?_
    refine g_icmp_ge (tgt := 59) hX dX2_addAtDepth_5 (by decide) (fun c5 => ?_) (fun c5 => ?_)
    · have hF := ite_t hF c5
      obtain rfl := Option.some.inj hF
      exact g_vret hX dX2_addAtDepth_59 hR
    · have hF := ite_f hF c5
      refine g_aload_n hX dX2_addAtDepth_8 (i := 0) rfl (j := 0) rfl ?_
      have tf9 := (tyF (k := 3) hW t0 (by decide) rfl (by decide) : KA (r p0 3) = 9 ∧ ok (r p0 3))
      refine gf_X2_22 hX dX2_addAtDepth_9 (ty1 hW t0) (hW.1 _ tf9.2).1 ?_
      refine g_iload_n hX dX2_addAtDepth_12 (i := 3) rfl (j := 3) rfl ?_
      obtain ⟨g13, hF⟩ := gd_some hF
      refine g_iald hX dX2_addAtDepth_13 tf9.1 (hW.1 _ tf9.2).1 (hW.1 _ tf9.2).2 g13 ?_
      refine g_iload_n hX dX2_addAtDepth_14 (i := 2) rfl (j := 2) rfl ?_
      refine g_icmp_eq (tgt := 21) hX dX2_addAtDepth_15 (by decide) (fun c15 => ?_) (fun c15 => ?_)
      · have hF := ite_t hF c15
        refine g_aload_n hX dX2_addAtDepth_21 (i := 1) rfl (j := 1) rfl ?_
        refine g_iload_n hX dX2_addAtDepth_22 (i := 3) rfl (j := 3) rfl ?_
        obtain ⟨v23, e23, hF⟩ := bi_some hF
        refine g_callV (As := [.int x3]) (rest := []) (stk := [.int v23]) hX dX2_addAtDepth_23 (ctX5_has hM hW p1 x3 t1 e23) (by decide) (by decide) wm_X2_51 wi_X5_has ws_X5_has wz_X5 wc_X5_has hyX5_has rfl (ci := 5) rfl (by decide) t1.1 (hW.1 _ t1.2).1 (hW.1 _ t1.2).2 (Nat.le_of_ble_eq_true rfl) rfl rfl ?_ rfl rfl
        refine g_if_ne (tgt := 38) hX dX2_addAtDepth_26 (by decide) (fun c26 => ?_) (fun c26 => ?_)
        · have hF := ite_t hF c26
          refine g_aload_n hX dX2_addAtDepth_38 (i := 0) rfl (j := 0) rfl ?_
          have tf39 := (tyF (k := 2) hW t0 (by decide) rfl (by decide) : KA (r p0 2) = 10 ∧ ok (r p0 2))
          refine gf_X2_18 hX dX2_addAtDepth_39 (ty1 hW t0) (hW.1 _ tf39.2).1 ?_
          refine g_iload_n hX dX2_addAtDepth_42 (i := 3) rfl (j := 3) rfl ?_
          obtain ⟨g43, hF⟩ := gd_some hF
          refine g_bald hX dX2_addAtDepth_43 tf39.1 (hW.1 _ tf39.2).1 (hW.1 _ tf39.2).2 g43 ?_
          refine g_if_eq (tgt := 53) hX dX2_addAtDepth_44 (by decide) (fun c44 => ?_) (fun c44 => ?_)
          · have hF := ite_t hF c44
            refine g_sub (L' := [(0, .ref (b + p0)), (1, .ref (b + p1)), (2, .int a2), (3, .int x3)]) [0, 1, 2, 3] rfl ?_
            exact kX2_addAtDepth_b53 hX hM hW p0 p1 a2 t0 t1 hR (fun h_ z3_ => fX2_addAtDepth_b2 r p0 p1 a2 n h_ z3_) ih h x3 hF
          · have hF := ite_f hF c44
            refine g_aload_n hX dX2_addAtDepth_47 (i := 0) rfl (j := 0) rfl ?_
            refine g_iconst (v := 2) hX dX2_addAtDepth_48 (by decide) ?_
            refine g_iload_n hX dX2_addAtDepth_49 (i := 3) rfl (j := 3) rfl ?_
            obtain ⟨h50, e50, hF⟩ := bi_some hF
            refine g_callV (As := [.int 2, .int x3]) (rest := []) (stk := []) hX dX2_addAtDepth_50 (ctX2_add hM hW p0 2 x3 t0 e50) (by decide) (by decide) wm_X2_62 wi_X2_add ws_X2_add wz_X2 wc_X2_add hyX2_add rfl (ci := 2) rfl (by decide) t0.1 (hW.1 _ t0.2).1 (hW.1 _ t0.2).2 (Nat.le_of_ble_eq_true rfl) rfl rfl ?_ rfl rfl
            refine g_sub (L' := [(0, .ref (b + p0)), (1, .ref (b + p1)), (2, .int a2), (3, .int x3)]) [0, 1, 2, 3] rfl ?_
            exact kX2_addAtDepth_b53 hX hM hW p0 p1 a2 t0 t1 hR (fun h_ z3_ => fX2_addAtDepth_b2 r p0 p1 a2 n h_ z3_) ih h50 x3 hF
        · have hF := ite_f hF (fun z => z c26)
          refine g_aload_n hX dX2_addAtDepth_29 (i := 0) rfl (j := 0) rfl ?_
          refine g_iconst (v := 1) hX dX2_addAtDepth_30 (by decide) ?_
          refine g_iload_n hX dX2_addAtDepth_31 (i := 3) rfl (j := 3) rfl ?_
          obtain ⟨h32, e32, hF⟩ := bi_some hF
          refine g_callV (As := [.int 1, .int x3]) (rest := []) (stk := []) hX dX2_addAtDepth_32 (ctX2_add hM hW p0 1 x3 t0 e32) (by decide) (by decide) wm_X2_62 wi_X2_add ws_X2_add wz_X2 wc_X2_add hyX2_add rfl (ci := 2) rfl (by decide) t0.1 (hW.1 _ t0.2).1 (hW.1 _ t0.2).2 (Nat.le_of_ble_eq_true rfl) rfl rfl ?_ rfl rfl
          refine g_goto (tgt := 53) hX dX2_addAtDepth_35 (by decide) ?_
          refine g_sub (L' := [(0, .ref (b + p0)), (1, .ref (b + p1)), (2, .int a2), (3, .int x3)]) [0, 1, 2, 3] rfl ?_
          exact kX2_addAtDepth_b53 hX hM hW p0 p1 a2 t0 t1 hR (fun h_ z3_ => fX2_addAtDepth_b2 r p0 p1 a2 n h_ z3_) ih h32 x3 hF
      · have hF := ite_f hF c15
        refine g_goto (tgt := 53) hX dX2_addAtDepth_18 (by decide) ?_
        refine g_sub (L' := [(0, .ref (b + p0)), (1, .ref (b + p1)), (2, .int a2), (3, .int x3)]) [0, 1, 2, 3] rfl ?_
        exact kX2_addAtDepth_b53 hX hM hW p0 p1 a2 t0 t1 hR (fun h_ z3_ => fX2_addAtDepth_b2 r p0 p1 a2 n h_ z3_) ih h x3 hF
set_option maxRecDepth 100000 in
set_option maxHeartbeats 4000000 in
theorem kX2_addAtDepth {X : XT} {b N sz : Nat} {ok : Nat → Prop} {h : HH} {r : RR} {w : HH} (hX : XOK X RX2 cX2_addAtDepth 4 2) (hM : N ≤ MA) (hW : WT KA lnA ok N r) (p0 : Nat) (p1 : Nat) (a2 : Int32) (t0 : KA p0 = 2 ∧ ok p0) (t1 : KA p1 = 5 ∧ ok p1) (hR : XR X b KA lnA MA (none) 0 0 N sz none w r) (hF : fX2_addAtDepth h r p0 p1 a2 = some w) : GX X b KA lnA MA 4 0 0 N sz 0 [(0, .ref (b + p0)), (1, .ref (b + p1)), (2, .int a2)] [] h r := by
  rw [fX2_addAtDepth] at hF
  refine g_iconst (v := 0) hX dX2_addAtDepth_0 (by decide) ?_
  refine g_istore_n (L' := [(3, .int 0), (0, .ref (b + p0)), (1, .ref (b + p1)), (2, .int a2)]) hX dX2_addAtDepth_1 (i := 3) rfl (by decide) rfl ?_
  refine g_sub (L' := [(0, .ref (b + p0)), (1, .ref (b + p1)), (2, .int a2), (3, .int 0)]) [1, 2, 3, 0] rfl ?_
  exact kX2_addAtDepth_b2 hX hM hW p0 p1 a2 t0 t1 hR lpF h 0 hF
theorem ctX2_addAtDepth {b N sz : Nat} {ok : Nat → Prop} {h : HH} {r : RR} {w : HH} (hM : N ≤ MA) (hW : WT KA lnA ok N r) (p0 : Nat) (p1 : Nat) (a2 : Int32) (t0 : KA p0 = 2 ∧ ok p0) (t1 : KA p1 = 5 ∧ ok p1) (hF : fX2_addAtDepth h r p0 p1 a2 = some w) : CT yX2_addAtDepth cX2_addAtDepth 4 (none) 2 b KA lnA MA N sz [.ref (b + p0), .ref (b + p1), .int a2] h r N sz none w r 0 0 :=
  CT_of (by decide) rfl (Nat.le_of_ble_eq_true rfl) (by decide) trivial (fun X hX hR => kX2_addAtDepth hX hM hW p0 p1 a2 t0 t1 hR hF)
/-! X2_lay -/
def fX2_lay_b114 (r : RR) (p0 : Nat) (p1 : Nat) (a2 : Int32) (k24 : HH → Nat → Nat → Int32 → Option (HH)) (h : HH) (q3 : Nat) (q4 : Nat) (x5 : Int32) : Option (HH) := k24 h q3 q4 (x5 + 1)
def fX2_lay_b96 (r : RR) (p0 : Nat) (p1 : Nat) (a2 : Int32) (k24 : HH → Nat → Nat → Int32 → Option (HH)) (h : HH) (u0 : Nat) (s1 : Int32) (s2 : Int32) (q3 : Nat) (q4 : Nat) (x5 : Int32) : Option (HH) := gd (inb s1 (lnA u0)) (lt (up h u0 (ix s1) (zn s2)) (fun h96 => gd (inb x5 (lnA (r p0 2))) (if (h96 (r p0 2) (ix x5)) = 0 then (fX2_lay_b114 r p0 p1 a2 k24 h96 q3 q4 x5) else ((fX2_add h96 r p0 0 x5).bind (fun h111 => fX2_lay_b114 r p0 p1 a2 k24 h111 q3 q4 x5)))))
def fX2_lay_b95 (r : RR) (p0 : Nat) (p1 : Nat) (a2 : Int32) (k24 : HH → Nat → Nat → Int32 → Option (HH)) (h : HH) (u0 : Nat) (s1 : Int32) (q3 : Nat) (q4 : Nat) (x5 : Int32) : Option (HH) := fX2_lay_b96 r p0 p1 a2 k24 h u0 s1 0 q3 q4 x5
def fX2_lay_b91 (r : RR) (p0 : Nat) (p1 : Nat) (a2 : Int32) (k24 : HH → Nat → Nat → Int32 → Option (HH)) (h : HH) (u0 : Nat) (s1 : Int32) (q3 : Nat) (q4 : Nat) (x5 : Int32) : Option (HH) := fX2_lay_b96 r p0 p1 a2 k24 h u0 s1 1 q3 q4 x5
def fX2_lay_b190 (r : RR) (p0 : Nat) (p1 : Nat) (a2 : Int32) (k146 : HH → Nat → Nat → Int32 → Option (HH)) (h : HH) (q3 : Nat) (q4 : Nat) (x5 : Int32) : Option (HH) := k146 h q3 q4 (x5 + 1)
def fX2_lay_b232 (r : RR) (p0 : Nat) (p1 : Nat) (a2 : Int32) (k200 : HH → Nat → Int32 → Option (HH)) (h : HH) (q4 : Nat) (x5 : Int32) : Option (HH) := k200 h q4 (x5 + (-1))
def fX2_lay_b200 (r : RR) (p0 : Nat) (p1 : Nat) (a2 : Int32) : Nat → HH → Nat → Int32 → Option (HH)
  | 0, _, _, _ => none
  | n + 1, h, q4, x5 => if x5 < 0 then (some h) else (gd (inb x5 (lnA (r p0 2))) (if (h (r p0 2) (ix x5)) = 0 then (fX2_lay_b232 r p0 p1 a2 (fun h_ z4_ z5_ => fX2_lay_b200 r p0 p1 a2 n h_ z4_ z5_) h q4 x5) else ((fX5_has h r q4 x5).bind (fun v219 => if ¬ v219 = 0 then (fX2_lay_b232 r p0 p1 a2 (fun h_ z4_ z5_ => fX2_lay_b200 r p0 p1 a2 n h_ z4_ z5_) h q4 x5) else ((fX2_add h r p0 4 x5).bind (fun h229 => fX2_lay_b232 r p0 p1 a2 (fun h_ z4_ z5_ => fX2_lay_b200 r p0 p1 a2 n h_ z4_ z5_) h229 q4 x5))))))
def fX2_lay_b146 (r : RR) (p0 : Nat) (p1 : Nat) (a2 : Int32) : Nat → HH → Nat → Nat → Int32 → Option (HH)
  | 0, _, _, _, _ => none
  | n + 1, h, q3, q4, x5 => if 30 ≤ x5 then (fX2_lay_b200 r p0 p1 a2 lpF h q4 29) else ((fX5_has h r q4 x5).bind (fun v157 => if v157 = 0 then (fX2_lay_b190 r p0 p1 a2 (fun h_ z3_ z4_ z5_ => fX2_lay_b146 r p0 p1 a2 n h_ z3_ z4_ z5_) h q3 q4 x5) else ((fX5_has h r q3 x5).bind (fun v166 => if v166 = 0 then (fX2_lay_b190 r p0 p1 a2 (fun h_ z3_ z4_ z5_ => fX2_lay_b146 r p0 p1 a2 n h_ z3_ z4_ z5_) h q3 q4 x5) else ((fX5_holdsAsIn h r q3 q4 x5).bind (fun v177 => if ¬ v177 = 0 then (fX2_lay_b190 r p0 p1 a2 (fun h_ z3_ z4_ z5_ => fX2_lay_b146 r p0 p1 a2 n h_ z3_ z4_ z5_) h q3 q4 x5) else ((fX2_add h r p0 3 x5).bind (fun h187 => fX2_lay_b190 r p0 p1 a2 (fun h_ z3_ z4_ z5_ => fX2_lay_b146 r p0 p1 a2 n h_ z3_ z4_ z5_) h187 q3 q4 x5))))))))
def fX2_lay_b123 (r : RR) (p0 : Nat) (p1 : Nat) (a2 : Int32) : Nat → HH → Nat → Nat → Int32 → Option (HH)
  | 0, _, _, _, _ => none
  | n + 1, h, q3, q4, x5 => if 30 ≤ x5 then (fX2_lay_b146 r p0 p1 a2 lpF h q3 q4 0) else ((fX2_addAtDepth h r p0 q3 x5).bind (fun h134 => fX2_lay_b123 r p0 p1 a2 n h134 q3 q4 (x5 + 1)))
def fX2_lay_b24 (r : RR) (p0 : Nat) (p1 : Nat) (a2 : Int32) : Nat → HH → Nat → Nat → Int32 → Option (HH)
  | 0, _, _, _, _ => none
  | n + 1, h, q3, q4, x5 => if 30 ≤ x5 then (fX2_lay_b123 r p0 p1 a2 lpF h q3 q4 0) else ((fX5_depth h r q4 x5).bind (fun v41 => gd (inb x5 (lnA (r p0 3))) (lt (up h (r p0 3) (ix x5) v41) (fun h44 => (fX5_has h44 r q3 x5).bind (fun v54 => if v54 = 0 then (fX2_lay_b95 r p0 p1 a2 (fun h_ z3_ z4_ z5_ => fX2_lay_b24 r p0 p1 a2 n h_ z3_ z4_ z5_) h44 (r p0 2) x5 q3 q4 x5) else (gd (inb x5 (lnA (r p1 1))) (if ¬ (h44 (r p1 1) (ix x5)) = 0 then (fX2_lay_b95 r p0 p1 a2 (fun h_ z3_ z4_ z5_ => fX2_lay_b24 r p0 p1 a2 n h_ z3_ z4_ z5_) h44 (r p0 2) x5 q3 q4 x5) else ((fX5_has h44 r q4 x5).bind (fun v74 => if v74 = 0 then (fX2_lay_b91 r p0 p1 a2 (fun h_ z3_ z4_ z5_ => fX2_lay_b24 r p0 p1 a2 n h_ z3_ z4_ z5_) h44 (r p0 2) x5 q3 q4 x5) else ((fX5_placesAsIn h44 r q3 q4 x5).bind (fun v85 => if ¬ v85 = 0 then (fX2_lay_b95 r p0 p1 a2 (fun h_ z3_ z4_ z5_ => fX2_lay_b24 r p0 p1 a2 n h_ z3_ z4_ z5_) h44 (r p0 2) x5 q3 q4 x5) else (fX2_lay_b91 r p0 p1 a2 (fun h_ z3_ z4_ z5_ => fX2_lay_b24 r p0 p1 a2 n h_ z3_ z4_ z5_) h44 (r p0 2) x5 q3 q4 x5))))))))))))
def fX2_lay (h : HH) (r : RR) (p0 : Nat) (p1 : Nat) (a2 : Int32) : Option (HH) := gwd (h p1 0) (fun q_1 => gd (inb a2 (lnA (r q_1 2))) (lt (up h p0 4 0) (fun h18 => fX2_lay_b24 r p0 p1 a2 lpF h18 (r (r q_1 2) (ix a2)) (r p1 3) 0)))
set_option maxRecDepth 100000 in
set_option maxHeartbeats 4000000 in
theorem kX2_lay_b114 {X : XT} {b N sz : Nat} {ok : Nat → Prop} {r : RR} {w : HH} (hX : XOK X RX2 cX2_lay 6 3) (hM : N ≤ MA) (hW : WT KA lnA ok N r) (hA : ∀ p, KA p < 16 → ok p) (p0 : Nat) (p1 : Nat) (a2 : Int32) (t0 : KA p0 = 2 ∧ ok p0) (t1 : KA p1 = 0 ∧ ok p1) (hR : XR X b KA lnA MA (none) 0 0 N sz none w r) (k24 : HH → Nat → Nat → Int32 → Option (HH)) (hk24 : ∀ (h : HH) (q3 : Nat) (q4 : Nat) (x5 : Int32), (KA q3 = 5 ∧ ok q3) → (KA q4 = 5 ∧ ok q4) → k24 h q3 q4 x5 = some w → GX X b KA lnA MA 6 0 0 N sz 24 [(0, .ref (b + p0)), (1, .ref (b + p1)), (2, .int a2), (3, .ref (b + q3)), (4, .ref (b + q4)), (5, .int x5)] [] h r) (h : HH) (q3 : Nat) (q4 : Nat) (x5 : Int32) (t3 : KA q3 = 5 ∧ ok q3) (t4 : KA q4 = 5 ∧ ok q4) (hF : fX2_lay_b114 r p0 p1 a2 k24 h q3 q4 x5 = some w) : GX X b KA lnA MA 6 0 0 N sz 114 [(0, .ref (b + p0)), (1, .ref (b + p1)), (2, .int a2), (3, .ref (b + q3)), (4, .ref (b + q4)), (5, .int x5)] [] h r := by
  rw [fX2_lay_b114] at hF
  refine g_iinc (L' := [(5, .int (x5 + 1)), (0, .ref (b + p0)), (1, .ref (b + p1)), (2, .int a2), (3, .ref (b + q3)), (4, .ref (b + q4))]) (j := 5) hX dX2_lay_114 rfl rfl (by decide) rfl ?_
  refine g_goto (tgt := 24) hX dX2_lay_117 (by decide) ?_
  refine g_sub (L' := [(0, .ref (b + p0)), (1, .ref (b + p1)), (2, .int a2), (3, .ref (b + q3)), (4, .ref (b + q4)), (5, .int (x5 + 1))]) [1, 2, 3, 4, 5, 0] rfl ?_
  exact hk24 h q3 q4 (x5 + 1) t3 t4 hF
set_option maxRecDepth 100000 in
set_option maxHeartbeats 4000000 in
theorem kX2_lay_b96 {X : XT} {b N sz : Nat} {ok : Nat → Prop} {r : RR} {w : HH} (hX : XOK X RX2 cX2_lay 6 3) (hM : N ≤ MA) (hW : WT KA lnA ok N r) (hA : ∀ p, KA p < 16 → ok p) (p0 : Nat) (p1 : Nat) (a2 : Int32) (t0 : KA p0 = 2 ∧ ok p0) (t1 : KA p1 = 0 ∧ ok p1) (hR : XR X b KA lnA MA (none) 0 0 N sz none w r) (k24 : HH → Nat → Nat → Int32 → Option (HH)) (hk24 : ∀ (h : HH) (q3 : Nat) (q4 : Nat) (x5 : Int32), (KA q3 = 5 ∧ ok q3) → (KA q4 = 5 ∧ ok q4) → k24 h q3 q4 x5 = some w → GX X b KA lnA MA 6 0 0 N sz 24 [(0, .ref (b + p0)), (1, .ref (b + p1)), (2, .int a2), (3, .ref (b + q3)), (4, .ref (b + q4)), (5, .int x5)] [] h r) (h : HH) (u0 : Nat) (s1 : Int32) (s2 : Int32) (q3 : Nat) (q4 : Nat) (x5 : Int32) (ts0 : KA u0 = 10 ∧ ok u0) (t3 : KA q3 = 5 ∧ ok q3) (t4 : KA q4 = 5 ∧ ok q4) (hF : fX2_lay_b96 r p0 p1 a2 k24 h u0 s1 s2 q3 q4 x5 = some w) : GX X b KA lnA MA 6 0 0 N sz 96 [(0, .ref (b + p0)), (1, .ref (b + p1)), (2, .int a2), (3, .ref (b + q3)), (4, .ref (b + q4)), (5, .int x5)] [.int s2, .int s1, .ref (b + u0)] h r := by
  rw [fX2_lay_b96] at hF
  obtain ⟨g96, hF⟩ := gd_some hF
  obtain ⟨h96, e96, hF⟩ := lt_some hF
  refine g_bast hX dX2_lay_96 ts0.1 (hW.1 _ ts0.2).1 (hW.1 _ ts0.2).2 hM g96 e96 ?_
  refine g_aload_n hX dX2_lay_97 (i := 0) rfl (j := 0) rfl ?_
  have tf98 := (tyF (k := 2) hW t0 (by decide) rfl (by decide) : KA (r p0 2) = 10 ∧ ok (r p0 2))
  refine gf_X2_18 hX dX2_lay_98 (ty1 hW t0) (hW.1 _ tf98.2).1 ?_
  refine g_iload hX dX2_lay_101 (j := 5) rfl ?_
  obtain ⟨g103, hF⟩ := gd_some hF
  refine g_bald hX dX2_lay_103 tf98.1 (hW.1 _ tf98.2).1 (hW.1 _ tf98.2).2 g103 ?_
  refine g_if_eq (tgt := 114) hX dX2_lay_104 (by decide) (fun c104 => ?_) (fun c104 => ?_)
  · have hF := ite_t hF c104
    refine g_sub (L' := [(0, .ref (b + p0)), (1, .ref (b + p1)), (2, .int a2), (3, .ref (b + q3)), (4, .ref (b + q4)), (5, .int x5)]) [0, 1, 2, 3, 4, 5] rfl ?_
    exact kX2_lay_b114 hX hM hW hA p0 p1 a2 t0 t1 hR k24 hk24 h96 q3 q4 x5 t3 t4 hF
  · have hF := ite_f hF c104
    refine g_aload_n hX dX2_lay_107 (i := 0) rfl (j := 0) rfl ?_
    refine g_iconst (v := 0) hX dX2_lay_108 (by decide) ?_
    refine g_iload hX dX2_lay_109 (j := 5) rfl ?_
    obtain ⟨h111, e111, hF⟩ := bi_some hF
    refine g_callV (As := [.int 0, .int x5]) (rest := []) (stk := []) hX dX2_lay_111 (ctX2_add hM hW p0 0 x5 t0 e111) (by decide) (by decide) wm_X2_62 wi_X2_add ws_X2_add wz_X2 wc_X2_add hyX2_add rfl (ci := 2) rfl (by decide) t0.1 (hW.1 _ t0.2).1 (hW.1 _ t0.2).2 (Nat.le_of_ble_eq_true rfl) rfl rfl ?_ rfl rfl
    refine g_sub (L' := [(0, .ref (b + p0)), (1, .ref (b + p1)), (2, .int a2), (3, .ref (b + q3)), (4, .ref (b + q4)), (5, .int x5)]) [0, 1, 2, 3, 4, 5] rfl ?_
    exact kX2_lay_b114 hX hM hW hA p0 p1 a2 t0 t1 hR k24 hk24 h111 q3 q4 x5 t3 t4 hF
set_option maxRecDepth 100000 in
set_option maxHeartbeats 4000000 in
theorem kX2_lay_b95 {X : XT} {b N sz : Nat} {ok : Nat → Prop} {r : RR} {w : HH} (hX : XOK X RX2 cX2_lay 6 3) (hM : N ≤ MA) (hW : WT KA lnA ok N r) (hA : ∀ p, KA p < 16 → ok p) (p0 : Nat) (p1 : Nat) (a2 : Int32) (t0 : KA p0 = 2 ∧ ok p0) (t1 : KA p1 = 0 ∧ ok p1) (hR : XR X b KA lnA MA (none) 0 0 N sz none w r) (k24 : HH → Nat → Nat → Int32 → Option (HH)) (hk24 : ∀ (h : HH) (q3 : Nat) (q4 : Nat) (x5 : Int32), (KA q3 = 5 ∧ ok q3) → (KA q4 = 5 ∧ ok q4) → k24 h q3 q4 x5 = some w → GX X b KA lnA MA 6 0 0 N sz 24 [(0, .ref (b + p0)), (1, .ref (b + p1)), (2, .int a2), (3, .ref (b + q3)), (4, .ref (b + q4)), (5, .int x5)] [] h r) (h : HH) (u0 : Nat) (s1 : Int32) (q3 : Nat) (q4 : Nat) (x5 : Int32) (ts0 : KA u0 = 10 ∧ ok u0) (t3 : KA q3 = 5 ∧ ok q3) (t4 : KA q4 = 5 ∧ ok q4) (hF : fX2_lay_b95 r p0 p1 a2 k24 h u0 s1 q3 q4 x5 = some w) : GX X b KA lnA MA 6 0 0 N sz 95 [(0, .ref (b + p0)), (1, .ref (b + p1)), (2, .int a2), (3, .ref (b + q3)), (4, .ref (b + q4)), (5, .int x5)] [.int s1, .ref (b + u0)] h r := by
  rw [fX2_lay_b95] at hF
  refine g_iconst (v := 0) hX dX2_lay_95 (by decide) ?_
  refine g_sub (L' := [(0, .ref (b + p0)), (1, .ref (b + p1)), (2, .int a2), (3, .ref (b + q3)), (4, .ref (b + q4)), (5, .int x5)]) [0, 1, 2, 3, 4, 5] rfl ?_
  exact kX2_lay_b96 hX hM hW hA p0 p1 a2 t0 t1 hR k24 hk24 h u0 s1 0 q3 q4 x5 ts0 t3 t4 hF
set_option maxRecDepth 100000 in
set_option maxHeartbeats 4000000 in
theorem kX2_lay_b91 {X : XT} {b N sz : Nat} {ok : Nat → Prop} {r : RR} {w : HH} (hX : XOK X RX2 cX2_lay 6 3) (hM : N ≤ MA) (hW : WT KA lnA ok N r) (hA : ∀ p, KA p < 16 → ok p) (p0 : Nat) (p1 : Nat) (a2 : Int32) (t0 : KA p0 = 2 ∧ ok p0) (t1 : KA p1 = 0 ∧ ok p1) (hR : XR X b KA lnA MA (none) 0 0 N sz none w r) (k24 : HH → Nat → Nat → Int32 → Option (HH)) (hk24 : ∀ (h : HH) (q3 : Nat) (q4 : Nat) (x5 : Int32), (KA q3 = 5 ∧ ok q3) → (KA q4 = 5 ∧ ok q4) → k24 h q3 q4 x5 = some w → GX X b KA lnA MA 6 0 0 N sz 24 [(0, .ref (b + p0)), (1, .ref (b + p1)), (2, .int a2), (3, .ref (b + q3)), (4, .ref (b + q4)), (5, .int x5)] [] h r) (h : HH) (u0 : Nat) (s1 : Int32) (q3 : Nat) (q4 : Nat) (x5 : Int32) (ts0 : KA u0 = 10 ∧ ok u0) (t3 : KA q3 = 5 ∧ ok q3) (t4 : KA q4 = 5 ∧ ok q4) (hF : fX2_lay_b91 r p0 p1 a2 k24 h u0 s1 q3 q4 x5 = some w) : GX X b KA lnA MA 6 0 0 N sz 91 [(0, .ref (b + p0)), (1, .ref (b + p1)), (2, .int a2), (3, .ref (b + q3)), (4, .ref (b + q4)), (5, .int x5)] [.int s1, .ref (b + u0)] h r := by
  rw [fX2_lay_b91] at hF
  refine g_iconst (v := 1) hX dX2_lay_91 (by decide) ?_
  refine g_goto (tgt := 96) hX dX2_lay_92 (by decide) ?_
  refine g_sub (L' := [(0, .ref (b + p0)), (1, .ref (b + p1)), (2, .int a2), (3, .ref (b + q3)), (4, .ref (b + q4)), (5, .int x5)]) [0, 1, 2, 3, 4, 5] rfl ?_
  exact kX2_lay_b96 hX hM hW hA p0 p1 a2 t0 t1 hR k24 hk24 h u0 s1 1 q3 q4 x5 ts0 t3 t4 hF
set_option maxRecDepth 100000 in
set_option maxHeartbeats 4000000 in
theorem kX2_lay_b190 {X : XT} {b N sz : Nat} {ok : Nat → Prop} {r : RR} {w : HH} (hX : XOK X RX2 cX2_lay 6 3) (hM : N ≤ MA) (hW : WT KA lnA ok N r) (hA : ∀ p, KA p < 16 → ok p) (p0 : Nat) (p1 : Nat) (a2 : Int32) (t0 : KA p0 = 2 ∧ ok p0) (t1 : KA p1 = 0 ∧ ok p1) (hR : XR X b KA lnA MA (none) 0 0 N sz none w r) (k146 : HH → Nat → Nat → Int32 → Option (HH)) (hk146 : ∀ (h : HH) (q3 : Nat) (q4 : Nat) (x5 : Int32), (KA q3 = 5 ∧ ok q3) → (KA q4 = 5 ∧ ok q4) → k146 h q3 q4 x5 = some w → GX X b KA lnA MA 6 0 0 N sz 146 [(0, .ref (b + p0)), (1, .ref (b + p1)), (2, .int a2), (3, .ref (b + q3)), (4, .ref (b + q4)), (5, .int x5)] [] h r) (h : HH) (q3 : Nat) (q4 : Nat) (x5 : Int32) (t3 : KA q3 = 5 ∧ ok q3) (t4 : KA q4 = 5 ∧ ok q4) (hF : fX2_lay_b190 r p0 p1 a2 k146 h q3 q4 x5 = some w) : GX X b KA lnA MA 6 0 0 N sz 190 [(0, .ref (b + p0)), (1, .ref (b + p1)), (2, .int a2), (3, .ref (b + q3)), (4, .ref (b + q4)), (5, .int x5)] [] h r := by
  rw [fX2_lay_b190] at hF
  refine g_iinc (L' := [(5, .int (x5 + 1)), (0, .ref (b + p0)), (1, .ref (b + p1)), (2, .int a2), (3, .ref (b + q3)), (4, .ref (b + q4))]) (j := 5) hX dX2_lay_190 rfl rfl (by decide) rfl ?_
  refine g_goto (tgt := 146) hX dX2_lay_193 (by decide) ?_
  refine g_sub (L' := [(0, .ref (b + p0)), (1, .ref (b + p1)), (2, .int a2), (3, .ref (b + q3)), (4, .ref (b + q4)), (5, .int (x5 + 1))]) [1, 2, 3, 4, 5, 0] rfl ?_
  exact hk146 h q3 q4 (x5 + 1) t3 t4 hF
set_option maxRecDepth 100000 in
set_option maxHeartbeats 4000000 in
theorem kX2_lay_b232 {X : XT} {b N sz : Nat} {ok : Nat → Prop} {r : RR} {w : HH} (hX : XOK X RX2 cX2_lay 6 3) (hM : N ≤ MA) (hW : WT KA lnA ok N r) (hA : ∀ p, KA p < 16 → ok p) (p0 : Nat) (p1 : Nat) (a2 : Int32) (t0 : KA p0 = 2 ∧ ok p0) (t1 : KA p1 = 0 ∧ ok p1) (hR : XR X b KA lnA MA (none) 0 0 N sz none w r) (k200 : HH → Nat → Int32 → Option (HH)) (hk200 : ∀ (h : HH) (q4 : Nat) (x5 : Int32), (KA q4 = 5 ∧ ok q4) → k200 h q4 x5 = some w → GX X b KA lnA MA 6 0 0 N sz 200 [(0, .ref (b + p0)), (1, .ref (b + p1)), (2, .int a2), (4, .ref (b + q4)), (5, .int x5)] [] h r) (h : HH) (q4 : Nat) (x5 : Int32) (t4 : KA q4 = 5 ∧ ok q4) (hF : fX2_lay_b232 r p0 p1 a2 k200 h q4 x5 = some w) : GX X b KA lnA MA 6 0 0 N sz 232 [(0, .ref (b + p0)), (1, .ref (b + p1)), (2, .int a2), (4, .ref (b + q4)), (5, .int x5)] [] h r := by
  rw [fX2_lay_b232] at hF
  refine g_iinc (L' := [(5, .int (x5 + (-1))), (0, .ref (b + p0)), (1, .ref (b + p1)), (2, .int a2), (4, .ref (b + q4))]) (j := 4) hX dX2_lay_232 rfl rfl (by decide) rfl ?_
  refine g_goto (tgt := 200) hX dX2_lay_235 (by decide) ?_
  refine g_sub (L' := [(0, .ref (b + p0)), (1, .ref (b + p1)), (2, .int a2), (4, .ref (b + q4)), (5, .int (x5 + (-1)))]) [1, 2, 3, 4, 0] rfl ?_
  exact hk200 h q4 (x5 + (-1)) t4 hF
set_option maxRecDepth 100000 in
set_option maxHeartbeats 4000000 in
theorem kX2_lay_b200 {X : XT} {b N sz : Nat} {ok : Nat → Prop} {r : RR} {w : HH} (hX : XOK X RX2 cX2_lay 6 3) (hM : N ≤ MA) (hW : WT KA lnA ok N r) (hA : ∀ p, KA p < 16 → ok p) (p0 : Nat) (p1 : Nat) (a2 : Int32) (t0 : KA p0 = 2 ∧ ok p0) (t1 : KA p1 = 0 ∧ ok p1) (hR : XR X b KA lnA MA (none) 0 0 N sz none w r) : ∀ (n : Nat) (h : HH) (q4 : Nat) (x5 : Int32), (KA q4 = 5 ∧ ok q4) → fX2_lay_b200 r p0 p1 a2 n h q4 x5 = some w → GX X b KA lnA MA 6 0 0 N sz 200 [(0, .ref (b + p0)), (1, .ref (b + p1)), (2, .int a2), (4, .ref (b + q4)), (5, .int x5)] [] h r := by
  intro n
  induction n with
  | zero =>
    intro h q4 x5 t4 hF
    cases hF
  | succ n ih =>
    intro h q4 x5 t4 hF
    rw [fX2_lay_b200] at hF
    refine g_iload hX dX2_lay_200 (j := 4) rfl ?_
    refine g_if_lt (tgt := 238) hX dX2_lay_202 (by decide) (fun c202 => ?_) (fun c202 => ?_)
    · have hF := ite_t hF c202
      obtain rfl := Option.some.inj hF
      exact g_vret hX dX2_lay_238 hR
    · have hF := ite_f hF c202
      refine g_aload_n hX dX2_lay_205 (i := 0) rfl (j := 0) rfl ?_
      have tf206 := (tyF (k := 2) hW t0 (by decide) rfl (by decide) : KA (r p0 2) = 10 ∧ ok (r p0 2))
      refine gf_X2_18 hX dX2_lay_206 (ty1 hW t0) (hW.1 _ tf206.2).1 ?_
      refine g_iload hX dX2_lay_209 (j := 4) rfl ?_
      obtain ⟨g211, hF⟩ := gd_some hF
      refine g_bald hX dX2_lay_211 tf206.1 (hW.1 _ tf206.2).1 (hW.1 _ tf206.2).2 g211 ?_
      refine g_if_eq (tgt := 232) hX dX2_lay_212 (by decide) (fun c212 => ?_) (fun c212 => ?_)
      · have hF := ite_t hF c212
        refine g_sub (L' := [(0, .ref (b + p0)), (1, .ref (b + p1)), (2, .int a2), (4, .ref (b + q4)), (5, .int x5)]) [0, 1, 2, 3, 4] rfl ?_
        exact kX2_lay_b232 hX hM hW hA p0 p1 a2 t0 t1 hR (fun h_ z4_ z5_ => fX2_lay_b200 r p0 p1 a2 n h_ z4_ z5_) ih h q4 x5 t4 hF
      · have hF := ite_f hF c212
        refine g_aload hX dX2_lay_215 (j := 3) rfl ?_
        refine g_iload hX dX2_lay_217 (j := 4) rfl ?_
        obtain ⟨v219, e219, hF⟩ := bi_some hF
        refine g_callV (As := [.int x5]) (rest := []) (stk := [.int v219]) hX dX2_lay_219 (ctX5_has hM hW q4 x5 t4 e219) (by decide) (by decide) wm_X2_51 wi_X5_has ws_X5_has wz_X5 wc_X5_has hyX5_has rfl (ci := 5) rfl (by decide) t4.1 (hW.1 _ t4.2).1 (hW.1 _ t4.2).2 (Nat.le_of_ble_eq_true rfl) rfl rfl ?_ rfl rfl
        refine g_if_ne (tgt := 232) hX dX2_lay_222 (by decide) (fun c222 => ?_) (fun c222 => ?_)
        · have hF := ite_t hF c222
          refine g_sub (L' := [(0, .ref (b + p0)), (1, .ref (b + p1)), (2, .int a2), (4, .ref (b + q4)), (5, .int x5)]) [0, 1, 2, 3, 4] rfl ?_
          exact kX2_lay_b232 hX hM hW hA p0 p1 a2 t0 t1 hR (fun h_ z4_ z5_ => fX2_lay_b200 r p0 p1 a2 n h_ z4_ z5_) ih h q4 x5 t4 hF
        · have hF := ite_f hF (fun z => z c222)
          refine g_aload_n hX dX2_lay_225 (i := 0) rfl (j := 0) rfl ?_
          refine g_iconst (v := 4) hX dX2_lay_226 (by decide) ?_
          refine g_iload hX dX2_lay_227 (j := 4) rfl ?_
          obtain ⟨h229, e229, hF⟩ := bi_some hF
          refine g_callV (As := [.int 4, .int x5]) (rest := []) (stk := []) hX dX2_lay_229 (ctX2_add hM hW p0 4 x5 t0 e229) (by decide) (by decide) wm_X2_62 wi_X2_add ws_X2_add wz_X2 wc_X2_add hyX2_add rfl (ci := 2) rfl (by decide) t0.1 (hW.1 _ t0.2).1 (hW.1 _ t0.2).2 (Nat.le_of_ble_eq_true rfl) rfl rfl ?_ rfl rfl
          refine g_sub (L' := [(0, .ref (b + p0)), (1, .ref (b + p1)), (2, .int a2), (4, .ref (b + q4)), (5, .int x5)]) [0, 1, 2, 3, 4] rfl ?_
          exact kX2_lay_b232 hX hM hW hA p0 p1 a2 t0 t1 hR (fun h_ z4_ z5_ => fX2_lay_b200 r p0 p1 a2 n h_ z4_ z5_) ih h229 q4 x5 t4 hF
set_option maxRecDepth 100000 in
set_option maxHeartbeats 4000000 in
theorem kX2_lay_b146 {X : XT} {b N sz : Nat} {ok : Nat → Prop} {r : RR} {w : HH} (hX : XOK X RX2 cX2_lay 6 3) (hM : N ≤ MA) (hW : WT KA lnA ok N r) (hA : ∀ p, KA p < 16 → ok p) (p0 : Nat) (p1 : Nat) (a2 : Int32) (t0 : KA p0 = 2 ∧ ok p0) (t1 : KA p1 = 0 ∧ ok p1) (hR : XR X b KA lnA MA (none) 0 0 N sz none w r) : ∀ (n : Nat) (h : HH) (q3 : Nat) (q4 : Nat) (x5 : Int32), (KA q3 = 5 ∧ ok q3) → (KA q4 = 5 ∧ ok q4) → fX2_lay_b146 r p0 p1 a2 n h q3 q4 x5 = some w → GX X b KA lnA MA 6 0 0 N sz 146 [(0, .ref (b + p0)), (1, .ref (b + p1)), (2, .int a2), (3, .ref (b + q3)), (4, .ref (b + q4)), (5, .int x5)] [] h r := by
  intro n
  induction n with
  | zero =>
    intro h q3 q4 x5 t3 t4 hF
    cases hF
  | succ n ih =>
    intro h q3 q4 x5 t3 t4 hF
    rw [fX2_lay_b146] at hF
    refine g_iload hX dX2_lay_146 (j := 5) rfl ?_
    refine g_bipush (v := 30) hX dX2_lay_148 (by decide) ?_
    refine g_icmp_ge (tgt := 196) hX dX2_lay_150 (by decide) (fun c150 => ?_) (fun c150 => ?_)
    · have hF := ite_t hF c150
      refine g_bipush (v := 29) hX dX2_lay_196 (by decide) ?_
      refine g_istore (L' := [(5, .int 29), (0, .ref (b + p0)), (1, .ref (b + p1)), (2, .int a2), (3, .ref (b + q3)), (4, .ref (b + q4))]) hX dX2_lay_198 (by decide) rfl ?_
      refine g_sub (L' := [(0, .ref (b + p0)), (1, .ref (b + p1)), (2, .int a2), (4, .ref (b + q4)), (5, .int 29)]) [1, 2, 3, 5, 0] rfl ?_
      exact kX2_lay_b200 hX hM hW hA p0 p1 a2 t0 t1 hR lpF h q4 29 t4 hF
    · have hF := ite_f hF c150
      refine g_aload hX dX2_lay_153 (j := 4) rfl ?_
      refine g_iload hX dX2_lay_155 (j := 5) rfl ?_
      obtain ⟨v157, e157, hF⟩ := bi_some hF
      refine g_callV (As := [.int x5]) (rest := []) (stk := [.int v157]) hX dX2_lay_157 (ctX5_has hM hW q4 x5 t4 e157) (by decide) (by decide) wm_X2_51 wi_X5_has ws_X5_has wz_X5 wc_X5_has hyX5_has rfl (ci := 5) rfl (by decide) t4.1 (hW.1 _ t4.2).1 (hW.1 _ t4.2).2 (Nat.le_of_ble_eq_true rfl) rfl rfl ?_ rfl rfl
      refine g_if_eq (tgt := 190) hX dX2_lay_160 (by decide) (fun c160 => ?_) (fun c160 => ?_)
      · have hF := ite_t hF c160
        refine g_sub (L' := [(0, .ref (b + p0)), (1, .ref (b + p1)), (2, .int a2), (3, .ref (b + q3)), (4, .ref (b + q4)), (5, .int x5)]) [0, 1, 2, 3, 4, 5] rfl ?_
        exact kX2_lay_b190 hX hM hW hA p0 p1 a2 t0 t1 hR (fun h_ z3_ z4_ z5_ => fX2_lay_b146 r p0 p1 a2 n h_ z3_ z4_ z5_) ih h q3 q4 x5 t3 t4 hF
      · have hF := ite_f hF c160
        refine g_aload_n hX dX2_lay_163 (i := 3) rfl (j := 3) rfl ?_
        refine g_iload hX dX2_lay_164 (j := 5) rfl ?_
        obtain ⟨v166, e166, hF⟩ := bi_some hF
        refine g_callV (As := [.int x5]) (rest := []) (stk := [.int v166]) hX dX2_lay_166 (ctX5_has hM hW q3 x5 t3 e166) (by decide) (by decide) wm_X2_51 wi_X5_has ws_X5_has wz_X5 wc_X5_has hyX5_has rfl (ci := 5) rfl (by decide) t3.1 (hW.1 _ t3.2).1 (hW.1 _ t3.2).2 (Nat.le_of_ble_eq_true rfl) rfl rfl ?_ rfl rfl
        refine g_if_eq (tgt := 190) hX dX2_lay_169 (by decide) (fun c169 => ?_) (fun c169 => ?_)
        · have hF := ite_t hF c169
          refine g_sub (L' := [(0, .ref (b + p0)), (1, .ref (b + p1)), (2, .int a2), (3, .ref (b + q3)), (4, .ref (b + q4)), (5, .int x5)]) [0, 1, 2, 3, 4, 5] rfl ?_
          exact kX2_lay_b190 hX hM hW hA p0 p1 a2 t0 t1 hR (fun h_ z3_ z4_ z5_ => fX2_lay_b146 r p0 p1 a2 n h_ z3_ z4_ z5_) ih h q3 q4 x5 t3 t4 hF
        · have hF := ite_f hF c169
          refine g_aload_n hX dX2_lay_172 (i := 3) rfl (j := 3) rfl ?_
          refine g_aload hX dX2_lay_173 (j := 4) rfl ?_
          refine g_iload hX dX2_lay_175 (j := 5) rfl ?_
          obtain ⟨v177, e177, hF⟩ := bi_some hF
          refine g_callV (As := [.ref (b + q4), .int x5]) (rest := []) (stk := [.int v177]) hX dX2_lay_177 (ctX5_holdsAsIn hM hW q3 q4 x5 t3 t4 e177) (by decide) (by decide) wm_X2_70 wi_X5_holdsAsIn ws_X5_holdsAsIn wz_X5 wc_X5_holdsAsIn hyX5_holdsAsIn rfl (ci := 5) rfl (by decide) t3.1 (hW.1 _ t3.2).1 (hW.1 _ t3.2).2 (Nat.le_of_ble_eq_true rfl) rfl rfl ?_ rfl rfl
          refine g_if_ne (tgt := 190) hX dX2_lay_180 (by decide) (fun c180 => ?_) (fun c180 => ?_)
          · have hF := ite_t hF c180
            refine g_sub (L' := [(0, .ref (b + p0)), (1, .ref (b + p1)), (2, .int a2), (3, .ref (b + q3)), (4, .ref (b + q4)), (5, .int x5)]) [0, 1, 2, 3, 4, 5] rfl ?_
            exact kX2_lay_b190 hX hM hW hA p0 p1 a2 t0 t1 hR (fun h_ z3_ z4_ z5_ => fX2_lay_b146 r p0 p1 a2 n h_ z3_ z4_ z5_) ih h q3 q4 x5 t3 t4 hF
          · have hF := ite_f hF (fun z => z c180)
            refine g_aload_n hX dX2_lay_183 (i := 0) rfl (j := 0) rfl ?_
            refine g_iconst (v := 3) hX dX2_lay_184 (by decide) ?_
            refine g_iload hX dX2_lay_185 (j := 5) rfl ?_
            obtain ⟨h187, e187, hF⟩ := bi_some hF
            refine g_callV (As := [.int 3, .int x5]) (rest := []) (stk := []) hX dX2_lay_187 (ctX2_add hM hW p0 3 x5 t0 e187) (by decide) (by decide) wm_X2_62 wi_X2_add ws_X2_add wz_X2 wc_X2_add hyX2_add rfl (ci := 2) rfl (by decide) t0.1 (hW.1 _ t0.2).1 (hW.1 _ t0.2).2 (Nat.le_of_ble_eq_true rfl) rfl rfl ?_ rfl rfl
            refine g_sub (L' := [(0, .ref (b + p0)), (1, .ref (b + p1)), (2, .int a2), (3, .ref (b + q3)), (4, .ref (b + q4)), (5, .int x5)]) [0, 1, 2, 3, 4, 5] rfl ?_
            exact kX2_lay_b190 hX hM hW hA p0 p1 a2 t0 t1 hR (fun h_ z3_ z4_ z5_ => fX2_lay_b146 r p0 p1 a2 n h_ z3_ z4_ z5_) ih h187 q3 q4 x5 t3 t4 hF
set_option maxRecDepth 100000 in
set_option maxHeartbeats 4000000 in
theorem kX2_lay_b123 {X : XT} {b N sz : Nat} {ok : Nat → Prop} {r : RR} {w : HH} (hX : XOK X RX2 cX2_lay 6 3) (hM : N ≤ MA) (hW : WT KA lnA ok N r) (hA : ∀ p, KA p < 16 → ok p) (p0 : Nat) (p1 : Nat) (a2 : Int32) (t0 : KA p0 = 2 ∧ ok p0) (t1 : KA p1 = 0 ∧ ok p1) (hR : XR X b KA lnA MA (none) 0 0 N sz none w r) : ∀ (n : Nat) (h : HH) (q3 : Nat) (q4 : Nat) (x5 : Int32), (KA q3 = 5 ∧ ok q3) → (KA q4 = 5 ∧ ok q4) → fX2_lay_b123 r p0 p1 a2 n h q3 q4 x5 = some w → GX X b KA lnA MA 6 0 0 N sz 123 [(0, .ref (b + p0)), (1, .ref (b + p1)), (2, .int a2), (3, .ref (b + q3)), (4, .ref (b + q4)), (5, .int x5)] [] h r := by
  intro n
  induction n with
  | zero =>
    intro h q3 q4 x5 t3 t4 hF
    cases hF
  | succ n ih =>
    intro h q3 q4 x5 t3 t4 hF
    rw [fX2_lay_b123] at hF
    refine g_iload hX dX2_lay_123 (j := 5) rfl ?_
    refine g_bipush (v := 30) hX dX2_lay_125 (by decide) ?_
    refine g_icmp_ge (tgt := 143) hX dX2_lay_127 (by decide) (fun c127 => ?_) (fun c127 => ?_)
    · have hF := ite_t hF c127
      refine g_iconst (v := 0) hX dX2_lay_143 (by decide) ?_
      refine g_istore (L' := [(5, .int 0), (0, .ref (b + p0)), (1, .ref (b + p1)), (2, .int a2), (3, .ref (b + q3)), (4, .ref (b + q4))]) hX dX2_lay_144 (by decide) rfl ?_
      refine g_sub (L' := [(0, .ref (b + p0)), (1, .ref (b + p1)), (2, .int a2), (3, .ref (b + q3)), (4, .ref (b + q4)), (5, .int 0)]) [1, 2, 3, 4, 5, 0] rfl ?_
      exact kX2_lay_b146 hX hM hW hA p0 p1 a2 t0 t1 hR lpF h q3 q4 0 t3 t4 hF
    · have hF := ite_f hF c127
      refine g_aload_n hX dX2_lay_130 (i := 0) rfl (j := 0) rfl ?_
      refine g_aload_n hX dX2_lay_131 (i := 3) rfl (j := 3) rfl ?_
      refine g_iload hX dX2_lay_132 (j := 5) rfl ?_
      obtain ⟨h134, e134, hF⟩ := bi_some hF
      refine g_callV (As := [.ref (b + q3), .int x5]) (rest := []) (stk := []) hX dX2_lay_134 (ctX2_addAtDepth hM hW p0 q3 x5 t0 t3 e134) (by decide) (by decide) wm_X2_66 wi_X2_addAtDepth ws_X2_addAtDepth wz_X2 wc_X2_addAtDepth hyX2_addAtDepth rfl (ci := 2) rfl (by decide) t0.1 (hW.1 _ t0.2).1 (hW.1 _ t0.2).2 (Nat.le_of_ble_eq_true rfl) rfl rfl ?_ rfl rfl
      refine g_iinc (L' := [(5, .int (x5 + 1)), (0, .ref (b + p0)), (1, .ref (b + p1)), (2, .int a2), (3, .ref (b + q3)), (4, .ref (b + q4))]) (j := 5) hX dX2_lay_137 rfl rfl (by decide) rfl ?_
      refine g_goto (tgt := 123) hX dX2_lay_140 (by decide) ?_
      refine g_sub (L' := [(0, .ref (b + p0)), (1, .ref (b + p1)), (2, .int a2), (3, .ref (b + q3)), (4, .ref (b + q4)), (5, .int (x5 + 1))]) [1, 2, 3, 4, 5, 0] rfl ?_
      exact ih h134 q3 q4 (x5 + 1) t3 t4 hF
set_option maxRecDepth 100000 in
set_option maxHeartbeats 4000000 in
theorem kX2_lay_b24 {X : XT} {b N sz : Nat} {ok : Nat → Prop} {r : RR} {w : HH} (hX : XOK X RX2 cX2_lay 6 3) (hM : N ≤ MA) (hW : WT KA lnA ok N r) (hA : ∀ p, KA p < 16 → ok p) (p0 : Nat) (p1 : Nat) (a2 : Int32) (t0 : KA p0 = 2 ∧ ok p0) (t1 : KA p1 = 0 ∧ ok p1) (hR : XR X b KA lnA MA (none) 0 0 N sz none w r) : ∀ (n : Nat) (h : HH) (q3 : Nat) (q4 : Nat) (x5 : Int32), (KA q3 = 5 ∧ ok q3) → (KA q4 = 5 ∧ ok q4) → fX2_lay_b24 r p0 p1 a2 n h q3 q4 x5 = some w → GX X b KA lnA MA 6 0 0 N sz 24 [(0, .ref (b + p0)), (1, .ref (b + p1)), (2, .int a2), (3, .ref (b + q3)), (4, .ref (b + q4)), (5, .int x5)] [] h r := by
  intro n
  induction n with
  | zero =>
    intro h q3 q4 x5 t3 t4 hF
    cases hF
  | succ n ih =>
    intro h q3 q4 x5 t3 t4 hF
    rw [fX2_lay_b24] at hF
    refine g_iload hX dX2_lay_24 (j := 5) rfl ?_
    refine g_bipush (v := 30) hX dX2_lay_26 (by decide) ?_
    refine g_icmp_ge (tgt := 120) hX dX2_lay_28 (by decide) (fun c28 => ?_) (fun c28 => ?_)
    · have hF := ite_t hF c28
      refine g_iconst (v := 0) hX dX2_lay_120 (by decide) ?_
      refine g_istore (L' := [(5, .int 0), (0, .ref (b + p0)), (1, .ref (b + p1)), (2, .int a2), (3, .ref (b + q3)), (4, .ref (b + q4))]) hX dX2_lay_121 (by decide) rfl ?_
      refine g_sub (L' := [(0, .ref (b + p0)), (1, .ref (b + p1)), (2, .int a2), (3, .ref (b + q3)), (4, .ref (b + q4)), (5, .int 0)]) [1, 2, 3, 4, 5, 0] rfl ?_
      exact kX2_lay_b123 hX hM hW hA p0 p1 a2 t0 t1 hR lpF h q3 q4 0 t3 t4 hF
    · have hF := ite_f hF c28
      refine g_aload_n hX dX2_lay_31 (i := 0) rfl (j := 0) rfl ?_
      have tf32 := (tyF (k := 3) hW t0 (by decide) rfl (by decide) : KA (r p0 3) = 9 ∧ ok (r p0 3))
      refine gf_X2_22 hX dX2_lay_32 (ty1 hW t0) (hW.1 _ tf32.2).1 ?_
      refine g_iload hX dX2_lay_35 (j := 5) rfl ?_
      refine g_aload hX dX2_lay_37 (j := 4) rfl ?_
      refine g_iload hX dX2_lay_39 (j := 5) rfl ?_
      obtain ⟨v41, e41, hF⟩ := bi_some hF
      refine g_callV (As := [.int x5]) (rest := [.int x5, .ref (b + (r p0 3))]) (stk := [.int v41, .int x5, .ref (b + (r p0 3))]) hX dX2_lay_41 (ctX5_depth hM hW q4 x5 t4 e41) (by decide) (by decide) wm_X2_45 wi_X5_depth ws_X5_depth wz_X5 wc_X5_depth hyX5_depth rfl (ci := 5) rfl (by decide) t4.1 (hW.1 _ t4.2).1 (hW.1 _ t4.2).2 (Nat.le_of_ble_eq_true rfl) rfl rfl ?_ rfl rfl
      obtain ⟨g44, hF⟩ := gd_some hF
      obtain ⟨h44, e44, hF⟩ := lt_some hF
      refine g_iast hX dX2_lay_44 tf32.1 (hW.1 _ tf32.2).1 (hW.1 _ tf32.2).2 hM g44 e44 ?_
      refine g_aload_n hX dX2_lay_45 (i := 0) rfl (j := 0) rfl ?_
      have tf46 := (tyF (k := 2) hW t0 (by decide) rfl (by decide) : KA (r p0 2) = 10 ∧ ok (r p0 2))
      refine gf_X2_18 hX dX2_lay_46 (ty1 hW t0) (hW.1 _ tf46.2).1 ?_
      refine g_iload hX dX2_lay_49 (j := 5) rfl ?_
      refine g_aload_n hX dX2_lay_51 (i := 3) rfl (j := 3) rfl ?_
      refine g_iload hX dX2_lay_52 (j := 5) rfl ?_
      obtain ⟨v54, e54, hF⟩ := bi_some hF
      refine g_callV (As := [.int x5]) (rest := [.int x5, .ref (b + (r p0 2))]) (stk := [.int v54, .int x5, .ref (b + (r p0 2))]) hX dX2_lay_54 (ctX5_has hM hW q3 x5 t3 e54) (by decide) (by decide) wm_X2_51 wi_X5_has ws_X5_has wz_X5 wc_X5_has hyX5_has rfl (ci := 5) rfl (by decide) t3.1 (hW.1 _ t3.2).1 (hW.1 _ t3.2).2 (Nat.le_of_ble_eq_true rfl) rfl rfl ?_ rfl rfl
      refine g_if_eq (tgt := 95) hX dX2_lay_57 (by decide) (fun c57 => ?_) (fun c57 => ?_)
      · have hF := ite_t hF c57
        refine g_sub (L' := [(0, .ref (b + p0)), (1, .ref (b + p1)), (2, .int a2), (3, .ref (b + q3)), (4, .ref (b + q4)), (5, .int x5)]) [0, 1, 2, 3, 4, 5] rfl ?_
        exact kX2_lay_b95 hX hM hW hA p0 p1 a2 t0 t1 hR (fun h_ z3_ z4_ z5_ => fX2_lay_b24 r p0 p1 a2 n h_ z3_ z4_ z5_) ih h44 (r p0 2) x5 q3 q4 x5 tf46 t3 t4 hF
      · have hF := ite_f hF c57
        refine g_aload_n hX dX2_lay_60 (i := 1) rfl (j := 1) rfl ?_
        have tf61 := (tyF (k := 1) hW t1 (by decide) rfl (by decide) : KA (r p1 1) = 10 ∧ ok (r p1 1))
        refine gf_X2_55 hX dX2_lay_61 (ty1 hW t1) (hW.1 _ tf61.2).1 ?_
        refine g_iload hX dX2_lay_64 (j := 5) rfl ?_
        obtain ⟨g66, hF⟩ := gd_some hF
        refine g_bald hX dX2_lay_66 tf61.1 (hW.1 _ tf61.2).1 (hW.1 _ tf61.2).2 g66 ?_
        refine g_if_ne (tgt := 95) hX dX2_lay_67 (by decide) (fun c67 => ?_) (fun c67 => ?_)
        · have hF := ite_t hF c67
          refine g_sub (L' := [(0, .ref (b + p0)), (1, .ref (b + p1)), (2, .int a2), (3, .ref (b + q3)), (4, .ref (b + q4)), (5, .int x5)]) [0, 1, 2, 3, 4, 5] rfl ?_
          exact kX2_lay_b95 hX hM hW hA p0 p1 a2 t0 t1 hR (fun h_ z3_ z4_ z5_ => fX2_lay_b24 r p0 p1 a2 n h_ z3_ z4_ z5_) ih h44 (r p0 2) x5 q3 q4 x5 tf46 t3 t4 hF
        · have hF := ite_f hF (fun z => z c67)
          refine g_aload hX dX2_lay_70 (j := 4) rfl ?_
          refine g_iload hX dX2_lay_72 (j := 5) rfl ?_
          obtain ⟨v74, e74, hF⟩ := bi_some hF
          refine g_callV (As := [.int x5]) (rest := [.int x5, .ref (b + (r p0 2))]) (stk := [.int v74, .int x5, .ref (b + (r p0 2))]) hX dX2_lay_74 (ctX5_has hM hW q4 x5 t4 e74) (by decide) (by decide) wm_X2_51 wi_X5_has ws_X5_has wz_X5 wc_X5_has hyX5_has rfl (ci := 5) rfl (by decide) t4.1 (hW.1 _ t4.2).1 (hW.1 _ t4.2).2 (Nat.le_of_ble_eq_true rfl) rfl rfl ?_ rfl rfl
          refine g_if_eq (tgt := 91) hX dX2_lay_77 (by decide) (fun c77 => ?_) (fun c77 => ?_)
          · have hF := ite_t hF c77
            refine g_sub (L' := [(0, .ref (b + p0)), (1, .ref (b + p1)), (2, .int a2), (3, .ref (b + q3)), (4, .ref (b + q4)), (5, .int x5)]) [0, 1, 2, 3, 4, 5] rfl ?_
            exact kX2_lay_b91 hX hM hW hA p0 p1 a2 t0 t1 hR (fun h_ z3_ z4_ z5_ => fX2_lay_b24 r p0 p1 a2 n h_ z3_ z4_ z5_) ih h44 (r p0 2) x5 q3 q4 x5 tf46 t3 t4 hF
          · have hF := ite_f hF c77
            refine g_aload_n hX dX2_lay_80 (i := 3) rfl (j := 3) rfl ?_
            refine g_aload hX dX2_lay_81 (j := 4) rfl ?_
            refine g_iload hX dX2_lay_83 (j := 5) rfl ?_
            obtain ⟨v85, e85, hF⟩ := bi_some hF
            refine g_callV (As := [.ref (b + q4), .int x5]) (rest := [.int x5, .ref (b + (r p0 2))]) (stk := [.int v85, .int x5, .ref (b + (r p0 2))]) hX dX2_lay_85 (ctX5_placesAsIn hM hW q3 q4 x5 t3 t4 e85) (by decide) (by decide) wm_X2_58 wi_X5_placesAsIn ws_X5_placesAsIn wz_X5 wc_X5_placesAsIn hyX5_placesAsIn rfl (ci := 5) rfl (by decide) t3.1 (hW.1 _ t3.2).1 (hW.1 _ t3.2).2 (Nat.le_of_ble_eq_true rfl) rfl rfl ?_ rfl rfl
            refine g_if_ne (tgt := 95) hX dX2_lay_88 (by decide) (fun c88 => ?_) (fun c88 => ?_)
            · have hF := ite_t hF c88
              refine g_sub (L' := [(0, .ref (b + p0)), (1, .ref (b + p1)), (2, .int a2), (3, .ref (b + q3)), (4, .ref (b + q4)), (5, .int x5)]) [0, 1, 2, 3, 4, 5] rfl ?_
              exact kX2_lay_b95 hX hM hW hA p0 p1 a2 t0 t1 hR (fun h_ z3_ z4_ z5_ => fX2_lay_b24 r p0 p1 a2 n h_ z3_ z4_ z5_) ih h44 (r p0 2) x5 q3 q4 x5 tf46 t3 t4 hF
            · have hF := ite_f hF (fun z => z c88)
              refine g_sub (L' := [(0, .ref (b + p0)), (1, .ref (b + p1)), (2, .int a2), (3, .ref (b + q3)), (4, .ref (b + q4)), (5, .int x5)]) [0, 1, 2, 3, 4, 5] rfl ?_
              exact kX2_lay_b91 hX hM hW hA p0 p1 a2 t0 t1 hR (fun h_ z3_ z4_ z5_ => fX2_lay_b24 r p0 p1 a2 n h_ z3_ z4_ z5_) ih h44 (r p0 2) x5 q3 q4 x5 tf46 t3 t4 hF
set_option maxRecDepth 100000 in
set_option maxHeartbeats 4000000 in
theorem kX2_lay {X : XT} {b N sz : Nat} {ok : Nat → Prop} {h : HH} {r : RR} {w : HH} (hX : XOK X RX2 cX2_lay 6 3) (hM : N ≤ MA) (hW : WT KA lnA ok N r) (hA : ∀ p, KA p < 16 → ok p) (p0 : Nat) (p1 : Nat) (a2 : Int32) (t0 : KA p0 = 2 ∧ ok p0) (t1 : KA p1 = 0 ∧ ok p1) (hR : XR X b KA lnA MA (none) 0 0 N sz none w r) (hF : fX2_lay h r p0 p1 a2 = some w) : GX X b KA lnA MA 6 0 0 N sz 0 [(0, .ref (b + p0)), (1, .ref (b + p1)), (2, .int a2)] [] h r := by
  rw [fX2_lay] at hF
  refine g_aload_n hX dX2_lay_0 (i := 1) rfl (j := 1) rfl ?_
  obtain ⟨q_1, w1, z1, hF⟩ := gwd_some hF
  have tw1 := ty_w hA z1
  refine gw_X2_29 hX dX2_lay_1 (ty1 hW t1) w1 (hW.1 _ tw1.2).1 ?_
  have tf4 := (tyF (k := 2) hW tw1 (by decide) rfl (by decide) : KA (r q_1 2) = 13 ∧ ok (r q_1 2))
  refine gf_X2_35 hX dX2_lay_4 (ty1 hW tw1) (hW.1 _ tf4.2).1 ?_
  refine g_iload_n hX dX2_lay_7 (i := 2) rfl (j := 2) rfl ?_
  obtain ⟨g8, hF⟩ := gd_some hF
  have ta8 : KA (r (r q_1 2) (ix a2)) = 5 ∧ ok (r (r q_1 2) (ix a2)) := tyA hW tf4 (by decide) rfl (by decide) g8
  refine g_aald hX dX2_lay_8 tf4.1 (by decide) (by decide) (hW.1 _ tf4.2).1 (hW.1 _ tf4.2).2 g8 (hW.1 _ ta8.2).1 ?_
  refine g_astore_n (L' := [(3, .ref (b + (r (r q_1 2) (ix a2)))), (0, .ref (b + p0)), (1, .ref (b + p1)), (2, .int a2)]) hX dX2_lay_9 (i := 3) rfl (by decide) rfl ?_
  refine g_aload_n hX dX2_lay_10 (i := 1) rfl (j := 2) rfl ?_
  have tf11 := (tyF (k := 3) hW t1 (by decide) rfl (by decide) : KA (r p1 3) = 5 ∧ ok (r p1 3))
  refine gf_X2_41 hX dX2_lay_11 (ty1 hW t1) (hW.1 _ tf11.2).1 ?_
  refine g_astore (L' := [(4, .ref (b + (r p1 3))), (3, .ref (b + (r (r q_1 2) (ix a2)))), (0, .ref (b + p0)), (1, .ref (b + p1)), (2, .int a2)]) hX dX2_lay_14 (by decide) rfl ?_
  refine g_aload_n hX dX2_lay_16 (i := 0) rfl (j := 2) rfl ?_
  refine g_iconst (v := 0) hX dX2_lay_17 (by decide) ?_
  obtain ⟨h18, e18, hF⟩ := lt_some hF
  refine pf_X2_25 hX dX2_lay_18 (ty1 hW t0) hM e18 ?_
  refine g_iconst (v := 0) hX dX2_lay_21 (by decide) ?_
  refine g_istore (L' := [(5, .int 0), (4, .ref (b + (r p1 3))), (3, .ref (b + (r (r q_1 2) (ix a2)))), (0, .ref (b + p0)), (1, .ref (b + p1)), (2, .int a2)]) hX dX2_lay_22 (by decide) rfl ?_
  refine g_sub (L' := [(0, .ref (b + p0)), (1, .ref (b + p1)), (2, .int a2), (3, .ref (b + (r (r q_1 2) (ix a2)))), (4, .ref (b + (r p1 3))), (5, .int 0)]) [3, 4, 5, 2, 1, 0] rfl ?_
  exact kX2_lay_b24 hX hM hW hA p0 p1 a2 t0 t1 hR lpF h18 (r (r q_1 2) (ix a2)) (r p1 3) 0 ta8 tf11 hF
theorem ctX2_lay {b N sz : Nat} {ok : Nat → Prop} {h : HH} {r : RR} {w : HH} (hM : N ≤ MA) (hW : WT KA lnA ok N r) (hA : ∀ p, KA p < 16 → ok p) (p0 : Nat) (p1 : Nat) (a2 : Int32) (t0 : KA p0 = 2 ∧ ok p0) (t1 : KA p1 = 0 ∧ ok p1) (hF : fX2_lay h r p0 p1 a2 = some w) : CT yX2_lay cX2_lay 6 (none) 3 b KA lnA MA N sz [.ref (b + p0), .ref (b + p1), .int a2] h r N sz none w r 0 0 :=
  CT_of (by decide) rfl (Nat.le_of_ble_eq_true rfl) (by decide) trivial (fun X hX hR => kX2_lay hX hM hW hA p0 p1 a2 t0 t1 hR hF)
/-! X2_tell -/
def fX2_tell_b159 (h : HH) (r : RR) (p0 : Nat) (p1 : Nat) (a2 : Int32) (a3 : Int32) (x4 : Int32) : Option (Int32) := gd (inb x4 (lnA (r p1 3))) (some (h (r p1 3) (ix x4)))
def fX2_tell_b48 (h : HH) (r : RR) (p0 : Nat) (p1 : Nat) (a2 : Int32) (a3 : Int32) (s0 : Int32) (x4 : Int32) : Option (Int32) := if a3 = 0 then (gd (inb a2 (lnA (r p0 0))) (some (h (r p0 0) (ix a2)))) else (if a3 = 1 then (some (x4)) else (if a3 = 2 then (if s0 = 0 then (some (-1)) else (gd (inb x4 (lnA (r p1 1))) (some (h (r p1 1) (ix x4))))) else (if a3 = 3 then (gd (inb a2 (lnA (r p0 0))) (if ¬ (h (r p0 0) (ix a2)) = 0 then (if s0 = 0 then (some (-1)) else (gd (inb x4 (lnA (r p1 2))) (some (h (r p1 2) (ix x4))))) else (some (100 + x4)))) else (gd (inb a2 (lnA (r p0 0))) (if (h (r p0 0) (ix a2)) = 1 then (fX2_tell_b159 h r p0 p1 a2 a3 x4) else (gd (inb a2 (lnA (r p0 0))) (if ¬ (h (r p0 0) (ix a2)) = 3 then (some (-1)) else (fX2_tell_b159 h r p0 p1 a2 a3 x4))))))))
def fX2_tell_b43 (h : HH) (r : RR) (p0 : Nat) (p1 : Nat) (a2 : Int32) (a3 : Int32) (x4 : Int32) : Option (Int32) := fX2_tell_b48 h r p0 p1 a2 a3 1 x4
def fX2_tell (h : HH) (r : RR) (p0 : Nat) (p1 : Nat) (a2 : Int32) (a3 : Int32) : Option (Int32) := if a2 < 0 then (some (-12)) else (if a2 < (h p0 4) then (gd (inb a2 (lnA (r p0 1))) (lt (h (r p0 1) (ix a2)) (fun y21 => gd (inb a2 (lnA (r p0 0))) (if (h (r p0 0) (ix a2)) = 1 then (fX2_tell_b43 h r p0 p1 a2 a3 y21) else (gd (inb a2 (lnA (r p0 0))) (if ¬ (h (r p0 0) (ix a2)) = 2 then (fX2_tell_b48 h r p0 p1 a2 a3 0 y21) else (fX2_tell_b43 h r p0 p1 a2 a3 y21))))))) else (some (-12)))
set_option maxRecDepth 100000 in
set_option maxHeartbeats 4000000 in
theorem kX2_tell_b159 {X : XT} {b N sz : Nat} {ok : Nat → Prop} {h : HH} {r : RR} {w : Int32} (hX : XOK X RX2 cX2_tell 6 1) (hM : N ≤ MA) (hW : WT KA lnA ok N r) (p0 : Nat) (p1 : Nat) (a2 : Int32) (a3 : Int32) (t0 : KA p0 = 2 ∧ ok p0) (t1 : KA p1 = 5 ∧ ok p1) (hR : XR X b KA lnA MA (some FieldType.int) 0 0 N sz (some (.int w)) h r) (x4 : Int32) (hF : fX2_tell_b159 h r p0 p1 a2 a3 x4 = some w) : GX X b KA lnA MA 6 0 0 N sz 159 [(0, .ref (b + p0)), (1, .ref (b + p1)), (2, .int a2), (3, .int a3), (4, .int x4)] [] h r := by
  rw [fX2_tell_b159] at hF
  refine g_aload_n hX dX2_tell_159 (i := 1) rfl (j := 1) rfl ?_
  have tf160 := (tyF (k := 3) hW t1 (by decide) rfl (by decide) : KA (r p1 3) = 9 ∧ ok (r p1 3))
  refine gf_X2_79 hX dX2_tell_160 (ty1 hW t1) (hW.1 _ tf160.2).1 ?_
  refine g_iload hX dX2_tell_163 (j := 4) rfl ?_
  obtain ⟨g165, hF⟩ := gd_some hF
  refine g_iald hX dX2_tell_165 tf160.1 (hW.1 _ tf160.2).1 (hW.1 _ tf160.2).2 g165 ?_
  refine g_goto (tgt := 170) hX dX2_tell_166 (by decide) ?_
  obtain rfl := Option.some.inj hF
  exact g_iret hX dX2_tell_170 hR
set_option maxRecDepth 100000 in
set_option maxHeartbeats 4000000 in
theorem kX2_tell_b48 {X : XT} {b N sz : Nat} {ok : Nat → Prop} {h : HH} {r : RR} {w : Int32} (hX : XOK X RX2 cX2_tell 6 1) (hM : N ≤ MA) (hW : WT KA lnA ok N r) (p0 : Nat) (p1 : Nat) (a2 : Int32) (a3 : Int32) (t0 : KA p0 = 2 ∧ ok p0) (t1 : KA p1 = 5 ∧ ok p1) (hR : XR X b KA lnA MA (some FieldType.int) 0 0 N sz (some (.int w)) h r) (s0 : Int32) (x4 : Int32) (hF : fX2_tell_b48 h r p0 p1 a2 a3 s0 x4 = some w) : GX X b KA lnA MA 6 0 0 N sz 48 [(0, .ref (b + p0)), (1, .ref (b + p1)), (2, .int a2), (3, .int a3), (4, .int x4)] [.int s0] h r := by
  rw [fX2_tell_b48] at hF
  refine g_istore (L' := [(5, .int s0), (0, .ref (b + p0)), (1, .ref (b + p1)), (2, .int a2), (3, .int a3), (4, .int x4)]) hX dX2_tell_48 (by decide) rfl ?_
  refine g_iload_n hX dX2_tell_50 (i := 3) rfl (j := 4) rfl ?_
  by_cases c51_0 : a3 = 0
  · have hF := ite_t hF c51_0
    refine g_tin (tgt := 80) hX dX2_tell_51 c51_0 (by decide) (by decide) rfl (by decide) ?_
    refine g_aload_n hX dX2_tell_80 (i := 0) rfl (j := 1) rfl ?_
    have tf81 := (tyF (k := 0) hW t0 (by decide) rfl (by decide) : KA (r p0 0) = 9 ∧ ok (r p0 0))
    refine gf_X2_9 hX dX2_tell_81 (ty1 hW t0) (hW.1 _ tf81.2).1 ?_
    refine g_iload_n hX dX2_tell_84 (i := 2) rfl (j := 3) rfl ?_
    obtain ⟨g85, hF⟩ := gd_some hF
    refine g_iald hX dX2_tell_85 tf81.1 (hW.1 _ tf81.2).1 (hW.1 _ tf81.2).2 g85 ?_
    obtain rfl := Option.some.inj hF
    exact g_iret hX dX2_tell_86 hR
  have hF := ite_f hF c51_0
  by_cases c51_1 : a3 = 1
  · have hF := ite_t hF c51_1
    refine g_tin (tgt := 87) hX dX2_tell_51 c51_1 (by decide) (by decide) rfl (by decide) ?_
    refine g_iload hX dX2_tell_87 (j := 5) rfl ?_
    obtain rfl := Option.some.inj hF
    exact g_iret hX dX2_tell_89 hR
  have hF := ite_f hF c51_1
  by_cases c51_2 : a3 = 2
  · have hF := ite_t hF c51_2
    refine g_tin (tgt := 90) hX dX2_tell_51 c51_2 (by decide) (by decide) rfl (by decide) ?_
    refine g_iload hX dX2_tell_90 (j := 0) rfl ?_
    refine g_if_eq (tgt := 105) hX dX2_tell_92 (by decide) (fun c92 => ?_) (fun c92 => ?_)
    · have hF := ite_t hF c92
      refine g_iconst (v := (-1)) hX dX2_tell_105 (by decide) ?_
      obtain rfl := Option.some.inj hF
      exact g_iret hX dX2_tell_106 hR
    · have hF := ite_f hF c92
      refine g_aload_n hX dX2_tell_95 (i := 1) rfl (j := 2) rfl ?_
      have tf96 := (tyF (k := 1) hW t1 (by decide) rfl (by decide) : KA (r p1 1) = 9 ∧ ok (r p1 1))
      refine gf_X2_73 hX dX2_tell_96 (ty1 hW t1) (hW.1 _ tf96.2).1 ?_
      refine g_iload hX dX2_tell_99 (j := 5) rfl ?_
      obtain ⟨g101, hF⟩ := gd_some hF
      refine g_iald hX dX2_tell_101 tf96.1 (hW.1 _ tf96.2).1 (hW.1 _ tf96.2).2 g101 ?_
      refine g_goto (tgt := 106) hX dX2_tell_102 (by decide) ?_
      obtain rfl := Option.some.inj hF
      exact g_iret hX dX2_tell_106 hR
  have hF := ite_f hF c51_2
  by_cases c51_3 : a3 = 3
  · have hF := ite_t hF c51_3
    refine g_tin (tgt := 107) hX dX2_tell_51 c51_3 (by decide) (by decide) rfl (by decide) ?_
    refine g_aload_n hX dX2_tell_107 (i := 0) rfl (j := 1) rfl ?_
    have tf108 := (tyF (k := 0) hW t0 (by decide) rfl (by decide) : KA (r p0 0) = 9 ∧ ok (r p0 0))
    refine gf_X2_9 hX dX2_tell_108 (ty1 hW t0) (hW.1 _ tf108.2).1 ?_
    refine g_iload_n hX dX2_tell_111 (i := 2) rfl (j := 3) rfl ?_
    obtain ⟨g112, hF⟩ := gd_some hF
    refine g_iald hX dX2_tell_112 tf108.1 (hW.1 _ tf108.2).1 (hW.1 _ tf108.2).2 g112 ?_
    refine g_if_ne (tgt := 122) hX dX2_tell_113 (by decide) (fun c113 => ?_) (fun c113 => ?_)
    · have hF := ite_t hF c113
      refine g_iload hX dX2_tell_122 (j := 0) rfl ?_
      refine g_if_eq (tgt := 137) hX dX2_tell_124 (by decide) (fun c124 => ?_) (fun c124 => ?_)
      · have hF := ite_t hF c124
        refine g_iconst (v := (-1)) hX dX2_tell_137 (by decide) ?_
        obtain rfl := Option.some.inj hF
        exact g_iret hX dX2_tell_138 hR
      · have hF := ite_f hF c124
        refine g_aload_n hX dX2_tell_127 (i := 1) rfl (j := 2) rfl ?_
        have tf128 := (tyF (k := 2) hW t1 (by decide) rfl (by decide) : KA (r p1 2) = 9 ∧ ok (r p1 2))
        refine gf_X2_76 hX dX2_tell_128 (ty1 hW t1) (hW.1 _ tf128.2).1 ?_
        refine g_iload hX dX2_tell_131 (j := 5) rfl ?_
        obtain ⟨g133, hF⟩ := gd_some hF
        refine g_iald hX dX2_tell_133 tf128.1 (hW.1 _ tf128.2).1 (hW.1 _ tf128.2).2 g133 ?_
        refine g_goto (tgt := 138) hX dX2_tell_134 (by decide) ?_
        obtain rfl := Option.some.inj hF
        exact g_iret hX dX2_tell_138 hR
    · have hF := ite_f hF (fun z => z c113)
      refine g_bipush (v := 100) hX dX2_tell_116 (by decide) ?_
      refine g_iload hX dX2_tell_118 (j := 5) rfl ?_
      refine g_iadd hX dX2_tell_120 ?_
      obtain rfl := Option.some.inj hF
      exact g_iret hX dX2_tell_121 hR
  have hF := ite_f hF c51_3
  have n51_0 := lv_neT c51_0 (a := 0) (by decide)
  have n51_1 := lv_neT c51_1 (a := 1) (by decide)
  have n51_2 := lv_neT c51_2 (a := 2) (by decide)
  have n51_3 := lv_neT c51_3 (a := 3) (by decide)
  refine g_tout (tgt := 139) hX dX2_tell_51 (by omega) (by decide) ?_
  refine g_aload_n hX dX2_tell_139 (i := 0) rfl (j := 1) rfl ?_
  have tf140 := (tyF (k := 0) hW t0 (by decide) rfl (by decide) : KA (r p0 0) = 9 ∧ ok (r p0 0))
  refine gf_X2_9 hX dX2_tell_140 (ty1 hW t0) (hW.1 _ tf140.2).1 ?_
  refine g_iload_n hX dX2_tell_143 (i := 2) rfl (j := 3) rfl ?_
  obtain ⟨g144, hF⟩ := gd_some hF
  refine g_iald hX dX2_tell_144 tf140.1 (hW.1 _ tf140.2).1 (hW.1 _ tf140.2).2 g144 ?_
  refine g_iconst (v := 1) hX dX2_tell_145 (by decide) ?_
  refine g_icmp_eq (tgt := 159) hX dX2_tell_146 (by decide) (fun c146 => ?_) (fun c146 => ?_)
  · have hF := ite_t hF c146
    refine g_sub (L' := [(0, .ref (b + p0)), (1, .ref (b + p1)), (2, .int a2), (3, .int a3), (4, .int x4)]) [1, 2, 3, 4, 5] rfl ?_
    exact kX2_tell_b159 hX hM hW p0 p1 a2 a3 t0 t1 hR x4 hF
  · have hF := ite_f hF c146
    refine g_aload_n hX dX2_tell_149 (i := 0) rfl (j := 1) rfl ?_
    have tf150 := (tyF (k := 0) hW t0 (by decide) rfl (by decide) : KA (r p0 0) = 9 ∧ ok (r p0 0))
    refine gf_X2_9 hX dX2_tell_150 (ty1 hW t0) (hW.1 _ tf150.2).1 ?_
    refine g_iload_n hX dX2_tell_153 (i := 2) rfl (j := 3) rfl ?_
    obtain ⟨g154, hF⟩ := gd_some hF
    refine g_iald hX dX2_tell_154 tf150.1 (hW.1 _ tf150.2).1 (hW.1 _ tf150.2).2 g154 ?_
    refine g_iconst (v := 3) hX dX2_tell_155 (by decide) ?_
    refine g_icmp_ne (tgt := 169) hX dX2_tell_156 (by decide) (fun c156 => ?_) (fun c156 => ?_)
    · have hF := ite_t hF c156
      refine g_iconst (v := (-1)) hX dX2_tell_169 (by decide) ?_
      obtain rfl := Option.some.inj hF
      exact g_iret hX dX2_tell_170 hR
    · have hF := ite_f hF (fun z => z c156)
      refine g_sub (L' := [(0, .ref (b + p0)), (1, .ref (b + p1)), (2, .int a2), (3, .int a3), (4, .int x4)]) [1, 2, 3, 4, 5] rfl ?_
      exact kX2_tell_b159 hX hM hW p0 p1 a2 a3 t0 t1 hR x4 hF
set_option maxRecDepth 100000 in
set_option maxHeartbeats 4000000 in
theorem kX2_tell_b43 {X : XT} {b N sz : Nat} {ok : Nat → Prop} {h : HH} {r : RR} {w : Int32} (hX : XOK X RX2 cX2_tell 6 1) (hM : N ≤ MA) (hW : WT KA lnA ok N r) (p0 : Nat) (p1 : Nat) (a2 : Int32) (a3 : Int32) (t0 : KA p0 = 2 ∧ ok p0) (t1 : KA p1 = 5 ∧ ok p1) (hR : XR X b KA lnA MA (some FieldType.int) 0 0 N sz (some (.int w)) h r) (x4 : Int32) (hF : fX2_tell_b43 h r p0 p1 a2 a3 x4 = some w) : GX X b KA lnA MA 6 0 0 N sz 43 [(0, .ref (b + p0)), (1, .ref (b + p1)), (2, .int a2), (3, .int a3), (4, .int x4)] [] h r := by
  rw [fX2_tell_b43] at hF
  refine g_iconst (v := 1) hX dX2_tell_43 (by decide) ?_
  refine g_goto (tgt := 48) hX dX2_tell_44 (by decide) ?_
  refine g_sub (L' := [(0, .ref (b + p0)), (1, .ref (b + p1)), (2, .int a2), (3, .int a3), (4, .int x4)]) [0, 1, 2, 3, 4] rfl ?_
  exact kX2_tell_b48 hX hM hW p0 p1 a2 a3 t0 t1 hR 1 x4 hF
set_option maxRecDepth 100000 in
set_option maxHeartbeats 4000000 in
theorem kX2_tell {X : XT} {b N sz : Nat} {ok : Nat → Prop} {h : HH} {r : RR} {w : Int32} (hX : XOK X RX2 cX2_tell 6 1) (hM : N ≤ MA) (hW : WT KA lnA ok N r) (p0 : Nat) (p1 : Nat) (a2 : Int32) (a3 : Int32) (t0 : KA p0 = 2 ∧ ok p0) (t1 : KA p1 = 5 ∧ ok p1) (hR : XR X b KA lnA MA (some FieldType.int) 0 0 N sz (some (.int w)) h r) (hF : fX2_tell h r p0 p1 a2 a3 = some w) : GX X b KA lnA MA 6 0 0 N sz 0 [(0, .ref (b + p0)), (1, .ref (b + p1)), (2, .int a2), (3, .int a3)] [] h r := by
  rw [fX2_tell] at hF
  refine g_iload_n hX dX2_tell_0 (i := 2) rfl (j := 2) rfl ?_
  refine g_if_lt (tgt := 12) hX dX2_tell_1 (by decide) (fun c1 => ?_) (fun c1 => ?_)
  · have hF := ite_t hF c1
    refine g_bipush (v := (-12)) hX dX2_tell_12 (by decide) ?_
    obtain rfl := Option.some.inj hF
    exact g_iret hX dX2_tell_14 hR
  · have hF := ite_f hF c1
    refine g_iload_n hX dX2_tell_4 (i := 2) rfl (j := 2) rfl ?_
    refine g_aload_n hX dX2_tell_5 (i := 0) rfl (j := 0) rfl ?_
    refine gf_X2_25 hX dX2_tell_6 (ty1 hW t0) ?_
    refine g_icmp_lt (tgt := 15) hX dX2_tell_9 (by decide) (fun c9 => ?_) (fun c9 => ?_)
    · have hF := ite_t hF c9
      refine g_aload_n hX dX2_tell_15 (i := 0) rfl (j := 0) rfl ?_
      have tf16 := (tyF (k := 1) hW t0 (by decide) rfl (by decide) : KA (r p0 1) = 9 ∧ ok (r p0 1))
      refine gf_X2_15 hX dX2_tell_16 (ty1 hW t0) (hW.1 _ tf16.2).1 ?_
      refine g_iload_n hX dX2_tell_19 (i := 2) rfl (j := 2) rfl ?_
      obtain ⟨g20, hF⟩ := gd_some hF
      refine g_iald hX dX2_tell_20 tf16.1 (hW.1 _ tf16.2).1 (hW.1 _ tf16.2).2 g20 ?_
      obtain ⟨y21, e21, hF⟩ := lt_some hF
      refine g_topi e21 ?_
      refine g_istore (L' := [(4, .int y21), (0, .ref (b + p0)), (1, .ref (b + p1)), (2, .int a2), (3, .int a3)]) hX dX2_tell_21 (by decide) rfl ?_
      refine g_aload_n hX dX2_tell_23 (i := 0) rfl (j := 1) rfl ?_
      have tf24 := (tyF (k := 0) hW t0 (by decide) rfl (by decide) : KA (r p0 0) = 9 ∧ ok (r p0 0))
      refine gf_X2_9 hX dX2_tell_24 (ty1 hW t0) (hW.1 _ tf24.2).1 ?_
      refine g_iload_n hX dX2_tell_27 (i := 2) rfl (j := 3) rfl ?_
      obtain ⟨g28, hF⟩ := gd_some hF
      refine g_iald hX dX2_tell_28 tf24.1 (hW.1 _ tf24.2).1 (hW.1 _ tf24.2).2 g28 ?_
      refine g_iconst (v := 1) hX dX2_tell_29 (by decide) ?_
      refine g_icmp_eq (tgt := 43) hX dX2_tell_30 (by decide) (fun c30 => ?_) (fun c30 => ?_)
      · have hF := ite_t hF c30
        refine g_sub (L' := [(0, .ref (b + p0)), (1, .ref (b + p1)), (2, .int a2), (3, .int a3), (4, .int y21)]) [1, 2, 3, 4, 0] rfl ?_
        exact kX2_tell_b43 hX hM hW p0 p1 a2 a3 t0 t1 hR y21 hF
      · have hF := ite_f hF c30
        refine g_aload_n hX dX2_tell_33 (i := 0) rfl (j := 1) rfl ?_
        have tf34 := (tyF (k := 0) hW t0 (by decide) rfl (by decide) : KA (r p0 0) = 9 ∧ ok (r p0 0))
        refine gf_X2_9 hX dX2_tell_34 (ty1 hW t0) (hW.1 _ tf34.2).1 ?_
        refine g_iload_n hX dX2_tell_37 (i := 2) rfl (j := 3) rfl ?_
        obtain ⟨g38, hF⟩ := gd_some hF
        refine g_iald hX dX2_tell_38 tf34.1 (hW.1 _ tf34.2).1 (hW.1 _ tf34.2).2 g38 ?_
        refine g_iconst (v := 2) hX dX2_tell_39 (by decide) ?_
        refine g_icmp_ne (tgt := 47) hX dX2_tell_40 (by decide) (fun c40 => ?_) (fun c40 => ?_)
        · have hF := ite_t hF c40
          refine g_iconst (v := 0) hX dX2_tell_47 (by decide) ?_
          refine g_sub (L' := [(0, .ref (b + p0)), (1, .ref (b + p1)), (2, .int a2), (3, .int a3), (4, .int y21)]) [1, 2, 3, 4, 0] rfl ?_
          exact kX2_tell_b48 hX hM hW p0 p1 a2 a3 t0 t1 hR 0 y21 hF
        · have hF := ite_f hF (fun z => z c40)
          refine g_sub (L' := [(0, .ref (b + p0)), (1, .ref (b + p1)), (2, .int a2), (3, .int a3), (4, .int y21)]) [1, 2, 3, 4, 0] rfl ?_
          exact kX2_tell_b43 hX hM hW p0 p1 a2 a3 t0 t1 hR y21 hF
    · have hF := ite_f hF c9
      refine g_bipush (v := (-12)) hX dX2_tell_12 (by decide) ?_
      obtain rfl := Option.some.inj hF
      exact g_iret hX dX2_tell_14 hR
theorem ctX2_tell {b N sz : Nat} {ok : Nat → Prop} {h : HH} {r : RR} {w : Int32} (hM : N ≤ MA) (hW : WT KA lnA ok N r) (p0 : Nat) (p1 : Nat) (a2 : Int32) (a3 : Int32) (t0 : KA p0 = 2 ∧ ok p0) (t1 : KA p1 = 5 ∧ ok p1) (hF : fX2_tell h r p0 p1 a2 a3 = some w) : CT yX2_tell cX2_tell 6 (some FieldType.int) 1 b KA lnA MA N sz [.ref (b + p0), .ref (b + p1), .int a2, .int a3] h r N sz (some (.int w)) h r 0 0 :=
  CT_of (by decide) rfl (Nat.le_of_ble_eq_true rfl) (by decide) trivial (fun X hX hR => kX2_tell hX hM hW p0 p1 a2 a3 t0 t1 hR hF)
/-! X3_isMissing -/
def fX3_isMissing (h : HH) (r : RR) (p0 : Nat) : Option (Int32) := if ¬ (h p0 0) = (-1) then (some (0)) else (some (1))
set_option maxRecDepth 100000 in
set_option maxHeartbeats 4000000 in
theorem kX3_isMissing {X : XT} {b N sz : Nat} {ok : Nat → Prop} {h : HH} {r : RR} {w : Int32} (hX : XOK X RX3 cX3_isMissing 1 1) (hM : N ≤ MA) (hW : WT KA lnA ok N r) (p0 : Nat) (t0 : KA p0 = 3 ∧ ok p0) (hR : XR X b KA lnA MA (some FieldType.boolean) 0 0 N sz (some (.int w)) h r) (hF : fX3_isMissing h r p0 = some w) : GX X b KA lnA MA 1 0 0 N sz 0 [(0, .ref (b + p0))] [] h r := by
  rw [fX3_isMissing] at hF
  refine g_aload_n hX dX3_isMissing_0 (i := 0) rfl (j := 0) rfl ?_
  refine gf_X3_9 hX dX3_isMissing_1 (ty1 hW t0) ?_
  refine g_iconst (v := (-1)) hX dX3_isMissing_4 (by decide) ?_
  refine g_icmp_ne (tgt := 12) hX dX3_isMissing_5 (by decide) (fun c5 => ?_) (fun c5 => ?_)
  · have hF := ite_t hF c5
    refine g_iconst (v := 0) hX dX3_isMissing_12 (by decide) ?_
    obtain rfl := Option.some.inj hF
    exact g_zret hX dX3_isMissing_13 (by decide) hR
  · have hF := ite_f hF (fun z => z c5)
    refine g_iconst (v := 1) hX dX3_isMissing_8 (by decide) ?_
    refine g_goto (tgt := 13) hX dX3_isMissing_9 (by decide) ?_
    obtain rfl := Option.some.inj hF
    exact g_zret hX dX3_isMissing_13 (by decide) hR
theorem ctX3_isMissing {b N sz : Nat} {ok : Nat → Prop} {h : HH} {r : RR} {w : Int32} (hM : N ≤ MA) (hW : WT KA lnA ok N r) (p0 : Nat) (t0 : KA p0 = 3 ∧ ok p0) (hF : fX3_isMissing h r p0 = some w) : CT yX3_isMissing cX3_isMissing 1 (some FieldType.boolean) 1 b KA lnA MA N sz [.ref (b + p0)] h r N sz (some (.int w)) h r 0 0 :=
  CT_of (by decide) rfl (Nat.le_of_ble_eq_true rfl) (by decide) trivial (fun X hX hR => kX3_isMissing hX hM hW p0 t0 hR hF)
/-! X3_renew -/
def fX3_renew_b12 (r : RR) (p0 : Nat) (a1 : Int32) (a2 : Int32) : Nat → HH → Int32 → Option (HH)
  | 0, _, _ => none
  | n + 1, h, x3 => if 40 ≤ x3 then (some h) else (gd (inb x3 (lnA (r p0 2))) (lt (up h (r p0 2) (ix x3) 0) (fun h24 => fX3_renew_b12 r p0 a1 a2 n h24 (x3 + 1))))
def fX3_renew (h : HH) (r : RR) (p0 : Nat) (a1 : Int32) (a2 : Int32) : Option (HH) := lt (up h p0 0 a1) (fun h2 => lt (up h2 p0 1 a2) (fun h7 => fX3_renew_b12 r p0 a1 a2 lpF h7 0))
set_option maxRecDepth 100000 in
set_option maxHeartbeats 4000000 in
theorem kX3_renew_b12 {X : XT} {b N sz : Nat} {ok : Nat → Prop} {r : RR} {w : HH} (hX : XOK X RX3 cX3_renew 4 1) (hM : N ≤ MA) (hW : WT KA lnA ok N r) (p0 : Nat) (a1 : Int32) (a2 : Int32) (t0 : KA p0 = 3 ∧ ok p0) (hR : XR X b KA lnA MA (none) 0 0 N sz none w r) : ∀ (n : Nat) (h : HH) (x3 : Int32), fX3_renew_b12 r p0 a1 a2 n h x3 = some w → GX X b KA lnA MA 4 0 0 N sz 12 [(0, .ref (b + p0)), (1, .int a1), (2, .int a2), (3, .int x3)] [] h r := by
  intro n
  induction n with
  | zero =>
    intro h x3 hF
    cases hF
  | succ n ih =>
    intro h x3 hF
    rw [fX3_renew_b12] at hF
    refine g_iload_n hX dX3_renew_12 (i := 3) rfl (j := 3) rfl ?_
    refine g_bipush (v := 40) hX dX3_renew_13 (by decide) ?_
    refine g_icmp_ge (tgt := 31) hX dX3_renew_15 (by decide) (fun c15 => ?_) (fun c15 => ?_)
    · have hF := ite_t hF c15
      obtain rfl := Option.some.inj hF
      exact g_vret hX dX3_renew_31 hR
    · have hF := ite_f hF c15
      refine g_aload_n hX dX3_renew_18 (i := 0) rfl (j := 0) rfl ?_
      have tf19 := (tyF (k := 2) hW t0 (by decide) rfl (by decide) : KA (r p0 2) = 9 ∧ ok (r p0 2))
      refine gf_X3_18 hX dX3_renew_19 (ty1 hW t0) (hW.1 _ tf19.2).1 ?_
      refine g_iload_n hX dX3_renew_22 (i := 3) rfl (j := 3) rfl ?_
      refine g_iconst (v := 0) hX dX3_renew_23 (by decide) ?_
      obtain ⟨g24, hF⟩ := gd_some hF
      obtain ⟨h24, e24, hF⟩ := lt_some hF
      refine g_iast hX dX3_renew_24 tf19.1 (hW.1 _ tf19.2).1 (hW.1 _ tf19.2).2 hM g24 e24 ?_
      refine g_iinc (L' := [(3, .int (x3 + 1)), (0, .ref (b + p0)), (1, .int a1), (2, .int a2)]) (j := 3) hX dX3_renew_25 rfl rfl (by decide) rfl ?_
      refine g_goto (tgt := 12) hX dX3_renew_28 (by decide) ?_
      refine g_sub (L' := [(0, .ref (b + p0)), (1, .int a1), (2, .int a2), (3, .int (x3 + 1))]) [1, 2, 3, 0] rfl ?_
      exact ih h24 (x3 + 1) hF
set_option maxRecDepth 100000 in
set_option maxHeartbeats 4000000 in
theorem kX3_renew {X : XT} {b N sz : Nat} {ok : Nat → Prop} {h : HH} {r : RR} {w : HH} (hX : XOK X RX3 cX3_renew 4 1) (hM : N ≤ MA) (hW : WT KA lnA ok N r) (p0 : Nat) (a1 : Int32) (a2 : Int32) (t0 : KA p0 = 3 ∧ ok p0) (hR : XR X b KA lnA MA (none) 0 0 N sz none w r) (hF : fX3_renew h r p0 a1 a2 = some w) : GX X b KA lnA MA 4 0 0 N sz 0 [(0, .ref (b + p0)), (1, .int a1), (2, .int a2)] [] h r := by
  rw [fX3_renew] at hF
  refine g_aload_n hX dX3_renew_0 (i := 0) rfl (j := 0) rfl ?_
  refine g_iload_n hX dX3_renew_1 (i := 1) rfl (j := 1) rfl ?_
  obtain ⟨h2, e2, hF⟩ := lt_some hF
  refine pf_X3_9 hX dX3_renew_2 (ty1 hW t0) hM e2 ?_
  refine g_aload_n hX dX3_renew_5 (i := 0) rfl (j := 0) rfl ?_
  refine g_iload_n hX dX3_renew_6 (i := 2) rfl (j := 2) rfl ?_
  obtain ⟨h7, e7, hF⟩ := lt_some hF
  refine pf_X3_15 hX dX3_renew_7 (ty1 hW t0) hM e7 ?_
  refine g_iconst (v := 0) hX dX3_renew_10 (by decide) ?_
  refine g_istore_n (L' := [(3, .int 0), (0, .ref (b + p0)), (1, .int a1), (2, .int a2)]) hX dX3_renew_11 (i := 3) rfl (by decide) rfl ?_
  refine g_sub (L' := [(0, .ref (b + p0)), (1, .int a1), (2, .int a2), (3, .int 0)]) [1, 2, 3, 0] rfl ?_
  exact kX3_renew_b12 hX hM hW p0 a1 a2 t0 hR lpF h7 0 hF
theorem ctX3_renew {b N sz : Nat} {ok : Nat → Prop} {h : HH} {r : RR} {w : HH} (hM : N ≤ MA) (hW : WT KA lnA ok N r) (p0 : Nat) (a1 : Int32) (a2 : Int32) (t0 : KA p0 = 3 ∧ ok p0) (hF : fX3_renew h r p0 a1 a2 = some w) : CT yX3_renew cX3_renew 4 (none) 1 b KA lnA MA N sz [.ref (b + p0), .int a1, .int a2] h r N sz none w r 0 0 :=
  CT_of (by decide) rfl (Nat.le_of_ble_eq_true rfl) (by decide) trivial (fun X hX hR => kX3_renew hX hM hW p0 a1 a2 t0 hR hF)
/-! X3_spans -/
def fX3_spans_b30 (h : HH) (r : RR) (p0 : Nat) (a1 : Int32) (a2 : Int32) : Option (Int32) := some (0)
def fX3_spans (h : HH) (r : RR) (p0 : Nat) (a1 : Int32) (a2 : Int32) : Option (Int32) := if a1 < 0 then (fX3_spans_b30 h r p0 a1 a2) else (if a2 < 0 then (fX3_spans_b30 h r p0 a1 a2) else (if (h p0 1) < a2 then (fX3_spans_b30 h r p0 a1 a2) else (if ((h p0 1) - a2) < a1 then (fX3_spans_b30 h r p0 a1 a2) else (some (1)))))
set_option maxRecDepth 100000 in
set_option maxHeartbeats 4000000 in
theorem kX3_spans_b30 {X : XT} {b N sz : Nat} {ok : Nat → Prop} {h : HH} {r : RR} {w : Int32} (hX : XOK X RX3 cX3_spans 3 1) (hM : N ≤ MA) (hW : WT KA lnA ok N r) (p0 : Nat) (a1 : Int32) (a2 : Int32) (t0 : KA p0 = 3 ∧ ok p0) (hR : XR X b KA lnA MA (some FieldType.boolean) 0 0 N sz (some (.int w)) h r) (hF : fX3_spans_b30 h r p0 a1 a2 = some w) : GX X b KA lnA MA 3 0 0 N sz 30 [(0, .ref (b + p0)), (1, .int a1), (2, .int a2)] [] h r := by
  rw [fX3_spans_b30] at hF
  refine g_iconst (v := 0) hX dX3_spans_30 (by decide) ?_
  obtain rfl := Option.some.inj hF
  exact g_zret hX dX3_spans_31 (by decide) hR
set_option maxRecDepth 100000 in
set_option maxHeartbeats 4000000 in
theorem kX3_spans {X : XT} {b N sz : Nat} {ok : Nat → Prop} {h : HH} {r : RR} {w : Int32} (hX : XOK X RX3 cX3_spans 3 1) (hM : N ≤ MA) (hW : WT KA lnA ok N r) (p0 : Nat) (a1 : Int32) (a2 : Int32) (t0 : KA p0 = 3 ∧ ok p0) (hR : XR X b KA lnA MA (some FieldType.boolean) 0 0 N sz (some (.int w)) h r) (hF : fX3_spans h r p0 a1 a2 = some w) : GX X b KA lnA MA 3 0 0 N sz 0 [(0, .ref (b + p0)), (1, .int a1), (2, .int a2)] [] h r := by
  rw [fX3_spans] at hF
  refine g_iload_n hX dX3_spans_0 (i := 1) rfl (j := 1) rfl ?_
  refine g_if_lt (tgt := 30) hX dX3_spans_1 (by decide) (fun c1 => ?_) (fun c1 => ?_)
  · have hF := ite_t hF c1
    refine g_sub (L' := [(0, .ref (b + p0)), (1, .int a1), (2, .int a2)]) [0, 1, 2] rfl ?_
    exact kX3_spans_b30 hX hM hW p0 a1 a2 t0 hR hF
  · have hF := ite_f hF c1
    refine g_iload_n hX dX3_spans_4 (i := 2) rfl (j := 2) rfl ?_
    refine g_if_lt (tgt := 30) hX dX3_spans_5 (by decide) (fun c5 => ?_) (fun c5 => ?_)
    · have hF := ite_t hF c5
      refine g_sub (L' := [(0, .ref (b + p0)), (1, .int a1), (2, .int a2)]) [0, 1, 2] rfl ?_
      exact kX3_spans_b30 hX hM hW p0 a1 a2 t0 hR hF
    · have hF := ite_f hF c5
      refine g_iload_n hX dX3_spans_8 (i := 2) rfl (j := 2) rfl ?_
      refine g_aload_n hX dX3_spans_9 (i := 0) rfl (j := 0) rfl ?_
      refine gf_X3_15 hX dX3_spans_10 (ty1 hW t0) ?_
      refine g_icmp_gt (tgt := 30) hX dX3_spans_13 (by decide) (fun c13 => ?_) (fun c13 => ?_)
      · have hF := ite_t hF c13
        refine g_sub (L' := [(0, .ref (b + p0)), (1, .int a1), (2, .int a2)]) [0, 1, 2] rfl ?_
        exact kX3_spans_b30 hX hM hW p0 a1 a2 t0 hR hF
      · have hF := ite_f hF c13
        refine g_iload_n hX dX3_spans_16 (i := 1) rfl (j := 1) rfl ?_
        refine g_aload_n hX dX3_spans_17 (i := 0) rfl (j := 0) rfl ?_
        refine gf_X3_15 hX dX3_spans_18 (ty1 hW t0) ?_
        refine g_iload_n hX dX3_spans_21 (i := 2) rfl (j := 2) rfl ?_
        refine g_isub hX dX3_spans_22 ?_
        refine g_icmp_gt (tgt := 30) hX dX3_spans_23 (by decide) (fun c23 => ?_) (fun c23 => ?_)
        · have hF := ite_t hF c23
          refine g_sub (L' := [(0, .ref (b + p0)), (1, .int a1), (2, .int a2)]) [0, 1, 2] rfl ?_
          exact kX3_spans_b30 hX hM hW p0 a1 a2 t0 hR hF
        · have hF := ite_f hF c23
          refine g_iconst (v := 1) hX dX3_spans_26 (by decide) ?_
          refine g_goto (tgt := 31) hX dX3_spans_27 (by decide) ?_
          obtain rfl := Option.some.inj hF
          exact g_zret hX dX3_spans_31 (by decide) hR
theorem ctX3_spans {b N sz : Nat} {ok : Nat → Prop} {h : HH} {r : RR} {w : Int32} (hM : N ≤ MA) (hW : WT KA lnA ok N r) (p0 : Nat) (a1 : Int32) (a2 : Int32) (t0 : KA p0 = 3 ∧ ok p0) (hF : fX3_spans h r p0 a1 a2 = some w) : CT yX3_spans cX3_spans 3 (some FieldType.boolean) 1 b KA lnA MA N sz [.ref (b + p0), .int a1, .int a2] h r N sz (some (.int w)) h r 0 0 :=
  CT_of (by decide) rfl (Nat.le_of_ble_eq_true rfl) (by decide) trivial (fun X hX hR => kX3_spans hX hM hW p0 a1 a2 t0 hR hF)
/-! X3_put -/
def fX3_put_b27 (r : RR) (p0 : Nat) (a1 : Int32) (a2 : Int32) (h : HH) (u0 : Nat) (s1 : Int32) (s2 : Int32) : Option (HH) := gd (inb s1 (lnA u0)) (lt (up h u0 (ix s1) s2) (fun h27 => some h27))
def fX3_put (h : HH) (r : RR) (p0 : Nat) (a1 : Int32) (a2 : Int32) : Option (HH) := (fX3_spans h r p0 a1 1).bind (fun v3 => if v3 = 0 then (some h) else (if ¬ (h p0 0) = 0 then (fX3_put_b27 r p0 a1 a2 h (r p0 2) a1 a2) else (fX3_put_b27 r p0 a1 a2 h (r p0 2) a1 (i2s a2))))
set_option maxRecDepth 100000 in
set_option maxHeartbeats 4000000 in
theorem kX3_put_b27 {X : XT} {b N sz : Nat} {ok : Nat → Prop} {r : RR} {w : HH} (hX : XOK X RX3 cX3_put 3 2) (hM : N ≤ MA) (hW : WT KA lnA ok N r) (p0 : Nat) (a1 : Int32) (a2 : Int32) (t0 : KA p0 = 3 ∧ ok p0) (hR : XR X b KA lnA MA (none) 0 0 N sz none w r) (h : HH) (u0 : Nat) (s1 : Int32) (s2 : Int32) (ts0 : KA u0 = 9 ∧ ok u0) (hF : fX3_put_b27 r p0 a1 a2 h u0 s1 s2 = some w) : GX X b KA lnA MA 3 0 0 N sz 27 [(0, .ref (b + p0)), (1, .int a1), (2, .int a2)] [.int s2, .int s1, .ref (b + u0)] h r := by
  rw [fX3_put_b27] at hF
  obtain ⟨g27, hF⟩ := gd_some hF
  obtain ⟨h27, e27, hF⟩ := lt_some hF
  refine g_iast hX dX3_put_27 ts0.1 (hW.1 _ ts0.2).1 (hW.1 _ ts0.2).2 hM g27 e27 ?_
  obtain rfl := Option.some.inj hF
  exact g_vret hX dX3_put_28 hR
set_option maxRecDepth 100000 in
set_option maxHeartbeats 4000000 in
theorem kX3_put {X : XT} {b N sz : Nat} {ok : Nat → Prop} {h : HH} {r : RR} {w : HH} (hX : XOK X RX3 cX3_put 3 2) (hM : N ≤ MA) (hW : WT KA lnA ok N r) (p0 : Nat) (a1 : Int32) (a2 : Int32) (t0 : KA p0 = 3 ∧ ok p0) (hR : XR X b KA lnA MA (none) 0 0 N sz none w r) (hF : fX3_put h r p0 a1 a2 = some w) : GX X b KA lnA MA 3 0 0 N sz 0 [(0, .ref (b + p0)), (1, .int a1), (2, .int a2)] [] h r := by
  rw [fX3_put] at hF
  refine g_aload_n hX dX3_put_0 (i := 0) rfl (j := 0) rfl ?_
  refine g_iload_n hX dX3_put_1 (i := 1) rfl (j := 1) rfl ?_
  refine g_iconst (v := 1) hX dX3_put_2 (by decide) ?_
  obtain ⟨v3, e3, hF⟩ := bi_some hF
  refine g_callV (As := [.int a1, .int 1]) (rest := []) (stk := [.int v3]) hX dX3_put_3 (ctX3_spans hM hW p0 a1 1 t0 e3) (by decide) (by decide) wm_X3_22 wi_X3_spans ws_X3_spans wz_X3 wc_X3_spans hyX3_spans rfl (ci := 3) rfl (by decide) t0.1 (hW.1 _ t0.2).1 (hW.1 _ t0.2).2 (Nat.le_of_ble_eq_true rfl) rfl rfl ?_ rfl rfl
  refine g_if_eq (tgt := 28) hX dX3_put_6 (by decide) (fun c6 => ?_) (fun c6 => ?_)
  · have hF := ite_t hF c6
    obtain rfl := Option.some.inj hF
    exact g_vret hX dX3_put_28 hR
  · have hF := ite_f hF c6
    refine g_aload_n hX dX3_put_9 (i := 0) rfl (j := 0) rfl ?_
    have tf10 := (tyF (k := 2) hW t0 (by decide) rfl (by decide) : KA (r p0 2) = 9 ∧ ok (r p0 2))
    refine gf_X3_18 hX dX3_put_10 (ty1 hW t0) (hW.1 _ tf10.2).1 ?_
    refine g_iload_n hX dX3_put_13 (i := 1) rfl (j := 1) rfl ?_
    refine g_aload_n hX dX3_put_14 (i := 0) rfl (j := 0) rfl ?_
    refine gf_X3_9 hX dX3_put_15 (ty1 hW t0) ?_
    refine g_if_ne (tgt := 26) hX dX3_put_18 (by decide) (fun c18 => ?_) (fun c18 => ?_)
    · have hF := ite_t hF c18
      refine g_iload_n hX dX3_put_26 (i := 2) rfl (j := 2) rfl ?_
      refine g_sub (L' := [(0, .ref (b + p0)), (1, .int a1), (2, .int a2)]) [0, 1, 2] rfl ?_
      exact kX3_put_b27 hX hM hW p0 a1 a2 t0 hR h (r p0 2) a1 a2 tf10 hF
    · have hF := ite_f hF (fun z => z c18)
      refine g_iload_n hX dX3_put_21 (i := 2) rfl (j := 2) rfl ?_
      refine g_i2s hX dX3_put_22 ?_
      refine g_goto (tgt := 27) hX dX3_put_23 (by decide) ?_
      refine g_sub (L' := [(0, .ref (b + p0)), (1, .int a1), (2, .int a2)]) [0, 1, 2] rfl ?_
      exact kX3_put_b27 hX hM hW p0 a1 a2 t0 hR h (r p0 2) a1 (i2s a2) tf10 hF
theorem ctX3_put {b N sz : Nat} {ok : Nat → Prop} {h : HH} {r : RR} {w : HH} (hM : N ≤ MA) (hW : WT KA lnA ok N r) (p0 : Nat) (a1 : Int32) (a2 : Int32) (t0 : KA p0 = 3 ∧ ok p0) (hF : fX3_put h r p0 a1 a2 = some w) : CT yX3_put cX3_put 3 (none) 2 b KA lnA MA N sz [.ref (b + p0), .int a1, .int a2] h r N sz none w r 0 0 :=
  CT_of (by decide) rfl (Nat.le_of_ble_eq_true rfl) (by decide) trivial (fun X hX hR => kX3_put hX hM hW p0 a1 a2 t0 hR hF)
