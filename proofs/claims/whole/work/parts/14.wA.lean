/-! X7_cell -/
def fX7_cell (h : HH) (r : RR) (p0 : Nat) (a1 : Int32) (a2 : Int32) (a3 : Int32) : Option (Int32 × HH) := (fX7_isSheet h r a1).bind (fun v1 => if ¬ v1 = 0 then (gd (inb a1 (lnA (r p0 7))) ((fX3_isMissing h r (r (r p0 7) (ix a1))).bind (fun v20 => if v20 = 0 then ((fX3_spans h r (r (r p0 7) (ix a1)) a2 1).bind (fun v33 => if ¬ v33 = 0 then ((fX3_put h r (r (r p0 7) (ix a1)) a2 a3).bind (fun h46 => some (1, h46))) else (some ((-12), h)))) else (some ((-11), h))))) else (some ((-2), h)))
set_option maxRecDepth 100000 in
set_option maxHeartbeats 4000000 in
theorem kX7_cell {X : XT} {b N sz : Nat} {ok : Nat → Prop} {h : HH} {r : RR} {w : Int32 × HH} (hX : XOK X RX7 cX7_cell 5 3) (hM : N ≤ MA) (hW : WT KA lnA ok N r) (p0 : Nat) (a1 : Int32) (a2 : Int32) (a3 : Int32) (t0 : KA p0 = 7 ∧ ok p0) (hR : XR X b KA lnA MA (some FieldType.int) 0 0 N sz (some (.int w.1)) w.2 r) (hF : fX7_cell h r p0 a1 a2 a3 = some w) : GX X b KA lnA MA 5 0 0 N sz 0 [(0, .ref (b + p0)), (1, .int a1), (2, .int a2), (3, .int a3)] [] h r := by
  rw [fX7_cell] at hF
  refine g_iload_n hX dX7_cell_0 (i := 1) rfl (j := 1) rfl ?_
  obtain ⟨v1, e1, hF⟩ := bi_some hF
  refine g_callS (As := [.int a1]) (rest := []) (stk := [.int v1]) hX dX7_cell_1 (ctX7_isSheet hM hW a1 e1) (by decide) (by decide) wm_X7_222 wt_X7_isSheet wz_X7 wc_X7_isSheet hyX7_isSheet rfl (Nat.le_of_ble_eq_true rfl) rfl rfl ?_ rfl rfl
  refine g_if_ne (tgt := 10) hX dX7_cell_4 (by decide) (fun c4 => ?_) (fun c4 => ?_)
  · have hF := ite_t hF c4
    refine g_aload_n hX dX7_cell_10 (i := 0) rfl (j := 0) rfl ?_
    have tf11 := (tyF (k := 7) hW t0 (by decide) rfl (by decide) : KA (r p0 7) = 12 ∧ ok (r p0 7))
    refine gf_X7_51 hX dX7_cell_11 (ty1 hW t0) (hW.1 _ tf11.2).1 ?_
    refine g_iload_n hX dX7_cell_14 (i := 1) rfl (j := 1) rfl ?_
    obtain ⟨g15, hF⟩ := gd_some hF
    have ta15 : KA (r (r p0 7) (ix a1)) = 3 ∧ ok (r (r p0 7) (ix a1)) := tyA hW tf11 (by decide) rfl (by decide) g15
    refine g_aald hX dX7_cell_15 tf11.1 (by decide) (by decide) (hW.1 _ tf11.2).1 (hW.1 _ tf11.2).2 g15 (hW.1 _ ta15.2).1 ?_
    refine g_astore (L' := [(4, .ref (b + (r (r p0 7) (ix a1)))), (0, .ref (b + p0)), (1, .int a1), (2, .int a2), (3, .int a3)]) hX dX7_cell_16 (by decide) rfl ?_
    refine g_aload hX dX7_cell_18 (j := 0) rfl ?_
    obtain ⟨v20, e20, hF⟩ := bi_some hF
    refine g_callV (As := []) (rest := []) (stk := [.int v20]) hX dX7_cell_20 (ctX3_isMissing hM hW (r (r p0 7) (ix a1)) ta15 e20) (by decide) (by decide) wm_X7_225 wi_X3_isMissing ws_X3_isMissing wz_X3 wc_X3_isMissing hyX3_isMissing rfl (ci := 3) rfl (by decide) ta15.1 (hW.1 _ ta15.2).1 (hW.1 _ ta15.2).2 (Nat.le_of_ble_eq_true rfl) rfl rfl ?_ rfl rfl
    refine g_if_eq (tgt := 29) hX dX7_cell_23 (by decide) (fun c23 => ?_) (fun c23 => ?_)
    · have hF := ite_t hF c23
      refine g_aload hX dX7_cell_29 (j := 0) rfl ?_
      refine g_iload_n hX dX7_cell_31 (i := 2) rfl (j := 3) rfl ?_
      refine g_iconst (v := 1) hX dX7_cell_32 (by decide) ?_
      obtain ⟨v33, e33, hF⟩ := bi_some hF
      refine g_callV (As := [.int a2, .int 1]) (rest := []) (stk := [.int v33]) hX dX7_cell_33 (ctX3_spans hM hW (r (r p0 7) (ix a1)) a2 1 ta15 e33) (by decide) (by decide) wm_X7_250 wi_X3_spans ws_X3_spans wz_X3 wc_X3_spans hyX3_spans rfl (ci := 3) rfl (by decide) ta15.1 (hW.1 _ ta15.2).1 (hW.1 _ ta15.2).2 (Nat.le_of_ble_eq_true rfl) rfl rfl ?_ rfl rfl
      refine g_if_ne (tgt := 42) hX dX7_cell_36 (by decide) (fun c36 => ?_) (fun c36 => ?_)
      · have hF := ite_t hF c36
        refine g_aload hX dX7_cell_42 (j := 0) rfl ?_
        refine g_iload_n hX dX7_cell_44 (i := 2) rfl (j := 3) rfl ?_
        refine g_iload_n hX dX7_cell_45 (i := 3) rfl (j := 4) rfl ?_
        obtain ⟨h46, e46, hF⟩ := bi_some hF
        refine g_callV (As := [.int a2, .int a3]) (rest := []) (stk := []) hX dX7_cell_46 (ctX3_put hM hW (r (r p0 7) (ix a1)) a2 a3 ta15 e46) (by decide) (by decide) wm_X7_241 wi_X3_put ws_X3_put wz_X3 wc_X3_put hyX3_put rfl (ci := 3) rfl (by decide) ta15.1 (hW.1 _ ta15.2).1 (hW.1 _ ta15.2).2 (Nat.le_of_ble_eq_true rfl) rfl rfl ?_ rfl rfl
        refine g_iconst (v := 1) hX dX7_cell_49 (by decide) ?_
        obtain rfl := Option.some.inj hF
        exact g_iret hX dX7_cell_50 hR
      · have hF := ite_f hF (fun z => z c36)
        refine g_bipush (v := (-12)) hX dX7_cell_39 (by decide) ?_
        obtain rfl := Option.some.inj hF
        exact g_iret hX dX7_cell_41 hR
    · have hF := ite_f hF c23
      refine g_bipush (v := (-11)) hX dX7_cell_26 (by decide) ?_
      obtain rfl := Option.some.inj hF
      exact g_iret hX dX7_cell_28 hR
  · have hF := ite_f hF (fun z => z c4)
    refine g_bipush (v := (-2)) hX dX7_cell_7 (by decide) ?_
    obtain rfl := Option.some.inj hF
    exact g_iret hX dX7_cell_9 hR
theorem ctX7_cell {b N sz : Nat} {ok : Nat → Prop} {h : HH} {r : RR} {w : Int32 × HH} (hM : N ≤ MA) (hW : WT KA lnA ok N r) (p0 : Nat) (a1 : Int32) (a2 : Int32) (a3 : Int32) (t0 : KA p0 = 7 ∧ ok p0) (hF : fX7_cell h r p0 a1 a2 a3 = some w) : CT yX7_cell cX7_cell 5 (some FieldType.int) 3 b KA lnA MA N sz [.ref (b + p0), .int a1, .int a2, .int a3] h r N sz (some (.int w.1)) w.2 r 0 0 :=
  CT_of (by decide) rfl (Nat.le_of_ble_eq_true rfl) (by decide) trivial (fun X hX hR => kX7_cell hX hM hW p0 a1 a2 a3 t0 hR hF)
/-! X7_copy -/
def fX7_copy (h : HH) (r : RR) (p0 : Nat) (a1 : Int32) (a2 : Int32) (a3 : Int32) (a4 : Int32) (a5 : Int32) : Option (Int32 × HH) := (fX7_isSheet h r a1).bind (fun v1 => if v1 = 0 then (some ((-2), h)) else ((fX7_isSheet h r a3).bind (fun v8 => if ¬ v8 = 0 then (gd (inb a1 (lnA (r p0 7))) (gd (inb a3 (lnA (r p0 7))) ((fX3_isMissing h r (r (r p0 7) (ix a1))).bind (fun v35 => if ¬ v35 = 0 then (some ((-11), h)) else ((fX3_isMissing h r (r (r p0 7) (ix a3))).bind (fun v43 => if v43 = 0 then (if (h (r (r p0 7) (ix a1)) 0) = (h (r (r p0 7) (ix a3)) 0) then ((fX3_spans h r (r (r p0 7) (ix a1)) a2 a5).bind (fun v73 => if v73 = 0 then (some ((-12), h)) else ((fX3_spans h r (r (r p0 7) (ix a3)) a4 a5).bind (fun v85 => if ¬ v85 = 0 then (gd (cpok a2 a4 a5 (lnA (r (r (r p0 7) (ix a1)) 2)) (lnA (r (r (r p0 7) (ix a3)) 2))) (lt (cpH h (r (r (r p0 7) (ix a1)) 2) (r (r (r p0 7) (ix a3)) 2) (ix a2) (ix a4) (ix a5)) (fun h109 => some (a5, h109)))) else (some ((-12), h)))))) else (some ((-13), h))) else (some ((-11), h)))))))) else (some ((-2), h)))))
set_option maxRecDepth 100000 in
set_option maxHeartbeats 4000000 in
theorem kX7_copy {X : XT} {b N sz : Nat} {ok : Nat → Prop} {h : HH} {r : RR} {w : Int32 × HH} (hX : XOK X RX7 cX7_copy 8 2) (hM : N ≤ MA) (hW : WT KA lnA ok N r) (p0 : Nat) (a1 : Int32) (a2 : Int32) (a3 : Int32) (a4 : Int32) (a5 : Int32) (t0 : KA p0 = 7 ∧ ok p0) (hR : XR X b KA lnA MA (some FieldType.int) 0 0 N sz (some (.int w.1)) w.2 r) (hF : fX7_copy h r p0 a1 a2 a3 a4 a5 = some w) : GX X b KA lnA MA 8 0 0 N sz 0 [(0, .ref (b + p0)), (1, .int a1), (2, .int a2), (3, .int a3), (4, .int a4), (5, .int a5)] [] h r := by
  rw [fX7_copy] at hF
  refine g_iload_n hX dX7_copy_0 (i := 1) rfl (j := 1) rfl ?_
  obtain ⟨v1, e1, hF⟩ := bi_some hF
  refine g_callS (As := [.int a1]) (rest := []) (stk := [.int v1]) hX dX7_copy_1 (ctX7_isSheet hM hW a1 e1) (by decide) (by decide) wm_X7_222 wt_X7_isSheet wz_X7 wc_X7_isSheet hyX7_isSheet rfl (Nat.le_of_ble_eq_true rfl) rfl rfl ?_ rfl rfl
  refine g_if_eq (tgt := 14) hX dX7_copy_4 (by decide) (fun c4 => ?_) (fun c4 => ?_)
  · have hF := ite_t hF c4
    refine g_bipush (v := (-2)) hX dX7_copy_14 (by decide) ?_
    obtain rfl := Option.some.inj hF
    exact g_iret hX dX7_copy_16 hR
  · have hF := ite_f hF c4
    refine g_iload_n hX dX7_copy_7 (i := 3) rfl (j := 3) rfl ?_
    obtain ⟨v8, e8, hF⟩ := bi_some hF
    refine g_callS (As := [.int a3]) (rest := []) (stk := [.int v8]) hX dX7_copy_8 (ctX7_isSheet hM hW a3 e8) (by decide) (by decide) wm_X7_222 wt_X7_isSheet wz_X7 wc_X7_isSheet hyX7_isSheet rfl (Nat.le_of_ble_eq_true rfl) rfl rfl ?_ rfl rfl
    refine g_if_ne (tgt := 17) hX dX7_copy_11 (by decide) (fun c11 => ?_) (fun c11 => ?_)
    · have hF := ite_t hF c11
      refine g_aload_n hX dX7_copy_17 (i := 0) rfl (j := 0) rfl ?_
      have tf18 := (tyF (k := 7) hW t0 (by decide) rfl (by decide) : KA (r p0 7) = 12 ∧ ok (r p0 7))
      refine gf_X7_51 hX dX7_copy_18 (ty1 hW t0) (hW.1 _ tf18.2).1 ?_
      refine g_iload_n hX dX7_copy_21 (i := 1) rfl (j := 1) rfl ?_
      obtain ⟨g22, hF⟩ := gd_some hF
      have ta22 : KA (r (r p0 7) (ix a1)) = 3 ∧ ok (r (r p0 7) (ix a1)) := tyA hW tf18 (by decide) rfl (by decide) g22
      refine g_aald hX dX7_copy_22 tf18.1 (by decide) (by decide) (hW.1 _ tf18.2).1 (hW.1 _ tf18.2).2 g22 (hW.1 _ ta22.2).1 ?_
      refine g_astore (L' := [(6, .ref (b + (r (r p0 7) (ix a1)))), (0, .ref (b + p0)), (1, .int a1), (2, .int a2), (3, .int a3), (4, .int a4), (5, .int a5)]) hX dX7_copy_23 (by decide) rfl ?_
      refine g_aload_n hX dX7_copy_25 (i := 0) rfl (j := 1) rfl ?_
      have tf26 := (tyF (k := 7) hW t0 (by decide) rfl (by decide) : KA (r p0 7) = 12 ∧ ok (r p0 7))
      refine gf_X7_51 hX dX7_copy_26 (ty1 hW t0) (hW.1 _ tf26.2).1 ?_
      refine g_iload_n hX dX7_copy_29 (i := 3) rfl (j := 4) rfl ?_
      obtain ⟨g30, hF⟩ := gd_some hF
      have ta30 : KA (r (r p0 7) (ix a3)) = 3 ∧ ok (r (r p0 7) (ix a3)) := tyA hW tf26 (by decide) rfl (by decide) g30
      refine g_aald hX dX7_copy_30 tf26.1 (by decide) (by decide) (hW.1 _ tf26.2).1 (hW.1 _ tf26.2).2 g30 (hW.1 _ ta30.2).1 ?_
      refine g_astore (L' := [(7, .ref (b + (r (r p0 7) (ix a3)))), (6, .ref (b + (r (r p0 7) (ix a1)))), (0, .ref (b + p0)), (1, .int a1), (2, .int a2), (3, .int a3), (4, .int a4), (5, .int a5)]) hX dX7_copy_31 (by decide) rfl ?_
      refine g_aload hX dX7_copy_33 (j := 1) rfl ?_
      obtain ⟨v35, e35, hF⟩ := bi_some hF
      refine g_callV (As := []) (rest := []) (stk := [.int v35]) hX dX7_copy_35 (ctX3_isMissing hM hW (r (r p0 7) (ix a1)) ta22 e35) (by decide) (by decide) wm_X7_225 wi_X3_isMissing ws_X3_isMissing wz_X3 wc_X3_isMissing hyX3_isMissing rfl (ci := 3) rfl (by decide) ta22.1 (hW.1 _ ta22.2).1 (hW.1 _ ta22.2).2 (Nat.le_of_ble_eq_true rfl) rfl rfl ?_ rfl rfl
      refine g_if_ne (tgt := 49) hX dX7_copy_38 (by decide) (fun c38 => ?_) (fun c38 => ?_)
      · have hF := ite_t hF c38
        refine g_bipush (v := (-11)) hX dX7_copy_49 (by decide) ?_
        obtain rfl := Option.some.inj hF
        exact g_iret hX dX7_copy_51 hR
      · have hF := ite_f hF (fun z => z c38)
        refine g_aload hX dX7_copy_41 (j := 0) rfl ?_
        obtain ⟨v43, e43, hF⟩ := bi_some hF
        refine g_callV (As := []) (rest := []) (stk := [.int v43]) hX dX7_copy_43 (ctX3_isMissing hM hW (r (r p0 7) (ix a3)) ta30 e43) (by decide) (by decide) wm_X7_225 wi_X3_isMissing ws_X3_isMissing wz_X3 wc_X3_isMissing hyX3_isMissing rfl (ci := 3) rfl (by decide) ta30.1 (hW.1 _ ta30.2).1 (hW.1 _ ta30.2).2 (Nat.le_of_ble_eq_true rfl) rfl rfl ?_ rfl rfl
        refine g_if_eq (tgt := 52) hX dX7_copy_46 (by decide) (fun c46 => ?_) (fun c46 => ?_)
        · have hF := ite_t hF c46
          refine g_aload hX dX7_copy_52 (j := 1) rfl ?_
          refine gf_X7_253 hX dX7_copy_54 (ty1 hW ta22) ?_
          refine g_aload hX dX7_copy_57 (j := 0) rfl ?_
          refine gf_X7_253 hX dX7_copy_59 (ty1 hW ta30) ?_
          refine g_icmp_eq (tgt := 68) hX dX7_copy_62 (by decide) (fun c62 => ?_) (fun c62 => ?_)
          · have hF := ite_t hF c62
            refine g_aload hX dX7_copy_68 (j := 1) rfl ?_
            refine g_iload_n hX dX7_copy_70 (i := 2) rfl (j := 4) rfl ?_
            refine g_iload hX dX7_copy_71 (j := 7) rfl ?_
            obtain ⟨v73, e73, hF⟩ := bi_some hF
            refine g_callV (As := [.int a2, .int a5]) (rest := []) (stk := [.int v73]) hX dX7_copy_73 (ctX3_spans hM hW (r (r p0 7) (ix a1)) a2 a5 ta22 e73) (by decide) (by decide) wm_X7_250 wi_X3_spans ws_X3_spans wz_X3 wc_X3_spans hyX3_spans rfl (ci := 3) rfl (by decide) ta22.1 (hW.1 _ ta22.2).1 (hW.1 _ ta22.2).2 (Nat.le_of_ble_eq_true rfl) rfl rfl ?_ rfl rfl
            refine g_if_eq (tgt := 91) hX dX7_copy_76 (by decide) (fun c76 => ?_) (fun c76 => ?_)
            · have hF := ite_t hF c76
              refine g_bipush (v := (-12)) hX dX7_copy_91 (by decide) ?_
              obtain rfl := Option.some.inj hF
              exact g_iret hX dX7_copy_93 hR
            · have hF := ite_f hF c76
              refine g_aload hX dX7_copy_79 (j := 0) rfl ?_
              refine g_iload hX dX7_copy_81 (j := 6) rfl ?_
              refine g_iload hX dX7_copy_83 (j := 7) rfl ?_
              obtain ⟨v85, e85, hF⟩ := bi_some hF
              refine g_callV (As := [.int a4, .int a5]) (rest := []) (stk := [.int v85]) hX dX7_copy_85 (ctX3_spans hM hW (r (r p0 7) (ix a3)) a4 a5 ta30 e85) (by decide) (by decide) wm_X7_250 wi_X3_spans ws_X3_spans wz_X3 wc_X3_spans hyX3_spans rfl (ci := 3) rfl (by decide) ta30.1 (hW.1 _ ta30.2).1 (hW.1 _ ta30.2).2 (Nat.le_of_ble_eq_true rfl) rfl rfl ?_ rfl rfl
              refine g_if_ne (tgt := 94) hX dX7_copy_88 (by decide) (fun c88 => ?_) (fun c88 => ?_)
              · have hF := ite_t hF c88
                refine g_aload hX dX7_copy_94 (j := 1) rfl ?_
                have tf96 := (tyF (k := 2) hW ta22 (by decide) rfl (by decide) : KA (r (r (r p0 7) (ix a1)) 2) = 9 ∧ ok (r (r (r p0 7) (ix a1)) 2))
                refine gf_X7_256 hX dX7_copy_96 (ty1 hW ta22) (hW.1 _ tf96.2).1 ?_
                refine g_iload_n hX dX7_copy_99 (i := 2) rfl (j := 4) rfl ?_
                refine g_aload hX dX7_copy_100 (j := 0) rfl ?_
                have tf102 := (tyF (k := 2) hW ta30 (by decide) rfl (by decide) : KA (r (r (r p0 7) (ix a3)) 2) = 9 ∧ ok (r (r (r p0 7) (ix a3)) 2))
                refine gf_X7_256 hX dX7_copy_102 (ty1 hW ta30) (hW.1 _ tf102.2).1 ?_
                refine g_iload hX dX7_copy_105 (j := 6) rfl ?_
                refine g_iload hX dX7_copy_107 (j := 7) rfl ?_
                obtain ⟨g109, hF⟩ := gd_some hF
                obtain ⟨h109, e109, hF⟩ := lt_some hF
                refine g_acopy hX dX7_copy_109 wm_X7_259 (ty1 hW tf96) (ty1 hW tf102) (by decide) hM g109 (by decide) (Nat.le_of_ble_eq_true rfl) e109 ?_
                refine g_iload hX dX7_copy_112 (j := 7) rfl ?_
                obtain rfl := Option.some.inj hF
                exact g_iret hX dX7_copy_114 hR
              · have hF := ite_f hF (fun z => z c88)
                refine g_bipush (v := (-12)) hX dX7_copy_91 (by decide) ?_
                obtain rfl := Option.some.inj hF
                exact g_iret hX dX7_copy_93 hR
          · have hF := ite_f hF c62
            refine g_bipush (v := (-13)) hX dX7_copy_65 (by decide) ?_
            obtain rfl := Option.some.inj hF
            exact g_iret hX dX7_copy_67 hR
        · have hF := ite_f hF c46
          refine g_bipush (v := (-11)) hX dX7_copy_49 (by decide) ?_
          obtain rfl := Option.some.inj hF
          exact g_iret hX dX7_copy_51 hR
    · have hF := ite_f hF (fun z => z c11)
      refine g_bipush (v := (-2)) hX dX7_copy_14 (by decide) ?_
      obtain rfl := Option.some.inj hF
      exact g_iret hX dX7_copy_16 hR
theorem ctX7_copy {b N sz : Nat} {ok : Nat → Prop} {h : HH} {r : RR} {w : Int32 × HH} (hM : N ≤ MA) (hW : WT KA lnA ok N r) (p0 : Nat) (a1 : Int32) (a2 : Int32) (a3 : Int32) (a4 : Int32) (a5 : Int32) (t0 : KA p0 = 7 ∧ ok p0) (hF : fX7_copy h r p0 a1 a2 a3 a4 a5 = some w) : CT yX7_copy cX7_copy 8 (some FieldType.int) 2 b KA lnA MA N sz [.ref (b + p0), .int a1, .int a2, .int a3, .int a4, .int a5] h r N sz (some (.int w.1)) w.2 r 0 0 :=
  CT_of (by decide) rfl (Nat.le_of_ble_eq_true rfl) (by decide) trivial (fun X hX hR => kX7_copy hX hM hW p0 a1 a2 a3 a4 a5 t0 hR hF)
