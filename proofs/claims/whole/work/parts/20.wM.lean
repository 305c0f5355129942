/-! X8_in -/
def fX8_in_b14 (h : HH) (r : RR) (a0 : Int32) (a1 : Int32) (a2 : Int32) : Option (Int32) := some (0)
def fX8_in (h : HH) (r : RR) (a0 : Int32) (a1 : Int32) (a2 : Int32) : Option (Int32) := if a0 < a1 then (fX8_in_b14 h r a0 a1 a2) else (if a2 < a0 then (fX8_in_b14 h r a0 a1 a2) else (some (1)))
set_option maxRecDepth 100000 in
set_option maxHeartbeats 4000000 in
theorem kX8_in_b14 {X : XT} {b N sz : Nat} {ok : Nat → Prop} {h : HH} {r : RR} {w : Int32} (hX : XOK X RX8 cX8_in 3 1) (hM : N ≤ MM) (hW : WT KM lnM ok N r) (a0 : Int32) (a1 : Int32) (a2 : Int32) (hR : XR X b KM lnM MM (some FieldType.boolean) 0 0 N sz (some (.int w)) h r) (hF : fX8_in_b14 h r a0 a1 a2 = some w) : GX X b KM lnM MM 3 0 0 N sz 14 [(0, .int a0), (1, .int a1), (2, .int a2)] [] h r := by
  rw [fX8_in_b14] at hF
  refine g_iconst (v := 0) hX dX8_in_14 (by decide) ?_
  obtain rfl := Option.some.inj hF
  exact g_zret hX dX8_in_15 (by decide) hR
set_option maxRecDepth 100000 in
set_option maxHeartbeats 4000000 in
theorem kX8_in {X : XT} {b N sz : Nat} {ok : Nat → Prop} {h : HH} {r : RR} {w : Int32} (hX : XOK X RX8 cX8_in 3 1) (hM : N ≤ MM) (hW : WT KM lnM ok N r) (a0 : Int32) (a1 : Int32) (a2 : Int32) (hR : XR X b KM lnM MM (some FieldType.boolean) 0 0 N sz (some (.int w)) h r) (hF : fX8_in h r a0 a1 a2 = some w) : GX X b KM lnM MM 3 0 0 N sz 0 [(0, .int a0), (1, .int a1), (2, .int a2)] [] h r := by
  rw [fX8_in] at hF
  refine g_iload_n hX dX8_in_0 (i := 0) rfl (j := 0) rfl ?_
  refine g_iload_n hX dX8_in_1 (i := 1) rfl (j := 1) rfl ?_
  refine g_icmp_lt (tgt := 14) hX dX8_in_2 (by decide) (fun c2 => ?_) (fun c2 => ?_)
  · have hF := ite_t hF c2
    refine g_sub (L' := [(0, .int a0), (1, .int a1), (2, .int a2)]) [0, 1, 2] rfl ?_
    exact kX8_in_b14 hX hM hW a0 a1 a2 hR hF
  · have hF := ite_f hF c2
    refine g_iload_n hX dX8_in_5 (i := 0) rfl (j := 0) rfl ?_
    refine g_iload_n hX dX8_in_6 (i := 2) rfl (j := 2) rfl ?_
    refine g_icmp_gt (tgt := 14) hX dX8_in_7 (by decide) (fun c7 => ?_) (fun c7 => ?_)
    · have hF := ite_t hF c7
      refine g_sub (L' := [(0, .int a0), (1, .int a1), (2, .int a2)]) [0, 1, 2] rfl ?_
      exact kX8_in_b14 hX hM hW a0 a1 a2 hR hF
    · have hF := ite_f hF c7
      refine g_iconst (v := 1) hX dX8_in_10 (by decide) ?_
      refine g_goto (tgt := 15) hX dX8_in_11 (by decide) ?_
      obtain rfl := Option.some.inj hF
      exact g_zret hX dX8_in_15 (by decide) hR
theorem ctX8_in {b N sz : Nat} {ok : Nat → Prop} {h : HH} {r : RR} {w : Int32} (hM : N ≤ MM) (hW : WT KM lnM ok N r) (a0 : Int32) (a1 : Int32) (a2 : Int32) (hF : fX8_in h r a0 a1 a2 = some w) : CT yX8_in cX8_in 3 (some FieldType.boolean) 1 b KM lnM MM N sz [.int a0, .int a1, .int a2] h r N sz (some (.int w)) h r 0 0 :=
  CT_of (by decide) rfl (Nat.le_of_ble_eq_true rfl) (by decide) trivial (fun X hX hR => kX8_in hX hM hW a0 a1 a2 hR hF)
/-! X8_isThing -/
def fX8_isThing (h : HH) (r : RR) (p0 : Nat) (a1 : Int32) : Option (Int32) := (fX8_in h r a1 0 ((h p0 0) - 1)).bind (fun v8 => bz v8 (some (v8)))
set_option maxRecDepth 100000 in
set_option maxHeartbeats 4000000 in
theorem kX8_isThing {X : XT} {b N sz : Nat} {ok : Nat → Prop} {h : HH} {r : RR} {w : Int32} (hX : XOK X RX8 cX8_isThing 2 2) (hM : N ≤ MM) (hW : WT KM lnM ok N r) (p0 : Nat) (a1 : Int32) (t0 : KM p0 = 8 ∧ ok p0) (hR : XR X b KM lnM MM (some FieldType.boolean) 0 0 N sz (some (.int w)) h r) (hF : fX8_isThing h r p0 a1 = some w) : GX X b KM lnM MM 2 0 0 N sz 0 [(0, .ref (b + p0)), (1, .int a1)] [] h r := by
  rw [fX8_isThing] at hF
  refine g_iload_n hX dX8_isThing_0 (i := 1) rfl (j := 1) rfl ?_
  refine g_iconst (v := 0) hX dX8_isThing_1 (by decide) ?_
  refine g_aload_n hX dX8_isThing_2 (i := 0) rfl (j := 0) rfl ?_
  refine gf_X8_130 hX dX8_isThing_3 (ty1 hW t0) ?_
  refine g_iconst (v := 1) hX dX8_isThing_6 (by decide) ?_
  refine g_isub hX dX8_isThing_7 ?_
  obtain ⟨v8, e8, hF⟩ := bi_some hF
  refine g_callS (As := [.int a1, .int 0, .int ((h p0 0) - 1)]) (rest := []) (stk := [.int v8]) hX dX8_isThing_8 (ctX8_in hM hW a1 0 ((h p0 0) - 1) e8) (by decide) (by decide) wm_X8_133 wt_X8_in wz_X8 wc_X8_in hyX8_in rfl (Nat.le_of_ble_eq_true rfl) rfl rfl ?_ rfl rfl
  obtain ⟨z11, hF⟩ := bz_some hF
  obtain rfl := Option.some.inj hF
  exact g_zret hX dX8_isThing_11 z11 hR
theorem ctX8_isThing {b N sz : Nat} {ok : Nat → Prop} {h : HH} {r : RR} {w : Int32} (hM : N ≤ MM) (hW : WT KM lnM ok N r) (p0 : Nat) (a1 : Int32) (t0 : KM p0 = 8 ∧ ok p0) (hF : fX8_isThing h r p0 a1 = some w) : CT yX8_isThing cX8_isThing 2 (some FieldType.boolean) 2 b KM lnM MM N sz [.ref (b + p0), .int a1] h r N sz (some (.int w)) h r 0 0 :=
  CT_of (by decide) rfl (Nat.le_of_ble_eq_true rfl) (by decide) trivial (fun X hX hR => kX8_isThing hX hM hW p0 a1 t0 hR hF)
/-! X8_isSide -/
def fX8_isSide (h : HH) (r : RR) (a0 : Int32) : Option (Int32) := (fX8_in h r a0 0 1).bind (fun v3 => bz v3 (some (v3)))
set_option maxRecDepth 100000 in
set_option maxHeartbeats 4000000 in
theorem kX8_isSide {X : XT} {b N sz : Nat} {ok : Nat → Prop} {h : HH} {r : RR} {w : Int32} (hX : XOK X RX8 cX8_isSide 1 2) (hM : N ≤ MM) (hW : WT KM lnM ok N r) (a0 : Int32) (hR : XR X b KM lnM MM (some FieldType.boolean) 0 0 N sz (some (.int w)) h r) (hF : fX8_isSide h r a0 = some w) : GX X b KM lnM MM 1 0 0 N sz 0 [(0, .int a0)] [] h r := by
  rw [fX8_isSide] at hF
  refine g_iload_n hX dX8_isSide_0 (i := 0) rfl (j := 0) rfl ?_
  refine g_iconst (v := 0) hX dX8_isSide_1 (by decide) ?_
  refine g_iconst (v := 1) hX dX8_isSide_2 (by decide) ?_
  obtain ⟨v3, e3, hF⟩ := bi_some hF
  refine g_callS (As := [.int a0, .int 0, .int 1]) (rest := []) (stk := [.int v3]) hX dX8_isSide_3 (ctX8_in hM hW a0 0 1 e3) (by decide) (by decide) wm_X8_133 wt_X8_in wz_X8 wc_X8_in hyX8_in rfl (Nat.le_of_ble_eq_true rfl) rfl rfl ?_ rfl rfl
  obtain ⟨z6, hF⟩ := bz_some hF
  obtain rfl := Option.some.inj hF
  exact g_zret hX dX8_isSide_6 z6 hR
theorem ctX8_isSide {b N sz : Nat} {ok : Nat → Prop} {h : HH} {r : RR} {w : Int32} (hM : N ≤ MM) (hW : WT KM lnM ok N r) (a0 : Int32) (hF : fX8_isSide h r a0 = some w) : CT yX8_isSide cX8_isSide 1 (some FieldType.boolean) 2 b KM lnM MM N sz [.int a0] h r N sz (some (.int w)) h r 0 0 :=
  CT_of (by decide) rfl (Nat.le_of_ble_eq_true rfl) (by decide) trivial (fun X hX hR => kX8_isSide hX hM hW a0 hR hF)
/-! X8_isPlace -/
def fX8_isPlace (h : HH) (r : RR) (a0 : Int32) : Option (Int32) := (fX8_in h r a0 0 2).bind (fun v3 => bz v3 (some (v3)))
set_option maxRecDepth 100000 in
set_option maxHeartbeats 4000000 in
theorem kX8_isPlace {X : XT} {b N sz : Nat} {ok : Nat → Prop} {h : HH} {r : RR} {w : Int32} (hX : XOK X RX8 cX8_isPlace 1 2) (hM : N ≤ MM) (hW : WT KM lnM ok N r) (a0 : Int32) (hR : XR X b KM lnM MM (some FieldType.boolean) 0 0 N sz (some (.int w)) h r) (hF : fX8_isPlace h r a0 = some w) : GX X b KM lnM MM 1 0 0 N sz 0 [(0, .int a0)] [] h r := by
  rw [fX8_isPlace] at hF
  refine g_iload_n hX dX8_isPlace_0 (i := 0) rfl (j := 0) rfl ?_
  refine g_iconst (v := 0) hX dX8_isPlace_1 (by decide) ?_
  refine g_iconst (v := 2) hX dX8_isPlace_2 (by decide) ?_
  obtain ⟨v3, e3, hF⟩ := bi_some hF
  refine g_callS (As := [.int a0, .int 0, .int 2]) (rest := []) (stk := [.int v3]) hX dX8_isPlace_3 (ctX8_in hM hW a0 0 2 e3) (by decide) (by decide) wm_X8_133 wt_X8_in wz_X8 wc_X8_in hyX8_in rfl (Nat.le_of_ble_eq_true rfl) rfl rfl ?_ rfl rfl
  obtain ⟨z6, hF⟩ := bz_some hF
  obtain rfl := Option.some.inj hF
  exact g_zret hX dX8_isPlace_6 z6 hR
theorem ctX8_isPlace {b N sz : Nat} {ok : Nat → Prop} {h : HH} {r : RR} {w : Int32} (hM : N ≤ MM) (hW : WT KM lnM ok N r) (a0 : Int32) (hF : fX8_isPlace h r a0 = some w) : CT yX8_isPlace cX8_isPlace 1 (some FieldType.boolean) 2 b KM lnM MM N sz [.int a0] h r N sz (some (.int w)) h r 0 0 :=
  CT_of (by decide) rfl (Nat.le_of_ble_eq_true rfl) (by decide) trivial (fun X hX hR => kX8_isPlace hX hM hW a0 hR hF)
/-! X8_isName -/
def fX8_isName (h : HH) (r : RR) (a0 : Int32) : Option (Int32) := (fX8_in h r a0 0 49).bind (fun v4 => bz v4 (some (v4)))
set_option maxRecDepth 100000 in
set_option maxHeartbeats 4000000 in
theorem kX8_isName {X : XT} {b N sz : Nat} {ok : Nat → Prop} {h : HH} {r : RR} {w : Int32} (hX : XOK X RX8 cX8_isName 1 2) (hM : N ≤ MM) (hW : WT KM lnM ok N r) (a0 : Int32) (hR : XR X b KM lnM MM (some FieldType.boolean) 0 0 N sz (some (.int w)) h r) (hF : fX8_isName h r a0 = some w) : GX X b KM lnM MM 1 0 0 N sz 0 [(0, .int a0)] [] h r := by
  rw [fX8_isName] at hF
  refine g_iload_n hX dX8_isName_0 (i := 0) rfl (j := 0) rfl ?_
  refine g_iconst (v := 0) hX dX8_isName_1 (by decide) ?_
  refine g_bipush (v := 49) hX dX8_isName_2 (by decide) ?_
  obtain ⟨v4, e4, hF⟩ := bi_some hF
  refine g_callS (As := [.int a0, .int 0, .int 49]) (rest := []) (stk := [.int v4]) hX dX8_isName_4 (ctX8_in hM hW a0 0 49 e4) (by decide) (by decide) wm_X8_133 wt_X8_in wz_X8 wc_X8_in hyX8_in rfl (Nat.le_of_ble_eq_true rfl) rfl rfl ?_ rfl rfl
  obtain ⟨z7, hF⟩ := bz_some hF
  obtain rfl := Option.some.inj hF
  exact g_zret hX dX8_isName_7 z7 hR
theorem ctX8_isName {b N sz : Nat} {ok : Nat → Prop} {h : HH} {r : RR} {w : Int32} (hM : N ≤ MM) (hW : WT KM lnM ok N r) (a0 : Int32) (hF : fX8_isName h r a0 = some w) : CT yX8_isName cX8_isName 1 (some FieldType.boolean) 2 b KM lnM MM N sz [.int a0] h r N sz (some (.int w)) h r 0 0 :=
  CT_of (by decide) rfl (Nat.le_of_ble_eq_true rfl) (by decide) trivial (fun X hX hR => kX8_isName hX hM hW a0 hR hF)
/-! X8_isFolderOn -/
def fX8_isFolderOn_b33 (h : HH) (r : RR) (p0 : Nat) (a1 : Int32) (a2 : Int32) : Option (Int32) := some (1)
def fX8_isFolderOn_b37 (h : HH) (r : RR) (p0 : Nat) (a1 : Int32) (a2 : Int32) : Option (Int32) := some (0)
def fX8_isFolderOn (h : HH) (r : RR) (p0 : Nat) (a1 : Int32) (a2 : Int32) : Option (Int32) := if a2 = (-1) then (fX8_isFolderOn_b33 h r p0 a1 a2) else ((fX8_isThing h r p0 a2).bind (fun v7 => if v7 = 0 then (fX8_isFolderOn_b37 h r p0 a1 a2) else (gd (inb a1 (lnM (r p0 3))) (gd (inb a2 (lnM (r (r p0 3) (ix a1)))) (if (h (r (r p0 3) (ix a1)) (ix a2)) = 0 then (fX8_isFolderOn_b37 h r p0 a1 a2) else (gd (inb a2 (lnM (r p0 2))) (if (h (r p0 2) (ix a2)) = 0 then (fX8_isFolderOn_b37 h r p0 a1 a2) else (fX8_isFolderOn_b33 h r p0 a1 a2))))))))
set_option maxRecDepth 100000 in
set_option maxHeartbeats 4000000 in
theorem kX8_isFolderOn_b33 {X : XT} {b N sz : Nat} {ok : Nat → Prop} {h : HH} {r : RR} {w : Int32} (hX : XOK X RX8 cX8_isFolderOn 3 3) (hM : N ≤ MM) (hW : WT KM lnM ok N r) (p0 : Nat) (a1 : Int32) (a2 : Int32) (t0 : KM p0 = 8 ∧ ok p0) (hR : XR X b KM lnM MM (some FieldType.boolean) 0 0 N sz (some (.int w)) h r) (hF : fX8_isFolderOn_b33 h r p0 a1 a2 = some w) : GX X b KM lnM MM 3 0 0 N sz 33 [(0, .ref (b + p0)), (1, .int a1), (2, .int a2)] [] h r := by
  rw [fX8_isFolderOn_b33] at hF
  refine g_iconst (v := 1) hX dX8_isFolderOn_33 (by decide) ?_
  refine g_goto (tgt := 38) hX dX8_isFolderOn_34 (by decide) ?_
  obtain rfl := Option.some.inj hF
  exact g_zret hX dX8_isFolderOn_38 (by decide) hR
set_option maxRecDepth 100000 in
set_option maxHeartbeats 4000000 in
theorem kX8_isFolderOn_b37 {X : XT} {b N sz : Nat} {ok : Nat → Prop} {h : HH} {r : RR} {w : Int32} (hX : XOK X RX8 cX8_isFolderOn 3 3) (hM : N ≤ MM) (hW : WT KM lnM ok N r) (p0 : Nat) (a1 : Int32) (a2 : Int32) (t0 : KM p0 = 8 ∧ ok p0) (hR : XR X b KM lnM MM (some FieldType.boolean) 0 0 N sz (some (.int w)) h r) (hF : fX8_isFolderOn_b37 h r p0 a1 a2 = some w) : GX X b KM lnM MM 3 0 0 N sz 37 [(0, .ref (b + p0)), (1, .int a1), (2, .int a2)] [] h r := by
  rw [fX8_isFolderOn_b37] at hF
  refine g_iconst (v := 0) hX dX8_isFolderOn_37 (by decide) ?_
  obtain rfl := Option.some.inj hF
  exact g_zret hX dX8_isFolderOn_38 (by decide) hR
set_option maxRecDepth 100000 in
set_option maxHeartbeats 4000000 in
theorem kX8_isFolderOn {X : XT} {b N sz : Nat} {ok : Nat → Prop} {h : HH} {r : RR} {w : Int32} (hX : XOK X RX8 cX8_isFolderOn 3 3) (hM : N ≤ MM) (hW : WT KM lnM ok N r) (p0 : Nat) (a1 : Int32) (a2 : Int32) (t0 : KM p0 = 8 ∧ ok p0) (hR : XR X b KM lnM MM (some FieldType.boolean) 0 0 N sz (some (.int w)) h r) (hF : fX8_isFolderOn h r p0 a1 a2 = some w) : GX X b KM lnM MM 3 0 0 N sz 0 [(0, .ref (b + p0)), (1, .int a1), (2, .int a2)] [] h r := by
  rw [fX8_isFolderOn] at hF
  refine g_iload_n hX dX8_isFolderOn_0 (i := 2) rfl (j := 2) rfl ?_
  refine g_iconst (v := (-1)) hX dX8_isFolderOn_1 (by decide) ?_
  refine g_icmp_eq (tgt := 33) hX dX8_isFolderOn_2 (by decide) (fun c2 => ?_) (fun c2 => ?_)
  · have hF := ite_t hF c2
    refine g_sub (L' := [(0, .ref (b + p0)), (1, .int a1), (2, .int a2)]) [0, 1, 2] rfl ?_
    exact kX8_isFolderOn_b33 hX hM hW p0 a1 a2 t0 hR hF
  · have hF := ite_f hF c2
    refine g_aload_n hX dX8_isFolderOn_5 (i := 0) rfl (j := 0) rfl ?_
    refine g_iload_n hX dX8_isFolderOn_6 (i := 2) rfl (j := 2) rfl ?_
    obtain ⟨v7, e7, hF⟩ := bi_some hF
    refine g_callV (As := [.int a2]) (rest := []) (stk := [.int v7]) hX dX8_isFolderOn_7 (ctX8_isThing hM hW p0 a2 t0 e7) (by decide) (by decide) wm_X8_137 wi_X8_isThing ws_X8_isThing wz_X8 wc_X8_isThing hyX8_isThing rfl (ci := 8) rfl (by decide) t0.1 (hW.1 _ t0.2).1 (hW.1 _ t0.2).2 (Nat.le_of_ble_eq_true rfl) rfl rfl ?_ rfl rfl
    refine g_if_eq (tgt := 37) hX dX8_isFolderOn_10 (by decide) (fun c10 => ?_) (fun c10 => ?_)
    · have hF := ite_t hF c10
      refine g_sub (L' := [(0, .ref (b + p0)), (1, .int a1), (2, .int a2)]) [0, 1, 2] rfl ?_
      exact kX8_isFolderOn_b37 hX hM hW p0 a1 a2 t0 hR hF
    · have hF := ite_f hF c10
      refine g_aload_n hX dX8_isFolderOn_13 (i := 0) rfl (j := 0) rfl ?_
      have tf14 := (tyF (k := 3) hW t0 (by decide) rfl (by decide) : KM (r p0 3) = 15 ∧ ok (r p0 3))
      refine gf_X8_15 hX dX8_isFolderOn_14 (ty1 hW t0) (hW.1 _ tf14.2).1 ?_
      refine g_iload_n hX dX8_isFolderOn_17 (i := 1) rfl (j := 1) rfl ?_
      obtain ⟨g18, hF⟩ := gd_some hF
      have ta18 : KM (r (r p0 3) (ix a1)) = 10 ∧ ok (r (r p0 3) (ix a1)) := tyA hW tf14 (by decide) rfl (by decide) g18
      refine g_aald hX dX8_isFolderOn_18 tf14.1 (by decide) (by decide) (hW.1 _ tf14.2).1 (hW.1 _ tf14.2).2 g18 (hW.1 _ ta18.2).1 ?_
      refine g_iload_n hX dX8_isFolderOn_19 (i := 2) rfl (j := 2) rfl ?_
      obtain ⟨g20, hF⟩ := gd_some hF
      refine g_bald hX dX8_isFolderOn_20 ta18.1 (hW.1 _ ta18.2).1 (hW.1 _ ta18.2).2 g20 ?_
      refine g_if_eq (tgt := 37) hX dX8_isFolderOn_21 (by decide) (fun c21 => ?_) (fun c21 => ?_)
      · have hF := ite_t hF c21
        refine g_sub (L' := [(0, .ref (b + p0)), (1, .int a1), (2, .int a2)]) [0, 1, 2] rfl ?_
        exact kX8_isFolderOn_b37 hX hM hW p0 a1 a2 t0 hR hF
      · have hF := ite_f hF c21
        refine g_aload_n hX dX8_isFolderOn_24 (i := 0) rfl (j := 0) rfl ?_
        have tf25 := (tyF (k := 2) hW t0 (by decide) rfl (by decide) : KM (r p0 2) = 10 ∧ ok (r p0 2))
        refine gf_X8_9 hX dX8_isFolderOn_25 (ty1 hW t0) (hW.1 _ tf25.2).1 ?_
        refine g_iload_n hX dX8_isFolderOn_28 (i := 2) rfl (j := 2) rfl ?_
        obtain ⟨g29, hF⟩ := gd_some hF
        refine g_bald hX dX8_isFolderOn_29 tf25.1 (hW.1 _ tf25.2).1 (hW.1 _ tf25.2).2 g29 ?_
        refine g_if_eq (tgt := 37) hX dX8_isFolderOn_30 (by decide) (fun c30 => ?_) (fun c30 => ?_)
        · have hF := ite_t hF c30
          refine g_sub (L' := [(0, .ref (b + p0)), (1, .int a1), (2, .int a2)]) [0, 1, 2] rfl ?_
          exact kX8_isFolderOn_b37 hX hM hW p0 a1 a2 t0 hR hF
        · have hF := ite_f hF c30
          refine g_sub (L' := [(0, .ref (b + p0)), (1, .int a1), (2, .int a2)]) [0, 1, 2] rfl ?_
          exact kX8_isFolderOn_b33 hX hM hW p0 a1 a2 t0 hR hF
theorem ctX8_isFolderOn {b N sz : Nat} {ok : Nat → Prop} {h : HH} {r : RR} {w : Int32} (hM : N ≤ MM) (hW : WT KM lnM ok N r) (p0 : Nat) (a1 : Int32) (a2 : Int32) (t0 : KM p0 = 8 ∧ ok p0) (hF : fX8_isFolderOn h r p0 a1 a2 = some w) : CT yX8_isFolderOn cX8_isFolderOn 3 (some FieldType.boolean) 3 b KM lnM MM N sz [.ref (b + p0), .int a1, .int a2] h r N sz (some (.int w)) h r 0 0 :=
  CT_of (by decide) rfl (Nat.le_of_ble_eq_true rfl) (by decide) trivial (fun X hX hR => kX8_isFolderOn hX hM hW p0 a1 a2 t0 hR hF)
/-! X8_found -/
def fX8_found_b53 (h : HH) (r : RR) (p0 : Nat) (a1 : Int32) (a2 : Int32) (a3 : Int32) (k3 : Int32 → Option (Int32)) (x4 : Int32) : Option (Int32) := k3 (x4 + 1)
def fX8_found_b3 (h : HH) (r : RR) (p0 : Nat) (a1 : Int32) (a2 : Int32) (a3 : Int32) : Nat → Int32 → Option (Int32)
  | 0, _ => none
  | n + 1, x4 => if (h p0 0) ≤ x4 then (some (-1)) else (gd (inb a1 (lnM (r p0 3))) (gd (inb x4 (lnM (r (r p0 3) (ix a1)))) (if (h (r (r p0 3) (ix a1)) (ix x4)) = 0 then (fX8_found_b53 h r p0 a1 a2 a3 (fun z4_ => fX8_found_b3 h r p0 a1 a2 a3 n z4_) x4) else (gd (inb a1 (lnM (r p0 4))) (gd (inb x4 (lnM (r (r p0 4) (ix a1)))) (if ¬ (h (r (r p0 4) (ix a1)) (ix x4)) = a2 then (fX8_found_b53 h r p0 a1 a2 a3 (fun z4_ => fX8_found_b3 h r p0 a1 a2 a3 n z4_) x4) else (gd (inb a1 (lnM (r p0 5))) (gd (inb x4 (lnM (r (r p0 5) (ix a1)))) (if ¬ (h (r (r p0 5) (ix a1)) (ix x4)) = a3 then (fX8_found_b53 h r p0 a1 a2 a3 (fun z4_ => fX8_found_b3 h r p0 a1 a2 a3 n z4_) x4) else (some (x4)))))))))))
def fX8_found (h : HH) (r : RR) (p0 : Nat) (a1 : Int32) (a2 : Int32) (a3 : Int32) : Option (Int32) := fX8_found_b3 h r p0 a1 a2 a3 lpF 0
set_option maxRecDepth 100000 in
set_option maxHeartbeats 4000000 in
theorem kX8_found_b53 {X : XT} {b N sz : Nat} {ok : Nat → Prop} {h : HH} {r : RR} {w : Int32} (hX : XOK X RX8 cX8_found 5 1) (hM : N ≤ MM) (hW : WT KM lnM ok N r) (p0 : Nat) (a1 : Int32) (a2 : Int32) (a3 : Int32) (t0 : KM p0 = 8 ∧ ok p0) (hR : XR X b KM lnM MM (some FieldType.int) 0 0 N sz (some (.int w)) h r) (k3 : Int32 → Option (Int32)) (hk3 : ∀ (x4 : Int32), k3 x4 = some w → GX X b KM lnM MM 5 0 0 N sz 3 [(0, .ref (b + p0)), (1, .int a1), (2, .int a2), (3, .int a3), (4, .int x4)] [] h r) (x4 : Int32) (hF : fX8_found_b53 h r p0 a1 a2 a3 k3 x4 = some w) : GX X b KM lnM MM 5 0 0 N sz 53 [(0, .ref (b + p0)), (1, .int a1), (2, .int a2), (3, .int a3), (4, .int x4)] [] h r := by
  rw [fX8_found_b53] at hF
  refine g_iinc (L' := [(4, .int (x4 + 1)), (0, .ref (b + p0)), (1, .int a1), (2, .int a2), (3, .int a3)]) (j := 4) hX dX8_found_53 rfl rfl (by decide) rfl ?_
  refine g_goto (tgt := 3) hX dX8_found_56 (by decide) ?_
  refine g_sub (L' := [(0, .ref (b + p0)), (1, .int a1), (2, .int a2), (3, .int a3), (4, .int (x4 + 1))]) [1, 2, 3, 4, 0] rfl ?_
  exact hk3 (x4 + 1) hF
set_option maxRecDepth 100000 in
set_option maxHeartbeats 4000000 in
theorem kX8_found_b3 {X : XT} {b N sz : Nat} {ok : Nat → Prop} {h : HH} {r : RR} {w : Int32} (hX : XOK X RX8 cX8_found 5 1) (hM : N ≤ MM) (hW : WT KM lnM ok N r) (p0 : Nat) (a1 : Int32) (a2 : Int32) (a3 : Int32) (t0 : KM p0 = 8 ∧ ok p0) (hR : XR X b KM lnM MM (some FieldType.int) 0 0 N sz (some (.int w)) h r) : ∀ (n : Nat) (x4 : Int32), fX8_found_b3 h r p0 a1 a2 a3 n x4 = some w → GX X b KM lnM MM 5 0 0 N sz 3 [(0, .ref (b + p0)), (1, .int a1), (2, .int a2), (3, .int a3), (4, .int x4)] [] h r := by
  intro n
  induction n with
  | zero =>
    intro x4 hF
    cases hF
  | succ n ih =>
    intro x4 hF
    rw [fX8_found_b3] at hF
    refine g_iload hX dX8_found_3 (j := 4) rfl ?_
    refine g_aload_n hX dX8_found_5 (i := 0) rfl (j := 0) rfl ?_
    refine gf_X8_130 hX dX8_found_6 (ty1 hW t0) ?_
    refine g_icmp_ge (tgt := 59) hX dX8_found_9 (by decide) (fun c9 => ?_) (fun c9 => ?_)
    · have hF := ite_t hF c9
      refine g_iconst (v := (-1)) hX dX8_found_59 (by decide) ?_
      obtain rfl := Option.some.inj hF
      exact g_iret hX dX8_found_60 hR
    · have hF := ite_f hF c9
      refine g_aload_n hX dX8_found_12 (i := 0) rfl (j := 0) rfl ?_
      have tf13 := (tyF (k := 3) hW t0 (by decide) rfl (by decide) : KM (r p0 3) = 15 ∧ ok (r p0 3))
      refine gf_X8_15 hX dX8_found_13 (ty1 hW t0) (hW.1 _ tf13.2).1 ?_
      refine g_iload_n hX dX8_found_16 (i := 1) rfl (j := 1) rfl ?_
      obtain ⟨g17, hF⟩ := gd_some hF
      have ta17 : KM (r (r p0 3) (ix a1)) = 10 ∧ ok (r (r p0 3) (ix a1)) := tyA hW tf13 (by decide) rfl (by decide) g17
      refine g_aald hX dX8_found_17 tf13.1 (by decide) (by decide) (hW.1 _ tf13.2).1 (hW.1 _ tf13.2).2 g17 (hW.1 _ ta17.2).1 ?_
      refine g_iload hX dX8_found_18 (j := 4) rfl ?_
      obtain ⟨g20, hF⟩ := gd_some hF
      refine g_bald hX dX8_found_20 ta17.1 (hW.1 _ ta17.2).1 (hW.1 _ ta17.2).2 g20 ?_
      refine g_if_eq (tgt := 53) hX dX8_found_21 (by decide) (fun c21 => ?_) (fun c21 => ?_)
      · have hF := ite_t hF c21
        refine g_sub (L' := [(0, .ref (b + p0)), (1, .int a1), (2, .int a2), (3, .int a3), (4, .int x4)]) [0, 1, 2, 3, 4] rfl ?_
        exact kX8_found_b53 hX hM hW p0 a1 a2 a3 t0 hR (fun z4_ => fX8_found_b3 h r p0 a1 a2 a3 n z4_) ih x4 hF
      · have hF := ite_f hF c21
        refine g_aload_n hX dX8_found_24 (i := 0) rfl (j := 0) rfl ?_
        have tf25 := (tyF (k := 4) hW t0 (by decide) rfl (by decide) : KM (r p0 4) = 14 ∧ ok (r p0 4))
        refine gf_X8_20 hX dX8_found_25 (ty1 hW t0) (hW.1 _ tf25.2).1 ?_
        refine g_iload_n hX dX8_found_28 (i := 1) rfl (j := 1) rfl ?_
        obtain ⟨g29, hF⟩ := gd_some hF
        have ta29 : KM (r (r p0 4) (ix a1)) = 9 ∧ ok (r (r p0 4) (ix a1)) := tyA hW tf25 (by decide) rfl (by decide) g29
        refine g_aald hX dX8_found_29 tf25.1 (by decide) (by decide) (hW.1 _ tf25.2).1 (hW.1 _ tf25.2).2 g29 (hW.1 _ ta29.2).1 ?_
        refine g_iload hX dX8_found_30 (j := 4) rfl ?_
        obtain ⟨g32, hF⟩ := gd_some hF
        refine g_iald hX dX8_found_32 ta29.1 (hW.1 _ ta29.2).1 (hW.1 _ ta29.2).2 g32 ?_
        refine g_iload_n hX dX8_found_33 (i := 2) rfl (j := 2) rfl ?_
        refine g_icmp_ne (tgt := 53) hX dX8_found_34 (by decide) (fun c34 => ?_) (fun c34 => ?_)
        · have hF := ite_t hF c34
          refine g_sub (L' := [(0, .ref (b + p0)), (1, .int a1), (2, .int a2), (3, .int a3), (4, .int x4)]) [0, 1, 2, 3, 4] rfl ?_
          exact kX8_found_b53 hX hM hW p0 a1 a2 a3 t0 hR (fun z4_ => fX8_found_b3 h r p0 a1 a2 a3 n z4_) ih x4 hF
        · have hF := ite_f hF (fun z => z c34)
          refine g_aload_n hX dX8_found_37 (i := 0) rfl (j := 0) rfl ?_
          have tf38 := (tyF (k := 5) hW t0 (by decide) rfl (by decide) : KM (r p0 5) = 14 ∧ ok (r p0 5))
          refine gf_X8_23 hX dX8_found_38 (ty1 hW t0) (hW.1 _ tf38.2).1 ?_
          refine g_iload_n hX dX8_found_41 (i := 1) rfl (j := 1) rfl ?_
          obtain ⟨g42, hF⟩ := gd_some hF
          have ta42 : KM (r (r p0 5) (ix a1)) = 9 ∧ ok (r (r p0 5) (ix a1)) := tyA hW tf38 (by decide) rfl (by decide) g42
          refine g_aald hX dX8_found_42 tf38.1 (by decide) (by decide) (hW.1 _ tf38.2).1 (hW.1 _ tf38.2).2 g42 (hW.1 _ ta42.2).1 ?_
          refine g_iload hX dX8_found_43 (j := 4) rfl ?_
          obtain ⟨g45, hF⟩ := gd_some hF
          refine g_iald hX dX8_found_45 ta42.1 (hW.1 _ ta42.2).1 (hW.1 _ ta42.2).2 g45 ?_
          refine g_iload_n hX dX8_found_46 (i := 3) rfl (j := 3) rfl ?_
          refine g_icmp_ne (tgt := 53) hX dX8_found_47 (by decide) (fun c47 => ?_) (fun c47 => ?_)
          · have hF := ite_t hF c47
            refine g_sub (L' := [(0, .ref (b + p0)), (1, .int a1), (2, .int a2), (3, .int a3), (4, .int x4)]) [0, 1, 2, 3, 4] rfl ?_
            exact kX8_found_b53 hX hM hW p0 a1 a2 a3 t0 hR (fun z4_ => fX8_found_b3 h r p0 a1 a2 a3 n z4_) ih x4 hF
          · have hF := ite_f hF (fun z => z c47)
            refine g_iload hX dX8_found_50 (j := 4) rfl ?_
            obtain rfl := Option.some.inj hF
            exact g_iret hX dX8_found_52 hR
set_option maxRecDepth 100000 in
set_option maxHeartbeats 4000000 in
theorem kX8_found {X : XT} {b N sz : Nat} {ok : Nat → Prop} {h : HH} {r : RR} {w : Int32} (hX : XOK X RX8 cX8_found 5 1) (hM : N ≤ MM) (hW : WT KM lnM ok N r) (p0 : Nat) (a1 : Int32) (a2 : Int32) (a3 : Int32) (t0 : KM p0 = 8 ∧ ok p0) (hR : XR X b KM lnM MM (some FieldType.int) 0 0 N sz (some (.int w)) h r) (hF : fX8_found h r p0 a1 a2 a3 = some w) : GX X b KM lnM MM 5 0 0 N sz 0 [(0, .ref (b + p0)), (1, .int a1), (2, .int a2), (3, .int a3)] [] h r := by
  rw [fX8_found] at hF
  refine g_iconst (v := 0) hX dX8_found_0 (by decide) ?_
  refine g_istore (L' := [(4, .int 0), (0, .ref (b + p0)), (1, .int a1), (2, .int a2), (3, .int a3)]) hX dX8_found_1 (by decide) rfl ?_
  refine g_sub (L' := [(0, .ref (b + p0)), (1, .int a1), (2, .int a2), (3, .int a3), (4, .int 0)]) [1, 2, 3, 4, 0] rfl ?_
  exact kX8_found_b3 hX hM hW p0 a1 a2 a3 t0 hR lpF 0 hF
theorem ctX8_found {b N sz : Nat} {ok : Nat → Prop} {h : HH} {r : RR} {w : Int32} (hM : N ≤ MM) (hW : WT KM lnM ok N r) (p0 : Nat) (a1 : Int32) (a2 : Int32) (a3 : Int32) (t0 : KM p0 = 8 ∧ ok p0) (hF : fX8_found h r p0 a1 a2 a3 = some w) : CT yX8_found cX8_found 5 (some FieldType.int) 1 b KM lnM MM N sz [.ref (b + p0), .int a1, .int a2, .int a3] h r N sz (some (.int w)) h r 0 0 :=
  CT_of (by decide) rfl (Nat.le_of_ble_eq_true rfl) (by decide) trivial (fun X hX hR => kX8_found hX hM hW p0 a1 a2 a3 t0 hR hF)
/-! X8_deepIn -/
def fX8_deepIn_b35 (h : HH) (r : RR) (p0 : Nat) (a1 : Int32) (a2 : Int32) (a3 : Int32) (x4 : Int32) (x5 : Int32) : Option (Int32) := if ¬ x5 = (-1) then (some (x4)) else (some (-1))
def fX8_deepIn_b6 (h : HH) (r : RR) (p0 : Nat) (a1 : Int32) (a2 : Int32) (a3 : Int32) : Nat → Int32 → Int32 → Option (Int32)
  | 0, _, _ => none
  | n + 1, x4, x5 => if x5 = (-1) then (fX8_deepIn_b35 h r p0 a1 a2 a3 x4 x5) else (if x5 = a3 then (fX8_deepIn_b35 h r p0 a1 a2 a3 x4 x5) else (gd (inb a1 (lnM (r p0 4))) (gd (inb x5 (lnM (r (r p0 4) (ix a1)))) (lt (h (r (r p0 4) (ix a1)) (ix x5)) (fun y27 => fX8_deepIn_b6 h r p0 a1 a2 a3 n (x4 + 1) y27)))))
def fX8_deepIn (h : HH) (r : RR) (p0 : Nat) (a1 : Int32) (a2 : Int32) (a3 : Int32) : Option (Int32) := fX8_deepIn_b6 h r p0 a1 a2 a3 lpF 0 a2
set_option maxRecDepth 100000 in
set_option maxHeartbeats 4000000 in
theorem kX8_deepIn_b35 {X : XT} {b N sz : Nat} {ok : Nat → Prop} {h : HH} {r : RR} {w : Int32} (hX : XOK X RX8 cX8_deepIn 6 1) (hM : N ≤ MM) (hW : WT KM lnM ok N r) (p0 : Nat) (a1 : Int32) (a2 : Int32) (a3 : Int32) (t0 : KM p0 = 8 ∧ ok p0) (hR : XR X b KM lnM MM (some FieldType.int) 0 0 N sz (some (.int w)) h r) (x4 : Int32) (x5 : Int32) (hF : fX8_deepIn_b35 h r p0 a1 a2 a3 x4 x5 = some w) : GX X b KM lnM MM 6 0 0 N sz 35 [(0, .ref (b + p0)), (1, .int a1), (2, .int a2), (3, .int a3), (4, .int x4), (5, .int x5)] [] h r := by
  rw [fX8_deepIn_b35] at hF
  refine g_iload hX dX8_deepIn_35 (j := 5) rfl ?_
  refine g_iconst (v := (-1)) hX dX8_deepIn_37 (by decide) ?_
  refine g_icmp_ne (tgt := 45) hX dX8_deepIn_38 (by decide) (fun c38 => ?_) (fun c38 => ?_)
  · have hF := ite_t hF c38
    refine g_iload hX dX8_deepIn_45 (j := 4) rfl ?_
    obtain rfl := Option.some.inj hF
    exact g_iret hX dX8_deepIn_47 hR
  · have hF := ite_f hF (fun z => z c38)
    refine g_iconst (v := (-1)) hX dX8_deepIn_41 (by decide) ?_
    refine g_goto (tgt := 47) hX dX8_deepIn_42 (by decide) ?_
    obtain rfl := Option.some.inj hF
    exact g_iret hX dX8_deepIn_47 hR
set_option maxRecDepth 100000 in
set_option maxHeartbeats 4000000 in
theorem kX8_deepIn_b6 {X : XT} {b N sz : Nat} {ok : Nat → Prop} {h : HH} {r : RR} {w : Int32} (hX : XOK X RX8 cX8_deepIn 6 1) (hM : N ≤ MM) (hW : WT KM lnM ok N r) (p0 : Nat) (a1 : Int32) (a2 : Int32) (a3 : Int32) (t0 : KM p0 = 8 ∧ ok p0) (hR : XR X b KM lnM MM (some FieldType.int) 0 0 N sz (some (.int w)) h r) : ∀ (n : Nat) (x4 : Int32) (x5 : Int32), fX8_deepIn_b6 h r p0 a1 a2 a3 n x4 x5 = some w → GX X b KM lnM MM 6 0 0 N sz 6 [(0, .ref (b + p0)), (1, .int a1), (2, .int a2), (3, .int a3), (4, .int x4), (5, .int x5)] [] h r := by
  intro n
  induction n with
  | zero =>
    intro x4 x5 hF
    cases hF
  | succ n ih =>
    intro x4 x5 hF
    rw [fX8_deepIn_b6] at hF
    refine g_iload hX dX8_deepIn_6 (j := 5) rfl ?_
    refine g_iconst (v := (-1)) hX dX8_deepIn_8 (by decide) ?_
    refine g_icmp_eq (tgt := 35) hX dX8_deepIn_9 (by decide) (fun c9 => ?_) (fun c9 => ?_)
    · have hF := ite_t hF c9
      refine g_sub (L' := [(0, .ref (b + p0)), (1, .int a1), (2, .int a2), (3, .int a3), (4, .int x4), (5, .int x5)]) [0, 1, 2, 3, 4, 5] rfl ?_
      exact kX8_deepIn_b35 hX hM hW p0 a1 a2 a3 t0 hR x4 x5 hF
    · have hF := ite_f hF c9
      refine g_iload hX dX8_deepIn_12 (j := 5) rfl ?_
      refine g_iload_n hX dX8_deepIn_14 (i := 3) rfl (j := 3) rfl ?_
      refine g_icmp_eq (tgt := 35) hX dX8_deepIn_15 (by decide) (fun c15 => ?_) (fun c15 => ?_)
      · have hF := ite_t hF c15
        refine g_sub (L' := [(0, .ref (b + p0)), (1, .int a1), (2, .int a2), (3, .int a3), (4, .int x4), (5, .int x5)]) [0, 1, 2, 3, 4, 5] rfl ?_
        exact kX8_deepIn_b35 hX hM hW p0 a1 a2 a3 t0 hR x4 x5 hF
      · have hF := ite_f hF c15
        refine g_aload_n hX dX8_deepIn_18 (i := 0) rfl (j := 0) rfl ?_
        have tf19 := (tyF (k := 4) hW t0 (by decide) rfl (by decide) : KM (r p0 4) = 14 ∧ ok (r p0 4))
        refine gf_X8_20 hX dX8_deepIn_19 (ty1 hW t0) (hW.1 _ tf19.2).1 ?_
        refine g_iload_n hX dX8_deepIn_22 (i := 1) rfl (j := 1) rfl ?_
        obtain ⟨g23, hF⟩ := gd_some hF
        have ta23 : KM (r (r p0 4) (ix a1)) = 9 ∧ ok (r (r p0 4) (ix a1)) := tyA hW tf19 (by decide) rfl (by decide) g23
        refine g_aald hX dX8_deepIn_23 tf19.1 (by decide) (by decide) (hW.1 _ tf19.2).1 (hW.1 _ tf19.2).2 g23 (hW.1 _ ta23.2).1 ?_
        refine g_iload hX dX8_deepIn_24 (j := 5) rfl ?_
        obtain ⟨g26, hF⟩ := gd_some hF
        refine g_iald hX dX8_deepIn_26 ta23.1 (hW.1 _ ta23.2).1 (hW.1 _ ta23.2).2 g26 ?_
        obtain ⟨y27, e27, hF⟩ := lt_some hF
        refine g_topi e27 ?_
        refine g_istore (L' := [(5, .int y27), (0, .ref (b + p0)), (1, .int a1), (2, .int a2), (3, .int a3), (4, .int x4)]) hX dX8_deepIn_27 (by decide) rfl ?_
        refine g_iinc (L' := [(4, .int (x4 + 1)), (5, .int y27), (0, .ref (b + p0)), (1, .int a1), (2, .int a2), (3, .int a3)]) (j := 5) hX dX8_deepIn_29 rfl rfl (by decide) rfl ?_
        refine g_goto (tgt := 6) hX dX8_deepIn_32 (by decide) ?_
        refine g_sub (L' := [(0, .ref (b + p0)), (1, .int a1), (2, .int a2), (3, .int a3), (4, .int (x4 + 1)), (5, .int y27)]) [2, 3, 4, 5, 0, 1] rfl ?_
        exact ih (x4 + 1) y27 hF
set_option maxRecDepth 100000 in
set_option maxHeartbeats 4000000 in
theorem kX8_deepIn {X : XT} {b N sz : Nat} {ok : Nat → Prop} {h : HH} {r : RR} {w : Int32} (hX : XOK X RX8 cX8_deepIn 6 1) (hM : N ≤ MM) (hW : WT KM lnM ok N r) (p0 : Nat) (a1 : Int32) (a2 : Int32) (a3 : Int32) (t0 : KM p0 = 8 ∧ ok p0) (hR : XR X b KM lnM MM (some FieldType.int) 0 0 N sz (some (.int w)) h r) (hF : fX8_deepIn h r p0 a1 a2 a3 = some w) : GX X b KM lnM MM 6 0 0 N sz 0 [(0, .ref (b + p0)), (1, .int a1), (2, .int a2), (3, .int a3)] [] h r := by
  rw [fX8_deepIn] at hF
  refine g_iconst (v := 0) hX dX8_deepIn_0 (by decide) ?_
  refine g_istore (L' := [(4, .int 0), (0, .ref (b + p0)), (1, .int a1), (2, .int a2), (3, .int a3)]) hX dX8_deepIn_1 (by decide) rfl ?_
  refine g_iload_n hX dX8_deepIn_3 (i := 2) rfl (j := 3) rfl ?_
  refine g_istore (L' := [(5, .int a2), (4, .int 0), (0, .ref (b + p0)), (1, .int a1), (2, .int a2), (3, .int a3)]) hX dX8_deepIn_4 (by decide) rfl ?_
  refine g_sub (L' := [(0, .ref (b + p0)), (1, .int a1), (2, .int a2), (3, .int a3), (4, .int 0), (5, .int a2)]) [2, 3, 4, 5, 1, 0] rfl ?_
  exact kX8_deepIn_b6 hX hM hW p0 a1 a2 a3 t0 hR lpF 0 a2 hF
theorem ctX8_deepIn {b N sz : Nat} {ok : Nat → Prop} {h : HH} {r : RR} {w : Int32} (hM : N ≤ MM) (hW : WT KM lnM ok N r) (p0 : Nat) (a1 : Int32) (a2 : Int32) (a3 : Int32) (t0 : KM p0 = 8 ∧ ok p0) (hF : fX8_deepIn h r p0 a1 a2 a3 = some w) : CT yX8_deepIn cX8_deepIn 6 (some FieldType.int) 1 b KM lnM MM N sz [.ref (b + p0), .int a1, .int a2, .int a3] h r N sz (some (.int w)) h r 0 0 :=
  CT_of (by decide) rfl (Nat.le_of_ble_eq_true rfl) (by decide) trivial (fun X hX hR => kX8_deepIn hX hM hW p0 a1 a2 a3 t0 hR hF)
/-! X8_isInner -/
def fX8_isInner_b31 (h : HH) (r : RR) (p0 : Nat) (a1 : Int32) (a2 : Int32) (a3 : Int32) : Option (Int32) := some (0)
def fX8_isInner (h : HH) (r : RR) (p0 : Nat) (a1 : Int32) (a2 : Int32) (a3 : Int32) : Option (Int32) := gd (inb a1 (lnM (r p0 3))) (gd (inb a2 (lnM (r (r p0 3) (ix a1)))) (if (h (r (r p0 3) (ix a1)) (ix a2)) = 0 then (fX8_isInner_b31 h r p0 a1 a2 a3) else (if a2 = a3 then (fX8_isInner_b31 h r p0 a1 a2 a3) else ((fX8_deepIn h r p0 a1 a2 a3).bind (fun v20 => if v20 = (-1) then (fX8_isInner_b31 h r p0 a1 a2 a3) else (some (1)))))))
set_option maxRecDepth 100000 in
set_option maxHeartbeats 4000000 in
theorem kX8_isInner_b31 {X : XT} {b N sz : Nat} {ok : Nat → Prop} {h : HH} {r : RR} {w : Int32} (hX : XOK X RX8 cX8_isInner 4 2) (hM : N ≤ MM) (hW : WT KM lnM ok N r) (p0 : Nat) (a1 : Int32) (a2 : Int32) (a3 : Int32) (t0 : KM p0 = 8 ∧ ok p0) (hR : XR X b KM lnM MM (some FieldType.boolean) 0 0 N sz (some (.int w)) h r) (hF : fX8_isInner_b31 h r p0 a1 a2 a3 = some w) : GX X b KM lnM MM 4 0 0 N sz 31 [(0, .ref (b + p0)), (1, .int a1), (2, .int a2), (3, .int a3)] [] h r := by
  rw [fX8_isInner_b31] at hF
  refine g_iconst (v := 0) hX dX8_isInner_31 (by decide) ?_
  obtain rfl := Option.some.inj hF
  exact g_zret hX dX8_isInner_32 (by decide) hR
set_option maxRecDepth 100000 in
set_option maxHeartbeats 4000000 in
theorem kX8_isInner {X : XT} {b N sz : Nat} {ok : Nat → Prop} {h : HH} {r : RR} {w : Int32} (hX : XOK X RX8 cX8_isInner 4 2) (hM : N ≤ MM) (hW : WT KM lnM ok N r) (p0 : Nat) (a1 : Int32) (a2 : Int32) (a3 : Int32) (t0 : KM p0 = 8 ∧ ok p0) (hR : XR X b KM lnM MM (some FieldType.boolean) 0 0 N sz (some (.int w)) h r) (hF : fX8_isInner h r p0 a1 a2 a3 = some w) : GX X b KM lnM MM 4 0 0 N sz 0 [(0, .ref (b + p0)), (1, .int a1), (2, .int a2), (3, .int a3)] [] h r := by
  rw [fX8_isInner] at hF
  refine g_aload_n hX dX8_isInner_0 (i := 0) rfl (j := 0) rfl ?_
  have tf1 := (tyF (k := 3) hW t0 (by decide) rfl (by decide) : KM (r p0 3) = 15 ∧ ok (r p0 3))
  refine gf_X8_15 hX dX8_isInner_1 (ty1 hW t0) (hW.1 _ tf1.2).1 ?_
  refine g_iload_n hX dX8_isInner_4 (i := 1) rfl (j := 1) rfl ?_
  obtain ⟨g5, hF⟩ := gd_some hF
  have ta5 : KM (r (r p0 3) (ix a1)) = 10 ∧ ok (r (r p0 3) (ix a1)) := tyA hW tf1 (by decide) rfl (by decide) g5
  refine g_aald hX dX8_isInner_5 tf1.1 (by decide) (by decide) (hW.1 _ tf1.2).1 (hW.1 _ tf1.2).2 g5 (hW.1 _ ta5.2).1 ?_
  refine g_iload_n hX dX8_isInner_6 (i := 2) rfl (j := 2) rfl ?_
  obtain ⟨g7, hF⟩ := gd_some hF
  refine g_bald hX dX8_isInner_7 ta5.1 (hW.1 _ ta5.2).1 (hW.1 _ ta5.2).2 g7 ?_
  refine g_if_eq (tgt := 31) hX dX8_isInner_8 (by decide) (fun c8 => ?_) (fun c8 => ?_)
  · have hF := ite_t hF c8
    refine g_sub (L' := [(0, .ref (b + p0)), (1, .int a1), (2, .int a2), (3, .int a3)]) [0, 1, 2, 3] rfl ?_
    exact kX8_isInner_b31 hX hM hW p0 a1 a2 a3 t0 hR hF
  · have hF := ite_f hF c8
    refine g_iload_n hX dX8_isInner_11 (i := 2) rfl (j := 2) rfl ?_
    refine g_iload_n hX dX8_isInner_12 (i := 3) rfl (j := 3) rfl ?_
    refine g_icmp_eq (tgt := 31) hX dX8_isInner_13 (by decide) (fun c13 => ?_) (fun c13 => ?_)
    · have hF := ite_t hF c13
      refine g_sub (L' := [(0, .ref (b + p0)), (1, .int a1), (2, .int a2), (3, .int a3)]) [0, 1, 2, 3] rfl ?_
      exact kX8_isInner_b31 hX hM hW p0 a1 a2 a3 t0 hR hF
    · have hF := ite_f hF c13
      refine g_aload_n hX dX8_isInner_16 (i := 0) rfl (j := 0) rfl ?_
      refine g_iload_n hX dX8_isInner_17 (i := 1) rfl (j := 1) rfl ?_
      refine g_iload_n hX dX8_isInner_18 (i := 2) rfl (j := 2) rfl ?_
      refine g_iload_n hX dX8_isInner_19 (i := 3) rfl (j := 3) rfl ?_
      obtain ⟨v20, e20, hF⟩ := bi_some hF
      refine g_callV (As := [.int a1, .int a2, .int a3]) (rest := []) (stk := [.int v20]) hX dX8_isInner_20 (ctX8_deepIn hM hW p0 a1 a2 a3 t0 e20) (by decide) (by decide) wm_X8_141 wi_X8_deepIn ws_X8_deepIn wz_X8 wc_X8_deepIn hyX8_deepIn rfl (ci := 8) rfl (by decide) t0.1 (hW.1 _ t0.2).1 (hW.1 _ t0.2).2 (Nat.le_of_ble_eq_true rfl) rfl rfl ?_ rfl rfl
      refine g_iconst (v := (-1)) hX dX8_isInner_23 (by decide) ?_
      refine g_icmp_eq (tgt := 31) hX dX8_isInner_24 (by decide) (fun c24 => ?_) (fun c24 => ?_)
      · have hF := ite_t hF c24
        refine g_sub (L' := [(0, .ref (b + p0)), (1, .int a1), (2, .int a2), (3, .int a3)]) [0, 1, 2, 3] rfl ?_
        exact kX8_isInner_b31 hX hM hW p0 a1 a2 a3 t0 hR hF
      · have hF := ite_f hF c24
        refine g_iconst (v := 1) hX dX8_isInner_27 (by decide) ?_
        refine g_goto (tgt := 32) hX dX8_isInner_28 (by decide) ?_
        obtain rfl := Option.some.inj hF
        exact g_zret hX dX8_isInner_32 (by decide) hR
theorem ctX8_isInner {b N sz : Nat} {ok : Nat → Prop} {h : HH} {r : RR} {w : Int32} (hM : N ≤ MM) (hW : WT KM lnM ok N r) (p0 : Nat) (a1 : Int32) (a2 : Int32) (a3 : Int32) (t0 : KM p0 = 8 ∧ ok p0) (hF : fX8_isInner h r p0 a1 a2 a3 = some w) : CT yX8_isInner cX8_isInner 4 (some FieldType.boolean) 2 b KM lnM MM N sz [.ref (b + p0), .int a1, .int a2, .int a3] h r N sz (some (.int w)) h r 0 0 :=
  CT_of (by decide) rfl (Nat.le_of_ble_eq_true rfl) (by decide) trivial (fun X hX hR => kX8_isInner hX hM hW p0 a1 a2 a3 t0 hR hF)
/-! X8_refuses -/
def fX8_refuses (h : HH) (r : RR) (p0 : Nat) (a1 : Int32) (a2 : Int32) (a3 : Int32) : Option (Int32 × HH) := lt (up h p0 7 a1) (fun h2 => lt (up h2 p0 8 a2) (fun h7 => lt (up h7 p0 9 a3) (fun h12 => some (a1, h12))))
set_option maxRecDepth 100000 in
set_option maxHeartbeats 4000000 in
theorem kX8_refuses {X : XT} {b N sz : Nat} {ok : Nat → Prop} {h : HH} {r : RR} {w : Int32 × HH} (hX : XOK X RX8 cX8_refuses 4 1) (hM : N ≤ MM) (hW : WT KM lnM ok N r) (p0 : Nat) (a1 : Int32) (a2 : Int32) (a3 : Int32) (t0 : KM p0 = 8 ∧ ok p0) (hR : XR X b KM lnM MM (some FieldType.int) 0 0 N sz (some (.int w.1)) w.2 r) (hF : fX8_refuses h r p0 a1 a2 a3 = some w) : GX X b KM lnM MM 4 0 0 N sz 0 [(0, .ref (b + p0)), (1, .int a1), (2, .int a2), (3, .int a3)] [] h r := by
  rw [fX8_refuses] at hF
  refine g_aload_n hX dX8_refuses_0 (i := 0) rfl (j := 0) rfl ?_
  refine g_iload_n hX dX8_refuses_1 (i := 1) rfl (j := 1) rfl ?_
  obtain ⟨h2, e2, hF⟩ := lt_some hF
  refine pf_X8_145 hX dX8_refuses_2 (ty1 hW t0) hM e2 ?_
  refine g_aload_n hX dX8_refuses_5 (i := 0) rfl (j := 0) rfl ?_
  refine g_iload_n hX dX8_refuses_6 (i := 2) rfl (j := 2) rfl ?_
  obtain ⟨h7, e7, hF⟩ := lt_some hF
  refine pf_X8_29 hX dX8_refuses_7 (ty1 hW t0) hM e7 ?_
  refine g_aload_n hX dX8_refuses_10 (i := 0) rfl (j := 0) rfl ?_
  refine g_iload_n hX dX8_refuses_11 (i := 3) rfl (j := 3) rfl ?_
  obtain ⟨h12, e12, hF⟩ := lt_some hF
  refine pf_X8_148 hX dX8_refuses_12 (ty1 hW t0) hM e12 ?_
  refine g_iload_n hX dX8_refuses_15 (i := 1) rfl (j := 1) rfl ?_
  obtain rfl := Option.some.inj hF
  exact g_iret hX dX8_refuses_16 hR
theorem ctX8_refuses {b N sz : Nat} {ok : Nat → Prop} {h : HH} {r : RR} {w : Int32 × HH} (hM : N ≤ MM) (hW : WT KM lnM ok N r) (p0 : Nat) (a1 : Int32) (a2 : Int32) (a3 : Int32) (t0 : KM p0 = 8 ∧ ok p0) (hF : fX8_refuses h r p0 a1 a2 a3 = some w) : CT yX8_refuses cX8_refuses 4 (some FieldType.int) 1 b KM lnM MM N sz [.ref (b + p0), .int a1, .int a2, .int a3] h r N sz (some (.int w.1)) w.2 r 0 0 :=
  CT_of (by decide) rfl (Nat.le_of_ble_eq_true rfl) (by decide) trivial (fun X hX hR => kX8_refuses hX hM hW p0 a1 a2 a3 t0 hR hF)
/-! X8_done -/
def fX8_done (h : HH) (r : RR) (p0 : Nat) (a1 : Int32) : Option (Int32 × HH) := lt (up h p0 7 0) (fun h2 => lt (up h2 p0 8 (-1)) (fun h7 => lt (up h7 p0 9 0) (fun h12 => some (a1, h12))))
set_option maxRecDepth 100000 in
set_option maxHeartbeats 4000000 in
theorem kX8_done {X : XT} {b N sz : Nat} {ok : Nat → Prop} {h : HH} {r : RR} {w : Int32 × HH} (hX : XOK X RX8 cX8_done 2 1) (hM : N ≤ MM) (hW : WT KM lnM ok N r) (p0 : Nat) (a1 : Int32) (t0 : KM p0 = 8 ∧ ok p0) (hR : XR X b KM lnM MM (some FieldType.int) 0 0 N sz (some (.int w.1)) w.2 r) (hF : fX8_done h r p0 a1 = some w) : GX X b KM lnM MM 2 0 0 N sz 0 [(0, .ref (b + p0)), (1, .int a1)] [] h r := by
  rw [fX8_done] at hF
  refine g_aload_n hX dX8_done_0 (i := 0) rfl (j := 0) rfl ?_
  refine g_iconst (v := 0) hX dX8_done_1 (by decide) ?_
  obtain ⟨h2, e2, hF⟩ := lt_some hF
  refine pf_X8_145 hX dX8_done_2 (ty1 hW t0) hM e2 ?_
  refine g_aload_n hX dX8_done_5 (i := 0) rfl (j := 0) rfl ?_
  refine g_iconst (v := (-1)) hX dX8_done_6 (by decide) ?_
  obtain ⟨h7, e7, hF⟩ := lt_some hF
  refine pf_X8_29 hX dX8_done_7 (ty1 hW t0) hM e7 ?_
  refine g_aload_n hX dX8_done_10 (i := 0) rfl (j := 0) rfl ?_
  refine g_iconst (v := 0) hX dX8_done_11 (by decide) ?_
  obtain ⟨h12, e12, hF⟩ := lt_some hF
  refine pf_X8_148 hX dX8_done_12 (ty1 hW t0) hM e12 ?_
  refine g_iload_n hX dX8_done_15 (i := 1) rfl (j := 1) rfl ?_
  obtain rfl := Option.some.inj hF
  exact g_iret hX dX8_done_16 hR
theorem ctX8_done {b N sz : Nat} {ok : Nat → Prop} {h : HH} {r : RR} {w : Int32 × HH} (hM : N ≤ MM) (hW : WT KM lnM ok N r) (p0 : Nat) (a1 : Int32) (t0 : KM p0 = 8 ∧ ok p0) (hF : fX8_done h r p0 a1 = some w) : CT yX8_done cX8_done 2 (some FieldType.int) 1 b KM lnM MM N sz [.ref (b + p0), .int a1] h r N sz (some (.int w.1)) w.2 r 0 0 :=
  CT_of (by decide) rfl (Nat.le_of_ble_eq_true rfl) (by decide) trivial (fun X hX hR => kX8_done hX hM hW p0 a1 t0 hR hF)
/-! X8_stand -/
def fX8_stand (h : HH) (r : RR) (p0 : Nat) (a1 : Int32) (a2 : Int32) (a3 : Int32) (a4 : Int32) (a5 : Int32) : Option (HH) := gd (inb a1 (lnM (r p0 3))) (gd (inb a2 (lnM (r (r p0 3) (ix a1)))) (lt (up h (r (r p0 3) (ix a1)) (ix a2) (zn 1)) (fun h8 => gd (inb a1 (lnM (r p0 4))) (gd (inb a2 (lnM (r (r p0 4) (ix a1)))) (lt (up h8 (r (r p0 4) (ix a1)) (ix a2) a3) (fun h17 => gd (inb a1 (lnM (r p0 5))) (gd (inb a2 (lnM (r (r p0 5) (ix a1)))) (lt (up h17 (r (r p0 5) (ix a1)) (ix a2) a4) (fun h27 => gd (inb a1 (lnM (r p0 6))) (gd (inb a2 (lnM (r (r p0 6) (ix a1)))) (lt (up h27 (r (r p0 6) (ix a1)) (ix a2) a5) (fun h37 => some h37))))))))))))
set_option maxRecDepth 100000 in
set_option maxHeartbeats 4000000 in
theorem kX8_stand {X : XT} {b N sz : Nat} {ok : Nat → Prop} {h : HH} {r : RR} {w : HH} (hX : XOK X RX8 cX8_stand 6 1) (hM : N ≤ MM) (hW : WT KM lnM ok N r) (p0 : Nat) (a1 : Int32) (a2 : Int32) (a3 : Int32) (a4 : Int32) (a5 : Int32) (t0 : KM p0 = 8 ∧ ok p0) (hR : XR X b KM lnM MM (none) 0 0 N sz none w r) (hF : fX8_stand h r p0 a1 a2 a3 a4 a5 = some w) : GX X b KM lnM MM 6 0 0 N sz 0 [(0, .ref (b + p0)), (1, .int a1), (2, .int a2), (3, .int a3), (4, .int a4), (5, .int a5)] [] h r := by
  rw [fX8_stand] at hF
  refine g_aload_n hX dX8_stand_0 (i := 0) rfl (j := 0) rfl ?_
  have tf1 := (tyF (k := 3) hW t0 (by decide) rfl (by decide) : KM (r p0 3) = 15 ∧ ok (r p0 3))
  refine gf_X8_15 hX dX8_stand_1 (ty1 hW t0) (hW.1 _ tf1.2).1 ?_
  refine g_iload_n hX dX8_stand_4 (i := 1) rfl (j := 1) rfl ?_
  obtain ⟨g5, hF⟩ := gd_some hF
  have ta5 : KM (r (r p0 3) (ix a1)) = 10 ∧ ok (r (r p0 3) (ix a1)) := tyA hW tf1 (by decide) rfl (by decide) g5
  refine g_aald hX dX8_stand_5 tf1.1 (by decide) (by decide) (hW.1 _ tf1.2).1 (hW.1 _ tf1.2).2 g5 (hW.1 _ ta5.2).1 ?_
  refine g_iload_n hX dX8_stand_6 (i := 2) rfl (j := 2) rfl ?_
  refine g_iconst (v := 1) hX dX8_stand_7 (by decide) ?_
  obtain ⟨g8, hF⟩ := gd_some hF
  obtain ⟨h8, e8, hF⟩ := lt_some hF
  refine g_bast hX dX8_stand_8 ta5.1 (hW.1 _ ta5.2).1 (hW.1 _ ta5.2).2 hM g8 e8 ?_
  refine g_aload_n hX dX8_stand_9 (i := 0) rfl (j := 0) rfl ?_
  have tf10 := (tyF (k := 4) hW t0 (by decide) rfl (by decide) : KM (r p0 4) = 14 ∧ ok (r p0 4))
  refine gf_X8_20 hX dX8_stand_10 (ty1 hW t0) (hW.1 _ tf10.2).1 ?_
  refine g_iload_n hX dX8_stand_13 (i := 1) rfl (j := 1) rfl ?_
  obtain ⟨g14, hF⟩ := gd_some hF
  have ta14 : KM (r (r p0 4) (ix a1)) = 9 ∧ ok (r (r p0 4) (ix a1)) := tyA hW tf10 (by decide) rfl (by decide) g14
  refine g_aald hX dX8_stand_14 tf10.1 (by decide) (by decide) (hW.1 _ tf10.2).1 (hW.1 _ tf10.2).2 g14 (hW.1 _ ta14.2).1 ?_
  refine g_iload_n hX dX8_stand_15 (i := 2) rfl (j := 2) rfl ?_
  refine g_iload_n hX dX8_stand_16 (i := 3) rfl (j := 3) rfl ?_
  obtain ⟨g17, hF⟩ := gd_some hF
  obtain ⟨h17, e17, hF⟩ := lt_some hF
  refine g_iast hX dX8_stand_17 ta14.1 (hW.1 _ ta14.2).1 (hW.1 _ ta14.2).2 hM g17 e17 ?_
  refine g_aload_n hX dX8_stand_18 (i := 0) rfl (j := 0) rfl ?_
  have tf19 := (tyF (k := 5) hW t0 (by decide) rfl (by decide) : KM (r p0 5) = 14 ∧ ok (r p0 5))
  refine gf_X8_23 hX dX8_stand_19 (ty1 hW t0) (hW.1 _ tf19.2).1 ?_
  refine g_iload_n hX dX8_stand_22 (i := 1) rfl (j := 1) rfl ?_
  obtain ⟨g23, hF⟩ := gd_some hF
  have ta23 : KM (r (r p0 5) (ix a1)) = 9 ∧ ok (r (r p0 5) (ix a1)) := tyA hW tf19 (by decide) rfl (by decide) g23
  refine g_aald hX dX8_stand_23 tf19.1 (by decide) (by decide) (hW.1 _ tf19.2).1 (hW.1 _ tf19.2).2 g23 (hW.1 _ ta23.2).1 ?_
  refine g_iload_n hX dX8_stand_24 (i := 2) rfl (j := 2) rfl ?_
  refine g_iload hX dX8_stand_25 (j := 4) rfl ?_
  obtain ⟨g27, hF⟩ := gd_some hF
  obtain ⟨h27, e27, hF⟩ := lt_some hF
  refine g_iast hX dX8_stand_27 ta23.1 (hW.1 _ ta23.2).1 (hW.1 _ ta23.2).2 hM g27 e27 ?_
  refine g_aload_n hX dX8_stand_28 (i := 0) rfl (j := 0) rfl ?_
  have tf29 := (tyF (k := 6) hW t0 (by decide) rfl (by decide) : KM (r p0 6) = 14 ∧ ok (r p0 6))
  refine gf_X8_26 hX dX8_stand_29 (ty1 hW t0) (hW.1 _ tf29.2).1 ?_
  refine g_iload_n hX dX8_stand_32 (i := 1) rfl (j := 1) rfl ?_
  obtain ⟨g33, hF⟩ := gd_some hF
  have ta33 : KM (r (r p0 6) (ix a1)) = 9 ∧ ok (r (r p0 6) (ix a1)) := tyA hW tf29 (by decide) rfl (by decide) g33
  refine g_aald hX dX8_stand_33 tf29.1 (by decide) (by decide) (hW.1 _ tf29.2).1 (hW.1 _ tf29.2).2 g33 (hW.1 _ ta33.2).1 ?_
  refine g_iload_n hX dX8_stand_34 (i := 2) rfl (j := 2) rfl ?_
  refine g_iload hX dX8_stand_35 (j := 5) rfl ?_
  obtain ⟨g37, hF⟩ := gd_some hF
  obtain ⟨h37, e37, hF⟩ := lt_some hF
  refine g_iast hX dX8_stand_37 ta33.1 (hW.1 _ ta33.2).1 (hW.1 _ ta33.2).2 hM g37 e37 ?_
  obtain rfl := Option.some.inj hF
  exact g_vret hX dX8_stand_38 hR
theorem ctX8_stand {b N sz : Nat} {ok : Nat → Prop} {h : HH} {r : RR} {w : HH} (hM : N ≤ MM) (hW : WT KM lnM ok N r) (p0 : Nat) (a1 : Int32) (a2 : Int32) (a3 : Int32) (a4 : Int32) (a5 : Int32) (t0 : KM p0 = 8 ∧ ok p0) (hF : fX8_stand h r p0 a1 a2 a3 a4 a5 = some w) : CT yX8_stand cX8_stand 6 (none) 1 b KM lnM MM N sz [.ref (b + p0), .int a1, .int a2, .int a3, .int a4, .int a5] h r N sz none w r 0 0 :=
  CT_of (by decide) rfl (Nat.le_of_ble_eq_true rfl) (by decide) trivial (fun X hX hR => kX8_stand hX hM hW p0 a1 a2 a3 a4 a5 t0 hR hF)
/-! X8_make -/
def fX8_make_b39 (r : RR) (p0 : Nat) (a1 : Int32) (a2 : Int32) (a3 : Int32) (a4 : Int32) (h : HH) : Option (Int32 × HH) := bi2 (fX8_refuses h r p0 (-2) (-1) 0) (fun v44 h44 => some (v44, h44))
def fX8_make_b132 (r : RR) (p0 : Nat) (a1 : Int32) (a2 : Int32) (a3 : Int32) (a4 : Int32) : Nat → HH → Int32 → Option (Int32 × HH)
  | 0, _, _ => none
  | n + 1, h, x6 => if 3 ≤ x6 then ((fX8_stand h r p0 a1 (h p0 0) a2 a3 (mx 0 a4)).bind (fun h171 => lt (up h171 p0 0 ((h171 p0 0) + 1)) (fun h181 => bi2 (fX8_done h181 r p0 ((h181 p0 0) - 1)) (fun v191 h191 => some (v191, h191))))) else (gd (inb x6 (lnM (r p0 3))) (gd (inb (h p0 0) (lnM (r (r p0 3) (ix x6)))) (lt (up h (r (r p0 3) (ix x6)) (ix (h p0 0)) (zn 0)) (fun h150 => fX8_make_b132 r p0 a1 a2 a3 a4 n h150 (x6 + 1)))))
def fX8_make_b128 (r : RR) (p0 : Nat) (a1 : Int32) (a2 : Int32) (a3 : Int32) (a4 : Int32) (h : HH) (u0 : Nat) (s1 : Int32) (s2 : Int32) : Option (Int32 × HH) := gd (inb s1 (lnM u0)) (lt (up h u0 (ix s1) (zn s2)) (fun h128 => fX8_make_b132 r p0 a1 a2 a3 a4 lpF h128 0))
def fX8_make_b20 (r : RR) (p0 : Nat) (a1 : Int32) (a2 : Int32) (a3 : Int32) (a4 : Int32) (h : HH) : Option (Int32 × HH) := (fX8_isName h r a3).bind (fun v21 => if v21 = 0 then (fX8_make_b39 r p0 a1 a2 a3 a4 h) else ((fX8_in h r a4 (-1) 999).bind (fun v33 => if ¬ v33 = 0 then ((fX8_isFolderOn h r p0 a1 a2).bind (fun v51 => if ¬ v51 = 0 then (if ¬ (h p0 0) = 30 then ((fX8_found h r p0 a1 a2 a3).bind (fun v88 => if v88 = (-1) then (if ¬ a4 = (-1) then (fX8_make_b128 r p0 a1 a2 a3 a4 h (r p0 2) (h p0 0) 0) else (fX8_make_b128 r p0 a1 a2 a3 a4 h (r p0 2) (h p0 0) 1)) else (bi2 (fX8_refuses h r p0 (-6) v88 0) (fun v105 h105 => some (v105, h105))))) else (bi2 (fX8_refuses h r p0 (-4) (-1) 0) (fun v80 h80 => some (v80, h80)))) else (bi2 (fX8_refuses h r p0 (-3) a2 0) (fun v62 h62 => some (v62, h62))))) else (fX8_make_b39 r p0 a1 a2 a3 a4 h))))
def fX8_make (h : HH) (r : RR) (p0 : Nat) (a1 : Int32) (a2 : Int32) (a3 : Int32) (a4 : Int32) : Option (Int32 × HH) := (fX8_isSide h r a1).bind (fun v1 => if v1 = 0 then (fX8_make_b39 r p0 a1 a2 a3 a4 h) else (if a2 = (-1) then (fX8_make_b20 r p0 a1 a2 a3 a4 h) else ((fX8_isThing h r p0 a2).bind (fun v14 => if v14 = 0 then (fX8_make_b39 r p0 a1 a2 a3 a4 h) else (fX8_make_b20 r p0 a1 a2 a3 a4 h)))))
set_option maxRecDepth 100000 in
set_option maxHeartbeats 4000000 in
theorem kX8_make_b39 {X : XT} {b N sz : Nat} {ok : Nat → Prop} {r : RR} {w : Int32 × HH} (hX : XOK X RX8 cX8_make 7 4) (hM : N ≤ MM) (hW : WT KM lnM ok N r) (p0 : Nat) (a1 : Int32) (a2 : Int32) (a3 : Int32) (a4 : Int32) (t0 : KM p0 = 8 ∧ ok p0) (hR : XR X b KM lnM MM (some FieldType.int) 0 0 N sz (some (.int w.1)) w.2 r) (h : HH) (hF : fX8_make_b39 r p0 a1 a2 a3 a4 h = some w) : GX X b KM lnM MM 7 0 0 N sz 39 [(0, .ref (b + p0)), (1, .int a1), (2, .int a2), (3, .int a3), (4, .int a4)] [] h r := by
  rw [fX8_make_b39] at hF
  refine g_aload_n hX dX8_make_39 (i := 0) rfl (j := 0) rfl ?_
  refine g_bipush (v := (-2)) hX dX8_make_40 (by decide) ?_
  refine g_iconst (v := (-1)) hX dX8_make_42 (by decide) ?_
  refine g_iconst (v := 0) hX dX8_make_43 (by decide) ?_
  obtain ⟨v44, h44, e44, hF⟩ := bi2_some hF
  refine g_callV (As := [.int (-2), .int (-1), .int 0]) (rest := []) (stk := [.int v44]) hX dX8_make_44 (ctX8_refuses hM hW p0 (-2) (-1) 0 t0 e44) (by decide) (by decide) wm_X8_157 wi_X8_refuses ws_X8_refuses wz_X8 wc_X8_refuses hyX8_refuses rfl (ci := 8) rfl (by decide) t0.1 (hW.1 _ t0.2).1 (hW.1 _ t0.2).2 (Nat.le_of_ble_eq_true rfl) rfl rfl ?_ rfl rfl
  obtain rfl := Option.some.inj hF
  exact g_iret hX dX8_make_47 hR
set_option maxRecDepth 100000 in
set_option maxHeartbeats 4000000 in
theorem kX8_make_b132 {X : XT} {b N sz : Nat} {ok : Nat → Prop} {r : RR} {w : Int32 × HH} (hX : XOK X RX8 cX8_make 7 4) (hM : N ≤ MM) (hW : WT KM lnM ok N r) (p0 : Nat) (a1 : Int32) (a2 : Int32) (a3 : Int32) (a4 : Int32) (t0 : KM p0 = 8 ∧ ok p0) (hR : XR X b KM lnM MM (some FieldType.int) 0 0 N sz (some (.int w.1)) w.2 r) : ∀ (n : Nat) (h : HH) (x6 : Int32), fX8_make_b132 r p0 a1 a2 a3 a4 n h x6 = some w → GX X b KM lnM MM 7 0 0 N sz 132 [(0, .ref (b + p0)), (1, .int a1), (2, .int a2), (3, .int a3), (4, .int a4), (6, .int x6)] [] h r := by
  intro n
  induction n with
  | zero =>
    intro h x6 hF
    cases hF
  | succ n ih =>
    intro h x6 hF
    rw [fX8_make_b132] at hF
    refine g_iload hX dX8_make_132 (j := 5) rfl ?_
    refine g_iconst (v := 3) hX dX8_make_134 (by decide) ?_
    refine g_icmp_ge (tgt := 157) hX dX8_make_135 (by decide) (fun c135 => ?_) (fun c135 => ?_)
    · have hF := ite_t hF c135
      refine g_aload_n hX dX8_make_157 (i := 0) rfl (j := 0) rfl ?_
      refine g_iload_n hX dX8_make_158 (i := 1) rfl (j := 1) rfl ?_
      refine g_aload_n hX dX8_make_159 (i := 0) rfl (j := 0) rfl ?_
      refine gf_X8_130 hX dX8_make_160 (ty1 hW t0) ?_
      refine g_iload_n hX dX8_make_163 (i := 2) rfl (j := 2) rfl ?_
      refine g_iload_n hX dX8_make_164 (i := 3) rfl (j := 3) rfl ?_
      refine g_iconst (v := 0) hX dX8_make_165 (by decide) ?_
      refine g_iload hX dX8_make_166 (j := 4) rfl ?_
      refine g_max hX dX8_make_168 wm_X8_167 (by decide) (Nat.le_of_ble_eq_true rfl) ?_ rfl rfl
      obtain ⟨h171, e171, hF⟩ := bi_some hF
      refine g_callV (As := [.int a1, .int (h p0 0), .int a2, .int a3, .int (mx 0 a4)]) (rest := []) (stk := []) hX dX8_make_171 (ctX8_stand hM hW p0 a1 (h p0 0) a2 a3 (mx 0 a4) t0 e171) (by decide) (by decide) wm_X8_173 wi_X8_stand ws_X8_stand wz_X8 wc_X8_stand hyX8_stand rfl (ci := 8) rfl (by decide) t0.1 (hW.1 _ t0.2).1 (hW.1 _ t0.2).2 (Nat.le_of_ble_eq_true rfl) rfl rfl ?_ rfl rfl
      refine g_aload_n hX dX8_make_174 (i := 0) rfl (j := 0) rfl ?_
      refine g_dup hX dX8_make_175 rfl ?_
      refine gf_X8_130 hX dX8_make_176 (ty1 hW t0) ?_
      refine g_iconst (v := 1) hX dX8_make_179 (by decide) ?_
      refine g_iadd hX dX8_make_180 ?_
      obtain ⟨h181, e181, hF⟩ := lt_some hF
      refine pf_X8_130 hX dX8_make_181 (ty1 hW t0) hM e181 ?_
      refine g_aload_n hX dX8_make_184 (i := 0) rfl (j := 0) rfl ?_
      refine g_aload_n hX dX8_make_185 (i := 0) rfl (j := 0) rfl ?_
      refine gf_X8_130 hX dX8_make_186 (ty1 hW t0) ?_
      refine g_iconst (v := 1) hX dX8_make_189 (by decide) ?_
      refine g_isub hX dX8_make_190 ?_
      obtain ⟨v191, h191, e191, hF⟩ := bi2_some hF
      refine g_callV (As := [.int ((h181 p0 0) - 1)]) (rest := []) (stk := [.int v191]) hX dX8_make_191 (ctX8_done hM hW p0 ((h181 p0 0) - 1) t0 e191) (by decide) (by decide) wm_X8_177 wi_X8_done ws_X8_done wz_X8 wc_X8_done hyX8_done rfl (ci := 8) rfl (by decide) t0.1 (hW.1 _ t0.2).1 (hW.1 _ t0.2).2 (Nat.le_of_ble_eq_true rfl) rfl rfl ?_ rfl rfl
      obtain rfl := Option.some.inj hF
      exact g_iret hX dX8_make_194 hR
    · have hF := ite_f hF c135
      refine g_aload_n hX dX8_make_138 (i := 0) rfl (j := 0) rfl ?_
      have tf139 := (tyF (k := 3) hW t0 (by decide) rfl (by decide) : KM (r p0 3) = 15 ∧ ok (r p0 3))
      refine gf_X8_15 hX dX8_make_139 (ty1 hW t0) (hW.1 _ tf139.2).1 ?_
      refine g_iload hX dX8_make_142 (j := 5) rfl ?_
      obtain ⟨g144, hF⟩ := gd_some hF
      have ta144 : KM (r (r p0 3) (ix x6)) = 10 ∧ ok (r (r p0 3) (ix x6)) := tyA hW tf139 (by decide) rfl (by decide) g144
      refine g_aald hX dX8_make_144 tf139.1 (by decide) (by decide) (hW.1 _ tf139.2).1 (hW.1 _ tf139.2).2 g144 (hW.1 _ ta144.2).1 ?_
      refine g_aload_n hX dX8_make_145 (i := 0) rfl (j := 0) rfl ?_
      refine gf_X8_130 hX dX8_make_146 (ty1 hW t0) ?_
      refine g_iconst (v := 0) hX dX8_make_149 (by decide) ?_
      obtain ⟨g150, hF⟩ := gd_some hF
      obtain ⟨h150, e150, hF⟩ := lt_some hF
      refine g_bast hX dX8_make_150 ta144.1 (hW.1 _ ta144.2).1 (hW.1 _ ta144.2).2 hM g150 e150 ?_
      refine g_iinc (L' := [(6, .int (x6 + 1)), (0, .ref (b + p0)), (1, .int a1), (2, .int a2), (3, .int a3), (4, .int a4)]) (j := 5) hX dX8_make_151 rfl rfl (by decide) rfl ?_
      refine g_goto (tgt := 132) hX dX8_make_154 (by decide) ?_
      refine g_sub (L' := [(0, .ref (b + p0)), (1, .int a1), (2, .int a2), (3, .int a3), (4, .int a4), (6, .int (x6 + 1))]) [1, 2, 3, 4, 5, 0] rfl ?_
      exact ih h150 (x6 + 1) hF
set_option maxRecDepth 100000 in
set_option maxHeartbeats 4000000 in
theorem kX8_make_b128 {X : XT} {b N sz : Nat} {ok : Nat → Prop} {r : RR} {w : Int32 × HH} (hX : XOK X RX8 cX8_make 7 4) (hM : N ≤ MM) (hW : WT KM lnM ok N r) (p0 : Nat) (a1 : Int32) (a2 : Int32) (a3 : Int32) (a4 : Int32) (t0 : KM p0 = 8 ∧ ok p0) (hR : XR X b KM lnM MM (some FieldType.int) 0 0 N sz (some (.int w.1)) w.2 r) (h : HH) (u0 : Nat) (s1 : Int32) (s2 : Int32) (ts0 : KM u0 = 10 ∧ ok u0) (hF : fX8_make_b128 r p0 a1 a2 a3 a4 h u0 s1 s2 = some w) : GX X b KM lnM MM 7 0 0 N sz 128 [(0, .ref (b + p0)), (1, .int a1), (2, .int a2), (3, .int a3), (4, .int a4)] [.int s2, .int s1, .ref (b + u0)] h r := by
  rw [fX8_make_b128] at hF
  obtain ⟨g128, hF⟩ := gd_some hF
  obtain ⟨h128, e128, hF⟩ := lt_some hF
  refine g_bast hX dX8_make_128 ts0.1 (hW.1 _ ts0.2).1 (hW.1 _ ts0.2).2 hM g128 e128 ?_
  refine g_iconst (v := 0) hX dX8_make_129 (by decide) ?_
  refine g_istore (L' := [(6, .int 0), (0, .ref (b + p0)), (1, .int a1), (2, .int a2), (3, .int a3), (4, .int a4)]) hX dX8_make_130 (by decide) rfl ?_
  refine g_sub (L' := [(0, .ref (b + p0)), (1, .int a1), (2, .int a2), (3, .int a3), (4, .int a4), (6, .int 0)]) [1, 2, 3, 4, 5, 0] rfl ?_
  exact kX8_make_b132 hX hM hW p0 a1 a2 a3 a4 t0 hR lpF h128 0 hF
set_option maxRecDepth 100000 in
set_option maxHeartbeats 4000000 in
theorem kX8_make_b20 {X : XT} {b N sz : Nat} {ok : Nat → Prop} {r : RR} {w : Int32 × HH} (hX : XOK X RX8 cX8_make 7 4) (hM : N ≤ MM) (hW : WT KM lnM ok N r) (p0 : Nat) (a1 : Int32) (a2 : Int32) (a3 : Int32) (a4 : Int32) (t0 : KM p0 = 8 ∧ ok p0) (hR : XR X b KM lnM MM (some FieldType.int) 0 0 N sz (some (.int w.1)) w.2 r) (h : HH) (hF : fX8_make_b20 r p0 a1 a2 a3 a4 h = some w) : GX X b KM lnM MM 7 0 0 N sz 20 [(0, .ref (b + p0)), (1, .int a1), (2, .int a2), (3, .int a3), (4, .int a4)] [] h r := by
  rw [fX8_make_b20] at hF
  refine g_iload_n hX dX8_make_20 (i := 3) rfl (j := 3) rfl ?_
  obtain ⟨v21, e21, hF⟩ := bi_some hF
  refine g_callS (As := [.int a3]) (rest := []) (stk := [.int v21]) hX dX8_make_21 (ctX8_isName hM hW a3 e21) (by decide) (by decide) wm_X8_154 wt_X8_isName wz_X8 wc_X8_isName hyX8_isName rfl (Nat.le_of_ble_eq_true rfl) rfl rfl ?_ rfl rfl
  refine g_if_eq (tgt := 39) hX dX8_make_24 (by decide) (fun c24 => ?_) (fun c24 => ?_)
  · have hF := ite_t hF c24
    refine g_sub (L' := [(0, .ref (b + p0)), (1, .int a1), (2, .int a2), (3, .int a3), (4, .int a4)]) [0, 1, 2, 3, 4] rfl ?_
    exact kX8_make_b39 hX hM hW p0 a1 a2 a3 a4 t0 hR h hF
  · have hF := ite_f hF c24
    refine g_iload hX dX8_make_27 (j := 4) rfl ?_
    refine g_iconst (v := (-1)) hX dX8_make_29 (by decide) ?_
    refine g_sipush (v := 999) hX dX8_make_30 (by decide) ?_
    obtain ⟨v33, e33, hF⟩ := bi_some hF
    refine g_callS (As := [.int a4, .int (-1), .int 999]) (rest := []) (stk := [.int v33]) hX dX8_make_33 (ctX8_in hM hW a4 (-1) 999 e33) (by decide) (by decide) wm_X8_133 wt_X8_in wz_X8 wc_X8_in hyX8_in rfl (Nat.le_of_ble_eq_true rfl) rfl rfl ?_ rfl rfl
    refine g_if_ne (tgt := 48) hX dX8_make_36 (by decide) (fun c36 => ?_) (fun c36 => ?_)
    · have hF := ite_t hF c36
      refine g_aload_n hX dX8_make_48 (i := 0) rfl (j := 0) rfl ?_
      refine g_iload_n hX dX8_make_49 (i := 1) rfl (j := 1) rfl ?_
      refine g_iload_n hX dX8_make_50 (i := 2) rfl (j := 2) rfl ?_
      obtain ⟨v51, e51, hF⟩ := bi_some hF
      refine g_callV (As := [.int a1, .int a2]) (rest := []) (stk := [.int v51]) hX dX8_make_51 (ctX8_isFolderOn hM hW p0 a1 a2 t0 e51) (by decide) (by decide) wm_X8_160 wi_X8_isFolderOn ws_X8_isFolderOn wz_X8 wc_X8_isFolderOn hyX8_isFolderOn rfl (ci := 8) rfl (by decide) t0.1 (hW.1 _ t0.2).1 (hW.1 _ t0.2).2 (Nat.le_of_ble_eq_true rfl) rfl rfl ?_ rfl rfl
      refine g_if_ne (tgt := 66) hX dX8_make_54 (by decide) (fun c54 => ?_) (fun c54 => ?_)
      · have hF := ite_t hF c54
        refine g_aload_n hX dX8_make_66 (i := 0) rfl (j := 0) rfl ?_
        refine gf_X8_130 hX dX8_make_67 (ty1 hW t0) ?_
        refine g_bipush (v := 30) hX dX8_make_70 (by decide) ?_
        refine g_icmp_ne (tgt := 84) hX dX8_make_72 (by decide) (fun c72 => ?_) (fun c72 => ?_)
        · have hF := ite_t hF c72
          refine g_aload_n hX dX8_make_84 (i := 0) rfl (j := 0) rfl ?_
          refine g_iload_n hX dX8_make_85 (i := 1) rfl (j := 1) rfl ?_
          refine g_iload_n hX dX8_make_86 (i := 2) rfl (j := 2) rfl ?_
          refine g_iload_n hX dX8_make_87 (i := 3) rfl (j := 3) rfl ?_
          obtain ⟨v88, e88, hF⟩ := bi_some hF
          refine g_callV (As := [.int a1, .int a2, .int a3]) (rest := []) (stk := [.int v88]) hX dX8_make_88 (ctX8_found hM hW p0 a1 a2 a3 t0 e88) (by decide) (by decide) wm_X8_164 wi_X8_found ws_X8_found wz_X8 wc_X8_found hyX8_found rfl (ci := 8) rfl (by decide) t0.1 (hW.1 _ t0.2).1 (hW.1 _ t0.2).2 (Nat.le_of_ble_eq_true rfl) rfl rfl ?_ rfl rfl
          refine g_istore (L' := [(5, .int v88), (0, .ref (b + p0)), (1, .int a1), (2, .int a2), (3, .int a3), (4, .int a4)]) hX dX8_make_91 (by decide) rfl ?_
          refine g_iload hX dX8_make_93 (j := 0) rfl ?_
          refine g_iconst (v := (-1)) hX dX8_make_95 (by decide) ?_
          refine g_icmp_eq (tgt := 109) hX dX8_make_96 (by decide) (fun c96 => ?_) (fun c96 => ?_)
          · have hF := ite_t hF c96
            refine g_aload_n hX dX8_make_109 (i := 0) rfl (j := 1) rfl ?_
            have tf110 := (tyF (k := 2) hW t0 (by decide) rfl (by decide) : KM (r p0 2) = 10 ∧ ok (r p0 2))
            refine gf_X8_9 hX dX8_make_110 (ty1 hW t0) (hW.1 _ tf110.2).1 ?_
            refine g_aload_n hX dX8_make_113 (i := 0) rfl (j := 1) rfl ?_
            refine gf_X8_130 hX dX8_make_114 (ty1 hW t0) ?_
            refine g_iload hX dX8_make_117 (j := 5) rfl ?_
            refine g_iconst (v := (-1)) hX dX8_make_119 (by decide) ?_
            refine g_icmp_ne (tgt := 127) hX dX8_make_120 (by decide) (fun c120 => ?_) (fun c120 => ?_)
            · have hF := ite_t hF c120
              refine g_iconst (v := 0) hX dX8_make_127 (by decide) ?_
              refine g_sub (L' := [(0, .ref (b + p0)), (1, .int a1), (2, .int a2), (3, .int a3), (4, .int a4)]) [1, 2, 3, 4, 5] rfl ?_
              exact kX8_make_b128 hX hM hW p0 a1 a2 a3 a4 t0 hR h (r p0 2) (h p0 0) 0 tf110 hF
            · have hF := ite_f hF (fun z => z c120)
              refine g_iconst (v := 1) hX dX8_make_123 (by decide) ?_
              refine g_goto (tgt := 128) hX dX8_make_124 (by decide) ?_
              refine g_sub (L' := [(0, .ref (b + p0)), (1, .int a1), (2, .int a2), (3, .int a3), (4, .int a4)]) [1, 2, 3, 4, 5] rfl ?_
              exact kX8_make_b128 hX hM hW p0 a1 a2 a3 a4 t0 hR h (r p0 2) (h p0 0) 1 tf110 hF
          · have hF := ite_f hF c96
            refine g_aload_n hX dX8_make_99 (i := 0) rfl (j := 1) rfl ?_
            refine g_bipush (v := (-6)) hX dX8_make_100 (by decide) ?_
            refine g_iload hX dX8_make_102 (j := 0) rfl ?_
            refine g_iconst (v := 0) hX dX8_make_104 (by decide) ?_
            obtain ⟨v105, h105, e105, hF⟩ := bi2_some hF
            refine g_callV (As := [.int (-6), .int v88, .int 0]) (rest := []) (stk := [.int v105]) hX dX8_make_105 (ctX8_refuses hM hW p0 (-6) v88 0 t0 e105) (by decide) (by decide) wm_X8_157 wi_X8_refuses ws_X8_refuses wz_X8 wc_X8_refuses hyX8_refuses rfl (ci := 8) rfl (by decide) t0.1 (hW.1 _ t0.2).1 (hW.1 _ t0.2).2 (Nat.le_of_ble_eq_true rfl) rfl rfl ?_ rfl rfl
            obtain rfl := Option.some.inj hF
            exact g_iret hX dX8_make_108 hR
        · have hF := ite_f hF (fun z => z c72)
          refine g_aload_n hX dX8_make_75 (i := 0) rfl (j := 0) rfl ?_
          refine g_bipush (v := (-4)) hX dX8_make_76 (by decide) ?_
          refine g_iconst (v := (-1)) hX dX8_make_78 (by decide) ?_
          refine g_iconst (v := 0) hX dX8_make_79 (by decide) ?_
          obtain ⟨v80, h80, e80, hF⟩ := bi2_some hF
          refine g_callV (As := [.int (-4), .int (-1), .int 0]) (rest := []) (stk := [.int v80]) hX dX8_make_80 (ctX8_refuses hM hW p0 (-4) (-1) 0 t0 e80) (by decide) (by decide) wm_X8_157 wi_X8_refuses ws_X8_refuses wz_X8 wc_X8_refuses hyX8_refuses rfl (ci := 8) rfl (by decide) t0.1 (hW.1 _ t0.2).1 (hW.1 _ t0.2).2 (Nat.le_of_ble_eq_true rfl) rfl rfl ?_ rfl rfl
          obtain rfl := Option.some.inj hF
          exact g_iret hX dX8_make_83 hR
      · have hF := ite_f hF (fun z => z c54)
        refine g_aload_n hX dX8_make_57 (i := 0) rfl (j := 0) rfl ?_
        refine g_bipush (v := (-3)) hX dX8_make_58 (by decide) ?_
        refine g_iload_n hX dX8_make_60 (i := 2) rfl (j := 2) rfl ?_
        refine g_iconst (v := 0) hX dX8_make_61 (by decide) ?_
        obtain ⟨v62, h62, e62, hF⟩ := bi2_some hF
        refine g_callV (As := [.int (-3), .int a2, .int 0]) (rest := []) (stk := [.int v62]) hX dX8_make_62 (ctX8_refuses hM hW p0 (-3) a2 0 t0 e62) (by decide) (by decide) wm_X8_157 wi_X8_refuses ws_X8_refuses wz_X8 wc_X8_refuses hyX8_refuses rfl (ci := 8) rfl (by decide) t0.1 (hW.1 _ t0.2).1 (hW.1 _ t0.2).2 (Nat.le_of_ble_eq_true rfl) rfl rfl ?_ rfl rfl
        obtain rfl := Option.some.inj hF
        exact g_iret hX dX8_make_65 hR
    · have hF := ite_f hF (fun z => z c36)
      refine g_sub (L' := [(0, .ref (b + p0)), (1, .int a1), (2, .int a2), (3, .int a3), (4, .int a4)]) [0, 1, 2, 3, 4] rfl ?_
      exact kX8_make_b39 hX hM hW p0 a1 a2 a3 a4 t0 hR h hF
set_option maxRecDepth 100000 in
set_option maxHeartbeats 4000000 in
theorem kX8_make {X : XT} {b N sz : Nat} {ok : Nat → Prop} {h : HH} {r : RR} {w : Int32 × HH} (hX : XOK X RX8 cX8_make 7 4) (hM : N ≤ MM) (hW : WT KM lnM ok N r) (p0 : Nat) (a1 : Int32) (a2 : Int32) (a3 : Int32) (a4 : Int32) (t0 : KM p0 = 8 ∧ ok p0) (hR : XR X b KM lnM MM (some FieldType.int) 0 0 N sz (some (.int w.1)) w.2 r) (hF : fX8_make h r p0 a1 a2 a3 a4 = some w) : GX X b KM lnM MM 7 0 0 N sz 0 [(0, .ref (b + p0)), (1, .int a1), (2, .int a2), (3, .int a3), (4, .int a4)] [] h r := by
  rw [fX8_make] at hF
  refine g_iload_n hX dX8_make_0 (i := 1) rfl (j := 1) rfl ?_
  obtain ⟨v1, e1, hF⟩ := bi_some hF
  refine g_callS (As := [.int a1]) (rest := []) (stk := [.int v1]) hX dX8_make_1 (ctX8_isSide hM hW a1 e1) (by decide) (by decide) wm_X8_151 wt_X8_isSide wz_X8 wc_X8_isSide hyX8_isSide rfl (Nat.le_of_ble_eq_true rfl) rfl rfl ?_ rfl rfl
  refine g_if_eq (tgt := 39) hX dX8_make_4 (by decide) (fun c4 => ?_) (fun c4 => ?_)
  · have hF := ite_t hF c4
    refine g_sub (L' := [(0, .ref (b + p0)), (1, .int a1), (2, .int a2), (3, .int a3), (4, .int a4)]) [0, 1, 2, 3, 4] rfl ?_
    exact kX8_make_b39 hX hM hW p0 a1 a2 a3 a4 t0 hR h hF
  · have hF := ite_f hF c4
    refine g_iload_n hX dX8_make_7 (i := 2) rfl (j := 2) rfl ?_
    refine g_iconst (v := (-1)) hX dX8_make_8 (by decide) ?_
    refine g_icmp_eq (tgt := 20) hX dX8_make_9 (by decide) (fun c9 => ?_) (fun c9 => ?_)
    · have hF := ite_t hF c9
      refine g_sub (L' := [(0, .ref (b + p0)), (1, .int a1), (2, .int a2), (3, .int a3), (4, .int a4)]) [0, 1, 2, 3, 4] rfl ?_
      exact kX8_make_b20 hX hM hW p0 a1 a2 a3 a4 t0 hR h hF
    · have hF := ite_f hF c9
      refine g_aload_n hX dX8_make_12 (i := 0) rfl (j := 0) rfl ?_
      refine g_iload_n hX dX8_make_13 (i := 2) rfl (j := 2) rfl ?_
      obtain ⟨v14, e14, hF⟩ := bi_some hF
      refine g_callV (As := [.int a2]) (rest := []) (stk := [.int v14]) hX dX8_make_14 (ctX8_isThing hM hW p0 a2 t0 e14) (by decide) (by decide) wm_X8_137 wi_X8_isThing ws_X8_isThing wz_X8 wc_X8_isThing hyX8_isThing rfl (ci := 8) rfl (by decide) t0.1 (hW.1 _ t0.2).1 (hW.1 _ t0.2).2 (Nat.le_of_ble_eq_true rfl) rfl rfl ?_ rfl rfl
      refine g_if_eq (tgt := 39) hX dX8_make_17 (by decide) (fun c17 => ?_) (fun c17 => ?_)
      · have hF := ite_t hF c17
        refine g_sub (L' := [(0, .ref (b + p0)), (1, .int a1), (2, .int a2), (3, .int a3), (4, .int a4)]) [0, 1, 2, 3, 4] rfl ?_
        exact kX8_make_b39 hX hM hW p0 a1 a2 a3 a4 t0 hR h hF
      · have hF := ite_f hF c17
        refine g_sub (L' := [(0, .ref (b + p0)), (1, .int a1), (2, .int a2), (3, .int a3), (4, .int a4)]) [0, 1, 2, 3, 4] rfl ?_
        exact kX8_make_b20 hX hM hW p0 a1 a2 a3 a4 t0 hR h hF
theorem ctX8_make {b N sz : Nat} {ok : Nat → Prop} {h : HH} {r : RR} {w : Int32 × HH} (hM : N ≤ MM) (hW : WT KM lnM ok N r) (p0 : Nat) (a1 : Int32) (a2 : Int32) (a3 : Int32) (a4 : Int32) (t0 : KM p0 = 8 ∧ ok p0) (hF : fX8_make h r p0 a1 a2 a3 a4 = some w) : CT yX8_make cX8_make 7 (some FieldType.int) 4 b KM lnM MM N sz [.ref (b + p0), .int a1, .int a2, .int a3, .int a4] h r N sz (some (.int w.1)) w.2 r 0 0 :=
  CT_of (by decide) rfl (Nat.le_of_ble_eq_true rfl) (by decide) trivial (fun X hX hR => kX8_make hX hM hW p0 a1 a2 a3 a4 t0 hR hF)
/-! X8_write -/
def fX8_write_b26 (r : RR) (p0 : Nat) (a1 : Int32) (a2 : Int32) (a3 : Int32) (h : HH) : Option (Int32 × HH) := bi2 (fX8_refuses h r p0 (-2) (-1) 0) (fun v31 h31 => some (v31, h31))
def fX8_write (h : HH) (r : RR) (p0 : Nat) (a1 : Int32) (a2 : Int32) (a3 : Int32) : Option (Int32 × HH) := (fX8_isSide h r a1).bind (fun v1 => if v1 = 0 then (fX8_write_b26 r p0 a1 a2 a3 h) else ((fX8_isThing h r p0 a2).bind (fun v9 => if v9 = 0 then (fX8_write_b26 r p0 a1 a2 a3 h) else ((fX8_in h r a3 0 999).bind (fun v20 => if ¬ v20 = 0 then (gd (inb a1 (lnM (r p0 3))) (gd (inb a2 (lnM (r (r p0 3) (ix a1)))) (if ¬ (h (r (r p0 3) (ix a1)) (ix a2)) = 0 then (gd (inb a2 (lnM (r p0 2))) (if (h (r p0 2) (ix a2)) = 0 then (gd (inb a1 (lnM (r p0 6))) (gd (inb a2 (lnM (r (r p0 6) (ix a1)))) (lt (h (r (r p0 6) (ix a1)) (ix a2)) (fun y81 => gd (inb a1 (lnM (r p0 6))) (gd (inb a2 (lnM (r (r p0 6) (ix a1)))) (lt (up h (r (r p0 6) (ix a1)) (ix a2) a3) (fun h91 => bi2 (fX8_done h91 r p0 y81) (fun v95 h95 => some (v95, h95))))))))) else (bi2 (fX8_refuses h r p0 (-13) (-1) 0) (fun v69 h69 => some (v69, h69))))) else (bi2 (fX8_refuses h r p0 (-3) a2 0) (fun v51 h51 => some (v51, h51)))))) else (fX8_write_b26 r p0 a1 a2 a3 h))))))
set_option maxRecDepth 100000 in
set_option maxHeartbeats 4000000 in
theorem kX8_write_b26 {X : XT} {b N sz : Nat} {ok : Nat → Prop} {r : RR} {w : Int32 × HH} (hX : XOK X RX8 cX8_write 5 3) (hM : N ≤ MM) (hW : WT KM lnM ok N r) (p0 : Nat) (a1 : Int32) (a2 : Int32) (a3 : Int32) (t0 : KM p0 = 8 ∧ ok p0) (hR : XR X b KM lnM MM (some FieldType.int) 0 0 N sz (some (.int w.1)) w.2 r) (h : HH) (hF : fX8_write_b26 r p0 a1 a2 a3 h = some w) : GX X b KM lnM MM 5 0 0 N sz 26 [(0, .ref (b + p0)), (1, .int a1), (2, .int a2), (3, .int a3)] [] h r := by
  rw [fX8_write_b26] at hF
  refine g_aload_n hX dX8_write_26 (i := 0) rfl (j := 0) rfl ?_
  refine g_bipush (v := (-2)) hX dX8_write_27 (by decide) ?_
  refine g_iconst (v := (-1)) hX dX8_write_29 (by decide) ?_
  refine g_iconst (v := 0) hX dX8_write_30 (by decide) ?_
  obtain ⟨v31, h31, e31, hF⟩ := bi2_some hF
  refine g_callV (As := [.int (-2), .int (-1), .int 0]) (rest := []) (stk := [.int v31]) hX dX8_write_31 (ctX8_refuses hM hW p0 (-2) (-1) 0 t0 e31) (by decide) (by decide) wm_X8_157 wi_X8_refuses ws_X8_refuses wz_X8 wc_X8_refuses hyX8_refuses rfl (ci := 8) rfl (by decide) t0.1 (hW.1 _ t0.2).1 (hW.1 _ t0.2).2 (Nat.le_of_ble_eq_true rfl) rfl rfl ?_ rfl rfl
  obtain rfl := Option.some.inj hF
  exact g_iret hX dX8_write_34 hR
set_option maxRecDepth 100000 in
set_option maxHeartbeats 4000000 in
theorem kX8_write {X : XT} {b N sz : Nat} {ok : Nat → Prop} {h : HH} {r : RR} {w : Int32 × HH} (hX : XOK X RX8 cX8_write 5 3) (hM : N ≤ MM) (hW : WT KM lnM ok N r) (p0 : Nat) (a1 : Int32) (a2 : Int32) (a3 : Int32) (t0 : KM p0 = 8 ∧ ok p0) (hR : XR X b KM lnM MM (some FieldType.int) 0 0 N sz (some (.int w.1)) w.2 r) (hF : fX8_write h r p0 a1 a2 a3 = some w) : GX X b KM lnM MM 5 0 0 N sz 0 [(0, .ref (b + p0)), (1, .int a1), (2, .int a2), (3, .int a3)] [] h r := by
  rw [fX8_write] at hF
  refine g_iload_n hX dX8_write_0 (i := 1) rfl (j := 1) rfl ?_
  obtain ⟨v1, e1, hF⟩ := bi_some hF
  refine g_callS (As := [.int a1]) (rest := []) (stk := [.int v1]) hX dX8_write_1 (ctX8_isSide hM hW a1 e1) (by decide) (by decide) wm_X8_151 wt_X8_isSide wz_X8 wc_X8_isSide hyX8_isSide rfl (Nat.le_of_ble_eq_true rfl) rfl rfl ?_ rfl rfl
  refine g_if_eq (tgt := 26) hX dX8_write_4 (by decide) (fun c4 => ?_) (fun c4 => ?_)
  · have hF := ite_t hF c4
    refine g_sub (L' := [(0, .ref (b + p0)), (1, .int a1), (2, .int a2), (3, .int a3)]) [0, 1, 2, 3] rfl ?_
    exact kX8_write_b26 hX hM hW p0 a1 a2 a3 t0 hR h hF
  · have hF := ite_f hF c4
    refine g_aload_n hX dX8_write_7 (i := 0) rfl (j := 0) rfl ?_
    refine g_iload_n hX dX8_write_8 (i := 2) rfl (j := 2) rfl ?_
    obtain ⟨v9, e9, hF⟩ := bi_some hF
    refine g_callV (As := [.int a2]) (rest := []) (stk := [.int v9]) hX dX8_write_9 (ctX8_isThing hM hW p0 a2 t0 e9) (by decide) (by decide) wm_X8_137 wi_X8_isThing ws_X8_isThing wz_X8 wc_X8_isThing hyX8_isThing rfl (ci := 8) rfl (by decide) t0.1 (hW.1 _ t0.2).1 (hW.1 _ t0.2).2 (Nat.le_of_ble_eq_true rfl) rfl rfl ?_ rfl rfl
    refine g_if_eq (tgt := 26) hX dX8_write_12 (by decide) (fun c12 => ?_) (fun c12 => ?_)
    · have hF := ite_t hF c12
      refine g_sub (L' := [(0, .ref (b + p0)), (1, .int a1), (2, .int a2), (3, .int a3)]) [0, 1, 2, 3] rfl ?_
      exact kX8_write_b26 hX hM hW p0 a1 a2 a3 t0 hR h hF
    · have hF := ite_f hF c12
      refine g_iload_n hX dX8_write_15 (i := 3) rfl (j := 3) rfl ?_
      refine g_iconst (v := 0) hX dX8_write_16 (by decide) ?_
      refine g_sipush (v := 999) hX dX8_write_17 (by decide) ?_
      obtain ⟨v20, e20, hF⟩ := bi_some hF
      refine g_callS (As := [.int a3, .int 0, .int 999]) (rest := []) (stk := [.int v20]) hX dX8_write_20 (ctX8_in hM hW a3 0 999 e20) (by decide) (by decide) wm_X8_133 wt_X8_in wz_X8 wc_X8_in hyX8_in rfl (Nat.le_of_ble_eq_true rfl) rfl rfl ?_ rfl rfl
      refine g_if_ne (tgt := 35) hX dX8_write_23 (by decide) (fun c23 => ?_) (fun c23 => ?_)
      · have hF := ite_t hF c23
        refine g_aload_n hX dX8_write_35 (i := 0) rfl (j := 0) rfl ?_
        have tf36 := (tyF (k := 3) hW t0 (by decide) rfl (by decide) : KM (r p0 3) = 15 ∧ ok (r p0 3))
        refine gf_X8_15 hX dX8_write_36 (ty1 hW t0) (hW.1 _ tf36.2).1 ?_
        refine g_iload_n hX dX8_write_39 (i := 1) rfl (j := 1) rfl ?_
        obtain ⟨g40, hF⟩ := gd_some hF
        have ta40 : KM (r (r p0 3) (ix a1)) = 10 ∧ ok (r (r p0 3) (ix a1)) := tyA hW tf36 (by decide) rfl (by decide) g40
        refine g_aald hX dX8_write_40 tf36.1 (by decide) (by decide) (hW.1 _ tf36.2).1 (hW.1 _ tf36.2).2 g40 (hW.1 _ ta40.2).1 ?_
        refine g_iload_n hX dX8_write_41 (i := 2) rfl (j := 2) rfl ?_
        obtain ⟨g42, hF⟩ := gd_some hF
        refine g_bald hX dX8_write_42 ta40.1 (hW.1 _ ta40.2).1 (hW.1 _ ta40.2).2 g42 ?_
        refine g_if_ne (tgt := 55) hX dX8_write_43 (by decide) (fun c43 => ?_) (fun c43 => ?_)
        · have hF := ite_t hF c43
          refine g_aload_n hX dX8_write_55 (i := 0) rfl (j := 0) rfl ?_
          have tf56 := (tyF (k := 2) hW t0 (by decide) rfl (by decide) : KM (r p0 2) = 10 ∧ ok (r p0 2))
          refine gf_X8_9 hX dX8_write_56 (ty1 hW t0) (hW.1 _ tf56.2).1 ?_
          refine g_iload_n hX dX8_write_59 (i := 2) rfl (j := 2) rfl ?_
          obtain ⟨g60, hF⟩ := gd_some hF
          refine g_bald hX dX8_write_60 tf56.1 (hW.1 _ tf56.2).1 (hW.1 _ tf56.2).2 g60 ?_
          refine g_if_eq (tgt := 73) hX dX8_write_61 (by decide) (fun c61 => ?_) (fun c61 => ?_)
          · have hF := ite_t hF c61
            refine g_aload_n hX dX8_write_73 (i := 0) rfl (j := 0) rfl ?_
            have tf74 := (tyF (k := 6) hW t0 (by decide) rfl (by decide) : KM (r p0 6) = 14 ∧ ok (r p0 6))
            refine gf_X8_26 hX dX8_write_74 (ty1 hW t0) (hW.1 _ tf74.2).1 ?_
            refine g_iload_n hX dX8_write_77 (i := 1) rfl (j := 1) rfl ?_
            obtain ⟨g78, hF⟩ := gd_some hF
            have ta78 : KM (r (r p0 6) (ix a1)) = 9 ∧ ok (r (r p0 6) (ix a1)) := tyA hW tf74 (by decide) rfl (by decide) g78
            refine g_aald hX dX8_write_78 tf74.1 (by decide) (by decide) (hW.1 _ tf74.2).1 (hW.1 _ tf74.2).2 g78 (hW.1 _ ta78.2).1 ?_
            refine g_iload_n hX dX8_write_79 (i := 2) rfl (j := 2) rfl ?_
            obtain ⟨g80, hF⟩ := gd_some hF
            refine g_iald hX dX8_write_80 ta78.1 (hW.1 _ ta78.2).1 (hW.1 _ ta78.2).2 g80 ?_
            obtain ⟨y81, e81, hF⟩ := lt_some hF
            refine g_topi e81 ?_
            refine g_istore (L' := [(4, .int y81), (0, .ref (b + p0)), (1, .int a1), (2, .int a2), (3, .int a3)]) hX dX8_write_81 (by decide) rfl ?_
            refine g_aload_n hX dX8_write_83 (i := 0) rfl (j := 1) rfl ?_
            have tf84 := (tyF (k := 6) hW t0 (by decide) rfl (by decide) : KM (r p0 6) = 14 ∧ ok (r p0 6))
            refine gf_X8_26 hX dX8_write_84 (ty1 hW t0) (hW.1 _ tf84.2).1 ?_
            refine g_iload_n hX dX8_write_87 (i := 1) rfl (j := 2) rfl ?_
            obtain ⟨g88, hF⟩ := gd_some hF
            have ta88 : KM (r (r p0 6) (ix a1)) = 9 ∧ ok (r (r p0 6) (ix a1)) := tyA hW tf84 (by decide) rfl (by decide) g88
            refine g_aald hX dX8_write_88 tf84.1 (by decide) (by decide) (hW.1 _ tf84.2).1 (hW.1 _ tf84.2).2 g88 (hW.1 _ ta88.2).1 ?_
            refine g_iload_n hX dX8_write_89 (i := 2) rfl (j := 3) rfl ?_
            refine g_iload_n hX dX8_write_90 (i := 3) rfl (j := 4) rfl ?_
            obtain ⟨g91, hF⟩ := gd_some hF
            obtain ⟨h91, e91, hF⟩ := lt_some hF
            refine g_iast hX dX8_write_91 ta88.1 (hW.1 _ ta88.2).1 (hW.1 _ ta88.2).2 hM g91 e91 ?_
            refine g_aload_n hX dX8_write_92 (i := 0) rfl (j := 1) rfl ?_
            refine g_iload hX dX8_write_93 (j := 0) rfl ?_
            obtain ⟨v95, h95, e95, hF⟩ := bi2_some hF
            refine g_callV (As := [.int y81]) (rest := []) (stk := [.int v95]) hX dX8_write_95 (ctX8_done hM hW p0 y81 t0 e95) (by decide) (by decide) wm_X8_177 wi_X8_done ws_X8_done wz_X8 wc_X8_done hyX8_done rfl (ci := 8) rfl (by decide) t0.1 (hW.1 _ t0.2).1 (hW.1 _ t0.2).2 (Nat.le_of_ble_eq_true rfl) rfl rfl ?_ rfl rfl
            obtain rfl := Option.some.inj hF
            exact g_iret hX dX8_write_98 hR
          · have hF := ite_f hF c61
            refine g_aload_n hX dX8_write_64 (i := 0) rfl (j := 0) rfl ?_
            refine g_bipush (v := (-13)) hX dX8_write_65 (by decide) ?_
            refine g_iconst (v := (-1)) hX dX8_write_67 (by decide) ?_
            refine g_iconst (v := 0) hX dX8_write_68 (by decide) ?_
            obtain ⟨v69, h69, e69, hF⟩ := bi2_some hF
            refine g_callV (As := [.int (-13), .int (-1), .int 0]) (rest := []) (stk := [.int v69]) hX dX8_write_69 (ctX8_refuses hM hW p0 (-13) (-1) 0 t0 e69) (by decide) (by decide) wm_X8_157 wi_X8_refuses ws_X8_refuses wz_X8 wc_X8_refuses hyX8_refuses rfl (ci := 8) rfl (by decide) t0.1 (hW.1 _ t0.2).1 (hW.1 _ t0.2).2 (Nat.le_of_ble_eq_true rfl) rfl rfl ?_ rfl rfl
            obtain rfl := Option.some.inj hF
            exact g_iret hX dX8_write_72 hR
        · have hF := ite_f hF (fun z => z c43)
          refine g_aload_n hX dX8_write_46 (i := 0) rfl (j := 0) rfl ?_
          refine g_bipush (v := (-3)) hX dX8_write_47 (by decide) ?_
          refine g_iload_n hX dX8_write_49 (i := 2) rfl (j := 2) rfl ?_
          refine g_iconst (v := 0) hX dX8_write_50 (by decide) ?_
          obtain ⟨v51, h51, e51, hF⟩ := bi2_some hF
          refine g_callV (As := [.int (-3), .int a2, .int 0]) (rest := []) (stk := [.int v51]) hX dX8_write_51 (ctX8_refuses hM hW p0 (-3) a2 0 t0 e51) (by decide) (by decide) wm_X8_157 wi_X8_refuses ws_X8_refuses wz_X8 wc_X8_refuses hyX8_refuses rfl (ci := 8) rfl (by decide) t0.1 (hW.1 _ t0.2).1 (hW.1 _ t0.2).2 (Nat.le_of_ble_eq_true rfl) rfl rfl ?_ rfl rfl
          obtain rfl := Option.some.inj hF
          exact g_iret hX dX8_write_54 hR
      · have hF := ite_f hF (fun z => z c23)
        refine g_sub (L' := [(0, .ref (b + p0)), (1, .int a1), (2, .int a2), (3, .int a3)]) [0, 1, 2, 3] rfl ?_
        exact kX8_write_b26 hX hM hW p0 a1 a2 a3 t0 hR h hF
theorem ctX8_write {b N sz : Nat} {ok : Nat → Prop} {h : HH} {r : RR} {w : Int32 × HH} (hM : N ≤ MM) (hW : WT KM lnM ok N r) (p0 : Nat) (a1 : Int32) (a2 : Int32) (a3 : Int32) (t0 : KM p0 = 8 ∧ ok p0) (hF : fX8_write h r p0 a1 a2 a3 = some w) : CT yX8_write cX8_write 5 (some FieldType.int) 3 b KM lnM MM N sz [.ref (b + p0), .int a1, .int a2, .int a3] h r N sz (some (.int w.1)) w.2 r 0 0 :=
  CT_of (by decide) rfl (Nat.le_of_ble_eq_true rfl) (by decide) trivial (fun X hX hR => kX8_write hX hM hW p0 a1 a2 a3 t0 hR hF)
/-! X8_move -/
def fX8_move_b36 (r : RR) (p0 : Nat) (a1 : Int32) (a2 : Int32) (a3 : Int32) (a4 : Int32) (h : HH) : Option (Int32 × HH) := bi2 (fX8_refuses h r p0 (-2) (-1) 0) (fun v41 h41 => some (v41, h41))
def fX8_move_b149 (r : RR) (p0 : Nat) (a1 : Int32) (a2 : Int32) (a3 : Int32) (a4 : Int32) (h : HH) : Option (Int32 × HH) := gd (inb a1 (lnM (r p0 4))) (gd (inb a2 (lnM (r (r p0 4) (ix a1)))) (lt (up h (r (r p0 4) (ix a1)) (ix a2) a3) (fun h157 => gd (inb a1 (lnM (r p0 5))) (gd (inb a2 (lnM (r (r p0 5) (ix a1)))) (lt (up h157 (r (r p0 5) (ix a1)) (ix a2) a4) (fun h167 => bi2 (fX8_done h167 r p0 1) (fun v170 h170 => some (v170, h170))))))))
def fX8_move_b99 (r : RR) (p0 : Nat) (a1 : Int32) (a2 : Int32) (a3 : Int32) (a4 : Int32) (h : HH) (s0 : Int32) : Option (Int32 × HH) := if s0 = (-1) then ((fX8_found h r p0 a1 a3 a4).bind (fun v122 => if v122 = (-1) then (fX8_move_b149 r p0 a1 a2 a3 a4 h) else (if v122 = a2 then (fX8_move_b149 r p0 a1 a2 a3 a4 h) else (bi2 (fX8_refuses h r p0 (-6) v122 0) (fun v145 h145 => some (v145, h145)))))) else (bi2 (fX8_refuses h r p0 (-7) a3 s0) (fun v113 h113 => some (v113, h113)))
def fX8_move_b28 (r : RR) (p0 : Nat) (a1 : Int32) (a2 : Int32) (a3 : Int32) (a4 : Int32) (h : HH) : Option (Int32 × HH) := (fX8_isName h r a4).bind (fun v30 => if ¬ v30 = 0 then (gd (inb a1 (lnM (r p0 3))) (gd (inb a2 (lnM (r (r p0 3) (ix a1)))) (if ¬ (h (r (r p0 3) (ix a1)) (ix a2)) = 0 then ((fX8_isFolderOn h r p0 a1 a3).bind (fun v68 => if ¬ v68 = 0 then (if ¬ a3 = (-1) then ((fX8_deepIn h r p0 a1 a3 a2).bind (fun v96 => fX8_move_b99 r p0 a1 a2 a3 a4 h v96)) else (fX8_move_b99 r p0 a1 a2 a3 a4 h (-1))) else (bi2 (fX8_refuses h r p0 (-3) a3 0) (fun v79 h79 => some (v79, h79))))) else (bi2 (fX8_refuses h r p0 (-3) a2 0) (fun v61 h61 => some (v61, h61)))))) else (fX8_move_b36 r p0 a1 a2 a3 a4 h))
def fX8_move (h : HH) (r : RR) (p0 : Nat) (a1 : Int32) (a2 : Int32) (a3 : Int32) (a4 : Int32) : Option (Int32 × HH) := (fX8_isSide h r a1).bind (fun v1 => if v1 = 0 then (fX8_move_b36 r p0 a1 a2 a3 a4 h) else ((fX8_isThing h r p0 a2).bind (fun v9 => if v9 = 0 then (fX8_move_b36 r p0 a1 a2 a3 a4 h) else (if a3 = (-1) then (fX8_move_b28 r p0 a1 a2 a3 a4 h) else ((fX8_isThing h r p0 a3).bind (fun v22 => if v22 = 0 then (fX8_move_b36 r p0 a1 a2 a3 a4 h) else (fX8_move_b28 r p0 a1 a2 a3 a4 h)))))))
set_option maxRecDepth 100000 in
set_option maxHeartbeats 4000000 in
theorem kX8_move_b36 {X : XT} {b N sz : Nat} {ok : Nat → Prop} {r : RR} {w : Int32 × HH} (hX : XOK X RX8 cX8_move 7 4) (hM : N ≤ MM) (hW : WT KM lnM ok N r) (p0 : Nat) (a1 : Int32) (a2 : Int32) (a3 : Int32) (a4 : Int32) (t0 : KM p0 = 8 ∧ ok p0) (hR : XR X b KM lnM MM (some FieldType.int) 0 0 N sz (some (.int w.1)) w.2 r) (h : HH) (hF : fX8_move_b36 r p0 a1 a2 a3 a4 h = some w) : GX X b KM lnM MM 7 0 0 N sz 36 [(0, .ref (b + p0)), (1, .int a1), (2, .int a2), (3, .int a3), (4, .int a4)] [] h r := by
  rw [fX8_move_b36] at hF
  refine g_aload_n hX dX8_move_36 (i := 0) rfl (j := 0) rfl ?_
  refine g_bipush (v := (-2)) hX dX8_move_37 (by decide) ?_
  refine g_iconst (v := (-1)) hX dX8_move_39 (by decide) ?_
  refine g_iconst (v := 0) hX dX8_move_40 (by decide) ?_
  obtain ⟨v41, h41, e41, hF⟩ := bi2_some hF
  refine g_callV (As := [.int (-2), .int (-1), .int 0]) (rest := []) (stk := [.int v41]) hX dX8_move_41 (ctX8_refuses hM hW p0 (-2) (-1) 0 t0 e41) (by decide) (by decide) wm_X8_157 wi_X8_refuses ws_X8_refuses wz_X8 wc_X8_refuses hyX8_refuses rfl (ci := 8) rfl (by decide) t0.1 (hW.1 _ t0.2).1 (hW.1 _ t0.2).2 (Nat.le_of_ble_eq_true rfl) rfl rfl ?_ rfl rfl
  obtain rfl := Option.some.inj hF
  exact g_iret hX dX8_move_44 hR
set_option maxRecDepth 100000 in
set_option maxHeartbeats 4000000 in
theorem kX8_move_b149 {X : XT} {b N sz : Nat} {ok : Nat → Prop} {r : RR} {w : Int32 × HH} (hX : XOK X RX8 cX8_move 7 4) (hM : N ≤ MM) (hW : WT KM lnM ok N r) (p0 : Nat) (a1 : Int32) (a2 : Int32) (a3 : Int32) (a4 : Int32) (t0 : KM p0 = 8 ∧ ok p0) (hR : XR X b KM lnM MM (some FieldType.int) 0 0 N sz (some (.int w.1)) w.2 r) (h : HH) (hF : fX8_move_b149 r p0 a1 a2 a3 a4 h = some w) : GX X b KM lnM MM 7 0 0 N sz 149 [(0, .ref (b + p0)), (1, .int a1), (2, .int a2), (3, .int a3), (4, .int a4)] [] h r := by
  rw [fX8_move_b149] at hF
  refine g_aload_n hX dX8_move_149 (i := 0) rfl (j := 0) rfl ?_
  have tf150 := (tyF (k := 4) hW t0 (by decide) rfl (by decide) : KM (r p0 4) = 14 ∧ ok (r p0 4))
  refine gf_X8_20 hX dX8_move_150 (ty1 hW t0) (hW.1 _ tf150.2).1 ?_
  refine g_iload_n hX dX8_move_153 (i := 1) rfl (j := 1) rfl ?_
  obtain ⟨g154, hF⟩ := gd_some hF
  have ta154 : KM (r (r p0 4) (ix a1)) = 9 ∧ ok (r (r p0 4) (ix a1)) := tyA hW tf150 (by decide) rfl (by decide) g154
  refine g_aald hX dX8_move_154 tf150.1 (by decide) (by decide) (hW.1 _ tf150.2).1 (hW.1 _ tf150.2).2 g154 (hW.1 _ ta154.2).1 ?_
  refine g_iload_n hX dX8_move_155 (i := 2) rfl (j := 2) rfl ?_
  refine g_iload_n hX dX8_move_156 (i := 3) rfl (j := 3) rfl ?_
  obtain ⟨g157, hF⟩ := gd_some hF
  obtain ⟨h157, e157, hF⟩ := lt_some hF
  refine g_iast hX dX8_move_157 ta154.1 (hW.1 _ ta154.2).1 (hW.1 _ ta154.2).2 hM g157 e157 ?_
  refine g_aload_n hX dX8_move_158 (i := 0) rfl (j := 0) rfl ?_
  have tf159 := (tyF (k := 5) hW t0 (by decide) rfl (by decide) : KM (r p0 5) = 14 ∧ ok (r p0 5))
  refine gf_X8_23 hX dX8_move_159 (ty1 hW t0) (hW.1 _ tf159.2).1 ?_
  refine g_iload_n hX dX8_move_162 (i := 1) rfl (j := 1) rfl ?_
  obtain ⟨g163, hF⟩ := gd_some hF
  have ta163 : KM (r (r p0 5) (ix a1)) = 9 ∧ ok (r (r p0 5) (ix a1)) := tyA hW tf159 (by decide) rfl (by decide) g163
  refine g_aald hX dX8_move_163 tf159.1 (by decide) (by decide) (hW.1 _ tf159.2).1 (hW.1 _ tf159.2).2 g163 (hW.1 _ ta163.2).1 ?_
  refine g_iload_n hX dX8_move_164 (i := 2) rfl (j := 2) rfl ?_
  refine g_iload hX dX8_move_165 (j := 4) rfl ?_
  obtain ⟨g167, hF⟩ := gd_some hF
  obtain ⟨h167, e167, hF⟩ := lt_some hF
  refine g_iast hX dX8_move_167 ta163.1 (hW.1 _ ta163.2).1 (hW.1 _ ta163.2).2 hM g167 e167 ?_
  refine g_aload_n hX dX8_move_168 (i := 0) rfl (j := 0) rfl ?_
  refine g_iconst (v := 1) hX dX8_move_169 (by decide) ?_
  obtain ⟨v170, h170, e170, hF⟩ := bi2_some hF
  refine g_callV (As := [.int 1]) (rest := []) (stk := [.int v170]) hX dX8_move_170 (ctX8_done hM hW p0 1 t0 e170) (by decide) (by decide) wm_X8_177 wi_X8_done ws_X8_done wz_X8 wc_X8_done hyX8_done rfl (ci := 8) rfl (by decide) t0.1 (hW.1 _ t0.2).1 (hW.1 _ t0.2).2 (Nat.le_of_ble_eq_true rfl) rfl rfl ?_ rfl rfl
  obtain rfl := Option.some.inj hF
  exact g_iret hX dX8_move_173 hR
set_option maxRecDepth 100000 in
set_option maxHeartbeats 4000000 in
theorem kX8_move_b99 {X : XT} {b N sz : Nat} {ok : Nat → Prop} {r : RR} {w : Int32 × HH} (hX : XOK X RX8 cX8_move 7 4) (hM : N ≤ MM) (hW : WT KM lnM ok N r) (p0 : Nat) (a1 : Int32) (a2 : Int32) (a3 : Int32) (a4 : Int32) (t0 : KM p0 = 8 ∧ ok p0) (hR : XR X b KM lnM MM (some FieldType.int) 0 0 N sz (some (.int w.1)) w.2 r) (h : HH) (s0 : Int32) (hF : fX8_move_b99 r p0 a1 a2 a3 a4 h s0 = some w) : GX X b KM lnM MM 7 0 0 N sz 99 [(0, .ref (b + p0)), (1, .int a1), (2, .int a2), (3, .int a3), (4, .int a4)] [.int s0] h r := by
  rw [fX8_move_b99] at hF
  refine g_istore (L' := [(5, .int s0), (0, .ref (b + p0)), (1, .int a1), (2, .int a2), (3, .int a3), (4, .int a4)]) hX dX8_move_99 (by decide) rfl ?_
  refine g_iload hX dX8_move_101 (j := 0) rfl ?_
  refine g_iconst (v := (-1)) hX dX8_move_103 (by decide) ?_
  refine g_icmp_eq (tgt := 117) hX dX8_move_104 (by decide) (fun c104 => ?_) (fun c104 => ?_)
  · have hF := ite_t hF c104
    refine g_aload_n hX dX8_move_117 (i := 0) rfl (j := 1) rfl ?_
    refine g_iload_n hX dX8_move_118 (i := 1) rfl (j := 2) rfl ?_
    refine g_iload_n hX dX8_move_119 (i := 3) rfl (j := 4) rfl ?_
    refine g_iload hX dX8_move_120 (j := 5) rfl ?_
    obtain ⟨v122, e122, hF⟩ := bi_some hF
    refine g_callV (As := [.int a1, .int a3, .int a4]) (rest := []) (stk := [.int v122]) hX dX8_move_122 (ctX8_found hM hW p0 a1 a3 a4 t0 e122) (by decide) (by decide) wm_X8_164 wi_X8_found ws_X8_found wz_X8 wc_X8_found hyX8_found rfl (ci := 8) rfl (by decide) t0.1 (hW.1 _ t0.2).1 (hW.1 _ t0.2).2 (Nat.le_of_ble_eq_true rfl) rfl rfl ?_ rfl rfl
    refine g_istore (L' := [(6, .int v122), (5, .int s0), (0, .ref (b + p0)), (1, .int a1), (2, .int a2), (3, .int a3), (4, .int a4)]) hX dX8_move_125 (by decide) rfl ?_
    refine g_iload hX dX8_move_127 (j := 0) rfl ?_
    refine g_iconst (v := (-1)) hX dX8_move_129 (by decide) ?_
    refine g_icmp_eq (tgt := 149) hX dX8_move_130 (by decide) (fun c130 => ?_) (fun c130 => ?_)
    · have hF := ite_t hF c130
      refine g_sub (L' := [(0, .ref (b + p0)), (1, .int a1), (2, .int a2), (3, .int a3), (4, .int a4)]) [2, 3, 4, 5, 6] rfl ?_
      exact kX8_move_b149 hX hM hW p0 a1 a2 a3 a4 t0 hR h hF
    · have hF := ite_f hF c130
      refine g_iload hX dX8_move_133 (j := 0) rfl ?_
      refine g_iload_n hX dX8_move_135 (i := 2) rfl (j := 4) rfl ?_
      refine g_icmp_eq (tgt := 149) hX dX8_move_136 (by decide) (fun c136 => ?_) (fun c136 => ?_)
      · have hF := ite_t hF c136
        refine g_sub (L' := [(0, .ref (b + p0)), (1, .int a1), (2, .int a2), (3, .int a3), (4, .int a4)]) [2, 3, 4, 5, 6] rfl ?_
        exact kX8_move_b149 hX hM hW p0 a1 a2 a3 a4 t0 hR h hF
      · have hF := ite_f hF c136
        refine g_aload_n hX dX8_move_139 (i := 0) rfl (j := 2) rfl ?_
        refine g_bipush (v := (-6)) hX dX8_move_140 (by decide) ?_
        refine g_iload hX dX8_move_142 (j := 0) rfl ?_
        refine g_iconst (v := 0) hX dX8_move_144 (by decide) ?_
        obtain ⟨v145, h145, e145, hF⟩ := bi2_some hF
        refine g_callV (As := [.int (-6), .int v122, .int 0]) (rest := []) (stk := [.int v145]) hX dX8_move_145 (ctX8_refuses hM hW p0 (-6) v122 0 t0 e145) (by decide) (by decide) wm_X8_157 wi_X8_refuses ws_X8_refuses wz_X8 wc_X8_refuses hyX8_refuses rfl (ci := 8) rfl (by decide) t0.1 (hW.1 _ t0.2).1 (hW.1 _ t0.2).2 (Nat.le_of_ble_eq_true rfl) rfl rfl ?_ rfl rfl
        obtain rfl := Option.some.inj hF
        exact g_iret hX dX8_move_148 hR
  · have hF := ite_f hF c104
    refine g_aload_n hX dX8_move_107 (i := 0) rfl (j := 1) rfl ?_
    refine g_bipush (v := (-7)) hX dX8_move_108 (by decide) ?_
    refine g_iload_n hX dX8_move_110 (i := 3) rfl (j := 4) rfl ?_
    refine g_iload hX dX8_move_111 (j := 0) rfl ?_
    obtain ⟨v113, h113, e113, hF⟩ := bi2_some hF
    refine g_callV (As := [.int (-7), .int a3, .int s0]) (rest := []) (stk := [.int v113]) hX dX8_move_113 (ctX8_refuses hM hW p0 (-7) a3 s0 t0 e113) (by decide) (by decide) wm_X8_157 wi_X8_refuses ws_X8_refuses wz_X8 wc_X8_refuses hyX8_refuses rfl (ci := 8) rfl (by decide) t0.1 (hW.1 _ t0.2).1 (hW.1 _ t0.2).2 (Nat.le_of_ble_eq_true rfl) rfl rfl ?_ rfl rfl
    obtain rfl := Option.some.inj hF
    exact g_iret hX dX8_move_116 hR
set_option maxRecDepth 100000 in
set_option maxHeartbeats 4000000 in
theorem kX8_move_b28 {X : XT} {b N sz : Nat} {ok : Nat → Prop} {r : RR} {w : Int32 × HH} (hX : XOK X RX8 cX8_move 7 4) (hM : N ≤ MM) (hW : WT KM lnM ok N r) (p0 : Nat) (a1 : Int32) (a2 : Int32) (a3 : Int32) (a4 : Int32) (t0 : KM p0 = 8 ∧ ok p0) (hR : XR X b KM lnM MM (some FieldType.int) 0 0 N sz (some (.int w.1)) w.2 r) (h : HH) (hF : fX8_move_b28 r p0 a1 a2 a3 a4 h = some w) : GX X b KM lnM MM 7 0 0 N sz 28 [(0, .ref (b + p0)), (1, .int a1), (2, .int a2), (3, .int a3), (4, .int a4)] [] h r := by
  rw [fX8_move_b28] at hF
  refine g_iload hX dX8_move_28 (j := 4) rfl ?_
  obtain ⟨v30, e30, hF⟩ := bi_some hF
  refine g_callS (As := [.int a4]) (rest := []) (stk := [.int v30]) hX dX8_move_30 (ctX8_isName hM hW a4 e30) (by decide) (by decide) wm_X8_154 wt_X8_isName wz_X8 wc_X8_isName hyX8_isName rfl (Nat.le_of_ble_eq_true rfl) rfl rfl ?_ rfl rfl
  refine g_if_ne (tgt := 45) hX dX8_move_33 (by decide) (fun c33 => ?_) (fun c33 => ?_)
  · have hF := ite_t hF c33
    refine g_aload_n hX dX8_move_45 (i := 0) rfl (j := 0) rfl ?_
    have tf46 := (tyF (k := 3) hW t0 (by decide) rfl (by decide) : KM (r p0 3) = 15 ∧ ok (r p0 3))
    refine gf_X8_15 hX dX8_move_46 (ty1 hW t0) (hW.1 _ tf46.2).1 ?_
    refine g_iload_n hX dX8_move_49 (i := 1) rfl (j := 1) rfl ?_
    obtain ⟨g50, hF⟩ := gd_some hF
    have ta50 : KM (r (r p0 3) (ix a1)) = 10 ∧ ok (r (r p0 3) (ix a1)) := tyA hW tf46 (by decide) rfl (by decide) g50
    refine g_aald hX dX8_move_50 tf46.1 (by decide) (by decide) (hW.1 _ tf46.2).1 (hW.1 _ tf46.2).2 g50 (hW.1 _ ta50.2).1 ?_
    refine g_iload_n hX dX8_move_51 (i := 2) rfl (j := 2) rfl ?_
    obtain ⟨g52, hF⟩ := gd_some hF
    refine g_bald hX dX8_move_52 ta50.1 (hW.1 _ ta50.2).1 (hW.1 _ ta50.2).2 g52 ?_
    refine g_if_ne (tgt := 65) hX dX8_move_53 (by decide) (fun c53 => ?_) (fun c53 => ?_)
    · have hF := ite_t hF c53
      refine g_aload_n hX dX8_move_65 (i := 0) rfl (j := 0) rfl ?_
      refine g_iload_n hX dX8_move_66 (i := 1) rfl (j := 1) rfl ?_
      refine g_iload_n hX dX8_move_67 (i := 3) rfl (j := 3) rfl ?_
      obtain ⟨v68, e68, hF⟩ := bi_some hF
      refine g_callV (As := [.int a1, .int a3]) (rest := []) (stk := [.int v68]) hX dX8_move_68 (ctX8_isFolderOn hM hW p0 a1 a3 t0 e68) (by decide) (by decide) wm_X8_160 wi_X8_isFolderOn ws_X8_isFolderOn wz_X8 wc_X8_isFolderOn hyX8_isFolderOn rfl (ci := 8) rfl (by decide) t0.1 (hW.1 _ t0.2).1 (hW.1 _ t0.2).2 (Nat.le_of_ble_eq_true rfl) rfl rfl ?_ rfl rfl
      refine g_if_ne (tgt := 83) hX dX8_move_71 (by decide) (fun c71 => ?_) (fun c71 => ?_)
      · have hF := ite_t hF c71
        refine g_iload_n hX dX8_move_83 (i := 3) rfl (j := 3) rfl ?_
        refine g_iconst (v := (-1)) hX dX8_move_84 (by decide) ?_
        refine g_icmp_ne (tgt := 92) hX dX8_move_85 (by decide) (fun c85 => ?_) (fun c85 => ?_)
        · have hF := ite_t hF c85
          refine g_aload_n hX dX8_move_92 (i := 0) rfl (j := 0) rfl ?_
          refine g_iload_n hX dX8_move_93 (i := 1) rfl (j := 1) rfl ?_
          refine g_iload_n hX dX8_move_94 (i := 3) rfl (j := 3) rfl ?_
          refine g_iload_n hX dX8_move_95 (i := 2) rfl (j := 2) rfl ?_
          obtain ⟨v96, e96, hF⟩ := bi_some hF
          refine g_callV (As := [.int a1, .int a3, .int a2]) (rest := []) (stk := [.int v96]) hX dX8_move_96 (ctX8_deepIn hM hW p0 a1 a3 a2 t0 e96) (by decide) (by decide) wm_X8_141 wi_X8_deepIn ws_X8_deepIn wz_X8 wc_X8_deepIn hyX8_deepIn rfl (ci := 8) rfl (by decide) t0.1 (hW.1 _ t0.2).1 (hW.1 _ t0.2).2 (Nat.le_of_ble_eq_true rfl) rfl rfl ?_ rfl rfl
          refine g_sub (L' := [(0, .ref (b + p0)), (1, .int a1), (2, .int a2), (3, .int a3), (4, .int a4)]) [0, 1, 2, 3, 4] rfl ?_
          exact kX8_move_b99 hX hM hW p0 a1 a2 a3 a4 t0 hR h v96 hF
        · have hF := ite_f hF (fun z => z c85)
          refine g_iconst (v := (-1)) hX dX8_move_88 (by decide) ?_
          refine g_goto (tgt := 99) hX dX8_move_89 (by decide) ?_
          refine g_sub (L' := [(0, .ref (b + p0)), (1, .int a1), (2, .int a2), (3, .int a3), (4, .int a4)]) [0, 1, 2, 3, 4] rfl ?_
          exact kX8_move_b99 hX hM hW p0 a1 a2 a3 a4 t0 hR h (-1) hF
      · have hF := ite_f hF (fun z => z c71)
        refine g_aload_n hX dX8_move_74 (i := 0) rfl (j := 0) rfl ?_
        refine g_bipush (v := (-3)) hX dX8_move_75 (by decide) ?_
        refine g_iload_n hX dX8_move_77 (i := 3) rfl (j := 3) rfl ?_
        refine g_iconst (v := 0) hX dX8_move_78 (by decide) ?_
        obtain ⟨v79, h79, e79, hF⟩ := bi2_some hF
        refine g_callV (As := [.int (-3), .int a3, .int 0]) (rest := []) (stk := [.int v79]) hX dX8_move_79 (ctX8_refuses hM hW p0 (-3) a3 0 t0 e79) (by decide) (by decide) wm_X8_157 wi_X8_refuses ws_X8_refuses wz_X8 wc_X8_refuses hyX8_refuses rfl (ci := 8) rfl (by decide) t0.1 (hW.1 _ t0.2).1 (hW.1 _ t0.2).2 (Nat.le_of_ble_eq_true rfl) rfl rfl ?_ rfl rfl
        obtain rfl := Option.some.inj hF
        exact g_iret hX dX8_move_82 hR
    · have hF := ite_f hF (fun z => z c53)
      refine g_aload_n hX dX8_move_56 (i := 0) rfl (j := 0) rfl ?_
      refine g_bipush (v := (-3)) hX dX8_move_57 (by decide) ?_
      refine g_iload_n hX dX8_move_59 (i := 2) rfl (j := 2) rfl ?_
      refine g_iconst (v := 0) hX dX8_move_60 (by decide) ?_
      obtain ⟨v61, h61, e61, hF⟩ := bi2_some hF
      refine g_callV (As := [.int (-3), .int a2, .int 0]) (rest := []) (stk := [.int v61]) hX dX8_move_61 (ctX8_refuses hM hW p0 (-3) a2 0 t0 e61) (by decide) (by decide) wm_X8_157 wi_X8_refuses ws_X8_refuses wz_X8 wc_X8_refuses hyX8_refuses rfl (ci := 8) rfl (by decide) t0.1 (hW.1 _ t0.2).1 (hW.1 _ t0.2).2 (Nat.le_of_ble_eq_true rfl) rfl rfl ?_ rfl rfl
      obtain rfl := Option.some.inj hF
      exact g_iret hX dX8_move_64 hR
  · have hF := ite_f hF (fun z => z c33)
    refine g_sub (L' := [(0, .ref (b + p0)), (1, .int a1), (2, .int a2), (3, .int a3), (4, .int a4)]) [0, 1, 2, 3, 4] rfl ?_
    exact kX8_move_b36 hX hM hW p0 a1 a2 a3 a4 t0 hR h hF
set_option maxRecDepth 100000 in
set_option maxHeartbeats 4000000 in
theorem kX8_move {X : XT} {b N sz : Nat} {ok : Nat → Prop} {h : HH} {r : RR} {w : Int32 × HH} (hX : XOK X RX8 cX8_move 7 4) (hM : N ≤ MM) (hW : WT KM lnM ok N r) (p0 : Nat) (a1 : Int32) (a2 : Int32) (a3 : Int32) (a4 : Int32) (t0 : KM p0 = 8 ∧ ok p0) (hR : XR X b KM lnM MM (some FieldType.int) 0 0 N sz (some (.int w.1)) w.2 r) (hF : fX8_move h r p0 a1 a2 a3 a4 = some w) : GX X b KM lnM MM 7 0 0 N sz 0 [(0, .ref (b + p0)), (1, .int a1), (2, .int a2), (3, .int a3), (4, .int a4)] [] h r := by
  rw [fX8_move] at hF
  refine g_iload_n hX dX8_move_0 (i := 1) rfl (j := 1) rfl ?_
  obtain ⟨v1, e1, hF⟩ := bi_some hF
  refine g_callS (As := [.int a1]) (rest := []) (stk := [.int v1]) hX dX8_move_1 (ctX8_isSide hM hW a1 e1) (by decide) (by decide) wm_X8_151 wt_X8_isSide wz_X8 wc_X8_isSide hyX8_isSide rfl (Nat.le_of_ble_eq_true rfl) rfl rfl ?_ rfl rfl
  refine g_if_eq (tgt := 36) hX dX8_move_4 (by decide) (fun c4 => ?_) (fun c4 => ?_)
  · have hF := ite_t hF c4
    refine g_sub (L' := [(0, .ref (b + p0)), (1, .int a1), (2, .int a2), (3, .int a3), (4, .int a4)]) [0, 1, 2, 3, 4] rfl ?_
    exact kX8_move_b36 hX hM hW p0 a1 a2 a3 a4 t0 hR h hF
  · have hF := ite_f hF c4
    refine g_aload_n hX dX8_move_7 (i := 0) rfl (j := 0) rfl ?_
    refine g_iload_n hX dX8_move_8 (i := 2) rfl (j := 2) rfl ?_
    obtain ⟨v9, e9, hF⟩ := bi_some hF
    refine g_callV (As := [.int a2]) (rest := []) (stk := [.int v9]) hX dX8_move_9 (ctX8_isThing hM hW p0 a2 t0 e9) (by decide) (by decide) wm_X8_137 wi_X8_isThing ws_X8_isThing wz_X8 wc_X8_isThing hyX8_isThing rfl (ci := 8) rfl (by decide) t0.1 (hW.1 _ t0.2).1 (hW.1 _ t0.2).2 (Nat.le_of_ble_eq_true rfl) rfl rfl ?_ rfl rfl
    refine g_if_eq (tgt := 36) hX dX8_move_12 (by decide) (fun c12 => ?_) (fun c12 => ?_)
    · have hF := ite_t hF c12
      refine g_sub (L' := [(0, .ref (b + p0)), (1, .int a1), (2, .int a2), (3, .int a3), (4, .int a4)]) [0, 1, 2, 3, 4] rfl ?_
      exact kX8_move_b36 hX hM hW p0 a1 a2 a3 a4 t0 hR h hF
    · have hF := ite_f hF c12
      refine g_iload_n hX dX8_move_15 (i := 3) rfl (j := 3) rfl ?_
      refine g_iconst (v := (-1)) hX dX8_move_16 (by decide) ?_
      refine g_icmp_eq (tgt := 28) hX dX8_move_17 (by decide) (fun c17 => ?_) (fun c17 => ?_)
      · have hF := ite_t hF c17
        refine g_sub (L' := [(0, .ref (b + p0)), (1, .int a1), (2, .int a2), (3, .int a3), (4, .int a4)]) [0, 1, 2, 3, 4] rfl ?_
        exact kX8_move_b28 hX hM hW p0 a1 a2 a3 a4 t0 hR h hF
      · have hF := ite_f hF c17
        refine g_aload_n hX dX8_move_20 (i := 0) rfl (j := 0) rfl ?_
        refine g_iload_n hX dX8_move_21 (i := 3) rfl (j := 3) rfl ?_
        obtain ⟨v22, e22, hF⟩ := bi_some hF
        refine g_callV (As := [.int a3]) (rest := []) (stk := [.int v22]) hX dX8_move_22 (ctX8_isThing hM hW p0 a3 t0 e22) (by decide) (by decide) wm_X8_137 wi_X8_isThing ws_X8_isThing wz_X8 wc_X8_isThing hyX8_isThing rfl (ci := 8) rfl (by decide) t0.1 (hW.1 _ t0.2).1 (hW.1 _ t0.2).2 (Nat.le_of_ble_eq_true rfl) rfl rfl ?_ rfl rfl
        refine g_if_eq (tgt := 36) hX dX8_move_25 (by decide) (fun c25 => ?_) (fun c25 => ?_)
        · have hF := ite_t hF c25
          refine g_sub (L' := [(0, .ref (b + p0)), (1, .int a1), (2, .int a2), (3, .int a3), (4, .int a4)]) [0, 1, 2, 3, 4] rfl ?_
          exact kX8_move_b36 hX hM hW p0 a1 a2 a3 a4 t0 hR h hF
        · have hF := ite_f hF c25
          refine g_sub (L' := [(0, .ref (b + p0)), (1, .int a1), (2, .int a2), (3, .int a3), (4, .int a4)]) [0, 1, 2, 3, 4] rfl ?_
          exact kX8_move_b28 hX hM hW p0 a1 a2 a3 a4 t0 hR h hF
theorem ctX8_move {b N sz : Nat} {ok : Nat → Prop} {h : HH} {r : RR} {w : Int32 × HH} (hM : N ≤ MM) (hW : WT KM lnM ok N r) (p0 : Nat) (a1 : Int32) (a2 : Int32) (a3 : Int32) (a4 : Int32) (t0 : KM p0 = 8 ∧ ok p0) (hF : fX8_move h r p0 a1 a2 a3 a4 = some w) : CT yX8_move cX8_move 7 (some FieldType.int) 4 b KM lnM MM N sz [.ref (b + p0), .int a1, .int a2, .int a3, .int a4] h r N sz (some (.int w.1)) w.2 r 0 0 :=
  CT_of (by decide) rfl (Nat.le_of_ble_eq_true rfl) (by decide) trivial (fun X hX hR => kX8_move hX hM hW p0 a1 a2 a3 a4 t0 hR hF)
/-! X8_removes -/
def fX8_removes_b42 (r : RR) (p0 : Nat) (a1 : Int32) (a2 : Int32) (k5 : HH → Int32 → Int32 → Option (Int32 × HH)) (h : HH) (x3 : Int32) (x4 : Int32) : Option (Int32 × HH) := k5 h x3 (x4 + 1)
def fX8_removes_b86 (r : RR) (p0 : Nat) (a1 : Int32) (a2 : Int32) (k51 : HH → Int32 → Int32 → Option (Int32 × HH)) (h : HH) (x3 : Int32) (x4 : Int32) : Option (Int32 × HH) := k51 h x3 (x4 + 1)
def fX8_removes_b76 (r : RR) (p0 : Nat) (a1 : Int32) (a2 : Int32) (k51 : HH → Int32 → Int32 → Option (Int32 × HH)) (h : HH) (x3 : Int32) (x4 : Int32) : Option (Int32 × HH) := gd (inb a1 (lnM (r p0 3))) (gd (inb x4 (lnM (r (r p0 3) (ix a1)))) (lt (up h (r (r p0 3) (ix a1)) (ix x4) (zn 0)) (fun h85 => fX8_removes_b86 r p0 a1 a2 k51 h85 x3 x4)))
def fX8_removes_b51 (r : RR) (p0 : Nat) (a1 : Int32) (a2 : Int32) : Nat → HH → Int32 → Int32 → Option (Int32 × HH)
  | 0, _, _, _ => none
  | n + 1, h, x3, x4 => if (h p0 0) ≤ x4 then (some (x3, h)) else (gd (inb x4 (lnM (r p0 10))) (if ¬ (h (r p0 10) (ix x4)) = 0 then (fX8_removes_b76 r p0 a1 a2 (fun h_ z3_ z4_ => fX8_removes_b51 r p0 a1 a2 n h_ z3_ z4_) h x3 x4) else (if ¬ x4 = a2 then (fX8_removes_b86 r p0 a1 a2 (fun h_ z3_ z4_ => fX8_removes_b51 r p0 a1 a2 n h_ z3_ z4_) h x3 x4) else (fX8_removes_b76 r p0 a1 a2 (fun h_ z3_ z4_ => fX8_removes_b51 r p0 a1 a2 n h_ z3_ z4_) h x3 x4))))
def fX8_removes_b5 (r : RR) (p0 : Nat) (a1 : Int32) (a2 : Int32) : Nat → HH → Int32 → Int32 → Option (Int32 × HH)
  | 0, _, _, _ => none
  | n + 1, h, x3, x4 => if (h p0 0) ≤ x4 then (fX8_removes_b51 r p0 a1 a2 lpF h x3 0) else ((fX8_isInner h r p0 a1 x4 a2).bind (fun v25 => gd (inb x4 (lnM (r p0 10))) (lt (up h (r p0 10) (ix x4) (zn v25)) (fun h28 => gd (inb x4 (lnM (r p0 10))) (if (h28 (r p0 10) (ix x4)) = 0 then (fX8_removes_b42 r p0 a1 a2 (fun h_ z3_ z4_ => fX8_removes_b5 r p0 a1 a2 n h_ z3_ z4_) h28 x3 x4) else (fX8_removes_b42 r p0 a1 a2 (fun h_ z3_ z4_ => fX8_removes_b5 r p0 a1 a2 n h_ z3_ z4_) h28 (x3 + 1) x4))))))
def fX8_removes (h : HH) (r : RR) (p0 : Nat) (a1 : Int32) (a2 : Int32) : Option (Int32 × HH) := fX8_removes_b5 r p0 a1 a2 lpF h 1 0
set_option maxRecDepth 100000 in
set_option maxHeartbeats 4000000 in
theorem kX8_removes_b42 {X : XT} {b N sz : Nat} {ok : Nat → Prop} {r : RR} {w : Int32 × HH} (hX : XOK X RX8 cX8_removes 5 3) (hM : N ≤ MM) (hW : WT KM lnM ok N r) (p0 : Nat) (a1 : Int32) (a2 : Int32) (t0 : KM p0 = 8 ∧ ok p0) (hR : XR X b KM lnM MM (some FieldType.int) 0 0 N sz (some (.int w.1)) w.2 r) (k5 : HH → Int32 → Int32 → Option (Int32 × HH)) (hk5 : ∀ (h : HH) (x3 : Int32) (x4 : Int32), k5 h x3 x4 = some w → GX X b KM lnM MM 5 0 0 N sz 5 [(0, .ref (b + p0)), (1, .int a1), (2, .int a2), (3, .int x3), (4, .int x4)] [] h r) (h : HH) (x3 : Int32) (x4 : Int32) (hF : fX8_removes_b42 r p0 a1 a2 k5 h x3 x4 = some w) : GX X b KM lnM MM 5 0 0 N sz 42 [(0, .ref (b + p0)), (1, .int a1), (2, .int a2), (3, .int x3), (4, .int x4)] [] h r := by
  rw [fX8_removes_b42] at hF
  refine g_iinc (L' := [(4, .int (x4 + 1)), (0, .ref (b + p0)), (1, .int a1), (2, .int a2), (3, .int x3)]) (j := 4) hX dX8_removes_42 rfl rfl (by decide) rfl ?_
  refine g_goto (tgt := 5) hX dX8_removes_45 (by decide) ?_
  refine g_sub (L' := [(0, .ref (b + p0)), (1, .int a1), (2, .int a2), (3, .int x3), (4, .int (x4 + 1))]) [1, 2, 3, 4, 0] rfl ?_
  exact hk5 h x3 (x4 + 1) hF
set_option maxRecDepth 100000 in
set_option maxHeartbeats 4000000 in
theorem kX8_removes_b86 {X : XT} {b N sz : Nat} {ok : Nat → Prop} {r : RR} {w : Int32 × HH} (hX : XOK X RX8 cX8_removes 5 3) (hM : N ≤ MM) (hW : WT KM lnM ok N r) (p0 : Nat) (a1 : Int32) (a2 : Int32) (t0 : KM p0 = 8 ∧ ok p0) (hR : XR X b KM lnM MM (some FieldType.int) 0 0 N sz (some (.int w.1)) w.2 r) (k51 : HH → Int32 → Int32 → Option (Int32 × HH)) (hk51 : ∀ (h : HH) (x3 : Int32) (x4 : Int32), k51 h x3 x4 = some w → GX X b KM lnM MM 5 0 0 N sz 51 [(0, .ref (b + p0)), (1, .int a1), (2, .int a2), (3, .int x3), (4, .int x4)] [] h r) (h : HH) (x3 : Int32) (x4 : Int32) (hF : fX8_removes_b86 r p0 a1 a2 k51 h x3 x4 = some w) : GX X b KM lnM MM 5 0 0 N sz 86 [(0, .ref (b + p0)), (1, .int a1), (2, .int a2), (3, .int x3), (4, .int x4)] [] h r := by
  rw [fX8_removes_b86] at hF
  refine g_iinc (L' := [(4, .int (x4 + 1)), (0, .ref (b + p0)), (1, .int a1), (2, .int a2), (3, .int x3)]) (j := 4) hX dX8_removes_86 rfl rfl (by decide) rfl ?_
  refine g_goto (tgt := 51) hX dX8_removes_89 (by decide) ?_
  refine g_sub (L' := [(0, .ref (b + p0)), (1, .int a1), (2, .int a2), (3, .int x3), (4, .int (x4 + 1))]) [1, 2, 3, 4, 0] rfl ?_
  exact hk51 h x3 (x4 + 1) hF
set_option maxRecDepth 100000 in
set_option maxHeartbeats 4000000 in
theorem kX8_removes_b76 {X : XT} {b N sz : Nat} {ok : Nat → Prop} {r : RR} {w : Int32 × HH} (hX : XOK X RX8 cX8_removes 5 3) (hM : N ≤ MM) (hW : WT KM lnM ok N r) (p0 : Nat) (a1 : Int32) (a2 : Int32) (t0 : KM p0 = 8 ∧ ok p0) (hR : XR X b KM lnM MM (some FieldType.int) 0 0 N sz (some (.int w.1)) w.2 r) (k51 : HH → Int32 → Int32 → Option (Int32 × HH)) (hk51 : ∀ (h : HH) (x3 : Int32) (x4 : Int32), k51 h x3 x4 = some w → GX X b KM lnM MM 5 0 0 N sz 51 [(0, .ref (b + p0)), (1, .int a1), (2, .int a2), (3, .int x3), (4, .int x4)] [] h r) (h : HH) (x3 : Int32) (x4 : Int32) (hF : fX8_removes_b76 r p0 a1 a2 k51 h x3 x4 = some w) : GX X b KM lnM MM 5 0 0 N sz 76 [(0, .ref (b + p0)), (1, .int a1), (2, .int a2), (3, .int x3), (4, .int x4)] [] h r := by
  rw [fX8_removes_b76] at hF
  refine g_aload_n hX dX8_removes_76 (i := 0) rfl (j := 0) rfl ?_
  have tf77 := (tyF (k := 3) hW t0 (by decide) rfl (by decide) : KM (r p0 3) = 15 ∧ ok (r p0 3))
  refine gf_X8_15 hX dX8_removes_77 (ty1 hW t0) (hW.1 _ tf77.2).1 ?_
  refine g_iload_n hX dX8_removes_80 (i := 1) rfl (j := 1) rfl ?_
  obtain ⟨g81, hF⟩ := gd_some hF
  have ta81 : KM (r (r p0 3) (ix a1)) = 10 ∧ ok (r (r p0 3) (ix a1)) := tyA hW tf77 (by decide) rfl (by decide) g81
  refine g_aald hX dX8_removes_81 tf77.1 (by decide) (by decide) (hW.1 _ tf77.2).1 (hW.1 _ tf77.2).2 g81 (hW.1 _ ta81.2).1 ?_
  refine g_iload hX dX8_removes_82 (j := 4) rfl ?_
  refine g_iconst (v := 0) hX dX8_removes_84 (by decide) ?_
  obtain ⟨g85, hF⟩ := gd_some hF
  obtain ⟨h85, e85, hF⟩ := lt_some hF
  refine g_bast hX dX8_removes_85 ta81.1 (hW.1 _ ta81.2).1 (hW.1 _ ta81.2).2 hM g85 e85 ?_
  refine g_sub (L' := [(0, .ref (b + p0)), (1, .int a1), (2, .int a2), (3, .int x3), (4, .int x4)]) [0, 1, 2, 3, 4] rfl ?_
  exact kX8_removes_b86 hX hM hW p0 a1 a2 t0 hR k51 hk51 h85 x3 x4 hF
set_option maxRecDepth 100000 in
set_option maxHeartbeats 4000000 in
theorem kX8_removes_b51 {X : XT} {b N sz : Nat} {ok : Nat → Prop} {r : RR} {w : Int32 × HH} (hX : XOK X RX8 cX8_removes 5 3) (hM : N ≤ MM) (hW : WT KM lnM ok N r) (p0 : Nat) (a1 : Int32) (a2 : Int32) (t0 : KM p0 = 8 ∧ ok p0) (hR : XR X b KM lnM MM (some FieldType.int) 0 0 N sz (some (.int w.1)) w.2 r) : ∀ (n : Nat) (h : HH) (x3 : Int32) (x4 : Int32), fX8_removes_b51 r p0 a1 a2 n h x3 x4 = some w → GX X b KM lnM MM 5 0 0 N sz 51 [(0, .ref (b + p0)), (1, .int a1), (2, .int a2), (3, .int x3), (4, .int x4)] [] h r := by
  intro n
  induction n with
  | zero =>
    intro h x3 x4 hF
    cases hF
  | succ n ih =>
    intro h x3 x4 hF
    rw [fX8_removes_b51] at hF
    refine g_iload hX dX8_removes_51 (j := 4) rfl ?_
    refine g_aload_n hX dX8_removes_53 (i := 0) rfl (j := 0) rfl ?_
    refine gf_X8_130 hX dX8_removes_54 (ty1 hW t0) ?_
    refine g_icmp_ge (tgt := 92) hX dX8_removes_57 (by decide) (fun c57 => ?_) (fun c57 => ?_)
    · have hF := ite_t hF c57
      refine g_iload_n hX dX8_removes_92 (i := 3) rfl (j := 3) rfl ?_
      obtain rfl := Option.some.inj hF
      exact g_iret hX dX8_removes_93 hR
    · have hF := ite_f hF c57
      refine g_aload_n hX dX8_removes_60 (i := 0) rfl (j := 0) rfl ?_
      have tf61 := (tyF (k := 10) hW t0 (by decide) rfl (by decide) : KM (r p0 10) = 10 ∧ ok (r p0 10))
      refine gf_X8_33 hX dX8_removes_61 (ty1 hW t0) (hW.1 _ tf61.2).1 ?_
      refine g_iload hX dX8_removes_64 (j := 4) rfl ?_
      obtain ⟨g66, hF⟩ := gd_some hF
      refine g_bald hX dX8_removes_66 tf61.1 (hW.1 _ tf61.2).1 (hW.1 _ tf61.2).2 g66 ?_
      refine g_if_ne (tgt := 76) hX dX8_removes_67 (by decide) (fun c67 => ?_) (fun c67 => ?_)
      · have hF := ite_t hF c67
        refine g_sub (L' := [(0, .ref (b + p0)), (1, .int a1), (2, .int a2), (3, .int x3), (4, .int x4)]) [0, 1, 2, 3, 4] rfl ?_
        exact kX8_removes_b76 hX hM hW p0 a1 a2 t0 hR (fun h_ z3_ z4_ => fX8_removes_b51 r p0 a1 a2 n h_ z3_ z4_) ih h x3 x4 hF
      · have hF := ite_f hF (fun z => z c67)
        refine g_iload hX dX8_removes_70 (j := 4) rfl ?_
        refine g_iload_n hX dX8_removes_72 (i := 2) rfl (j := 2) rfl ?_
        refine g_icmp_ne (tgt := 86) hX dX8_removes_73 (by decide) (fun c73 => ?_) (fun c73 => ?_)
        · have hF := ite_t hF c73
          refine g_sub (L' := [(0, .ref (b + p0)), (1, .int a1), (2, .int a2), (3, .int x3), (4, .int x4)]) [0, 1, 2, 3, 4] rfl ?_
          exact kX8_removes_b86 hX hM hW p0 a1 a2 t0 hR (fun h_ z3_ z4_ => fX8_removes_b51 r p0 a1 a2 n h_ z3_ z4_) ih h x3 x4 hF
        · have hF := ite_f hF (fun z => z c73)
          refine g_sub (L' := [(0, .ref (b + p0)), (1, .int a1), (2, .int a2), (3, .int x3), (4, .int x4)]) [0, 1, 2, 3, 4] rfl ?_
          exact kX8_removes_b76 hX hM hW p0 a1 a2 t0 hR (fun h_ z3_ z4_ => fX8_removes_b51 r p0 a1 a2 n h_ z3_ z4_) ih h x3 x4 hF
set_option maxRecDepth 100000 in
set_option maxHeartbeats 4000000 in
theorem kX8_removes_b5 {X : XT} {b N sz : Nat} {ok : Nat → Prop} {r : RR} {w : Int32 × HH} (hX : XOK X RX8 cX8_removes 5 3) (hM : N ≤ MM) (hW : WT KM lnM ok N r) (p0 : Nat) (a1 : Int32) (a2 : Int32) (t0 : KM p0 = 8 ∧ ok p0) (hR : XR X b KM lnM MM (some FieldType.int) 0 0 N sz (some (.int w.1)) w.2 r) : ∀ (n : Nat) (h : HH) (x3 : Int32) (x4 : Int32), fX8_removes_b5 r p0 a1 a2 n h x3 x4 = some w → GX X b KM lnM MM 5 0 0 N sz 5 [(0, .ref (b + p0)), (1, .int a1), (2, .int a2), (3, .int x3), (4, .int x4)] [] h r := by
  intro n
  induction n with
  | zero =>
    intro h x3 x4 hF
    cases hF
  | succ n ih =>
    intro h x3 x4 hF
    rw [fX8_removes_b5] at hF
    refine g_iload hX dX8_removes_5 (j := 4) rfl ?_
    refine g_aload_n hX dX8_removes_7 (i := 0) rfl (j := 0) rfl ?_
    refine gf_X8_130 hX dX8_removes_8 (ty1 hW t0) ?_
    refine g_icmp_ge (tgt := 48) hX dX8_removes_11 (by decide) (fun c11 => ?_) (fun c11 => ?_)
    · have hF := ite_t hF c11
      refine g_iconst (v := 0) hX dX8_removes_48 (by decide) ?_
      refine g_istore (L' := [(4, .int 0), (0, .ref (b + p0)), (1, .int a1), (2, .int a2), (3, .int x3)]) hX dX8_removes_49 (by decide) rfl ?_
      refine g_sub (L' := [(0, .ref (b + p0)), (1, .int a1), (2, .int a2), (3, .int x3), (4, .int 0)]) [1, 2, 3, 4, 0] rfl ?_
      exact kX8_removes_b51 hX hM hW p0 a1 a2 t0 hR lpF h x3 0 hF
    · have hF := ite_f hF c11
      refine g_aload_n hX dX8_removes_14 (i := 0) rfl (j := 0) rfl ?_
      have tf15 := (tyF (k := 10) hW t0 (by decide) rfl (by decide) : KM (r p0 10) = 10 ∧ ok (r p0 10))
      refine gf_X8_33 hX dX8_removes_15 (ty1 hW t0) (hW.1 _ tf15.2).1 ?_
      refine g_iload hX dX8_removes_18 (j := 4) rfl ?_
      refine g_aload_n hX dX8_removes_20 (i := 0) rfl (j := 0) rfl ?_
      refine g_iload_n hX dX8_removes_21 (i := 1) rfl (j := 1) rfl ?_
      refine g_iload hX dX8_removes_22 (j := 4) rfl ?_
      refine g_iload_n hX dX8_removes_24 (i := 2) rfl (j := 2) rfl ?_
      obtain ⟨v25, e25, hF⟩ := bi_some hF
      refine g_callV (As := [.int a1, .int x4, .int a2]) (rest := [.int x4, .ref (b + (r p0 10))]) (stk := [.int v25, .int x4, .ref (b + (r p0 10))]) hX dX8_removes_25 (ctX8_isInner hM hW p0 a1 x4 a2 t0 e25) (by decide) (by decide) wm_X8_181 wi_X8_isInner ws_X8_isInner wz_X8 wc_X8_isInner hyX8_isInner rfl (ci := 8) rfl (by decide) t0.1 (hW.1 _ t0.2).1 (hW.1 _ t0.2).2 (Nat.le_of_ble_eq_true rfl) rfl rfl ?_ rfl rfl
      obtain ⟨g28, hF⟩ := gd_some hF
      obtain ⟨h28, e28, hF⟩ := lt_some hF
      refine g_bast hX dX8_removes_28 tf15.1 (hW.1 _ tf15.2).1 (hW.1 _ tf15.2).2 hM g28 e28 ?_
      refine g_aload_n hX dX8_removes_29 (i := 0) rfl (j := 0) rfl ?_
      have tf30 := (tyF (k := 10) hW t0 (by decide) rfl (by decide) : KM (r p0 10) = 10 ∧ ok (r p0 10))
      refine gf_X8_33 hX dX8_removes_30 (ty1 hW t0) (hW.1 _ tf30.2).1 ?_
      refine g_iload hX dX8_removes_33 (j := 4) rfl ?_
      obtain ⟨g35, hF⟩ := gd_some hF
      refine g_bald hX dX8_removes_35 tf30.1 (hW.1 _ tf30.2).1 (hW.1 _ tf30.2).2 g35 ?_
      refine g_if_eq (tgt := 42) hX dX8_removes_36 (by decide) (fun c36 => ?_) (fun c36 => ?_)
      · have hF := ite_t hF c36
        refine g_sub (L' := [(0, .ref (b + p0)), (1, .int a1), (2, .int a2), (3, .int x3), (4, .int x4)]) [0, 1, 2, 3, 4] rfl ?_
        exact kX8_removes_b42 hX hM hW p0 a1 a2 t0 hR (fun h_ z3_ z4_ => fX8_removes_b5 r p0 a1 a2 n h_ z3_ z4_) ih h28 x3 x4 hF
      · have hF := ite_f hF c36
        refine g_iinc (L' := [(3, .int (x3 + 1)), (0, .ref (b + p0)), (1, .int a1), (2, .int a2), (4, .int x4)]) (j := 3) hX dX8_removes_39 rfl rfl (by decide) rfl ?_
        refine g_sub (L' := [(0, .ref (b + p0)), (1, .int a1), (2, .int a2), (3, .int (x3 + 1)), (4, .int x4)]) [1, 2, 3, 0, 4] rfl ?_
        exact kX8_removes_b42 hX hM hW p0 a1 a2 t0 hR (fun h_ z3_ z4_ => fX8_removes_b5 r p0 a1 a2 n h_ z3_ z4_) ih h28 (x3 + 1) x4 hF
set_option maxRecDepth 100000 in
set_option maxHeartbeats 4000000 in
theorem kX8_removes {X : XT} {b N sz : Nat} {ok : Nat → Prop} {h : HH} {r : RR} {w : Int32 × HH} (hX : XOK X RX8 cX8_removes 5 3) (hM : N ≤ MM) (hW : WT KM lnM ok N r) (p0 : Nat) (a1 : Int32) (a2 : Int32) (t0 : KM p0 = 8 ∧ ok p0) (hR : XR X b KM lnM MM (some FieldType.int) 0 0 N sz (some (.int w.1)) w.2 r) (hF : fX8_removes h r p0 a1 a2 = some w) : GX X b KM lnM MM 5 0 0 N sz 0 [(0, .ref (b + p0)), (1, .int a1), (2, .int a2)] [] h r := by
  rw [fX8_removes] at hF
  refine g_iconst (v := 1) hX dX8_removes_0 (by decide) ?_
  refine g_istore_n (L' := [(3, .int 1), (0, .ref (b + p0)), (1, .int a1), (2, .int a2)]) hX dX8_removes_1 (i := 3) rfl (by decide) rfl ?_
  refine g_iconst (v := 0) hX dX8_removes_2 (by decide) ?_
  refine g_istore (L' := [(4, .int 0), (3, .int 1), (0, .ref (b + p0)), (1, .int a1), (2, .int a2)]) hX dX8_removes_3 (by decide) rfl ?_
  refine g_sub (L' := [(0, .ref (b + p0)), (1, .int a1), (2, .int a2), (3, .int 1), (4, .int 0)]) [2, 3, 4, 1, 0] rfl ?_
  exact kX8_removes_b5 hX hM hW p0 a1 a2 t0 hR lpF h 1 0 hF
theorem ctX8_removes {b N sz : Nat} {ok : Nat → Prop} {h : HH} {r : RR} {w : Int32 × HH} (hM : N ≤ MM) (hW : WT KM lnM ok N r) (p0 : Nat) (a1 : Int32) (a2 : Int32) (t0 : KM p0 = 8 ∧ ok p0) (hF : fX8_removes h r p0 a1 a2 = some w) : CT yX8_removes cX8_removes 5 (some FieldType.int) 3 b KM lnM MM N sz [.ref (b + p0), .int a1, .int a2] h r N sz (some (.int w.1)) w.2 r 0 0 :=
  CT_of (by decide) rfl (Nat.le_of_ble_eq_true rfl) (by decide) trivial (fun X hX hR => kX8_removes hX hM hW p0 a1 a2 t0 hR hF)
/-! X8_remove -/
def fX8_remove_b15 (r : RR) (p0 : Nat) (a1 : Int32) (a2 : Int32) (h : HH) : Option (Int32 × HH) := bi2 (fX8_refuses h r p0 (-2) (-1) 0) (fun v20 h20 => some (v20, h20))
def fX8_remove (h : HH) (r : RR) (p0 : Nat) (a1 : Int32) (a2 : Int32) : Option (Int32 × HH) := (fX8_isSide h r a1).bind (fun v1 => if v1 = 0 then (fX8_remove_b15 r p0 a1 a2 h) else ((fX8_isThing h r p0 a2).bind (fun v9 => if ¬ v9 = 0 then (gd (inb a1 (lnM (r p0 3))) (gd (inb a2 (lnM (r (r p0 3) (ix a1)))) (if ¬ (h (r (r p0 3) (ix a1)) (ix a2)) = 0 then (bi2 (fX8_removes h r p0 a1 a2) (fun v48 h48 => bi2 (fX8_done h48 r p0 v48) (fun v51 h51 => some (v51, h51)))) else (bi2 (fX8_refuses h r p0 (-3) a2 0) (fun v40 h40 => some (v40, h40)))))) else (fX8_remove_b15 r p0 a1 a2 h))))
set_option maxRecDepth 100000 in
set_option maxHeartbeats 4000000 in
theorem kX8_remove_b15 {X : XT} {b N sz : Nat} {ok : Nat → Prop} {r : RR} {w : Int32 × HH} (hX : XOK X RX8 cX8_remove 3 4) (hM : N ≤ MM) (hW : WT KM lnM ok N r) (p0 : Nat) (a1 : Int32) (a2 : Int32) (t0 : KM p0 = 8 ∧ ok p0) (hR : XR X b KM lnM MM (some FieldType.int) 0 0 N sz (some (.int w.1)) w.2 r) (h : HH) (hF : fX8_remove_b15 r p0 a1 a2 h = some w) : GX X b KM lnM MM 3 0 0 N sz 15 [(0, .ref (b + p0)), (1, .int a1), (2, .int a2)] [] h r := by
  rw [fX8_remove_b15] at hF
  refine g_aload_n hX dX8_remove_15 (i := 0) rfl (j := 0) rfl ?_
  refine g_bipush (v := (-2)) hX dX8_remove_16 (by decide) ?_
  refine g_iconst (v := (-1)) hX dX8_remove_18 (by decide) ?_
  refine g_iconst (v := 0) hX dX8_remove_19 (by decide) ?_
  obtain ⟨v20, h20, e20, hF⟩ := bi2_some hF
  refine g_callV (As := [.int (-2), .int (-1), .int 0]) (rest := []) (stk := [.int v20]) hX dX8_remove_20 (ctX8_refuses hM hW p0 (-2) (-1) 0 t0 e20) (by decide) (by decide) wm_X8_157 wi_X8_refuses ws_X8_refuses wz_X8 wc_X8_refuses hyX8_refuses rfl (ci := 8) rfl (by decide) t0.1 (hW.1 _ t0.2).1 (hW.1 _ t0.2).2 (Nat.le_of_ble_eq_true rfl) rfl rfl ?_ rfl rfl
  obtain rfl := Option.some.inj hF
  exact g_iret hX dX8_remove_23 hR
set_option maxRecDepth 100000 in
set_option maxHeartbeats 4000000 in
theorem kX8_remove {X : XT} {b N sz : Nat} {ok : Nat → Prop} {h : HH} {r : RR} {w : Int32 × HH} (hX : XOK X RX8 cX8_remove 3 4) (hM : N ≤ MM) (hW : WT KM lnM ok N r) (p0 : Nat) (a1 : Int32) (a2 : Int32) (t0 : KM p0 = 8 ∧ ok p0) (hR : XR X b KM lnM MM (some FieldType.int) 0 0 N sz (some (.int w.1)) w.2 r) (hF : fX8_remove h r p0 a1 a2 = some w) : GX X b KM lnM MM 3 0 0 N sz 0 [(0, .ref (b + p0)), (1, .int a1), (2, .int a2)] [] h r := by
  rw [fX8_remove] at hF
  refine g_iload_n hX dX8_remove_0 (i := 1) rfl (j := 1) rfl ?_
  obtain ⟨v1, e1, hF⟩ := bi_some hF
  refine g_callS (As := [.int a1]) (rest := []) (stk := [.int v1]) hX dX8_remove_1 (ctX8_isSide hM hW a1 e1) (by decide) (by decide) wm_X8_151 wt_X8_isSide wz_X8 wc_X8_isSide hyX8_isSide rfl (Nat.le_of_ble_eq_true rfl) rfl rfl ?_ rfl rfl
  refine g_if_eq (tgt := 15) hX dX8_remove_4 (by decide) (fun c4 => ?_) (fun c4 => ?_)
  · have hF := ite_t hF c4
    refine g_sub (L' := [(0, .ref (b + p0)), (1, .int a1), (2, .int a2)]) [0, 1, 2] rfl ?_
    exact kX8_remove_b15 hX hM hW p0 a1 a2 t0 hR h hF
  · have hF := ite_f hF c4
    refine g_aload_n hX dX8_remove_7 (i := 0) rfl (j := 0) rfl ?_
    refine g_iload_n hX dX8_remove_8 (i := 2) rfl (j := 2) rfl ?_
    obtain ⟨v9, e9, hF⟩ := bi_some hF
    refine g_callV (As := [.int a2]) (rest := []) (stk := [.int v9]) hX dX8_remove_9 (ctX8_isThing hM hW p0 a2 t0 e9) (by decide) (by decide) wm_X8_137 wi_X8_isThing ws_X8_isThing wz_X8 wc_X8_isThing hyX8_isThing rfl (ci := 8) rfl (by decide) t0.1 (hW.1 _ t0.2).1 (hW.1 _ t0.2).2 (Nat.le_of_ble_eq_true rfl) rfl rfl ?_ rfl rfl
    refine g_if_ne (tgt := 24) hX dX8_remove_12 (by decide) (fun c12 => ?_) (fun c12 => ?_)
    · have hF := ite_t hF c12
      refine g_aload_n hX dX8_remove_24 (i := 0) rfl (j := 0) rfl ?_
      have tf25 := (tyF (k := 3) hW t0 (by decide) rfl (by decide) : KM (r p0 3) = 15 ∧ ok (r p0 3))
      refine gf_X8_15 hX dX8_remove_25 (ty1 hW t0) (hW.1 _ tf25.2).1 ?_
      refine g_iload_n hX dX8_remove_28 (i := 1) rfl (j := 1) rfl ?_
      obtain ⟨g29, hF⟩ := gd_some hF
      have ta29 : KM (r (r p0 3) (ix a1)) = 10 ∧ ok (r (r p0 3) (ix a1)) := tyA hW tf25 (by decide) rfl (by decide) g29
      refine g_aald hX dX8_remove_29 tf25.1 (by decide) (by decide) (hW.1 _ tf25.2).1 (hW.1 _ tf25.2).2 g29 (hW.1 _ ta29.2).1 ?_
      refine g_iload_n hX dX8_remove_30 (i := 2) rfl (j := 2) rfl ?_
      obtain ⟨g31, hF⟩ := gd_some hF
      refine g_bald hX dX8_remove_31 ta29.1 (hW.1 _ ta29.2).1 (hW.1 _ ta29.2).2 g31 ?_
      refine g_if_ne (tgt := 44) hX dX8_remove_32 (by decide) (fun c32 => ?_) (fun c32 => ?_)
      · have hF := ite_t hF c32
        refine g_aload_n hX dX8_remove_44 (i := 0) rfl (j := 0) rfl ?_
        refine g_aload_n hX dX8_remove_45 (i := 0) rfl (j := 0) rfl ?_
        refine g_iload_n hX dX8_remove_46 (i := 1) rfl (j := 1) rfl ?_
        refine g_iload_n hX dX8_remove_47 (i := 2) rfl (j := 2) rfl ?_
        obtain ⟨v48, h48, e48, hF⟩ := bi2_some hF
        refine g_callV (As := [.int a1, .int a2]) (rest := [.ref (b + p0)]) (stk := [.int v48, .ref (b + p0)]) hX dX8_remove_48 (ctX8_removes hM hW p0 a1 a2 t0 e48) (by decide) (by decide) wm_X8_184 wi_X8_removes ws_X8_removes wz_X8 wc_X8_removes hyX8_removes rfl (ci := 8) rfl (by decide) t0.1 (hW.1 _ t0.2).1 (hW.1 _ t0.2).2 (Nat.le_of_ble_eq_true rfl) rfl rfl ?_ rfl rfl
        obtain ⟨v51, h51, e51, hF⟩ := bi2_some hF
        refine g_callV (As := [.int v48]) (rest := []) (stk := [.int v51]) hX dX8_remove_51 (ctX8_done hM hW p0 v48 t0 e51) (by decide) (by decide) wm_X8_177 wi_X8_done ws_X8_done wz_X8 wc_X8_done hyX8_done rfl (ci := 8) rfl (by decide) t0.1 (hW.1 _ t0.2).1 (hW.1 _ t0.2).2 (Nat.le_of_ble_eq_true rfl) rfl rfl ?_ rfl rfl
        obtain rfl := Option.some.inj hF
        exact g_iret hX dX8_remove_54 hR
      · have hF := ite_f hF (fun z => z c32)
        refine g_aload_n hX dX8_remove_35 (i := 0) rfl (j := 0) rfl ?_
        refine g_bipush (v := (-3)) hX dX8_remove_36 (by decide) ?_
        refine g_iload_n hX dX8_remove_38 (i := 2) rfl (j := 2) rfl ?_
        refine g_iconst (v := 0) hX dX8_remove_39 (by decide) ?_
        obtain ⟨v40, h40, e40, hF⟩ := bi2_some hF
        refine g_callV (As := [.int (-3), .int a2, .int 0]) (rest := []) (stk := [.int v40]) hX dX8_remove_40 (ctX8_refuses hM hW p0 (-3) a2 0 t0 e40) (by decide) (by decide) wm_X8_157 wi_X8_refuses ws_X8_refuses wz_X8 wc_X8_refuses hyX8_refuses rfl (ci := 8) rfl (by decide) t0.1 (hW.1 _ t0.2).1 (hW.1 _ t0.2).2 (Nat.le_of_ble_eq_true rfl) rfl rfl ?_ rfl rfl
        obtain rfl := Option.some.inj hF
        exact g_iret hX dX8_remove_43 hR
    · have hF := ite_f hF (fun z => z c12)
      refine g_sub (L' := [(0, .ref (b + p0)), (1, .int a1), (2, .int a2)]) [0, 1, 2] rfl ?_
      exact kX8_remove_b15 hX hM hW p0 a1 a2 t0 hR h hF
theorem ctX8_remove {b N sz : Nat} {ok : Nat → Prop} {h : HH} {r : RR} {w : Int32 × HH} (hM : N ≤ MM) (hW : WT KM lnM ok N r) (p0 : Nat) (a1 : Int32) (a2 : Int32) (t0 : KM p0 = 8 ∧ ok p0) (hF : fX8_remove h r p0 a1 a2 = some w) : CT yX8_remove cX8_remove 3 (some FieldType.int) 4 b KM lnM MM N sz [.ref (b + p0), .int a1, .int a2] h r N sz (some (.int w.1)) w.2 r 0 0 :=
  CT_of (by decide) rfl (Nat.le_of_ble_eq_true rfl) (by decide) trivial (fun X hX hR => kX8_remove hX hM hW p0 a1 a2 t0 hR hF)
/-! X8_latest -/
def fX8_latest (h : HH) (r : RR) (p0 : Nat) (a1 : Int32) : Option (Int32) := (fX8_in h r a1 0 2).bind (fun v3 => if ¬ v3 = 0 then (if ¬ a1 = 0 then (if ¬ a1 = 1 then (some (h p0 9)) else (some (h p0 8))) else (some (h p0 7))) else (some (-2)))
set_option maxRecDepth 100000 in
set_option maxHeartbeats 4000000 in
theorem kX8_latest {X : XT} {b N sz : Nat} {ok : Nat → Prop} {h : HH} {r : RR} {w : Int32} (hX : XOK X RX8 cX8_latest 2 2) (hM : N ≤ MM) (hW : WT KM lnM ok N r) (p0 : Nat) (a1 : Int32) (t0 : KM p0 = 8 ∧ ok p0) (hR : XR X b KM lnM MM (some FieldType.int) 0 0 N sz (some (.int w)) h r) (hF : fX8_latest h r p0 a1 = some w) : GX X b KM lnM MM 2 0 0 N sz 0 [(0, .ref (b + p0)), (1, .int a1)] [] h r := by
  rw [fX8_latest] at hF
  refine g_iload_n hX dX8_latest_0 (i := 1) rfl (j := 1) rfl ?_
  refine g_iconst (v := 0) hX dX8_latest_1 (by decide) ?_
  refine g_iconst (v := 2) hX dX8_latest_2 (by decide) ?_
  obtain ⟨v3, e3, hF⟩ := bi_some hF
  refine g_callS (As := [.int a1, .int 0, .int 2]) (rest := []) (stk := [.int v3]) hX dX8_latest_3 (ctX8_in hM hW a1 0 2 e3) (by decide) (by decide) wm_X8_133 wt_X8_in wz_X8 wc_X8_in hyX8_in rfl (Nat.le_of_ble_eq_true rfl) rfl rfl ?_ rfl rfl
  refine g_if_ne (tgt := 12) hX dX8_latest_6 (by decide) (fun c6 => ?_) (fun c6 => ?_)
  · have hF := ite_t hF c6
    refine g_iload_n hX dX8_latest_12 (i := 1) rfl (j := 1) rfl ?_
    refine g_if_ne (tgt := 23) hX dX8_latest_13 (by decide) (fun c13 => ?_) (fun c13 => ?_)
    · have hF := ite_t hF c13
      refine g_iload_n hX dX8_latest_23 (i := 1) rfl (j := 1) rfl ?_
      refine g_iconst (v := 1) hX dX8_latest_24 (by decide) ?_
      refine g_icmp_ne (tgt := 35) hX dX8_latest_25 (by decide) (fun c25 => ?_) (fun c25 => ?_)
      · have hF := ite_t hF c25
        refine g_aload_n hX dX8_latest_35 (i := 0) rfl (j := 0) rfl ?_
        refine gf_X8_148 hX dX8_latest_36 (ty1 hW t0) ?_
        obtain rfl := Option.some.inj hF
        exact g_iret hX dX8_latest_39 hR
      · have hF := ite_f hF (fun z => z c25)
        refine g_aload_n hX dX8_latest_28 (i := 0) rfl (j := 0) rfl ?_
        refine gf_X8_29 hX dX8_latest_29 (ty1 hW t0) ?_
        refine g_goto (tgt := 39) hX dX8_latest_32 (by decide) ?_
        obtain rfl := Option.some.inj hF
        exact g_iret hX dX8_latest_39 hR
    · have hF := ite_f hF (fun z => z c13)
      refine g_aload_n hX dX8_latest_16 (i := 0) rfl (j := 0) rfl ?_
      refine gf_X8_145 hX dX8_latest_17 (ty1 hW t0) ?_
      refine g_goto (tgt := 39) hX dX8_latest_20 (by decide) ?_
      obtain rfl := Option.some.inj hF
      exact g_iret hX dX8_latest_39 hR
  · have hF := ite_f hF (fun z => z c6)
    refine g_bipush (v := (-2)) hX dX8_latest_9 (by decide) ?_
    obtain rfl := Option.some.inj hF
    exact g_iret hX dX8_latest_11 hR
theorem ctX8_latest {b N sz : Nat} {ok : Nat → Prop} {h : HH} {r : RR} {w : Int32} (hM : N ≤ MM) (hW : WT KM lnM ok N r) (p0 : Nat) (a1 : Int32) (t0 : KM p0 = 8 ∧ ok p0) (hF : fX8_latest h r p0 a1 = some w) : CT yX8_latest cX8_latest 2 (some FieldType.int) 2 b KM lnM MM N sz [.ref (b + p0), .int a1] h r N sz (some (.int w)) h r 0 0 :=
  CT_of (by decide) rfl (Nat.le_of_ble_eq_true rfl) (by decide) trivial (fun X hX hR => kX8_latest hX hM hW p0 a1 t0 hR hF)
/-! X8_deep -/
def fX8_deep_b12 (h : HH) (r : RR) (p0 : Nat) (a1 : Int32) (a2 : Int32) : Nat → Int32 → Int32 → Option (Int32)
  | 0, _, _ => none
  | n + 1, x3, x4 => if x4 = (-1) then (some (x3)) else (gd (inb a1 (lnM (r p0 4))) (gd (inb x4 (lnM (r (r p0 4) (ix a1)))) (lt (h (r (r p0 4) (ix a1)) (ix x4)) (fun y30 => fX8_deep_b12 h r p0 a1 a2 n (x3 + 1) y30))))
def fX8_deep (h : HH) (r : RR) (p0 : Nat) (a1 : Int32) (a2 : Int32) : Option (Int32) := gd (inb a1 (lnM (r p0 4))) (gd (inb a2 (lnM (r (r p0 4) (ix a1)))) (lt (h (r (r p0 4) (ix a1)) (ix a2)) (fun y10 => fX8_deep_b12 h r p0 a1 a2 lpF 0 y10)))
set_option maxRecDepth 100000 in
set_option maxHeartbeats 4000000 in
theorem kX8_deep_b12 {X : XT} {b N sz : Nat} {ok : Nat → Prop} {h : HH} {r : RR} {w : Int32} (hX : XOK X RX8 cX8_deep 5 1) (hM : N ≤ MM) (hW : WT KM lnM ok N r) (p0 : Nat) (a1 : Int32) (a2 : Int32) (t0 : KM p0 = 8 ∧ ok p0) (hR : XR X b KM lnM MM (some FieldType.int) 0 0 N sz (some (.int w)) h r) : ∀ (n : Nat) (x3 : Int32) (x4 : Int32), fX8_deep_b12 h r p0 a1 a2 n x3 x4 = some w → GX X b KM lnM MM 5 0 0 N sz 12 [(0, .ref (b + p0)), (1, .int a1), (2, .int a2), (3, .int x3), (4, .int x4)] [] h r := by
  intro n
  induction n with
  | zero =>
    intro x3 x4 hF
    cases hF
  | succ n ih =>
    intro x3 x4 hF
    rw [fX8_deep_b12] at hF
    refine g_iload hX dX8_deep_12 (j := 4) rfl ?_
    refine g_iconst (v := (-1)) hX dX8_deep_14 (by decide) ?_
    refine g_icmp_eq (tgt := 35) hX dX8_deep_15 (by decide) (fun c15 => ?_) (fun c15 => ?_)
    · have hF := ite_t hF c15
      refine g_iload_n hX dX8_deep_35 (i := 3) rfl (j := 3) rfl ?_
      obtain rfl := Option.some.inj hF
      exact g_iret hX dX8_deep_36 hR
    · have hF := ite_f hF c15
      refine g_iinc (L' := [(3, .int (x3 + 1)), (0, .ref (b + p0)), (1, .int a1), (2, .int a2), (4, .int x4)]) (j := 3) hX dX8_deep_18 rfl rfl (by decide) rfl ?_
      refine g_aload_n hX dX8_deep_21 (i := 0) rfl (j := 1) rfl ?_
      have tf22 := (tyF (k := 4) hW t0 (by decide) rfl (by decide) : KM (r p0 4) = 14 ∧ ok (r p0 4))
      refine gf_X8_20 hX dX8_deep_22 (ty1 hW t0) (hW.1 _ tf22.2).1 ?_
      refine g_iload_n hX dX8_deep_25 (i := 1) rfl (j := 2) rfl ?_
      obtain ⟨g26, hF⟩ := gd_some hF
      have ta26 : KM (r (r p0 4) (ix a1)) = 9 ∧ ok (r (r p0 4) (ix a1)) := tyA hW tf22 (by decide) rfl (by decide) g26
      refine g_aald hX dX8_deep_26 tf22.1 (by decide) (by decide) (hW.1 _ tf22.2).1 (hW.1 _ tf22.2).2 g26 (hW.1 _ ta26.2).1 ?_
      refine g_iload hX dX8_deep_27 (j := 4) rfl ?_
      obtain ⟨g29, hF⟩ := gd_some hF
      refine g_iald hX dX8_deep_29 ta26.1 (hW.1 _ ta26.2).1 (hW.1 _ ta26.2).2 g29 ?_
      obtain ⟨y30, e30, hF⟩ := lt_some hF
      refine g_topi e30 ?_
      refine g_istore (L' := [(4, .int y30), (3, .int (x3 + 1)), (0, .ref (b + p0)), (1, .int a1), (2, .int a2)]) hX dX8_deep_30 (by decide) rfl ?_
      refine g_goto (tgt := 12) hX dX8_deep_32 (by decide) ?_
      refine g_sub (L' := [(0, .ref (b + p0)), (1, .int a1), (2, .int a2), (3, .int (x3 + 1)), (4, .int y30)]) [2, 3, 4, 1, 0] rfl ?_
      exact ih (x3 + 1) y30 hF
set_option maxRecDepth 100000 in
set_option maxHeartbeats 4000000 in
theorem kX8_deep {X : XT} {b N sz : Nat} {ok : Nat → Prop} {h : HH} {r : RR} {w : Int32} (hX : XOK X RX8 cX8_deep 5 1) (hM : N ≤ MM) (hW : WT KM lnM ok N r) (p0 : Nat) (a1 : Int32) (a2 : Int32) (t0 : KM p0 = 8 ∧ ok p0) (hR : XR X b KM lnM MM (some FieldType.int) 0 0 N sz (some (.int w)) h r) (hF : fX8_deep h r p0 a1 a2 = some w) : GX X b KM lnM MM 5 0 0 N sz 0 [(0, .ref (b + p0)), (1, .int a1), (2, .int a2)] [] h r := by
  rw [fX8_deep] at hF
  refine g_iconst (v := 0) hX dX8_deep_0 (by decide) ?_
  refine g_istore_n (L' := [(3, .int 0), (0, .ref (b + p0)), (1, .int a1), (2, .int a2)]) hX dX8_deep_1 (i := 3) rfl (by decide) rfl ?_
  refine g_aload_n hX dX8_deep_2 (i := 0) rfl (j := 1) rfl ?_
  have tf3 := (tyF (k := 4) hW t0 (by decide) rfl (by decide) : KM (r p0 4) = 14 ∧ ok (r p0 4))
  refine gf_X8_20 hX dX8_deep_3 (ty1 hW t0) (hW.1 _ tf3.2).1 ?_
  refine g_iload_n hX dX8_deep_6 (i := 1) rfl (j := 2) rfl ?_
  obtain ⟨g7, hF⟩ := gd_some hF
  have ta7 : KM (r (r p0 4) (ix a1)) = 9 ∧ ok (r (r p0 4) (ix a1)) := tyA hW tf3 (by decide) rfl (by decide) g7
  refine g_aald hX dX8_deep_7 tf3.1 (by decide) (by decide) (hW.1 _ tf3.2).1 (hW.1 _ tf3.2).2 g7 (hW.1 _ ta7.2).1 ?_
  refine g_iload_n hX dX8_deep_8 (i := 2) rfl (j := 3) rfl ?_
  obtain ⟨g9, hF⟩ := gd_some hF
  refine g_iald hX dX8_deep_9 ta7.1 (hW.1 _ ta7.2).1 (hW.1 _ ta7.2).2 g9 ?_
  obtain ⟨y10, e10, hF⟩ := lt_some hF
  refine g_topi e10 ?_
  refine g_istore (L' := [(4, .int y10), (3, .int 0), (0, .ref (b + p0)), (1, .int a1), (2, .int a2)]) hX dX8_deep_10 (by decide) rfl ?_
  refine g_sub (L' := [(0, .ref (b + p0)), (1, .int a1), (2, .int a2), (3, .int 0), (4, .int y10)]) [2, 3, 4, 1, 0] rfl ?_
  exact kX8_deep_b12 hX hM hW p0 a1 a2 t0 hR lpF 0 y10 hF
theorem ctX8_deep {b N sz : Nat} {ok : Nat → Prop} {h : HH} {r : RR} {w : Int32} (hM : N ≤ MM) (hW : WT KM lnM ok N r) (p0 : Nat) (a1 : Int32) (a2 : Int32) (t0 : KM p0 = 8 ∧ ok p0) (hF : fX8_deep h r p0 a1 a2 = some w) : CT yX8_deep cX8_deep 5 (some FieldType.int) 1 b KM lnM MM N sz [.ref (b + p0), .int a1, .int a2] h r N sz (some (.int w)) h r 0 0 :=
  CT_of (by decide) rfl (Nat.le_of_ble_eq_true rfl) (by decide) trivial (fun X hX hR => kX8_deep hX hM hW p0 a1 a2 t0 hR hF)
/-! X8_inners -/
def fX8_inners_b28 (h : HH) (r : RR) (p0 : Nat) (a1 : Int32) (a2 : Int32) (k5 : Int32 → Int32 → Option (Int32)) (x3 : Int32) (x4 : Int32) : Option (Int32) := k5 x3 (x4 + 1)
def fX8_inners_b5 (h : HH) (r : RR) (p0 : Nat) (a1 : Int32) (a2 : Int32) : Nat → Int32 → Int32 → Option (Int32)
  | 0, _, _ => none
  | n + 1, x3, x4 => if (h p0 0) ≤ x4 then (some (x3)) else ((fX8_isInner h r p0 a1 x4 a2).bind (fun v19 => if v19 = 0 then (fX8_inners_b28 h r p0 a1 a2 (fun z3_ z4_ => fX8_inners_b5 h r p0 a1 a2 n z3_ z4_) x3 x4) else (fX8_inners_b28 h r p0 a1 a2 (fun z3_ z4_ => fX8_inners_b5 h r p0 a1 a2 n z3_ z4_) (x3 + 1) x4)))
def fX8_inners (h : HH) (r : RR) (p0 : Nat) (a1 : Int32) (a2 : Int32) : Option (Int32) := fX8_inners_b5 h r p0 a1 a2 lpF 0 0
set_option maxRecDepth 100000 in
set_option maxHeartbeats 4000000 in
theorem kX8_inners_b28 {X : XT} {b N sz : Nat} {ok : Nat → Prop} {h : HH} {r : RR} {w : Int32} (hX : XOK X RX8 cX8_inners 5 3) (hM : N ≤ MM) (hW : WT KM lnM ok N r) (p0 : Nat) (a1 : Int32) (a2 : Int32) (t0 : KM p0 = 8 ∧ ok p0) (hR : XR X b KM lnM MM (some FieldType.int) 0 0 N sz (some (.int w)) h r) (k5 : Int32 → Int32 → Option (Int32)) (hk5 : ∀ (x3 : Int32) (x4 : Int32), k5 x3 x4 = some w → GX X b KM lnM MM 5 0 0 N sz 5 [(0, .ref (b + p0)), (1, .int a1), (2, .int a2), (3, .int x3), (4, .int x4)] [] h r) (x3 : Int32) (x4 : Int32) (hF : fX8_inners_b28 h r p0 a1 a2 k5 x3 x4 = some w) : GX X b KM lnM MM 5 0 0 N sz 28 [(0, .ref (b + p0)), (1, .int a1), (2, .int a2), (3, .int x3), (4, .int x4)] [] h r := by
  rw [fX8_inners_b28] at hF
  refine g_iinc (L' := [(4, .int (x4 + 1)), (0, .ref (b + p0)), (1, .int a1), (2, .int a2), (3, .int x3)]) (j := 4) hX dX8_inners_28 rfl rfl (by decide) rfl ?_
  refine g_goto (tgt := 5) hX dX8_inners_31 (by decide) ?_
  refine g_sub (L' := [(0, .ref (b + p0)), (1, .int a1), (2, .int a2), (3, .int x3), (4, .int (x4 + 1))]) [1, 2, 3, 4, 0] rfl ?_
  exact hk5 x3 (x4 + 1) hF
set_option maxRecDepth 100000 in
set_option maxHeartbeats 4000000 in
theorem kX8_inners_b5 {X : XT} {b N sz : Nat} {ok : Nat → Prop} {h : HH} {r : RR} {w : Int32} (hX : XOK X RX8 cX8_inners 5 3) (hM : N ≤ MM) (hW : WT KM lnM ok N r) (p0 : Nat) (a1 : Int32) (a2 : Int32) (t0 : KM p0 = 8 ∧ ok p0) (hR : XR X b KM lnM MM (some FieldType.int) 0 0 N sz (some (.int w)) h r) : ∀ (n : Nat) (x3 : Int32) (x4 : Int32), fX8_inners_b5 h r p0 a1 a2 n x3 x4 = some w → GX X b KM lnM MM 5 0 0 N sz 5 [(0, .ref (b + p0)), (1, .int a1), (2, .int a2), (3, .int x3), (4, .int x4)] [] h r := by
  intro n
  induction n with
  | zero =>
    intro x3 x4 hF
    cases hF
  | succ n ih =>
    intro x3 x4 hF
    rw [fX8_inners_b5] at hF
    refine g_iload hX dX8_inners_5 (j := 4) rfl ?_
    refine g_aload_n hX dX8_inners_7 (i := 0) rfl (j := 0) rfl ?_
    refine gf_X8_130 hX dX8_inners_8 (ty1 hW t0) ?_
    refine g_icmp_ge (tgt := 34) hX dX8_inners_11 (by decide) (fun c11 => ?_) (fun c11 => ?_)
    · have hF := ite_t hF c11
      refine g_iload_n hX dX8_inners_34 (i := 3) rfl (j := 3) rfl ?_
      obtain rfl := Option.some.inj hF
      exact g_iret hX dX8_inners_35 hR
    · have hF := ite_f hF c11
      refine g_aload_n hX dX8_inners_14 (i := 0) rfl (j := 0) rfl ?_
      refine g_iload_n hX dX8_inners_15 (i := 1) rfl (j := 1) rfl ?_
      refine g_iload hX dX8_inners_16 (j := 4) rfl ?_
      refine g_iload_n hX dX8_inners_18 (i := 2) rfl (j := 2) rfl ?_
      obtain ⟨v19, e19, hF⟩ := bi_some hF
      refine g_callV (As := [.int a1, .int x4, .int a2]) (rest := []) (stk := [.int v19]) hX dX8_inners_19 (ctX8_isInner hM hW p0 a1 x4 a2 t0 e19) (by decide) (by decide) wm_X8_181 wi_X8_isInner ws_X8_isInner wz_X8 wc_X8_isInner hyX8_isInner rfl (ci := 8) rfl (by decide) t0.1 (hW.1 _ t0.2).1 (hW.1 _ t0.2).2 (Nat.le_of_ble_eq_true rfl) rfl rfl ?_ rfl rfl
      refine g_if_eq (tgt := 28) hX dX8_inners_22 (by decide) (fun c22 => ?_) (fun c22 => ?_)
      · have hF := ite_t hF c22
        refine g_sub (L' := [(0, .ref (b + p0)), (1, .int a1), (2, .int a2), (3, .int x3), (4, .int x4)]) [0, 1, 2, 3, 4] rfl ?_
        exact kX8_inners_b28 hX hM hW p0 a1 a2 t0 hR (fun z3_ z4_ => fX8_inners_b5 h r p0 a1 a2 n z3_ z4_) ih x3 x4 hF
      · have hF := ite_f hF c22
        refine g_iinc (L' := [(3, .int (x3 + 1)), (0, .ref (b + p0)), (1, .int a1), (2, .int a2), (4, .int x4)]) (j := 3) hX dX8_inners_25 rfl rfl (by decide) rfl ?_
        refine g_sub (L' := [(0, .ref (b + p0)), (1, .int a1), (2, .int a2), (3, .int (x3 + 1)), (4, .int x4)]) [1, 2, 3, 0, 4] rfl ?_
        exact kX8_inners_b28 hX hM hW p0 a1 a2 t0 hR (fun z3_ z4_ => fX8_inners_b5 h r p0 a1 a2 n z3_ z4_) ih (x3 + 1) x4 hF
set_option maxRecDepth 100000 in
set_option maxHeartbeats 4000000 in
theorem kX8_inners {X : XT} {b N sz : Nat} {ok : Nat → Prop} {h : HH} {r : RR} {w : Int32} (hX : XOK X RX8 cX8_inners 5 3) (hM : N ≤ MM) (hW : WT KM lnM ok N r) (p0 : Nat) (a1 : Int32) (a2 : Int32) (t0 : KM p0 = 8 ∧ ok p0) (hR : XR X b KM lnM MM (some FieldType.int) 0 0 N sz (some (.int w)) h r) (hF : fX8_inners h r p0 a1 a2 = some w) : GX X b KM lnM MM 5 0 0 N sz 0 [(0, .ref (b + p0)), (1, .int a1), (2, .int a2)] [] h r := by
  rw [fX8_inners] at hF
  refine g_iconst (v := 0) hX dX8_inners_0 (by decide) ?_
  refine g_istore_n (L' := [(3, .int 0), (0, .ref (b + p0)), (1, .int a1), (2, .int a2)]) hX dX8_inners_1 (i := 3) rfl (by decide) rfl ?_
  refine g_iconst (v := 0) hX dX8_inners_2 (by decide) ?_
  refine g_istore (L' := [(4, .int 0), (3, .int 0), (0, .ref (b + p0)), (1, .int a1), (2, .int a2)]) hX dX8_inners_3 (by decide) rfl ?_
  refine g_sub (L' := [(0, .ref (b + p0)), (1, .int a1), (2, .int a2), (3, .int 0), (4, .int 0)]) [2, 3, 4, 1, 0] rfl ?_
  exact kX8_inners_b5 hX hM hW p0 a1 a2 t0 hR lpF 0 0 hF
theorem ctX8_inners {b N sz : Nat} {ok : Nat → Prop} {h : HH} {r : RR} {w : Int32} (hM : N ≤ MM) (hW : WT KM lnM ok N r) (p0 : Nat) (a1 : Int32) (a2 : Int32) (t0 : KM p0 = 8 ∧ ok p0) (hF : fX8_inners h r p0 a1 a2 = some w) : CT yX8_inners cX8_inners 5 (some FieldType.int) 3 b KM lnM MM N sz [.ref (b + p0), .int a1, .int a2] h r N sz (some (.int w)) h r 0 0 :=
  CT_of (by decide) rfl (Nat.le_of_ble_eq_true rfl) (by decide) trivial (fun X hX hR => kX8_inners hX hM hW p0 a1 a2 t0 hR hF)
/-! X8_tellPath -/
def fX8_tellPath_b20 (r : RR) (p0 : Nat) (a1 : Int32) (a2 : Int32) : Nat → HH → Int32 → Int32 → Option (HH)
  | 0, _, _, _ => none
  | n + 1, h, x3, x4 => if x4 = (-1) then (some h) else (gd (inb a1 (lnM (r p0 5))) (gd (inb x4 (lnM (r (r p0 5) (ix a1)))) (gd (inb (x3 + (-1)) (lnM (r p0 23))) (lt (up h (r p0 23) (ix (x3 + (-1))) (h (r (r p0 5) (ix a1)) (ix x4))) (fun h43 => gd (inb a1 (lnM (r p0 4))) (gd (inb x4 (lnM (r (r p0 4) (ix a1)))) (lt (h43 (r (r p0 4) (ix a1)) (ix x4)) (fun y53 => fX8_tellPath_b20 r p0 a1 a2 n h43 (x3 + (-1)) y53))))))))
def fX8_tellPath (h : HH) (r : RR) (p0 : Nat) (a1 : Int32) (a2 : Int32) : Option (HH) := (fX8_deep h r p0 a1 a2).bind (fun v4 => lt (up h p0 22 (v4 + 1)) (fun h9 => lt (h9 p0 22) (fun y16 => fX8_tellPath_b20 r p0 a1 a2 lpF h9 y16 a2)))
set_option maxRecDepth 100000 in
set_option maxHeartbeats 4000000 in
theorem kX8_tellPath_b20 {X : XT} {b N sz : Nat} {ok : Nat → Prop} {r : RR} {w : HH} (hX : XOK X RX8 cX8_tellPath 5 2) (hM : N ≤ MM) (hW : WT KM lnM ok N r) (p0 : Nat) (a1 : Int32) (a2 : Int32) (t0 : KM p0 = 8 ∧ ok p0) (hR : XR X b KM lnM MM (none) 0 0 N sz none w r) : ∀ (n : Nat) (h : HH) (x3 : Int32) (x4 : Int32), fX8_tellPath_b20 r p0 a1 a2 n h x3 x4 = some w → GX X b KM lnM MM 5 0 0 N sz 20 [(0, .ref (b + p0)), (1, .int a1), (2, .int a2), (3, .int x3), (4, .int x4)] [] h r := by
  intro n
  induction n with
  | zero =>
    intro h x3 x4 hF
    cases hF
  | succ n ih =>
    intro h x3 x4 hF
    rw [fX8_tellPath_b20] at hF
    refine g_iload hX dX8_tellPath_20 (j := 4) rfl ?_
    refine g_iconst (v := (-1)) hX dX8_tellPath_22 (by decide) ?_
    refine g_icmp_eq (tgt := 58) hX dX8_tellPath_23 (by decide) (fun c23 => ?_) (fun c23 => ?_)
    · have hF := ite_t hF c23
      obtain rfl := Option.some.inj hF
      exact g_vret hX dX8_tellPath_58 hR
    · have hF := ite_f hF c23
      refine g_iinc (L' := [(3, .int (x3 + (-1))), (0, .ref (b + p0)), (1, .int a1), (2, .int a2), (4, .int x4)]) (j := 3) hX dX8_tellPath_26 rfl rfl (by decide) rfl ?_
      refine g_aload_n hX dX8_tellPath_29 (i := 0) rfl (j := 1) rfl ?_
      have tf30 := (tyF (k := 23) hW t0 (by decide) rfl (by decide) : KM (r p0 23) = 9 ∧ ok (r p0 23))
      refine gf_X8_49 hX dX8_tellPath_30 (ty1 hW t0) (hW.1 _ tf30.2).1 ?_
      refine g_iload_n hX dX8_tellPath_33 (i := 3) rfl (j := 0) rfl ?_
      refine g_aload_n hX dX8_tellPath_34 (i := 0) rfl (j := 1) rfl ?_
      have tf35 := (tyF (k := 5) hW t0 (by decide) rfl (by decide) : KM (r p0 5) = 14 ∧ ok (r p0 5))
      refine gf_X8_23 hX dX8_tellPath_35 (ty1 hW t0) (hW.1 _ tf35.2).1 ?_
      refine g_iload_n hX dX8_tellPath_38 (i := 1) rfl (j := 2) rfl ?_
      obtain ⟨g39, hF⟩ := gd_some hF
      have ta39 : KM (r (r p0 5) (ix a1)) = 9 ∧ ok (r (r p0 5) (ix a1)) := tyA hW tf35 (by decide) rfl (by decide) g39
      refine g_aald hX dX8_tellPath_39 tf35.1 (by decide) (by decide) (hW.1 _ tf35.2).1 (hW.1 _ tf35.2).2 g39 (hW.1 _ ta39.2).1 ?_
      refine g_iload hX dX8_tellPath_40 (j := 4) rfl ?_
      obtain ⟨g42, hF⟩ := gd_some hF
      refine g_iald hX dX8_tellPath_42 ta39.1 (hW.1 _ ta39.2).1 (hW.1 _ ta39.2).2 g42 ?_
      obtain ⟨g43, hF⟩ := gd_some hF
      obtain ⟨h43, e43, hF⟩ := lt_some hF
      refine g_iast hX dX8_tellPath_43 tf30.1 (hW.1 _ tf30.2).1 (hW.1 _ tf30.2).2 hM g43 e43 ?_
      refine g_aload_n hX dX8_tellPath_44 (i := 0) rfl (j := 1) rfl ?_
      have tf45 := (tyF (k := 4) hW t0 (by decide) rfl (by decide) : KM (r p0 4) = 14 ∧ ok (r p0 4))
      refine gf_X8_20 hX dX8_tellPath_45 (ty1 hW t0) (hW.1 _ tf45.2).1 ?_
      refine g_iload_n hX dX8_tellPath_48 (i := 1) rfl (j := 2) rfl ?_
      obtain ⟨g49, hF⟩ := gd_some hF
      have ta49 : KM (r (r p0 4) (ix a1)) = 9 ∧ ok (r (r p0 4) (ix a1)) := tyA hW tf45 (by decide) rfl (by decide) g49
      refine g_aald hX dX8_tellPath_49 tf45.1 (by decide) (by decide) (hW.1 _ tf45.2).1 (hW.1 _ tf45.2).2 g49 (hW.1 _ ta49.2).1 ?_
      refine g_iload hX dX8_tellPath_50 (j := 4) rfl ?_
      obtain ⟨g52, hF⟩ := gd_some hF
      refine g_iald hX dX8_tellPath_52 ta49.1 (hW.1 _ ta49.2).1 (hW.1 _ ta49.2).2 g52 ?_
      obtain ⟨y53, e53, hF⟩ := lt_some hF
      refine g_topi e53 ?_
      refine g_istore (L' := [(4, .int y53), (3, .int (x3 + (-1))), (0, .ref (b + p0)), (1, .int a1), (2, .int a2)]) hX dX8_tellPath_53 (by decide) rfl ?_
      refine g_goto (tgt := 20) hX dX8_tellPath_55 (by decide) ?_
      refine g_sub (L' := [(0, .ref (b + p0)), (1, .int a1), (2, .int a2), (3, .int (x3 + (-1))), (4, .int y53)]) [2, 3, 4, 1, 0] rfl ?_
      exact ih h43 (x3 + (-1)) y53 hF
set_option maxRecDepth 100000 in
set_option maxHeartbeats 4000000 in
theorem kX8_tellPath {X : XT} {b N sz : Nat} {ok : Nat → Prop} {h : HH} {r : RR} {w : HH} (hX : XOK X RX8 cX8_tellPath 5 2) (hM : N ≤ MM) (hW : WT KM lnM ok N r) (p0 : Nat) (a1 : Int32) (a2 : Int32) (t0 : KM p0 = 8 ∧ ok p0) (hR : XR X b KM lnM MM (none) 0 0 N sz none w r) (hF : fX8_tellPath h r p0 a1 a2 = some w) : GX X b KM lnM MM 5 0 0 N sz 0 [(0, .ref (b + p0)), (1, .int a1), (2, .int a2)] [] h r := by
  rw [fX8_tellPath] at hF
  refine g_aload_n hX dX8_tellPath_0 (i := 0) rfl (j := 0) rfl ?_
  refine g_aload_n hX dX8_tellPath_1 (i := 0) rfl (j := 0) rfl ?_
  refine g_iload_n hX dX8_tellPath_2 (i := 1) rfl (j := 1) rfl ?_
  refine g_iload_n hX dX8_tellPath_3 (i := 2) rfl (j := 2) rfl ?_
  obtain ⟨v4, e4, hF⟩ := bi_some hF
  refine g_callV (As := [.int a1, .int a2]) (rest := [.ref (b + p0)]) (stk := [.int v4, .ref (b + p0)]) hX dX8_tellPath_4 (ctX8_deep hM hW p0 a1 a2 t0 e4) (by decide) (by decide) wm_X8_193 wi_X8_deep ws_X8_deep wz_X8 wc_X8_deep hyX8_deep rfl (ci := 8) rfl (by decide) t0.1 (hW.1 _ t0.2).1 (hW.1 _ t0.2).2 (Nat.le_of_ble_eq_true rfl) rfl rfl ?_ rfl rfl
  refine g_iconst (v := 1) hX dX8_tellPath_7 (by decide) ?_
  refine g_iadd hX dX8_tellPath_8 ?_
  obtain ⟨h9, e9, hF⟩ := lt_some hF
  refine pf_X8_239 hX dX8_tellPath_9 (ty1 hW t0) hM e9 ?_
  refine g_aload_n hX dX8_tellPath_12 (i := 0) rfl (j := 0) rfl ?_
  refine gf_X8_239 hX dX8_tellPath_13 (ty1 hW t0) ?_
  obtain ⟨y16, e16, hF⟩ := lt_some hF
  refine g_topi e16 ?_
  refine g_istore_n (L' := [(3, .int y16), (0, .ref (b + p0)), (1, .int a1), (2, .int a2)]) hX dX8_tellPath_16 (i := 3) rfl (by decide) rfl ?_
  refine g_iload_n hX dX8_tellPath_17 (i := 2) rfl (j := 3) rfl ?_
  refine g_istore (L' := [(4, .int a2), (3, .int y16), (0, .ref (b + p0)), (1, .int a1), (2, .int a2)]) hX dX8_tellPath_18 (by decide) rfl ?_
  refine g_sub (L' := [(0, .ref (b + p0)), (1, .int a1), (2, .int a2), (3, .int y16), (4, .int a2)]) [2, 3, 4, 1, 0] rfl ?_
  exact kX8_tellPath_b20 hX hM hW p0 a1 a2 t0 hR lpF h9 y16 a2 hF
theorem ctX8_tellPath {b N sz : Nat} {ok : Nat → Prop} {h : HH} {r : RR} {w : HH} (hM : N ≤ MM) (hW : WT KM lnM ok N r) (p0 : Nat) (a1 : Int32) (a2 : Int32) (t0 : KM p0 = 8 ∧ ok p0) (hF : fX8_tellPath h r p0 a1 a2 = some w) : CT yX8_tellPath cX8_tellPath 5 (none) 2 b KM lnM MM N sz [.ref (b + p0), .int a1, .int a2] h r N sz none w r 0 0 :=
  CT_of (by decide) rfl (Nat.le_of_ble_eq_true rfl) (by decide) trivial (fun X hX hR => kX8_tellPath hX hM hW p0 a1 a2 t0 hR hF)
/-! X8_doesMatch -/
def fX8_doesMatch_b24 (r : RR) (p0 : Nat) (a1 : Int32) (k2 : HH → Int32 → Option (Int32 × HH)) (h : HH) (u0 : Nat) (s1 : Int32) (s2 : Int32) (x2 : Int32) : Option (Int32 × HH) := gd (inb s1 (lnM u0)) (lt (up h u0 (ix s1) (zn s2)) (fun h24 => k2 h24 (x2 + 1)))
def fX8_doesMatch_b162 (r : RR) (p0 : Nat) (a1 : Int32) (k33 : HH → Int32 → Option (Int32 × HH)) (h : HH) (x2 : Int32) : Option (Int32 × HH) := k33 h (x2 + 1)
def fX8_doesMatch_b61 (r : RR) (p0 : Nat) (a1 : Int32) (k33 : HH → Int32 → Option (Int32 × HH)) : Nat → HH → Int32 → Int32 → Option (Int32 × HH)
  | 0, _, _, _ => none
  | n + 1, h, x2, x4 => if (h p0 22) < x4 then (fX8_doesMatch_b162 r p0 a1 k33 h x2) else (gd (inb x4 (lnM (r p0 24))) (gd (inb (x4 - 1) (lnM (r p0 24))) (gd (inb x4 (lnM (r p0 24))) (lt (up h (r p0 24) (ix x4) (zn ((h (r p0 24) (ix x4)) ||| (h (r p0 24) (ix (x4 - 1)))))) (fun h88 => fX8_doesMatch_b61 r p0 a1 k33 n h88 x2 (x4 + 1))))))
def fX8_doesMatch_b155 (r : RR) (p0 : Nat) (a1 : Int32) (k33 : HH → Int32 → Option (Int32 × HH)) (k104 : HH → Int32 → Int32 → Int32 → Option (Int32 × HH)) (h : HH) (u0 : Nat) (s1 : Int32) (s2 : Int32) (x2 : Int32) (x3 : Int32) (x4 : Int32) : Option (Int32 × HH) := gd (inb s1 (lnM u0)) (lt (up h u0 (ix s1) (zn s2)) (fun h155 => k104 h155 x2 x3 (x4 + (-1))))
def fX8_doesMatch_b154 (r : RR) (p0 : Nat) (a1 : Int32) (k33 : HH → Int32 → Option (Int32 × HH)) (k104 : HH → Int32 → Int32 → Int32 → Option (Int32 × HH)) (h : HH) (u0 : Nat) (s1 : Int32) (x2 : Int32) (x3 : Int32) (x4 : Int32) : Option (Int32 × HH) := fX8_doesMatch_b155 r p0 a1 k33 k104 h u0 s1 0 x2 x3 x4
def fX8_doesMatch_b150 (r : RR) (p0 : Nat) (a1 : Int32) (k33 : HH → Int32 → Option (Int32 × HH)) (k104 : HH → Int32 → Int32 → Int32 → Option (Int32 × HH)) (h : HH) (u0 : Nat) (s1 : Int32) (x2 : Int32) (x3 : Int32) (x4 : Int32) : Option (Int32 × HH) := fX8_doesMatch_b155 r p0 a1 k33 k104 h u0 s1 1 x2 x3 x4
def fX8_doesMatch_b104 (r : RR) (p0 : Nat) (a1 : Int32) (k33 : HH → Int32 → Option (Int32 × HH)) : Nat → HH → Int32 → Int32 → Int32 → Option (Int32 × HH)
  | 0, _, _, _, _ => none
  | n + 1, h, x2, x3, x4 => if x4 < 0 then (fX8_doesMatch_b162 r p0 a1 k33 h x2) else (if x4 ≤ 0 then (fX8_doesMatch_b154 r p0 a1 k33 (fun h_ z2_ z3_ z4_ => fX8_doesMatch_b104 r p0 a1 k33 n h_ z2_ z3_ z4_) h (r p0 24) x4 x2 x3 x4) else (gd (inb (x4 - 1) (lnM (r p0 24))) (if (h (r p0 24) (ix (x4 - 1))) = 0 then (fX8_doesMatch_b154 r p0 a1 k33 (fun h_ z2_ z3_ z4_ => fX8_doesMatch_b104 r p0 a1 k33 n h_ z2_ z3_ z4_) h (r p0 24) x4 x2 x3 x4) else (if x3 = (-1) then (fX8_doesMatch_b150 r p0 a1 k33 (fun h_ z2_ z3_ z4_ => fX8_doesMatch_b104 r p0 a1 k33 n h_ z2_ z3_ z4_) h (r p0 24) x4 x2 x3 x4) else (gd (inb (x4 - 1) (lnM (r p0 23))) (if ¬ x3 = (h (r p0 23) (ix (x4 - 1))) then (fX8_doesMatch_b154 r p0 a1 k33 (fun h_ z2_ z3_ z4_ => fX8_doesMatch_b104 r p0 a1 k33 n h_ z2_ z3_ z4_) h (r p0 24) x4 x2 x3 x4) else (fX8_doesMatch_b150 r p0 a1 k33 (fun h_ z2_ z3_ z4_ => fX8_doesMatch_b104 r p0 a1 k33 n h_ z2_ z3_ z4_) h (r p0 24) x4 x2 x3 x4)))))))
def fX8_doesMatch_b33 (r : RR) (p0 : Nat) (a1 : Int32) : Nat → HH → Int32 → Option (Int32 × HH)
  | 0, _, _ => none
  | n + 1, h, x2 => gd (inb a1 (lnM (r p0 13))) (if (h (r p0 13) (ix a1)) ≤ x2 then (gd (inb (h p0 22) (lnM (r p0 24))) (bz (h (r p0 24) (ix (h p0 22))) (some (h (r p0 24) (ix (h p0 22)), h)))) else (gd (inb a1 (lnM (r p0 14))) (gd (inb x2 (lnM (r (r p0 14) (ix a1)))) (lt (h (r (r p0 14) (ix a1)) (ix x2)) (fun y51 => if ¬ y51 = (-2) then (lt (h p0 22) (fun y102 => fX8_doesMatch_b104 r p0 a1 (fun h_ z2_ => fX8_doesMatch_b33 r p0 a1 n h_ z2_) lpF h x2 y51 y102)) else (fX8_doesMatch_b61 r p0 a1 (fun h_ z2_ => fX8_doesMatch_b33 r p0 a1 n h_ z2_) lpF h x2 1))))))
def fX8_doesMatch_b2 (r : RR) (p0 : Nat) (a1 : Int32) : Nat → HH → Int32 → Option (Int32 × HH)
  | 0, _, _ => none
  | n + 1, h, x2 => if (h p0 22) < x2 then (fX8_doesMatch_b33 r p0 a1 lpF h 0) else (if ¬ x2 = 0 then (fX8_doesMatch_b24 r p0 a1 (fun h_ z2_ => fX8_doesMatch_b2 r p0 a1 n h_ z2_) h (r p0 24) x2 0 x2) else (fX8_doesMatch_b24 r p0 a1 (fun h_ z2_ => fX8_doesMatch_b2 r p0 a1 n h_ z2_) h (r p0 24) x2 1 x2))
def fX8_doesMatch (h : HH) (r : RR) (p0 : Nat) (a1 : Int32) : Option (Int32 × HH) := fX8_doesMatch_b2 r p0 a1 lpF h 0
set_option maxRecDepth 100000 in
set_option maxHeartbeats 4000000 in
theorem kX8_doesMatch_b24 {X : XT} {b N sz : Nat} {ok : Nat → Prop} {r : RR} {w : Int32 × HH} (hX : XOK X RX8 cX8_doesMatch 5 1) (hM : N ≤ MM) (hW : WT KM lnM ok N r) (p0 : Nat) (a1 : Int32) (t0 : KM p0 = 8 ∧ ok p0) (hR : XR X b KM lnM MM (some FieldType.boolean) 0 0 N sz (some (.int w.1)) w.2 r) (k2 : HH → Int32 → Option (Int32 × HH)) (hk2 : ∀ (h : HH) (x2 : Int32), k2 h x2 = some w → GX X b KM lnM MM 5 0 0 N sz 2 [(0, .ref (b + p0)), (1, .int a1), (2, .int x2)] [] h r) (h : HH) (u0 : Nat) (s1 : Int32) (s2 : Int32) (x2 : Int32) (ts0 : KM u0 = 10 ∧ ok u0) (hF : fX8_doesMatch_b24 r p0 a1 k2 h u0 s1 s2 x2 = some w) : GX X b KM lnM MM 5 0 0 N sz 24 [(0, .ref (b + p0)), (1, .int a1), (2, .int x2)] [.int s2, .int s1, .ref (b + u0)] h r := by
  rw [fX8_doesMatch_b24] at hF
  obtain ⟨g24, hF⟩ := gd_some hF
  obtain ⟨h24, e24, hF⟩ := lt_some hF
  refine g_bast hX dX8_doesMatch_24 ts0.1 (hW.1 _ ts0.2).1 (hW.1 _ ts0.2).2 hM g24 e24 ?_
  refine g_iinc (L' := [(2, .int (x2 + 1)), (0, .ref (b + p0)), (1, .int a1)]) (j := 2) hX dX8_doesMatch_25 rfl rfl (by decide) rfl ?_
  refine g_goto (tgt := 2) hX dX8_doesMatch_28 (by decide) ?_
  refine g_sub (L' := [(0, .ref (b + p0)), (1, .int a1), (2, .int (x2 + 1))]) [1, 2, 0] rfl ?_
  exact hk2 h24 (x2 + 1) hF
set_option maxRecDepth 100000 in
set_option maxHeartbeats 4000000 in
theorem kX8_doesMatch_b162 {X : XT} {b N sz : Nat} {ok : Nat → Prop} {r : RR} {w : Int32 × HH} (hX : XOK X RX8 cX8_doesMatch 5 1) (hM : N ≤ MM) (hW : WT KM lnM ok N r) (p0 : Nat) (a1 : Int32) (t0 : KM p0 = 8 ∧ ok p0) (hR : XR X b KM lnM MM (some FieldType.boolean) 0 0 N sz (some (.int w.1)) w.2 r) (k33 : HH → Int32 → Option (Int32 × HH)) (hk33 : ∀ (h : HH) (x2 : Int32), k33 h x2 = some w → GX X b KM lnM MM 5 0 0 N sz 33 [(0, .ref (b + p0)), (1, .int a1), (2, .int x2)] [] h r) (h : HH) (x2 : Int32) (hF : fX8_doesMatch_b162 r p0 a1 k33 h x2 = some w) : GX X b KM lnM MM 5 0 0 N sz 162 [(0, .ref (b + p0)), (1, .int a1), (2, .int x2)] [] h r := by
  rw [fX8_doesMatch_b162] at hF
  refine g_iinc (L' := [(2, .int (x2 + 1)), (0, .ref (b + p0)), (1, .int a1)]) (j := 2) hX dX8_doesMatch_162 rfl rfl (by decide) rfl ?_
  refine g_goto (tgt := 33) hX dX8_doesMatch_165 (by decide) ?_
  refine g_sub (L' := [(0, .ref (b + p0)), (1, .int a1), (2, .int (x2 + 1))]) [1, 2, 0] rfl ?_
  exact hk33 h (x2 + 1) hF
set_option maxRecDepth 100000 in
set_option maxHeartbeats 4000000 in
theorem kX8_doesMatch_b61 {X : XT} {b N sz : Nat} {ok : Nat → Prop} {r : RR} {w : Int32 × HH} (hX : XOK X RX8 cX8_doesMatch 5 1) (hM : N ≤ MM) (hW : WT KM lnM ok N r) (p0 : Nat) (a1 : Int32) (t0 : KM p0 = 8 ∧ ok p0) (hR : XR X b KM lnM MM (some FieldType.boolean) 0 0 N sz (some (.int w.1)) w.2 r) (k33 : HH → Int32 → Option (Int32 × HH)) (hk33 : ∀ (h : HH) (x2 : Int32), k33 h x2 = some w → GX X b KM lnM MM 5 0 0 N sz 33 [(0, .ref (b + p0)), (1, .int a1), (2, .int x2)] [] h r) : ∀ (n : Nat) (h : HH) (x2 : Int32) (x4 : Int32), fX8_doesMatch_b61 r p0 a1 k33 n h x2 x4 = some w → GX X b KM lnM MM 5 0 0 N sz 61 [(0, .ref (b + p0)), (1, .int a1), (2, .int x2), (4, .int x4)] [] h r := by
  intro n
  induction n with
  | zero =>
    intro h x2 x4 hF
    cases hF
  | succ n ih =>
    intro h x2 x4 hF
    rw [fX8_doesMatch_b61] at hF
    refine g_iload hX dX8_doesMatch_61 (j := 3) rfl ?_
    refine g_aload_n hX dX8_doesMatch_63 (i := 0) rfl (j := 0) rfl ?_
    refine gf_X8_239 hX dX8_doesMatch_64 (ty1 hW t0) ?_
    refine g_icmp_gt (tgt := 95) hX dX8_doesMatch_67 (by decide) (fun c67 => ?_) (fun c67 => ?_)
    · have hF := ite_t hF c67
      refine g_goto (tgt := 162) hX dX8_doesMatch_95 (by decide) ?_
      refine g_sub (L' := [(0, .ref (b + p0)), (1, .int a1), (2, .int x2)]) [0, 1, 2] rfl ?_
      exact kX8_doesMatch_b162 hX hM hW p0 a1 t0 hR k33 hk33 h x2 hF
    · have hF := ite_f hF c67
      refine g_aload_n hX dX8_doesMatch_70 (i := 0) rfl (j := 0) rfl ?_
      have tf71 := (tyF (k := 24) hW t0 (by decide) rfl (by decide) : KM (r p0 24) = 10 ∧ ok (r p0 24))
      refine gf_X8_52 hX dX8_doesMatch_71 (ty1 hW t0) (hW.1 _ tf71.2).1 ?_
      refine g_iload hX dX8_doesMatch_74 (j := 3) rfl ?_
      refine g_dup2 hX dX8_doesMatch_76 rfl rfl ?_
      obtain ⟨g77, hF⟩ := gd_some hF
      refine g_bald hX dX8_doesMatch_77 tf71.1 (hW.1 _ tf71.2).1 (hW.1 _ tf71.2).2 g77 ?_
      refine g_aload_n hX dX8_doesMatch_78 (i := 0) rfl (j := 0) rfl ?_
      have tf79 := (tyF (k := 24) hW t0 (by decide) rfl (by decide) : KM (r p0 24) = 10 ∧ ok (r p0 24))
      refine gf_X8_52 hX dX8_doesMatch_79 (ty1 hW t0) (hW.1 _ tf79.2).1 ?_
      refine g_iload hX dX8_doesMatch_82 (j := 3) rfl ?_
      refine g_iconst (v := 1) hX dX8_doesMatch_84 (by decide) ?_
      refine g_isub hX dX8_doesMatch_85 ?_
      obtain ⟨g86, hF⟩ := gd_some hF
      refine g_bald hX dX8_doesMatch_86 tf79.1 (hW.1 _ tf79.2).1 (hW.1 _ tf79.2).2 g86 ?_
      refine g_ior hX dX8_doesMatch_87 ?_
      obtain ⟨g88, hF⟩ := gd_some hF
      obtain ⟨h88, e88, hF⟩ := lt_some hF
      refine g_bast hX dX8_doesMatch_88 tf71.1 (hW.1 _ tf71.2).1 (hW.1 _ tf71.2).2 hM g88 e88 ?_
      refine g_iinc (L' := [(4, .int (x4 + 1)), (0, .ref (b + p0)), (1, .int a1), (2, .int x2)]) (j := 3) hX dX8_doesMatch_89 rfl rfl (by decide) rfl ?_
      refine g_goto (tgt := 61) hX dX8_doesMatch_92 (by decide) ?_
      refine g_sub (L' := [(0, .ref (b + p0)), (1, .int a1), (2, .int x2), (4, .int (x4 + 1))]) [1, 2, 3, 0] rfl ?_
      exact ih h88 x2 (x4 + 1) hF
set_option maxRecDepth 100000 in
set_option maxHeartbeats 4000000 in
theorem kX8_doesMatch_b155 {X : XT} {b N sz : Nat} {ok : Nat → Prop} {r : RR} {w : Int32 × HH} (hX : XOK X RX8 cX8_doesMatch 5 1) (hM : N ≤ MM) (hW : WT KM lnM ok N r) (p0 : Nat) (a1 : Int32) (t0 : KM p0 = 8 ∧ ok p0) (hR : XR X b KM lnM MM (some FieldType.boolean) 0 0 N sz (some (.int w.1)) w.2 r) (k33 : HH → Int32 → Option (Int32 × HH)) (hk33 : ∀ (h : HH) (x2 : Int32), k33 h x2 = some w → GX X b KM lnM MM 5 0 0 N sz 33 [(0, .ref (b + p0)), (1, .int a1), (2, .int x2)] [] h r) (k104 : HH → Int32 → Int32 → Int32 → Option (Int32 × HH)) (hk104 : ∀ (h : HH) (x2 : Int32) (x3 : Int32) (x4 : Int32), k104 h x2 x3 x4 = some w → GX X b KM lnM MM 5 0 0 N sz 104 [(0, .ref (b + p0)), (1, .int a1), (2, .int x2), (3, .int x3), (4, .int x4)] [] h r) (h : HH) (u0 : Nat) (s1 : Int32) (s2 : Int32) (x2 : Int32) (x3 : Int32) (x4 : Int32) (ts0 : KM u0 = 10 ∧ ok u0) (hF : fX8_doesMatch_b155 r p0 a1 k33 k104 h u0 s1 s2 x2 x3 x4 = some w) : GX X b KM lnM MM 5 0 0 N sz 155 [(0, .ref (b + p0)), (1, .int a1), (2, .int x2), (3, .int x3), (4, .int x4)] [.int s2, .int s1, .ref (b + u0)] h r := by
  rw [fX8_doesMatch_b155] at hF
  obtain ⟨g155, hF⟩ := gd_some hF
  obtain ⟨h155, e155, hF⟩ := lt_some hF
  refine g_bast hX dX8_doesMatch_155 ts0.1 (hW.1 _ ts0.2).1 (hW.1 _ ts0.2).2 hM g155 e155 ?_
  refine g_iinc (L' := [(4, .int (x4 + (-1))), (0, .ref (b + p0)), (1, .int a1), (2, .int x2), (3, .int x3)]) (j := 4) hX dX8_doesMatch_156 rfl rfl (by decide) rfl ?_
  refine g_goto (tgt := 104) hX dX8_doesMatch_159 (by decide) ?_
  refine g_sub (L' := [(0, .ref (b + p0)), (1, .int a1), (2, .int x2), (3, .int x3), (4, .int (x4 + (-1)))]) [1, 2, 3, 4, 0] rfl ?_
  exact hk104 h155 x2 x3 (x4 + (-1)) hF
set_option maxRecDepth 100000 in
set_option maxHeartbeats 4000000 in
theorem kX8_doesMatch_b154 {X : XT} {b N sz : Nat} {ok : Nat → Prop} {r : RR} {w : Int32 × HH} (hX : XOK X RX8 cX8_doesMatch 5 1) (hM : N ≤ MM) (hW : WT KM lnM ok N r) (p0 : Nat) (a1 : Int32) (t0 : KM p0 = 8 ∧ ok p0) (hR : XR X b KM lnM MM (some FieldType.boolean) 0 0 N sz (some (.int w.1)) w.2 r) (k33 : HH → Int32 → Option (Int32 × HH)) (hk33 : ∀ (h : HH) (x2 : Int32), k33 h x2 = some w → GX X b KM lnM MM 5 0 0 N sz 33 [(0, .ref (b + p0)), (1, .int a1), (2, .int x2)] [] h r) (k104 : HH → Int32 → Int32 → Int32 → Option (Int32 × HH)) (hk104 : ∀ (h : HH) (x2 : Int32) (x3 : Int32) (x4 : Int32), k104 h x2 x3 x4 = some w → GX X b KM lnM MM 5 0 0 N sz 104 [(0, .ref (b + p0)), (1, .int a1), (2, .int x2), (3, .int x3), (4, .int x4)] [] h r) (h : HH) (u0 : Nat) (s1 : Int32) (x2 : Int32) (x3 : Int32) (x4 : Int32) (ts0 : KM u0 = 10 ∧ ok u0) (hF : fX8_doesMatch_b154 r p0 a1 k33 k104 h u0 s1 x2 x3 x4 = some w) : GX X b KM lnM MM 5 0 0 N sz 154 [(0, .ref (b + p0)), (1, .int a1), (2, .int x2), (3, .int x3), (4, .int x4)] [.int s1, .ref (b + u0)] h r := by
  rw [fX8_doesMatch_b154] at hF
  refine g_iconst (v := 0) hX dX8_doesMatch_154 (by decide) ?_
  refine g_sub (L' := [(0, .ref (b + p0)), (1, .int a1), (2, .int x2), (3, .int x3), (4, .int x4)]) [0, 1, 2, 3, 4] rfl ?_
  exact kX8_doesMatch_b155 hX hM hW p0 a1 t0 hR k33 hk33 k104 hk104 h u0 s1 0 x2 x3 x4 ts0 hF
set_option maxRecDepth 100000 in
set_option maxHeartbeats 4000000 in
theorem kX8_doesMatch_b150 {X : XT} {b N sz : Nat} {ok : Nat → Prop} {r : RR} {w : Int32 × HH} (hX : XOK X RX8 cX8_doesMatch 5 1) (hM : N ≤ MM) (hW : WT KM lnM ok N r) (p0 : Nat) (a1 : Int32) (t0 : KM p0 = 8 ∧ ok p0) (hR : XR X b KM lnM MM (some FieldType.boolean) 0 0 N sz (some (.int w.1)) w.2 r) (k33 : HH → Int32 → Option (Int32 × HH)) (hk33 : ∀ (h : HH) (x2 : Int32), k33 h x2 = some w → GX X b KM lnM MM 5 0 0 N sz 33 [(0, .ref (b + p0)), (1, .int a1), (2, .int x2)] [] h r) (k104 : HH → Int32 → Int32 → Int32 → Option (Int32 × HH)) (hk104 : ∀ (h : HH) (x2 : Int32) (x3 : Int32) (x4 : Int32), k104 h x2 x3 x4 = some w → GX X b KM lnM MM 5 0 0 N sz 104 [(0, .ref (b + p0)), (1, .int a1), (2, .int x2), (3, .int x3), (4, .int x4)] [] h r) (h : HH) (u0 : Nat) (s1 : Int32) (x2 : Int32) (x3 : Int32) (x4 : Int32) (ts0 : KM u0 = 10 ∧ ok u0) (hF : fX8_doesMatch_b150 r p0 a1 k33 k104 h u0 s1 x2 x3 x4 = some w) : GX X b KM lnM MM 5 0 0 N sz 150 [(0, .ref (b + p0)), (1, .int a1), (2, .int x2), (3, .int x3), (4, .int x4)] [.int s1, .ref (b + u0)] h r := by
  rw [fX8_doesMatch_b150] at hF
  refine g_iconst (v := 1) hX dX8_doesMatch_150 (by decide) ?_
  refine g_goto (tgt := 155) hX dX8_doesMatch_151 (by decide) ?_
  refine g_sub (L' := [(0, .ref (b + p0)), (1, .int a1), (2, .int x2), (3, .int x3), (4, .int x4)]) [0, 1, 2, 3, 4] rfl ?_
  exact kX8_doesMatch_b155 hX hM hW p0 a1 t0 hR k33 hk33 k104 hk104 h u0 s1 1 x2 x3 x4 ts0 hF
set_option maxRecDepth 100000 in
set_option maxHeartbeats 4000000 in
theorem kX8_doesMatch_b104 {X : XT} {b N sz : Nat} {ok : Nat → Prop} {r : RR} {w : Int32 × HH} (hX : XOK X RX8 cX8_doesMatch 5 1) (hM : N ≤ MM) (hW : WT KM lnM ok N r) (p0 : Nat) (a1 : Int32) (t0 : KM p0 = 8 ∧ ok p0) (hR : XR X b KM lnM MM (some FieldType.boolean) 0 0 N sz (some (.int w.1)) w.2 r) (k33 : HH → Int32 → Option (Int32 × HH)) (hk33 : ∀ (h : HH) (x2 : Int32), k33 h x2 = some w → GX X b KM lnM MM 5 0 0 N sz 33 [(0, .ref (b + p0)), (1, .int a1), (2, .int x2)] [] h r) : ∀ (n : Nat) (h : HH) (x2 : Int32) (x3 : Int32) (x4 : Int32), fX8_doesMatch_b104 r p0 a1 k33 n h x2 x3 x4 = some w → GX X b KM lnM MM 5 0 0 N sz 104 [(0, .ref (b + p0)), (1, .int a1), (2, .int x2), (3, .int x3), (4, .int x4)] [] h r := by
  intro n
  induction n with
  | zero =>
    intro h x2 x3 x4 hF
    cases hF
  | succ n ih =>
    intro h x2 x3 x4 hF
    rw [fX8_doesMatch_b104] at hF
    refine g_iload hX dX8_doesMatch_104 (j := 4) rfl ?_
    refine g_if_lt (tgt := 162) hX dX8_doesMatch_106 (by decide) (fun c106 => ?_) (fun c106 => ?_)
    · have hF := ite_t hF c106
      refine g_sub (L' := [(0, .ref (b + p0)), (1, .int a1), (2, .int x2)]) [0, 1, 2] rfl ?_
      exact kX8_doesMatch_b162 hX hM hW p0 a1 t0 hR k33 hk33 h x2 hF
    · have hF := ite_f hF c106
      refine g_aload_n hX dX8_doesMatch_109 (i := 0) rfl (j := 0) rfl ?_
      have tf110 := (tyF (k := 24) hW t0 (by decide) rfl (by decide) : KM (r p0 24) = 10 ∧ ok (r p0 24))
      refine gf_X8_52 hX dX8_doesMatch_110 (ty1 hW t0) (hW.1 _ tf110.2).1 ?_
      refine g_iload hX dX8_doesMatch_113 (j := 4) rfl ?_
      refine g_iload hX dX8_doesMatch_115 (j := 4) rfl ?_
      refine g_if_le (tgt := 154) hX dX8_doesMatch_117 (by decide) (fun c117 => ?_) (fun c117 => ?_)
      · have hF := ite_t hF c117
        refine g_sub (L' := [(0, .ref (b + p0)), (1, .int a1), (2, .int x2), (3, .int x3), (4, .int x4)]) [0, 1, 2, 3, 4] rfl ?_
        exact kX8_doesMatch_b154 hX hM hW p0 a1 t0 hR k33 hk33 (fun h_ z2_ z3_ z4_ => fX8_doesMatch_b104 r p0 a1 k33 n h_ z2_ z3_ z4_) ih h (r p0 24) x4 x2 x3 x4 tf110 hF
      · have hF := ite_f hF c117
        refine g_aload_n hX dX8_doesMatch_120 (i := 0) rfl (j := 0) rfl ?_
        have tf121 := (tyF (k := 24) hW t0 (by decide) rfl (by decide) : KM (r p0 24) = 10 ∧ ok (r p0 24))
        refine gf_X8_52 hX dX8_doesMatch_121 (ty1 hW t0) (hW.1 _ tf121.2).1 ?_
        refine g_iload hX dX8_doesMatch_124 (j := 4) rfl ?_
        refine g_iconst (v := 1) hX dX8_doesMatch_126 (by decide) ?_
        refine g_isub hX dX8_doesMatch_127 ?_
        obtain ⟨g128, hF⟩ := gd_some hF
        refine g_bald hX dX8_doesMatch_128 tf121.1 (hW.1 _ tf121.2).1 (hW.1 _ tf121.2).2 g128 ?_
        refine g_if_eq (tgt := 154) hX dX8_doesMatch_129 (by decide) (fun c129 => ?_) (fun c129 => ?_)
        · have hF := ite_t hF c129
          refine g_sub (L' := [(0, .ref (b + p0)), (1, .int a1), (2, .int x2), (3, .int x3), (4, .int x4)]) [0, 1, 2, 3, 4] rfl ?_
          exact kX8_doesMatch_b154 hX hM hW p0 a1 t0 hR k33 hk33 (fun h_ z2_ z3_ z4_ => fX8_doesMatch_b104 r p0 a1 k33 n h_ z2_ z3_ z4_) ih h (r p0 24) x4 x2 x3 x4 tf110 hF
        · have hF := ite_f hF c129
          refine g_iload_n hX dX8_doesMatch_132 (i := 3) rfl (j := 3) rfl ?_
          refine g_iconst (v := (-1)) hX dX8_doesMatch_133 (by decide) ?_
          refine g_icmp_eq (tgt := 150) hX dX8_doesMatch_134 (by decide) (fun c134 => ?_) (fun c134 => ?_)
          · have hF := ite_t hF c134
            refine g_sub (L' := [(0, .ref (b + p0)), (1, .int a1), (2, .int x2), (3, .int x3), (4, .int x4)]) [0, 1, 2, 3, 4] rfl ?_
            exact kX8_doesMatch_b150 hX hM hW p0 a1 t0 hR k33 hk33 (fun h_ z2_ z3_ z4_ => fX8_doesMatch_b104 r p0 a1 k33 n h_ z2_ z3_ z4_) ih h (r p0 24) x4 x2 x3 x4 tf110 hF
          · have hF := ite_f hF c134
            refine g_iload_n hX dX8_doesMatch_137 (i := 3) rfl (j := 3) rfl ?_
            refine g_aload_n hX dX8_doesMatch_138 (i := 0) rfl (j := 0) rfl ?_
            have tf139 := (tyF (k := 23) hW t0 (by decide) rfl (by decide) : KM (r p0 23) = 9 ∧ ok (r p0 23))
            refine gf_X8_49 hX dX8_doesMatch_139 (ty1 hW t0) (hW.1 _ tf139.2).1 ?_
            refine g_iload hX dX8_doesMatch_142 (j := 4) rfl ?_
            refine g_iconst (v := 1) hX dX8_doesMatch_144 (by decide) ?_
            refine g_isub hX dX8_doesMatch_145 ?_
            obtain ⟨g146, hF⟩ := gd_some hF
            refine g_iald hX dX8_doesMatch_146 tf139.1 (hW.1 _ tf139.2).1 (hW.1 _ tf139.2).2 g146 ?_
            refine g_icmp_ne (tgt := 154) hX dX8_doesMatch_147 (by decide) (fun c147 => ?_) (fun c147 => ?_)
            · have hF := ite_t hF c147
              refine g_sub (L' := [(0, .ref (b + p0)), (1, .int a1), (2, .int x2), (3, .int x3), (4, .int x4)]) [0, 1, 2, 3, 4] rfl ?_
              exact kX8_doesMatch_b154 hX hM hW p0 a1 t0 hR k33 hk33 (fun h_ z2_ z3_ z4_ => fX8_doesMatch_b104 r p0 a1 k33 n h_ z2_ z3_ z4_) ih h (r p0 24) x4 x2 x3 x4 tf110 hF
            · have hF := ite_f hF (fun z => z c147)
              refine g_sub (L' := [(0, .ref (b + p0)), (1, .int a1), (2, .int x2), (3, .int x3), (4, .int x4)]) [0, 1, 2, 3, 4] rfl ?_
              exact kX8_doesMatch_b150 hX hM hW p0 a1 t0 hR k33 hk33 (fun h_ z2_ z3_ z4_ => fX8_doesMatch_b104 r p0 a1 k33 n h_ z2_ z3_ z4_) ih h (r p0 24) x4 x2 x3 x4 tf110 hF
set_option maxRecDepth 100000 in
set_option maxHeartbeats 4000000 in
theorem kX8_doesMatch_b33 {X : XT} {b N sz : Nat} {ok : Nat → Prop} {r : RR} {w : Int32 × HH} (hX : XOK X RX8 cX8_doesMatch 5 1) (hM : N ≤ MM) (hW : WT KM lnM ok N r) (p0 : Nat) (a1 : Int32) (t0 : KM p0 = 8 ∧ ok p0) (hR : XR X b KM lnM MM (some FieldType.boolean) 0 0 N sz (some (.int w.1)) w.2 r) : ∀ (n : Nat) (h : HH) (x2 : Int32), fX8_doesMatch_b33 r p0 a1 n h x2 = some w → GX X b KM lnM MM 5 0 0 N sz 33 [(0, .ref (b + p0)), (1, .int a1), (2, .int x2)] [] h r := by
  intro n
  induction n with
  | zero =>
    intro h x2 hF
    cases hF
  | succ n ih =>
    intro h x2 hF
    rw [fX8_doesMatch_b33] at hF
    refine g_iload_n hX dX8_doesMatch_33 (i := 2) rfl (j := 2) rfl ?_
    refine g_aload_n hX dX8_doesMatch_34 (i := 0) rfl (j := 0) rfl ?_
    have tf35 := (tyF (k := 13) hW t0 (by decide) rfl (by decide) : KM (r p0 13) = 9 ∧ ok (r p0 13))
    refine gf_X8_39 hX dX8_doesMatch_35 (ty1 hW t0) (hW.1 _ tf35.2).1 ?_
    refine g_iload_n hX dX8_doesMatch_38 (i := 1) rfl (j := 1) rfl ?_
    obtain ⟨g39, hF⟩ := gd_some hF
    refine g_iald hX dX8_doesMatch_39 tf35.1 (hW.1 _ tf35.2).1 (hW.1 _ tf35.2).2 g39 ?_
    refine g_icmp_ge (tgt := 168) hX dX8_doesMatch_40 (by decide) (fun c40 => ?_) (fun c40 => ?_)
    · have hF := ite_t hF c40
      refine g_aload_n hX dX8_doesMatch_168 (i := 0) rfl (j := 0) rfl ?_
      have tf169 := (tyF (k := 24) hW t0 (by decide) rfl (by decide) : KM (r p0 24) = 10 ∧ ok (r p0 24))
      refine gf_X8_52 hX dX8_doesMatch_169 (ty1 hW t0) (hW.1 _ tf169.2).1 ?_
      refine g_aload_n hX dX8_doesMatch_172 (i := 0) rfl (j := 0) rfl ?_
      refine gf_X8_239 hX dX8_doesMatch_173 (ty1 hW t0) ?_
      obtain ⟨g176, hF⟩ := gd_some hF
      refine g_bald hX dX8_doesMatch_176 tf169.1 (hW.1 _ tf169.2).1 (hW.1 _ tf169.2).2 g176 ?_
      obtain ⟨z177, hF⟩ := bz_some hF
      obtain rfl := Option.some.inj hF
      exact g_zret hX dX8_doesMatch_177 z177 hR
    · have hF := ite_f hF c40
      refine g_aload_n hX dX8_doesMatch_43 (i := 0) rfl (j := 0) rfl ?_
      have tf44 := (tyF (k := 14) hW t0 (by decide) rfl (by decide) : KM (r p0 14) = 14 ∧ ok (r p0 14))
      refine gf_X8_43 hX dX8_doesMatch_44 (ty1 hW t0) (hW.1 _ tf44.2).1 ?_
      refine g_iload_n hX dX8_doesMatch_47 (i := 1) rfl (j := 1) rfl ?_
      obtain ⟨g48, hF⟩ := gd_some hF
      have ta48 : KM (r (r p0 14) (ix a1)) = 9 ∧ ok (r (r p0 14) (ix a1)) := tyA hW tf44 (by decide) rfl (by decide) g48
      refine g_aald hX dX8_doesMatch_48 tf44.1 (by decide) (by decide) (hW.1 _ tf44.2).1 (hW.1 _ tf44.2).2 g48 (hW.1 _ ta48.2).1 ?_
      refine g_iload_n hX dX8_doesMatch_49 (i := 2) rfl (j := 2) rfl ?_
      obtain ⟨g50, hF⟩ := gd_some hF
      refine g_iald hX dX8_doesMatch_50 ta48.1 (hW.1 _ ta48.2).1 (hW.1 _ ta48.2).2 g50 ?_
      obtain ⟨y51, e51, hF⟩ := lt_some hF
      refine g_topi e51 ?_
      refine g_istore_n (L' := [(3, .int y51), (0, .ref (b + p0)), (1, .int a1), (2, .int x2)]) hX dX8_doesMatch_51 (i := 3) rfl (by decide) rfl ?_
      refine g_iload_n hX dX8_doesMatch_52 (i := 3) rfl (j := 0) rfl ?_
      refine g_bipush (v := (-2)) hX dX8_doesMatch_53 (by decide) ?_
      refine g_icmp_ne (tgt := 98) hX dX8_doesMatch_55 (by decide) (fun c55 => ?_) (fun c55 => ?_)
      · have hF := ite_t hF c55
        refine g_aload_n hX dX8_doesMatch_98 (i := 0) rfl (j := 1) rfl ?_
        refine gf_X8_239 hX dX8_doesMatch_99 (ty1 hW t0) ?_
        obtain ⟨y102, e102, hF⟩ := lt_some hF
        refine g_topi e102 ?_
        refine g_istore (L' := [(4, .int y102), (3, .int y51), (0, .ref (b + p0)), (1, .int a1), (2, .int x2)]) hX dX8_doesMatch_102 (by decide) rfl ?_
        refine g_sub (L' := [(0, .ref (b + p0)), (1, .int a1), (2, .int x2), (3, .int y51), (4, .int y102)]) [2, 3, 4, 1, 0] rfl ?_
        exact kX8_doesMatch_b104 hX hM hW p0 a1 t0 hR (fun h_ z2_ => fX8_doesMatch_b33 r p0 a1 n h_ z2_) ih lpF h x2 y51 y102 hF
      · have hF := ite_f hF (fun z => z c55)
        refine g_iconst (v := 1) hX dX8_doesMatch_58 (by decide) ?_
        refine g_istore (L' := [(4, .int 1), (3, .int y51), (0, .ref (b + p0)), (1, .int a1), (2, .int x2)]) hX dX8_doesMatch_59 (by decide) rfl ?_
        refine g_sub (L' := [(0, .ref (b + p0)), (1, .int a1), (2, .int x2), (4, .int 1)]) [2, 3, 4, 0] rfl ?_
        exact kX8_doesMatch_b61 hX hM hW p0 a1 t0 hR (fun h_ z2_ => fX8_doesMatch_b33 r p0 a1 n h_ z2_) ih lpF h x2 1 hF
set_option maxRecDepth 100000 in
set_option maxHeartbeats 4000000 in
theorem kX8_doesMatch_b2 {X : XT} {b N sz : Nat} {ok : Nat → Prop} {r : RR} {w : Int32 × HH} (hX : XOK X RX8 cX8_doesMatch 5 1) (hM : N ≤ MM) (hW : WT KM lnM ok N r) (p0 : Nat) (a1 : Int32) (t0 : KM p0 = 8 ∧ ok p0) (hR : XR X b KM lnM MM (some FieldType.boolean) 0 0 N sz (some (.int w.1)) w.2 r) : ∀ (n : Nat) (h : HH) (x2 : Int32), fX8_doesMatch_b2 r p0 a1 n h x2 = some w → GX X b KM lnM MM 5 0 0 N sz 2 [(0, .ref (b + p0)), (1, .int a1), (2, .int x2)] [] h r := by
  intro n
  induction n with
  | zero =>
    intro h x2 hF
    cases hF
  | succ n ih =>
    intro h x2 hF
    rw [fX8_doesMatch_b2] at hF
    refine g_iload_n hX dX8_doesMatch_2 (i := 2) rfl (j := 2) rfl ?_
    refine g_aload_n hX dX8_doesMatch_3 (i := 0) rfl (j := 0) rfl ?_
    refine gf_X8_239 hX dX8_doesMatch_4 (ty1 hW t0) ?_
    refine g_icmp_gt (tgt := 31) hX dX8_doesMatch_7 (by decide) (fun c7 => ?_) (fun c7 => ?_)
    · have hF := ite_t hF c7
      refine g_iconst (v := 0) hX dX8_doesMatch_31 (by decide) ?_
      refine g_istore_n (L' := [(2, .int 0), (0, .ref (b + p0)), (1, .int a1)]) hX dX8_doesMatch_32 (i := 2) rfl (by decide) rfl ?_
      refine g_sub (L' := [(0, .ref (b + p0)), (1, .int a1), (2, .int 0)]) [1, 2, 0] rfl ?_
      exact kX8_doesMatch_b33 hX hM hW p0 a1 t0 hR lpF h 0 hF
    · have hF := ite_f hF c7
      refine g_aload_n hX dX8_doesMatch_10 (i := 0) rfl (j := 0) rfl ?_
      have tf11 := (tyF (k := 24) hW t0 (by decide) rfl (by decide) : KM (r p0 24) = 10 ∧ ok (r p0 24))
      refine gf_X8_52 hX dX8_doesMatch_11 (ty1 hW t0) (hW.1 _ tf11.2).1 ?_
      refine g_iload_n hX dX8_doesMatch_14 (i := 2) rfl (j := 2) rfl ?_
      refine g_iload_n hX dX8_doesMatch_15 (i := 2) rfl (j := 2) rfl ?_
      refine g_if_ne (tgt := 23) hX dX8_doesMatch_16 (by decide) (fun c16 => ?_) (fun c16 => ?_)
      · have hF := ite_t hF c16
        refine g_iconst (v := 0) hX dX8_doesMatch_23 (by decide) ?_
        refine g_sub (L' := [(0, .ref (b + p0)), (1, .int a1), (2, .int x2)]) [0, 1, 2] rfl ?_
        exact kX8_doesMatch_b24 hX hM hW p0 a1 t0 hR (fun h_ z2_ => fX8_doesMatch_b2 r p0 a1 n h_ z2_) ih h (r p0 24) x2 0 x2 tf11 hF
      · have hF := ite_f hF (fun z => z c16)
        refine g_iconst (v := 1) hX dX8_doesMatch_19 (by decide) ?_
        refine g_goto (tgt := 24) hX dX8_doesMatch_20 (by decide) ?_
        refine g_sub (L' := [(0, .ref (b + p0)), (1, .int a1), (2, .int x2)]) [0, 1, 2] rfl ?_
        exact kX8_doesMatch_b24 hX hM hW p0 a1 t0 hR (fun h_ z2_ => fX8_doesMatch_b2 r p0 a1 n h_ z2_) ih h (r p0 24) x2 1 x2 tf11 hF
set_option maxRecDepth 100000 in
set_option maxHeartbeats 4000000 in
theorem kX8_doesMatch {X : XT} {b N sz : Nat} {ok : Nat → Prop} {h : HH} {r : RR} {w : Int32 × HH} (hX : XOK X RX8 cX8_doesMatch 5 1) (hM : N ≤ MM) (hW : WT KM lnM ok N r) (p0 : Nat) (a1 : Int32) (t0 : KM p0 = 8 ∧ ok p0) (hR : XR X b KM lnM MM (some FieldType.boolean) 0 0 N sz (some (.int w.1)) w.2 r) (hF : fX8_doesMatch h r p0 a1 = some w) : GX X b KM lnM MM 5 0 0 N sz 0 [(0, .ref (b + p0)), (1, .int a1)] [] h r := by
  rw [fX8_doesMatch] at hF
  refine g_iconst (v := 0) hX dX8_doesMatch_0 (by decide) ?_
  refine g_istore_n (L' := [(2, .int 0), (0, .ref (b + p0)), (1, .int a1)]) hX dX8_doesMatch_1 (i := 2) rfl (by decide) rfl ?_
  refine g_sub (L' := [(0, .ref (b + p0)), (1, .int a1), (2, .int 0)]) [1, 2, 0] rfl ?_
  exact kX8_doesMatch_b2 hX hM hW p0 a1 t0 hR lpF h 0 hF
theorem ctX8_doesMatch {b N sz : Nat} {ok : Nat → Prop} {h : HH} {r : RR} {w : Int32 × HH} (hM : N ≤ MM) (hW : WT KM lnM ok N r) (p0 : Nat) (a1 : Int32) (t0 : KM p0 = 8 ∧ ok p0) (hF : fX8_doesMatch h r p0 a1 = some w) : CT yX8_doesMatch cX8_doesMatch 5 (some FieldType.boolean) 1 b KM lnM MM N sz [.ref (b + p0), .int a1] h r N sz (some (.int w.1)) w.2 r 0 0 :=
  CT_of (by decide) rfl (Nat.le_of_ble_eq_true rfl) (by decide) trivial (fun X hX hR => kX8_doesMatch hX hM hW p0 a1 t0 hR hF)
/-! X8_isIgnoredOn -/
def fX8_isIgnoredOn_b21 (r : RR) (p0 : Nat) (a1 : Int32) (a2 : Int32) (k2 : HH → Int32 → Option (Int32 × HH)) : Nat → HH → Int32 → Int32 → Option (Int32 × HH)
  | 0, _, _, _ => none
  | n + 1, h, x3, x4 => if x4 < 0 then (gd (inb a1 (lnM (r p0 4))) (gd (inb x3 (lnM (r (r p0 4) (ix a1)))) (lt (h (r (r p0 4) (ix a1)) (ix x3)) (fun y65 => k2 h y65)))) else (bi2 (fX8_doesMatch h r p0 x4) (fun v29 h29 => if v29 = 0 then (fX8_isIgnoredOn_b21 r p0 a1 a2 k2 n h29 x3 (x4 + (-1))) else (gd (inb x4 (lnM (r p0 12))) (if ¬ (h29 (r p0 12) (ix x4)) = 0 then (some (0, h29)) else (some (1, h29))))))
def fX8_isIgnoredOn_b2 (r : RR) (p0 : Nat) (a1 : Int32) (a2 : Int32) : Nat → HH → Int32 → Option (Int32 × HH)
  | 0, _, _ => none
  | n + 1, h, x3 => if x3 = (-1) then (some (0, h)) else ((fX8_tellPath h r p0 a1 x3).bind (fun h10 => lt ((h10 p0 11) - 1) (fun y19 => fX8_isIgnoredOn_b21 r p0 a1 a2 (fun h_ z3_ => fX8_isIgnoredOn_b2 r p0 a1 a2 n h_ z3_) lpF h10 x3 y19)))
def fX8_isIgnoredOn (h : HH) (r : RR) (p0 : Nat) (a1 : Int32) (a2 : Int32) : Option (Int32 × HH) := fX8_isIgnoredOn_b2 r p0 a1 a2 lpF h a2
set_option maxRecDepth 100000 in
set_option maxHeartbeats 4000000 in
theorem kX8_isIgnoredOn_b21 {X : XT} {b N sz : Nat} {ok : Nat → Prop} {r : RR} {w : Int32 × HH} (hX : XOK X RX8 cX8_isIgnoredOn 5 3) (hM : N ≤ MM) (hW : WT KM lnM ok N r) (p0 : Nat) (a1 : Int32) (a2 : Int32) (t0 : KM p0 = 8 ∧ ok p0) (hR : XR X b KM lnM MM (some FieldType.boolean) 0 0 N sz (some (.int w.1)) w.2 r) (k2 : HH → Int32 → Option (Int32 × HH)) (hk2 : ∀ (h : HH) (x3 : Int32), k2 h x3 = some w → GX X b KM lnM MM 5 0 0 N sz 2 [(0, .ref (b + p0)), (1, .int a1), (2, .int a2), (3, .int x3)] [] h r) : ∀ (n : Nat) (h : HH) (x3 : Int32) (x4 : Int32), fX8_isIgnoredOn_b21 r p0 a1 a2 k2 n h x3 x4 = some w → GX X b KM lnM MM 5 0 0 N sz 21 [(0, .ref (b + p0)), (1, .int a1), (2, .int a2), (3, .int x3), (4, .int x4)] [] h r := by
  intro n
  induction n with
  | zero =>
    intro h x3 x4 hF
    cases hF
  | succ n ih =>
    intro h x3 x4 hF
    rw [fX8_isIgnoredOn_b21] at hF
    refine g_iload hX dX8_isIgnoredOn_21 (j := 4) rfl ?_
    refine g_if_lt (tgt := 57) hX dX8_isIgnoredOn_23 (by decide) (fun c23 => ?_) (fun c23 => ?_)
    · have hF := ite_t hF c23
      refine g_aload_n hX dX8_isIgnoredOn_57 (i := 0) rfl (j := 0) rfl ?_
      have tf58 := (tyF (k := 4) hW t0 (by decide) rfl (by decide) : KM (r p0 4) = 14 ∧ ok (r p0 4))
      refine gf_X8_20 hX dX8_isIgnoredOn_58 (ty1 hW t0) (hW.1 _ tf58.2).1 ?_
      refine g_iload_n hX dX8_isIgnoredOn_61 (i := 1) rfl (j := 1) rfl ?_
      obtain ⟨g62, hF⟩ := gd_some hF
      have ta62 : KM (r (r p0 4) (ix a1)) = 9 ∧ ok (r (r p0 4) (ix a1)) := tyA hW tf58 (by decide) rfl (by decide) g62
      refine g_aald hX dX8_isIgnoredOn_62 tf58.1 (by decide) (by decide) (hW.1 _ tf58.2).1 (hW.1 _ tf58.2).2 g62 (hW.1 _ ta62.2).1 ?_
      refine g_iload_n hX dX8_isIgnoredOn_63 (i := 3) rfl (j := 3) rfl ?_
      obtain ⟨g64, hF⟩ := gd_some hF
      refine g_iald hX dX8_isIgnoredOn_64 ta62.1 (hW.1 _ ta62.2).1 (hW.1 _ ta62.2).2 g64 ?_
      obtain ⟨y65, e65, hF⟩ := lt_some hF
      refine g_topi e65 ?_
      refine g_istore_n (L' := [(3, .int y65), (0, .ref (b + p0)), (1, .int a1), (2, .int a2), (4, .int x4)]) hX dX8_isIgnoredOn_65 (i := 3) rfl (by decide) rfl ?_
      refine g_goto (tgt := 2) hX dX8_isIgnoredOn_66 (by decide) ?_
      refine g_sub (L' := [(0, .ref (b + p0)), (1, .int a1), (2, .int a2), (3, .int y65)]) [1, 2, 3, 0] rfl ?_
      exact hk2 h y65 hF
    · have hF := ite_f hF c23
      refine g_aload_n hX dX8_isIgnoredOn_26 (i := 0) rfl (j := 0) rfl ?_
      refine g_iload hX dX8_isIgnoredOn_27 (j := 4) rfl ?_
      obtain ⟨v29, h29, e29, hF⟩ := bi2_some hF
      refine g_callV (As := [.int x4]) (rest := []) (stk := [.int v29]) hX dX8_isIgnoredOn_29 (ctX8_doesMatch hM hW p0 x4 t0 e29) (by decide) (by decide) wm_X8_246 wi_X8_doesMatch ws_X8_doesMatch wz_X8 wc_X8_doesMatch hyX8_doesMatch rfl (ci := 8) rfl (by decide) t0.1 (hW.1 _ t0.2).1 (hW.1 _ t0.2).2 (Nat.le_of_ble_eq_true rfl) rfl rfl ?_ rfl rfl
      refine g_if_eq (tgt := 51) hX dX8_isIgnoredOn_32 (by decide) (fun c32 => ?_) (fun c32 => ?_)
      · have hF := ite_t hF c32
        refine g_iinc (L' := [(4, .int (x4 + (-1))), (0, .ref (b + p0)), (1, .int a1), (2, .int a2), (3, .int x3)]) (j := 4) hX dX8_isIgnoredOn_51 rfl rfl (by decide) rfl ?_
        refine g_goto (tgt := 21) hX dX8_isIgnoredOn_54 (by decide) ?_
        refine g_sub (L' := [(0, .ref (b + p0)), (1, .int a1), (2, .int a2), (3, .int x3), (4, .int (x4 + (-1)))]) [1, 2, 3, 4, 0] rfl ?_
        exact ih h29 x3 (x4 + (-1)) hF
      · have hF := ite_f hF c32
        refine g_aload_n hX dX8_isIgnoredOn_35 (i := 0) rfl (j := 0) rfl ?_
        have tf36 := (tyF (k := 12) hW t0 (by decide) rfl (by decide) : KM (r p0 12) = 10 ∧ ok (r p0 12))
        refine gf_X8_36 hX dX8_isIgnoredOn_36 (ty1 hW t0) (hW.1 _ tf36.2).1 ?_
        refine g_iload hX dX8_isIgnoredOn_39 (j := 4) rfl ?_
        obtain ⟨g41, hF⟩ := gd_some hF
        refine g_bald hX dX8_isIgnoredOn_41 tf36.1 (hW.1 _ tf36.2).1 (hW.1 _ tf36.2).2 g41 ?_
        refine g_if_ne (tgt := 49) hX dX8_isIgnoredOn_42 (by decide) (fun c42 => ?_) (fun c42 => ?_)
        · have hF := ite_t hF c42
          refine g_iconst (v := 0) hX dX8_isIgnoredOn_49 (by decide) ?_
          obtain rfl := Option.some.inj hF
          exact g_zret hX dX8_isIgnoredOn_50 (by decide) hR
        · have hF := ite_f hF (fun z => z c42)
          refine g_iconst (v := 1) hX dX8_isIgnoredOn_45 (by decide) ?_
          refine g_goto (tgt := 50) hX dX8_isIgnoredOn_46 (by decide) ?_
          obtain rfl := Option.some.inj hF
          exact g_zret hX dX8_isIgnoredOn_50 (by decide) hR
set_option maxRecDepth 100000 in
set_option maxHeartbeats 4000000 in
theorem kX8_isIgnoredOn_b2 {X : XT} {b N sz : Nat} {ok : Nat → Prop} {r : RR} {w : Int32 × HH} (hX : XOK X RX8 cX8_isIgnoredOn 5 3) (hM : N ≤ MM) (hW : WT KM lnM ok N r) (p0 : Nat) (a1 : Int32) (a2 : Int32) (t0 : KM p0 = 8 ∧ ok p0) (hR : XR X b KM lnM MM (some FieldType.boolean) 0 0 N sz (some (.int w.1)) w.2 r) : ∀ (n : Nat) (h : HH) (x3 : Int32), fX8_isIgnoredOn_b2 r p0 a1 a2 n h x3 = some w → GX X b KM lnM MM 5 0 0 N sz 2 [(0, .ref (b + p0)), (1, .int a1), (2, .int a2), (3, .int x3)] [] h r := by
  intro n
  induction n with
  | zero =>
    intro h x3 hF
    cases hF
  | succ n ih =>
    intro h x3 hF
    rw [fX8_isIgnoredOn_b2] at hF
    refine g_iload_n hX dX8_isIgnoredOn_2 (i := 3) rfl (j := 3) rfl ?_
    refine g_iconst (v := (-1)) hX dX8_isIgnoredOn_3 (by decide) ?_
    refine g_icmp_eq (tgt := 69) hX dX8_isIgnoredOn_4 (by decide) (fun c4 => ?_) (fun c4 => ?_)
    · have hF := ite_t hF c4
      refine g_iconst (v := 0) hX dX8_isIgnoredOn_69 (by decide) ?_
      obtain rfl := Option.some.inj hF
      exact g_zret hX dX8_isIgnoredOn_70 (by decide) hR
    · have hF := ite_f hF c4
      refine g_aload_n hX dX8_isIgnoredOn_7 (i := 0) rfl (j := 0) rfl ?_
      refine g_iload_n hX dX8_isIgnoredOn_8 (i := 1) rfl (j := 1) rfl ?_
      refine g_iload_n hX dX8_isIgnoredOn_9 (i := 3) rfl (j := 3) rfl ?_
      obtain ⟨h10, e10, hF⟩ := bi_some hF
      refine g_callV (As := [.int a1, .int x3]) (rest := []) (stk := []) hX dX8_isIgnoredOn_10 (ctX8_tellPath hM hW p0 a1 x3 t0 e10) (by decide) (by decide) wm_X8_242 wi_X8_tellPath ws_X8_tellPath wz_X8 wc_X8_tellPath hyX8_tellPath rfl (ci := 8) rfl (by decide) t0.1 (hW.1 _ t0.2).1 (hW.1 _ t0.2).2 (Nat.le_of_ble_eq_true rfl) rfl rfl ?_ rfl rfl
      refine g_aload_n hX dX8_isIgnoredOn_13 (i := 0) rfl (j := 0) rfl ?_
      refine gf_X8_230 hX dX8_isIgnoredOn_14 (ty1 hW t0) ?_
      refine g_iconst (v := 1) hX dX8_isIgnoredOn_17 (by decide) ?_
      refine g_isub hX dX8_isIgnoredOn_18 ?_
      obtain ⟨y19, e19, hF⟩ := lt_some hF
      refine g_topi e19 ?_
      refine g_istore (L' := [(4, .int y19), (0, .ref (b + p0)), (1, .int a1), (2, .int a2), (3, .int x3)]) hX dX8_isIgnoredOn_19 (by decide) rfl ?_
      refine g_sub (L' := [(0, .ref (b + p0)), (1, .int a1), (2, .int a2), (3, .int x3), (4, .int y19)]) [1, 2, 3, 4, 0] rfl ?_
      exact kX8_isIgnoredOn_b21 hX hM hW p0 a1 a2 t0 hR (fun h_ z3_ => fX8_isIgnoredOn_b2 r p0 a1 a2 n h_ z3_) ih lpF h10 x3 y19 hF
set_option maxRecDepth 100000 in
set_option maxHeartbeats 4000000 in
theorem kX8_isIgnoredOn {X : XT} {b N sz : Nat} {ok : Nat → Prop} {h : HH} {r : RR} {w : Int32 × HH} (hX : XOK X RX8 cX8_isIgnoredOn 5 3) (hM : N ≤ MM) (hW : WT KM lnM ok N r) (p0 : Nat) (a1 : Int32) (a2 : Int32) (t0 : KM p0 = 8 ∧ ok p0) (hR : XR X b KM lnM MM (some FieldType.boolean) 0 0 N sz (some (.int w.1)) w.2 r) (hF : fX8_isIgnoredOn h r p0 a1 a2 = some w) : GX X b KM lnM MM 5 0 0 N sz 0 [(0, .ref (b + p0)), (1, .int a1), (2, .int a2)] [] h r := by
  rw [fX8_isIgnoredOn] at hF
  refine g_iload_n hX dX8_isIgnoredOn_0 (i := 2) rfl (j := 2) rfl ?_
  refine g_istore_n (L' := [(3, .int a2), (0, .ref (b + p0)), (1, .int a1), (2, .int a2)]) hX dX8_isIgnoredOn_1 (i := 3) rfl (by decide) rfl ?_
  refine g_sub (L' := [(0, .ref (b + p0)), (1, .int a1), (2, .int a2), (3, .int a2)]) [1, 2, 3, 0] rfl ?_
  exact kX8_isIgnoredOn_b2 hX hM hW p0 a1 a2 t0 hR lpF h a2 hF
theorem ctX8_isIgnoredOn {b N sz : Nat} {ok : Nat → Prop} {h : HH} {r : RR} {w : Int32 × HH} (hM : N ≤ MM) (hW : WT KM lnM ok N r) (p0 : Nat) (a1 : Int32) (a2 : Int32) (t0 : KM p0 = 8 ∧ ok p0) (hF : fX8_isIgnoredOn h r p0 a1 a2 = some w) : CT yX8_isIgnoredOn cX8_isIgnoredOn 5 (some FieldType.boolean) 3 b KM lnM MM N sz [.ref (b + p0), .int a1, .int a2] h r N sz (some (.int w.1)) w.2 r 0 0 :=
  CT_of (by decide) rfl (Nat.le_of_ble_eq_true rfl) (by decide) trivial (fun X hX hR => kX8_isIgnoredOn hX hM hW p0 a1 a2 t0 hR hF)
/-! X8_ignore -/
def fX8_ignore_b56 (r : RR) (p0 : Nat) (k2 : HH → Int32 → Option (HH)) (k19 : HH → Int32 → Int32 → Option (HH)) (h : HH) (u0 : Nat) (s1 : Int32) (s2 : Int32) (s3 : Int32) (x1 : Int32) (x2 : Int32) : Option (HH) := gd (inb s1 (lnM u0)) (lt (up h u0 (ix s1) (zn (s2 ||| s3))) (fun h57 => k19 h57 x1 (x2 + 1)))
def fX8_ignore_b55 (r : RR) (p0 : Nat) (k2 : HH → Int32 → Option (HH)) (k19 : HH → Int32 → Int32 → Option (HH)) (h : HH) (u0 : Nat) (s1 : Int32) (s2 : Int32) (x1 : Int32) (x2 : Int32) : Option (HH) := fX8_ignore_b56 r p0 k2 k19 h u0 s1 s2 0 x1 x2
def fX8_ignore_b19 (r : RR) (p0 : Nat) (k2 : HH → Int32 → Option (HH)) : Nat → HH → Int32 → Int32 → Option (HH)
  | 0, _, _, _ => none
  | n + 1, h, x1, x2 => if 3 ≤ x2 then (k2 h (x1 + 1)) else (gd (inb x1 (lnM (r p0 25))) (gd (inb x2 (lnM (r p0 3))) (gd (inb x1 (lnM (r (r p0 3) (ix x2)))) (if (h (r (r p0 3) (ix x2)) (ix x1)) = 0 then (fX8_ignore_b55 r p0 k2 (fun h_ z1_ z2_ => fX8_ignore_b19 r p0 k2 n h_ z1_ z2_) h (r p0 25) x1 (h (r p0 25) (ix x1)) x1 x2) else (bi2 (fX8_isIgnoredOn h r p0 x2 x1) (fun v45 h45 => if v45 = 0 then (fX8_ignore_b55 r p0 k2 (fun h_ z1_ z2_ => fX8_ignore_b19 r p0 k2 n h_ z1_ z2_) h45 (r p0 25) x1 (h (r p0 25) (ix x1)) x1 x2) else (fX8_ignore_b56 r p0 k2 (fun h_ z1_ z2_ => fX8_ignore_b19 r p0 k2 n h_ z1_ z2_) h45 (r p0 25) x1 (h (r p0 25) (ix x1)) 1 x1 x2)))))))
def fX8_ignore_b155 (r : RR) (p0 : Nat) (k72 : HH → Int32 → Option (HH)) (k80 : HH → Int32 → Int32 → Option (HH)) (k90 : HH → Int32 → Int32 → Int32 → Option (HH)) (h : HH) (x1 : Int32) (x2 : Int32) (x3 : Int32) : Option (HH) := k90 h x1 x2 (x3 + 1)
def fX8_ignore_b90 (r : RR) (p0 : Nat) (k72 : HH → Int32 → Option (HH)) (k80 : HH → Int32 → Int32 → Option (HH)) : Nat → HH → Int32 → Int32 → Int32 → Option (HH)
  | 0, _, _, _, _ => none
  | n + 1, h, x1, x2, x3 => if 3 ≤ x3 then (k80 h x1 (x2 + 1)) else (gd (inb x2 (lnM (r p0 25))) (if ¬ (h (r p0 25) (ix x2)) = 0 then (fX8_ignore_b155 r p0 k72 k80 (fun h_ z1_ z2_ z3_ => fX8_ignore_b90 r p0 k72 k80 n h_ z1_ z2_ z3_) h x1 x2 x3) else (gd (inb x3 (lnM (r p0 3))) (gd (inb x2 (lnM (r (r p0 3) (ix x3)))) (if (h (r (r p0 3) (ix x3)) (ix x2)) = 0 then (fX8_ignore_b155 r p0 k72 k80 (fun h_ z1_ z2_ z3_ => fX8_ignore_b90 r p0 k72 k80 n h_ z1_ z2_ z3_) h x1 x2 x3) else (gd (inb x3 (lnM (r p0 4))) (gd (inb x2 (lnM (r (r p0 4) (ix x3)))) (if (h (r (r p0 4) (ix x3)) (ix x2)) = (-1) then (fX8_ignore_b155 r p0 k72 k80 (fun h_ z1_ z2_ z3_ => fX8_ignore_b90 r p0 k72 k80 n h_ z1_ z2_ z3_) h x1 x2 x3) else (gd (inb x3 (lnM (r p0 4))) (gd (inb x2 (lnM (r (r p0 4) (ix x3)))) (gd (inb (h (r (r p0 4) (ix x3)) (ix x2)) (lnM (r p0 25))) (if ¬ (h (r p0 25) (ix (h (r (r p0 4) (ix x3)) (ix x2)))) = 0 then (gd (inb x2 (lnM (r p0 25))) (lt (up h (r p0 25) (ix x2) (zn 1)) (fun h152 => fX8_ignore_b155 r p0 k72 k80 (fun h_ z1_ z2_ z3_ => fX8_ignore_b90 r p0 k72 k80 n h_ z1_ z2_ z3_) h152 1 x2 x3))) else (fX8_ignore_b155 r p0 k72 k80 (fun h_ z1_ z2_ z3_ => fX8_ignore_b90 r p0 k72 k80 n h_ z1_ z2_ z3_) h x1 x2 x3)))))))))))))
def fX8_ignore_b80 (r : RR) (p0 : Nat) (k72 : HH → Int32 → Option (HH)) : Nat → HH → Int32 → Int32 → Option (HH)
  | 0, _, _, _ => none
  | n + 1, h, x1, x2 => if (h p0 0) ≤ x2 then (k72 h x1) else (fX8_ignore_b90 r p0 k72 (fun h_ z1_ z2_ => fX8_ignore_b80 r p0 k72 n h_ z1_ z2_) lpF h x1 x2 0)
def fX8_ignore_b72 (r : RR) (p0 : Nat) : Nat → HH → Int32 → Option (HH)
  | 0, _, _ => none
  | n + 1, h, x1 => if x1 = 0 then (some h) else (fX8_ignore_b80 r p0 (fun h_ z1_ => fX8_ignore_b72 r p0 n h_ z1_) lpF h 0 0)
def fX8_ignore_b2 (r : RR) (p0 : Nat) : Nat → HH → Int32 → Option (HH)
  | 0, _, _ => none
  | n + 1, h, x1 => if (h p0 0) ≤ x1 then (fX8_ignore_b72 r p0 lpF h 1) else (gd (inb x1 (lnM (r p0 25))) (lt (up h (r p0 25) (ix x1) (zn 0)) (fun h16 => fX8_ignore_b19 r p0 (fun h_ z1_ => fX8_ignore_b2 r p0 n h_ z1_) lpF h16 x1 0)))
def fX8_ignore (h : HH) (r : RR) (p0 : Nat) : Option (HH) := fX8_ignore_b2 r p0 lpF h 0
set_option maxRecDepth 100000 in
set_option maxHeartbeats 4000000 in
theorem kX8_ignore_b56 {X : XT} {b N sz : Nat} {ok : Nat → Prop} {r : RR} {w : HH} (hX : XOK X RX8 cX8_ignore 4 4) (hM : N ≤ MM) (hW : WT KM lnM ok N r) (p0 : Nat) (t0 : KM p0 = 8 ∧ ok p0) (hR : XR X b KM lnM MM (none) 0 0 N sz none w r) (k2 : HH → Int32 → Option (HH)) (hk2 : ∀ (h : HH) (x1 : Int32), k2 h x1 = some w → GX X b KM lnM MM 4 0 0 N sz 2 [(0, .ref (b + p0)), (1, .int x1)] [] h r) (k19 : HH → Int32 → Int32 → Option (HH)) (hk19 : ∀ (h : HH) (x1 : Int32) (x2 : Int32), k19 h x1 x2 = some w → GX X b KM lnM MM 4 0 0 N sz 19 [(0, .ref (b + p0)), (1, .int x1), (2, .int x2)] [] h r) (h : HH) (u0 : Nat) (s1 : Int32) (s2 : Int32) (s3 : Int32) (x1 : Int32) (x2 : Int32) (ts0 : KM u0 = 10 ∧ ok u0) (hF : fX8_ignore_b56 r p0 k2 k19 h u0 s1 s2 s3 x1 x2 = some w) : GX X b KM lnM MM 4 0 0 N sz 56 [(0, .ref (b + p0)), (1, .int x1), (2, .int x2)] [.int s3, .int s2, .int s1, .ref (b + u0)] h r := by
  rw [fX8_ignore_b56] at hF
  refine g_ior hX dX8_ignore_56 ?_
  obtain ⟨g57, hF⟩ := gd_some hF
  obtain ⟨h57, e57, hF⟩ := lt_some hF
  refine g_bast hX dX8_ignore_57 ts0.1 (hW.1 _ ts0.2).1 (hW.1 _ ts0.2).2 hM g57 e57 ?_
  refine g_iinc (L' := [(2, .int (x2 + 1)), (0, .ref (b + p0)), (1, .int x1)]) (j := 2) hX dX8_ignore_58 rfl rfl (by decide) rfl ?_
  refine g_goto (tgt := 19) hX dX8_ignore_61 (by decide) ?_
  refine g_sub (L' := [(0, .ref (b + p0)), (1, .int x1), (2, .int (x2 + 1))]) [1, 2, 0] rfl ?_
  exact hk19 h57 x1 (x2 + 1) hF
set_option maxRecDepth 100000 in
set_option maxHeartbeats 4000000 in
theorem kX8_ignore_b55 {X : XT} {b N sz : Nat} {ok : Nat → Prop} {r : RR} {w : HH} (hX : XOK X RX8 cX8_ignore 4 4) (hM : N ≤ MM) (hW : WT KM lnM ok N r) (p0 : Nat) (t0 : KM p0 = 8 ∧ ok p0) (hR : XR X b KM lnM MM (none) 0 0 N sz none w r) (k2 : HH → Int32 → Option (HH)) (hk2 : ∀ (h : HH) (x1 : Int32), k2 h x1 = some w → GX X b KM lnM MM 4 0 0 N sz 2 [(0, .ref (b + p0)), (1, .int x1)] [] h r) (k19 : HH → Int32 → Int32 → Option (HH)) (hk19 : ∀ (h : HH) (x1 : Int32) (x2 : Int32), k19 h x1 x2 = some w → GX X b KM lnM MM 4 0 0 N sz 19 [(0, .ref (b + p0)), (1, .int x1), (2, .int x2)] [] h r) (h : HH) (u0 : Nat) (s1 : Int32) (s2 : Int32) (x1 : Int32) (x2 : Int32) (ts0 : KM u0 = 10 ∧ ok u0) (hF : fX8_ignore_b55 r p0 k2 k19 h u0 s1 s2 x1 x2 = some w) : GX X b KM lnM MM 4 0 0 N sz 55 [(0, .ref (b + p0)), (1, .int x1), (2, .int x2)] [.int s2, .int s1, .ref (b + u0)] h r := by
  rw [fX8_ignore_b55] at hF
  refine g_iconst (v := 0) hX dX8_ignore_55 (by decide) ?_
  refine g_sub (L' := [(0, .ref (b + p0)), (1, .int x1), (2, .int x2)]) [0, 1, 2] rfl ?_
  exact kX8_ignore_b56 hX hM hW p0 t0 hR k2 hk2 k19 hk19 h u0 s1 s2 0 x1 x2 ts0 hF
set_option maxRecDepth 100000 in
set_option maxHeartbeats 4000000 in
theorem kX8_ignore_b19 {X : XT} {b N sz : Nat} {ok : Nat → Prop} {r : RR} {w : HH} (hX : XOK X RX8 cX8_ignore 4 4) (hM : N ≤ MM) (hW : WT KM lnM ok N r) (p0 : Nat) (t0 : KM p0 = 8 ∧ ok p0) (hR : XR X b KM lnM MM (none) 0 0 N sz none w r) (k2 : HH → Int32 → Option (HH)) (hk2 : ∀ (h : HH) (x1 : Int32), k2 h x1 = some w → GX X b KM lnM MM 4 0 0 N sz 2 [(0, .ref (b + p0)), (1, .int x1)] [] h r) : ∀ (n : Nat) (h : HH) (x1 : Int32) (x2 : Int32), fX8_ignore_b19 r p0 k2 n h x1 x2 = some w → GX X b KM lnM MM 4 0 0 N sz 19 [(0, .ref (b + p0)), (1, .int x1), (2, .int x2)] [] h r := by
  intro n
  induction n with
  | zero =>
    intro h x1 x2 hF
    cases hF
  | succ n ih =>
    intro h x1 x2 hF
    rw [fX8_ignore_b19] at hF
    refine g_iload_n hX dX8_ignore_19 (i := 2) rfl (j := 2) rfl ?_
    refine g_iconst (v := 3) hX dX8_ignore_20 (by decide) ?_
    refine g_icmp_ge (tgt := 64) hX dX8_ignore_21 (by decide) (fun c21 => ?_) (fun c21 => ?_)
    · have hF := ite_t hF c21
      refine g_iinc (L' := [(1, .int (x1 + 1)), (0, .ref (b + p0)), (2, .int x2)]) (j := 1) hX dX8_ignore_64 rfl rfl (by decide) rfl ?_
      refine g_goto (tgt := 2) hX dX8_ignore_67 (by decide) ?_
      refine g_sub (L' := [(0, .ref (b + p0)), (1, .int (x1 + 1))]) [1, 0] rfl ?_
      exact hk2 h (x1 + 1) hF
    · have hF := ite_f hF c21
      refine g_aload_n hX dX8_ignore_24 (i := 0) rfl (j := 0) rfl ?_
      have tf25 := (tyF (k := 25) hW t0 (by decide) rfl (by decide) : KM (r p0 25) = 10 ∧ ok (r p0 25))
      refine gf_X8_55 hX dX8_ignore_25 (ty1 hW t0) (hW.1 _ tf25.2).1 ?_
      refine g_iload_n hX dX8_ignore_28 (i := 1) rfl (j := 1) rfl ?_
      refine g_dup2 hX dX8_ignore_29 rfl rfl ?_
      obtain ⟨g30, hF⟩ := gd_some hF
      refine g_bald hX dX8_ignore_30 tf25.1 (hW.1 _ tf25.2).1 (hW.1 _ tf25.2).2 g30 ?_
      refine g_aload_n hX dX8_ignore_31 (i := 0) rfl (j := 0) rfl ?_
      have tf32 := (tyF (k := 3) hW t0 (by decide) rfl (by decide) : KM (r p0 3) = 15 ∧ ok (r p0 3))
      refine gf_X8_15 hX dX8_ignore_32 (ty1 hW t0) (hW.1 _ tf32.2).1 ?_
      refine g_iload_n hX dX8_ignore_35 (i := 2) rfl (j := 2) rfl ?_
      obtain ⟨g36, hF⟩ := gd_some hF
      have ta36 : KM (r (r p0 3) (ix x2)) = 10 ∧ ok (r (r p0 3) (ix x2)) := tyA hW tf32 (by decide) rfl (by decide) g36
      refine g_aald hX dX8_ignore_36 tf32.1 (by decide) (by decide) (hW.1 _ tf32.2).1 (hW.1 _ tf32.2).2 g36 (hW.1 _ ta36.2).1 ?_
      refine g_iload_n hX dX8_ignore_37 (i := 1) rfl (j := 1) rfl ?_
      obtain ⟨g38, hF⟩ := gd_some hF
      refine g_bald hX dX8_ignore_38 ta36.1 (hW.1 _ ta36.2).1 (hW.1 _ ta36.2).2 g38 ?_
      refine g_if_eq (tgt := 55) hX dX8_ignore_39 (by decide) (fun c39 => ?_) (fun c39 => ?_)
      · have hF := ite_t hF c39
        refine g_sub (L' := [(0, .ref (b + p0)), (1, .int x1), (2, .int x2)]) [0, 1, 2] rfl ?_
        exact kX8_ignore_b55 hX hM hW p0 t0 hR k2 hk2 (fun h_ z1_ z2_ => fX8_ignore_b19 r p0 k2 n h_ z1_ z2_) ih h (r p0 25) x1 (h (r p0 25) (ix x1)) x1 x2 tf25 hF
      · have hF := ite_f hF c39
        refine g_aload_n hX dX8_ignore_42 (i := 0) rfl (j := 0) rfl ?_
        refine g_iload_n hX dX8_ignore_43 (i := 2) rfl (j := 2) rfl ?_
        refine g_iload_n hX dX8_ignore_44 (i := 1) rfl (j := 1) rfl ?_
        obtain ⟨v45, h45, e45, hF⟩ := bi2_some hF
        refine g_callV (As := [.int x2, .int x1]) (rest := [.int (h (r p0 25) (ix x1)), .int x1, .ref (b + (r p0 25))]) (stk := [.int v45, .int (h (r p0 25) (ix x1)), .int x1, .ref (b + (r p0 25))]) hX dX8_ignore_45 (ctX8_isIgnoredOn hM hW p0 x2 x1 t0 e45) (by decide) (by decide) wm_X8_202 wi_X8_isIgnoredOn ws_X8_isIgnoredOn wz_X8 wc_X8_isIgnoredOn hyX8_isIgnoredOn rfl (ci := 8) rfl (by decide) t0.1 (hW.1 _ t0.2).1 (hW.1 _ t0.2).2 (Nat.le_of_ble_eq_true rfl) rfl rfl ?_ rfl rfl
        refine g_if_eq (tgt := 55) hX dX8_ignore_48 (by decide) (fun c48 => ?_) (fun c48 => ?_)
        · have hF := ite_t hF c48
          refine g_sub (L' := [(0, .ref (b + p0)), (1, .int x1), (2, .int x2)]) [0, 1, 2] rfl ?_
          exact kX8_ignore_b55 hX hM hW p0 t0 hR k2 hk2 (fun h_ z1_ z2_ => fX8_ignore_b19 r p0 k2 n h_ z1_ z2_) ih h45 (r p0 25) x1 (h (r p0 25) (ix x1)) x1 x2 tf25 hF
        · have hF := ite_f hF c48
          refine g_iconst (v := 1) hX dX8_ignore_51 (by decide) ?_
          refine g_goto (tgt := 56) hX dX8_ignore_52 (by decide) ?_
          refine g_sub (L' := [(0, .ref (b + p0)), (1, .int x1), (2, .int x2)]) [0, 1, 2] rfl ?_
          exact kX8_ignore_b56 hX hM hW p0 t0 hR k2 hk2 (fun h_ z1_ z2_ => fX8_ignore_b19 r p0 k2 n h_ z1_ z2_) ih h45 (r p0 25) x1 (h (r p0 25) (ix x1)) 1 x1 x2 tf25 hF
set_option maxRecDepth 100000 in
set_option maxHeartbeats 4000000 in
theorem kX8_ignore_b155 {X : XT} {b N sz : Nat} {ok : Nat → Prop} {r : RR} {w : HH} (hX : XOK X RX8 cX8_ignore 4 4) (hM : N ≤ MM) (hW : WT KM lnM ok N r) (p0 : Nat) (t0 : KM p0 = 8 ∧ ok p0) (hR : XR X b KM lnM MM (none) 0 0 N sz none w r) (k72 : HH → Int32 → Option (HH)) (hk72 : ∀ (h : HH) (x1 : Int32), k72 h x1 = some w → GX X b KM lnM MM 4 0 0 N sz 72 [(0, .ref (b + p0)), (1, .int x1)] [] h r) (k80 : HH → Int32 → Int32 → Option (HH)) (hk80 : ∀ (h : HH) (x1 : Int32) (x2 : Int32), k80 h x1 x2 = some w → GX X b KM lnM MM 4 0 0 N sz 80 [(0, .ref (b + p0)), (1, .int x1), (2, .int x2)] [] h r) (k90 : HH → Int32 → Int32 → Int32 → Option (HH)) (hk90 : ∀ (h : HH) (x1 : Int32) (x2 : Int32) (x3 : Int32), k90 h x1 x2 x3 = some w → GX X b KM lnM MM 4 0 0 N sz 90 [(0, .ref (b + p0)), (1, .int x1), (2, .int x2), (3, .int x3)] [] h r) (h : HH) (x1 : Int32) (x2 : Int32) (x3 : Int32) (hF : fX8_ignore_b155 r p0 k72 k80 k90 h x1 x2 x3 = some w) : GX X b KM lnM MM 4 0 0 N sz 155 [(0, .ref (b + p0)), (1, .int x1), (2, .int x2), (3, .int x3)] [] h r := by
  rw [fX8_ignore_b155] at hF
  refine g_iinc (L' := [(3, .int (x3 + 1)), (0, .ref (b + p0)), (1, .int x1), (2, .int x2)]) (j := 3) hX dX8_ignore_155 rfl rfl (by decide) rfl ?_
  refine g_goto (tgt := 90) hX dX8_ignore_158 (by decide) ?_
  refine g_sub (L' := [(0, .ref (b + p0)), (1, .int x1), (2, .int x2), (3, .int (x3 + 1))]) [1, 2, 3, 0] rfl ?_
  exact hk90 h x1 x2 (x3 + 1) hF
set_option maxRecDepth 100000 in
set_option maxHeartbeats 4000000 in
theorem kX8_ignore_b90 {X : XT} {b N sz : Nat} {ok : Nat → Prop} {r : RR} {w : HH} (hX : XOK X RX8 cX8_ignore 4 4) (hM : N ≤ MM) (hW : WT KM lnM ok N r) (p0 : Nat) (t0 : KM p0 = 8 ∧ ok p0) (hR : XR X b KM lnM MM (none) 0 0 N sz none w r) (k72 : HH → Int32 → Option (HH)) (hk72 : ∀ (h : HH) (x1 : Int32), k72 h x1 = some w → GX X b KM lnM MM 4 0 0 N sz 72 [(0, .ref (b + p0)), (1, .int x1)] [] h r) (k80 : HH → Int32 → Int32 → Option (HH)) (hk80 : ∀ (h : HH) (x1 : Int32) (x2 : Int32), k80 h x1 x2 = some w → GX X b KM lnM MM 4 0 0 N sz 80 [(0, .ref (b + p0)), (1, .int x1), (2, .int x2)] [] h r) : ∀ (n : Nat) (h : HH) (x1 : Int32) (x2 : Int32) (x3 : Int32), fX8_ignore_b90 r p0 k72 k80 n h x1 x2 x3 = some w → GX X b KM lnM MM 4 0 0 N sz 90 [(0, .ref (b + p0)), (1, .int x1), (2, .int x2), (3, .int x3)] [] h r := by
  intro n
  induction n with
  | zero =>
    intro h x1 x2 x3 hF
    cases hF
  | succ n ih =>
    intro h x1 x2 x3 hF
    rw [fX8_ignore_b90] at hF
    refine g_iload_n hX dX8_ignore_90 (i := 3) rfl (j := 3) rfl ?_
    refine g_iconst (v := 3) hX dX8_ignore_91 (by decide) ?_
    refine g_icmp_ge (tgt := 161) hX dX8_ignore_92 (by decide) (fun c92 => ?_) (fun c92 => ?_)
    · have hF := ite_t hF c92
      refine g_iinc (L' := [(2, .int (x2 + 1)), (0, .ref (b + p0)), (1, .int x1), (3, .int x3)]) (j := 2) hX dX8_ignore_161 rfl rfl (by decide) rfl ?_
      refine g_goto (tgt := 80) hX dX8_ignore_164 (by decide) ?_
      refine g_sub (L' := [(0, .ref (b + p0)), (1, .int x1), (2, .int (x2 + 1))]) [1, 2, 0] rfl ?_
      exact hk80 h x1 (x2 + 1) hF
    · have hF := ite_f hF c92
      refine g_aload_n hX dX8_ignore_95 (i := 0) rfl (j := 0) rfl ?_
      have tf96 := (tyF (k := 25) hW t0 (by decide) rfl (by decide) : KM (r p0 25) = 10 ∧ ok (r p0 25))
      refine gf_X8_55 hX dX8_ignore_96 (ty1 hW t0) (hW.1 _ tf96.2).1 ?_
      refine g_iload_n hX dX8_ignore_99 (i := 2) rfl (j := 2) rfl ?_
      obtain ⟨g100, hF⟩ := gd_some hF
      refine g_bald hX dX8_ignore_100 tf96.1 (hW.1 _ tf96.2).1 (hW.1 _ tf96.2).2 g100 ?_
      refine g_if_ne (tgt := 155) hX dX8_ignore_101 (by decide) (fun c101 => ?_) (fun c101 => ?_)
      · have hF := ite_t hF c101
        refine g_sub (L' := [(0, .ref (b + p0)), (1, .int x1), (2, .int x2), (3, .int x3)]) [0, 1, 2, 3] rfl ?_
        exact kX8_ignore_b155 hX hM hW p0 t0 hR k72 hk72 k80 hk80 (fun h_ z1_ z2_ z3_ => fX8_ignore_b90 r p0 k72 k80 n h_ z1_ z2_ z3_) ih h x1 x2 x3 hF
      · have hF := ite_f hF (fun z => z c101)
        refine g_aload_n hX dX8_ignore_104 (i := 0) rfl (j := 0) rfl ?_
        have tf105 := (tyF (k := 3) hW t0 (by decide) rfl (by decide) : KM (r p0 3) = 15 ∧ ok (r p0 3))
        refine gf_X8_15 hX dX8_ignore_105 (ty1 hW t0) (hW.1 _ tf105.2).1 ?_
        refine g_iload_n hX dX8_ignore_108 (i := 3) rfl (j := 3) rfl ?_
        obtain ⟨g109, hF⟩ := gd_some hF
        have ta109 : KM (r (r p0 3) (ix x3)) = 10 ∧ ok (r (r p0 3) (ix x3)) := tyA hW tf105 (by decide) rfl (by decide) g109
        refine g_aald hX dX8_ignore_109 tf105.1 (by decide) (by decide) (hW.1 _ tf105.2).1 (hW.1 _ tf105.2).2 g109 (hW.1 _ ta109.2).1 ?_
        refine g_iload_n hX dX8_ignore_110 (i := 2) rfl (j := 2) rfl ?_
        obtain ⟨g111, hF⟩ := gd_some hF
        refine g_bald hX dX8_ignore_111 ta109.1 (hW.1 _ ta109.2).1 (hW.1 _ ta109.2).2 g111 ?_
        refine g_if_eq (tgt := 155) hX dX8_ignore_112 (by decide) (fun c112 => ?_) (fun c112 => ?_)
        · have hF := ite_t hF c112
          refine g_sub (L' := [(0, .ref (b + p0)), (1, .int x1), (2, .int x2), (3, .int x3)]) [0, 1, 2, 3] rfl ?_
          exact kX8_ignore_b155 hX hM hW p0 t0 hR k72 hk72 k80 hk80 (fun h_ z1_ z2_ z3_ => fX8_ignore_b90 r p0 k72 k80 n h_ z1_ z2_ z3_) ih h x1 x2 x3 hF
        · have hF := ite_f hF c112
          refine g_aload_n hX dX8_ignore_115 (i := 0) rfl (j := 0) rfl ?_
          have tf116 := (tyF (k := 4) hW t0 (by decide) rfl (by decide) : KM (r p0 4) = 14 ∧ ok (r p0 4))
          refine gf_X8_20 hX dX8_ignore_116 (ty1 hW t0) (hW.1 _ tf116.2).1 ?_
          refine g_iload_n hX dX8_ignore_119 (i := 3) rfl (j := 3) rfl ?_
          obtain ⟨g120, hF⟩ := gd_some hF
          have ta120 : KM (r (r p0 4) (ix x3)) = 9 ∧ ok (r (r p0 4) (ix x3)) := tyA hW tf116 (by decide) rfl (by decide) g120
          refine g_aald hX dX8_ignore_120 tf116.1 (by decide) (by decide) (hW.1 _ tf116.2).1 (hW.1 _ tf116.2).2 g120 (hW.1 _ ta120.2).1 ?_
          refine g_iload_n hX dX8_ignore_121 (i := 2) rfl (j := 2) rfl ?_
          obtain ⟨g122, hF⟩ := gd_some hF
          refine g_iald hX dX8_ignore_122 ta120.1 (hW.1 _ ta120.2).1 (hW.1 _ ta120.2).2 g122 ?_
          refine g_iconst (v := (-1)) hX dX8_ignore_123 (by decide) ?_
          refine g_icmp_eq (tgt := 155) hX dX8_ignore_124 (by decide) (fun c124 => ?_) (fun c124 => ?_)
          · have hF := ite_t hF c124
            refine g_sub (L' := [(0, .ref (b + p0)), (1, .int x1), (2, .int x2), (3, .int x3)]) [0, 1, 2, 3] rfl ?_
            exact kX8_ignore_b155 hX hM hW p0 t0 hR k72 hk72 k80 hk80 (fun h_ z1_ z2_ z3_ => fX8_ignore_b90 r p0 k72 k80 n h_ z1_ z2_ z3_) ih h x1 x2 x3 hF
          · have hF := ite_f hF c124
            refine g_aload_n hX dX8_ignore_127 (i := 0) rfl (j := 0) rfl ?_
            have tf128 := (tyF (k := 25) hW t0 (by decide) rfl (by decide) : KM (r p0 25) = 10 ∧ ok (r p0 25))
            refine gf_X8_55 hX dX8_ignore_128 (ty1 hW t0) (hW.1 _ tf128.2).1 ?_
            refine g_aload_n hX dX8_ignore_131 (i := 0) rfl (j := 0) rfl ?_
            have tf132 := (tyF (k := 4) hW t0 (by decide) rfl (by decide) : KM (r p0 4) = 14 ∧ ok (r p0 4))
            refine gf_X8_20 hX dX8_ignore_132 (ty1 hW t0) (hW.1 _ tf132.2).1 ?_
            refine g_iload_n hX dX8_ignore_135 (i := 3) rfl (j := 3) rfl ?_
            obtain ⟨g136, hF⟩ := gd_some hF
            have ta136 : KM (r (r p0 4) (ix x3)) = 9 ∧ ok (r (r p0 4) (ix x3)) := tyA hW tf132 (by decide) rfl (by decide) g136
            refine g_aald hX dX8_ignore_136 tf132.1 (by decide) (by decide) (hW.1 _ tf132.2).1 (hW.1 _ tf132.2).2 g136 (hW.1 _ ta136.2).1 ?_
            refine g_iload_n hX dX8_ignore_137 (i := 2) rfl (j := 2) rfl ?_
            obtain ⟨g138, hF⟩ := gd_some hF
            refine g_iald hX dX8_ignore_138 ta136.1 (hW.1 _ ta136.2).1 (hW.1 _ ta136.2).2 g138 ?_
            obtain ⟨g139, hF⟩ := gd_some hF
            refine g_bald hX dX8_ignore_139 tf128.1 (hW.1 _ tf128.2).1 (hW.1 _ tf128.2).2 g139 ?_
            refine g_if_ne (tgt := 146) hX dX8_ignore_140 (by decide) (fun c140 => ?_) (fun c140 => ?_)
            · have hF := ite_t hF c140
              refine g_aload_n hX dX8_ignore_146 (i := 0) rfl (j := 0) rfl ?_
              have tf147 := (tyF (k := 25) hW t0 (by decide) rfl (by decide) : KM (r p0 25) = 10 ∧ ok (r p0 25))
              refine gf_X8_55 hX dX8_ignore_147 (ty1 hW t0) (hW.1 _ tf147.2).1 ?_
              refine g_iload_n hX dX8_ignore_150 (i := 2) rfl (j := 2) rfl ?_
              refine g_iconst (v := 1) hX dX8_ignore_151 (by decide) ?_
              obtain ⟨g152, hF⟩ := gd_some hF
              obtain ⟨h152, e152, hF⟩ := lt_some hF
              refine g_bast hX dX8_ignore_152 tf147.1 (hW.1 _ tf147.2).1 (hW.1 _ tf147.2).2 hM g152 e152 ?_
              refine g_iconst (v := 1) hX dX8_ignore_153 (by decide) ?_
              refine g_istore_n (L' := [(1, .int 1), (0, .ref (b + p0)), (2, .int x2), (3, .int x3)]) hX dX8_ignore_154 (i := 1) rfl (by decide) rfl ?_
              refine g_sub (L' := [(0, .ref (b + p0)), (1, .int 1), (2, .int x2), (3, .int x3)]) [1, 0, 2, 3] rfl ?_
              exact kX8_ignore_b155 hX hM hW p0 t0 hR k72 hk72 k80 hk80 (fun h_ z1_ z2_ z3_ => fX8_ignore_b90 r p0 k72 k80 n h_ z1_ z2_ z3_) ih h152 1 x2 x3 hF
            · have hF := ite_f hF (fun z => z c140)
              refine g_goto (tgt := 155) hX dX8_ignore_143 (by decide) ?_
              refine g_sub (L' := [(0, .ref (b + p0)), (1, .int x1), (2, .int x2), (3, .int x3)]) [0, 1, 2, 3] rfl ?_
              exact kX8_ignore_b155 hX hM hW p0 t0 hR k72 hk72 k80 hk80 (fun h_ z1_ z2_ z3_ => fX8_ignore_b90 r p0 k72 k80 n h_ z1_ z2_ z3_) ih h x1 x2 x3 hF
set_option maxRecDepth 100000 in
set_option maxHeartbeats 4000000 in
theorem kX8_ignore_b80 {X : XT} {b N sz : Nat} {ok : Nat → Prop} {r : RR} {w : HH} (hX : XOK X RX8 cX8_ignore 4 4) (hM : N ≤ MM) (hW : WT KM lnM ok N r) (p0 : Nat) (t0 : KM p0 = 8 ∧ ok p0) (hR : XR X b KM lnM MM (none) 0 0 N sz none w r) (k72 : HH → Int32 → Option (HH)) (hk72 : ∀ (h : HH) (x1 : Int32), k72 h x1 = some w → GX X b KM lnM MM 4 0 0 N sz 72 [(0, .ref (b + p0)), (1, .int x1)] [] h r) : ∀ (n : Nat) (h : HH) (x1 : Int32) (x2 : Int32), fX8_ignore_b80 r p0 k72 n h x1 x2 = some w → GX X b KM lnM MM 4 0 0 N sz 80 [(0, .ref (b + p0)), (1, .int x1), (2, .int x2)] [] h r := by
  intro n
  induction n with
  | zero =>
    intro h x1 x2 hF
    cases hF
  | succ n ih =>
    intro h x1 x2 hF
    rw [fX8_ignore_b80] at hF
    refine g_iload_n hX dX8_ignore_80 (i := 2) rfl (j := 2) rfl ?_
    refine g_aload_n hX dX8_ignore_81 (i := 0) rfl (j := 0) rfl ?_
    refine gf_X8_130 hX dX8_ignore_82 (ty1 hW t0) ?_
    refine g_icmp_ge (tgt := 167) hX dX8_ignore_85 (by decide) (fun c85 => ?_) (fun c85 => ?_)
    · have hF := ite_t hF c85
      refine g_goto (tgt := 72) hX dX8_ignore_167 (by decide) ?_
      refine g_sub (L' := [(0, .ref (b + p0)), (1, .int x1)]) [0, 1] rfl ?_
      exact hk72 h x1 hF
    · have hF := ite_f hF c85
      refine g_iconst (v := 0) hX dX8_ignore_88 (by decide) ?_
      refine g_istore_n (L' := [(3, .int 0), (0, .ref (b + p0)), (1, .int x1), (2, .int x2)]) hX dX8_ignore_89 (i := 3) rfl (by decide) rfl ?_
      refine g_sub (L' := [(0, .ref (b + p0)), (1, .int x1), (2, .int x2), (3, .int 0)]) [1, 2, 3, 0] rfl ?_
      exact kX8_ignore_b90 hX hM hW p0 t0 hR k72 hk72 (fun h_ z1_ z2_ => fX8_ignore_b80 r p0 k72 n h_ z1_ z2_) ih lpF h x1 x2 0 hF
set_option maxRecDepth 100000 in
set_option maxHeartbeats 4000000 in
theorem kX8_ignore_b72 {X : XT} {b N sz : Nat} {ok : Nat → Prop} {r : RR} {w : HH} (hX : XOK X RX8 cX8_ignore 4 4) (hM : N ≤ MM) (hW : WT KM lnM ok N r) (p0 : Nat) (t0 : KM p0 = 8 ∧ ok p0) (hR : XR X b KM lnM MM (none) 0 0 N sz none w r) : ∀ (n : Nat) (h : HH) (x1 : Int32), fX8_ignore_b72 r p0 n h x1 = some w → GX X b KM lnM MM 4 0 0 N sz 72 [(0, .ref (b + p0)), (1, .int x1)] [] h r := by
  intro n
  induction n with
  | zero =>
    intro h x1 hF
    cases hF
  | succ n ih =>
    intro h x1 hF
    rw [fX8_ignore_b72] at hF
    refine g_iload_n hX dX8_ignore_72 (i := 1) rfl (j := 1) rfl ?_
    refine g_if_eq (tgt := 170) hX dX8_ignore_73 (by decide) (fun c73 => ?_) (fun c73 => ?_)
    · have hF := ite_t hF c73
      obtain rfl := Option.some.inj hF
      exact g_vret hX dX8_ignore_170 hR
    · have hF := ite_f hF c73
      refine g_iconst (v := 0) hX dX8_ignore_76 (by decide) ?_
      refine g_istore_n (L' := [(1, .int 0), (0, .ref (b + p0))]) hX dX8_ignore_77 (i := 1) rfl (by decide) rfl ?_
      refine g_iconst (v := 0) hX dX8_ignore_78 (by decide) ?_
      refine g_istore_n (L' := [(2, .int 0), (1, .int 0), (0, .ref (b + p0))]) hX dX8_ignore_79 (i := 2) rfl (by decide) rfl ?_
      refine g_sub (L' := [(0, .ref (b + p0)), (1, .int 0), (2, .int 0)]) [2, 1, 0] rfl ?_
      exact kX8_ignore_b80 hX hM hW p0 t0 hR (fun h_ z1_ => fX8_ignore_b72 r p0 n h_ z1_) ih lpF h 0 0 hF
set_option maxRecDepth 100000 in
set_option maxHeartbeats 4000000 in
theorem kX8_ignore_b2 {X : XT} {b N sz : Nat} {ok : Nat → Prop} {r : RR} {w : HH} (hX : XOK X RX8 cX8_ignore 4 4) (hM : N ≤ MM) (hW : WT KM lnM ok N r) (p0 : Nat) (t0 : KM p0 = 8 ∧ ok p0) (hR : XR X b KM lnM MM (none) 0 0 N sz none w r) : ∀ (n : Nat) (h : HH) (x1 : Int32), fX8_ignore_b2 r p0 n h x1 = some w → GX X b KM lnM MM 4 0 0 N sz 2 [(0, .ref (b + p0)), (1, .int x1)] [] h r := by
  intro n
  induction n with
  | zero =>
    intro h x1 hF
    cases hF
  | succ n ih =>
    intro h x1 hF
    rw [fX8_ignore_b2] at hF
    refine g_iload_n hX dX8_ignore_2 (i := 1) rfl (j := 1) rfl ?_
    refine g_aload_n hX dX8_ignore_3 (i := 0) rfl (j := 0) rfl ?_
    refine gf_X8_130 hX dX8_ignore_4 (ty1 hW t0) ?_
    refine g_icmp_ge (tgt := 70) hX dX8_ignore_7 (by decide) (fun c7 => ?_) (fun c7 => ?_)
    · have hF := ite_t hF c7
      refine g_iconst (v := 1) hX dX8_ignore_70 (by decide) ?_
      refine g_istore_n (L' := [(1, .int 1), (0, .ref (b + p0))]) hX dX8_ignore_71 (i := 1) rfl (by decide) rfl ?_
      refine g_sub (L' := [(0, .ref (b + p0)), (1, .int 1)]) [1, 0] rfl ?_
      exact kX8_ignore_b72 hX hM hW p0 t0 hR lpF h 1 hF
    · have hF := ite_f hF c7
      refine g_aload_n hX dX8_ignore_10 (i := 0) rfl (j := 0) rfl ?_
      have tf11 := (tyF (k := 25) hW t0 (by decide) rfl (by decide) : KM (r p0 25) = 10 ∧ ok (r p0 25))
      refine gf_X8_55 hX dX8_ignore_11 (ty1 hW t0) (hW.1 _ tf11.2).1 ?_
      refine g_iload_n hX dX8_ignore_14 (i := 1) rfl (j := 1) rfl ?_
      refine g_iconst (v := 0) hX dX8_ignore_15 (by decide) ?_
      obtain ⟨g16, hF⟩ := gd_some hF
      obtain ⟨h16, e16, hF⟩ := lt_some hF
      refine g_bast hX dX8_ignore_16 tf11.1 (hW.1 _ tf11.2).1 (hW.1 _ tf11.2).2 hM g16 e16 ?_
      refine g_iconst (v := 0) hX dX8_ignore_17 (by decide) ?_
      refine g_istore_n (L' := [(2, .int 0), (0, .ref (b + p0)), (1, .int x1)]) hX dX8_ignore_18 (i := 2) rfl (by decide) rfl ?_
      refine g_sub (L' := [(0, .ref (b + p0)), (1, .int x1), (2, .int 0)]) [1, 2, 0] rfl ?_
      exact kX8_ignore_b19 hX hM hW p0 t0 hR (fun h_ z1_ => fX8_ignore_b2 r p0 n h_ z1_) ih lpF h16 x1 0 hF
set_option maxRecDepth 100000 in
set_option maxHeartbeats 4000000 in
theorem kX8_ignore {X : XT} {b N sz : Nat} {ok : Nat → Prop} {h : HH} {r : RR} {w : HH} (hX : XOK X RX8 cX8_ignore 4 4) (hM : N ≤ MM) (hW : WT KM lnM ok N r) (p0 : Nat) (t0 : KM p0 = 8 ∧ ok p0) (hR : XR X b KM lnM MM (none) 0 0 N sz none w r) (hF : fX8_ignore h r p0 = some w) : GX X b KM lnM MM 4 0 0 N sz 0 [(0, .ref (b + p0))] [] h r := by
  rw [fX8_ignore] at hF
  refine g_iconst (v := 0) hX dX8_ignore_0 (by decide) ?_
  refine g_istore_n (L' := [(1, .int 0), (0, .ref (b + p0))]) hX dX8_ignore_1 (i := 1) rfl (by decide) rfl ?_
  refine g_sub (L' := [(0, .ref (b + p0)), (1, .int 0)]) [1, 0] rfl ?_
  exact kX8_ignore_b2 hX hM hW p0 t0 hR lpF h 0 hF
theorem ctX8_ignore {b N sz : Nat} {ok : Nat → Prop} {h : HH} {r : RR} {w : HH} (hM : N ≤ MM) (hW : WT KM lnM ok N r) (p0 : Nat) (t0 : KM p0 = 8 ∧ ok p0) (hF : fX8_ignore h r p0 = some w) : CT yX8_ignore cX8_ignore 4 (none) 4 b KM lnM MM N sz [.ref (b + p0)] h r N sz none w r 0 0 :=
  CT_of (by decide) rfl (Nat.le_of_ble_eq_true rfl) (by decide) trivial (fun X hX hR => kX8_ignore hX hM hW p0 t0 hR hF)
