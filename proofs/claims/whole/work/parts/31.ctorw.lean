def mnaok (K ln : Nat → Nat) (N n ci cj k : Nat) : Bool := decide (K (N + 1) = ci ∧ ln (N + 1) = n) && (List.range n).all (fun j => decide (K (N + 2 + j) = cj ∧ ln (N + 2 + j) = k))
theorem mnaok_spec {K ln : Nat → Nat} {N n ci cj k : Nat} (h : mnaok K ln N n ci cj k = true) : K (N + 1) = ci ∧ ln (N + 1) = n ∧ ∀ j, j < n → K (N + 2 + j) = cj ∧ ln (N + 2 + j) = k := by
  unfold mnaok at h
  simp only [Bool.and_eq_true, decide_eq_true_eq, List.all_eq_true, List.mem_range] at h
  exact ⟨h.1.1, h.1.2, fun j hj => h.2 j hj⟩
theorem WT_tree {N : Nat} {r : RR} {p : Nat} (t : KA p = 5 ∧ 1 ≤ p ∧ p ≤ N) (g0 : KA (r p 0) = 10 ∧ 1 ≤ r p 0 ∧ r p 0 ≤ N) (g1 : KA (r p 1) = 9 ∧ 1 ≤ r p 1 ∧ r p 1 ≤ N) (g2 : KA (r p 2) = 9 ∧ 1 ≤ r p 2 ∧ r p 2 ≤ N) (g3 : KA (r p 3) = 9 ∧ 1 ≤ r p 3 ∧ r p 3 ≤ N) : WT KA lnA (fun q => q = p ∨ ((KA q = 9 ∨ KA q = 10) ∧ 1 ≤ q ∧ q ≤ N)) N r := by
  refine ⟨fun q hq => ?_, fun q k hq h16 hl => ?_⟩
  · rcases hq with rfl | ⟨-, h1, h2⟩
    · exact t.2
    · exact ⟨h1, h2⟩
  · rcases hq with rfl | ⟨h | h, -, -⟩
    · rw [t.1] at h16 ⊢
      match k, h16 with
      | 0, _ => exact ⟨g0.1, Or.inr ⟨Or.inr g0.1, g0.2⟩⟩
      | 1, _ => exact ⟨g1.1, Or.inr ⟨Or.inl g1.1, g1.2⟩⟩
      | 2, _ => exact ⟨g2.1, Or.inr ⟨Or.inl g2.1, g2.2⟩⟩
      | 3, _ => exact ⟨g3.1, Or.inr ⟨Or.inl g3.1, g3.2⟩⟩
      | k + 4, h16 => exact absurd (show (20 : Nat) < 16 from h16) (by decide)
    · rw [h] at h16
      exact absurd (show (20 : Nat) < 16 from h16) (by decide)
    · rw [h] at h16
      exact absurd (show (20 : Nat) < 16 from h16) (by decide)
theorem fv_zero (b c j : Nat) : fv b c (fun _ => 0) (fun _ => 0) j = if (c = 0 ∧ j = 0) ∨ sty c j < 16 then .null else .int 0 := by
  unfold fv
  by_cases h1 : c = 0 ∧ j = 0
  · rw [if_pos h1, if_pos (Or.inl h1)]; rfl
  · rw [if_neg h1]
    by_cases h2 : sty c j < 16
    · rw [if_pos h2, if_pos (Or.inr h2)]; rfl
    · rw [if_neg h2, if_neg (fun z => z.elim h1 h2)]
theorem dfX0 (b : Nat) : ∀ j, j < 9 → defaultValue (tyX0 j) = fv b 0 (fun _ => 0) (fun _ => 0) j := fun j hj => (show ∀ j, j < 9 → defaultValue (tyX0 j) = if (0 = 0 ∧ j = 0) ∨ sty 0 j < 16 then .null else .int 0 from by decide +kernel) j hj |>.trans (fv_zero b 0 j).symm
theorem dfX1 (b : Nat) : ∀ j, j < 3 → defaultValue (tyX1 j) = fv b 1 (fun _ => 0) (fun _ => 0) j := fun j hj => (show ∀ j, j < 3 → defaultValue (tyX1 j) = if (1 = 0 ∧ j = 0) ∨ sty 1 j < 16 then .null else .int 0 from by decide +kernel) j hj |>.trans (fv_zero b 1 j).symm
theorem dfX2 (b : Nat) : ∀ j, j < 5 → defaultValue (tyX2 j) = fv b 2 (fun _ => 0) (fun _ => 0) j := fun j hj => (show ∀ j, j < 5 → defaultValue (tyX2 j) = if (2 = 0 ∧ j = 0) ∨ sty 2 j < 16 then .null else .int 0 from by decide +kernel) j hj |>.trans (fv_zero b 2 j).symm
theorem dfX3 (b : Nat) : ∀ j, j < 3 → defaultValue (tyX3 j) = fv b 3 (fun _ => 0) (fun _ => 0) j := fun j hj => (show ∀ j, j < 3 → defaultValue (tyX3 j) = if (3 = 0 ∧ j = 0) ∨ sty 3 j < 16 then .null else .int 0 from by decide +kernel) j hj |>.trans (fv_zero b 3 j).symm
theorem dfX4 (b : Nat) : ∀ j, j < 6 → defaultValue (tyX4 j) = fv b 4 (fun _ => 0) (fun _ => 0) j := fun j hj => (show ∀ j, j < 6 → defaultValue (tyX4 j) = if (4 = 0 ∧ j = 0) ∨ sty 4 j < 16 then .null else .int 0 from by decide +kernel) j hj |>.trans (fv_zero b 4 j).symm
theorem dfX5 (b : Nat) : ∀ j, j < 4 → defaultValue (tyX5 j) = fv b 5 (fun _ => 0) (fun _ => 0) j := fun j hj => (show ∀ j, j < 4 → defaultValue (tyX5 j) = if (5 = 0 ∧ j = 0) ∨ sty 5 j < 16 then .null else .int 0 from by decide +kernel) j hj |>.trans (fv_zero b 5 j).symm
theorem dfX6 (b : Nat) : ∀ j, j < 11 → defaultValue (tyX6 j) = fv b 6 (fun _ => 0) (fun _ => 0) j := fun j hj => (show ∀ j, j < 11 → defaultValue (tyX6 j) = if (6 = 0 ∧ j = 0) ∨ sty 6 j < 16 then .null else .int 0 from by decide +kernel) j hj |>.trans (fv_zero b 6 j).symm
theorem dfX7 (b : Nat) : ∀ j, j < 8 → defaultValue (tyX7 j) = fv b 7 (fun _ => 0) (fun _ => 0) j := fun j hj => (show ∀ j, j < 8 → defaultValue (tyX7 j) = if (7 = 0 ∧ j = 0) ∨ sty 7 j < 16 then .null else .int 0 from by decide +kernel) j hj |>.trans (fv_zero b 7 j).symm
theorem dfX8 (b : Nat) : ∀ j, j < 55 → defaultValue (tyX8 j) = fv b 8 (fun _ => 0) (fun _ => 0) j := fun j hj => (show ∀ j, j < 55 → defaultValue (tyX8 j) = if (8 = 0 ∧ j = 0) ∨ sty 8 j < 16 then .null else .int 0 from by decide +kernel) j hj |>.trans (fv_zero b 8 j).symm
theorem wlm_X0_15 : Cond.classLink RX0 15 ("[" ++ (FieldType.array .int).toString) ∈ lw_tbl := by
  have e : ("[" ++ (FieldType.array .int).toString) = "[[I" := by decide +kernel
  rw [e]
  exact wl_X0_15
theorem wlm_X8_13 : Cond.classLink RX8 13 ("[" ++ (FieldType.array .boolean).toString) ∈ lw_tbl := by
  have e : ("[" ++ (FieldType.array .boolean).toString) = "[[Z" := by decide +kernel
  rw [e]
  exact wl_X8_13
theorem wlm_X8_18 : Cond.classLink RX8 18 ("[" ++ (FieldType.array .int).toString) ∈ lw_tbl := by
  have e : ("[" ++ (FieldType.array .int).toString) = "[[I" := by decide +kernel
  rw [e]
  exact wl_X8_18
theorem hiX5_init : yX5_init.cls ≠ "java/lang/invoke/MethodHandle" ∧ yX5_init.cls ≠ "java/lang/invoke/VarHandle" ∧ (parseMethodDescriptor yX5_init.desc).map (fun d => d.parameters.length) = some 0 := by decide +kernel
theorem hiX0_init : yX0_init.cls ≠ "java/lang/invoke/MethodHandle" ∧ yX0_init.cls ≠ "java/lang/invoke/VarHandle" ∧ (parseMethodDescriptor yX0_init.desc).map (fun d => d.parameters.length) = some 1 := by decide +kernel
theorem hiX1_init : yX1_init.cls ≠ "java/lang/invoke/MethodHandle" ∧ yX1_init.cls ≠ "java/lang/invoke/VarHandle" ∧ (parseMethodDescriptor yX1_init.desc).map (fun d => d.parameters.length) = some 0 := by decide +kernel
theorem hiX2_init : yX2_init.cls ≠ "java/lang/invoke/MethodHandle" ∧ yX2_init.cls ≠ "java/lang/invoke/VarHandle" ∧ (parseMethodDescriptor yX2_init.desc).map (fun d => d.parameters.length) = some 0 := by decide +kernel
theorem hiX3_init : yX3_init.cls ≠ "java/lang/invoke/MethodHandle" ∧ yX3_init.cls ≠ "java/lang/invoke/VarHandle" ∧ (parseMethodDescriptor yX3_init.desc).map (fun d => d.parameters.length) = some 0 := by decide +kernel
theorem hiX4_init : yX4_init.cls ≠ "java/lang/invoke/MethodHandle" ∧ yX4_init.cls ≠ "java/lang/invoke/VarHandle" ∧ (parseMethodDescriptor yX4_init.desc).map (fun d => d.parameters.length) = some 0 := by decide +kernel
theorem hiX6_init : yX6_init.cls ≠ "java/lang/invoke/MethodHandle" ∧ yX6_init.cls ≠ "java/lang/invoke/VarHandle" ∧ (parseMethodDescriptor yX6_init.desc).map (fun d => d.parameters.length) = some 0 := by decide +kernel
theorem hiX7_init : yX7_init.cls ≠ "java/lang/invoke/MethodHandle" ∧ yX7_init.cls ≠ "java/lang/invoke/VarHandle" ∧ (parseMethodDescriptor yX7_init.desc).map (fun d => d.parameters.length) = some 0 := by decide +kernel
theorem hiX8_init : yX8_init.cls ≠ "java/lang/invoke/MethodHandle" ∧ yX8_init.cls ≠ "java/lang/invoke/VarHandle" ∧ (parseMethodDescriptor yX8_init.desc).map (fun d => d.parameters.length) = some 0 := by decide +kernel
def fX5_init (N : Nat) (h : HH) (r : RR) (p0 : Nat) : Option (HH × RR) := gd (decide (N + 4 ≤ MA)) (gd (decide (KA (N + 1) = 10 ∧ lnA (N + 1) = 30)) (lt (zrow h (N + 1)) (fun h_5 => lt (zrowR r (N + 1)) (fun r_5 => lt (upR r_5 p0 0 (N + 1)) (fun r_6 => gd (decide (KA (N + 2) = 9 ∧ lnA (N + 2) = 30)) (lt (zrow h_5 (N + 2)) (fun h_9 => lt (zrowR r_6 (N + 2)) (fun r_9 => lt (upR r_9 p0 1 (N + 2)) (fun r_10 => gd (decide (KA (N + 3) = 9 ∧ lnA (N + 3) = 30)) (lt (zrow h_9 (N + 3)) (fun h_13 => lt (zrowR r_10 (N + 3)) (fun r_13 => lt (upR r_13 p0 2 (N + 3)) (fun r_14 => gd (decide (KA (N + 4) = 9 ∧ lnA (N + 4) = 30)) (lt (zrow h_13 (N + 4)) (fun h_17 => lt (zrowR r_14 (N + 4)) (fun r_17 => lt (upR r_17 p0 3 (N + 4)) (fun r_18 => gd (decide ((KA (r_18 p0 0) = 10 ∧ 1 ≤ r_18 p0 0 ∧ r_18 p0 0 ≤ N + 4) ∧ (KA (r_18 p0 1) = 9 ∧ 1 ≤ r_18 p0 1 ∧ r_18 p0 1 ≤ N + 4) ∧ (KA (r_18 p0 2) = 9 ∧ 1 ≤ r_18 p0 2 ∧ r_18 p0 2 ≤ N + 4) ∧ (KA (r_18 p0 3) = 9 ∧ 1 ≤ r_18 p0 3 ∧ r_18 p0 3 ≤ N + 4))) ((fX5_clear h_17 r_18 p0).bind (fun h_20 => some (h_20, r_18))))))))))))))))))))
set_option maxRecDepth 100000 in
set_option maxHeartbeats 8000000 in
theorem kX5_init {X : XT} {b N sz : Nat} {h : HH} {r : RR} {w : HH × RR} (hX : XOK X RX5 cX5_init 1 3) (hI : XI X 4 120) (hN : XN X) (p0 : Nat) (t0 : KA p0 = 5 ∧ 1 ≤ p0 ∧ p0 ≤ N) (hsz : sz = b + N + 1) (hR : XR X b KA lnA MA none 4 120 (N + 4) (sz + 4) none w.1 w.2) (hF : fX5_init N h r p0 = some w) : GX X b KA lnA MA 1 0 0 N sz 0 [(0, .ref (b + p0))] [] h r := by
  rw [fX5_init] at hF
  obtain ⟨gN, hF⟩ := gd_some hF
  have gN := of_decide_eq_true gN
  have u0 := t0.2.1
  have v0 := t0.2.2
  refine g_aload_n hX dX5_init_0 (i := 0) rfl (j := 0) rfl ?_
  refine g_oinit hX dX5_init_1 wm_X5_3 (by decide) (Nat.le_of_ble_eq_true rfl) ?_
  refine g_aload_n hX dX5_init_4 (i := 0) rfl (j := 0) rfl ?_
  refine g_bipush (v := 30) hX dX5_init_5 (by decide) ?_
  obtain ⟨g_5, hF⟩ := gd_some hF
  have g_5 := of_decide_eq_true g_5
  obtain ⟨h_5, e_5, hF⟩ := lt_some hF
  obtain ⟨r_5, f_5, hF⟩ := lt_some hF
  refine g_newZ (n := 30) hX hI dX5_init_7 (by decide) (by decide) g_5 (by decide) (by omega) (by omega) (Nat.le_of_ble_eq_true rfl) (Nat.le_of_ble_eq_true rfl) e_5 f_5 ?_
  obtain ⟨r_6, e_6, hF⟩ := lt_some hF
  refine g_putRF hX hN dX5_init_9 inG5 tyX5_ok nmX5 rfl (k := 0) (by decide) (by decide) wf_X5_9 rfl rfl rfl rfl (fun _ => rfl) (fun _ => rfl) (by decide) (by decide) (by decide) t0.1 (by omega) (by omega) (by omega) (by omega) e_6 ?_
  refine g_aload_n hX dX5_init_12 (i := 0) rfl (j := 0) rfl ?_
  refine g_bipush (v := 30) hX dX5_init_13 (by decide) ?_
  obtain ⟨g_9, hF⟩ := gd_some hF
  have g_9 := of_decide_eq_true g_9
  obtain ⟨h_9, e_9, hF⟩ := lt_some hF
  obtain ⟨r_9, f_9, hF⟩ := lt_some hF
  refine g_newI (n := 30) hX hI dX5_init_15 (by decide) (by decide) g_9 (by decide) (by omega) (by omega) (Nat.le_of_ble_eq_true rfl) (Nat.le_of_ble_eq_true rfl) e_9 f_9 ?_
  obtain ⟨r_10, e_10, hF⟩ := lt_some hF
  refine g_putRF hX hN dX5_init_17 inG5 tyX5_ok nmX5 rfl (k := 1) (by decide) (by decide) wf_X5_15 rfl rfl rfl rfl (fun _ => rfl) (fun _ => rfl) (by decide) (by decide) (by decide) t0.1 (by omega) (by omega) (by omega) (by omega) e_10 ?_
  refine g_aload_n hX dX5_init_20 (i := 0) rfl (j := 0) rfl ?_
  refine g_bipush (v := 30) hX dX5_init_21 (by decide) ?_
  obtain ⟨g_13, hF⟩ := gd_some hF
  have g_13 := of_decide_eq_true g_13
  obtain ⟨h_13, e_13, hF⟩ := lt_some hF
  obtain ⟨r_13, f_13, hF⟩ := lt_some hF
  refine g_newI (n := 30) hX hI dX5_init_23 (by decide) (by decide) g_13 (by decide) (by omega) (by omega) (Nat.le_of_ble_eq_true rfl) (Nat.le_of_ble_eq_true rfl) e_13 f_13 ?_
  obtain ⟨r_14, e_14, hF⟩ := lt_some hF
  refine g_putRF hX hN dX5_init_25 inG5 tyX5_ok nmX5 rfl (k := 2) (by decide) (by decide) wf_X5_19 rfl rfl rfl rfl (fun _ => rfl) (fun _ => rfl) (by decide) (by decide) (by decide) t0.1 (by omega) (by omega) (by omega) (by omega) e_14 ?_
  refine g_aload_n hX dX5_init_28 (i := 0) rfl (j := 0) rfl ?_
  refine g_bipush (v := 30) hX dX5_init_29 (by decide) ?_
  obtain ⟨g_17, hF⟩ := gd_some hF
  have g_17 := of_decide_eq_true g_17
  obtain ⟨h_17, e_17, hF⟩ := lt_some hF
  obtain ⟨r_17, f_17, hF⟩ := lt_some hF
  refine g_newI (n := 30) hX hI dX5_init_31 (by decide) (by decide) g_17 (by decide) (by omega) (by omega) (Nat.le_of_ble_eq_true rfl) (Nat.le_of_ble_eq_true rfl) e_17 f_17 ?_
  obtain ⟨r_18, e_18, hF⟩ := lt_some hF
  refine g_putRF hX hN dX5_init_33 inG5 tyX5_ok nmX5 rfl (k := 3) (by decide) (by decide) wf_X5_22 rfl rfl rfl rfl (fun _ => rfl) (fun _ => rfl) (by decide) (by decide) (by decide) t0.1 (by omega) (by omega) (by omega) (by omega) e_18 ?_
  refine g_aload_n hX dX5_init_36 (i := 0) rfl (j := 0) rfl ?_
  obtain ⟨g_20, hF⟩ := gd_some hF
  have g_20 := of_decide_eq_true g_20
  obtain ⟨h_20, e_20, hF⟩ := bi_some hF
  have W_20 := WT_tree (N := N + 4) ⟨t0.1, by omega, by omega⟩ g_20.1 g_20.2.1 g_20.2.2.1 g_20.2.2.2
  refine g_callVI (As := []) (rest := []) (stk := []) hX hI dX5_init_37 (ctX5_clear (by omega) W_20 p0 ⟨t0.1, Or.inl rfl⟩ e_20) (by decide) (by decide) wm_X5_25 wi_X5_clear ws_X5_clear wz_X5 wc_X5_clear hyX5_clear rfl (ci := 5) rfl (by decide) t0.1 (by omega) (by omega) (Nat.le_of_ble_eq_true rfl) rfl rfl (Nat.le_of_ble_eq_true rfl) (Nat.le_of_ble_eq_true rfl) ?_
  obtain rfl := Option.some.inj hF
  exact g_vret hX dX5_init_40 hR
theorem ctX5_init {b N sz : Nat} {h : HH} {r : RR} {w : HH × RR} (p0 : Nat) (t0 : KA p0 = 5 ∧ 1 ≤ p0 ∧ p0 ≤ N) (hsz : sz = b + N + 1) (hF : fX5_init N h r p0 = some w) : CTI yX5_init cX5_init 1 3 b KA lnA MA N sz [.ref (b + p0)] h r (N + 4) (sz + 4) w.1 w.2 4 120 :=
  CTI_of (by decide) rfl (Nat.le_of_ble_eq_true rfl) (by decide) rfl (fun X hX hI hN hR => kX5_init hX hI hN p0 t0 hsz hR hF)
def fX0_init (N : Nat) (h : HH) (r : RR) (p0 : Nat) (p1 : Nat) : Option (HH × RR) := gd (decide (N + 11 ≤ MA)) (gd (decide (KA (N + 1) = 10 ∧ lnA (N + 1) = 30)) (lt (zrow h (N + 1)) (fun h_5 => lt (zrowR r (N + 1)) (fun r_5 => lt (upR r_5 p0 1 (N + 1)) (fun r_6 => gd (mnaok KA lnA (N + 1) 2 14 9 30) (lt (zrows h_5 (N + 1) 2) (fun h_10 => lt (zrowsR r_6 (N + 1) 2) (fun r_10 => lt (upR r_10 p0 2 (N + 2)) (fun r_11 => gd (decide (KA (N + 5) = 5)) (lt (zrow h_10 (N + 5)) (fun h_13 => lt (zrowR r_11 (N + 5)) (fun r_13 => bi2 (fX5_init (N + 5) h_13 r_13 (N + 5)) (fun h_15 r_15 => lt (upR r_15 p0 3 (N + 5)) (fun r_16 => lt (up h_15 p0 4 0) (fun h_19 => lt (up h_19 p0 5 0) (fun h_22 => gd (decide (KA (N + 10) = 9 ∧ lnA (N + 10) = 150)) (lt (zrow h_22 (N + 10)) (fun h_25 => lt (zrowR r_16 (N + 10)) (fun r_25 => lt (upR r_25 p0 6 (N + 10)) (fun r_26 => gd (decide (KA (N + 11) = 9 ∧ lnA (N + 11) = 150)) (lt (zrow h_25 (N + 11)) (fun h_29 => lt (zrowR r_26 (N + 11)) (fun r_29 => lt (upR r_29 p0 7 (N + 11)) (fun r_30 => lt (up h_29 p0 8 0) (fun h_33 => lt (up h_33 p0 0 (nI p1)) (fun h_36 => some (h_36, r_30)))))))))))))))))))))))))))
set_option maxRecDepth 100000 in
set_option maxHeartbeats 8000000 in
theorem kX0_init {X : XT} {b N sz : Nat} {h : HH} {r : RR} {w : HH × RR} (hX : XOK X RX0 cX0_init 2 4) (hI : XI X 11 516) (hN : XN X) (p0 : Nat) (p1 : Nat) (t0 : KA p0 = 0 ∧ 1 ≤ p0 ∧ p0 ≤ N) (t1 : KA p1 = 6 ∧ 1 ≤ p1 ∧ p1 ≤ N) (hsz : sz = b + N + 1) (hR : XR X b KA lnA MA none 11 516 (N + 11) (sz + 11) none w.1 w.2) (hF : fX0_init N h r p0 p1 = some w) : GX X b KA lnA MA 2 0 0 N sz 0 [(0, .ref (b + p0)), (1, .ref (b + p1))] [] h r := by
  rw [fX0_init] at hF
  obtain ⟨gN, hF⟩ := gd_some hF
  have gN := of_decide_eq_true gN
  have u0 := t0.2.1
  have v0 := t0.2.2
  have u1 := t1.2.1
  have v1 := t1.2.2
  refine g_aload_n hX dX0_init_0 (i := 0) rfl (j := 0) rfl ?_
  refine g_oinit hX dX0_init_1 wm_X0_3 (by decide) (Nat.le_of_ble_eq_true rfl) ?_
  refine g_aload_n hX dX0_init_4 (i := 0) rfl (j := 0) rfl ?_
  refine g_bipush (v := 30) hX dX0_init_5 (by decide) ?_
  obtain ⟨g_5, hF⟩ := gd_some hF
  have g_5 := of_decide_eq_true g_5
  obtain ⟨h_5, e_5, hF⟩ := lt_some hF
  obtain ⟨r_5, f_5, hF⟩ := lt_some hF
  refine g_newZ (n := 30) hX hI dX0_init_7 (by decide) (by decide) g_5 (by decide) (by omega) (by omega) (Nat.le_of_ble_eq_true rfl) (Nat.le_of_ble_eq_true rfl) e_5 f_5 ?_
  obtain ⟨r_6, e_6, hF⟩ := lt_some hF
  refine g_putRF hX hN dX0_init_9 inG0 tyX0_ok nmX0 rfl (k := 1) (by decide) (by decide) wf_X0_9 rfl rfl rfl rfl (fun _ => rfl) (fun _ => rfl) (by decide) (by decide) (by decide) t0.1 (by omega) (by omega) (by omega) (by omega) e_6 ?_
  refine g_aload_n hX dX0_init_12 (i := 0) rfl (j := 0) rfl ?_
  refine g_iconst (v := 2) hX dX0_init_13 (by decide) ?_
  refine g_bipush (v := 30) hX dX0_init_14 (by decide) ?_
  obtain ⟨g_10, hF⟩ := gd_some hF
  have g_10 := mnaok_spec g_10
  obtain ⟨h_10, e_10, hF⟩ := lt_some hF
  obtain ⟨r_10, f_10, hF⟩ := lt_some hF
  refine g_mna (n := 2) (k := 30) (ty := .int) (ci := 14) (cj := 9) (k0 := 5) (k1 := 0) hX hI dX0_init_16 wlm_X0_15 wa_int (fun _ z => z.2.2.2.1) (fun _ => rfl) (fun _ => rfl) (fun _ _ z => z) (fun _ _ z => z) (by decide) (by decide) (by decide) (by decide) (by decide) (by decide) (by decide) (by decide) rfl rfl rfl g_10 (by decide) (by decide) (by omega) (by omega) (Nat.le_of_ble_eq_true rfl) (Nat.le_of_ble_eq_true rfl) e_10 f_10 ?_
  obtain ⟨r_11, e_11, hF⟩ := lt_some hF
  refine g_putRF hX hN dX0_init_20 inG0 tyX0_ok nmX0 rfl (k := 2) (by decide) (by decide) wf_X0_17 rfl rfl rfl rfl (fun _ => rfl) (fun _ => rfl) (by decide) (by decide) (by decide) t0.1 (by omega) (by omega) (by omega) (by omega) e_11 ?_
  refine g_aload_n hX dX0_init_23 (i := 0) rfl (j := 0) rfl ?_
  obtain ⟨g_13, hF⟩ := gd_some hF
  have g_13 := of_decide_eq_true g_13
  obtain ⟨h_13, e_13, hF⟩ := lt_some hF
  obtain ⟨r_13, f_13, hF⟩ := lt_some hF
  refine g_new (ci := 5) hX hI dX0_init_24 wl_X0_20 wx_X5 wz_X5 inG5 tyX5_ok rfl (by decide) (by decide) (dfX5 b) g_13 (by omega) (by omega) (Nat.le_of_ble_eq_true rfl) (Nat.le_of_ble_eq_true rfl) e_13 f_13 ?_
  refine g_dup hX dX0_init_27 rfl ?_
  obtain ⟨h_15, r_15, e_15, hF⟩ := bi2_some hF
  refine g_callI (As := []) (rest := [.ref (b + (N + 5)), .ref (b + p0)]) hX hI dX0_init_28 (ctX5_init (N := N + 5) (sz := sz + 5) (N + 5) ⟨g_13, by omega, by omega⟩ (by omega) e_15) (by decide) (by decide) wm_X0_22 wi_X5_init wz_X5 wc_X5_init hiX5_init rfl rfl (Nat.le_of_ble_eq_true rfl) rfl (Nat.le_of_ble_eq_true rfl) (Nat.le_of_ble_eq_true rfl) ?_
  obtain ⟨r_16, e_16, hF⟩ := lt_some hF
  refine g_putRF hX hN dX0_init_31 inG0 tyX0_ok nmX0 rfl (k := 3) (by decide) (by decide) wf_X0_23 rfl rfl rfl rfl (fun _ => rfl) (fun _ => rfl) (by decide) (by decide) (by decide) t0.1 (by omega) (by omega) (by omega) (by omega) e_16 ?_
  refine g_aload_n hX dX0_init_34 (i := 0) rfl (j := 0) rfl ?_
  refine g_iconst (v := 0) hX dX0_init_35 (by decide) ?_
  obtain ⟨h_19, e_19, hF⟩ := lt_some hF
  refine pf_X0_27 hX dX0_init_36 ⟨t0.1, by omega, by omega⟩ (by omega) e_19 ?_
  refine g_aload_n hX dX0_init_39 (i := 0) rfl (j := 0) rfl ?_
  refine g_iconst (v := 0) hX dX0_init_40 (by decide) ?_
  obtain ⟨h_22, e_22, hF⟩ := lt_some hF
  refine pf_X0_31 hX dX0_init_41 ⟨t0.1, by omega, by omega⟩ (by omega) e_22 ?_
  refine g_aload_n hX dX0_init_44 (i := 0) rfl (j := 0) rfl ?_
  refine g_sipush (v := 150) hX dX0_init_45 (by decide) ?_
  obtain ⟨g_25, hF⟩ := gd_some hF
  have g_25 := of_decide_eq_true g_25
  obtain ⟨h_25, e_25, hF⟩ := lt_some hF
  obtain ⟨r_25, f_25, hF⟩ := lt_some hF
  refine g_newI (n := 150) hX hI dX0_init_48 (by decide) (by decide) g_25 (by decide) (by omega) (by omega) (Nat.le_of_ble_eq_true rfl) (Nat.le_of_ble_eq_true rfl) e_25 f_25 ?_
  obtain ⟨r_26, e_26, hF⟩ := lt_some hF
  refine g_putRF hX hN dX0_init_50 inG0 tyX0_ok nmX0 rfl (k := 6) (by decide) (by decide) wf_X0_34 rfl rfl rfl rfl (fun _ => rfl) (fun _ => rfl) (by decide) (by decide) (by decide) t0.1 (by omega) (by omega) (by omega) (by omega) e_26 ?_
  refine g_aload_n hX dX0_init_53 (i := 0) rfl (j := 0) rfl ?_
  refine g_sipush (v := 150) hX dX0_init_54 (by decide) ?_
  obtain ⟨g_29, hF⟩ := gd_some hF
  have g_29 := of_decide_eq_true g_29
  obtain ⟨h_29, e_29, hF⟩ := lt_some hF
  obtain ⟨r_29, f_29, hF⟩ := lt_some hF
  refine g_newI (n := 150) hX hI dX0_init_57 (by decide) (by decide) g_29 (by decide) (by omega) (by omega) (Nat.le_of_ble_eq_true rfl) (Nat.le_of_ble_eq_true rfl) e_29 f_29 ?_
  obtain ⟨r_30, e_30, hF⟩ := lt_some hF
  refine g_putRF hX hN dX0_init_59 inG0 tyX0_ok nmX0 rfl (k := 7) (by decide) (by decide) wf_X0_38 rfl rfl rfl rfl (fun _ => rfl) (fun _ => rfl) (by decide) (by decide) (by decide) t0.1 (by omega) (by omega) (by omega) (by omega) e_30 ?_
  refine g_aload_n hX dX0_init_62 (i := 0) rfl (j := 0) rfl ?_
  refine g_iconst (v := 0) hX dX0_init_63 (by decide) ?_
  obtain ⟨h_33, e_33, hF⟩ := lt_some hF
  refine pf_X0_41 hX dX0_init_64 ⟨t0.1, by omega, by omega⟩ (by omega) e_33 ?_
  refine g_aload_n hX dX0_init_67 (i := 0) rfl (j := 0) rfl ?_
  refine g_aload_n hX dX0_init_68 (i := 1) rfl (j := 1) rfl ?_
  obtain ⟨h_36, e_36, hF⟩ := lt_some hF
  refine pw_X0_44 hX dX0_init_69 ⟨t0.1, by omega, by omega⟩ (by omega) (by omega) (by omega) e_36 ?_
  obtain rfl := Option.some.inj hF
  exact g_vret hX dX0_init_72 hR
theorem ctX0_init {b N sz : Nat} {h : HH} {r : RR} {w : HH × RR} (p0 : Nat) (p1 : Nat) (t0 : KA p0 = 0 ∧ 1 ≤ p0 ∧ p0 ≤ N) (t1 : KA p1 = 6 ∧ 1 ≤ p1 ∧ p1 ≤ N) (hsz : sz = b + N + 1) (hF : fX0_init N h r p0 p1 = some w) : CTI yX0_init cX0_init 2 4 b KA lnA MA N sz [.ref (b + p0), .ref (b + p1)] h r (N + 11) (sz + 11) w.1 w.2 11 516 :=
  CTI_of (by decide) rfl (Nat.le_of_ble_eq_true rfl) (by decide) rfl (fun X hX hI hN hR => kX0_init hX hI hN p0 p1 t0 t1 hsz hR hF)
def fX1_init (N : Nat) (h : HH) (r : RR) (p0 : Nat) : Option (HH × RR) := gd (decide (N + 1 ≤ MA)) (gd (decide (KA (N + 1) = 9 ∧ lnA (N + 1) = 8)) (lt (zrow h (N + 1)) (fun h_5 => lt (zrowR r (N + 1)) (fun r_5 => lt (upR r_5 p0 0 (N + 1)) (fun r_6 => some (h_5, r_6))))))
set_option maxRecDepth 100000 in
set_option maxHeartbeats 8000000 in
theorem kX1_init {X : XT} {b N sz : Nat} {h : HH} {r : RR} {w : HH × RR} (hX : XOK X RX1 cX1_init 1 2) (hI : XI X 1 8) (hN : XN X) (p0 : Nat) (t0 : KA p0 = 1 ∧ 1 ≤ p0 ∧ p0 ≤ N) (hsz : sz = b + N + 1) (hR : XR X b KA lnA MA none 1 8 (N + 1) (sz + 1) none w.1 w.2) (hF : fX1_init N h r p0 = some w) : GX X b KA lnA MA 1 0 0 N sz 0 [(0, .ref (b + p0))] [] h r := by
  rw [fX1_init] at hF
  obtain ⟨gN, hF⟩ := gd_some hF
  have gN := of_decide_eq_true gN
  have u0 := t0.2.1
  have v0 := t0.2.2
  refine g_aload_n hX dX1_init_0 (i := 0) rfl (j := 0) rfl ?_
  refine g_oinit hX dX1_init_1 wm_X1_3 (by decide) (Nat.le_of_ble_eq_true rfl) ?_
  refine g_aload_n hX dX1_init_4 (i := 0) rfl (j := 0) rfl ?_
  refine g_bipush (v := 8) hX dX1_init_5 (by decide) ?_
  obtain ⟨g_5, hF⟩ := gd_some hF
  have g_5 := of_decide_eq_true g_5
  obtain ⟨h_5, e_5, hF⟩ := lt_some hF
  obtain ⟨r_5, f_5, hF⟩ := lt_some hF
  refine g_newI (n := 8) hX hI dX1_init_7 (by decide) (by decide) g_5 (by decide) (by omega) (by omega) (Nat.le_of_ble_eq_true rfl) (Nat.le_of_ble_eq_true rfl) e_5 f_5 ?_
  obtain ⟨r_6, e_6, hF⟩ := lt_some hF
  refine g_putRF hX hN dX1_init_9 inG1 tyX1_ok nmX1 rfl (k := 0) (by decide) (by decide) wf_X1_9 rfl rfl rfl rfl (fun _ => rfl) (fun _ => rfl) (by decide) (by decide) (by decide) t0.1 (by omega) (by omega) (by omega) (by omega) e_6 ?_
  obtain rfl := Option.some.inj hF
  exact g_vret hX dX1_init_12 hR
theorem ctX1_init {b N sz : Nat} {h : HH} {r : RR} {w : HH × RR} (p0 : Nat) (t0 : KA p0 = 1 ∧ 1 ≤ p0 ∧ p0 ≤ N) (hsz : sz = b + N + 1) (hF : fX1_init N h r p0 = some w) : CTI yX1_init cX1_init 1 2 b KA lnA MA N sz [.ref (b + p0)] h r (N + 1) (sz + 1) w.1 w.2 1 8 :=
  CTI_of (by decide) rfl (Nat.le_of_ble_eq_true rfl) (by decide) rfl (fun X hX hI hN hR => kX1_init hX hI hN p0 t0 hsz hR hF)
def fX2_init (N : Nat) (h : HH) (r : RR) (p0 : Nat) : Option (HH × RR) := gd (decide (N + 4 ≤ MA)) (gd (decide (KA (N + 1) = 9 ∧ lnA (N + 1) = 120)) (lt (zrow h (N + 1)) (fun h_5 => lt (zrowR r (N + 1)) (fun r_5 => lt (upR r_5 p0 0 (N + 1)) (fun r_6 => gd (decide (KA (N + 2) = 9 ∧ lnA (N + 2) = 120)) (lt (zrow h_5 (N + 2)) (fun h_9 => lt (zrowR r_6 (N + 2)) (fun r_9 => lt (upR r_9 p0 1 (N + 2)) (fun r_10 => gd (decide (KA (N + 3) = 10 ∧ lnA (N + 3) = 30)) (lt (zrow h_9 (N + 3)) (fun h_13 => lt (zrowR r_10 (N + 3)) (fun r_13 => lt (upR r_13 p0 2 (N + 3)) (fun r_14 => gd (decide (KA (N + 4) = 9 ∧ lnA (N + 4) = 30)) (lt (zrow h_13 (N + 4)) (fun h_17 => lt (zrowR r_14 (N + 4)) (fun r_17 => lt (upR r_17 p0 3 (N + 4)) (fun r_18 => lt (up h_17 p0 4 0) (fun h_21 => some (h_21, r_18)))))))))))))))))))
set_option maxRecDepth 100000 in
set_option maxHeartbeats 8000000 in
theorem kX2_init {X : XT} {b N sz : Nat} {h : HH} {r : RR} {w : HH × RR} (hX : XOK X RX2 cX2_init 1 2) (hI : XI X 4 300) (hN : XN X) (p0 : Nat) (t0 : KA p0 = 2 ∧ 1 ≤ p0 ∧ p0 ≤ N) (hsz : sz = b + N + 1) (hR : XR X b KA lnA MA none 4 300 (N + 4) (sz + 4) none w.1 w.2) (hF : fX2_init N h r p0 = some w) : GX X b KA lnA MA 1 0 0 N sz 0 [(0, .ref (b + p0))] [] h r := by
  rw [fX2_init] at hF
  obtain ⟨gN, hF⟩ := gd_some hF
  have gN := of_decide_eq_true gN
  have u0 := t0.2.1
  have v0 := t0.2.2
  refine g_aload_n hX dX2_init_0 (i := 0) rfl (j := 0) rfl ?_
  refine g_oinit hX dX2_init_1 wm_X2_3 (by decide) (Nat.le_of_ble_eq_true rfl) ?_
  refine g_aload_n hX dX2_init_4 (i := 0) rfl (j := 0) rfl ?_
  refine g_bipush (v := 120) hX dX2_init_5 (by decide) ?_
  obtain ⟨g_5, hF⟩ := gd_some hF
  have g_5 := of_decide_eq_true g_5
  obtain ⟨h_5, e_5, hF⟩ := lt_some hF
  obtain ⟨r_5, f_5, hF⟩ := lt_some hF
  refine g_newI (n := 120) hX hI dX2_init_7 (by decide) (by decide) g_5 (by decide) (by omega) (by omega) (Nat.le_of_ble_eq_true rfl) (Nat.le_of_ble_eq_true rfl) e_5 f_5 ?_
  obtain ⟨r_6, e_6, hF⟩ := lt_some hF
  refine g_putRF hX hN dX2_init_9 inG2 tyX2_ok nmX2 rfl (k := 0) (by decide) (by decide) wf_X2_9 rfl rfl rfl rfl (fun _ => rfl) (fun _ => rfl) (by decide) (by decide) (by decide) t0.1 (by omega) (by omega) (by omega) (by omega) e_6 ?_
  refine g_aload_n hX dX2_init_12 (i := 0) rfl (j := 0) rfl ?_
  refine g_bipush (v := 120) hX dX2_init_13 (by decide) ?_
  obtain ⟨g_9, hF⟩ := gd_some hF
  have g_9 := of_decide_eq_true g_9
  obtain ⟨h_9, e_9, hF⟩ := lt_some hF
  obtain ⟨r_9, f_9, hF⟩ := lt_some hF
  refine g_newI (n := 120) hX hI dX2_init_15 (by decide) (by decide) g_9 (by decide) (by omega) (by omega) (Nat.le_of_ble_eq_true rfl) (Nat.le_of_ble_eq_true rfl) e_9 f_9 ?_
  obtain ⟨r_10, e_10, hF⟩ := lt_some hF
  refine g_putRF hX hN dX2_init_17 inG2 tyX2_ok nmX2 rfl (k := 1) (by decide) (by decide) wf_X2_15 rfl rfl rfl rfl (fun _ => rfl) (fun _ => rfl) (by decide) (by decide) (by decide) t0.1 (by omega) (by omega) (by omega) (by omega) e_10 ?_
  refine g_aload_n hX dX2_init_20 (i := 0) rfl (j := 0) rfl ?_
  refine g_bipush (v := 30) hX dX2_init_21 (by decide) ?_
  obtain ⟨g_13, hF⟩ := gd_some hF
  have g_13 := of_decide_eq_true g_13
  obtain ⟨h_13, e_13, hF⟩ := lt_some hF
  obtain ⟨r_13, f_13, hF⟩ := lt_some hF
  refine g_newZ (n := 30) hX hI dX2_init_23 (by decide) (by decide) g_13 (by decide) (by omega) (by omega) (Nat.le_of_ble_eq_true rfl) (Nat.le_of_ble_eq_true rfl) e_13 f_13 ?_
  obtain ⟨r_14, e_14, hF⟩ := lt_some hF
  refine g_putRF hX hN dX2_init_25 inG2 tyX2_ok nmX2 rfl (k := 2) (by decide) (by decide) wf_X2_18 rfl rfl rfl rfl (fun _ => rfl) (fun _ => rfl) (by decide) (by decide) (by decide) t0.1 (by omega) (by omega) (by omega) (by omega) e_14 ?_
  refine g_aload_n hX dX2_init_28 (i := 0) rfl (j := 0) rfl ?_
  refine g_bipush (v := 30) hX dX2_init_29 (by decide) ?_
  obtain ⟨g_17, hF⟩ := gd_some hF
  have g_17 := of_decide_eq_true g_17
  obtain ⟨h_17, e_17, hF⟩ := lt_some hF
  obtain ⟨r_17, f_17, hF⟩ := lt_some hF
  refine g_newI (n := 30) hX hI dX2_init_31 (by decide) (by decide) g_17 (by decide) (by omega) (by omega) (Nat.le_of_ble_eq_true rfl) (Nat.le_of_ble_eq_true rfl) e_17 f_17 ?_
  obtain ⟨r_18, e_18, hF⟩ := lt_some hF
  refine g_putRF hX hN dX2_init_33 inG2 tyX2_ok nmX2 rfl (k := 3) (by decide) (by decide) wf_X2_22 rfl rfl rfl rfl (fun _ => rfl) (fun _ => rfl) (by decide) (by decide) (by decide) t0.1 (by omega) (by omega) (by omega) (by omega) e_18 ?_
  refine g_aload_n hX dX2_init_36 (i := 0) rfl (j := 0) rfl ?_
  refine g_iconst (v := 0) hX dX2_init_37 (by decide) ?_
  obtain ⟨h_21, e_21, hF⟩ := lt_some hF
  refine pf_X2_25 hX dX2_init_38 ⟨t0.1, by omega, by omega⟩ (by omega) e_21 ?_
  obtain rfl := Option.some.inj hF
  exact g_vret hX dX2_init_41 hR
theorem ctX2_init {b N sz : Nat} {h : HH} {r : RR} {w : HH × RR} (p0 : Nat) (t0 : KA p0 = 2 ∧ 1 ≤ p0 ∧ p0 ≤ N) (hsz : sz = b + N + 1) (hF : fX2_init N h r p0 = some w) : CTI yX2_init cX2_init 1 2 b KA lnA MA N sz [.ref (b + p0)] h r (N + 4) (sz + 4) w.1 w.2 4 300 :=
  CTI_of (by decide) rfl (Nat.le_of_ble_eq_true rfl) (by decide) rfl (fun X hX hI hN hR => kX2_init hX hI hN p0 t0 hsz hR hF)
def fX3_init (N : Nat) (h : HH) (r : RR) (p0 : Nat) : Option (HH × RR) := gd (decide (N + 1 ≤ MA)) (lt (up h p0 0 (-1)) (fun h_5 => lt (up h_5 p0 1 0) (fun h_8 => gd (decide (KA (N + 1) = 9 ∧ lnA (N + 1) = 40)) (lt (zrow h_8 (N + 1)) (fun h_11 => lt (zrowR r (N + 1)) (fun r_11 => lt (upR r_11 p0 2 (N + 1)) (fun r_12 => some (h_11, r_12))))))))
set_option maxRecDepth 100000 in
set_option maxHeartbeats 8000000 in
theorem kX3_init {X : XT} {b N sz : Nat} {h : HH} {r : RR} {w : HH × RR} (hX : XOK X RX3 cX3_init 1 2) (hI : XI X 1 40) (hN : XN X) (p0 : Nat) (t0 : KA p0 = 3 ∧ 1 ≤ p0 ∧ p0 ≤ N) (hsz : sz = b + N + 1) (hR : XR X b KA lnA MA none 1 40 (N + 1) (sz + 1) none w.1 w.2) (hF : fX3_init N h r p0 = some w) : GX X b KA lnA MA 1 0 0 N sz 0 [(0, .ref (b + p0))] [] h r := by
  rw [fX3_init] at hF
  obtain ⟨gN, hF⟩ := gd_some hF
  have gN := of_decide_eq_true gN
  have u0 := t0.2.1
  have v0 := t0.2.2
  refine g_aload_n hX dX3_init_0 (i := 0) rfl (j := 0) rfl ?_
  refine g_oinit hX dX3_init_1 wm_X3_3 (by decide) (Nat.le_of_ble_eq_true rfl) ?_
  refine g_aload_n hX dX3_init_4 (i := 0) rfl (j := 0) rfl ?_
  refine g_iconst (v := (-1)) hX dX3_init_5 (by decide) ?_
  obtain ⟨h_5, e_5, hF⟩ := lt_some hF
  refine pf_X3_9 hX dX3_init_6 ⟨t0.1, by omega, by omega⟩ (by omega) e_5 ?_
  refine g_aload_n hX dX3_init_9 (i := 0) rfl (j := 0) rfl ?_
  refine g_iconst (v := 0) hX dX3_init_10 (by decide) ?_
  obtain ⟨h_8, e_8, hF⟩ := lt_some hF
  refine pf_X3_15 hX dX3_init_11 ⟨t0.1, by omega, by omega⟩ (by omega) e_8 ?_
  refine g_aload_n hX dX3_init_14 (i := 0) rfl (j := 0) rfl ?_
  refine g_bipush (v := 40) hX dX3_init_15 (by decide) ?_
  obtain ⟨g_11, hF⟩ := gd_some hF
  have g_11 := of_decide_eq_true g_11
  obtain ⟨h_11, e_11, hF⟩ := lt_some hF
  obtain ⟨r_11, f_11, hF⟩ := lt_some hF
  refine g_newI (n := 40) hX hI dX3_init_17 (by decide) (by decide) g_11 (by decide) (by omega) (by omega) (Nat.le_of_ble_eq_true rfl) (Nat.le_of_ble_eq_true rfl) e_11 f_11 ?_
  obtain ⟨r_12, e_12, hF⟩ := lt_some hF
  refine g_putRF hX hN dX3_init_19 inG3 tyX3_ok nmX3 rfl (k := 2) (by decide) (by decide) wf_X3_18 rfl rfl rfl rfl (fun _ => rfl) (fun _ => rfl) (by decide) (by decide) (by decide) t0.1 (by omega) (by omega) (by omega) (by omega) e_12 ?_
  obtain rfl := Option.some.inj hF
  exact g_vret hX dX3_init_22 hR
theorem ctX3_init {b N sz : Nat} {h : HH} {r : RR} {w : HH × RR} (p0 : Nat) (t0 : KA p0 = 3 ∧ 1 ≤ p0 ∧ p0 ≤ N) (hsz : sz = b + N + 1) (hF : fX3_init N h r p0 = some w) : CTI yX3_init cX3_init 1 2 b KA lnA MA N sz [.ref (b + p0)] h r (N + 1) (sz + 1) w.1 w.2 1 40 :=
  CTI_of (by decide) rfl (Nat.le_of_ble_eq_true rfl) (by decide) rfl (fun X hX hI hN hR => kX3_init hX hI hN p0 t0 hsz hR hF)
def fX4_init (N : Nat) (h : HH) (r : RR) (p0 : Nat) : Option (HH × RR) := gd (decide (N + 1 ≤ MA)) (gd (decide (KA (N + 1) = 9 ∧ lnA (N + 1) = 40)) (lt (zrow h (N + 1)) (fun h_5 => lt (zrowR r (N + 1)) (fun r_5 => lt (upR r_5 p0 0 (N + 1)) (fun r_6 => lt (up h_5 p0 1 0) (fun h_9 => some (h_9, r_6)))))))
set_option maxRecDepth 100000 in
set_option maxHeartbeats 8000000 in
theorem kX4_init {X : XT} {b N sz : Nat} {h : HH} {r : RR} {w : HH × RR} (hX : XOK X RX4 cX4_init 1 2) (hI : XI X 1 40) (hN : XN X) (p0 : Nat) (t0 : KA p0 = 4 ∧ 1 ≤ p0 ∧ p0 ≤ N) (hsz : sz = b + N + 1) (hR : XR X b KA lnA MA none 1 40 (N + 1) (sz + 1) none w.1 w.2) (hF : fX4_init N h r p0 = some w) : GX X b KA lnA MA 1 0 0 N sz 0 [(0, .ref (b + p0))] [] h r := by
  rw [fX4_init] at hF
  obtain ⟨gN, hF⟩ := gd_some hF
  have gN := of_decide_eq_true gN
  have u0 := t0.2.1
  have v0 := t0.2.2
  refine g_aload_n hX dX4_init_0 (i := 0) rfl (j := 0) rfl ?_
  refine g_oinit hX dX4_init_1 wm_X4_3 (by decide) (Nat.le_of_ble_eq_true rfl) ?_
  refine g_aload_n hX dX4_init_4 (i := 0) rfl (j := 0) rfl ?_
  refine g_bipush (v := 40) hX dX4_init_5 (by decide) ?_
  obtain ⟨g_5, hF⟩ := gd_some hF
  have g_5 := of_decide_eq_true g_5
  obtain ⟨h_5, e_5, hF⟩ := lt_some hF
  obtain ⟨r_5, f_5, hF⟩ := lt_some hF
  refine g_newI (n := 40) hX hI dX4_init_7 (by decide) (by decide) g_5 (by decide) (by omega) (by omega) (Nat.le_of_ble_eq_true rfl) (Nat.le_of_ble_eq_true rfl) e_5 f_5 ?_
  obtain ⟨r_6, e_6, hF⟩ := lt_some hF
  refine g_putRF hX hN dX4_init_9 inG4 tyX4_ok nmX4 rfl (k := 0) (by decide) (by decide) wf_X4_9 rfl rfl rfl rfl (fun _ => rfl) (fun _ => rfl) (by decide) (by decide) (by decide) t0.1 (by omega) (by omega) (by omega) (by omega) e_6 ?_
  refine g_aload_n hX dX4_init_12 (i := 0) rfl (j := 0) rfl ?_
  refine g_iconst (v := 0) hX dX4_init_13 (by decide) ?_
  obtain ⟨h_9, e_9, hF⟩ := lt_some hF
  refine pf_X4_15 hX dX4_init_14 ⟨t0.1, by omega, by omega⟩ (by omega) e_9 ?_
  obtain rfl := Option.some.inj hF
  exact g_vret hX dX4_init_17 hR
theorem ctX4_init {b N sz : Nat} {h : HH} {r : RR} {w : HH × RR} (p0 : Nat) (t0 : KA p0 = 4 ∧ 1 ≤ p0 ∧ p0 ≤ N) (hsz : sz = b + N + 1) (hF : fX4_init N h r p0 = some w) : CTI yX4_init cX4_init 1 2 b KA lnA MA N sz [.ref (b + p0)] h r (N + 1) (sz + 1) w.1 w.2 1 40 :=
  CTI_of (by decide) rfl (Nat.le_of_ble_eq_true rfl) (by decide) rfl (fun X hX hI hN hR => kX4_init hX hI hN p0 t0 hsz hR hF)
def fX6_init (N : Nat) (h : HH) (r : RR) (p0 : Nat) : Option (HH × RR) := gd (decide (N + 32 ≤ MA)) (lt (up h p0 0 0) (fun h_5 => gd (decide (KA (N + 1) = 10 ∧ lnA (N + 1) = 30)) (lt (zrow h_5 (N + 1)) (fun h_8 => lt (zrowR r (N + 1)) (fun r_8 => lt (upR r_8 p0 1 (N + 1)) (fun r_9 => gd (decide (KA (N + 2) = 13 ∧ lnA (N + 2) = 3)) (lt (zrow h_8 (N + 2)) (fun h_12 => lt (zrowR r_9 (N + 2)) (fun r_12 => lt (upR r_12 p0 2 (N + 2)) (fun r_13 => gd (decide (KA (N + 3) = 11 ∧ lnA (N + 3) = 6)) (lt (zrow h_12 (N + 3)) (fun h_16 => lt (zrowR r_13 (N + 3)) (fun r_16 => lt (upR r_16 p0 3 (N + 3)) (fun r_17 => lt (up h_16 p0 4 0) (fun h_20 => lt (up h_20 p0 5 0) (fun h_23 => lt (up h_23 p0 6 0) (fun h_26 => lt (up h_26 p0 7 (-1)) (fun h_29 => lt (up h_29 p0 8 0) (fun h_32 => gd (decide (KA (N + 4) = 9 ∧ lnA (N + 4) = 30)) (lt (zrow h_32 (N + 4)) (fun h_35 => lt (zrowR r_17 (N + 4)) (fun r_35 => lt (upR r_35 p0 9 (N + 4)) (fun r_36 => gd (decide (KA (N + 5) = 10 ∧ lnA (N + 5) = 30)) (lt (zrow h_35 (N + 5)) (fun h_39 => lt (zrowR r_36 (N + 5)) (fun r_39 => lt (upR r_39 p0 10 (N + 5)) (fun r_40 => gd (decide (1 ≤ r_40 p0 2 ∧ r_40 p0 2 ≤ N + 5 ∧ KA (r_40 p0 2) = 13)) (gd (decide (KA (N + 6) = 5)) (lt (zrow h_39 (N + 6)) (fun h_49 => lt (zrowR r_40 (N + 6)) (fun r_49 => bi2 (fX5_init (N + 6) h_49 r_49 (N + 6)) (fun h_51 r_51 => gd (inb 0 (lnA (r_40 p0 2))) (lt (upR r_51 (r_40 p0 2) (ix 0) (N + 6)) (fun r_52 => gd (decide (1 ≤ r_52 p0 2 ∧ r_52 p0 2 ≤ N + 10 ∧ KA (r_52 p0 2) = 13)) (gd (decide (KA (N + 11) = 5)) (lt (zrow h_51 (N + 11)) (fun h_61 => lt (zrowR r_52 (N + 11)) (fun r_61 => bi2 (fX5_init (N + 11) h_61 r_61 (N + 11)) (fun h_63 r_63 => gd (inb 1 (lnA (r_52 p0 2))) (lt (upR r_63 (r_52 p0 2) (ix 1) (N + 11)) (fun r_64 => gd (decide (1 ≤ r_64 p0 2 ∧ r_64 p0 2 ≤ N + 15 ∧ KA (r_64 p0 2) = 13)) (gd (decide (KA (N + 16) = 5)) (lt (zrow h_63 (N + 16)) (fun h_73 => lt (zrowR r_64 (N + 16)) (fun r_73 => bi2 (fX5_init (N + 16) h_73 r_73 (N + 16)) (fun h_75 r_75 => gd (inb 2 (lnA (r_64 p0 2))) (lt (upR r_75 (r_64 p0 2) (ix 2) (N + 16)) (fun r_76 => gd (decide (1 ≤ r_76 p0 3 ∧ r_76 p0 3 ≤ N + 20 ∧ KA (r_76 p0 3) = 11)) (gd (decide (KA (N + 21) = 1)) (lt (zrow h_75 (N + 21)) (fun h_90 => lt (zrowR r_76 (N + 21)) (fun r_90 => bi2 (fX1_init (N + 21) h_90 r_90 (N + 21)) (fun h_92 r_92 => gd (inb 0 (lnA (r_76 p0 3))) (lt (upR r_92 (r_76 p0 3) (ix 0) (N + 21)) (fun r_93 => gd (decide (1 ≤ r_93 p0 3 ∧ r_93 p0 3 ≤ N + 22 ∧ KA (r_93 p0 3) = 11)) (gd (decide (KA (N + 23) = 1)) (lt (zrow h_92 (N + 23)) (fun h_102 => lt (zrowR r_93 (N + 23)) (fun r_102 => bi2 (fX1_init (N + 23) h_102 r_102 (N + 23)) (fun h_104 r_104 => gd (inb 1 (lnA (r_93 p0 3))) (lt (upR r_104 (r_93 p0 3) (ix 1) (N + 23)) (fun r_105 => gd (decide (1 ≤ r_105 p0 3 ∧ r_105 p0 3 ≤ N + 24 ∧ KA (r_105 p0 3) = 11)) (gd (decide (KA (N + 25) = 1)) (lt (zrow h_104 (N + 25)) (fun h_114 => lt (zrowR r_105 (N + 25)) (fun r_114 => bi2 (fX1_init (N + 25) h_114 r_114 (N + 25)) (fun h_116 r_116 => gd (inb 2 (lnA (r_105 p0 3))) (lt (upR r_116 (r_105 p0 3) (ix 2) (N + 25)) (fun r_117 => gd (decide (1 ≤ r_117 p0 3 ∧ r_117 p0 3 ≤ N + 26 ∧ KA (r_117 p0 3) = 11)) (gd (decide (KA (N + 27) = 1)) (lt (zrow h_116 (N + 27)) (fun h_126 => lt (zrowR r_117 (N + 27)) (fun r_126 => bi2 (fX1_init (N + 27) h_126 r_126 (N + 27)) (fun h_128 r_128 => gd (inb 3 (lnA (r_117 p0 3))) (lt (upR r_128 (r_117 p0 3) (ix 3) (N + 27)) (fun r_129 => gd (decide (1 ≤ r_129 p0 3 ∧ r_129 p0 3 ≤ N + 28 ∧ KA (r_129 p0 3) = 11)) (gd (decide (KA (N + 29) = 1)) (lt (zrow h_128 (N + 29)) (fun h_138 => lt (zrowR r_129 (N + 29)) (fun r_138 => bi2 (fX1_init (N + 29) h_138 r_138 (N + 29)) (fun h_140 r_140 => gd (inb 4 (lnA (r_129 p0 3))) (lt (upR r_140 (r_129 p0 3) (ix 4) (N + 29)) (fun r_141 => gd (decide (1 ≤ r_141 p0 3 ∧ r_141 p0 3 ≤ N + 30 ∧ KA (r_141 p0 3) = 11)) (gd (decide (KA (N + 31) = 1)) (lt (zrow h_140 (N + 31)) (fun h_150 => lt (zrowR r_141 (N + 31)) (fun r_150 => bi2 (fX1_init (N + 31) h_150 r_150 (N + 31)) (fun h_152 r_152 => gd (inb 5 (lnA (r_141 p0 3))) (lt (upR r_152 (r_141 p0 3) (ix 5) (N + 31)) (fun r_153 => some (h_152, r_153)))))))))))))))))))))))))))))))))))))))))))))))))))))))))))))))))))))))))))))))))))))))))))
set_option maxRecDepth 100000 in
set_option maxHeartbeats 8000000 in
theorem kX6_init {X : XT} {b N sz : Nat} {h : HH} {r : RR} {w : HH × RR} (hX : XOK X RX6 cX6_init 2 4) (hI : XI X 32 537) (hN : XN X) (p0 : Nat) (t0 : KA p0 = 6 ∧ 1 ≤ p0 ∧ p0 ≤ N) (hsz : sz = b + N + 1) (hR : XR X b KA lnA MA none 32 537 (N + 32) (sz + 32) none w.1 w.2) (hF : fX6_init N h r p0 = some w) : GX X b KA lnA MA 2 0 0 N sz 0 [(0, .ref (b + p0))] [] h r := by
  rw [fX6_init] at hF
  obtain ⟨gN, hF⟩ := gd_some hF
  have gN := of_decide_eq_true gN
  have u0 := t0.2.1
  have v0 := t0.2.2
  refine g_aload_n hX dX6_init_0 (i := 0) rfl (j := 0) rfl ?_
  refine g_oinit hX dX6_init_1 wm_X6_3 (by decide) (Nat.le_of_ble_eq_true rfl) ?_
  refine g_aload_n hX dX6_init_4 (i := 0) rfl (j := 0) rfl ?_
  refine g_iconst (v := 0) hX dX6_init_5 (by decide) ?_
  obtain ⟨h_5, e_5, hF⟩ := lt_some hF
  refine pf_X6_9 hX dX6_init_6 ⟨t0.1, by omega, by omega⟩ (by omega) e_5 ?_
  refine g_aload_n hX dX6_init_9 (i := 0) rfl (j := 0) rfl ?_
  refine g_bipush (v := 30) hX dX6_init_10 (by decide) ?_
  obtain ⟨g_8, hF⟩ := gd_some hF
  have g_8 := of_decide_eq_true g_8
  obtain ⟨h_8, e_8, hF⟩ := lt_some hF
  obtain ⟨r_8, f_8, hF⟩ := lt_some hF
  refine g_newZ (n := 30) hX hI dX6_init_12 (by decide) (by decide) g_8 (by decide) (by omega) (by omega) (Nat.le_of_ble_eq_true rfl) (Nat.le_of_ble_eq_true rfl) e_8 f_8 ?_
  obtain ⟨r_9, e_9, hF⟩ := lt_some hF
  refine g_putRF hX hN dX6_init_14 inG6 tyX6_ok nmX6 rfl (k := 1) (by decide) (by decide) wf_X6_15 rfl rfl rfl rfl (fun _ => rfl) (fun _ => rfl) (by decide) (by decide) (by decide) t0.1 (by omega) (by omega) (by omega) (by omega) e_9 ?_
  refine g_aload_n hX dX6_init_17 (i := 0) rfl (j := 0) rfl ?_
  refine g_iconst (v := 3) hX dX6_init_18 (by decide) ?_
  obtain ⟨g_12, hF⟩ := gd_some hF
  have g_12 := of_decide_eq_true g_12
  obtain ⟨h_12, e_12, hF⟩ := lt_some hF
  obtain ⟨r_12, f_12, hF⟩ := lt_some hF
  refine g_anew (n := 3) (ci := 13) (k0 := 4) hX hI dX6_init_19 wl_X6_19 (fun _ => rfl) (fun _ z => z.2.2.1) (by decide) (by decide) (by decide) g_12 (by decide) (by omega) (by omega) (Nat.le_of_ble_eq_true rfl) (Nat.le_of_ble_eq_true rfl) e_12 f_12 ?_
  obtain ⟨r_13, e_13, hF⟩ := lt_some hF
  refine g_putRF hX hN dX6_init_22 inG6 tyX6_ok nmX6 rfl (k := 2) (by decide) (by decide) wf_X6_21 rfl rfl rfl rfl (fun _ => rfl) (fun _ => rfl) (by decide) (by decide) (by decide) t0.1 (by omega) (by omega) (by omega) (by omega) e_13 ?_
  refine g_aload_n hX dX6_init_25 (i := 0) rfl (j := 0) rfl ?_
  refine g_bipush (v := 6) hX dX6_init_26 (by decide) ?_
  obtain ⟨g_16, hF⟩ := gd_some hF
  have g_16 := of_decide_eq_true g_16
  obtain ⟨h_16, e_16, hF⟩ := lt_some hF
  obtain ⟨r_16, f_16, hF⟩ := lt_some hF
  refine g_anew (n := 6) (ci := 11) (k0 := 2) hX hI dX6_init_28 wl_X6_25 (fun _ => rfl) (fun _ z => z.1) (by decide) (by decide) (by decide) g_16 (by decide) (by omega) (by omega) (Nat.le_of_ble_eq_true rfl) (Nat.le_of_ble_eq_true rfl) e_16 f_16 ?_
  obtain ⟨r_17, e_17, hF⟩ := lt_some hF
  refine g_putRF hX hN dX6_init_31 inG6 tyX6_ok nmX6 rfl (k := 3) (by decide) (by decide) wf_X6_27 rfl rfl rfl rfl (fun _ => rfl) (fun _ => rfl) (by decide) (by decide) (by decide) t0.1 (by omega) (by omega) (by omega) (by omega) e_17 ?_
  refine g_aload_n hX dX6_init_34 (i := 0) rfl (j := 0) rfl ?_
  refine g_iconst (v := 0) hX dX6_init_35 (by decide) ?_
  obtain ⟨h_20, e_20, hF⟩ := lt_some hF
  refine pf_X6_31 hX dX6_init_36 ⟨t0.1, by omega, by omega⟩ (by omega) e_20 ?_
  refine g_aload_n hX dX6_init_39 (i := 0) rfl (j := 0) rfl ?_
  refine g_iconst (v := 0) hX dX6_init_40 (by decide) ?_
  obtain ⟨h_23, e_23, hF⟩ := lt_some hF
  refine pf_X6_34 hX dX6_init_41 ⟨t0.1, by omega, by omega⟩ (by omega) e_23 ?_
  refine g_aload_n hX dX6_init_44 (i := 0) rfl (j := 0) rfl ?_
  refine g_iconst (v := 0) hX dX6_init_45 (by decide) ?_
  obtain ⟨h_26, e_26, hF⟩ := lt_some hF
  refine pf_X6_37 hX dX6_init_46 ⟨t0.1, by omega, by omega⟩ (by omega) e_26 ?_
  refine g_aload_n hX dX6_init_49 (i := 0) rfl (j := 0) rfl ?_
  refine g_iconst (v := (-1)) hX dX6_init_50 (by decide) ?_
  obtain ⟨h_29, e_29, hF⟩ := lt_some hF
  refine pf_X6_40 hX dX6_init_51 ⟨t0.1, by omega, by omega⟩ (by omega) e_29 ?_
  refine g_aload_n hX dX6_init_54 (i := 0) rfl (j := 0) rfl ?_
  refine g_iconst (v := 0) hX dX6_init_55 (by decide) ?_
  obtain ⟨h_32, e_32, hF⟩ := lt_some hF
  refine pf_X6_43 hX dX6_init_56 ⟨t0.1, by omega, by omega⟩ (by omega) e_32 ?_
  refine g_aload_n hX dX6_init_59 (i := 0) rfl (j := 0) rfl ?_
  refine g_bipush (v := 30) hX dX6_init_60 (by decide) ?_
  obtain ⟨g_35, hF⟩ := gd_some hF
  have g_35 := of_decide_eq_true g_35
  obtain ⟨h_35, e_35, hF⟩ := lt_some hF
  obtain ⟨r_35, f_35, hF⟩ := lt_some hF
  refine g_newI (n := 30) hX hI dX6_init_62 (by decide) (by decide) g_35 (by decide) (by omega) (by omega) (Nat.le_of_ble_eq_true rfl) (Nat.le_of_ble_eq_true rfl) e_35 f_35 ?_
  obtain ⟨r_36, e_36, hF⟩ := lt_some hF
  refine g_putRF hX hN dX6_init_64 inG6 tyX6_ok nmX6 rfl (k := 9) (by decide) (by decide) wf_X6_46 rfl rfl rfl rfl (fun _ => rfl) (fun _ => rfl) (by decide) (by decide) (by decide) t0.1 (by omega) (by omega) (by omega) (by omega) e_36 ?_
  refine g_aload_n hX dX6_init_67 (i := 0) rfl (j := 0) rfl ?_
  refine g_bipush (v := 30) hX dX6_init_68 (by decide) ?_
  obtain ⟨g_39, hF⟩ := gd_some hF
  have g_39 := of_decide_eq_true g_39
  obtain ⟨h_39, e_39, hF⟩ := lt_some hF
  obtain ⟨r_39, f_39, hF⟩ := lt_some hF
  refine g_newZ (n := 30) hX hI dX6_init_70 (by decide) (by decide) g_39 (by decide) (by omega) (by omega) (Nat.le_of_ble_eq_true rfl) (Nat.le_of_ble_eq_true rfl) e_39 f_39 ?_
  obtain ⟨r_40, e_40, hF⟩ := lt_some hF
  refine g_putRF hX hN dX6_init_72 inG6 tyX6_ok nmX6 rfl (k := 10) (by decide) (by decide) wf_X6_50 rfl rfl rfl rfl (fun _ => rfl) (fun _ => rfl) (by decide) (by decide) (by decide) t0.1 (by omega) (by omega) (by omega) (by omega) e_40 ?_
  refine g_iconst (v := 0) hX dX6_init_75 (by decide) ?_
  refine g_istore_n (L' := [(1, .int 0), (0, .ref (b + p0))]) hX dX6_init_76 (i := 1) rfl (by decide) rfl ?_
  refine g_iload_n hX dX6_init_77 (i := 1) rfl (j := 0) rfl ?_
  refine g_iconst (v := 3) hX dX6_init_78 (by decide) ?_
  refine g_icmp_ge (tgt := 101) hX dX6_init_79 (by decide) (fun c9 => ?_) (fun c9 => ?_)
  · exact absurd c9 (by decide)
  refine g_aload_n hX dX6_init_82 (i := 0) rfl (j := 1) rfl ?_
  obtain ⟨g_47, hF⟩ := gd_some hF
  obtain ⟨g_47a, g_47b, g_47c⟩ := of_decide_eq_true g_47
  refine gf_X6_21 hX dX6_init_83 ⟨t0.1, by omega, by omega⟩ g_47a ?_
  refine g_iload_n hX dX6_init_86 (i := 1) rfl (j := 0) rfl ?_
  obtain ⟨g_49, hF⟩ := gd_some hF
  have g_49 := of_decide_eq_true g_49
  obtain ⟨h_49, e_49, hF⟩ := lt_some hF
  obtain ⟨r_49, f_49, hF⟩ := lt_some hF
  refine g_new (ci := 5) hX hI dX6_init_87 wl_X6_19 wx_X5 wz_X5 inG5 tyX5_ok rfl (by decide) (by decide) (dfX5 b) g_49 (by omega) (by omega) (Nat.le_of_ble_eq_true rfl) (Nat.le_of_ble_eq_true rfl) e_49 f_49 ?_
  refine g_dup hX dX6_init_90 rfl ?_
  obtain ⟨h_51, r_51, e_51, hF⟩ := bi2_some hF
  refine g_callI (As := []) (rest := [.ref (b + (N + 6)), .int 0, .ref (b + (r_40 p0 2))]) hX hI dX6_init_91 (ctX5_init (N := N + 6) (sz := sz + 6) (N + 6) ⟨g_49, by omega, by omega⟩ (by omega) e_51) (by decide) (by decide) wm_X6_53 wi_X5_init wz_X5 wc_X5_init hiX5_init rfl rfl (Nat.le_of_ble_eq_true rfl) rfl (Nat.le_of_ble_eq_true rfl) (Nat.le_of_ble_eq_true rfl) ?_
  obtain ⟨g_52, hF⟩ := gd_some hF
  obtain ⟨r_52, e_52, hF⟩ := lt_some hF
  refine g_astR (ci := 13) (cj := 5) (k0 := 4) hX dX6_init_94 g_47c (by decide) (by omega) (by omega) g_49 (by decide) (by omega) (by omega) (fun _ => rfl) rfl (by omega) g_52 e_52 ?_
  refine g_iinc (v := 1) (L' := [(1, .int 1), (0, .ref (b + p0))]) (j := 0) hX dX6_init_95 rfl (by decide) (by decide) rfl ?_
  refine g_goto (tgt := 77) hX dX6_init_98 (by decide) ?_
  refine g_iload_n hX dX6_init_77 (i := 1) rfl (j := 0) rfl ?_
  refine g_iconst (v := 3) hX dX6_init_78 (by decide) ?_
  refine g_icmp_ge (tgt := 101) hX dX6_init_79 (by decide) (fun c9 => ?_) (fun c9 => ?_)
  · exact absurd c9 (by decide)
  refine g_aload_n hX dX6_init_82 (i := 0) rfl (j := 1) rfl ?_
  obtain ⟨g_59, hF⟩ := gd_some hF
  obtain ⟨g_59a, g_59b, g_59c⟩ := of_decide_eq_true g_59
  refine gf_X6_21 hX dX6_init_83 ⟨t0.1, by omega, by omega⟩ g_59a ?_
  refine g_iload_n hX dX6_init_86 (i := 1) rfl (j := 0) rfl ?_
  obtain ⟨g_61, hF⟩ := gd_some hF
  have g_61 := of_decide_eq_true g_61
  obtain ⟨h_61, e_61, hF⟩ := lt_some hF
  obtain ⟨r_61, f_61, hF⟩ := lt_some hF
  refine g_new (ci := 5) hX hI dX6_init_87 wl_X6_19 wx_X5 wz_X5 inG5 tyX5_ok rfl (by decide) (by decide) (dfX5 b) g_61 (by omega) (by omega) (Nat.le_of_ble_eq_true rfl) (Nat.le_of_ble_eq_true rfl) e_61 f_61 ?_
  refine g_dup hX dX6_init_90 rfl ?_
  obtain ⟨h_63, r_63, e_63, hF⟩ := bi2_some hF
  refine g_callI (As := []) (rest := [.ref (b + (N + 11)), .int 1, .ref (b + (r_52 p0 2))]) hX hI dX6_init_91 (ctX5_init (N := N + 11) (sz := sz + 11) (N + 11) ⟨g_61, by omega, by omega⟩ (by omega) e_63) (by decide) (by decide) wm_X6_53 wi_X5_init wz_X5 wc_X5_init hiX5_init rfl rfl (Nat.le_of_ble_eq_true rfl) rfl (Nat.le_of_ble_eq_true rfl) (Nat.le_of_ble_eq_true rfl) ?_
  obtain ⟨g_64, hF⟩ := gd_some hF
  obtain ⟨r_64, e_64, hF⟩ := lt_some hF
  refine g_astR (ci := 13) (cj := 5) (k0 := 4) hX dX6_init_94 g_59c (by decide) (by omega) (by omega) g_61 (by decide) (by omega) (by omega) (fun _ => rfl) rfl (by omega) g_64 e_64 ?_
  refine g_iinc (v := 2) (L' := [(1, .int 2), (0, .ref (b + p0))]) (j := 0) hX dX6_init_95 rfl (by decide) (by decide) rfl ?_
  refine g_goto (tgt := 77) hX dX6_init_98 (by decide) ?_
  refine g_iload_n hX dX6_init_77 (i := 1) rfl (j := 0) rfl ?_
  refine g_iconst (v := 3) hX dX6_init_78 (by decide) ?_
  refine g_icmp_ge (tgt := 101) hX dX6_init_79 (by decide) (fun c9 => ?_) (fun c9 => ?_)
  · exact absurd c9 (by decide)
  refine g_aload_n hX dX6_init_82 (i := 0) rfl (j := 1) rfl ?_
  obtain ⟨g_71, hF⟩ := gd_some hF
  obtain ⟨g_71a, g_71b, g_71c⟩ := of_decide_eq_true g_71
  refine gf_X6_21 hX dX6_init_83 ⟨t0.1, by omega, by omega⟩ g_71a ?_
  refine g_iload_n hX dX6_init_86 (i := 1) rfl (j := 0) rfl ?_
  obtain ⟨g_73, hF⟩ := gd_some hF
  have g_73 := of_decide_eq_true g_73
  obtain ⟨h_73, e_73, hF⟩ := lt_some hF
  obtain ⟨r_73, f_73, hF⟩ := lt_some hF
  refine g_new (ci := 5) hX hI dX6_init_87 wl_X6_19 wx_X5 wz_X5 inG5 tyX5_ok rfl (by decide) (by decide) (dfX5 b) g_73 (by omega) (by omega) (Nat.le_of_ble_eq_true rfl) (Nat.le_of_ble_eq_true rfl) e_73 f_73 ?_
  refine g_dup hX dX6_init_90 rfl ?_
  obtain ⟨h_75, r_75, e_75, hF⟩ := bi2_some hF
  refine g_callI (As := []) (rest := [.ref (b + (N + 16)), .int 2, .ref (b + (r_64 p0 2))]) hX hI dX6_init_91 (ctX5_init (N := N + 16) (sz := sz + 16) (N + 16) ⟨g_73, by omega, by omega⟩ (by omega) e_75) (by decide) (by decide) wm_X6_53 wi_X5_init wz_X5 wc_X5_init hiX5_init rfl rfl (Nat.le_of_ble_eq_true rfl) rfl (Nat.le_of_ble_eq_true rfl) (Nat.le_of_ble_eq_true rfl) ?_
  obtain ⟨g_76, hF⟩ := gd_some hF
  obtain ⟨r_76, e_76, hF⟩ := lt_some hF
  refine g_astR (ci := 13) (cj := 5) (k0 := 4) hX dX6_init_94 g_71c (by decide) (by omega) (by omega) g_73 (by decide) (by omega) (by omega) (fun _ => rfl) rfl (by omega) g_76 e_76 ?_
  refine g_iinc (v := 3) (L' := [(1, .int 3), (0, .ref (b + p0))]) (j := 0) hX dX6_init_95 rfl (by decide) (by decide) rfl ?_
  refine g_goto (tgt := 77) hX dX6_init_98 (by decide) ?_
  refine g_iload_n hX dX6_init_77 (i := 1) rfl (j := 0) rfl ?_
  refine g_iconst (v := 3) hX dX6_init_78 (by decide) ?_
  refine g_icmp_ge (tgt := 101) hX dX6_init_79 (by decide) (fun c9 => ?_) (fun c9 => ?_)
  rotate_left
  · exact absurd (by decide) c9
  refine g_iconst (v := 0) hX dX6_init_101 (by decide) ?_
  refine g_istore_n (L' := [(1, .int 0), (0, .ref (b + p0))]) hX dX6_init_102 (i := 1) rfl (by decide) rfl ?_
  refine g_iload_n hX dX6_init_103 (i := 1) rfl (j := 0) rfl ?_
  refine g_bipush (v := 6) hX dX6_init_104 (by decide) ?_
  refine g_icmp_ge (tgt := 128) hX dX6_init_106 (by decide) (fun c9 => ?_) (fun c9 => ?_)
  · exact absurd c9 (by decide)
  refine g_aload_n hX dX6_init_109 (i := 0) rfl (j := 1) rfl ?_
  obtain ⟨g_88, hF⟩ := gd_some hF
  obtain ⟨g_88a, g_88b, g_88c⟩ := of_decide_eq_true g_88
  refine gf_X6_27 hX dX6_init_110 ⟨t0.1, by omega, by omega⟩ g_88a ?_
  refine g_iload_n hX dX6_init_113 (i := 1) rfl (j := 0) rfl ?_
  obtain ⟨g_90, hF⟩ := gd_some hF
  have g_90 := of_decide_eq_true g_90
  obtain ⟨h_90, e_90, hF⟩ := lt_some hF
  obtain ⟨r_90, f_90, hF⟩ := lt_some hF
  refine g_new (ci := 1) hX hI dX6_init_114 wl_X6_25 wx_X1 wz_X1 inG1 tyX1_ok rfl (by decide) (by decide) (dfX1 b) g_90 (by omega) (by omega) (Nat.le_of_ble_eq_true rfl) (Nat.le_of_ble_eq_true rfl) e_90 f_90 ?_
  refine g_dup hX dX6_init_117 rfl ?_
  obtain ⟨h_92, r_92, e_92, hF⟩ := bi2_some hF
  refine g_callIN (As := []) (rest := [.ref (b + (N + 21)), .int 0, .ref (b + (r_76 p0 3))]) hX hI dX6_init_118 (ctX1_init (N := N + 21) (sz := sz + 21) (N + 21) ⟨g_90, by omega, by omega⟩ (by omega) e_92) (by decide) (by decide) wNn_X6_54 wi_X1_init wz_X1 wc_X1_init hiX1_init rfl rfl (Nat.le_of_ble_eq_true rfl) rfl (Nat.le_of_ble_eq_true rfl) (Nat.le_of_ble_eq_true rfl) ?_
  obtain ⟨g_93, hF⟩ := gd_some hF
  obtain ⟨r_93, e_93, hF⟩ := lt_some hF
  refine g_astR (ci := 11) (cj := 1) (k0 := 2) hX dX6_init_121 g_88c (by decide) (by omega) (by omega) g_90 (by decide) (by omega) (by omega) (fun _ => rfl) rfl (by omega) g_93 e_93 ?_
  refine g_iinc (v := 1) (L' := [(1, .int 1), (0, .ref (b + p0))]) (j := 0) hX dX6_init_122 rfl (by decide) (by decide) rfl ?_
  refine g_goto (tgt := 103) hX dX6_init_125 (by decide) ?_
  refine g_iload_n hX dX6_init_103 (i := 1) rfl (j := 0) rfl ?_
  refine g_bipush (v := 6) hX dX6_init_104 (by decide) ?_
  refine g_icmp_ge (tgt := 128) hX dX6_init_106 (by decide) (fun c9 => ?_) (fun c9 => ?_)
  · exact absurd c9 (by decide)
  refine g_aload_n hX dX6_init_109 (i := 0) rfl (j := 1) rfl ?_
  obtain ⟨g_100, hF⟩ := gd_some hF
  obtain ⟨g_100a, g_100b, g_100c⟩ := of_decide_eq_true g_100
  refine gf_X6_27 hX dX6_init_110 ⟨t0.1, by omega, by omega⟩ g_100a ?_
  refine g_iload_n hX dX6_init_113 (i := 1) rfl (j := 0) rfl ?_
  obtain ⟨g_102, hF⟩ := gd_some hF
  have g_102 := of_decide_eq_true g_102
  obtain ⟨h_102, e_102, hF⟩ := lt_some hF
  obtain ⟨r_102, f_102, hF⟩ := lt_some hF
  refine g_new (ci := 1) hX hI dX6_init_114 wl_X6_25 wx_X1 wz_X1 inG1 tyX1_ok rfl (by decide) (by decide) (dfX1 b) g_102 (by omega) (by omega) (Nat.le_of_ble_eq_true rfl) (Nat.le_of_ble_eq_true rfl) e_102 f_102 ?_
  refine g_dup hX dX6_init_117 rfl ?_
  obtain ⟨h_104, r_104, e_104, hF⟩ := bi2_some hF
  refine g_callIN (As := []) (rest := [.ref (b + (N + 23)), .int 1, .ref (b + (r_93 p0 3))]) hX hI dX6_init_118 (ctX1_init (N := N + 23) (sz := sz + 23) (N + 23) ⟨g_102, by omega, by omega⟩ (by omega) e_104) (by decide) (by decide) wNn_X6_54 wi_X1_init wz_X1 wc_X1_init hiX1_init rfl rfl (Nat.le_of_ble_eq_true rfl) rfl (Nat.le_of_ble_eq_true rfl) (Nat.le_of_ble_eq_true rfl) ?_
  obtain ⟨g_105, hF⟩ := gd_some hF
  obtain ⟨r_105, e_105, hF⟩ := lt_some hF
  refine g_astR (ci := 11) (cj := 1) (k0 := 2) hX dX6_init_121 g_100c (by decide) (by omega) (by omega) g_102 (by decide) (by omega) (by omega) (fun _ => rfl) rfl (by omega) g_105 e_105 ?_
  refine g_iinc (v := 2) (L' := [(1, .int 2), (0, .ref (b + p0))]) (j := 0) hX dX6_init_122 rfl (by decide) (by decide) rfl ?_
  refine g_goto (tgt := 103) hX dX6_init_125 (by decide) ?_
  refine g_iload_n hX dX6_init_103 (i := 1) rfl (j := 0) rfl ?_
  refine g_bipush (v := 6) hX dX6_init_104 (by decide) ?_
  refine g_icmp_ge (tgt := 128) hX dX6_init_106 (by decide) (fun c9 => ?_) (fun c9 => ?_)
  · exact absurd c9 (by decide)
  refine g_aload_n hX dX6_init_109 (i := 0) rfl (j := 1) rfl ?_
  obtain ⟨g_112, hF⟩ := gd_some hF
  obtain ⟨g_112a, g_112b, g_112c⟩ := of_decide_eq_true g_112
  refine gf_X6_27 hX dX6_init_110 ⟨t0.1, by omega, by omega⟩ g_112a ?_
  refine g_iload_n hX dX6_init_113 (i := 1) rfl (j := 0) rfl ?_
  obtain ⟨g_114, hF⟩ := gd_some hF
  have g_114 := of_decide_eq_true g_114
  obtain ⟨h_114, e_114, hF⟩ := lt_some hF
  obtain ⟨r_114, f_114, hF⟩ := lt_some hF
  refine g_new (ci := 1) hX hI dX6_init_114 wl_X6_25 wx_X1 wz_X1 inG1 tyX1_ok rfl (by decide) (by decide) (dfX1 b) g_114 (by omega) (by omega) (Nat.le_of_ble_eq_true rfl) (Nat.le_of_ble_eq_true rfl) e_114 f_114 ?_
  refine g_dup hX dX6_init_117 rfl ?_
  obtain ⟨h_116, r_116, e_116, hF⟩ := bi2_some hF
  refine g_callIN (As := []) (rest := [.ref (b + (N + 25)), .int 2, .ref (b + (r_105 p0 3))]) hX hI dX6_init_118 (ctX1_init (N := N + 25) (sz := sz + 25) (N + 25) ⟨g_114, by omega, by omega⟩ (by omega) e_116) (by decide) (by decide) wNn_X6_54 wi_X1_init wz_X1 wc_X1_init hiX1_init rfl rfl (Nat.le_of_ble_eq_true rfl) rfl (Nat.le_of_ble_eq_true rfl) (Nat.le_of_ble_eq_true rfl) ?_
  obtain ⟨g_117, hF⟩ := gd_some hF
  obtain ⟨r_117, e_117, hF⟩ := lt_some hF
  refine g_astR (ci := 11) (cj := 1) (k0 := 2) hX dX6_init_121 g_112c (by decide) (by omega) (by omega) g_114 (by decide) (by omega) (by omega) (fun _ => rfl) rfl (by omega) g_117 e_117 ?_
  refine g_iinc (v := 3) (L' := [(1, .int 3), (0, .ref (b + p0))]) (j := 0) hX dX6_init_122 rfl (by decide) (by decide) rfl ?_
  refine g_goto (tgt := 103) hX dX6_init_125 (by decide) ?_
  refine g_iload_n hX dX6_init_103 (i := 1) rfl (j := 0) rfl ?_
  refine g_bipush (v := 6) hX dX6_init_104 (by decide) ?_
  refine g_icmp_ge (tgt := 128) hX dX6_init_106 (by decide) (fun c9 => ?_) (fun c9 => ?_)
  · exact absurd c9 (by decide)
  refine g_aload_n hX dX6_init_109 (i := 0) rfl (j := 1) rfl ?_
  obtain ⟨g_124, hF⟩ := gd_some hF
  obtain ⟨g_124a, g_124b, g_124c⟩ := of_decide_eq_true g_124
  refine gf_X6_27 hX dX6_init_110 ⟨t0.1, by omega, by omega⟩ g_124a ?_
  refine g_iload_n hX dX6_init_113 (i := 1) rfl (j := 0) rfl ?_
  obtain ⟨g_126, hF⟩ := gd_some hF
  have g_126 := of_decide_eq_true g_126
  obtain ⟨h_126, e_126, hF⟩ := lt_some hF
  obtain ⟨r_126, f_126, hF⟩ := lt_some hF
  refine g_new (ci := 1) hX hI dX6_init_114 wl_X6_25 wx_X1 wz_X1 inG1 tyX1_ok rfl (by decide) (by decide) (dfX1 b) g_126 (by omega) (by omega) (Nat.le_of_ble_eq_true rfl) (Nat.le_of_ble_eq_true rfl) e_126 f_126 ?_
  refine g_dup hX dX6_init_117 rfl ?_
  obtain ⟨h_128, r_128, e_128, hF⟩ := bi2_some hF
  refine g_callIN (As := []) (rest := [.ref (b + (N + 27)), .int 3, .ref (b + (r_117 p0 3))]) hX hI dX6_init_118 (ctX1_init (N := N + 27) (sz := sz + 27) (N + 27) ⟨g_126, by omega, by omega⟩ (by omega) e_128) (by decide) (by decide) wNn_X6_54 wi_X1_init wz_X1 wc_X1_init hiX1_init rfl rfl (Nat.le_of_ble_eq_true rfl) rfl (Nat.le_of_ble_eq_true rfl) (Nat.le_of_ble_eq_true rfl) ?_
  obtain ⟨g_129, hF⟩ := gd_some hF
  obtain ⟨r_129, e_129, hF⟩ := lt_some hF
  refine g_astR (ci := 11) (cj := 1) (k0 := 2) hX dX6_init_121 g_124c (by decide) (by omega) (by omega) g_126 (by decide) (by omega) (by omega) (fun _ => rfl) rfl (by omega) g_129 e_129 ?_
  refine g_iinc (v := 4) (L' := [(1, .int 4), (0, .ref (b + p0))]) (j := 0) hX dX6_init_122 rfl (by decide) (by decide) rfl ?_
  refine g_goto (tgt := 103) hX dX6_init_125 (by decide) ?_
  refine g_iload_n hX dX6_init_103 (i := 1) rfl (j := 0) rfl ?_
  refine g_bipush (v := 6) hX dX6_init_104 (by decide) ?_
  refine g_icmp_ge (tgt := 128) hX dX6_init_106 (by decide) (fun c9 => ?_) (fun c9 => ?_)
  · exact absurd c9 (by decide)
  refine g_aload_n hX dX6_init_109 (i := 0) rfl (j := 1) rfl ?_
  obtain ⟨g_136, hF⟩ := gd_some hF
  obtain ⟨g_136a, g_136b, g_136c⟩ := of_decide_eq_true g_136
  refine gf_X6_27 hX dX6_init_110 ⟨t0.1, by omega, by omega⟩ g_136a ?_
  refine g_iload_n hX dX6_init_113 (i := 1) rfl (j := 0) rfl ?_
  obtain ⟨g_138, hF⟩ := gd_some hF
  have g_138 := of_decide_eq_true g_138
  obtain ⟨h_138, e_138, hF⟩ := lt_some hF
  obtain ⟨r_138, f_138, hF⟩ := lt_some hF
  refine g_new (ci := 1) hX hI dX6_init_114 wl_X6_25 wx_X1 wz_X1 inG1 tyX1_ok rfl (by decide) (by decide) (dfX1 b) g_138 (by omega) (by omega) (Nat.le_of_ble_eq_true rfl) (Nat.le_of_ble_eq_true rfl) e_138 f_138 ?_
  refine g_dup hX dX6_init_117 rfl ?_
  obtain ⟨h_140, r_140, e_140, hF⟩ := bi2_some hF
  refine g_callIN (As := []) (rest := [.ref (b + (N + 29)), .int 4, .ref (b + (r_129 p0 3))]) hX hI dX6_init_118 (ctX1_init (N := N + 29) (sz := sz + 29) (N + 29) ⟨g_138, by omega, by omega⟩ (by omega) e_140) (by decide) (by decide) wNn_X6_54 wi_X1_init wz_X1 wc_X1_init hiX1_init rfl rfl (Nat.le_of_ble_eq_true rfl) rfl (Nat.le_of_ble_eq_true rfl) (Nat.le_of_ble_eq_true rfl) ?_
  obtain ⟨g_141, hF⟩ := gd_some hF
  obtain ⟨r_141, e_141, hF⟩ := lt_some hF
  refine g_astR (ci := 11) (cj := 1) (k0 := 2) hX dX6_init_121 g_136c (by decide) (by omega) (by omega) g_138 (by decide) (by omega) (by omega) (fun _ => rfl) rfl (by omega) g_141 e_141 ?_
  refine g_iinc (v := 5) (L' := [(1, .int 5), (0, .ref (b + p0))]) (j := 0) hX dX6_init_122 rfl (by decide) (by decide) rfl ?_
  refine g_goto (tgt := 103) hX dX6_init_125 (by decide) ?_
  refine g_iload_n hX dX6_init_103 (i := 1) rfl (j := 0) rfl ?_
  refine g_bipush (v := 6) hX dX6_init_104 (by decide) ?_
  refine g_icmp_ge (tgt := 128) hX dX6_init_106 (by decide) (fun c9 => ?_) (fun c9 => ?_)
  · exact absurd c9 (by decide)
  refine g_aload_n hX dX6_init_109 (i := 0) rfl (j := 1) rfl ?_
  obtain ⟨g_148, hF⟩ := gd_some hF
  obtain ⟨g_148a, g_148b, g_148c⟩ := of_decide_eq_true g_148
  refine gf_X6_27 hX dX6_init_110 ⟨t0.1, by omega, by omega⟩ g_148a ?_
  refine g_iload_n hX dX6_init_113 (i := 1) rfl (j := 0) rfl ?_
  obtain ⟨g_150, hF⟩ := gd_some hF
  have g_150 := of_decide_eq_true g_150
  obtain ⟨h_150, e_150, hF⟩ := lt_some hF
  obtain ⟨r_150, f_150, hF⟩ := lt_some hF
  refine g_new (ci := 1) hX hI dX6_init_114 wl_X6_25 wx_X1 wz_X1 inG1 tyX1_ok rfl (by decide) (by decide) (dfX1 b) g_150 (by omega) (by omega) (Nat.le_of_ble_eq_true rfl) (Nat.le_of_ble_eq_true rfl) e_150 f_150 ?_
  refine g_dup hX dX6_init_117 rfl ?_
  obtain ⟨h_152, r_152, e_152, hF⟩ := bi2_some hF
  refine g_callIN (As := []) (rest := [.ref (b + (N + 31)), .int 5, .ref (b + (r_141 p0 3))]) hX hI dX6_init_118 (ctX1_init (N := N + 31) (sz := sz + 31) (N + 31) ⟨g_150, by omega, by omega⟩ (by omega) e_152) (by decide) (by decide) wNn_X6_54 wi_X1_init wz_X1 wc_X1_init hiX1_init rfl rfl (Nat.le_of_ble_eq_true rfl) rfl (Nat.le_of_ble_eq_true rfl) (Nat.le_of_ble_eq_true rfl) ?_
  obtain ⟨g_153, hF⟩ := gd_some hF
  obtain ⟨r_153, e_153, hF⟩ := lt_some hF
  refine g_astR (ci := 11) (cj := 1) (k0 := 2) hX dX6_init_121 g_148c (by decide) (by omega) (by omega) g_150 (by decide) (by omega) (by omega) (fun _ => rfl) rfl (by omega) g_153 e_153 ?_
  refine g_iinc (v := 6) (L' := [(1, .int 6), (0, .ref (b + p0))]) (j := 0) hX dX6_init_122 rfl (by decide) (by decide) rfl ?_
  refine g_goto (tgt := 103) hX dX6_init_125 (by decide) ?_
  refine g_iload_n hX dX6_init_103 (i := 1) rfl (j := 0) rfl ?_
  refine g_bipush (v := 6) hX dX6_init_104 (by decide) ?_
  refine g_icmp_ge (tgt := 128) hX dX6_init_106 (by decide) (fun c9 => ?_) (fun c9 => ?_)
  rotate_left
  · exact absurd (by decide) c9
  obtain rfl := Option.some.inj hF
  exact g_vret hX dX6_init_128 hR
theorem ctX6_init {b N sz : Nat} {h : HH} {r : RR} {w : HH × RR} (p0 : Nat) (t0 : KA p0 = 6 ∧ 1 ≤ p0 ∧ p0 ≤ N) (hsz : sz = b + N + 1) (hF : fX6_init N h r p0 = some w) : CTI yX6_init cX6_init 2 4 b KA lnA MA N sz [.ref (b + p0)] h r (N + 32) (sz + 32) w.1 w.2 32 537 :=
  CTI_of (by decide) rfl (Nat.le_of_ble_eq_true rfl) (by decide) rfl (fun X hX hI hN hR => kX6_init hX hI hN p0 t0 hsz hR hF)
def fX7_init (N : Nat) (h : HH) (r : RR) (p0 : Nat) : Option (HH × RR) := gd (decide (N + 127 ≤ MA)) (gd (decide (KA (N + 1) = 6)) (lt (zrow h (N + 1)) (fun h_4 => lt (zrowR r (N + 1)) (fun r_4 => bi2 (fX6_init (N + 1) h_4 r_4 (N + 1)) (fun h_6 r_6 => lt (upR r_6 p0 0 (N + 1)) (fun r_7 => gd (decide (KA (N + 34) = 6)) (lt (zrow h_6 (N + 34)) (fun h_9 => lt (zrowR r_7 (N + 34)) (fun r_9 => bi2 (fX6_init (N + 34) h_9 r_9 (N + 34)) (fun h_11 r_11 => lt (upR r_11 p0 1 (N + 34)) (fun r_12 => gd (decide (KA (N + 67) = 6)) (lt (zrow h_11 (N + 67)) (fun h_14 => lt (zrowR r_12 (N + 67)) (fun r_14 => bi2 (fX6_init (N + 67) h_14 r_14 (N + 67)) (fun h_16 r_16 => lt (upR r_16 p0 2 (N + 67)) (fun r_17 => lt (up h_16 p0 3 0) (fun h_20 => gd (decide (KA (N + 100) = 4)) (lt (zrow h_20 (N + 100)) (fun h_22 => lt (zrowR r_17 (N + 100)) (fun r_22 => bi2 (fX4_init (N + 100) h_22 r_22 (N + 100)) (fun h_24 r_24 => lt (upR r_24 p0 4 (N + 100)) (fun r_25 => gd (decide (KA (N + 102) = 0)) (lt (zrow h_24 (N + 102)) (fun h_27 => lt (zrowR r_25 (N + 102)) (fun r_27 => gd (decide (1 ≤ r_27 p0 0 ∧ r_27 p0 0 ≤ N + 102 ∧ KA (r_27 p0 0) = 6)) (bi2 (fX0_init (N + 102) h_27 r_27 (N + 102) (r_27 p0 0)) (fun h_31 r_31 => lt (upR r_31 p0 5 (N + 102)) (fun r_32 => gd (decide (KA (N + 114) = 2)) (lt (zrow h_31 (N + 114)) (fun h_34 => lt (zrowR r_32 (N + 114)) (fun r_34 => bi2 (fX2_init (N + 114) h_34 r_34 (N + 114)) (fun h_36 r_36 => lt (upR r_36 p0 6 (N + 114)) (fun r_37 => gd (decide (KA (N + 119) = 12 ∧ lnA (N + 119) = 4)) (lt (zrow h_36 (N + 119)) (fun h_40 => lt (zrowR r_37 (N + 119)) (fun r_40 => lt (upR r_40 p0 7 (N + 119)) (fun r_41 => gd (decide (1 ≤ r_41 p0 7 ∧ r_41 p0 7 ≤ N + 119 ∧ KA (r_41 p0 7) = 12)) (gd (decide (KA (N + 120) = 3)) (lt (zrow h_40 (N + 120)) (fun h_50 => lt (zrowR r_41 (N + 120)) (fun r_50 => bi2 (fX3_init (N + 120) h_50 r_50 (N + 120)) (fun h_52 r_52 => gd (inb 0 (lnA (r_41 p0 7))) (lt (upR r_52 (r_41 p0 7) (ix 0) (N + 120)) (fun r_53 => gd (decide (1 ≤ r_53 p0 7 ∧ r_53 p0 7 ≤ N + 121 ∧ KA (r_53 p0 7) = 12)) (gd (decide (KA (N + 122) = 3)) (lt (zrow h_52 (N + 122)) (fun h_62 => lt (zrowR r_53 (N + 122)) (fun r_62 => bi2 (fX3_init (N + 122) h_62 r_62 (N + 122)) (fun h_64 r_64 => gd (inb 1 (lnA (r_53 p0 7))) (lt (upR r_64 (r_53 p0 7) (ix 1) (N + 122)) (fun r_65 => gd (decide (1 ≤ r_65 p0 7 ∧ r_65 p0 7 ≤ N + 123 ∧ KA (r_65 p0 7) = 12)) (gd (decide (KA (N + 124) = 3)) (lt (zrow h_64 (N + 124)) (fun h_74 => lt (zrowR r_65 (N + 124)) (fun r_74 => bi2 (fX3_init (N + 124) h_74 r_74 (N + 124)) (fun h_76 r_76 => gd (inb 2 (lnA (r_65 p0 7))) (lt (upR r_76 (r_65 p0 7) (ix 2) (N + 124)) (fun r_77 => gd (decide (1 ≤ r_77 p0 7 ∧ r_77 p0 7 ≤ N + 125 ∧ KA (r_77 p0 7) = 12)) (gd (decide (KA (N + 126) = 3)) (lt (zrow h_76 (N + 126)) (fun h_86 => lt (zrowR r_77 (N + 126)) (fun r_86 => bi2 (fX3_init (N + 126) h_86 r_86 (N + 126)) (fun h_88 r_88 => gd (inb 3 (lnA (r_77 p0 7))) (lt (upR r_88 (r_77 p0 7) (ix 3) (N + 126)) (fun r_89 => some (h_88, r_89))))))))))))))))))))))))))))))))))))))))))))))))))))))))))))))))))
set_option maxRecDepth 100000 in
set_option maxHeartbeats 8000000 in
theorem kX7_init {X : XT} {b N sz : Nat} {h : HH} {r : RR} {w : HH × RR} (hX : XOK X RX7 cX7_init 2 5) (hI : XI X 127 2696) (hN : XN X) (p0 : Nat) (t0 : KA p0 = 7 ∧ 1 ≤ p0 ∧ p0 ≤ N) (hsz : sz = b + N + 1) (hR : XR X b KA lnA MA none 127 2696 (N + 127) (sz + 127) none w.1 w.2) (hF : fX7_init N h r p0 = some w) : GX X b KA lnA MA 2 0 0 N sz 0 [(0, .ref (b + p0))] [] h r := by
  rw [fX7_init] at hF
  obtain ⟨gN, hF⟩ := gd_some hF
  have gN := of_decide_eq_true gN
  have u0 := t0.2.1
  have v0 := t0.2.2
  refine g_aload_n hX dX7_init_0 (i := 0) rfl (j := 0) rfl ?_
  refine g_oinit hX dX7_init_1 wm_X7_3 (by decide) (Nat.le_of_ble_eq_true rfl) ?_
  refine g_aload_n hX dX7_init_4 (i := 0) rfl (j := 0) rfl ?_
  obtain ⟨g_4, hF⟩ := gd_some hF
  have g_4 := of_decide_eq_true g_4
  obtain ⟨h_4, e_4, hF⟩ := lt_some hF
  obtain ⟨r_4, f_4, hF⟩ := lt_some hF
  refine g_new (ci := 6) hX hI dX7_init_5 wl_X7_9 wx_X6 wz_X6 inG6 tyX6_ok rfl (by decide) (by decide) (dfX6 b) g_4 (by omega) (by omega) (Nat.le_of_ble_eq_true rfl) (Nat.le_of_ble_eq_true rfl) e_4 f_4 ?_
  refine g_dup hX dX7_init_8 rfl ?_
  obtain ⟨h_6, r_6, e_6, hF⟩ := bi2_some hF
  refine g_callI (As := []) (rest := [.ref (b + (N + 1)), .ref (b + p0)]) hX hI dX7_init_9 (ctX6_init (N := N + 1) (sz := sz + 1) (N + 1) ⟨g_4, by omega, by omega⟩ (by omega) e_6) (by decide) (by decide) wm_X7_11 wi_X6_init wz_X6 wc_X6_init hiX6_init rfl rfl (Nat.le_of_ble_eq_true rfl) rfl (Nat.le_of_ble_eq_true rfl) (Nat.le_of_ble_eq_true rfl) ?_
  obtain ⟨r_7, e_7, hF⟩ := lt_some hF
  refine g_putRF hX hN dX7_init_12 inG7 tyX7_ok nmX7 rfl (k := 0) (by decide) (by decide) wf_X7_12 rfl rfl rfl rfl (fun _ => rfl) (fun _ => rfl) (by decide) (by decide) (by decide) t0.1 (by omega) (by omega) (by omega) (by omega) e_7 ?_
  refine g_aload_n hX dX7_init_15 (i := 0) rfl (j := 0) rfl ?_
  obtain ⟨g_9, hF⟩ := gd_some hF
  have g_9 := of_decide_eq_true g_9
  obtain ⟨h_9, e_9, hF⟩ := lt_some hF
  obtain ⟨r_9, f_9, hF⟩ := lt_some hF
  refine g_new (ci := 6) hX hI dX7_init_16 wl_X7_9 wx_X6 wz_X6 inG6 tyX6_ok rfl (by decide) (by decide) (dfX6 b) g_9 (by omega) (by omega) (Nat.le_of_ble_eq_true rfl) (Nat.le_of_ble_eq_true rfl) e_9 f_9 ?_
  refine g_dup hX dX7_init_19 rfl ?_
  obtain ⟨h_11, r_11, e_11, hF⟩ := bi2_some hF
  refine g_callI (As := []) (rest := [.ref (b + (N + 34)), .ref (b + p0)]) hX hI dX7_init_20 (ctX6_init (N := N + 34) (sz := sz + 34) (N + 34) ⟨g_9, by omega, by omega⟩ (by omega) e_11) (by decide) (by decide) wm_X7_11 wi_X6_init wz_X6 wc_X6_init hiX6_init rfl rfl (Nat.le_of_ble_eq_true rfl) rfl (Nat.le_of_ble_eq_true rfl) (Nat.le_of_ble_eq_true rfl) ?_
  obtain ⟨r_12, e_12, hF⟩ := lt_some hF
  refine g_putRF hX hN dX7_init_23 inG7 tyX7_ok nmX7 rfl (k := 1) (by decide) (by decide) wf_X7_16 rfl rfl rfl rfl (fun _ => rfl) (fun _ => rfl) (by decide) (by decide) (by decide) t0.1 (by omega) (by omega) (by omega) (by omega) e_12 ?_
  refine g_aload_n hX dX7_init_26 (i := 0) rfl (j := 0) rfl ?_
  obtain ⟨g_14, hF⟩ := gd_some hF
  have g_14 := of_decide_eq_true g_14
  obtain ⟨h_14, e_14, hF⟩ := lt_some hF
  obtain ⟨r_14, f_14, hF⟩ := lt_some hF
  refine g_new (ci := 6) hX hI dX7_init_27 wl_X7_9 wx_X6 wz_X6 inG6 tyX6_ok rfl (by decide) (by decide) (dfX6 b) g_14 (by omega) (by omega) (Nat.le_of_ble_eq_true rfl) (Nat.le_of_ble_eq_true rfl) e_14 f_14 ?_
  refine g_dup hX dX7_init_30 rfl ?_
  obtain ⟨h_16, r_16, e_16, hF⟩ := bi2_some hF
  refine g_callI (As := []) (rest := [.ref (b + (N + 67)), .ref (b + p0)]) hX hI dX7_init_31 (ctX6_init (N := N + 67) (sz := sz + 67) (N + 67) ⟨g_14, by omega, by omega⟩ (by omega) e_16) (by decide) (by decide) wm_X7_11 wi_X6_init wz_X6 wc_X6_init hiX6_init rfl rfl (Nat.le_of_ble_eq_true rfl) rfl (Nat.le_of_ble_eq_true rfl) (Nat.le_of_ble_eq_true rfl) ?_
  obtain ⟨r_17, e_17, hF⟩ := lt_some hF
  refine g_putRF hX hN dX7_init_34 inG7 tyX7_ok nmX7 rfl (k := 2) (by decide) (by decide) wf_X7_19 rfl rfl rfl rfl (fun _ => rfl) (fun _ => rfl) (by decide) (by decide) (by decide) t0.1 (by omega) (by omega) (by omega) (by omega) e_17 ?_
  refine g_aload_n hX dX7_init_37 (i := 0) rfl (j := 0) rfl ?_
  refine g_iconst (v := 0) hX dX7_init_38 (by decide) ?_
  obtain ⟨h_20, e_20, hF⟩ := lt_some hF
  refine pf_X7_22 hX dX7_init_39 ⟨t0.1, by omega, by omega⟩ (by omega) (by decide) e_20 ?_
  refine g_aload_n hX dX7_init_42 (i := 0) rfl (j := 0) rfl ?_
  obtain ⟨g_22, hF⟩ := gd_some hF
  have g_22 := of_decide_eq_true g_22
  obtain ⟨h_22, e_22, hF⟩ := lt_some hF
  obtain ⟨r_22, f_22, hF⟩ := lt_some hF
  refine g_new (ci := 4) hX hI dX7_init_43 wl_X7_26 wx_X4 wz_X4 inG4 tyX4_ok rfl (by decide) (by decide) (dfX4 b) g_22 (by omega) (by omega) (Nat.le_of_ble_eq_true rfl) (Nat.le_of_ble_eq_true rfl) e_22 f_22 ?_
  refine g_dup hX dX7_init_46 rfl ?_
  obtain ⟨h_24, r_24, e_24, hF⟩ := bi2_some hF
  refine g_callIN (As := []) (rest := [.ref (b + (N + 100)), .ref (b + p0)]) hX hI dX7_init_47 (ctX4_init (N := N + 100) (sz := sz + 100) (N + 100) ⟨g_22, by omega, by omega⟩ (by omega) e_24) (by decide) (by decide) wNn_X7_28 wi_X4_init wz_X4 wc_X4_init hiX4_init rfl rfl (Nat.le_of_ble_eq_true rfl) rfl (Nat.le_of_ble_eq_true rfl) (Nat.le_of_ble_eq_true rfl) ?_
  obtain ⟨r_25, e_25, hF⟩ := lt_some hF
  refine g_putRF hX hN dX7_init_50 inG7 tyX7_ok nmX7 rfl (k := 4) (by decide) (by decide) wf_X7_29 rfl rfl rfl rfl (fun _ => rfl) (fun _ => rfl) (by decide) (by decide) (by decide) t0.1 (by omega) (by omega) (by omega) (by omega) e_25 ?_
  refine g_aload_n hX dX7_init_53 (i := 0) rfl (j := 0) rfl ?_
  obtain ⟨g_27, hF⟩ := gd_some hF
  have g_27 := of_decide_eq_true g_27
  obtain ⟨h_27, e_27, hF⟩ := lt_some hF
  obtain ⟨r_27, f_27, hF⟩ := lt_some hF
  refine g_new (ci := 0) hX hI dX7_init_54 wl_X7_33 wx_X0 wz_X0 inG0 tyX0_ok rfl (by decide) (by decide) (dfX0 b) g_27 (by omega) (by omega) (Nat.le_of_ble_eq_true rfl) (Nat.le_of_ble_eq_true rfl) e_27 f_27 ?_
  refine g_dup hX dX7_init_57 rfl ?_
  refine g_aload_n hX dX7_init_58 (i := 0) rfl (j := 0) rfl ?_
  obtain ⟨g_30, hF⟩ := gd_some hF
  obtain ⟨g_30a, g_30b, g_30c⟩ := of_decide_eq_true g_30
  refine gf_X7_12 hX dX7_init_59 ⟨t0.1, by omega, by omega⟩ g_30a ?_
  obtain ⟨h_31, r_31, e_31, hF⟩ := bi2_some hF
  refine g_callI (As := [.ref (b + (r_27 p0 0))]) (rest := [.ref (b + (N + 102)), .ref (b + p0)]) hX hI dX7_init_62 (ctX0_init (N := N + 102) (sz := sz + 102) (N + 102) (r_27 p0 0) ⟨g_27, by omega, by omega⟩ ⟨g_30c, by omega, by omega⟩ (by omega) e_31) (by decide) (by decide) wm_X7_35 wi_X0_init wz_X0 wc_X0_init hiX0_init rfl rfl (Nat.le_of_ble_eq_true rfl) rfl (Nat.le_of_ble_eq_true rfl) (Nat.le_of_ble_eq_true rfl) ?_
  obtain ⟨r_32, e_32, hF⟩ := lt_some hF
  refine g_putRF hX hN dX7_init_65 inG7 tyX7_ok nmX7 rfl (k := 5) (by decide) (by decide) wf_X7_38 rfl rfl rfl rfl (fun _ => rfl) (fun _ => rfl) (by decide) (by decide) (by decide) t0.1 (by omega) (by omega) (by omega) (by omega) e_32 ?_
  refine g_aload_n hX dX7_init_68 (i := 0) rfl (j := 0) rfl ?_
  obtain ⟨g_34, hF⟩ := gd_some hF
  have g_34 := of_decide_eq_true g_34
  obtain ⟨h_34, e_34, hF⟩ := lt_some hF
  obtain ⟨r_34, f_34, hF⟩ := lt_some hF
  refine g_new (ci := 2) hX hI dX7_init_69 wl_X7_42 wx_X2 wz_X2 inG2 tyX2_ok rfl (by decide) (by decide) (dfX2 b) g_34 (by omega) (by omega) (Nat.le_of_ble_eq_true rfl) (Nat.le_of_ble_eq_true rfl) e_34 f_34 ?_
  refine g_dup hX dX7_init_72 rfl ?_
  obtain ⟨h_36, r_36, e_36, hF⟩ := bi2_some hF
  refine g_callIN (As := []) (rest := [.ref (b + (N + 114)), .ref (b + p0)]) hX hI dX7_init_73 (ctX2_init (N := N + 114) (sz := sz + 114) (N + 114) ⟨g_34, by omega, by omega⟩ (by omega) e_36) (by decide) (by decide) wNn_X7_44 wi_X2_init wz_X2 wc_X2_init hiX2_init rfl rfl (Nat.le_of_ble_eq_true rfl) rfl (Nat.le_of_ble_eq_true rfl) (Nat.le_of_ble_eq_true rfl) ?_
  obtain ⟨r_37, e_37, hF⟩ := lt_some hF
  refine g_putRF hX hN dX7_init_76 inG7 tyX7_ok nmX7 rfl (k := 6) (by decide) (by decide) wf_X7_45 rfl rfl rfl rfl (fun _ => rfl) (fun _ => rfl) (by decide) (by decide) (by decide) t0.1 (by omega) (by omega) (by omega) (by omega) e_37 ?_
  refine g_aload_n hX dX7_init_79 (i := 0) rfl (j := 0) rfl ?_
  refine g_iconst (v := 4) hX dX7_init_80 (by decide) ?_
  obtain ⟨g_40, hF⟩ := gd_some hF
  have g_40 := of_decide_eq_true g_40
  obtain ⟨h_40, e_40, hF⟩ := lt_some hF
  obtain ⟨r_40, f_40, hF⟩ := lt_some hF
  refine g_anew (n := 4) (ci := 12) (k0 := 3) hX hI dX7_init_81 wl_X7_49 (fun _ => rfl) (fun _ z => z.2.1) (by decide) (by decide) (by decide) g_40 (by decide) (by omega) (by omega) (Nat.le_of_ble_eq_true rfl) (Nat.le_of_ble_eq_true rfl) e_40 f_40 ?_
  obtain ⟨r_41, e_41, hF⟩ := lt_some hF
  refine g_putRF hX hN dX7_init_84 inG7 tyX7_ok nmX7 rfl (k := 7) (by decide) (by decide) wf_X7_51 rfl rfl rfl rfl (fun _ => rfl) (fun _ => rfl) (by decide) (by decide) (by decide) t0.1 (by omega) (by omega) (by omega) (by omega) e_41 ?_
  refine g_iconst (v := 0) hX dX7_init_87 (by decide) ?_
  refine g_istore_n (L' := [(1, .int 0), (0, .ref (b + p0))]) hX dX7_init_88 (i := 1) rfl (by decide) rfl ?_
  refine g_iload_n hX dX7_init_89 (i := 1) rfl (j := 0) rfl ?_
  refine g_iconst (v := 4) hX dX7_init_90 (by decide) ?_
  refine g_icmp_ge (tgt := 113) hX dX7_init_91 (by decide) (fun c9 => ?_) (fun c9 => ?_)
  · exact absurd c9 (by decide)
  refine g_aload_n hX dX7_init_94 (i := 0) rfl (j := 1) rfl ?_
  obtain ⟨g_48, hF⟩ := gd_some hF
  obtain ⟨g_48a, g_48b, g_48c⟩ := of_decide_eq_true g_48
  refine gf_X7_51 hX dX7_init_95 ⟨t0.1, by omega, by omega⟩ g_48a ?_
  refine g_iload_n hX dX7_init_98 (i := 1) rfl (j := 0) rfl ?_
  obtain ⟨g_50, hF⟩ := gd_some hF
  have g_50 := of_decide_eq_true g_50
  obtain ⟨h_50, e_50, hF⟩ := lt_some hF
  obtain ⟨r_50, f_50, hF⟩ := lt_some hF
  refine g_new (ci := 3) hX hI dX7_init_99 wl_X7_49 wx_X3 wz_X3 inG3 tyX3_ok rfl (by decide) (by decide) (dfX3 b) g_50 (by omega) (by omega) (Nat.le_of_ble_eq_true rfl) (Nat.le_of_ble_eq_true rfl) e_50 f_50 ?_
  refine g_dup hX dX7_init_102 rfl ?_
  obtain ⟨h_52, r_52, e_52, hF⟩ := bi2_some hF
  refine g_callIN (As := []) (rest := [.ref (b + (N + 120)), .int 0, .ref (b + (r_41 p0 7))]) hX hI dX7_init_103 (ctX3_init (N := N + 120) (sz := sz + 120) (N + 120) ⟨g_50, by omega, by omega⟩ (by omega) e_52) (by decide) (by decide) wNn_X7_55 wi_X3_init wz_X3 wc_X3_init hiX3_init rfl rfl (Nat.le_of_ble_eq_true rfl) rfl (Nat.le_of_ble_eq_true rfl) (Nat.le_of_ble_eq_true rfl) ?_
  obtain ⟨g_53, hF⟩ := gd_some hF
  obtain ⟨r_53, e_53, hF⟩ := lt_some hF
  refine g_astR (ci := 12) (cj := 3) (k0 := 3) hX dX7_init_106 g_48c (by decide) (by omega) (by omega) g_50 (by decide) (by omega) (by omega) (fun _ => rfl) rfl (by omega) g_53 e_53 ?_
  refine g_iinc (v := 1) (L' := [(1, .int 1), (0, .ref (b + p0))]) (j := 0) hX dX7_init_107 rfl (by decide) (by decide) rfl ?_
  refine g_goto (tgt := 89) hX dX7_init_110 (by decide) ?_
  refine g_iload_n hX dX7_init_89 (i := 1) rfl (j := 0) rfl ?_
  refine g_iconst (v := 4) hX dX7_init_90 (by decide) ?_
  refine g_icmp_ge (tgt := 113) hX dX7_init_91 (by decide) (fun c9 => ?_) (fun c9 => ?_)
  · exact absurd c9 (by decide)
  refine g_aload_n hX dX7_init_94 (i := 0) rfl (j := 1) rfl ?_
  obtain ⟨g_60, hF⟩ := gd_some hF
  obtain ⟨g_60a, g_60b, g_60c⟩ := of_decide_eq_true g_60
  refine gf_X7_51 hX dX7_init_95 ⟨t0.1, by omega, by omega⟩ g_60a ?_
  refine g_iload_n hX dX7_init_98 (i := 1) rfl (j := 0) rfl ?_
  obtain ⟨g_62, hF⟩ := gd_some hF
  have g_62 := of_decide_eq_true g_62
  obtain ⟨h_62, e_62, hF⟩ := lt_some hF
  obtain ⟨r_62, f_62, hF⟩ := lt_some hF
  refine g_new (ci := 3) hX hI dX7_init_99 wl_X7_49 wx_X3 wz_X3 inG3 tyX3_ok rfl (by decide) (by decide) (dfX3 b) g_62 (by omega) (by omega) (Nat.le_of_ble_eq_true rfl) (Nat.le_of_ble_eq_true rfl) e_62 f_62 ?_
  refine g_dup hX dX7_init_102 rfl ?_
  obtain ⟨h_64, r_64, e_64, hF⟩ := bi2_some hF
  refine g_callIN (As := []) (rest := [.ref (b + (N + 122)), .int 1, .ref (b + (r_53 p0 7))]) hX hI dX7_init_103 (ctX3_init (N := N + 122) (sz := sz + 122) (N + 122) ⟨g_62, by omega, by omega⟩ (by omega) e_64) (by decide) (by decide) wNn_X7_55 wi_X3_init wz_X3 wc_X3_init hiX3_init rfl rfl (Nat.le_of_ble_eq_true rfl) rfl (Nat.le_of_ble_eq_true rfl) (Nat.le_of_ble_eq_true rfl) ?_
  obtain ⟨g_65, hF⟩ := gd_some hF
  obtain ⟨r_65, e_65, hF⟩ := lt_some hF
  refine g_astR (ci := 12) (cj := 3) (k0 := 3) hX dX7_init_106 g_60c (by decide) (by omega) (by omega) g_62 (by decide) (by omega) (by omega) (fun _ => rfl) rfl (by omega) g_65 e_65 ?_
  refine g_iinc (v := 2) (L' := [(1, .int 2), (0, .ref (b + p0))]) (j := 0) hX dX7_init_107 rfl (by decide) (by decide) rfl ?_
  refine g_goto (tgt := 89) hX dX7_init_110 (by decide) ?_
  refine g_iload_n hX dX7_init_89 (i := 1) rfl (j := 0) rfl ?_
  refine g_iconst (v := 4) hX dX7_init_90 (by decide) ?_
  refine g_icmp_ge (tgt := 113) hX dX7_init_91 (by decide) (fun c9 => ?_) (fun c9 => ?_)
  · exact absurd c9 (by decide)
  refine g_aload_n hX dX7_init_94 (i := 0) rfl (j := 1) rfl ?_
  obtain ⟨g_72, hF⟩ := gd_some hF
  obtain ⟨g_72a, g_72b, g_72c⟩ := of_decide_eq_true g_72
  refine gf_X7_51 hX dX7_init_95 ⟨t0.1, by omega, by omega⟩ g_72a ?_
  refine g_iload_n hX dX7_init_98 (i := 1) rfl (j := 0) rfl ?_
  obtain ⟨g_74, hF⟩ := gd_some hF
  have g_74 := of_decide_eq_true g_74
  obtain ⟨h_74, e_74, hF⟩ := lt_some hF
  obtain ⟨r_74, f_74, hF⟩ := lt_some hF
  refine g_new (ci := 3) hX hI dX7_init_99 wl_X7_49 wx_X3 wz_X3 inG3 tyX3_ok rfl (by decide) (by decide) (dfX3 b) g_74 (by omega) (by omega) (Nat.le_of_ble_eq_true rfl) (Nat.le_of_ble_eq_true rfl) e_74 f_74 ?_
  refine g_dup hX dX7_init_102 rfl ?_
  obtain ⟨h_76, r_76, e_76, hF⟩ := bi2_some hF
  refine g_callIN (As := []) (rest := [.ref (b + (N + 124)), .int 2, .ref (b + (r_65 p0 7))]) hX hI dX7_init_103 (ctX3_init (N := N + 124) (sz := sz + 124) (N + 124) ⟨g_74, by omega, by omega⟩ (by omega) e_76) (by decide) (by decide) wNn_X7_55 wi_X3_init wz_X3 wc_X3_init hiX3_init rfl rfl (Nat.le_of_ble_eq_true rfl) rfl (Nat.le_of_ble_eq_true rfl) (Nat.le_of_ble_eq_true rfl) ?_
  obtain ⟨g_77, hF⟩ := gd_some hF
  obtain ⟨r_77, e_77, hF⟩ := lt_some hF
  refine g_astR (ci := 12) (cj := 3) (k0 := 3) hX dX7_init_106 g_72c (by decide) (by omega) (by omega) g_74 (by decide) (by omega) (by omega) (fun _ => rfl) rfl (by omega) g_77 e_77 ?_
  refine g_iinc (v := 3) (L' := [(1, .int 3), (0, .ref (b + p0))]) (j := 0) hX dX7_init_107 rfl (by decide) (by decide) rfl ?_
  refine g_goto (tgt := 89) hX dX7_init_110 (by decide) ?_
  refine g_iload_n hX dX7_init_89 (i := 1) rfl (j := 0) rfl ?_
  refine g_iconst (v := 4) hX dX7_init_90 (by decide) ?_
  refine g_icmp_ge (tgt := 113) hX dX7_init_91 (by decide) (fun c9 => ?_) (fun c9 => ?_)
  · exact absurd c9 (by decide)
  refine g_aload_n hX dX7_init_94 (i := 0) rfl (j := 1) rfl ?_
  obtain ⟨g_84, hF⟩ := gd_some hF
  obtain ⟨g_84a, g_84b, g_84c⟩ := of_decide_eq_true g_84
  refine gf_X7_51 hX dX7_init_95 ⟨t0.1, by omega, by omega⟩ g_84a ?_
  refine g_iload_n hX dX7_init_98 (i := 1) rfl (j := 0) rfl ?_
  obtain ⟨g_86, hF⟩ := gd_some hF
  have g_86 := of_decide_eq_true g_86
  obtain ⟨h_86, e_86, hF⟩ := lt_some hF
  obtain ⟨r_86, f_86, hF⟩ := lt_some hF
  refine g_new (ci := 3) hX hI dX7_init_99 wl_X7_49 wx_X3 wz_X3 inG3 tyX3_ok rfl (by decide) (by decide) (dfX3 b) g_86 (by omega) (by omega) (Nat.le_of_ble_eq_true rfl) (Nat.le_of_ble_eq_true rfl) e_86 f_86 ?_
  refine g_dup hX dX7_init_102 rfl ?_
  obtain ⟨h_88, r_88, e_88, hF⟩ := bi2_some hF
  refine g_callIN (As := []) (rest := [.ref (b + (N + 126)), .int 3, .ref (b + (r_77 p0 7))]) hX hI dX7_init_103 (ctX3_init (N := N + 126) (sz := sz + 126) (N + 126) ⟨g_86, by omega, by omega⟩ (by omega) e_88) (by decide) (by decide) wNn_X7_55 wi_X3_init wz_X3 wc_X3_init hiX3_init rfl rfl (Nat.le_of_ble_eq_true rfl) rfl (Nat.le_of_ble_eq_true rfl) (Nat.le_of_ble_eq_true rfl) ?_
  obtain ⟨g_89, hF⟩ := gd_some hF
  obtain ⟨r_89, e_89, hF⟩ := lt_some hF
  refine g_astR (ci := 12) (cj := 3) (k0 := 3) hX dX7_init_106 g_84c (by decide) (by omega) (by omega) g_86 (by decide) (by omega) (by omega) (fun _ => rfl) rfl (by omega) g_89 e_89 ?_
  refine g_iinc (v := 4) (L' := [(1, .int 4), (0, .ref (b + p0))]) (j := 0) hX dX7_init_107 rfl (by decide) (by decide) rfl ?_
  refine g_goto (tgt := 89) hX dX7_init_110 (by decide) ?_
  refine g_iload_n hX dX7_init_89 (i := 1) rfl (j := 0) rfl ?_
  refine g_iconst (v := 4) hX dX7_init_90 (by decide) ?_
  refine g_icmp_ge (tgt := 113) hX dX7_init_91 (by decide) (fun c9 => ?_) (fun c9 => ?_)
  rotate_left
  · exact absurd (by decide) c9
  obtain rfl := Option.some.inj hF
  exact g_vret hX dX7_init_113 hR
theorem ctX7_init {b N sz : Nat} {h : HH} {r : RR} {w : HH × RR} (p0 : Nat) (t0 : KA p0 = 7 ∧ 1 ≤ p0 ∧ p0 ≤ N) (hsz : sz = b + N + 1) (hF : fX7_init N h r p0 = some w) : CTI yX7_init cX7_init 2 5 b KA lnA MA N sz [.ref (b + p0)] h r (N + 127) (sz + 127) w.1 w.2 127 2696 :=
  CTI_of (by decide) rfl (Nat.le_of_ble_eq_true rfl) (by decide) rfl (fun X hX hI hN hR => kX7_init hX hI hN p0 t0 hsz hR hF)
def fX8_init (N : Nat) (h : HH) (r : RR) (p0 : Nat) : Option (HH × RR) := gd (decide (N + 91 ≤ MM)) (gd (decide (KM (N + 1) = 10 ∧ lnM (N + 1) = 30)) (lt (zrow h (N + 1)) (fun h_5 => lt (zrowR r (N + 1)) (fun r_5 => lt (upR r_5 p0 2 (N + 1)) (fun r_6 => gd (mnaok KM lnM (N + 1) 3 15 10 30) (lt (zrows h_5 (N + 1) 3) (fun h_10 => lt (zrowsR r_6 (N + 1) 3) (fun r_10 => lt (upR r_10 p0 3 (N + 2)) (fun r_11 => gd (mnaok KM lnM (N + 5) 3 14 9 30) (lt (zrows h_10 (N + 5) 3) (fun h_15 => lt (zrowsR r_11 (N + 5) 3) (fun r_15 => lt (upR r_15 p0 4 (N + 6)) (fun r_16 => gd (mnaok KM lnM (N + 9) 3 14 9 30) (lt (zrows h_15 (N + 9) 3) (fun h_20 => lt (zrowsR r_16 (N + 9) 3) (fun r_20 => lt (upR r_20 p0 5 (N + 10)) (fun r_21 => gd (mnaok KM lnM (N + 13) 3 14 9 30) (lt (zrows h_20 (N + 13) 3) (fun h_25 => lt (zrowsR r_21 (N + 13) 3) (fun r_25 => lt (upR r_25 p0 6 (N + 14)) (fun r_26 => lt (up h_25 p0 8 (-1)) (fun h_29 => gd (decide (KM (N + 18) = 10 ∧ lnM (N + 18) = 30)) (lt (zrow h_29 (N + 18)) (fun h_32 => lt (zrowR r_26 (N + 18)) (fun r_32 => lt (upR r_32 p0 10 (N + 18)) (fun r_33 => gd (decide (KM (N + 19) = 10 ∧ lnM (N + 19) = 6)) (lt (zrow h_32 (N + 19)) (fun h_36 => lt (zrowR r_33 (N + 19)) (fun r_36 => lt (upR r_36 p0 12 (N + 19)) (fun r_37 => gd (decide (KM (N + 20) = 9 ∧ lnM (N + 20) = 6)) (lt (zrow h_36 (N + 20)) (fun h_40 => lt (zrowR r_37 (N + 20)) (fun r_40 => lt (upR r_40 p0 13 (N + 20)) (fun r_41 => gd (mnaok KM lnM (N + 20) 6 14 9 8) (lt (zrows h_40 (N + 20) 6) (fun h_45 => lt (zrowsR r_41 (N + 20) 6) (fun r_45 => lt (upR r_45 p0 14 (N + 21)) (fun r_46 => gd (decide (KM (N + 28) = 9 ∧ lnM (N + 28) = 40)) (lt (zrow h_45 (N + 28)) (fun h_49 => lt (zrowR r_46 (N + 28)) (fun r_49 => lt (upR r_49 p0 15 (N + 28)) (fun r_50 => gd (decide (KM (N + 29) = 9 ∧ lnM (N + 29) = 30)) (lt (zrow h_49 (N + 29)) (fun h_53 => lt (zrowR r_50 (N + 29)) (fun r_53 => lt (upR r_53 p0 23 (N + 29)) (fun r_54 => gd (decide (KM (N + 30) = 10 ∧ lnM (N + 30) = 31)) (lt (zrow h_53 (N + 30)) (fun h_57 => lt (zrowR r_54 (N + 30)) (fun r_57 => lt (upR r_57 p0 24 (N + 30)) (fun r_58 => gd (decide (KM (N + 31) = 10 ∧ lnM (N + 31) = 30)) (lt (zrow h_57 (N + 31)) (fun h_61 => lt (zrowR r_58 (N + 31)) (fun r_61 => lt (upR r_61 p0 25 (N + 31)) (fun r_62 => gd (decide (KM (N + 32) = 9 ∧ lnM (N + 32) = 200)) (lt (zrow h_61 (N + 32)) (fun h_65 => lt (zrowR r_62 (N + 32)) (fun r_65 => lt (upR r_65 p0 28 (N + 32)) (fun r_66 => gd (decide (KM (N + 33) = 9 ∧ lnM (N + 33) = 200)) (lt (zrow h_65 (N + 33)) (fun h_69 => lt (zrowR r_66 (N + 33)) (fun r_69 => lt (upR r_69 p0 29 (N + 33)) (fun r_70 => gd (decide (KM (N + 34) = 10 ∧ lnM (N + 34) = 30)) (lt (zrow h_69 (N + 34)) (fun h_73 => lt (zrowR r_70 (N + 34)) (fun r_73 => lt (upR r_73 p0 30 (N + 34)) (fun r_74 => gd (decide (KM (N + 35) = 10 ∧ lnM (N + 35) = 30)) (lt (zrow h_73 (N + 35)) (fun h_77 => lt (zrowR r_74 (N + 35)) (fun r_77 => lt (upR r_77 p0 31 (N + 35)) (fun r_78 => gd (decide (KM (N + 36) = 9 ∧ lnM (N + 36) = 30)) (lt (zrow h_77 (N + 36)) (fun h_81 => lt (zrowR r_78 (N + 36)) (fun r_81 => lt (upR r_81 p0 32 (N + 36)) (fun r_82 => gd (decide (KM (N + 37) = 9 ∧ lnM (N + 37) = 30)) (lt (zrow h_81 (N + 37)) (fun h_85 => lt (zrowR r_82 (N + 37)) (fun r_85 => lt (upR r_85 p0 33 (N + 37)) (fun r_86 => gd (decide (KM (N + 38) = 9 ∧ lnM (N + 38) = 30)) (lt (zrow h_85 (N + 38)) (fun h_89 => lt (zrowR r_86 (N + 38)) (fun r_89 => lt (upR r_89 p0 34 (N + 38)) (fun r_90 => gd (decide (KM (N + 39) = 9 ∧ lnM (N + 39) = 120)) (lt (zrow h_89 (N + 39)) (fun h_93 => lt (zrowR r_90 (N + 39)) (fun r_93 => lt (upR r_93 p0 36 (N + 39)) (fun r_94 => gd (decide (KM (N + 40) = 9 ∧ lnM (N + 40) = 120)) (lt (zrow h_93 (N + 40)) (fun h_97 => lt (zrowR r_94 (N + 40)) (fun r_97 => lt (upR r_97 p0 37 (N + 40)) (fun r_98 => gd (mnaok KM lnM (N + 40) 3 15 10 30) (lt (zrows h_97 (N + 40) 3) (fun h_102 => lt (zrowsR r_98 (N + 40) 3) (fun r_102 => lt (upR r_102 p0 38 (N + 41)) (fun r_103 => gd (mnaok KM lnM (N + 44) 3 14 9 30) (lt (zrows h_102 (N + 44) 3) (fun h_107 => lt (zrowsR r_103 (N + 44) 3) (fun r_107 => lt (upR r_107 p0 39 (N + 45)) (fun r_108 => gd (mnaok KM lnM (N + 48) 3 14 9 30) (lt (zrows h_107 (N + 48) 3) (fun h_112 => lt (zrowsR r_108 (N + 48) 3) (fun r_112 => lt (upR r_112 p0 40 (N + 49)) (fun r_113 => gd (mnaok KM lnM (N + 52) 3 14 9 30) (lt (zrows h_112 (N + 52) 3) (fun h_117 => lt (zrowsR r_113 (N + 52) 3) (fun r_117 => lt (upR r_117 p0 41 (N + 53)) (fun r_118 => gd (decide (KM (N + 57) = 9 ∧ lnM (N + 57) = 6)) (lt (zrow h_117 (N + 57)) (fun h_121 => lt (zrowR r_118 (N + 57)) (fun r_121 => lt (upR r_121 p0 44 (N + 57)) (fun r_122 => gd (mnaok KM lnM (N + 57) 5 15 10 30) (lt (zrows h_121 (N + 57) 5) (fun h_126 => lt (zrowsR r_122 (N + 57) 5) (fun r_126 => lt (upR r_126 p0 45 (N + 58)) (fun r_127 => gd (mnaok KM lnM (N + 63) 3 14 9 30) (lt (zrows h_126 (N + 63) 3) (fun h_131 => lt (zrowsR r_127 (N + 63) 3) (fun r_131 => lt (upR r_131 p0 46 (N + 64)) (fun r_132 => gd (mnaok KM lnM (N + 67) 3 14 9 30) (lt (zrows h_131 (N + 67) 3) (fun h_136 => lt (zrowsR r_132 (N + 67) 3) (fun r_136 => lt (upR r_136 p0 47 (N + 68)) (fun r_137 => gd (mnaok KM lnM (N + 71) 3 14 9 30) (lt (zrows h_136 (N + 71) 3) (fun h_141 => lt (zrowsR r_137 (N + 71) 3) (fun r_141 => lt (upR r_141 p0 48 (N + 72)) (fun r_142 => gd (mnaok KM lnM (N + 75) 6 14 9 8) (lt (zrows h_141 (N + 75) 6) (fun h_146 => lt (zrowsR r_142 (N + 75) 6) (fun r_146 => lt (upR r_146 p0 49 (N + 76)) (fun r_147 => gd (decide (KM (N + 83) = 9 ∧ lnM (N + 83) = 6)) (lt (zrow h_146 (N + 83)) (fun h_150 => lt (zrowR r_147 (N + 83)) (fun r_150 => lt (upR r_150 p0 50 (N + 83)) (fun r_151 => gd (decide (KM (N + 84) = 9 ∧ lnM (N + 84) = 4)) (lt (zrow h_150 (N + 84)) (fun h_154 => lt (zrowR r_151 (N + 84)) (fun r_154 => gd (inb 0 (lnM (N + 84))) (lt (up h_154 (N + 84) (ix 0) (-1)) (fun h_158 => gd (inb 1 (lnM (N + 84))) (lt (up h_158 (N + 84) (ix 1) (-1)) (fun h_162 => gd (inb 2 (lnM (N + 84))) (lt (up h_162 (N + 84) (ix 2) (-1)) (fun h_166 => gd (inb 3 (lnM (N + 84))) (lt (up h_166 (N + 84) (ix 3) (-1)) (fun h_170 => lt (upR r_154 p0 51 (N + 84)) (fun r_171 => gd (decide (KM (N + 85) = 9 ∧ lnM (N + 85) = 4)) (lt (zrow h_170 (N + 85)) (fun h_174 => lt (zrowR r_171 (N + 85)) (fun r_174 => lt (upR r_174 p0 52 (N + 85)) (fun r_175 => gd (mnaok KM lnM (N + 85) 4 14 9 40) (lt (zrows h_174 (N + 85) 4) (fun h_179 => lt (zrowsR r_175 (N + 85) 4) (fun r_179 => lt (upR r_179 p0 53 (N + 86)) (fun r_180 => gd (decide (KM (N + 91) = 9 ∧ lnM (N + 91) = 40)) (lt (zrow h_179 (N + 91)) (fun h_183 => lt (zrowR r_180 (N + 91)) (fun r_183 => lt (upR r_183 p0 54 (N + 91)) (fun r_184 => some (h_183, r_184)))))))))))))))))))))))))))))))))))))))))))))))))))))))))))))))))))))))))))))))))))))))))))))))))))))))))))))))))))))))))))))))))))))))))))))))))))))))))))))))
set_option maxRecDepth 100000 in
set_option maxHeartbeats 8000000 in
theorem kX8_init {X : XT} {b N sz : Nat} {h : HH} {r : RR} {w : HH × RR} (hX : XOK X RX8 cX8_init 1 2) (hI : XI X 91 2503) (hN : XN X) (p0 : Nat) (t0 : KM p0 = 8 ∧ 1 ≤ p0 ∧ p0 ≤ N) (hsz : sz = b + N + 1) (hR : XR X b KM lnM MM none 91 2503 (N + 91) (sz + 91) none w.1 w.2) (hF : fX8_init N h r p0 = some w) : GX X b KM lnM MM 1 0 0 N sz 0 [(0, .ref (b + p0))] [] h r := by
  rw [fX8_init] at hF
  obtain ⟨gN, hF⟩ := gd_some hF
  have gN := of_decide_eq_true gN
  have u0 := t0.2.1
  have v0 := t0.2.2
  refine g_aload_n hX dX8_init_0 (i := 0) rfl (j := 0) rfl ?_
  refine g_oinit hX dX8_init_1 wm_X8_1 (by decide) (Nat.le_of_ble_eq_true rfl) ?_
  refine g_aload_n hX dX8_init_4 (i := 0) rfl (j := 0) rfl ?_
  refine g_bipush (v := 30) hX dX8_init_5 (by decide) ?_
  obtain ⟨g_5, hF⟩ := gd_some hF
  have g_5 := of_decide_eq_true g_5
  obtain ⟨h_5, e_5, hF⟩ := lt_some hF
  obtain ⟨r_5, f_5, hF⟩ := lt_some hF
  refine g_newZ (n := 30) hX hI dX8_init_7 (by decide) (by decide) g_5 (by decide) (by omega) (by omega) (Nat.le_of_ble_eq_true rfl) (Nat.le_of_ble_eq_true rfl) e_5 f_5 ?_
  obtain ⟨r_6, e_6, hF⟩ := lt_some hF
  refine g_putRF hX hN dX8_init_9 inG8 tyX8_ok nmX8 rfl (k := 2) (by decide) (by decide) wf_X8_9 rfl rfl rfl rfl (fun _ => rfl) (fun _ => rfl) (by decide) (by decide) (by decide) t0.1 (by omega) (by omega) (by omega) (by omega) e_6 ?_
  refine g_aload_n hX dX8_init_12 (i := 0) rfl (j := 0) rfl ?_
  refine g_iconst (v := 3) hX dX8_init_13 (by decide) ?_
  refine g_bipush (v := 30) hX dX8_init_14 (by decide) ?_
  obtain ⟨g_10, hF⟩ := gd_some hF
  have g_10 := mnaok_spec g_10
  obtain ⟨h_10, e_10, hF⟩ := lt_some hF
  obtain ⟨r_10, f_10, hF⟩ := lt_some hF
  refine g_mna (n := 3) (k := 30) (ty := .boolean) (ci := 15) (cj := 10) (k0 := 6) (k1 := 1) hX hI dX8_init_16 wlm_X8_13 wa_boolean (fun _ z => z.2.2.2.2) (fun _ => rfl) (fun _ => rfl) (fun _ _ z => z) (fun _ _ z => z) (by decide) (by decide) (by decide) (by decide) (by decide) (by decide) (by decide) (by decide) rfl rfl rfl g_10 (by decide) (by decide) (by omega) (by omega) (Nat.le_of_ble_eq_true rfl) (Nat.le_of_ble_eq_true rfl) e_10 f_10 ?_
  obtain ⟨r_11, e_11, hF⟩ := lt_some hF
  refine g_putRF hX hN dX8_init_20 inG8 tyX8_ok nmX8 rfl (k := 3) (by decide) (by decide) wf_X8_15 rfl rfl rfl rfl (fun _ => rfl) (fun _ => rfl) (by decide) (by decide) (by decide) t0.1 (by omega) (by omega) (by omega) (by omega) e_11 ?_
  refine g_aload_n hX dX8_init_23 (i := 0) rfl (j := 0) rfl ?_
  refine g_iconst (v := 3) hX dX8_init_24 (by decide) ?_
  refine g_bipush (v := 30) hX dX8_init_25 (by decide) ?_
  obtain ⟨g_15, hF⟩ := gd_some hF
  have g_15 := mnaok_spec g_15
  obtain ⟨h_15, e_15, hF⟩ := lt_some hF
  obtain ⟨r_15, f_15, hF⟩ := lt_some hF
  refine g_mna (n := 3) (k := 30) (ty := .int) (ci := 14) (cj := 9) (k0 := 5) (k1 := 0) hX hI dX8_init_27 wlm_X8_18 wa_int (fun _ z => z.2.2.2.1) (fun _ => rfl) (fun _ => rfl) (fun _ _ z => z) (fun _ _ z => z) (by decide) (by decide) (by decide) (by decide) (by decide) (by decide) (by decide) (by decide) rfl rfl rfl g_15 (by decide) (by decide) (by omega) (by omega) (Nat.le_of_ble_eq_true rfl) (Nat.le_of_ble_eq_true rfl) e_15 f_15 ?_
  obtain ⟨r_16, e_16, hF⟩ := lt_some hF
  refine g_putRF hX hN dX8_init_31 inG8 tyX8_ok nmX8 rfl (k := 4) (by decide) (by decide) wf_X8_20 rfl rfl rfl rfl (fun _ => rfl) (fun _ => rfl) (by decide) (by decide) (by decide) t0.1 (by omega) (by omega) (by omega) (by omega) e_16 ?_
  refine g_aload_n hX dX8_init_34 (i := 0) rfl (j := 0) rfl ?_
  refine g_iconst (v := 3) hX dX8_init_35 (by decide) ?_
  refine g_bipush (v := 30) hX dX8_init_36 (by decide) ?_
  obtain ⟨g_20, hF⟩ := gd_some hF
  have g_20 := mnaok_spec g_20
  obtain ⟨h_20, e_20, hF⟩ := lt_some hF
  obtain ⟨r_20, f_20, hF⟩ := lt_some hF
  refine g_mna (n := 3) (k := 30) (ty := .int) (ci := 14) (cj := 9) (k0 := 5) (k1 := 0) hX hI dX8_init_38 wlm_X8_18 wa_int (fun _ z => z.2.2.2.1) (fun _ => rfl) (fun _ => rfl) (fun _ _ z => z) (fun _ _ z => z) (by decide) (by decide) (by decide) (by decide) (by decide) (by decide) (by decide) (by decide) rfl rfl rfl g_20 (by decide) (by decide) (by omega) (by omega) (Nat.le_of_ble_eq_true rfl) (Nat.le_of_ble_eq_true rfl) e_20 f_20 ?_
  obtain ⟨r_21, e_21, hF⟩ := lt_some hF
  refine g_putRF hX hN dX8_init_42 inG8 tyX8_ok nmX8 rfl (k := 5) (by decide) (by decide) wf_X8_23 rfl rfl rfl rfl (fun _ => rfl) (fun _ => rfl) (by decide) (by decide) (by decide) t0.1 (by omega) (by omega) (by omega) (by omega) e_21 ?_
  refine g_aload_n hX dX8_init_45 (i := 0) rfl (j := 0) rfl ?_
  refine g_iconst (v := 3) hX dX8_init_46 (by decide) ?_
  refine g_bipush (v := 30) hX dX8_init_47 (by decide) ?_
  obtain ⟨g_25, hF⟩ := gd_some hF
  have g_25 := mnaok_spec g_25
  obtain ⟨h_25, e_25, hF⟩ := lt_some hF
  obtain ⟨r_25, f_25, hF⟩ := lt_some hF
  refine g_mna (n := 3) (k := 30) (ty := .int) (ci := 14) (cj := 9) (k0 := 5) (k1 := 0) hX hI dX8_init_49 wlm_X8_18 wa_int (fun _ z => z.2.2.2.1) (fun _ => rfl) (fun _ => rfl) (fun _ _ z => z) (fun _ _ z => z) (by decide) (by decide) (by decide) (by decide) (by decide) (by decide) (by decide) (by decide) rfl rfl rfl g_25 (by decide) (by decide) (by omega) (by omega) (Nat.le_of_ble_eq_true rfl) (Nat.le_of_ble_eq_true rfl) e_25 f_25 ?_
  obtain ⟨r_26, e_26, hF⟩ := lt_some hF
  refine g_putRF hX hN dX8_init_53 inG8 tyX8_ok nmX8 rfl (k := 6) (by decide) (by decide) wf_X8_26 rfl rfl rfl rfl (fun _ => rfl) (fun _ => rfl) (by decide) (by decide) (by decide) t0.1 (by omega) (by omega) (by omega) (by omega) e_26 ?_
  refine g_aload_n hX dX8_init_56 (i := 0) rfl (j := 0) rfl ?_
  refine g_iconst (v := (-1)) hX dX8_init_57 (by decide) ?_
  obtain ⟨h_29, e_29, hF⟩ := lt_some hF
  refine pf_X8_29 hX dX8_init_58 ⟨t0.1, by omega, by omega⟩ (by omega) e_29 ?_
  refine g_aload_n hX dX8_init_61 (i := 0) rfl (j := 0) rfl ?_
  refine g_bipush (v := 30) hX dX8_init_62 (by decide) ?_
  obtain ⟨g_32, hF⟩ := gd_some hF
  have g_32 := of_decide_eq_true g_32
  obtain ⟨h_32, e_32, hF⟩ := lt_some hF
  obtain ⟨r_32, f_32, hF⟩ := lt_some hF
  refine g_newZ (n := 30) hX hI dX8_init_64 (by decide) (by decide) g_32 (by decide) (by omega) (by omega) (Nat.le_of_ble_eq_true rfl) (Nat.le_of_ble_eq_true rfl) e_32 f_32 ?_
  obtain ⟨r_33, e_33, hF⟩ := lt_some hF
  refine g_putRF hX hN dX8_init_66 inG8 tyX8_ok nmX8 rfl (k := 10) (by decide) (by decide) wf_X8_33 rfl rfl rfl rfl (fun _ => rfl) (fun _ => rfl) (by decide) (by decide) (by decide) t0.1 (by omega) (by omega) (by omega) (by omega) e_33 ?_
  refine g_aload_n hX dX8_init_69 (i := 0) rfl (j := 0) rfl ?_
  refine g_bipush (v := 6) hX dX8_init_70 (by decide) ?_
  obtain ⟨g_36, hF⟩ := gd_some hF
  have g_36 := of_decide_eq_true g_36
  obtain ⟨h_36, e_36, hF⟩ := lt_some hF
  obtain ⟨r_36, f_36, hF⟩ := lt_some hF
  refine g_newZ (n := 6) hX hI dX8_init_72 (by decide) (by decide) g_36 (by decide) (by omega) (by omega) (Nat.le_of_ble_eq_true rfl) (Nat.le_of_ble_eq_true rfl) e_36 f_36 ?_
  obtain ⟨r_37, e_37, hF⟩ := lt_some hF
  refine g_putRF hX hN dX8_init_74 inG8 tyX8_ok nmX8 rfl (k := 12) (by decide) (by decide) wf_X8_36 rfl rfl rfl rfl (fun _ => rfl) (fun _ => rfl) (by decide) (by decide) (by decide) t0.1 (by omega) (by omega) (by omega) (by omega) e_37 ?_
  refine g_aload_n hX dX8_init_77 (i := 0) rfl (j := 0) rfl ?_
  refine g_bipush (v := 6) hX dX8_init_78 (by decide) ?_
  obtain ⟨g_40, hF⟩ := gd_some hF
  have g_40 := of_decide_eq_true g_40
  obtain ⟨h_40, e_40, hF⟩ := lt_some hF
  obtain ⟨r_40, f_40, hF⟩ := lt_some hF
  refine g_newI (n := 6) hX hI dX8_init_80 (by decide) (by decide) g_40 (by decide) (by omega) (by omega) (Nat.le_of_ble_eq_true rfl) (Nat.le_of_ble_eq_true rfl) e_40 f_40 ?_
  obtain ⟨r_41, e_41, hF⟩ := lt_some hF
  refine g_putRF hX hN dX8_init_82 inG8 tyX8_ok nmX8 rfl (k := 13) (by decide) (by decide) wf_X8_39 rfl rfl rfl rfl (fun _ => rfl) (fun _ => rfl) (by decide) (by decide) (by decide) t0.1 (by omega) (by omega) (by omega) (by omega) e_41 ?_
  refine g_aload_n hX dX8_init_85 (i := 0) rfl (j := 0) rfl ?_
  refine g_bipush (v := 6) hX dX8_init_86 (by decide) ?_
  refine g_bipush (v := 8) hX dX8_init_88 (by decide) ?_
  obtain ⟨g_45, hF⟩ := gd_some hF
  have g_45 := mnaok_spec g_45
  obtain ⟨h_45, e_45, hF⟩ := lt_some hF
  obtain ⟨r_45, f_45, hF⟩ := lt_some hF
  refine g_mna (n := 6) (k := 8) (ty := .int) (ci := 14) (cj := 9) (k0 := 5) (k1 := 0) hX hI dX8_init_90 wlm_X8_18 wa_int (fun _ z => z.2.2.2.1) (fun _ => rfl) (fun _ => rfl) (fun _ _ z => z) (fun _ _ z => z) (by decide) (by decide) (by decide) (by decide) (by decide) (by decide) (by decide) (by decide) rfl rfl rfl g_45 (by decide) (by decide) (by omega) (by omega) (Nat.le_of_ble_eq_true rfl) (Nat.le_of_ble_eq_true rfl) e_45 f_45 ?_
  obtain ⟨r_46, e_46, hF⟩ := lt_some hF
  refine g_putRF hX hN dX8_init_94 inG8 tyX8_ok nmX8 rfl (k := 14) (by decide) (by decide) wf_X8_43 rfl rfl rfl rfl (fun _ => rfl) (fun _ => rfl) (by decide) (by decide) (by decide) t0.1 (by omega) (by omega) (by omega) (by omega) e_46 ?_
  refine g_aload_n hX dX8_init_97 (i := 0) rfl (j := 0) rfl ?_
  refine g_bipush (v := 40) hX dX8_init_98 (by decide) ?_
  obtain ⟨g_49, hF⟩ := gd_some hF
  have g_49 := of_decide_eq_true g_49
  obtain ⟨h_49, e_49, hF⟩ := lt_some hF
  obtain ⟨r_49, f_49, hF⟩ := lt_some hF
  refine g_newI (n := 40) hX hI dX8_init_100 (by decide) (by decide) g_49 (by decide) (by omega) (by omega) (Nat.le_of_ble_eq_true rfl) (Nat.le_of_ble_eq_true rfl) e_49 f_49 ?_
  obtain ⟨r_50, e_50, hF⟩ := lt_some hF
  refine g_putRF hX hN dX8_init_102 inG8 tyX8_ok nmX8 rfl (k := 15) (by decide) (by decide) wf_X8_46 rfl rfl rfl rfl (fun _ => rfl) (fun _ => rfl) (by decide) (by decide) (by decide) t0.1 (by omega) (by omega) (by omega) (by omega) e_50 ?_
  refine g_aload_n hX dX8_init_105 (i := 0) rfl (j := 0) rfl ?_
  refine g_bipush (v := 30) hX dX8_init_106 (by decide) ?_
  obtain ⟨g_53, hF⟩ := gd_some hF
  have g_53 := of_decide_eq_true g_53
  obtain ⟨h_53, e_53, hF⟩ := lt_some hF
  obtain ⟨r_53, f_53, hF⟩ := lt_some hF
  refine g_newI (n := 30) hX hI dX8_init_108 (by decide) (by decide) g_53 (by decide) (by omega) (by omega) (Nat.le_of_ble_eq_true rfl) (Nat.le_of_ble_eq_true rfl) e_53 f_53 ?_
  obtain ⟨r_54, e_54, hF⟩ := lt_some hF
  refine g_putRF hX hN dX8_init_110 inG8 tyX8_ok nmX8 rfl (k := 23) (by decide) (by decide) wf_X8_49 rfl rfl rfl rfl (fun _ => rfl) (fun _ => rfl) (by decide) (by decide) (by decide) t0.1 (by omega) (by omega) (by omega) (by omega) e_54 ?_
  refine g_aload_n hX dX8_init_113 (i := 0) rfl (j := 0) rfl ?_
  refine g_bipush (v := 31) hX dX8_init_114 (by decide) ?_
  obtain ⟨g_57, hF⟩ := gd_some hF
  have g_57 := of_decide_eq_true g_57
  obtain ⟨h_57, e_57, hF⟩ := lt_some hF
  obtain ⟨r_57, f_57, hF⟩ := lt_some hF
  refine g_newZ (n := 31) hX hI dX8_init_116 (by decide) (by decide) g_57 (by decide) (by omega) (by omega) (Nat.le_of_ble_eq_true rfl) (Nat.le_of_ble_eq_true rfl) e_57 f_57 ?_
  obtain ⟨r_58, e_58, hF⟩ := lt_some hF
  refine g_putRF hX hN dX8_init_118 inG8 tyX8_ok nmX8 rfl (k := 24) (by decide) (by decide) wf_X8_52 rfl rfl rfl rfl (fun _ => rfl) (fun _ => rfl) (by decide) (by decide) (by decide) t0.1 (by omega) (by omega) (by omega) (by omega) e_58 ?_
  refine g_aload_n hX dX8_init_121 (i := 0) rfl (j := 0) rfl ?_
  refine g_bipush (v := 30) hX dX8_init_122 (by decide) ?_
  obtain ⟨g_61, hF⟩ := gd_some hF
  have g_61 := of_decide_eq_true g_61
  obtain ⟨h_61, e_61, hF⟩ := lt_some hF
  obtain ⟨r_61, f_61, hF⟩ := lt_some hF
  refine g_newZ (n := 30) hX hI dX8_init_124 (by decide) (by decide) g_61 (by decide) (by omega) (by omega) (Nat.le_of_ble_eq_true rfl) (Nat.le_of_ble_eq_true rfl) e_61 f_61 ?_
  obtain ⟨r_62, e_62, hF⟩ := lt_some hF
  refine g_putRF hX hN dX8_init_126 inG8 tyX8_ok nmX8 rfl (k := 25) (by decide) (by decide) wf_X8_55 rfl rfl rfl rfl (fun _ => rfl) (fun _ => rfl) (by decide) (by decide) (by decide) t0.1 (by omega) (by omega) (by omega) (by omega) e_62 ?_
  refine g_aload_n hX dX8_init_129 (i := 0) rfl (j := 0) rfl ?_
  refine g_sipush (v := 200) hX dX8_init_130 (by decide) ?_
  obtain ⟨g_65, hF⟩ := gd_some hF
  have g_65 := of_decide_eq_true g_65
  obtain ⟨h_65, e_65, hF⟩ := lt_some hF
  obtain ⟨r_65, f_65, hF⟩ := lt_some hF
  refine g_newI (n := 200) hX hI dX8_init_133 (by decide) (by decide) g_65 (by decide) (by omega) (by omega) (Nat.le_of_ble_eq_true rfl) (Nat.le_of_ble_eq_true rfl) e_65 f_65 ?_
  obtain ⟨r_66, e_66, hF⟩ := lt_some hF
  refine g_putRF hX hN dX8_init_135 inG8 tyX8_ok nmX8 rfl (k := 28) (by decide) (by decide) wf_X8_58 rfl rfl rfl rfl (fun _ => rfl) (fun _ => rfl) (by decide) (by decide) (by decide) t0.1 (by omega) (by omega) (by omega) (by omega) e_66 ?_
  refine g_aload_n hX dX8_init_138 (i := 0) rfl (j := 0) rfl ?_
  refine g_sipush (v := 200) hX dX8_init_139 (by decide) ?_
  obtain ⟨g_69, hF⟩ := gd_some hF
  have g_69 := of_decide_eq_true g_69
  obtain ⟨h_69, e_69, hF⟩ := lt_some hF
  obtain ⟨r_69, f_69, hF⟩ := lt_some hF
  refine g_newI (n := 200) hX hI dX8_init_142 (by decide) (by decide) g_69 (by decide) (by omega) (by omega) (Nat.le_of_ble_eq_true rfl) (Nat.le_of_ble_eq_true rfl) e_69 f_69 ?_
  obtain ⟨r_70, e_70, hF⟩ := lt_some hF
  refine g_putRF hX hN dX8_init_144 inG8 tyX8_ok nmX8 rfl (k := 29) (by decide) (by decide) wf_X8_61 rfl rfl rfl rfl (fun _ => rfl) (fun _ => rfl) (by decide) (by decide) (by decide) t0.1 (by omega) (by omega) (by omega) (by omega) e_70 ?_
  refine g_aload_n hX dX8_init_147 (i := 0) rfl (j := 0) rfl ?_
  refine g_bipush (v := 30) hX dX8_init_148 (by decide) ?_
  obtain ⟨g_73, hF⟩ := gd_some hF
  have g_73 := of_decide_eq_true g_73
  obtain ⟨h_73, e_73, hF⟩ := lt_some hF
  obtain ⟨r_73, f_73, hF⟩ := lt_some hF
  refine g_newZ (n := 30) hX hI dX8_init_150 (by decide) (by decide) g_73 (by decide) (by omega) (by omega) (Nat.le_of_ble_eq_true rfl) (Nat.le_of_ble_eq_true rfl) e_73 f_73 ?_
  obtain ⟨r_74, e_74, hF⟩ := lt_some hF
  refine g_putRF hX hN dX8_init_152 inG8 tyX8_ok nmX8 rfl (k := 30) (by decide) (by decide) wf_X8_64 rfl rfl rfl rfl (fun _ => rfl) (fun _ => rfl) (by decide) (by decide) (by decide) t0.1 (by omega) (by omega) (by omega) (by omega) e_74 ?_
  refine g_aload_n hX dX8_init_155 (i := 0) rfl (j := 0) rfl ?_
  refine g_bipush (v := 30) hX dX8_init_156 (by decide) ?_
  obtain ⟨g_77, hF⟩ := gd_some hF
  have g_77 := of_decide_eq_true g_77
  obtain ⟨h_77, e_77, hF⟩ := lt_some hF
  obtain ⟨r_77, f_77, hF⟩ := lt_some hF
  refine g_newZ (n := 30) hX hI dX8_init_158 (by decide) (by decide) g_77 (by decide) (by omega) (by omega) (Nat.le_of_ble_eq_true rfl) (Nat.le_of_ble_eq_true rfl) e_77 f_77 ?_
  obtain ⟨r_78, e_78, hF⟩ := lt_some hF
  refine g_putRF hX hN dX8_init_160 inG8 tyX8_ok nmX8 rfl (k := 31) (by decide) (by decide) wf_X8_67 rfl rfl rfl rfl (fun _ => rfl) (fun _ => rfl) (by decide) (by decide) (by decide) t0.1 (by omega) (by omega) (by omega) (by omega) e_78 ?_
  refine g_aload_n hX dX8_init_163 (i := 0) rfl (j := 0) rfl ?_
  refine g_bipush (v := 30) hX dX8_init_164 (by decide) ?_
  obtain ⟨g_81, hF⟩ := gd_some hF
  have g_81 := of_decide_eq_true g_81
  obtain ⟨h_81, e_81, hF⟩ := lt_some hF
  obtain ⟨r_81, f_81, hF⟩ := lt_some hF
  refine g_newI (n := 30) hX hI dX8_init_166 (by decide) (by decide) g_81 (by decide) (by omega) (by omega) (Nat.le_of_ble_eq_true rfl) (Nat.le_of_ble_eq_true rfl) e_81 f_81 ?_
  obtain ⟨r_82, e_82, hF⟩ := lt_some hF
  refine g_putRF hX hN dX8_init_168 inG8 tyX8_ok nmX8 rfl (k := 32) (by decide) (by decide) wf_X8_70 rfl rfl rfl rfl (fun _ => rfl) (fun _ => rfl) (by decide) (by decide) (by decide) t0.1 (by omega) (by omega) (by omega) (by omega) e_82 ?_
  refine g_aload_n hX dX8_init_171 (i := 0) rfl (j := 0) rfl ?_
  refine g_bipush (v := 30) hX dX8_init_172 (by decide) ?_
  obtain ⟨g_85, hF⟩ := gd_some hF
  have g_85 := of_decide_eq_true g_85
  obtain ⟨h_85, e_85, hF⟩ := lt_some hF
  obtain ⟨r_85, f_85, hF⟩ := lt_some hF
  refine g_newI (n := 30) hX hI dX8_init_174 (by decide) (by decide) g_85 (by decide) (by omega) (by omega) (Nat.le_of_ble_eq_true rfl) (Nat.le_of_ble_eq_true rfl) e_85 f_85 ?_
  obtain ⟨r_86, e_86, hF⟩ := lt_some hF
  refine g_putRF hX hN dX8_init_176 inG8 tyX8_ok nmX8 rfl (k := 33) (by decide) (by decide) wf_X8_73 rfl rfl rfl rfl (fun _ => rfl) (fun _ => rfl) (by decide) (by decide) (by decide) t0.1 (by omega) (by omega) (by omega) (by omega) e_86 ?_
  refine g_aload_n hX dX8_init_179 (i := 0) rfl (j := 0) rfl ?_
  refine g_bipush (v := 30) hX dX8_init_180 (by decide) ?_
  obtain ⟨g_89, hF⟩ := gd_some hF
  have g_89 := of_decide_eq_true g_89
  obtain ⟨h_89, e_89, hF⟩ := lt_some hF
  obtain ⟨r_89, f_89, hF⟩ := lt_some hF
  refine g_newI (n := 30) hX hI dX8_init_182 (by decide) (by decide) g_89 (by decide) (by omega) (by omega) (Nat.le_of_ble_eq_true rfl) (Nat.le_of_ble_eq_true rfl) e_89 f_89 ?_
  obtain ⟨r_90, e_90, hF⟩ := lt_some hF
  refine g_putRF hX hN dX8_init_184 inG8 tyX8_ok nmX8 rfl (k := 34) (by decide) (by decide) wf_X8_76 rfl rfl rfl rfl (fun _ => rfl) (fun _ => rfl) (by decide) (by decide) (by decide) t0.1 (by omega) (by omega) (by omega) (by omega) e_90 ?_
  refine g_aload_n hX dX8_init_187 (i := 0) rfl (j := 0) rfl ?_
  refine g_bipush (v := 120) hX dX8_init_188 (by decide) ?_
  obtain ⟨g_93, hF⟩ := gd_some hF
  have g_93 := of_decide_eq_true g_93
  obtain ⟨h_93, e_93, hF⟩ := lt_some hF
  obtain ⟨r_93, f_93, hF⟩ := lt_some hF
  refine g_newI (n := 120) hX hI dX8_init_190 (by decide) (by decide) g_93 (by decide) (by omega) (by omega) (Nat.le_of_ble_eq_true rfl) (Nat.le_of_ble_eq_true rfl) e_93 f_93 ?_
  obtain ⟨r_94, e_94, hF⟩ := lt_some hF
  refine g_putRF hX hN dX8_init_192 inG8 tyX8_ok nmX8 rfl (k := 36) (by decide) (by decide) wf_X8_79 rfl rfl rfl rfl (fun _ => rfl) (fun _ => rfl) (by decide) (by decide) (by decide) t0.1 (by omega) (by omega) (by omega) (by omega) e_94 ?_
  refine g_aload_n hX dX8_init_195 (i := 0) rfl (j := 0) rfl ?_
  refine g_bipush (v := 120) hX dX8_init_196 (by decide) ?_
  obtain ⟨g_97, hF⟩ := gd_some hF
  have g_97 := of_decide_eq_true g_97
  obtain ⟨h_97, e_97, hF⟩ := lt_some hF
  obtain ⟨r_97, f_97, hF⟩ := lt_some hF
  refine g_newI (n := 120) hX hI dX8_init_198 (by decide) (by decide) g_97 (by decide) (by omega) (by omega) (Nat.le_of_ble_eq_true rfl) (Nat.le_of_ble_eq_true rfl) e_97 f_97 ?_
  obtain ⟨r_98, e_98, hF⟩ := lt_some hF
  refine g_putRF hX hN dX8_init_200 inG8 tyX8_ok nmX8 rfl (k := 37) (by decide) (by decide) wf_X8_82 rfl rfl rfl rfl (fun _ => rfl) (fun _ => rfl) (by decide) (by decide) (by decide) t0.1 (by omega) (by omega) (by omega) (by omega) e_98 ?_
  refine g_aload_n hX dX8_init_203 (i := 0) rfl (j := 0) rfl ?_
  refine g_iconst (v := 3) hX dX8_init_204 (by decide) ?_
  refine g_bipush (v := 30) hX dX8_init_205 (by decide) ?_
  obtain ⟨g_102, hF⟩ := gd_some hF
  have g_102 := mnaok_spec g_102
  obtain ⟨h_102, e_102, hF⟩ := lt_some hF
  obtain ⟨r_102, f_102, hF⟩ := lt_some hF
  refine g_mna (n := 3) (k := 30) (ty := .boolean) (ci := 15) (cj := 10) (k0 := 6) (k1 := 1) hX hI dX8_init_207 wlm_X8_13 wa_boolean (fun _ z => z.2.2.2.2) (fun _ => rfl) (fun _ => rfl) (fun _ _ z => z) (fun _ _ z => z) (by decide) (by decide) (by decide) (by decide) (by decide) (by decide) (by decide) (by decide) rfl rfl rfl g_102 (by decide) (by decide) (by omega) (by omega) (Nat.le_of_ble_eq_true rfl) (Nat.le_of_ble_eq_true rfl) e_102 f_102 ?_
  obtain ⟨r_103, e_103, hF⟩ := lt_some hF
  refine g_putRF hX hN dX8_init_211 inG8 tyX8_ok nmX8 rfl (k := 38) (by decide) (by decide) wf_X8_85 rfl rfl rfl rfl (fun _ => rfl) (fun _ => rfl) (by decide) (by decide) (by decide) t0.1 (by omega) (by omega) (by omega) (by omega) e_103 ?_
  refine g_aload_n hX dX8_init_214 (i := 0) rfl (j := 0) rfl ?_
  refine g_iconst (v := 3) hX dX8_init_215 (by decide) ?_
  refine g_bipush (v := 30) hX dX8_init_216 (by decide) ?_
  obtain ⟨g_107, hF⟩ := gd_some hF
  have g_107 := mnaok_spec g_107
  obtain ⟨h_107, e_107, hF⟩ := lt_some hF
  obtain ⟨r_107, f_107, hF⟩ := lt_some hF
  refine g_mna (n := 3) (k := 30) (ty := .int) (ci := 14) (cj := 9) (k0 := 5) (k1 := 0) hX hI dX8_init_218 wlm_X8_18 wa_int (fun _ z => z.2.2.2.1) (fun _ => rfl) (fun _ => rfl) (fun _ _ z => z) (fun _ _ z => z) (by decide) (by decide) (by decide) (by decide) (by decide) (by decide) (by decide) (by decide) rfl rfl rfl g_107 (by decide) (by decide) (by omega) (by omega) (Nat.le_of_ble_eq_true rfl) (Nat.le_of_ble_eq_true rfl) e_107 f_107 ?_
  obtain ⟨r_108, e_108, hF⟩ := lt_some hF
  refine g_putRF hX hN dX8_init_222 inG8 tyX8_ok nmX8 rfl (k := 39) (by decide) (by decide) wf_X8_88 rfl rfl rfl rfl (fun _ => rfl) (fun _ => rfl) (by decide) (by decide) (by decide) t0.1 (by omega) (by omega) (by omega) (by omega) e_108 ?_
  refine g_aload_n hX dX8_init_225 (i := 0) rfl (j := 0) rfl ?_
  refine g_iconst (v := 3) hX dX8_init_226 (by decide) ?_
  refine g_bipush (v := 30) hX dX8_init_227 (by decide) ?_
  obtain ⟨g_112, hF⟩ := gd_some hF
  have g_112 := mnaok_spec g_112
  obtain ⟨h_112, e_112, hF⟩ := lt_some hF
  obtain ⟨r_112, f_112, hF⟩ := lt_some hF
  refine g_mna (n := 3) (k := 30) (ty := .int) (ci := 14) (cj := 9) (k0 := 5) (k1 := 0) hX hI dX8_init_229 wlm_X8_18 wa_int (fun _ z => z.2.2.2.1) (fun _ => rfl) (fun _ => rfl) (fun _ _ z => z) (fun _ _ z => z) (by decide) (by decide) (by decide) (by decide) (by decide) (by decide) (by decide) (by decide) rfl rfl rfl g_112 (by decide) (by decide) (by omega) (by omega) (Nat.le_of_ble_eq_true rfl) (Nat.le_of_ble_eq_true rfl) e_112 f_112 ?_
  obtain ⟨r_113, e_113, hF⟩ := lt_some hF
  refine g_putRF hX hN dX8_init_233 inG8 tyX8_ok nmX8 rfl (k := 40) (by decide) (by decide) wf_X8_91 rfl rfl rfl rfl (fun _ => rfl) (fun _ => rfl) (by decide) (by decide) (by decide) t0.1 (by omega) (by omega) (by omega) (by omega) e_113 ?_
  refine g_aload_n hX dX8_init_236 (i := 0) rfl (j := 0) rfl ?_
  refine g_iconst (v := 3) hX dX8_init_237 (by decide) ?_
  refine g_bipush (v := 30) hX dX8_init_238 (by decide) ?_
  obtain ⟨g_117, hF⟩ := gd_some hF
  have g_117 := mnaok_spec g_117
  obtain ⟨h_117, e_117, hF⟩ := lt_some hF
  obtain ⟨r_117, f_117, hF⟩ := lt_some hF
  refine g_mna (n := 3) (k := 30) (ty := .int) (ci := 14) (cj := 9) (k0 := 5) (k1 := 0) hX hI dX8_init_240 wlm_X8_18 wa_int (fun _ z => z.2.2.2.1) (fun _ => rfl) (fun _ => rfl) (fun _ _ z => z) (fun _ _ z => z) (by decide) (by decide) (by decide) (by decide) (by decide) (by decide) (by decide) (by decide) rfl rfl rfl g_117 (by decide) (by decide) (by omega) (by omega) (Nat.le_of_ble_eq_true rfl) (Nat.le_of_ble_eq_true rfl) e_117 f_117 ?_
  obtain ⟨r_118, e_118, hF⟩ := lt_some hF
  refine g_putRF hX hN dX8_init_244 inG8 tyX8_ok nmX8 rfl (k := 41) (by decide) (by decide) wf_X8_94 rfl rfl rfl rfl (fun _ => rfl) (fun _ => rfl) (by decide) (by decide) (by decide) t0.1 (by omega) (by omega) (by omega) (by omega) e_118 ?_
  refine g_aload_n hX dX8_init_247 (i := 0) rfl (j := 0) rfl ?_
  refine g_bipush (v := 6) hX dX8_init_248 (by decide) ?_
  obtain ⟨g_121, hF⟩ := gd_some hF
  have g_121 := of_decide_eq_true g_121
  obtain ⟨h_121, e_121, hF⟩ := lt_some hF
  obtain ⟨r_121, f_121, hF⟩ := lt_some hF
  refine g_newI (n := 6) hX hI dX8_init_250 (by decide) (by decide) g_121 (by decide) (by omega) (by omega) (Nat.le_of_ble_eq_true rfl) (Nat.le_of_ble_eq_true rfl) e_121 f_121 ?_
  obtain ⟨r_122, e_122, hF⟩ := lt_some hF
  refine g_putRF hX hN dX8_init_252 inG8 tyX8_ok nmX8 rfl (k := 44) (by decide) (by decide) wf_X8_97 rfl rfl rfl rfl (fun _ => rfl) (fun _ => rfl) (by decide) (by decide) (by decide) t0.1 (by omega) (by omega) (by omega) (by omega) e_122 ?_
  refine g_aload_n hX dX8_init_255 (i := 0) rfl (j := 0) rfl ?_
  refine g_iconst (v := 5) hX dX8_init_256 (by decide) ?_
  refine g_bipush (v := 30) hX dX8_init_257 (by decide) ?_
  obtain ⟨g_126, hF⟩ := gd_some hF
  have g_126 := mnaok_spec g_126
  obtain ⟨h_126, e_126, hF⟩ := lt_some hF
  obtain ⟨r_126, f_126, hF⟩ := lt_some hF
  refine g_mna (n := 5) (k := 30) (ty := .boolean) (ci := 15) (cj := 10) (k0 := 6) (k1 := 1) hX hI dX8_init_259 wlm_X8_13 wa_boolean (fun _ z => z.2.2.2.2) (fun _ => rfl) (fun _ => rfl) (fun _ _ z => z) (fun _ _ z => z) (by decide) (by decide) (by decide) (by decide) (by decide) (by decide) (by decide) (by decide) rfl rfl rfl g_126 (by decide) (by decide) (by omega) (by omega) (Nat.le_of_ble_eq_true rfl) (Nat.le_of_ble_eq_true rfl) e_126 f_126 ?_
  obtain ⟨r_127, e_127, hF⟩ := lt_some hF
  refine g_putRF hX hN dX8_init_263 inG8 tyX8_ok nmX8 rfl (k := 45) (by decide) (by decide) wf_X8_100 rfl rfl rfl rfl (fun _ => rfl) (fun _ => rfl) (by decide) (by decide) (by decide) t0.1 (by omega) (by omega) (by omega) (by omega) e_127 ?_
  refine g_aload_n hX dX8_init_266 (i := 0) rfl (j := 0) rfl ?_
  refine g_iconst (v := 3) hX dX8_init_267 (by decide) ?_
  refine g_bipush (v := 30) hX dX8_init_268 (by decide) ?_
  obtain ⟨g_131, hF⟩ := gd_some hF
  have g_131 := mnaok_spec g_131
  obtain ⟨h_131, e_131, hF⟩ := lt_some hF
  obtain ⟨r_131, f_131, hF⟩ := lt_some hF
  refine g_mna (n := 3) (k := 30) (ty := .int) (ci := 14) (cj := 9) (k0 := 5) (k1 := 0) hX hI dX8_init_270 wlm_X8_18 wa_int (fun _ z => z.2.2.2.1) (fun _ => rfl) (fun _ => rfl) (fun _ _ z => z) (fun _ _ z => z) (by decide) (by decide) (by decide) (by decide) (by decide) (by decide) (by decide) (by decide) rfl rfl rfl g_131 (by decide) (by decide) (by omega) (by omega) (Nat.le_of_ble_eq_true rfl) (Nat.le_of_ble_eq_true rfl) e_131 f_131 ?_
  obtain ⟨r_132, e_132, hF⟩ := lt_some hF
  refine g_putRF hX hN dX8_init_274 inG8 tyX8_ok nmX8 rfl (k := 46) (by decide) (by decide) wf_X8_103 rfl rfl rfl rfl (fun _ => rfl) (fun _ => rfl) (by decide) (by decide) (by decide) t0.1 (by omega) (by omega) (by omega) (by omega) e_132 ?_
  refine g_aload_n hX dX8_init_277 (i := 0) rfl (j := 0) rfl ?_
  refine g_iconst (v := 3) hX dX8_init_278 (by decide) ?_
  refine g_bipush (v := 30) hX dX8_init_279 (by decide) ?_
  obtain ⟨g_136, hF⟩ := gd_some hF
  have g_136 := mnaok_spec g_136
  obtain ⟨h_136, e_136, hF⟩ := lt_some hF
  obtain ⟨r_136, f_136, hF⟩ := lt_some hF
  refine g_mna (n := 3) (k := 30) (ty := .int) (ci := 14) (cj := 9) (k0 := 5) (k1 := 0) hX hI dX8_init_281 wlm_X8_18 wa_int (fun _ z => z.2.2.2.1) (fun _ => rfl) (fun _ => rfl) (fun _ _ z => z) (fun _ _ z => z) (by decide) (by decide) (by decide) (by decide) (by decide) (by decide) (by decide) (by decide) rfl rfl rfl g_136 (by decide) (by decide) (by omega) (by omega) (Nat.le_of_ble_eq_true rfl) (Nat.le_of_ble_eq_true rfl) e_136 f_136 ?_
  obtain ⟨r_137, e_137, hF⟩ := lt_some hF
  refine g_putRF hX hN dX8_init_285 inG8 tyX8_ok nmX8 rfl (k := 47) (by decide) (by decide) wf_X8_106 rfl rfl rfl rfl (fun _ => rfl) (fun _ => rfl) (by decide) (by decide) (by decide) t0.1 (by omega) (by omega) (by omega) (by omega) e_137 ?_
  refine g_aload_n hX dX8_init_288 (i := 0) rfl (j := 0) rfl ?_
  refine g_iconst (v := 3) hX dX8_init_289 (by decide) ?_
  refine g_bipush (v := 30) hX dX8_init_290 (by decide) ?_
  obtain ⟨g_141, hF⟩ := gd_some hF
  have g_141 := mnaok_spec g_141
  obtain ⟨h_141, e_141, hF⟩ := lt_some hF
  obtain ⟨r_141, f_141, hF⟩ := lt_some hF
  refine g_mna (n := 3) (k := 30) (ty := .int) (ci := 14) (cj := 9) (k0 := 5) (k1 := 0) hX hI dX8_init_292 wlm_X8_18 wa_int (fun _ z => z.2.2.2.1) (fun _ => rfl) (fun _ => rfl) (fun _ _ z => z) (fun _ _ z => z) (by decide) (by decide) (by decide) (by decide) (by decide) (by decide) (by decide) (by decide) rfl rfl rfl g_141 (by decide) (by decide) (by omega) (by omega) (Nat.le_of_ble_eq_true rfl) (Nat.le_of_ble_eq_true rfl) e_141 f_141 ?_
  obtain ⟨r_142, e_142, hF⟩ := lt_some hF
  refine g_putRF hX hN dX8_init_296 inG8 tyX8_ok nmX8 rfl (k := 48) (by decide) (by decide) wf_X8_109 rfl rfl rfl rfl (fun _ => rfl) (fun _ => rfl) (by decide) (by decide) (by decide) t0.1 (by omega) (by omega) (by omega) (by omega) e_142 ?_
  refine g_aload_n hX dX8_init_299 (i := 0) rfl (j := 0) rfl ?_
  refine g_bipush (v := 6) hX dX8_init_300 (by decide) ?_
  refine g_bipush (v := 8) hX dX8_init_302 (by decide) ?_
  obtain ⟨g_146, hF⟩ := gd_some hF
  have g_146 := mnaok_spec g_146
  obtain ⟨h_146, e_146, hF⟩ := lt_some hF
  obtain ⟨r_146, f_146, hF⟩ := lt_some hF
  refine g_mna (n := 6) (k := 8) (ty := .int) (ci := 14) (cj := 9) (k0 := 5) (k1 := 0) hX hI dX8_init_304 wlm_X8_18 wa_int (fun _ z => z.2.2.2.1) (fun _ => rfl) (fun _ => rfl) (fun _ _ z => z) (fun _ _ z => z) (by decide) (by decide) (by decide) (by decide) (by decide) (by decide) (by decide) (by decide) rfl rfl rfl g_146 (by decide) (by decide) (by omega) (by omega) (Nat.le_of_ble_eq_true rfl) (Nat.le_of_ble_eq_true rfl) e_146 f_146 ?_
  obtain ⟨r_147, e_147, hF⟩ := lt_some hF
  refine g_putRF hX hN dX8_init_308 inG8 tyX8_ok nmX8 rfl (k := 49) (by decide) (by decide) wf_X8_112 rfl rfl rfl rfl (fun _ => rfl) (fun _ => rfl) (by decide) (by decide) (by decide) t0.1 (by omega) (by omega) (by omega) (by omega) e_147 ?_
  refine g_aload_n hX dX8_init_311 (i := 0) rfl (j := 0) rfl ?_
  refine g_bipush (v := 6) hX dX8_init_312 (by decide) ?_
  obtain ⟨g_150, hF⟩ := gd_some hF
  have g_150 := of_decide_eq_true g_150
  obtain ⟨h_150, e_150, hF⟩ := lt_some hF
  obtain ⟨r_150, f_150, hF⟩ := lt_some hF
  refine g_newI (n := 6) hX hI dX8_init_314 (by decide) (by decide) g_150 (by decide) (by omega) (by omega) (Nat.le_of_ble_eq_true rfl) (Nat.le_of_ble_eq_true rfl) e_150 f_150 ?_
  obtain ⟨r_151, e_151, hF⟩ := lt_some hF
  refine g_putRF hX hN dX8_init_316 inG8 tyX8_ok nmX8 rfl (k := 50) (by decide) (by decide) wf_X8_115 rfl rfl rfl rfl (fun _ => rfl) (fun _ => rfl) (by decide) (by decide) (by decide) t0.1 (by omega) (by omega) (by omega) (by omega) e_151 ?_
  refine g_aload_n hX dX8_init_319 (i := 0) rfl (j := 0) rfl ?_
  refine g_iconst (v := 4) hX dX8_init_320 (by decide) ?_
  obtain ⟨g_154, hF⟩ := gd_some hF
  have g_154 := of_decide_eq_true g_154
  obtain ⟨h_154, e_154, hF⟩ := lt_some hF
  obtain ⟨r_154, f_154, hF⟩ := lt_some hF
  refine g_newI (n := 4) hX hI dX8_init_321 (by decide) (by decide) g_154 (by decide) (by omega) (by omega) (Nat.le_of_ble_eq_true rfl) (Nat.le_of_ble_eq_true rfl) e_154 f_154 ?_
  refine g_dup hX dX8_init_323 rfl ?_
  refine g_iconst (v := 0) hX dX8_init_324 (by decide) ?_
  refine g_iconst (v := (-1)) hX dX8_init_325 (by decide) ?_
  obtain ⟨g_158, hF⟩ := gd_some hF
  obtain ⟨h_158, e_158, hF⟩ := lt_some hF
  refine g_iast hX dX8_init_326 g_154.1 (by omega) (by omega) (by omega) g_158 e_158 ?_
  refine g_dup hX dX8_init_327 rfl ?_
  refine g_iconst (v := 1) hX dX8_init_328 (by decide) ?_
  refine g_iconst (v := (-1)) hX dX8_init_329 (by decide) ?_
  obtain ⟨g_162, hF⟩ := gd_some hF
  obtain ⟨h_162, e_162, hF⟩ := lt_some hF
  refine g_iast hX dX8_init_330 g_154.1 (by omega) (by omega) (by omega) g_162 e_162 ?_
  refine g_dup hX dX8_init_331 rfl ?_
  refine g_iconst (v := 2) hX dX8_init_332 (by decide) ?_
  refine g_iconst (v := (-1)) hX dX8_init_333 (by decide) ?_
  obtain ⟨g_166, hF⟩ := gd_some hF
  obtain ⟨h_166, e_166, hF⟩ := lt_some hF
  refine g_iast hX dX8_init_334 g_154.1 (by omega) (by omega) (by omega) g_166 e_166 ?_
  refine g_dup hX dX8_init_335 rfl ?_
  refine g_iconst (v := 3) hX dX8_init_336 (by decide) ?_
  refine g_iconst (v := (-1)) hX dX8_init_337 (by decide) ?_
  obtain ⟨g_170, hF⟩ := gd_some hF
  obtain ⟨h_170, e_170, hF⟩ := lt_some hF
  refine g_iast hX dX8_init_338 g_154.1 (by omega) (by omega) (by omega) g_170 e_170 ?_
  obtain ⟨r_171, e_171, hF⟩ := lt_some hF
  refine g_putRF hX hN dX8_init_339 inG8 tyX8_ok nmX8 rfl (k := 51) (by decide) (by decide) wf_X8_118 rfl rfl rfl rfl (fun _ => rfl) (fun _ => rfl) (by decide) (by decide) (by decide) t0.1 (by omega) (by omega) (by omega) (by omega) e_171 ?_
  refine g_aload_n hX dX8_init_342 (i := 0) rfl (j := 0) rfl ?_
  refine g_iconst (v := 4) hX dX8_init_343 (by decide) ?_
  obtain ⟨g_174, hF⟩ := gd_some hF
  have g_174 := of_decide_eq_true g_174
  obtain ⟨h_174, e_174, hF⟩ := lt_some hF
  obtain ⟨r_174, f_174, hF⟩ := lt_some hF
  refine g_newI (n := 4) hX hI dX8_init_344 (by decide) (by decide) g_174 (by decide) (by omega) (by omega) (Nat.le_of_ble_eq_true rfl) (Nat.le_of_ble_eq_true rfl) e_174 f_174 ?_
  obtain ⟨r_175, e_175, hF⟩ := lt_some hF
  refine g_putRF hX hN dX8_init_346 inG8 tyX8_ok nmX8 rfl (k := 52) (by decide) (by decide) wf_X8_121 rfl rfl rfl rfl (fun _ => rfl) (fun _ => rfl) (by decide) (by decide) (by decide) t0.1 (by omega) (by omega) (by omega) (by omega) e_175 ?_
  refine g_aload_n hX dX8_init_349 (i := 0) rfl (j := 0) rfl ?_
  refine g_iconst (v := 4) hX dX8_init_350 (by decide) ?_
  refine g_bipush (v := 40) hX dX8_init_351 (by decide) ?_
  obtain ⟨g_179, hF⟩ := gd_some hF
  have g_179 := mnaok_spec g_179
  obtain ⟨h_179, e_179, hF⟩ := lt_some hF
  obtain ⟨r_179, f_179, hF⟩ := lt_some hF
  refine g_mna (n := 4) (k := 40) (ty := .int) (ci := 14) (cj := 9) (k0 := 5) (k1 := 0) hX hI dX8_init_353 wlm_X8_18 wa_int (fun _ z => z.2.2.2.1) (fun _ => rfl) (fun _ => rfl) (fun _ _ z => z) (fun _ _ z => z) (by decide) (by decide) (by decide) (by decide) (by decide) (by decide) (by decide) (by decide) rfl rfl rfl g_179 (by decide) (by decide) (by omega) (by omega) (Nat.le_of_ble_eq_true rfl) (Nat.le_of_ble_eq_true rfl) e_179 f_179 ?_
  obtain ⟨r_180, e_180, hF⟩ := lt_some hF
  refine g_putRF hX hN dX8_init_357 inG8 tyX8_ok nmX8 rfl (k := 53) (by decide) (by decide) wf_X8_124 rfl rfl rfl rfl (fun _ => rfl) (fun _ => rfl) (by decide) (by decide) (by decide) t0.1 (by omega) (by omega) (by omega) (by omega) e_180 ?_
  refine g_aload_n hX dX8_init_360 (i := 0) rfl (j := 0) rfl ?_
  refine g_bipush (v := 40) hX dX8_init_361 (by decide) ?_
  obtain ⟨g_183, hF⟩ := gd_some hF
  have g_183 := of_decide_eq_true g_183
  obtain ⟨h_183, e_183, hF⟩ := lt_some hF
  obtain ⟨r_183, f_183, hF⟩ := lt_some hF
  refine g_newI (n := 40) hX hI dX8_init_363 (by decide) (by decide) g_183 (by decide) (by omega) (by omega) (Nat.le_of_ble_eq_true rfl) (Nat.le_of_ble_eq_true rfl) e_183 f_183 ?_
  obtain ⟨r_184, e_184, hF⟩ := lt_some hF
  refine g_putRF hX hN dX8_init_365 inG8 tyX8_ok nmX8 rfl (k := 54) (by decide) (by decide) wf_X8_127 rfl rfl rfl rfl (fun _ => rfl) (fun _ => rfl) (by decide) (by decide) (by decide) t0.1 (by omega) (by omega) (by omega) (by omega) e_184 ?_
  obtain rfl := Option.some.inj hF
  exact g_vret hX dX8_init_368 hR
theorem ctX8_init {b N sz : Nat} {h : HH} {r : RR} {w : HH × RR} (p0 : Nat) (t0 : KM p0 = 8 ∧ 1 ≤ p0 ∧ p0 ≤ N) (hsz : sz = b + N + 1) (hF : fX8_init N h r p0 = some w) : CTI yX8_init cX8_init 1 2 b KM lnM MM N sz [.ref (b + p0)] h r (N + 91) (sz + 91) w.1 w.2 91 2503 :=
  CTI_of (by decide) rfl (Nat.le_of_ble_eq_true rfl) (by decide) rfl (fun X hX hI hN hR => kX8_init hX hI hN p0 t0 hsz hR hF)
