noncomputable def ubB (V : Nat → TV) (P : List PT) (t : Nat) : Bool := !(igA V P t) && !((decide (isIn (V 0) t = isIn (V 1) t)) && (plE (V 0) (V 1) t && ctE (V 0) (V 1) t))
theorem areAlike_a {h : HH} {w n first : Nat} {V : Nat → TV} {P : List PT} (ww : w268 w) (hn : n ≤ 30) (c : ctxA h w n V P first) : fX0_areAlike h RA 103 = some (b2i (!(anyN n (ubB V P)))) := by
  obtain ⟨cx, ⟨c2, c3⟩, c4, c5⟩ := c
  obtain ⟨t0, hT0⟩ := isW_T (s := 0) ww.2 (by decide)
  obtain ⟨t1, hT1⟩ := isW_T (s := 1) ww.2 (by decide)
  obtain ⟨a1, a2⟩ := cx.2 0 (by decide)
  obtain ⟨b1, b2⟩ := cx.2 1 (by decide)
  have i00 : ix 0 = 0 := by decide
  have i11 : ix 1 = 1 := by decide
  have key := loop_find (L := fun k y => fX0_areAlike_b22 h RA 103 k (w + 6 + 5 * 0) (w + 6 + 5 * 1) y) (P := ubB V P) (e := n) (g := fun y => some (b2i (!y.isSome))) (fun k i hi => by
    have i30 : i < 30 := by omega
    show fX0_areAlike_b22 h RA 103 (k + 1) (w + 6 + 5 * 0) (w + 6 + 5 * 1) (nI i) = _
    have hb : ∀ p q : Bool, (b2i p = b2i q) ↔ p = q := by decide
    rw [fX0_areAlike_b22, cx.1, gwd_w ww.1, c5, if_neg (nI_ge hi (by omega)), has_n hT0 i30, Option.bind_some, has_n hT1 i30, Option.bind_some, a1, b1, placesAsIn_n hT0 hT1 i30 a2 b2, Option.bind_some, a1, b1, b2i_if, holdsAsIn_n hT0 hT1 i30 a2 b2, Option.bind_some, a1, b1, b2i_if]
    simp only [fX0_areAlike_b68, fX0_areAlike_b69, fX0_areAlike_b87, n_p1, G_1, Gl_104, gd_in i30 n30, ix_n (show i < 2 ^ 31 by omega), c2 i i30, b2i_ifn, hb]
    unfold ubB
    cases igA V P i <;> cases isIn (V 0) i <;> cases isIn (V 1) i <;> cases plE (V 0) (V 1) i <;> cases ctE (V 0) (V 1) i <;> simp [b2i]) (fun k => by
    show fX0_areAlike_b22 h RA 103 (k + 1) (w + 6 + 5 * 0) (w + 6 + 5 * 1) (nI n) = _
    rw [fX0_areAlike_b22, cx.1, gwd_w ww.1, c5, if_pos (nI_le (Nat.le_refl n) (by omega))]
    rfl) lpF 0 (by omega) (by rw [lpF_eq]; omega)
  have key : fX0_areAlike_b22 h RA 103 lpF (w + 6 + 5 * 0) (w + 6 + 5 * 1) (nI 0) = some (b2i (!(anyN n (ubB V P)))) := key
  rw [← l0] at key
  unfold fX0_areAlike
  rw [cx.1, gwd_w ww.1, gwd_w ww.1, ww.2.2.1, ww.2.2.2.2.2.2.2.1, gd_t (show inb 0 3 = true by decide), gd_t (show inb 1 3 = true by decide), i00, i11, t0, t1, key]
theorem areAlike_m {h : HH} {n : Nat} {F : Nat → Bool} {V : Nat → TV} {P : List PT} {pr c0 c1 c2 : Int32} (hw : wM h (n, F, V, P, pr, c0, c1, c2)) (hwf : ∀ s, s < 3 → wfT n F (V s)) : ∃ h', fX8_areAlike h RM 1 = some (b2i (!(anyN n (ubB V P))), h') ∧ frJ h h' := by
  have hn : n ≤ 30 := hw.1
  obtain ⟨z, b1, b2, b3⟩ := ignore_m hw hwf
  have wz := wM_frJ b2 hw
  have v0 := wz.2.2.2.1 0 (by decide)
  have v1 := wz.2.2.2.1 1 (by decide)
  have i00 : ix 0 = 0 := by decide
  have i11 : ix 1 = 1 := by decide
  have key := loop_find (L := fun k y => fX8_areAlike_b6 RM 1 k z y) (P := ubB V P) (e := n) (g := fun y => some (b2i (!y.isSome), z)) (fun k i hi => by
    have i30 : i < 30 := by omega
    show fX8_areAlike_b6 RM 1 (k + 1) z (nI i) = _
    have p0 := R_3 0 (by decide)
    have p1 := R_3 1 (by decide)
    have q0 := L_3 0 (by decide)
    have q1 := L_3 1 (by decide)
    have r0 := R_7 0 (by decide)
    have r1 := R_7 1 (by decide)
    have s0 := L_7 0 (by decide)
    have s1 := L_7 1 (by decide)
    have u0 := R_11 0 (by decide)
    have u1 := R_11 1 (by decide)
    have x0 := L_11 0 (by decide)
    have x1 := L_11 1 (by decide)
    have y0 := R_15 0 (by decide)
    have y1 := R_15 1 (by decide)
    have m0 := L_15 0 (by decide)
    have m1' := L_15 1 (by decide)
    rw [fX8_areAlike_b6, wz.2.1, if_neg (nI_ge hi (by omega)), M_25, ln_32, gd_in i30 n30, ix_n (show i < 2 ^ 31 by omega), b3 i hi, b2i_if]
    simp only [fX8_areAlike_b117, n_p1, M_3, M_4, M_5, M_6, ln_3, ln_7, ln_11, ln_15, gd_t (show inb 0 3 = true by decide), gd_t (show inb 1 3 = true by decide), i00, i11, p0, p1, q0, q1, r0, r1, s0, s1, u0, u1, x0, x1, y0, y1, m0, m1', gd_in i30 n30]
    unfold ubB
    cases hig : igA V P i with
    | true => simp
    | false =>
      have h00 : z (4 + 0) i = 0 ↔ isIn (V 0) i = false := by rw [← v0]; exact inM_iff i30
      have h11 : z (4 + 1) i = 0 ↔ isIn (V 1) i = false := by rw [← v1]; exact inM_iff i30
      have hbz : bM z := wz.2.2.2.2.2.2.2.2.2.2.2
      have eb : ∀ s, s < 2 → (z (4 + s) i = 0 ↔ isIn (V s) i = false) → z (4 + s) i = b2i (isIn (V s) i) := fun s hs q => by
        rcases hbz s (by omega) i i30 with q1 | q1
        · rw [q1, q.mp q1]; rfl
        · cases hh : isIn (V s) i with
          | true => rw [q1]; rfl
          | false => exact absurd (q.mpr hh) (by rw [q1]; decide)
      have g0 := eb 0 (by decide) h00
      have g1 := eb 1 (by decide) h11
      rw [g0, g1]
      unfold plE ctE
      cases k0 : isIn (V 0) i <;> cases k1 : isIn (V 1) i
      · obtain ⟨x1, x2, x3⟩ := vF_no k0
        obtain ⟨y1, y2, y3⟩ := vF_no k1
        rw [x1, x2, x3, y1, y2, y3]
        simp [b2i]
      · simp [b2i]
      · simp [b2i]
      · obtain ⟨x1, x2, x3⟩ := rowsM v0 k0
        obtain ⟨y1, y2, y3⟩ := rowsM v1 k1
        rw [x1, x2, x3, y1, y2, y3]
        by_cases m1 : vF (V 0) i = vF (V 1) i <;> by_cases m2 : vN (V 0) i = vN (V 1) i <;> by_cases m3 : vC (V 0) i = vC (V 1) i <;> simp [m1, m2, m3, b2i]) (fun k => by
    show fX8_areAlike_b6 RM 1 (k + 1) z (nI n) = _
    rw [fX8_areAlike_b6, wz.2.1, if_pos (nI_le (Nat.le_refl n) (by omega))]
    rfl) lpF 0 (by omega) (by rw [lpF_eq]; omega)
  have key : fX8_areAlike_b6 RM 1 lpF z (nI 0) = some (b2i (!(anyN n (ubB V P))), z) := key
  rw [← l0] at key
  refine ⟨z, ?_, b2⟩
  unfold fX8_areAlike
  rw [b1, Option.bind_some, key]

theorem s_would : S_would Inv := by
  rintro hA hM I0 a
  have I1 := I0
  obtain ⟨⟨n, F, V, P, pr, c0, c1, c2⟩, K, tp, S, i1, i2, i3, i4, i5, i6, i7⟩ := I0
  have hn : n ≤ 30 := i4.1
  have hall : ∀ s, s < 3 → wfT n F (V s) := i1.1
  obtain ⟨first, hf, rfl⟩ := pr_first i1.2
  have epA : hA 2 5 = nI first := i4.2.2.2.2.2.2.2.2.2.1
  have epM : hM 1 1 = nI first := i5.2.2.2.2.2.2.2.1
  obtain ⟨hA', hM', a1, b1, w1, w2, r1, r2, x1, x2, y1, y2, ok⟩ := both_settle first hf i1 i2 i3 i4 i5 i6 i7
  have inv : Inv hA' hM' := ⟨_, K, tp, S, i1, i2, i3, w1, w2, r1, r2⟩
  have g3 : ∀ x y : Option (Int32 × HH), (if a < 0 then x else if a ≤ 3 then y else x) = if thB 4 a = true then y else x := fun x y => gate_le (k := 3) (by decide) a x y
  have k3 : (!(decide (a < 0)) && !(decide (3 < a))) = thB 4 a := in_k (k := 3) (by decide) a
  unfold fX7_would fX8_would
  rw [A_10, A_15, epA, epM, a1, b1, in_m, Option.bind_some, Option.bind_some, Option.bind_some, b2i_ifn, g3, k3]
  cases ha : thB 4 a with
  | false => exact ⟨-2, hA, hM, rfl, rfl, I1⟩
  | true =>
  rw [if_pos rfl, if_pos rfl]
  obtain ⟨j, hj, rfl⟩ := thB_n (by decide) ha
  have cj : j = 0 ∨ j = 1 ∨ j = 2 ∨ j = 3 := by omega
  have cA := x2.2.2.2.2
  have cM := y2.2.2.2.2.2
  rcases cj with rfl | rfl | rfl | rfl
  · rw [if_pos (show nI 0 = 0 from rfl), if_pos (show ¬ nI 0 = 3 by decide), if_neg (show ¬ ¬ nI 0 = 0 from fun z => z rfl), cA.1, cM.1]
    exact ⟨_, hA', hM', rfl, rfl, inv⟩
  · obtain ⟨zA, e1, e2, e3⟩ := stepsOf_a w268_2 (show 0 < 2 by decide) x1 x2
    obtain ⟨zM, f1, f2, f3⟩ := tellPlan_m hn hall y1 y2 ok (show 0 < 2 by decide)
    have e1 : fX7_stepsOf hA' RA 1 0 = _ := e1
    rw [if_neg (show ¬ nI 1 = 0 by decide), if_pos (show nI 1 = 1 from rfl), if_pos (show ¬ nI 1 = 3 by decide), if_pos (show ¬ nI 1 = 0 by decide), show nI 1 - 1 = nI 0 by decide, e1, f1, bi2_eq, Option.bind_some, f3.1]
    exact ⟨_, zA, zM, rfl, rfl, _, K, tp, S, i1, i2, i3, wA_P w268_2 e2 w1, wM_frS f2 w2, reA_P e2 r1, reM_frS f2 r2⟩
  · obtain ⟨zA, e1, e2, e3⟩ := stepsOf_a w268_2 (show 1 < 2 by decide) x1 x2
    obtain ⟨zM, f1, f2, f3⟩ := tellPlan_m hn hall y1 y2 ok (show 1 < 2 by decide)
    have e1 : fX7_stepsOf hA' RA 1 1 = _ := e1
    rw [if_neg (show ¬ nI 2 = 0 by decide), if_neg (show ¬ nI 2 = 1 by decide), if_pos (show nI 2 = 2 from rfl), if_pos (show ¬ nI 2 = 3 by decide), if_pos (show ¬ nI 2 = 0 by decide), show nI 2 - 1 = nI 1 by decide, e1, f1, bi2_eq, Option.bind_some, f3.1]
    exact ⟨_, zA, zM, rfl, rfl, _, K, tp, S, i1, i2, i3, wA_P w268_2 e2 w1, wM_frS f2 w2, reA_P e2 r1, reM_frS f2 r2⟩
  · obtain ⟨zM, f1, f2⟩ := areAlike_m i5 hall
    rw [if_neg (show ¬ nI 3 = 0 by decide), if_neg (show ¬ nI 3 = 1 by decide), if_neg (show ¬ nI 3 = 2 by decide), if_neg (show ¬ ¬ nI 3 = 3 from fun z => z rfl), areAlike_a w268_2 hn x1, f1, Option.bind_some, bit_a, bi2_eq, b2i_if]
    have invJ : Inv hA' zM := ⟨_, K, tp, S, i1, i2, i3, w1, wM_frJ f2 i5, r1, reM_frJ f2 i7⟩
    cases hq : !(anyN n (ubB V P)) <;> exact ⟨_, hA', zM, rfl, rfl, invJ⟩
