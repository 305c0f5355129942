/-! told -/
theorem bit_a {h : HH} (p : Bool) : fX7_bit h RA (b2i p) = some (b2i p) := by cases p <;> rfl
theorem vF_no {v : TV} {t : Nat} (h : isIn v t = false) : vF v t = -1 ∧ vN v t = -1 ∧ vC v t = -1 := by
  unfold isIn at h
  unfold vF vN vC
  cases e : v t with
  | none => exact ⟨rfl, rfl, rfl⟩
  | some y => rw [e] at h; cases h
theorem reA_C {h h' : HH} {K : Option WS} {tp : List Int32} {S : Nat → SH} (e : frC 2 h h') (a : reA h K tp S) : reA h' K tp S := reA_eq (by rw [e 1 (by decide) (by decide)]) (fun q hq => e q (by omega) (by omega)) a
theorem reM_frJ {h h' : HH} {K : Option WS} {tp : List Int32} {S : Nat → SH} (e : frJ h h') (a : reM h K tp S) : reM h' K tp S := reM_eq (e.2 43 (by decide)) (e.2 16 (by decide)) (fun q hq => e.1 q (by omega) (by omega) (by omega) (by omega)) a
theorem s_told : S_told Inv := by
  rintro hA hM I0 a b c
  have I1 := I0
  obtain ⟨⟨n, F, V, P, pr, c0, c1, c2⟩, K, tp, S, i1, i2, i3, i4, i5, i6, i7⟩ := I0
  have i40 := i4
  have i50 := i5
  obtain ⟨a1, a2, a3, a4, a5, a6, a7, a8, a9, b1, b2, b3, b4⟩ := i4
  obtain ⟨d1, d2, d3, d4, d5, d6, d7, e1, e2, e3, e4, e5⟩ := i5
  have hall : ∀ s, s < 3 → wfT n F (V s) := i1.1
  have g9 : ∀ x y : Option (Int32 × HH), (if c < 0 then x else if c ≤ 9 then y else x) = if thB 10 c = true then y else x := fun x y => by
    have := gate_le (k := 9) (by decide) c x y
    exact this
  have k9 : (!(decide (c < 0)) && !(decide (9 < c))) = thB 10 c := in_k (k := 9) (by decide) c
  unfold fX7_told fX8_told
  simp only [isTree_a, isPlace_m, isThing_m d1 d2, in_m, A_10, isThing_a a2, Option.bind_some, b2i_if, b2i_ifn]
  rw [g9, k9]
  cases ha : trB a with
  | false => exact ⟨-2, hA, hM, rfl, rfl, I1⟩
  | true =>
  rw [if_pos rfl, if_pos rfl]
  cases hb : thB n b with
  | false => exact ⟨-2, hA, hM, rfl, rfl, I1⟩
  | true =>
  rw [if_pos rfl, if_pos rfl]
  cases hc : thB 10 c with
  | false => exact ⟨-2, hA, hM, rfl, rfl, I1⟩
  | true =>
  rw [if_pos rfl, if_pos rfl]
  obtain ⟨s, hs, rfl⟩ := trB_n ha
  obtain ⟨t, ht, rfl⟩ := thB_n a1 hb
  obtain ⟨j, hj, rfl⟩ := thB_n (by decide) hc
  have t30 : t < 30 := by omega
  obtain ⟨r1, hT⟩ := isW_T (s := s) isW_2 hs
  obtain ⟨u1, u2⟩ := a5 s hs
  obtain ⟨l1, l2, l3, l4, l5, l6⟩ := lr_T w268_2 hs
  obtain ⟨x1, x2, x3, x4⟩ := cl_rows u2 t30
  rw [u1] at x1 x2 x3 x4
  have v1 := d4 s hs
  have ixs : ix (nI s) = s := ix_n (by omega)
  have ixt : ix (nI t) = t := ix_n (by omega)
  have gs : ∀ {α : Type} (k : Option α), gd (inb (nI s) 3) k = k := fun k => gd_in hs (by decide)
  have gt : ∀ {α : Type} (k : Option α), gd (inb (nI t) 30) k = k := fun k => gd_in t30 n30
  have hz : ∀ z : Nat, z < 10 → (nI j = nI z ↔ j = z) := fun z hz => ⟨fun e => nI_inj (by omega) (by omega) e, fun e => by rw [e]⟩
  have j0 : ((nI j = 0) ↔ j = 0) := hz 0 (by decide)
  have j1 : ((nI j = 1) ↔ j = 1) := hz 1 (by decide)
  have j2 : ((nI j = 2) ↔ j = 2) := hz 2 (by decide)
  have j3 : ((nI j = 3) ↔ j = 3) := hz 3 (by decide)
  have j4 : ((nI j = 4) ↔ j = 4) := hz 4 (by decide)
  have j5 : ((nI j = 5) ↔ j = 5) := hz 5 (by decide)
  have j6 : ((nI j = 6) ↔ j = 6) := hz 6 (by decide)
  have j7 : ((nI j = 7) ↔ j = 7) := hz 7 (by decide)
  have j8 : ((nI j = 8) ↔ j = 8) := hz 8 (by decide)
  have j9 : ((nI j = 9) ↔ j = 9) := hz 9 (by decide)
  have s2 : ((nI s = 2) ↔ s = 2) := ⟨fun e => nI_inj (by omega) (by omega) e, fun e => by rw [e]; rfl⟩
  have w22 : RA 2 2 = 2 + 2 := isW_2.2.1
  have w21 : RA 2 1 = 2 + 1 := isW_2.1
  have m3 : lnA (2 + 2) = 3 := isW_2.2.2.2.2.2.2.1
  have m1 : lnA (2 + 1) = 30 := isW_2.2.2.2.2.2.1
  have rows : isIn (V s) t = true → hM (8 + s) t = vF (V s) t ∧ hM (12 + s) t = vN (V s) t ∧ hM (16 + s) t = vC (V s) t := fun hin => rowsM v1 hin
  simp only [w22, w21, m3, m1, gs, gt, ixs, ixt, r1, l1, l2, l3, l4, l5, l6, x2, x3, x4, M_2, M_3, M_4, M_5, M_6, ln_2, ln_3, ln_7, ln_11, ln_15, R_3 s hs, R_7 s hs, R_11 s hs, R_15 s hs, L_3 s hs, L_7 s hs, L_11 s hs, L_15 s hs, lt_eq, inM_if t30, v1, j0, j1, j2, j3, j4, j5, j6, j7, j8, j9, s2, has_n hT t30, u1, Option.bind_some, bit_a, a4 t ht, d3 t ht, b2i_if]
  have cj : j = 0 ∨ j = 1 ∨ j = 2 ∨ j = 3 ∨ j = 4 ∨ j = 5 ∨ j = 6 ∨ j = 7 ∨ j = 8 ∨ j = 9 := by omega
  have cmp : ∃ h' z, fX0_compare hA RA 103 2 = some h' ∧ fX8_ignore hM RM 1 = some z ∧ Inv h' z ∧ cmpA h' V P ∧ rwN z 32 n (igA V P) ∧ (∀ s, s < 3 → avM z s = V s) := by
    obtain ⟨h', f1, f2, f3, f4⟩ := compare_a w268_2 i40 hall
    obtain ⟨z, k1, k2, k3⟩ := ignore_m i50 hall
    have wz := wM_frJ k2 i50
    exact ⟨h', z, f1, k1, ⟨_, K, tp, S, i1, i2, i3, frC_w w268_2 f2 i40, wz, reA_C f2 i6, reM_frJ k2 i7⟩, f4, k3, wz.2.2.2.1⟩
  rcases cj with rfl | rfl | rfl | rfl | rfl | rfl | rfl | rfl | rfl | rfl
  all_goals simp only [Nat.reduceEqDiff, reduceIte, not_true_eq_false, not_false_eq_true]
  · cases hin : isIn (V s) t <;> exact ⟨_, hA, hM, rfl, rfl, I1⟩
  · cases hin : isIn (V s) t with
    | false => exact ⟨-1, hA, hM, by rw [(vF_no hin).1], rfl, I1⟩
    | true => exact ⟨_, hA, hM, rfl, by rw [if_pos rfl, (rows hin).1], I1⟩
  · cases hin : isIn (V s) t with
    | false => exact ⟨-1, hA, hM, by rw [(vF_no hin).2.1], rfl, I1⟩
    | true => exact ⟨_, hA, hM, rfl, by rw [if_pos rfl, (rows hin).2.1], I1⟩
  · cases hin : isIn (V s) t with
    | false => exact ⟨-1, hA, hM, by rw [(vF_no hin).2.2], rfl, I1⟩
    | true => exact ⟨_, hA, hM, rfl, by rw [if_pos rfl, (rows hin).2.2], I1⟩
  · rw [innerOnes_n hT, u1, Option.bind_some, inners_m hs d1 t30 d2 (by rw [v1]; exact hall s hs), v1, Option.bind_some]
    cases hin : isIn (V s) t with
    | false => exact ⟨0, hA, hM, by rw [cnt_0 (fun i _ => inS_to t30 hin)], rfl, I1⟩
    | true => exact ⟨_, hA, hM, rfl, rfl, I1⟩
  · cases hin : isIn (V s) t with
    | false => exact ⟨-1, hA, hM, by rw [depth_no hT t30 (by rw [u1]; exact hin)]; rfl, rfl, I1⟩
    | true =>
      refine ⟨_, hA, hM, by rw [depth_in hT (by rw [u1]; exact hin), u1]; rfl, ?_, I1⟩
      rw [if_pos rfl, deep_m hs (by rw [v1]; exact hin) (by rw [v1]; exact hall s hs), v1]
      rfl
  · obtain ⟨h', z, f1, f2, f3, f4, f5, f6⟩ := cmp
    rw [A_15, f1, f2, Option.bind_some, Option.bind_some]
    by_cases es : s = 2
    · rw [if_neg (fun z => z es), if_neg (fun z => z es)]
      exact ⟨0, h', z, rfl, rfl, f3⟩
    · have s2' : s < 2 := by omega
      rw [if_pos es, if_pos es, G_2, Gl_105, gd_in s2' (by decide), G_105 s s2', Gl_106 s s2', gt, f4.2 s s2' t t30, changed_m d1 f6 f5 s2' ht]
      exact ⟨_, h', z, rfl, rfl, f3⟩
  · obtain ⟨h', f1, f2⟩ := isIgnoredThere_a isW_2 i40 hs (hall s hs) t30
    rw [f1, bi2_eq, bit_a]
    have wI : ∀ z, (∀ q, q ≠ 6 → h' q = hA q) → frI hM z → Inv h' z := fun z k1 k2 => ⟨_, K, tp, S, i1, i2, i3, wA_path k1 i40, wM_frI k2 i50, reA_4 k1 i6, reM_frI k2 i7⟩
    cases hin : isIn (V s) t with
    | false => exact ⟨0, h', hM, rfl, rfl, wI hM f2 frI_rfl⟩
    | true =>
      obtain ⟨z, k1, k2⟩ := isIgnoredOn_m (h := hM) hs d1 (by rw [v1]; exact hin) (by rw [v1]; exact hall s hs) (paM_of i50)
      rw [if_pos rfl, k1, bi2_eq, v1, b2i_if]
      cases hg : ignT P (V s) t <;> exact ⟨_, h', z, rfl, rfl, wI z f2 k2⟩
  · obtain ⟨h', z, f1, f2, f3, f4, f5, f6⟩ := cmp
    rw [A_15, f1, f2, Option.bind_some, Option.bind_some, G_1, Gl_104, gt, M_25, ln_32, gt, f4.1 t t30, f5 t ht, bit_a, b2i_if]
    cases hg : igA V P t <;> exact ⟨_, h', z, rfl, rfl, f3⟩
  · cases hg : F t <;> exact ⟨_, hA, hM, rfl, rfl, I1⟩
