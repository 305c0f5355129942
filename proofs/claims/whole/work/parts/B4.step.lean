/-! step, would -/
def plG (G : TV) (S : CL) : Prop := ∀ y, y ∈ S → y.2 < 30 ∧ ((y.1 = 1 ∨ y.1 = 2 ∨ y.1 = 3) → isIn G y.2 = true)
theorem plG_add {G : TV} {S : CL} {k : Int32} {t : Nat} (h : plG G S) (ht : t < 30) (hk : (k = 1 ∨ k = 2 ∨ k = 3) → isIn G t = true) : plG G (S ++ [(k, t)]) := by
  intro y hy
  rcases List.mem_append.mp hy with e | e
  · exact h y e
  · have : y = (k, t) := by simpa using e
    subst this
    exact ⟨ht, hk⟩
theorem plG_fad {G : TV} {B : Nat → Bool} {k : Int32} {S : CL} (h : plG G S) (hk : ∀ t, B t = true → (k = 1 ∨ k = 2 ∨ k = 3) → isIn G t = true) : ∀ m, m ≤ 30 → plG G (fld (adS B k) 0 m S) := by
  refine fld_inv (n := 30) (I := fun _ S => plG G S) h (fun i S hi hS => ?_)
  unfold adS
  split
  · rename_i e
    exact plG_add hS hi (hk i e)
  · exact hS
theorem plG_dn {G : TV} {B : Nat → Bool} {k : Int32} (hk : ¬ (k = 1 ∨ k = 2 ∨ k = 3)) : ∀ (m : Nat) (S : CL), m ≤ 30 → plG G S → plG G (dnS B k m S)
  | 0, S, _, h => h
  | m + 1, S, hm, h => by
    refine plG_dn hk m _ (by omega) ?_
    unfold adS
    split
    · exact plG_add h (by omega) (fun z => absurd z hk)
    · exact h
theorem plG_dp {V : Nat → TV} {P : List PT} {G : TV} {s d : Nat} {S : CL} (h : plG G S) : ∀ m, m ≤ 30 → plG G (fld (dpStep V P G s d) 0 m S) := by
  refine fld_inv (n := 30) (I := fun _ S => plG G S) h (fun i S hi hS => ?_)
  unfold dpStep
  split
  · rename_i e
    simp only [Bool.and_eq_true] at e
    split
    · split
      · exact plG_add hS hi (fun _ => e.1)
      · exact hS
    · exact plG_add hS hi (fun _ => e.1)
  · exact hS
theorem plG_p4 {V : Nat → TV} {P : List PT} {G : TV} {s : Nat} : plG G (p4S V P G s) := by
  unfold p4S
  refine plG_dn (by decide) 30 _ (Nat.le_refl _) ?_
  unfold p3S
  refine plG_fad ?_ (fun t ht _ => ?_) 30 (Nat.le_refl _)
  · unfold p2S
    refine fld_inv (n := 30) (I := fun _ S => plG G S) ?_ (fun i S hi hS => ?_) 30 (Nat.le_refl _)
    · unfold p1S
      exact plG_fad (fun y hy => by cases hy) (fun t ht hk => absurd hk (by decide)) 30 (Nat.le_refl _)
    · unfold dpAll
      exact plG_dp hS 30 (Nat.le_refl _)
  · unfold wrC at ht
    simp only [Bool.and_eq_true] at ht
    exact ht.1
theorem wA_P {h h' : HH} {w : Nat} {x : WS} (ww : w268 w) (a : frP h h') (hw : wA h w x) : wA h' w x := by
  have hl := w268_lt ww
  exact wA_eq (fun q h1 h2 => a q (by omega)) hw
theorem reA_P {h h' : HH} {K : Option WS} {tp : List Int32} {S : Nat → SH} (e : frP h h') (a : reA h K tp S) : reA h' K tp S := reA_eq (by rw [e 1 (by decide)]) (fun q hq => e q (by omega)) a
theorem stepsOf_a {h : HH} {w n first s : Nat} {V : Nat → TV} {P : List PT} {x : T3} (ww : w268 w) (hs : s < 2) (c : ctxA h w n V P first) (m : mgA h x) : ∃ h', fX7_stepsOf h RA 1 (nI s) = some (nI (p4S V P x.1 s).length, h') ∧ frP h h' ∧ psA h' (p4S V P x.1 s) := by
  obtain ⟨h', e1, e2, e3⟩ := lay_a ww hs c m
  refine ⟨h', ?_, e2, e3⟩
  unfold fX7_stepsOf
  rw [A_16, A_15, e1, Option.bind_some, e3.1]
theorem gate_lt {α : Type} {k : Nat} (hk : k < 2 ^ 31) (a : Int32) (x y : α) : (if a < 0 then x else if a < nI k then y else x) = if thB k a = true then y else x := by
  unfold thB
  by_cases h0 : a < 0
  · simp [h0]
  · obtain ⟨p, hp, rfl⟩ := nI_of h0
    have e1 := nI_ltI hp hk
    have e2 := nI_leI hk hp
    rw [if_neg h0]
    by_cases e : p < k
    · rw [if_pos (e1.mpr e), if_pos]
      simp only [h0, decide_false, Bool.not_false, Bool.true_and, Bool.not_eq_true', decide_eq_false_iff_not]
      rw [e2]; omega
    · rw [if_neg (fun z => e (e1.mp z)), if_neg]
      simp only [h0, decide_false, Bool.not_false, Bool.true_and, Bool.not_eq_true', decide_eq_false_iff_not]
      rw [e2]; omega
theorem thB_nI {k : Nat} (hk : k < 2 ^ 31) {a : Int32} (h : thB k a = true) : ∃ i, i < k ∧ a = nI i := by
  unfold thB at h
  simp only [Bool.and_eq_true, Bool.not_eq_true', decide_eq_false_iff_not] at h
  obtain ⟨p, hp, rfl⟩ := nI_of h.1
  exact ⟨p, by have := mt (nI_leI hk hp).mpr h.2; omega, rfl⟩
theorem s_step : S_step Inv := by
  rintro hA hM I0 a b c
  have I1 := I0
  obtain ⟨⟨n, F, V, P, pr, c0, c1, c2⟩, K, tp, S, i1, i2, i3, i4, i5, i6, i7⟩ := I0
  have hn : n ≤ 30 := i4.1
  have hall : ∀ s, s < 3 → wfT n F (V s) := i1.1
  obtain ⟨first, hf, rfl⟩ := pr_first i1.2
  have epA : hA 2 5 = nI first := i4.2.2.2.2.2.2.2.2.2.1
  have epM : hM 1 1 = nI first := i5.2.2.2.2.2.2.2.1
  obtain ⟨hA', hM', a1, b1, w1, w2, r1, r2, x1, x2, y1, y2, ok⟩ := both_settle first hf i1 i2 i3 i4 i5 i6 i7
  have inv : Inv hA' hM' := ⟨_, K, tp, S, i1, i2, i3, w1, w2, r1, r2⟩
  have k4 : (4 : Int32) = nI 4 := by decide
  unfold fX7_step fX8_step_
  rw [A_10, A_15, A_16, epA, epM, a1, b1]
  simp only [isSide_a, isSide_m, in_m, Option.bind_some, b2i_if, b2i_ifn]
  rw [k4, in_k (by decide), gate_le (by decide)]
  cases ha : siB a with
  | false => exact ⟨-2, hA, hM, rfl, rfl, I1⟩
  | true =>
  rw [if_pos rfl, if_pos rfl]
  cases hc : thB (4 + 1) c with
  | false => exact ⟨-2, hA, hM, rfl, rfl, I1⟩
  | true =>
  rw [if_pos rfl, if_pos rfl]
  obtain ⟨s, hs, rfl⟩ := siB_n ha
  obtain ⟨zA, e1, e2, e3⟩ := stepsOf_a w268_2 hs x1 x2
  obtain ⟨zM, f1, f2, f3⟩ := tellPlan_m hn hall y1 y2 ok hs
  have hlen := p4_120 (V := V) (P := P) (G := (t5S V P n first).1) (s := s)
  have hpl := plG_p4 (V := V) (P := P) (G := (t5S V P n first).1) (s := s)
  have invP : Inv zA zM := ⟨_, K, tp, S, i1, i2, i3, wA_P w268_2 e2 w1, wM_frS f2 w2, reA_P e2 r1, reM_frS f2 r2⟩
  have invQ : Inv hA' zM := ⟨_, K, tp, S, i1, i2, i3, w1, wM_frS f2 w2, r1, reM_frS f2 r2⟩
  rw [e1, bi2_eq, f1, Option.bind_some, f3.1, in_pred (show (p4S V P (t5S V P n first).1 s).length < 2 ^ 31 by omega)]
  have mzA := mgA_P e2 x2
  have mzM := mgM_S f2 y2
  generalize hX : p4S V P (t5S V P n first).1 s = X at *
  by_cases hneg : b < 0
  · have : thB X.length b = false := by unfold thB; simp [hneg]
    rw [if_pos hneg, this]
    exact ⟨-12, hA', zM, rfl, rfl, invQ⟩
  rw [if_neg hneg]
  have hg : ∀ (u v : Option (Int32 × HH)), (if b < nI X.length then u else v) = if thB X.length b = true then u else v := by
    intro u v
    have := gate_lt (k := X.length) (show X.length < 2 ^ 31 by omega) b v u
    rw [if_neg hneg] at this
    exact this
  rw [hg]
  cases hb : thB X.length b with
  | false => exact ⟨-12, zA, zM, rfl, rfl, invP⟩
  | true =>
  obtain ⟨i, hi, rfl⟩ := thB_nI (by omega) hb
  obtain ⟨j, hj, rfl⟩ := thB_nI (by decide) hc
  rw [if_pos rfl, if_pos rfl]
  obtain ⟨u1, u2⟩ := e3.2 i _ (List.getElem?_eq_getElem hi)
  obtain ⟨v1, v2⟩ := f3.2 i _ (List.getElem?_eq_getElem hi)
  obtain ⟨t30, tG⟩ := hpl X[i] (List.getElem_mem hi)
  generalize X[i] = y at u1 u2 v1 v2 t30 tG
  obtain ⟨k, t⟩ := y
  have u1 : zA 116 i = k := u1
  have u2 : zA 117 i = nI t := u2
  have v1 : zM 40 i = k := v1
  have v2 : zM 41 i = nI t := v2
  have t30 : t < 30 := t30
  have tG : (k = 1 ∨ k = 2 ∨ k = 3) → isIn (t5S V P n first).1 t = true := tG
  obtain ⟨g1, g2, g3⟩ := mgA_rows mzA t30
  obtain ⟨k1, k2, k3, k4', k5, k6⟩ := G_g
  have hz : ∀ z : Nat, z < 5 → (nI j = nI z ↔ j = z) := fun z hz => ⟨fun e => nI_inj (by omega) (by omega) e, fun e => by rw [e]⟩
  have j0 : ((nI j = 0) ↔ j = 0) := hz 0 (by decide)
  have j1 : ((nI j = 1) ↔ j = 1) := hz 1 (by decide)
  have j2 : ((nI j = 2) ↔ j = 2) := hz 2 (by decide)
  have j3 : ((nI j = 3) ↔ j = 3) := hz 3 (by decide)
  have jl : ((2 : Int32) ≤ nI j ↔ 2 ≤ j) := n_le (show (2 : Int32) = nI 2 by decide) (by decide) j (by omega)
  have hlt : nI i < nI X.length := nI_lt hi (by omega)
  have ea : fX2_tell zA RA 115 (RA 103 3) (nI i) (nI j) = some (if j = 0 then k else if j = 1 then nI t else if j = 2 then (if k = 1 ∨ k = 2 then vF (t5S V P n first).1 t else -1) else if j = 3 then (if k = 0 then 100 + nI t else if k = 1 ∨ k = 2 then vN (t5S V P n first).1 t else -1) else if k = 1 ∨ k = 3 then vC (t5S V P n first).1 t else -1) := by
    unfold fX2_tell
    rw [if_neg hneg, e3.1, if_pos hlt, L_0, L_1, Ll_116, Ll_117, gd_in (show i < 120 by omega) (by decide), ix_n (show i < 2 ^ 31 by omega), u2, lt_eq]
    simp only [fX2_tell_b43, fX2_tell_b48, fX2_tell_b159, L_0, Ll_116, gd_in (show i < 120 by omega) (show 120 < 2 ^ 31 by decide), ix_n (show i < 2 ^ 31 by omega), ix_n (show t < 2 ^ 31 by omega), u1, G_3, k1, k2, k3, k4', k5, k6, gd_in t30 n30, g1, g2, g3, j0, j1, j2, j3]
    have one : ¬ ((1 : Int32) = 0) := by decide
    by_cases d1 : k = 1
    · subst d1
      by_cases z0 : j = 0
      · simp [z0]
      · by_cases z1 : j = 1
        · simp [z1]
        · by_cases z2 : j = 2
          · simp [z2]
          · by_cases z3 : j = 3
            · simp [z3]
            · simp [z0, z1, z2, z3]
    · by_cases d2 : k = 2
      · subst d2
        by_cases z0 : j = 0
        · simp [z0]
        · by_cases z1 : j = 1
          · simp [z1]
          · by_cases z2 : j = 2
            · simp [z2]
            · by_cases z3 : j = 3
              · simp [z3]
              · simp [z0, z1, z2, z3]
      · by_cases z0 : j = 0
        · simp [z0, d1, d2]
        · by_cases z1 : j = 1
          · simp [z1, d1, d2]
          · by_cases z2 : j = 2
            · simp [z2, d1, d2]
            · by_cases z3 : j = 3
              · by_cases d0 : k = 0
                · simp [z3, d0]
                · simp [z3, d0, d1, d2]
              · by_cases d3 : k = 3
                · simp [z0, z1, z2, z3, d3]
                · simp [z0, z1, z2, z3, d1, d2, d3]
  rw [ea, Option.bind_some]
  refine ⟨_, zA, zM, rfl, ?_, invP⟩
  rw [M_36, M_37, ln_40, ln_41, gd_in (show i < 120 by omega) (by decide), ix_n (show i < 2 ^ 31 by omega), v1, lt_eq, gd_in (show i < 120 by omega) (by decide), v2, lt_eq]
  simp only [fX8_step__b77, fX8_step__b82, fX8_step__b170, M_32, M_33, M_34, ln_37, ln_38, ln_39, gd_in t30 n30, ix_n (show t < 2 ^ 31 by omega), j0, j1, j2, j3, jl]
  have one : ¬ ((1 : Int32) = 0) := by decide
  have rF : (k = 1 ∨ k = 2 ∨ k = 3) → zM 37 t = vF (t5S V P n first).1 t ∧ zM 38 t = vN (t5S V P n first).1 t ∧ zM 39 t = vC (t5S V P n first).1 t := fun hk => ⟨(mzM.2.1 t t30 trivial (tG hk)).1, (mzM.2.1 t t30 trivial (tG hk)).2, mzM.2.2.1 t t30 trivial (tG hk)⟩
  by_cases d1 : k = 1
  · subst d1
    obtain ⟨q1, q2, q3⟩ := rF (Or.inl rfl)
    by_cases z0 : j = 0
    · simp [z0]
    · by_cases z1 : j = 1
      · simp [z1]
      · by_cases z2 : j = 2
        · simp [z2, q1]
        · by_cases z3 : j = 3
          · simp [z3, q2]
          · simp [z0, z1, z2, z3, q3, show 2 ≤ j by omega]
  · by_cases d2 : k = 2
    · subst d2
      obtain ⟨q1, q2, q3⟩ := rF (Or.inr (Or.inl rfl))
      by_cases z0 : j = 0
      · simp [z0]
      · by_cases z1 : j = 1
        · simp [z1]
        · by_cases z2 : j = 2
          · simp [z2, q1]
          · by_cases z3 : j = 3
            · simp [z3, q2]
            · simp [z0, z1, z2, z3, show 2 ≤ j by omega]
    · by_cases z0 : j = 0
      · simp [z0, d1, d2]
      · by_cases z1 : j = 1
        · simp [z1, d1, d2]
        · by_cases z2 : j = 2
          · simp [z2, d1, d2]
          · by_cases z3 : j = 3
            · by_cases d0 : k = 0
              · simp [z3, d0]
              · simp [z3, d0, d1, d2]
            · by_cases d3 : k = 3
              · subst d3
                obtain ⟨q1, q2, q3⟩ := rF (Or.inr (Or.inr rfl))
                simp [z0, z1, z2, z3, q3, show 2 ≤ j by omega]
              · simp [z0, z1, z2, z3, d1, d2, d3, show 2 ≤ j by omega]
