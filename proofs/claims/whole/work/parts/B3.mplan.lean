/-! the reference's plan -/
def frS (h h' : HH) : Prop := (∀ q, q ≠ 1 → q ≠ 40 → q ≠ 41 → h' q = h q) ∧ ∀ j, j ≠ 35 → h' 1 j = h 1 j
theorem frS_rfl {h : HH} : frS h h := ⟨fun _ _ _ _ => rfl, fun _ _ => rfl⟩
theorem frS_trans {h h' h'' : HH} (a : frS h h') (b : frS h' h'') : frS h h'' := ⟨fun q e1 e2 e3 => (b.1 q e1 e2 e3).trans (a.1 q e1 e2 e3), fun j e => (b.2 j e).trans (a.2 j e)⟩
theorem wM_frS {h h' : HH} {x : WS} (e : frS h h') (hw : wM h x) : wM h' x := by
  obtain ⟨n, F, V, P, pr, c0, c1, c2⟩ := x
  obtain ⟨d1, d2, d3, d4, d5, d6, d7, e1, e2, e3, e4, e5⟩ := hw
  refine ⟨d1, by rw [e.2 0 (by decide)]; exact d2, fun t ht => by rw [e.1 2 (by decide) (by decide) (by decide)]; exact d3 t ht, fun s hs => (avM_eq (e.1 _ (by omega) (by omega) (by omega)) (e.1 _ (by omega) (by omega) (by omega)) (e.1 _ (by omega) (by omega) (by omega)) (e.1 _ (by omega) (by omega) (by omega))).trans (d4 s hs), d5, by rw [e.2 11 (by decide)]; exact d6, fun i y hi => ?_, by rw [e.2 1 (by decide)]; exact e1, by rw [e.2 7 (by decide)]; exact e2, by rw [e.2 8 (by decide)]; exact e3, by rw [e.2 9 (by decide)]; exact e4, bM_eq (fun q _ _ => e.1 q (by omega) (by omega) (by omega)) e5⟩
  have hl := (List.getElem?_eq_some_iff.mp hi).1
  exact patM_eq (e.1 20 (by decide) (by decide) (by decide)) (e.1 21 (by decide) (by decide) (by decide)) (e.1 _ (by omega) (by omega) (by omega)) (d7 i y hi)
theorem reM_frS {h h' : HH} {K : Option WS} {tp : List Int32} {S : Nat → SH} (e : frS h h') (a : reM h K tp S) : reM h' K tp S := reM_eq (e.2 43 (by decide)) (e.2 16 (by decide)) (fun q hq => e.1 q (by omega) (by omega) (by omega)) a
theorem ctxM_S {h h' : HH} {n : Nat} {F : Nat → Bool} {V : Nat → TV} {P : List PT} (a : frS h h') (c : ctxM h n F V P) : ctxM h' n F V P := by
  obtain ⟨c1, c2, c3, c4⟩ := c
  exact ⟨by rw [a.2 0 (by decide)]; exact c1, fun s hs => (avM_eq (a.1 _ (by omega) (by omega) (by omega)) (a.1 _ (by omega) (by omega) (by omega)) (a.1 _ (by omega) (by omega) (by omega)) (a.1 _ (by omega) (by omega) (by omega))).trans (c2 s hs), fun u hu => by rw [a.1 32 (by decide) (by decide) (by decide)]; exact c3 u hu, fun t ht => by rw [a.1 2 (by decide) (by decide) (by decide)]; exact c4 t ht⟩
theorem mgM_S {h h' : HH} {x : T3} {DF DC : Nat → Prop} (a : frS h h') (m : mgM h x DF DC) : mgM h' x DF DC := by
  obtain ⟨m1, m2, m3, m4, m5, m6⟩ := m
  exact ⟨fun t ht => by rw [a.1 35 (by decide) (by decide) (by decide)]; exact m1 t ht, fun t ht hd hi => by rw [a.1 37 (by decide) (by decide) (by decide), a.1 38 (by decide) (by decide) (by decide)]; exact m2 t ht hd hi, fun t ht hd hi => by rw [a.1 39 (by decide) (by decide) (by decide)]; exact m3 t ht hd hi, by rw [a.2 27 (by decide)]; exact m4, m5, clM_fr (a.2 26 (by decide)) (a.1 33 (by decide) (by decide) (by decide)) (a.1 34 (by decide) (by decide) (by decide)) m6⟩
def psM (h : HH) (S : CL) : Prop := h 1 35 = nI S.length ∧ ∀ i y, S[i]? = some y → h 40 i = y.1 ∧ h 41 i = nI y.2
theorem step_m {h : HH} {S : CL} (hS : psM h S) (hl : S.length < 120) (k : Int32) (t : Nat) : ∃ h', fX8_step h RM 1 k (nI t) = some h' ∧ psM h' (S ++ [(k, t)]) ∧ frS h h' := by
  have e1 : up h 40 S.length k 1 35 = nI S.length := by rw [up_ne (by decide)]; exact hS.1
  have e2 : up (up h 40 S.length k) 41 S.length (nI t) 1 35 = nI S.length := by rw [up_ne (by decide)]; exact e1
  refine ⟨up (up (up h 40 S.length k) 41 S.length (nI t)) 1 35 (nI (S.length + 1)), ?_, ⟨by rw [up_same]; simp, fun i y hi => ?_⟩, ⟨fun q q1 q2 q3 => by rw [up_ne q1, up_ne q3, up_ne q2], fun j hj => by rw [up_at, if_neg hj, up_ne (by decide), up_ne (by decide)]⟩⟩
  · unfold fX8_step
    rw [hS.1, M_36, ln_40, gd_in hl (by decide), lt_eq, ix_n (show S.length < 2 ^ 31 by omega), e1, M_37, ln_41, gd_in hl (by decide), lt_eq, ix_n (show S.length < 2 ^ 31 by omega), e2, lt_eq, n_p1]
  · rw [up_ne (show 40 ≠ 1 by decide), up_ne (show 40 ≠ 41 by decide), up_at, up_ne (show 41 ≠ 1 by decide), up_at]
    rcases get_app hi with ⟨ei, ey⟩ | hi2
    · rw [if_pos ei, if_pos ei, ey]
      exact ⟨rfl, rfl⟩
    · have := (List.getElem?_eq_some_iff.mp hi2).1
      rw [if_neg (by omega), if_neg (by omega), up_ne (show 41 ≠ 40 by decide)]
      exact hS.2 i y hi2
theorem isOn_m {h : HH} {n s t : Nat} {F : Nat → Bool} {V : Nat → TV} {P : List PT} (hn : n ≤ 30) (hw : ∀ s, s < 3 → wfT n F (V s)) (c : ctxM h n F V P) (hs : s < 2) (ht : t < 30) : fX8_isOn h RM 1 (nI s) (nI t) = some (b2i (isIn (V s) t && !(igA V P t))) := by
  obtain ⟨c1, c2, c3, c4⟩ := c
  have v1 := c2 s (by omega)
  unfold fX8_isOn fX8_isOn_b32
  rw [c1]
  by_cases e : n ≤ t
  · rw [if_pos (nI_le e (by omega))]
    have : isIn (V s) t = false := by
      cases h1 : isIn (V s) t with
      | false => rfl
      | true => have := (hw s (by omega) t h1).1; omega
    rw [this]
    rfl
  · rw [if_neg (nI_ge (by omega) (by omega)), M_3, ln_3, gd_in (show s < 3 by omega) (by decide), ix_n (show s < 2 ^ 31 by omega), R_3 s (by omega), L_3 s (by omega), gd_in ht n30, ix_n (show t < 2 ^ 31 by omega), inM_if ht, v1, M_25, ln_32, gd_in ht n30, c3 t (by omega), b2i_ifn]
    cases isIn (V s) t <;> cases igA V P t <;> rfl
theorem isAside_m {h : HH} {x : T3} {n s t : Nat} {F : Nat → Bool} {V : Nat → TV} {P : List PT} (hn : n ≤ 30) (hw : ∀ s, s < 3 → wfT n F (V s)) (c : ctxM h n F V P) (m : mgM h x (fun _ => True) (fun _ => True)) (hs : s < 2) (ht : t < 30) : fX8_isAside h RM 1 (nI s) (nI t) = some (b2i (asB V P x.1 s t)) := by
  have v1 := c.2.1 s (by omega)
  unfold fX8_isAside fX8_isAside_b56 fX8_isAside_b52
  rw [isOn_m hn hw c hs ht, Option.bind_some, b2i_if, M_30, ln_35, gd_in ht n30, ix_n (show t < 2 ^ 31 by omega), mgM_if m ht]
  unfold asB
  cases hin : isIn (V s) t with
  | false => rfl
  | true =>
    cases hig : igA V P t with
    | true => rfl
    | false =>
      rw [if_pos (show (true && !false) = true from rfl)]
      cases hG : isIn x.1 t with
      | false => rfl
      | true =>
        obtain ⟨p1, p2, p3⟩ := rowsM v1 hin
        obtain ⟨g1, g2⟩ := m.2.1 t ht trivial hG
        rw [if_pos rfl, M_4, ln_7, gd_in (show s < 3 by omega) (by decide), ix_n (show s < 2 ^ 31 by omega), R_7 s (by omega), L_7 s (by omega), gd_in ht n30, M_32, ln_37, gd_in ht n30, p1, g1, M_5, ln_11, gd_in (show s < 3 by omega) (by decide), R_11 s (by omega), L_11 s (by omega), gd_in ht n30, M_33, ln_38, gd_in ht n30, p2, g2]
        unfold plE
        by_cases d1 : vF (V s) t = vF x.1 t
        · by_cases d2 : vN (V s) t = vN x.1 t
          · simp [d1, d2, b2i]
          · simp [d1, d2, b2i]
        · simp [d1, b2i]
theorem dp_more {V : Nat → TV} {P : List PT} {G : TV} {s d : Nat} (hd : 29 < d) (S : CL) : dpAll V P G s d S = S := by
  unfold dpAll
  have key : ∀ k, fld (dpStep V P G s d) 0 k S = S := by
    intro k
    induction k with
    | zero => rfl
    | succ k ih =>
      rw [fld_app, ih]
      unfold dpStep
      have hdp : dpG G k ≤ 29 := dpS_le
      rw [show decide (dpG G k = d) = false from decide_eq_false (by omega), Bool.and_false]
      rfl
  exact key _
theorem p2_more {V : Nat → TV} {P : List PT} {G : TV} {s m : Nat} (hm : m = 30) (S : CL) : fld (dpAll V P G s) 0 (m + 1) S = fld (dpAll V P G s) 0 m S := by
  rw [fld_app, dp_more (by omega)]
theorem p2_31 {V : Nat → TV} {P : List PT} {G : TV} {s : Nat} : fld (dpAll V P G s) 0 31 (p1S V P G s) = p2S V P G s := by
  unfold p2S
  exact p2_more rfl (p1S V P G s)
theorem tellPlan_m {h : HH} {x : T3} {n s : Nat} {F : Nat → Bool} {V : Nat → TV} {P : List PT} (hn : n ≤ 30) (hw : ∀ s, s < 3 → wfT n F (V s)) (c : ctxM h n F V P) (m : mgM h x (fun _ => True) (fun _ => True)) (ok : tgOK V P n F x) (hs : s < 2) : ∃ h', fX8_tellPlan h RM 1 (nI s) = some h' ∧ frS h h' ∧ psM h' (p4S V P x.1 s) := by
  have inV : ∀ t, n ≤ t → isIn (V s) t = false := fun t ht => by
    cases h1 : isIn (V s) t with
    | false => rfl
    | true => have := (hw s (by omega) t h1).1; omega
  have as0 : ∀ t, n ≤ t → asB V P x.1 s t = false := fun t ht => by unfold asB; rw [inV t ht]; rfl
  have wr0 : ∀ t, n ≤ t → wrC V x.1 s t = false := fun t ht => by unfold wrC; rw [inV t ht]; cases isIn x.1 t <;> rfl
  have rm0 : ∀ t, n ≤ t → rmC V P x.1 s t = false := fun t ht => by unfold rmC; rw [as0 t ht]; rfl
  have tin : ∀ t, isIn x.1 t = true → t < x.2.1 := fun t ht => by
    by_cases e : t < n
    · have := ok.1; omega
    · have := ok.2.2.2.1 t (by omega)
      rw [ht] at this
      exact of_decide_eq_true this.symm
  have nig : ∀ t, isIn x.1 t = true → igA V P t = false := fun t ht => tg_noig hw ok.2.2.1 ht
  have f0 : frS h (up h 1 35 0) := ⟨fun q q1 _ _ => up_ne q1, fun j hj => by rw [up_at, if_neg hj]⟩
  -- 1
  obtain ⟨z1, ⟨a1, a2, a3⟩, E1⟩ := loop_rel (L := fX8_tellPlan_b7 RM 1 (nI s)) (e := n) (f := adS (asB V P x.1 s) 0) (R := fun i z S => frS h z ∧ psM z S ∧ S.length ≤ i) (g := fun z => fX8_tellPlan_b38 RM 1 (nI s) lpF z 0) (fun k i z S hi hR => by
    obtain ⟨I1, I2, I3⟩ := hR
    have cz := ctxM_S I1 c
    have mz := mgM_S I1 m
    obtain ⟨za, q1, q2, q3⟩ := step_m I2 (show S.length < 120 by omega) 0 i
    have hlen := adS_len (B := asB V P x.1 s) (k := 0) (t := i) (S := S)
    rw [fX8_tellPlan_b7, cz.1, if_neg (nI_ge hi (by omega)), isAside_m hn hw cz mz hs (by omega), Option.bind_some, b2i_if, q1, Option.bind_some]
    simp only [fX8_tellPlan_b30, n_p1]
    unfold adS at hlen ⊢
    cases hw : asB V P x.1 s i with
    | true =>
      rw [hw, if_pos rfl] at hlen
      exact ⟨za, rfl, frS_trans I1 q3, q2, by show (S ++ [((0 : Int32), i)]).length ≤ _; omega⟩
    | false => exact ⟨z, rfl, I1, I2, by show S.length ≤ _; omega⟩) (fun k z S hR => by
    rw [fX8_tellPlan_b7, (ctxM_S hR.1 c).1, if_pos (nI_le (Nat.le_refl n) (by omega))]) lpF (up h 1 35 0) [] (by rw [lpF_eq]; omega) ⟨f0, ⟨by rw [up_same]; rfl, fun i y hi => by cases hi⟩, Nat.le_refl _⟩
  have ep1 : fld (adS (asB V P x.1 s) 0) 0 n [] = p1S V P x.1 s := by
    unfold p1S
    rw [fld_ext30 hn (fun t S ht => by unfold adS; rw [as0 t ht]; rfl)]
  rw [ep1] at a2
  -- 2
  have depth : ∀ (d : Nat) (k2 : HH → Int32 → Option HH) (z : HH) (S : CL), d ≤ 30 → frS h z → psM z S → (∀ i, i ≤ 30 → (fld (dpStep V P x.1 s d) 0 i S).length ≤ 100) → ∃ z', fX8_tellPlan_b46 RM 1 (nI s) k2 lpF z (nI d) 0 = k2 z' (nI (d + 1)) ∧ frS h z' ∧ psM z' (dpAll V P x.1 s d S) := by
    intro d k2 z S hd I1 I2 I3
    obtain ⟨zd, ⟨j1, j2, j3⟩, Ed⟩ := loop_rel (L := fun k z y => fX8_tellPlan_b46 RM 1 (nI s) k2 k z (nI d) y) (e := x.2.1) (f := dpStep V P x.1 s d) (R := fun i z T => frS h z ∧ psM z T ∧ T = fld (dpStep V P x.1 s d) 0 i S) (g := fun z => k2 z (nI (d + 1))) (fun k i z T hi hR => by
      obtain ⟨J1, J2, J4⟩ := hR
      have i30 : i < 30 := by have := ok.2.1; omega
      have tot30 := ok.2.1
      have cz := ctxM_S J1 c
      have mz := mgM_S J1 m
      have hT : T.length ≤ 100 := by rw [J4]; exact I3 i (by omega)
      have e7 : dpStep V P x.1 s d i T = fld (dpStep V P x.1 s d) 0 (i + 1) S := by rw [fld_app, J4]
      obtain ⟨za, q1, q2, q3⟩ := step_m J2 (show T.length < 120 by omega) 1 i
      obtain ⟨zb, r1, r2, r3⟩ := step_m J2 (show T.length < 120 by omega) 2 i
      have head : fX8_tellPlan_b46 RM 1 (nI s) k2 (k + 1) z (nI d) (nI i) = if (isIn x.1 i && decide (dpG x.1 i = d)) = true then (if isIn (V s) i = true then (if asB V P x.1 s i = true then fX8_tellPlan_b46 RM 1 (nI s) k2 k zb (nI d) (nI (i + 1)) else fX8_tellPlan_b46 RM 1 (nI s) k2 k z (nI d) (nI (i + 1))) else fX8_tellPlan_b46 RM 1 (nI s) k2 k za (nI d) (nI (i + 1))) else fX8_tellPlan_b46 RM 1 (nI s) k2 k z (nI d) (nI (i + 1)) := by
        rw [fX8_tellPlan_b46, mz.2.2.2.1, if_neg (nI_ge hi (by omega)), M_30, ln_35, gd_in i30 n30, ix_n (show i < 2 ^ 31 by omega), mgM_if mz i30]
        simp only [fX8_tellPlan_b108, n_p1]
        cases hin : isIn x.1 i with
        | false => rfl
        | true =>
          have hdp : dpG x.1 i ≤ 29 := dpS_le
          have hc : (nI (dpG x.1 i) = nI d) ↔ dpG x.1 i = d := ⟨fun z => nI_inj (by omega) (by omega) z, fun z => by rw [z]⟩
          rw [if_pos rfl, willDeep_m hn mz ok.2.2.2.2.1 ok.2.2.2.2.2.1 hin, Option.bind_some, isOn_m hn hw cz hs i30, Option.bind_some, isAside_m hn hw cz mz hs i30, Option.bind_some, q1, r1, Option.bind_some, Option.bind_some, b2i_ifn, b2i_if, nig i hin]
          simp only [hc, Bool.not_false, Bool.and_true, Bool.true_and, decide_eq_true_eq]
      show ∃ s', fX8_tellPlan_b46 RM 1 (nI s) k2 (k + 1) z (nI d) (nI i) = _ ∧ _
      rw [head, ← e7]
      unfold dpStep
      split
      · split
        · split
          · exact ⟨zb, rfl, frS_trans J1 r3, r2, rfl⟩
          · exact ⟨z, rfl, J1, J2, rfl⟩
        · exact ⟨za, rfl, frS_trans J1 q3, q2, rfl⟩
      · exact ⟨z, rfl, J1, J2, rfl⟩) (fun k z T hR => by
      show fX8_tellPlan_b46 RM 1 (nI s) k2 (k + 1) z (nI d) (nI x.2.1) = _
      rw [fX8_tellPlan_b46, (mgM_S hR.1 m).2.2.2.1, if_pos (nI_le (Nat.le_refl _) (by have := ok.2.1; omega)), n_p1]) lpF z S (by have := ok.2.1; rw [lpF_eq]; omega) ⟨I1, I2, rfl⟩
    have Ed : fX8_tellPlan_b46 RM 1 (nI s) k2 lpF z (nI d) (nI 0) = k2 zd (nI (d + 1)) := Ed
    rw [← l0] at Ed
    refine ⟨zd, Ed, j1, ?_⟩
    unfold dpAll
    rw [fld_ext30 ok.2.1 (fun t S ht => by
      unfold dpStep
      have : isIn x.1 t = false := by
        cases e : isIn x.1 t with
        | false => rfl
        | true => have := tin t e; omega
      rw [this]
      rfl)]
    exact j2
  obtain ⟨z2, ⟨b1, b2, b3⟩, E2⟩ := loop_rel (L := fX8_tellPlan_b38 RM 1 (nI s)) (e := 31) (f := dpAll V P x.1 s) (R := fun d z S => frS h z ∧ psM z S ∧ S = fld (dpAll V P x.1 s) 0 d (p1S V P x.1 s)) (g := fun z => fX8_tellPlan_b122 RM 1 (nI s) lpF z 0) (fun k d z S hd hR => by
    obtain ⟨I1, I2, I4⟩ := hR
    obtain ⟨zd, q1, q2, q3⟩ := depth d (fun h_ z2_ => fX8_tellPlan_b38 RM 1 (nI s) k h_ z2_) z S (by omega) I1 I2 (fun i hi => by
      have := dpAll_60 (V := V) (P := P) (G := x.1) (s := s) d i hi
      rw [I4]; omega)
    refine ⟨zd, ?_, q2, q3, by rw [fld_app, I4]⟩
    have l30' : ¬ (30 : Int32) < nI d := fun z => by
      have := (n_lt l30 n30 d (by omega)).mp z
      omega
    rw [fX8_tellPlan_b38, if_neg l30', q1]) (fun k z S hR => by
    rw [fX8_tellPlan_b38, if_pos ((n_lt l30 n30 31 (by omega)).mpr (by omega))]) lpF z1 (p1S V P x.1 s) (by rw [lpF_eq]; omega) ⟨a1, a2, rfl⟩
  have ep2 : fld (dpAll V P x.1 s) 0 31 (p1S V P x.1 s) = p2S V P x.1 s := p2_31
  rw [ep2] at b2
  -- 3
  obtain ⟨z3, ⟨d1, d2, d3⟩, E3⟩ := loop_rel (L := fX8_tellPlan_b122 RM 1 (nI s)) (e := n) (f := adS (wrC V x.1 s) 3) (R := fun i z S => frS h z ∧ psM z S ∧ S.length ≤ 60 + i) (g := fun z => fX8_tellPlan_b184 RM 1 (nI s) lpF z (nI n - 1)) (fun k i z S hi hR => by
    obtain ⟨I1, I2, I3⟩ := hR
    have i30 : i < 30 := by omega
    have cz := ctxM_S I1 c
    have mz := mgM_S I1 m
    have v1 := cz.2.1 s (by omega)
    obtain ⟨za, q1, q2, q3⟩ := step_m I2 (show S.length < 120 by omega) 3 i
    have hlen := adS_len (B := wrC V x.1 s) (k := 3) (t := i) (S := S)
    have head : fX8_tellPlan_b122 RM 1 (nI s) (k + 1) z (nI i) = if wrC V x.1 s i = true then fX8_tellPlan_b122 RM 1 (nI s) k za (nI (i + 1)) else fX8_tellPlan_b122 RM 1 (nI s) k z (nI (i + 1)) := by
      rw [fX8_tellPlan_b122, cz.1, if_neg (nI_ge hi (by omega)), M_30, ln_35, gd_in i30 n30, ix_n (show i < 2 ^ 31 by omega), mgM_if mz i30, isOn_m hn hw cz hs i30, Option.bind_some, b2i_if, q1, Option.bind_some]
      simp only [fX8_tellPlan_b171, n_p1]
      unfold wrC
      cases hin : isIn x.1 i with
      | false => rfl
      | true =>
        rw [if_pos rfl, nig i hin]
        cases hV : isIn (V s) i with
        | false => rfl
        | true =>
          obtain ⟨p1, p2, p3⟩ := rowsM v1 hV
          have g3 := mz.2.2.1 i i30 trivial hin
          simp only [Bool.not_false, Bool.and_true, Bool.true_and, if_true]
          rw [M_6, ln_15, gd_in (show s < 3 by omega) (by decide), ix_n (show s < 2 ^ 31 by omega), R_15 s (by omega), L_15 s (by omega), gd_in i30 n30, M_34, ln_39, gd_in i30 n30, p3, g3]
          unfold ctE
          by_cases d1 : vC (V s) i = vC x.1 i <;> simp [d1]
    show ∃ s', fX8_tellPlan_b122 RM 1 (nI s) (k + 1) z (nI i) = _ ∧ _
    rw [head]
    unfold adS at hlen ⊢
    cases hw : wrC V x.1 s i with
    | true =>
      rw [hw, if_pos rfl] at hlen
      exact ⟨za, rfl, frS_trans I1 q3, q2, by show (S ++ [((3 : Int32), i)]).length ≤ _; omega⟩
    | false => exact ⟨z, rfl, I1, I2, by show S.length ≤ _; omega⟩) (fun k z S hR => by
    rw [fX8_tellPlan_b122, (ctxM_S hR.1 c).1, if_pos (nI_le (Nat.le_refl n) (by omega)), lt_eq]) lpF z2 (p2S V P x.1 s) (by rw [lpF_eq]; omega) ⟨b1, b2, by have := p2_60 (V := V) (P := P) (G := x.1) (s := s) 30; exact this⟩
  have ep3 : fld (adS (wrC V x.1 s) 3) 0 n (p2S V P x.1 s) = p3S V P x.1 s := by
    unfold p3S
    rw [fld_ext30 hn (fun t S ht => by unfold adS; rw [wr0 t ht]; rfl)]
  rw [ep3] at d2
  -- 4
  have down : ∀ (q k : Nat) (z : HH) (S : CL), q ≤ 30 → q < k → frS h z → psM z S → S.length + q ≤ 120 → ∃ z', fX8_tellPlan_b184 RM 1 (nI s) k z (nI q - 1) = some z' ∧ frS h z' ∧ psM z' (dnS (rmC V P x.1 s) 4 q S) := by
    intro q
    induction q with
    | zero =>
      intro k z S _ hk I1 I2 _
      obtain ⟨k, rfl⟩ : ∃ z, k = z + 1 := ⟨k - 1, by omega⟩
      refine ⟨z, ?_, I1, I2⟩
      rw [fX8_tellPlan_b184, if_pos (show nI 0 - 1 < 0 by decide)]
    | succ q ih =>
      intro k z S hq hk I1 I2 I4
      obtain ⟨k, rfl⟩ : ∃ z, k = z + 1 := ⟨k - 1, by omega⟩
      have q30 : q < 30 := by omega
      have cz := ctxM_S I1 c
      have mz := mgM_S I1 m
      obtain ⟨za, q1, q2, q3⟩ := step_m I2 (show S.length < 120 by omega) 4 q
      have hlen := adS_len (B := rmC V P x.1 s) (k := 4) (t := q) (S := S)
      have head : fX8_tellPlan_b184 RM 1 (nI s) (k + 1) z (nI (q + 1) - 1) = if rmC V P x.1 s q = true then fX8_tellPlan_b184 RM 1 (nI s) k za (nI q - 1) else fX8_tellPlan_b184 RM 1 (nI s) k z (nI q - 1) := by
        rw [fX8_tellPlan_b184, nI_pred, if_neg (n_lt0 q (by omega)), isAside_m hn hw cz mz hs q30, Option.bind_some, b2i_if, M_30, ln_35, gd_in q30 n30, ix_n (show q < 2 ^ 31 by omega), mz.1 q q30, b2i_ifn, q1, Option.bind_some]
        simp only [fX8_tellPlan_b212, n_m1]
        unfold rmC
        cases asB V P x.1 s q <;> cases isIn x.1 q <;> rfl
      rw [head]
      show ∃ z', _ = _ ∧ frS h z' ∧ psM z' (dnS (rmC V P x.1 s) 4 q (adS (rmC V P x.1 s) 4 q S))
      unfold adS at hlen ⊢
      cases hw : rmC V P x.1 s q with
      | true =>
        rw [hw, if_pos rfl] at hlen
        rw [if_pos rfl, if_pos rfl]
        exact ih k za _ (by omega) (by omega) (frS_trans I1 q3) q2 (by omega)
      | false =>
        rw [if_neg (by decide), if_neg (by decide)]
        exact ih k z S (by omega) (by omega) I1 I2 (by omega)
  obtain ⟨z4, e1, e2, e3⟩ := down n lpF z3 (p3S V P x.1 s) hn (by rw [lpF_eq]; omega) d1 d2 (by have := p3_90 (V := V) (P := P) (G := x.1) (s := s); omega)
  have ep4 : dnS (rmC V P x.1 s) 4 n (p3S V P x.1 s) = p4S V P x.1 s := by
    unfold p4S
    have := dnS_ext (B := rmC V P x.1 s) (k := 4) (n := n) rm0 (30 - n) (p3S V P x.1 s)
    rw [show n + (30 - n) = 30 by omega] at this
    exact this.symm
  rw [ep4] at e3
  refine ⟨z4, ?_, e2, e3⟩
  rw [← l0] at E1 E2 E3
  unfold fX8_tellPlan
  rw [lt_eq, E1, E2, E3, e1]
