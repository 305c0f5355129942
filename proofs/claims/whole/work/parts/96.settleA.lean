/-! the class's settle, part by part -/
def frD (h h' : HH) : Prop := (∀ q, (q < 103 ∨ 115 ≤ q ∨ q = 104 ∨ q = 105 ∨ q = 106 ∨ q = 107) → h' q = h q) ∧ ∀ j, j ≠ 4 → j ≠ 8 → h' 103 j = h 103 j
theorem frD_rfl {h : HH} : frD h h := ⟨fun _ _ => rfl, fun _ _ _ => rfl⟩
theorem frD_trans {h h' h'' : HH} (a : frD h h') (b : frD h' h'') : frD h h'' := ⟨fun q e => (b.1 q e).trans (a.1 q e), fun j e1 e2 => (b.2 j e1 e2).trans (a.2 j e1 e2)⟩
theorem frD_up {h : HH} {p k : Nat} {x : Int32} (h1 : 108 ≤ p) (h2 : p < 115) : frD h (up h p k x) := ⟨fun q e => up_ne (by omega), fun j _ _ => by rw [up_ne (by omega)]⟩
theorem frD_T {h h' : HH} (a : frT 108 h h') : frD h h' := ⟨fun q e => a q (by omega) (by omega) (by omega) (by omega), fun j _ _ => by rw [a 103 (by decide) (by decide) (by decide) (by decide)]⟩
def ctxA (h : HH) (w n : Nat) (V : Nat → TV) (P : List PT) (first : Nat) : Prop := cxA h w V ∧ cmpA h V P ∧ h 103 5 = nI first ∧ h w 0 = nI n
theorem ctxA_fr {h h' : HH} {w n first : Nat} {V : Nat → TV} {P : List PT} (ww : w268 w) (a : frD h h') (c : ctxA h w n V P first) : ctxA h' w n V P first := by
  have hl := w268_lt ww
  obtain ⟨c1, ⟨c2, c3⟩, c4, c5⟩ := c
  exact ⟨cxA_eq (a.2 0 (by decide) (by decide)) (fun q _ _ => a.1 q (by omega)) c1, ⟨fun u hu => by rw [a.1 104 (by omega)]; exact c2 u hu, fun s hs u hu => by rw [a.1 (106 + s) (by omega)]; exact c3 s hs u hu⟩, by rw [a.2 5 (by decide) (by decide)]; exact c4, by rw [a.1 w (by omega)]; exact c5⟩
def clA (h : HH) (C : CL) : Prop := h 103 8 = nI C.length ∧ ∀ i y, C[i]? = some y → h 113 i = y.1 ∧ h 114 i = nI y.2
theorem clA_fr {h h' : HH} {C : CL} (e8 : h' 103 8 = h 103 8) (e1 : h' 113 = h 113) (e2 : h' 114 = h 114) (a : clA h C) : clA h' C := ⟨e8.trans a.1, fun i y hi => by rw [e1, e2]; exact a.2 i y hi⟩
theorem get_app {C : CL} {y z : Int32 × Nat} {i : Nat} (h : (C ++ [y])[i]? = some z) : (i = C.length ∧ z = y) ∨ C[i]? = some z := by
  rw [List.getElem?_append] at h
  split at h
  · exact Or.inr h
  · rename_i hl
    have hi := (List.getElem?_eq_some_iff.mp h).1
    simp at hi
    have e : i = C.length := by omega
    subst e
    simp at h
    exact Or.inl ⟨rfl, h.symm⟩
theorem addClash_a {h : HH} {C : CL} (hC : clA h C) (hl : C.length < 150) (k : Int32) (t : Nat) : ∃ h', fX0_addClash h RA 103 k (nI t) = some h' ∧ clA h' (C ++ [(k, t)]) ∧ frD h h' ∧ (∀ q, 108 ≤ q → q < 113 → h' q = h q) ∧ h' 103 4 = h 103 4 := by
  have l150 : ¬ (150 : Int32) ≤ nI C.length := fun z => by
    have := (n_le (show (150 : Int32) = nI 150 by decide) (by decide) C.length (by omega)).mp z
    omega
  have e1 : up h 113 C.length k 103 8 = nI C.length := by rw [up_ne (by decide)]; exact hC.1
  have e2 : up (up h 113 C.length k) 114 C.length (nI t) 103 8 = nI C.length := by rw [up_ne (by decide)]; exact e1
  refine ⟨up (up (up h 113 C.length k) 114 C.length (nI t)) 103 8 (nI (C.length + 1)), ?_, ⟨by rw [up_same]; simp, fun i y hi => ?_⟩, frD_trans (frD_up (by decide) (by decide)) (frD_trans (frD_up (by decide) (by decide)) ⟨fun q e => up_ne (by omega), fun j e4 e8 => by rw [up_at, if_neg e8]⟩), fun q q1 q2 => by rw [up_ne (by omega), up_ne (by omega), up_ne (by omega)], by rw [up_at, if_neg (by decide), up_ne (by decide), up_ne (by decide)]⟩
  · unfold fX0_addClash
    rw [hC.1, if_neg l150, G_6, Gl_113, gd_in hl (by decide), lt_eq, ix_n (show C.length < 2 ^ 31 by omega), e1, G_7, Gl_114, gd_in hl (by decide), lt_eq, ix_n (show C.length < 2 ^ 31 by omega), e2, lt_eq, n_p1]
  · rw [up_ne (show 113 ≠ 103 by decide), up_ne (show 113 ≠ 114 by decide), up_at, up_ne (show 114 ≠ 103 by decide), up_at]
    rcases get_app hi with ⟨ei, ey⟩ | hi2
    · rw [if_pos ei, if_pos ei, ey]
      exact ⟨rfl, rfl⟩
    · have := (List.getElem?_eq_some_iff.mp hi2).1
      rw [if_neg (by omega), if_neg (by omega), up_ne (show 114 ≠ 113 by decide)]
      exact hC.2 i y hi2
theorem isKeptOn_a {h : HH} {w n s t first : Nat} {V : Nat → TV} {P : List PT} (ww : w268 w) (hn : n ≤ 30) (c : ctxA h w n V P first) (hs : s < 2) (ht : t < 30) : fX0_isKeptOn h RA 103 (nI s) (nI t) = some (b2i (kpB V P n s t)) := by
  obtain ⟨cx, ⟨c2, c3⟩, c4, c5⟩ := c
  obtain ⟨r1, hT⟩ := isW_T (s := s) ww.2 (by omega)
  obtain ⟨u1, u2⟩ := cx.2 s (by omega)
  have key := loop_find (L := fun k y => fX0_isKeptOn_b29 h RA 103 (nI s) (nI t) k (w + 6 + 5 * s) y) (P := stB V P s t) (e := n) (g := fun x => some (b2i x.isSome)) (fun k i hi => by
    show fX0_isKeptOn_b29 h RA 103 (nI s) (nI t) (k + 1) (w + 6 + 5 * s) (nI i) = _
    have tail : fX0_isKeptOn_b66 h RA 103 (nI s) (nI t) (fun z3_ z4_ => fX0_isKeptOn_b29 h RA 103 (nI s) (nI t) k z3_ z4_) (w + 6 + 5 * s) (nI i) = if inS (V s) i (nI t) = true then some 1 else fX0_isKeptOn_b29 h RA 103 (nI s) (nI t) k (w + 6 + 5 * s) (nI (i + 1)) := by
      unfold fX0_isKeptOn_b66 fX0_isKeptOn_b71
      rw [if_neg (by decide), isInner_n hT (by omega), Option.bind_some, u1, b2i_if]
      simp only [fX0_isKeptOn_b90, n_p1]
    rw [fX0_isKeptOn_b29, cx.1, gwd_w ww.1, c5, if_neg (nI_ge hi (by omega)), G_1, Gl_104, gd_in (show i < 30 by omega) n30, ix_n (show i < 2 ^ 31 by omega), c2 i (by omega), b2i_ifn, tail, G_2, Gl_105, gd_in hs (by decide), ix_n (show s < 2 ^ 31 by omega), G_105 s hs, Gl_106 s hs, gd_in (show i < 30 by omega) n30, c3 s hs i (by omega)]
    unfold stB
    have hz : fX0_isKeptOn_b71 h RA 103 (nI s) (nI t) (fun z3_ z4_ => fX0_isKeptOn_b29 h RA 103 (nI s) (nI t) k z3_ z4_) 0 (w + 6 + 5 * s) (nI i) = fX0_isKeptOn_b29 h RA 103 (nI s) (nI t) k (w + 6 + 5 * s) (nI (i + 1)) := by
      unfold fX0_isKeptOn_b71 fX0_isKeptOn_b90
      rw [if_pos rfl, n_p1]
    rw [hz]
    cases hig : igA V P i with
    | true =>
      rw [if_pos rfl]
      cases inS (V s) i (nI t) <;> rfl
    | false =>
      rw [if_neg (by decide)]
      cases hc : (cmI V P s i || (mvI V P s i || wrI V P s i)) with
      | false =>
        rw [if_pos (ch_all.2.2.2.1.mpr hc)]
        rfl
      | true =>
        rw [if_neg (fun z => by have := ch_all.2.2.2.1.mp z; rw [hc] at this; cases this)]
        cases inS (V s) i (nI t) <;> rfl) (fun k => by
    show fX0_isKeptOn_b29 h RA 103 (nI s) (nI t) (k + 1) (w + 6 + 5 * s) (nI n) = _
    rw [fX0_isKeptOn_b29, cx.1, gwd_w ww.1, c5, if_pos (nI_le (Nat.le_refl n) (by omega))]
    rfl) lpF 0 (by omega) (by rw [lpF_eq]; omega)
  have key : fX0_isKeptOn_b29 h RA 103 (nI s) (nI t) lpF (w + 6 + 5 * s) (nI 0) = some (b2i (anyN n (stB V P s t))) := key
  rw [← l0] at key
  unfold fX0_isKeptOn
  rw [G_2, Gl_105, gd_in hs (by decide), ix_n (show s < 2 ^ 31 by omega), G_105 s hs, Gl_106 s hs, gd_in ht n30, ix_n (show t < 2 ^ 31 by omega), c3 s hs t ht, cx.1, gwd_w ww.1, ww.2.2.1, ww.2.2.2.2.2.2.2.1, gd_in (show s < 3 by omega) (by decide), r1, key]
  unfold kpB
  cases hc : (mvI V P s t || wrI V P s t) with
  | false =>
    rw [if_pos (ch_all.2.2.1.mpr hc)]
    rfl
  | true =>
    rw [if_neg (fun z => by have := ch_all.2.2.1.mp z; rw [hc] at this; cases this)]
    rfl
/-- the merge's state on the class -/
def mgA (h : HH) (x : T3) : Prop := avA h 108 = x.1 ∧ clT h 108 ∧ h 103 4 = nI x.2.1 ∧ x.2.1 ≤ 30 ∧ clA h x.2.2
theorem mgA_clash {h : HH} {G : TV} {tot : Nat} {C : CL} (hm : mgA h (G, tot, C)) (hl : C.length < 150) (k : Int32) (t : Nat) : ∃ h', fX0_addClash h RA 103 k (nI t) = some h' ∧ mgA h' (G, tot, C ++ [(k, t)]) ∧ frD h h' := by
  obtain ⟨a1, a2, a3, a4, a5⟩ := hm
  obtain ⟨h', e1, e2, e3, e4, e5⟩ := addClash_a a5 hl k t
  exact ⟨h', e1, ⟨(avA_eq (e4 _ (by decide) (by decide)) (e4 _ (by decide) (by decide)) (e4 _ (by decide) (by decide)) (e4 _ (by decide) (by decide))).trans a1, clT_eq (e4 _ (by decide) (by decide)) (e4 _ (by decide) (by decide)) (e4 _ (by decide) (by decide)) (e4 _ (by decide) (by decide)) a2, e5.trans a3, a4, e2⟩, e3⟩
theorem mgA_put {h : HH} {G : TV} {tot : Nat} {C : CL} (hm : mgA h (G, tot, C)) {t : Nat} (ht : t < 30) (a b c : Int32) : ∃ h', fX5_put h RA 108 (nI t) a b c = some h' ∧ mgA h' (upV G t (some (a, b, c)), tot, C) ∧ frD h h' := by
  obtain ⟨a1, a2, a3, a4, a5⟩ := hm
  refine ⟨_, put_n isT_108 ht a b c, ⟨?_, clT_wr1 a2, ?_, a4, ?_⟩, frD_T frT_wr⟩
  · rw [avA_wr1 ht, a1]
  · rw [wr4_ne (by decide) (by decide) (by decide) (by decide)]; exact a3
  · exact clA_fr (by rw [wr4_ne (by decide) (by decide) (by decide) (by decide)]) (wr4_ne (by decide) (by decide) (by decide) (by decide)) (wr4_ne (by decide) (by decide) (by decide) (by decide)) a5
/-- new columns for one that's there -/
theorem avA_cols {h h' : HH} {T t : Nat} {G : TV} {a b c : Int32} (ht : t < 30) (hG : avA h T = G) (hin : isIn G t = true) (h1 : h' (T + 1) = h (T + 1)) (h2 : ∀ j, h' (T + 2) j = if j = t then a else h (T + 2) j) (h3 : ∀ j, h' (T + 3) j = if j = t then b else h (T + 3) j) (h4 : ∀ j, h' (T + 4) j = if j = t then c else h (T + 4) j) : avA h' T = upV G t (some (a, b, c)) := by
  subst hG
  funext j
  unfold avA upV
  rw [h1, h2, h3, h4]
  by_cases e : j = t
  · subst e
    have h0 : ¬ h (T + 1) j = 0 := by
      unfold isIn at hin
      rw [avA_in ht] at hin
      intro z
      rw [if_pos z] at hin
      cases hin
    simp [ht, h0]
  · simp [e]
theorem clT_cols {h h' : HH} {T t : Nat} {a b c : Int32} (hc : clT h T) (hin : isIn (avA h T) t = true) (h1 : h' (T + 1) = h (T + 1)) (h2 : ∀ j, h' (T + 2) j = if j = t then a else h (T + 2) j) (h3 : ∀ j, h' (T + 3) j = if j = t then b else h (T + 3) j) (h4 : ∀ j, h' (T + 4) j = if j = t then c else h (T + 4) j) : clT h' T := by
  intro j hj
  rw [h1, h2, h3, h4]
  by_cases e : j = t
  · subst e
    have h0 : ¬ h (T + 1) j = 0 := by
      unfold isIn at hin
      rw [avA_in hj] at hin
      intro z
      rw [if_pos z] at hin
      cases hin
    rcases hc j hj with z | z
    · exact absurd z.1 h0
    · exact Or.inr z
  · simp only [e, if_false]
    exact hc j hj
theorem mgA_cols {h h' : HH} {G : TV} {tot t : Nat} {C : CL} {a b c : Int32} (ht : t < 30) (hm : mgA h (G, tot, C)) (hin : isIn G t = true) (e : ∀ q, q ≠ 110 → q ≠ 111 → q ≠ 112 → h' q = h q) (h2 : ∀ j, h' 110 j = if j = t then a else h 110 j) (h3 : ∀ j, h' 111 j = if j = t then b else h 111 j) (h4 : ∀ j, h' 112 j = if j = t then c else h 112 j) : mgA h' (upV G t (some (a, b, c)), tot, C) ∧ frD h h' := by
  obtain ⟨a1, a2, a3, a4, a5⟩ := hm
  refine ⟨⟨avA_cols ht a1 hin (e _ (by decide) (by decide) (by decide)) h2 h3 h4, clT_cols a2 (by rw [a1]; exact hin) (e _ (by decide) (by decide) (by decide)) h2 h3 h4, by rw [e 103 (by decide) (by decide) (by decide)]; exact a3, a4, clA_fr (by rw [e 103 (by decide) (by decide) (by decide)]) (e _ (by decide) (by decide) (by decide)) (e _ (by decide) (by decide) (by decide)) a5⟩, fun q hq => e q (by omega) (by omega) (by omega), fun j _ _ => by rw [e 103 (by decide) (by decide) (by decide)]⟩
theorem mgA_rows {h : HH} {x : T3} {t : Nat} (hm : mgA h x) (ht : t < 30) : h 110 t = vF x.1 t ∧ h 111 t = vN x.1 t ∧ h 112 t = vC x.1 t := by
  have := cl_rows hm.2.1 ht
  rw [hm.1] at this
  exact ⟨this.2.1, this.2.2.1, this.2.2.2⟩
theorem mgA_has {h : HH} {x : T3} {t : Nat} (hm : mgA h x) (ht : t < 30) : fX5_has h RA 108 (nI t) = some (b2i (isIn x.1 t)) := by
  rw [has_n isT_108 ht, hm.1]
theorem who_a {h : HH} {w n first : Nat} {V : Nat → TV} {P : List PT} (ww : w268 w) (hn : n ≤ 30) (c : ctxA h w n V P first) (hm : mgA h (fun _ => none, n, [])) : ∃ h', fX0_decideWho h RA 103 = some h' ∧ ctxA h' w n V P first ∧ mgA h' (t1S V P n) ∧ frD h h' := by
  have hb := (t1_inv (V := V) (P := P) (n := n))
  have key := loop_rel (L := fX0_decideWho_b2 RA 103) (e := n) (f := sp1 V P n) (R := fun i z x => frD h z ∧ mgA z x ∧ x.2.2.length ≤ i) (g := fun z => some z) (fun k i z x hi hR => by
    obtain ⟨I1, I2, I3⟩ := hR
    have cz := ctxA_fr ww I1 c
    obtain ⟨cx, ⟨c2, c3⟩, c4, c5⟩ := cz
    have i30 : i < 30 := by omega
    have i00 : ix 0 = 0 := by decide
    have i11 : ix 1 = 1 := by decide
    have g0 := G_105 0 (by decide)
    have g1 := G_105 1 (by decide)
    obtain ⟨t0, hT0⟩ := isW_T (s := 0) ww.2 (by decide)
    obtain ⟨t1, hT1⟩ := isW_T (s := 1) ww.2 (by decide)
    have l6 := Gl_106 0 (by decide)
    have l7 := Gl_106 1 (by decide)
    have x0 : z (106 + 0) i = chI V P 0 i := c3 0 (by decide) i i30
    have x1 : z (106 + 1) i = chI V P 1 i := c3 1 (by decide) i i30
    obtain ⟨G, tot, C⟩ := x
    obtain ⟨zp, p1, p2, p3⟩ := mgA_put I2 i30 (-1) (-1) 0
    obtain ⟨zc, q1, q2, q3⟩ := mgA_clash I2 (show C.length < 150 by have : C.length ≤ i := I3; omega) 0 i
    obtain ⟨zq, r1, r2, r3⟩ := mgA_put q2 i30 (-1) (-1) 0
    have b131 : ∀ y : HH, fX0_decideWho_b131 RA 103 (fun h_ z1_ => fX0_decideWho_b2 RA 103 k h_ z1_) y (nI i) = fX0_decideWho_b2 RA 103 k y (nI (i + 1)) := fun y => by unfold fX0_decideWho_b131; rw [n_p1]
    have put1 : fX0_decideWho_b116 RA 103 (fun h_ z1_ => fX0_decideWho_b2 RA 103 k h_ z1_) z (nI i) 1 = fX0_decideWho_b2 RA 103 k zp (nI (i + 1)) := by
      unfold fX0_decideWho_b116
      rw [if_neg (by decide), G_3, p1, Option.bind_some, b131]
    have kept : ∀ s, s < 2 → fX0_decideWho_b101 RA 103 (fun h_ z1_ => fX0_decideWho_b2 RA 103 k h_ z1_) z 103 (nI s) (nI i) = if kpB V P n s i = true then fX0_decideWho_b2 RA 103 k zq (nI (i + 1)) else fX0_decideWho_b2 RA 103 k z (nI (i + 1)) := by
      intro s hs
      unfold fX0_decideWho_b101
      rw [isKeptOn_a ww hn ⟨cx, ⟨c2, c3⟩, c4, c5⟩ hs i30, Option.bind_some]
      cases kpB V P n s i with
      | false =>
        rw [if_pos (show b2i false = 0 from rfl)]
        unfold fX0_decideWho_b116
        rw [if_pos (show b2i false = 0 from rfl), b131]
        rfl
      | true =>
        rw [if_neg (show ¬ b2i true = 0 by decide), q1, Option.bind_some]
        unfold fX0_decideWho_b116
        rw [if_neg (show ¬ b2i true = 0 by decide), G_3, r1, Option.bind_some, b131]
        rfl
    have b83 : gnI V P 0 i = true ∨ gnI V P 1 i = true → fX0_decideWho_b83 RA 103 (fun h_ z1_ => fX0_decideWho_b2 RA 103 k h_ z1_) z (nI i) = if kpB V P n (gsd V P i) i = true then fX0_decideWho_b2 RA 103 k zq (nI (i + 1)) else fX0_decideWho_b2 RA 103 k z (nI (i + 1)) := by
      intro _
      unfold fX0_decideWho_b83
      rw [G_2, Gl_105, gd_t (show inb 0 2 = true by decide), i00, g0, l6, gd_in i30 n30, ix_n (show i < 2 ^ 31 by omega), x0]
      have k0 := kept 0 (by decide)
      have k1 := kept 1 (by decide)
      unfold gsd
      cases e : gnI V P 0 i with
      | true =>
        rw [if_neg (fun z => z (ch_all.2.1.mpr e))]
        exact k1
      | false =>
        rw [if_pos (fun z => by rw [ch_all.2.1.mp z] at e; cases e)]
        exact k0
    have b57 : fX0_decideWho_b57 RA 103 (fun h_ z1_ => fX0_decideWho_b2 RA 103 k h_ z1_) z (nI i) = if goB2 V P i = true then (if kpB V P n (gsd V P i) i = true then fX0_decideWho_b2 RA 103 k zq (nI (i + 1)) else fX0_decideWho_b2 RA 103 k z (nI (i + 1))) else fX0_decideWho_b2 RA 103 k zp (nI (i + 1)) := by
      unfold fX0_decideWho_b57
      rw [G_2, Gl_105, gd_t (show inb 0 2 = true by decide), gd_t (show inb 1 2 = true by decide), i00, i11, g0, g1, l6, l7, gd_in i30 n30, gd_in i30 n30, ix_n (show i < 2 ^ 31 by omega), x0, x1, put1]
      unfold goB2
      cases e0 : gnI V P 0 i with
      | true =>
        rw [if_pos (ch_all.2.1.mpr e0), b83 (Or.inl e0)]
        rfl
      | false =>
        rw [if_neg (fun z => by rw [ch_all.2.1.mp z] at e0; cases e0)]
        cases e1 : gnI V P 1 i with
        | true =>
          rw [if_neg (fun z => z (ch_all.2.1.mpr e1)), b83 (Or.inr e1)]
          rfl
        | false =>
          rw [if_pos (fun z => by rw [ch_all.2.1.mp z] at e1; cases e1)]
          rfl
    have head : fX0_decideWho_b2 RA 103 (k + 1) z (nI i) = if hereB V P i = true then (if goB2 V P i = true then (if kpB V P n (gsd V P i) i = true then fX0_decideWho_b2 RA 103 k zq (nI (i + 1)) else fX0_decideWho_b2 RA 103 k z (nI (i + 1))) else fX0_decideWho_b2 RA 103 k zp (nI (i + 1))) else fX0_decideWho_b2 RA 103 k z (nI (i + 1)) := by
      rw [fX0_decideWho_b2, cx.1, gwd_w ww.1, c5, if_neg (nI_ge hi (by omega)), G_1, Gl_104, gd_in i30 n30, ix_n (show i < 2 ^ 31 by omega), c2 i i30, b2i_ifn, b131, gwd_w ww.1, gwd_w ww.1, ww.2.2.1, ww.2.2.2.2.2.2.2.1, gd_t (show inb 0 3 = true by decide), gd_t (show inb 1 3 = true by decide), i00, i11, t0, t1, has_n hT0 i30, Option.bind_some, has_n hT1 i30, Option.bind_some, (cx.2 0 (by decide)).1, (cx.2 1 (by decide)).1, b2i_ifn, b2i_ifn, b57]
      unfold hereB
      cases igA V P i <;> cases isIn (V 0) i <;> cases isIn (V 1) i <;> rfl
    have hI3 : C.length ≤ i := I3
    rw [head]
    unfold sp1 tgB k0B
    cases hereB V P i with
    | false => exact ⟨z, rfl, I1, I2, by show C.length ≤ i + 1; omega⟩
    | true =>
      cases goB2 V P i with
      | false => exact ⟨zp, rfl, frD_trans I1 p3, p2, by show C.length ≤ i + 1; omega⟩
      | true =>
        cases kpB V P n (gsd V P i) i with
        | false => exact ⟨z, rfl, I1, I2, by show C.length ≤ i + 1; omega⟩
        | true => exact ⟨zq, rfl, frD_trans I1 (frD_trans q3 r3), r2, by show (C ++ [((0 : Int32), i)]).length ≤ i + 1; simp; omega⟩) (fun k z x hR => by
    obtain ⟨cx, -, -, c5⟩ := ctxA_fr ww hR.1 c
    rw [fX0_decideWho_b2, cx.1, gwd_w ww.1, c5, if_pos (nI_le (Nat.le_refl n) (by omega))]) lpF h (fun _ => none, n, []) (by rw [lpF_eq]; omega) ⟨frD_rfl, hm, Nat.le_refl _⟩
  obtain ⟨z, ⟨I1, I2, -⟩, E⟩ := key
  rw [← l0] at E
  exact ⟨z, E, ctxA_fr ww I1 c, I2, I1⟩
