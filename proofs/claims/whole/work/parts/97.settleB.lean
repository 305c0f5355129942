/-! places, contents, rings, names on the class -/
theorem KA_T2 : ∀ s, s < 3 → KA (2 + 6 + 5 * s) = 5 := by decide +kernel
theorem KA_T68 : ∀ s, s < 3 → KA (68 + 6 + 5 * s) = 5 := by decide +kernel
theorem KA_T {w s : Nat} (ww : w268 w) (hs : s < 3) : KA (w + 6 + 5 * s) = 5 := by
  rcases ww.1 with e | e
  · subst e; exact KA_T2 s hs
  · subst e; exact KA_T68 s hs
theorem n_oth {first : Nat} (hf : first < 2) : (1 : Int32) - nI first = nI (1 - first) := by
  have : first = 0 ∨ first = 1 := by omega
  rcases this with rfl | rfl <;> decide
theorem sdS_lt {V : Nat → TV} {B : Nat → Nat → Bool} {first t : Nat} (hf : first < 2) : sdS V B first t < 2 := by
  unfold sdS
  split
  · split <;> omega
  · omega
theorem decider_a {h : HH} {w n t first : Nat} {V : Nat → TV} {P : List PT} (ww : w268 w) (hf : first < 2) (c : ctxA h w n V P first) (ht : t < 30) (B : Nat → Nat → Bool) (k : Int32) (hB : ∀ s, chI V P s t &&& k = 0 ↔ B s t = false) : fX0_decider h RA 103 (nI t) k = some (w + 6 + 5 * sdS V B first t) := by
  obtain ⟨cx, ⟨c2, c3⟩, c4, c5⟩ := c
  obtain ⟨r1, hT⟩ := isW_T (s := first) ww.2 (by omega)
  obtain ⟨r2, hG⟩ := isW_T (s := 1 - first) ww.2 (by omega)
  have go : 1 - first < 2 := by omega
  unfold fX0_decider
  rw [cx.1, gwd_w ww.1, gwd_w ww.1, ww.2.2.1, ww.2.2.2.2.2.2.2.1, c4, n_oth hf, gd_in (show first < 3 by omega) (by decide), gd_in (show 1 - first < 3 by omega) (by decide), ix_n (show first < 2 ^ 31 by omega), ix_n (show 1 - first < 2 ^ 31 by omega), r1, r2, has_n hT ht, Option.bind_some, (cx.2 first (by omega)).1, b2i_ifn]
  unfold sdS
  cases hin : isIn (V first) t with
  | false => rfl
  | true =>
    rw [if_pos rfl, if_pos rfl, G_2, Gl_105, gd_in go (by decide), G_105 _ go, Gl_106 _ go, gd_in ht n30, ix_n (show t < 2 ^ 31 by omega), c3 _ go t ht]
    have b63 : ∀ s0 : Int32, fX0_decider_b63 h RA 103 (nI t) k s0 (w + 6 + 5 * first) (w + 6 + 5 * (1 - first)) = fX0_decider_b86 h RA 103 (nI t) k (b2i (B first t)) (w + 6 + 5 * first) (w + 6 + 5 * (1 - first)) s0 := by
      intro s0
      unfold fX0_decider_b63
      rw [c4, G_2, Gl_105, gd_in hf (by decide), ix_n (show first < 2 ^ 31 by omega), G_105 _ hf, Gl_106 _ hf, gd_in ht n30, ix_n (show t < 2 ^ 31 by omega), c3 _ hf t ht]
      cases e : B first t with
      | false => rw [if_pos ((hB first).mpr e)]; rfl
      | true => rw [if_neg (fun z => by rw [(hB first).mp z] at e; cases e)]; rfl
    rw [b63, b63]
    unfold fX0_decider_b86 fX0_decider_b103
    cases e : B (1 - first) t with
    | false => rw [if_pos ((hB (1 - first)).mpr e), if_pos rfl]; rfl
    | true =>
      rw [if_neg (fun z => by rw [(hB (1 - first)).mp z] at e; cases e), if_neg (by decide)]
      cases B first t <;> rfl
theorem bothDid_a {h : HH} {w n t first : Nat} {V : Nat → TV} {P : List PT} (c : ctxA h w n V P first) (ht : t < 30) (B : Nat → Nat → Bool) (k : Int32) (hB : (chI V P 0 t &&& chI V P 1 t) &&& k = 0 ↔ (B 0 t && B 1 t) = false) : fX0_bothDid h RA 103 (nI t) k = some (b2i (B 0 t && B 1 t)) := by
  obtain ⟨cx, ⟨c2, c3⟩, c4, c5⟩ := c
  have i00 : ix 0 = 0 := by decide
  have i11 : ix 1 = 1 := by decide
  have g0 := G_105 0 (by decide)
  have g1 := G_105 1 (by decide)
  have l6 := Gl_106 0 (by decide)
  have l7 := Gl_106 1 (by decide)
  have x0 : h (106 + 0) t = chI V P 0 t := c3 0 (by decide) t ht
  have x1 : h (106 + 1) t = chI V P 1 t := c3 1 (by decide) t ht
  unfold fX0_bothDid
  rw [G_2, Gl_105, gd_t (show inb 0 2 = true by decide), gd_t (show inb 1 2 = true by decide), i00, i11, g0, g1, l6, l7, gd_in ht n30, gd_in ht n30, ix_n (show t < 2 ^ 31 by omega), x0, x1]
  cases e : (B 0 t && B 1 t) with
  | false => rw [if_pos (hB.mpr e)]; rfl
  | true => rw [if_neg (fun z => by rw [hB.mp z] at e; cases e)]; rfl
theorem lr_T {w s : Nat} (ww : w268 w) (hs : s < 3) : RA (w + 6 + 5 * s) 1 = w + 6 + 5 * s + 2 ∧ RA (w + 6 + 5 * s) 2 = w + 6 + 5 * s + 3 ∧ RA (w + 6 + 5 * s) 3 = w + 6 + 5 * s + 4 ∧ lnA (w + 6 + 5 * s + 2) = 30 ∧ lnA (w + 6 + 5 * s + 3) = 30 ∧ lnA (w + 6 + 5 * s + 4) = 30 := by
  obtain ⟨-, r0, r1, r2, r3, n0, n1, n2, n3⟩ := isW_T (s := s) ww.2 hs
  exact ⟨r1, r2, r3, n1, n2, n3⟩
theorem G_g : RA 108 1 = 110 ∧ RA 108 2 = 111 ∧ RA 108 3 = 112 ∧ lnA 110 = 30 ∧ lnA 111 = 30 ∧ lnA 112 = 30 := by
  obtain ⟨r0, r1, r2, r3, n0, n1, n2, n3⟩ := isT_108
  exact ⟨r1, r2, r3, n1, n2, n3⟩
theorem up_cols {h : HH} {p t j : Nat} {G : Nat → Int32} (hr : h p t = G t) : h p j = if j = t then G t else h p j := by
  by_cases e : j = t
  · rw [if_pos e, e]; exact hr
  · rw [if_neg e]
theorem places_a {h : HH} {w n first : Nat} {V : Nat → TV} {P : List PT} (ww : w268 w) (hn : n ≤ 30) (hf : first < 2) (c : ctxA h w n V P first) (hm : mgA h (t1S V P n)) : ∃ h', fX0_decidePlaces h RA 103 = some h' ∧ ctxA h' w n V P first ∧ mgA h' (t2S V P n first) ∧ frD h h' := by
  have hl := w268_lt ww
  have hc1 : (t1S V P n).2.2.length ≤ n := (t1_inv n (Nat.le_refl n)).2.2
  have key := loop_rel (L := fX0_decidePlaces_b2 RA 103) (e := n) (f := sp2 V P first) (R := fun i z x => frD h z ∧ mgA z x ∧ x.2.2.length ≤ n + i) (g := fun z => some z) (fun k i z x hi hR => by
    obtain ⟨I1, I2, I3⟩ := hR
    have cz := ctxA_fr ww I1 c
    have i30 : i < 30 := by omega
    obtain ⟨G, tot, C⟩ := x
    have I3 : C.length ≤ n + i := I3
    have b104 : ∀ y : HH, fX0_decidePlaces_b104 RA 103 (fun h_ z1_ => fX0_decidePlaces_b2 RA 103 k h_ z1_) y (nI i) = fX0_decidePlaces_b2 RA 103 k y (nI (i + 1)) := fun y => by unfold fX0_decidePlaces_b104; rw [n_p1]
    rw [fX0_decidePlaces_b2, cz.1.1, gwd_w ww.1, cz.2.2.2, if_neg (nI_ge hi (by omega)), G_3, mgA_has I2 i30, Option.bind_some, b2i_ifn, b104]
    unfold sp2
    show ∃ s', (if isIn G i = true then _ else _) = _ ∧ _
    cases hin : isIn G i with
    | false => exact ⟨z, rfl, I1, I2, by show C.length ≤ n + (i + 1); omega⟩
    | true =>
    rw [if_pos rfl, if_pos rfl, decider_a ww hf cz i30 (mvI V P) 4 (fun s => ch_all.2.2.2.2.1), Option.bind_some]
    have hs := sdS_lt (V := V) (B := mvI V P) (t := i) hf
    obtain ⟨r1, r2, r3, n1, n2, n3⟩ := lr_T (s := sdS V (mvI V P) first i) ww (by omega)
    obtain ⟨u1, u2⟩ := cz.1.2 (sdS V (mvI V P) first i) (by omega)
    obtain ⟨-, v2, v3, v4⟩ := cl_rows u2 i30
    rw [u1] at v2 v3 v4
    obtain ⟨k1, k2, k3, k4, k5, k6⟩ := G_g
    have hk := KA_T (s := sdS V (mvI V P) first i) ww (by omega)
    rw [gd_t (decide_eq_true hk), r1, n1, gd_in i30 n30, k1, k4, gd_in i30 n30, lt_eq, ix_n (show i < 2 ^ 31 by omega), v2, r2, n2, gd_in i30 n30, k2, k5, gd_in i30 n30, lt_eq, up_ne (show w + 6 + 5 * sdS V (mvI V P) first i + 3 ≠ 110 by omega), v3]
    obtain ⟨w1, w2, w3⟩ := mgA_rows I2 i30
    obtain ⟨m1, m2⟩ := mgA_cols (h' := up (up z 110 i (vF (V (sdS V (mvI V P) first i)) i)) 111 i (vN (V (sdS V (mvI V P) first i)) i)) (a := plF V P first i) (b := plN V P first i) (c := vC G i) i30 I2 hin (fun q q1 q2 q3 => by rw [up_ne q2, up_ne q1]) (fun j => by rw [up_ne (by decide), up_at]; rfl) (fun j => by rw [up_at, up_ne (by decide)]; rfl) (fun j => by rw [up_ne (by decide), up_ne (by decide)]; exact up_cols (G := fun t => vC G t) w3)
    have cm := ctxA_fr ww (frD_trans I1 m2) c
    rw [bothDid_a cm i30 (mvI V P) 4 ch_two.1, Option.bind_some, b2i_if]
    unfold c1B
    cases hb : (mvI V P 0 i && mvI V P 1 i) with
    | false =>
      rw [if_neg (by decide), b104]
      exact ⟨_, rfl, frD_trans I1 m2, m1, by show C.length ≤ n + (i + 1); omega⟩
    | true =>
      obtain ⟨t0, hT0⟩ := isW_T (s := 0) ww.2 (by decide)
      obtain ⟨t1, hT1⟩ := isW_T (s := 1) ww.2 (by decide)
      have i00 : ix 0 = 0 := by decide
      have i11 : ix 1 = 1 := by decide
      obtain ⟨a1, a2⟩ := cm.1.2 0 (by decide)
      obtain ⟨b1, b2⟩ := cm.1.2 1 (by decide)
      rw [if_pos rfl, cm.1.1, gwd_w ww.1, gwd_w ww.1, ww.2.2.1, ww.2.2.2.2.2.2.2.1, gd_t (show inb 0 3 = true by decide), gd_t (show inb 1 3 = true by decide), i00, i11, t0, t1, placesAsIn_n hT0 hT1 i30 a2 b2, a1, b1, Option.bind_some, b2i_ifn, b104]
      cases he : plE (V 0) (V 1) i with
      | true =>
        rw [if_pos rfl]
        exact ⟨_, rfl, frD_trans I1 m2, m1, by show C.length ≤ n + (i + 1); omega⟩
      | false =>
        obtain ⟨zc, q1, q2, q3⟩ := mgA_clash m1 (show C.length < 150 by omega) 1 i
        rw [if_neg (by decide), q1, Option.bind_some, b104]
        exact ⟨zc, rfl, frD_trans I1 (frD_trans m2 q3), q2, by show (C ++ [((1 : Int32), i)]).length ≤ n + (i + 1); simp; omega⟩) (fun k z x hR => by
    obtain ⟨cx, -, -, c5⟩ := ctxA_fr ww hR.1 c
    rw [fX0_decidePlaces_b2, cx.1, gwd_w ww.1, c5, if_pos (nI_le (Nat.le_refl n) (by omega))]) lpF h (t1S V P n) (by rw [lpF_eq]; omega) ⟨frD_rfl, hm, hc1⟩
  obtain ⟨z, ⟨I1, I2, -⟩, E⟩ := key
  rw [← l0] at E
  exact ⟨z, E, ctxA_fr ww I1 c, I2, I1⟩
theorem addOther_a {h : HH} {w n t first : Nat} {V : Nat → TV} {P : List PT} (ww : w268 w) (hf : first < 2) (c : ctxA h w n V P first) (ht : t < 30) {G : TV} {tot : Nat} {C : CL} (hm : mgA h (G, tot, C)) : ∃ h', fX0_addOther h RA 103 (nI t) = some h' ∧ frD h h' ∧ mgA h' (if tot < 30 then (upV G tot (some (vF G t, vN G t, vC (V (1 - first)) t)), tot + 1, C) else (G, tot, C)) := by
  have hl := w268_lt ww
  have a3 : h 103 4 = nI tot := hm.2.2.1
  have a4 : tot ≤ 30 := hm.2.2.2.1
  unfold fX0_addOther
  rw [a3]
  by_cases e : tot < 30
  · rw [if_neg (fun z => by have := (le30 (by omega)).mp z; omega), if_pos e]
    obtain ⟨k1, k2, k3, k4, k5, k6⟩ := G_g
    obtain ⟨w1, w2, w3⟩ := mgA_rows hm ht
    obtain ⟨r1, r2, r3, n1, n2, n3⟩ := lr_T (s := 1 - first) ww (by omega)
    obtain ⟨u1, u2⟩ := c.1.2 (1 - first) (by omega)
    obtain ⟨-, v2, v3, v4⟩ := cl_rows u2 ht
    rw [u1] at v4
    obtain ⟨rr, hT⟩ := isW_T (s := 1 - first) ww.2 (by omega)
    obtain ⟨zp, p1, p2, p3⟩ := mgA_put hm e (vF G t) (vN G t) (vC (V (1 - first)) t)
    rw [G_3, k1, k4, gd_in ht n30, k2, k5, gd_in ht n30, c.1.1, gwd_w ww.1, ww.2.2.1, ww.2.2.2.2.2.2.2.1, c.2.2.1, n_oth hf, gd_in (show 1 - first < 3 by omega) (by decide), ix_n (show 1 - first < 2 ^ 31 by omega), rr, r3, n3, gd_in ht n30, ix_n (show t < 2 ^ 31 by omega), w1, w2, v4, p1, Option.bind_some, lt_eq, p2.2.2.1, n_p1]
    obtain ⟨q1, q2, q3, q4, q5⟩ := p2
    refine ⟨_, rfl, frD_trans p3 ⟨fun q hq => up_ne (by omega), fun j j4 _ => by rw [up_at, if_neg j4]⟩, ?_, ?_, up_same, e, clA_fr (by rw [up_at]; rfl) (up_ne (by decide)) (up_ne (by decide)) q5⟩
    · exact (avA_eq (up_ne (by decide)) (up_ne (by decide)) (up_ne (by decide)) (up_ne (by decide))).trans q1
    · exact clT_eq (up_ne (by decide)) (up_ne (by decide)) (up_ne (by decide)) (up_ne (by decide)) q2
  · rw [if_pos ((le30 (by omega)).mpr (by omega)), if_neg e]
    exact ⟨h, rfl, frD_rfl, hm⟩
theorem conts_a {h : HH} {w n first : Nat} {V : Nat → TV} {P : List PT} (ww : w268 w) (hn : n ≤ 30) (hf : first < 2) (c : ctxA h w n V P first) (hm : mgA h (t2S V P n first)) : ∃ h', fX0_decideContents h RA 103 = some h' ∧ ctxA h' w n V P first ∧ mgA h' (t3S V P n first) ∧ frD h h' := by
  have hl := w268_lt ww
  have hc1 : (t2S V P n first).2.2.length ≤ n + n := (t2_inv n (Nat.le_refl n)).2.2.2
  have key := loop_rel (L := fX0_decideContents_b2 RA 103) (e := n) (f := sp3 V P first) (R := fun i z x => frD h z ∧ mgA z x ∧ x.2.2.length ≤ n + n + i) (g := fun z => some z) (fun k i z x hi hR => by
    obtain ⟨I1, I2, I3⟩ := hR
    have cz := ctxA_fr ww I1 c
    have i30 : i < 30 := by omega
    obtain ⟨G, tot, C⟩ := x
    have I3 : C.length ≤ n + n + i := I3
    have b94 : ∀ y : HH, fX0_decideContents_b94 RA 103 (fun h_ z1_ => fX0_decideContents_b2 RA 103 k h_ z1_) y (nI i) = fX0_decideContents_b2 RA 103 k y (nI (i + 1)) := fun y => by unfold fX0_decideContents_b94; rw [n_p1]
    rw [fX0_decideContents_b2, cz.1.1, gwd_w ww.1, cz.2.2.2, if_neg (nI_ge hi (by omega)), G_3, mgA_has I2 i30, Option.bind_some, b2i_ifn, b94]
    unfold sp3
    show ∃ s', (if isIn G i = true then _ else _) = _ ∧ _
    cases hin : isIn G i with
    | false => exact ⟨z, rfl, I1, I2, by show C.length ≤ n + n + (i + 1); omega⟩
    | true =>
    rw [if_pos rfl, if_pos rfl, decider_a ww hf cz i30 (wrI V P) 8 (fun s => ch_all.2.2.2.2.2), Option.bind_some]
    have hs := sdS_lt (V := V) (B := wrI V P) (t := i) hf
    obtain ⟨r1, r2, r3, n1, n2, n3⟩ := lr_T (s := sdS V (wrI V P) first i) ww (by omega)
    obtain ⟨u1, u2⟩ := cz.1.2 (sdS V (wrI V P) first i) (by omega)
    obtain ⟨-, v2, v3, v4⟩ := cl_rows u2 i30
    rw [u1] at v2 v3 v4
    obtain ⟨k1, k2, k3, k4, k5, k6⟩ := G_g
    have hk := KA_T (s := sdS V (wrI V P) first i) ww (by omega)
    rw [gd_t (decide_eq_true hk), r3, n3, gd_in i30 n30, k3, k6, gd_in i30 n30, lt_eq, ix_n (show i < 2 ^ 31 by omega), v4]
    obtain ⟨w1, w2, w3⟩ := mgA_rows I2 i30
    obtain ⟨m1, m2⟩ := mgA_cols (h' := up z 112 i (vC (V (sdS V (wrI V P) first i)) i)) (a := vF G i) (b := vN G i) (c := ctS V P first i) i30 I2 hin (fun q q1 q2 q3 => by rw [up_ne q3]) (fun j => by rw [up_ne (by decide)]; exact up_cols (G := fun t => vF G t) w1) (fun j => by rw [up_ne (by decide)]; exact up_cols (G := fun t => vN G t) w2) (fun j => by rw [up_at]; rfl)
    have cm := ctxA_fr ww (frD_trans I1 m2) c
    rw [bothDid_a cm i30 (wrI V P) 8 ch_two.2, Option.bind_some, b2i_if]
    unfold c2B
    cases hb : (wrI V P 0 i && wrI V P 1 i) with
    | false =>
      rw [if_neg (by decide), b94]
      exact ⟨_, rfl, frD_trans I1 m2, m1, by show C.length ≤ n + n + (i + 1); omega⟩
    | true =>
      obtain ⟨t0, hT0⟩ := isW_T (s := 0) ww.2 (by decide)
      obtain ⟨t1, hT1⟩ := isW_T (s := 1) ww.2 (by decide)
      have i00 : ix 0 = 0 := by decide
      have i11 : ix 1 = 1 := by decide
      obtain ⟨a1, a2⟩ := cm.1.2 0 (by decide)
      obtain ⟨b1, b2⟩ := cm.1.2 1 (by decide)
      rw [if_pos rfl, cm.1.1, gwd_w ww.1, gwd_w ww.1, ww.2.2.1, ww.2.2.2.2.2.2.2.1, gd_t (show inb 0 3 = true by decide), gd_t (show inb 1 3 = true by decide), i00, i11, t0, t1, holdsAsIn_n hT0 hT1 i30 a2 b2, a1, b1, Option.bind_some, b2i_ifn, b94]
      cases he : ctE (V 0) (V 1) i with
      | true =>
        rw [if_pos rfl]
        exact ⟨_, rfl, frD_trans I1 m2, m1, by show C.length ≤ n + n + (i + 1); omega⟩
      | false =>
        obtain ⟨zc, q1, q2, q3⟩ := mgA_clash m1 (show C.length < 150 by omega) 2 i
        have cc := ctxA_fr ww (frD_trans I1 (frD_trans m2 q3)) c
        obtain ⟨zo, o1, o2, o3⟩ := addOther_a ww hf cc i30 q2
        rw [if_neg (by decide), q1, Option.bind_some, o1, Option.bind_some, b94]
        have e1 : vF (upV G i (some (vF G i, vN G i, ctS V P first i))) i = vF G i := upV_rows.1
        have e2 : vN (upV G i (some (vF G i, vN G i, ctS V P first i))) i = vN G i := upV_rows.2.1
        rw [e1, e2] at o3
        refine ⟨zo, rfl, frD_trans I1 (frD_trans m2 (frD_trans q3 o2)), ?_, ?_⟩
        · by_cases et : tot < 30
          · rw [if_pos et] at o3
            show mgA zo (if tot < 30 then _ else _)
            rw [if_pos et]
            exact o3
          · rw [if_neg et] at o3
            show mgA zo (if tot < 30 then _ else _)
            rw [if_neg et]
            exact o3
        · show (if tot < 30 then _ else _ : T3).2.2.length ≤ n + n + (i + 1)
          split <;> simp <;> omega) (fun k z x hR => by
    obtain ⟨cx, -, -, c5⟩ := ctxA_fr ww hR.1 c
    rw [fX0_decideContents_b2, cx.1, gwd_w ww.1, c5, if_pos (nI_le (Nat.le_refl n) (by omega))]) lpF h (t2S V P n first) (by rw [lpF_eq]; omega) ⟨frD_rfl, hm, hc1⟩
  obtain ⟨z, ⟨I1, I2, -⟩, E⟩ := key
  rw [← l0] at E
  exact ⟨z, E, ctxA_fr ww I1 c, I2, I1⟩
