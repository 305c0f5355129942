/-! what changed -/
def plE (v u : TV) (t : Nat) : Bool := decide (vF v t = vF u t) && decide (vN v t = vN u t)
def ctE (v u : TV) (t : Nat) : Bool := decide (vC v t = vC u t)
theorem placesAsIn_n {h : HH} {T G t : Nat} (hT : isT T) (hG : isT G) (ht : t < 30) (hc : clT h T) (hd : clT h G) : fX5_placesAsIn h RA T G (nI t) = some (b2i (plE (avA h T) (avA h G) t)) := by
  obtain ⟨r0, r1, r2, r3, n0, n1, n2, n3⟩ := hT
  obtain ⟨g0, g1, g2, g3, m0, m1, m2, m3⟩ := hG
  obtain ⟨c1, c2, c3, c4⟩ := cl_rows hc ht
  obtain ⟨d1, d2, d3, d4⟩ := cl_rows hd ht
  unfold fX5_placesAsIn
  simp only [fX5_placesAsIn_b34, r1, r2, n1, n2, g1, g2, m1, m2, gd_in ht n30, ix_n (show t < 2 ^ 31 by omega), c2, c3, d2, d3]
  unfold plE
  by_cases e1 : vF (avA h T) t = vF (avA h G) t
  · by_cases e2 : vN (avA h T) t = vN (avA h G) t
    · simp [e1, e2, b2i]
    · simp [e1, e2, b2i]
  · simp [e1, b2i]
theorem holdsAsIn_n {h : HH} {T G t : Nat} (hT : isT T) (hG : isT G) (ht : t < 30) (hc : clT h T) (hd : clT h G) : fX5_holdsAsIn h RA T G (nI t) = some (b2i (ctE (avA h T) (avA h G) t)) := by
  obtain ⟨r0, r1, r2, r3, n0, n1, n2, n3⟩ := hT
  obtain ⟨g0, g1, g2, g3, m0, m1, m2, m3⟩ := hG
  obtain ⟨c1, c2, c3, c4⟩ := cl_rows hc ht
  obtain ⟨d1, d2, d3, d4⟩ := cl_rows hd ht
  unfold fX5_holdsAsIn
  simp only [r3, n3, g3, m3, gd_in ht n30, ix_n (show t < 2 ^ 31 by omega), c4, d4]
  unfold ctE
  by_cases e1 : vC (avA h T) t = vC (avA h G) t
  · simp [e1, b2i]
  · simp [e1, b2i]
def cmB (V : Nat → TV) (s t : Nat) : Bool := !(isIn (V 2) t) && isIn (V s) t
def gnB (V : Nat → TV) (s t : Nat) : Bool := isIn (V 2) t && !(isIn (V s) t)
def mvB (V : Nat → TV) (s t : Nat) : Bool := isIn (V 2) t && isIn (V s) t && !(plE (V s) (V 2) t)
def wrB (V : Nat → TV) (s t : Nat) : Bool := isIn (V 2) t && isIn (V s) t && !(ctE (V s) (V 2) t)
def chN (c g m w : Bool) : Int32 := if c = true then 1 else if g = true then 2 else (if m = true then 4 else 0) ||| (if w = true then 8 else 0)
noncomputable def cmI (V : Nat → TV) (P : List PT) (s t : Nat) : Bool := !(igA V P t) && cmB V s t
noncomputable def gnI (V : Nat → TV) (P : List PT) (s t : Nat) : Bool := !(igA V P t) && gnB V s t
noncomputable def mvI (V : Nat → TV) (P : List PT) (s t : Nat) : Bool := !(igA V P t) && mvB V s t
noncomputable def wrI (V : Nat → TV) (P : List PT) (s t : Nat) : Bool := !(igA V P t) && wrB V s t
noncomputable def chI (V : Nat → TV) (P : List PT) (s t : Nat) : Int32 := chN (cmI V P s t) (gnI V P s t) (mvI V P s t) (wrI V P s t)
theorem ch_ex {V : Nat → TV} {P : List PT} {s t : Nat} : (cmI V P s t = true → gnI V P s t = false ∧ mvI V P s t = false ∧ wrI V P s t = false) ∧ (gnI V P s t = true → mvI V P s t = false ∧ wrI V P s t = false) := by
  unfold cmI gnI mvI wrI cmB gnB mvB wrB
  cases igA V P t <;> cases isIn (V 2) t <;> cases isIn (V s) t <;> simp
theorem chN_all : ∀ c g m w : Bool, (c = true → g = false ∧ m = false ∧ w = false) → (g = true → m = false ∧ w = false) → ((chN c g m w = 1 ↔ c = true) ∧ (chN c g m w = 2 ↔ g = true) ∧ (chN c g m w &&& 12 = 0 ↔ (m || w) = false) ∧ (chN c g m w &&& 13 = 0 ↔ (c || (m || w)) = false) ∧ (chN c g m w &&& 4 = 0 ↔ m = false) ∧ (chN c g m w &&& 8 = 0 ↔ w = false)) := by decide
theorem chN_two : ∀ c g m w c' g' m' w' : Bool, (c = true → g = false ∧ m = false ∧ w = false) → (g = true → m = false ∧ w = false) → (c' = true → g' = false ∧ m' = false ∧ w' = false) → (g' = true → m' = false ∧ w' = false) → (((chN c g m w &&& chN c' g' m' w') &&& 4 = 0 ↔ (m && m') = false) ∧ ((chN c g m w &&& chN c' g' m' w') &&& 8 = 0 ↔ (w && w') = false)) := by decide
theorem ch_all {V : Nat → TV} {P : List PT} {s t : Nat} : (chI V P s t = 1 ↔ cmI V P s t = true) ∧ (chI V P s t = 2 ↔ gnI V P s t = true) ∧ (chI V P s t &&& 12 = 0 ↔ (mvI V P s t || wrI V P s t) = false) ∧ (chI V P s t &&& 13 = 0 ↔ (cmI V P s t || (mvI V P s t || wrI V P s t)) = false) ∧ (chI V P s t &&& 4 = 0 ↔ mvI V P s t = false) ∧ (chI V P s t &&& 8 = 0 ↔ wrI V P s t = false) := chN_all _ _ _ _ ch_ex.1 ch_ex.2
theorem ch_two {V : Nat → TV} {P : List PT} {s s' t : Nat} : ((chI V P s t &&& chI V P s' t) &&& 4 = 0 ↔ (mvI V P s t && mvI V P s' t) = false) ∧ ((chI V P s t &&& chI V P s' t) &&& 8 = 0 ↔ (wrI V P s t && wrI V P s' t) = false) := chN_two _ _ _ _ _ _ _ _ ch_ex.1 ch_ex.2 ch_ex.1 ch_ex.2
theorem ch_ig {V : Nat → TV} {P : List PT} {s t : Nat} (h : igA V P t = true) : chI V P s t = 0 := by
  unfold chI cmI gnI mvI wrI
  rw [h]
  simp only [Bool.not_true, Bool.false_and]
  decide
theorem ch_no {V : Nat → TV} {P : List PT} {s t : Nat} (h : igA V P t = false) : chI V P s t = chN (cmB V s t) (gnB V s t) (mvB V s t) (wrB V s t) := by
  unfold chI cmI gnI mvI wrI
  rw [h]
  simp only [Bool.not_false, Bool.true_and]
theorem changeOf_a {h : HH} {w s t : Nat} {V : Nat → TV} (ww : w268 w) (cx : cxA h w V) (ht : t < 30) (hs : s < 3) : fX0_changeOf h RA 103 (w + 6 + 5 * s) (nI t) = some (chN (cmB V s t) (gnB V s t) (mvB V s t) (wrB V s t)) := by
  obtain ⟨r1, hT⟩ := isW_T (s := s) ww.2 hs
  obtain ⟨r2, hG⟩ := isW_T (s := 2) ww.2 (by decide)
  obtain ⟨u1, u2⟩ := cx.2 s hs
  obtain ⟨x1, x2⟩ := cx.2 2 (by decide)
  have i2 : ix 2 = 2 := by decide
  unfold fX0_changeOf
  rw [cx.1, gwd_w ww.1, ww.2.2.1, ww.2.2.2.2.2.2.2.1, gd_t (show inb 2 3 = true by decide), i2, r2, has_n hG ht, Option.bind_some, has_n hT ht, x1, u1]
  simp only [fX0_changeOf_b56, placesAsIn_n hT hG ht u2 x2, holdsAsIn_n hT hG ht u2 x2, x1, u1, Option.bind_some, b2i_if, b2i_ifn]
  unfold cmB gnB mvB wrB
  cases isIn (V 2) t <;> cases isIn (V s) t <;> cases plE (V s) (V 2) t <;> cases ctE (V s) (V 2) t <;> rfl
/-- what the class's compare lays -/
def cmpA (h : HH) (V : Nat → TV) (P : List PT) : Prop := rwB h 104 (igA V P) ∧ ∀ s, s < 2 → ∀ u, u < 30 → h (106 + s) u = chI V P s u
def frC (w : Nat) (h h' : HH) : Prop := (∀ q, q ≠ w + 4 → q < 103 ∨ 115 ≤ q → h' q = h q)
theorem frC_rfl {w : Nat} {h : HH} : frC w h h := fun _ _ _ => rfl
theorem frC_trans {w : Nat} {h h' h'' : HH} (a : frC w h h') (b : frC w h' h'') : frC w h h'' := fun q e1 e2 => (b q e1 e2).trans (a q e1 e2)
theorem frC_w {w : Nat} {h h' : HH} {x : WS} (ww : w268 w) (a : frC w h h') (hw : wA h w x) : wA h' w x := by
  have hl := w268_lt ww
  exact wA_scr (fun q h1 h2 h4 _ => a q h4 (by omega)) hw
theorem frC_cx {w : Nat} {h h' : HH} {V : Nat → TV} (ww : w268 w) (a : frC w h h') (e0 : h' 103 0 = h 103 0) (cx : cxA h w V) : cxA h' w V := by
  have hl := w268_lt ww
  exact cxA_eq e0 (fun q h1 h2 => a q (by omega) (by omega)) cx
theorem isIgnored3_a {h : HH} {w s t n : Nat} {F : Nat → Bool} {V : Nat → TV} {P : List PT} {pr c0 c1 c2 : Int32} (ww : w268 w) (hw : wA h w (n, F, V, P, pr, c0, c1, c2)) (hs : s < 3) (hwf : ∀ s, s < 3 → wfT n F (V s)) (ht : t < 30) : ∃ h', fX6_isIgnoredThere h RA w (nI s) (nI t) = some (b2i (isIn (V s) t && ignT P (V s) t), h') ∧ (∀ q, q ≠ w + 4 → h' q = h q) ∧ wA h' w (n, F, V, P, pr, c0, c1, c2) := by
  obtain ⟨h', e1, e2⟩ := isIgnoredThere_a ww.2 hw hs (hwf s hs) ht
  exact ⟨h', e1, e2, wA_path e2 hw⟩
theorem compare_a {h : HH} {w n : Nat} {F : Nat → Bool} {V : Nat → TV} {P : List PT} {pr c0 c1 c2 : Int32} (ww : w268 w) (hw : wA h w (n, F, V, P, pr, c0, c1, c2)) (hwf : ∀ s, s < 3 → wfT n F (V s)) : ∃ h', fX0_compare h RA 103 w = some h' ∧ frC w h h' ∧ h' 103 0 = nI w ∧ cmpA h' V P := by
  have hl := w268_lt ww
  have hn : n ≤ 30 := hw.1
  have tr : ∀ z : HH, wA z w (n, F, V, P, pr, c0, c1, c2) → ∀ s, s < 3 → avA z (w + 6 + 5 * s) = V s ∧ clT z (w + 6 + 5 * s) := fun z hz => hz.2.2.2.2.1
  have h0w : wA (up h 103 0 (nI w)) w (n, F, V, P, pr, c0, c1, c2) := wA_eq (fun q _ _ => up_ne (by omega)) hw
  have i0 : ∀ s, s < 3 → ix (nI s) = s := fun s hs => ix_n (by omega)
  -- the first loop
  have key1 := loop_inv (L := fX0_compare_b7 RA 103 w) (e := 30) (I := fun i z => (∀ q, q ≠ w + 4 → q ≠ 104 → z q = up h 103 0 (nI w) q) ∧ (∀ u, u < i → z 104 u = b2i (ig0 V P u)) ∧ wA z w (n, F, V, P, pr, c0, c1, c2)) (g := fun z => (fX0_ignoreWithin z RA 103).bind (fun h67 => fX0_compare_b72 RA 103 w lpF h67 0)) (fun k i z hi hI => by
    obtain ⟨I1, I2, I3⟩ := hI
    have e0 : z 103 0 = nI w := by rw [I1 103 (by omega) (by decide), up_same]
    obtain ⟨z1, a1, a2, a3⟩ := isIgnored3_a (s := 0) (t := i) ww I3 (by decide) hwf hi
    have e1 : z1 103 0 = nI w := by rw [a2 103 (by omega)]; exact e0
    obtain ⟨z2, b1, b2, b3⟩ := isIgnored3_a (s := 1) (t := i) ww a3 (by decide) hwf hi
    have e2 : z2 103 0 = nI w := by rw [b2 103 (by omega)]; exact e1
    obtain ⟨z3, d1, d2, d3⟩ := isIgnored3_a (s := 2) (t := i) ww b3 (by decide) hwf hi
    have n0 : (0 : Int32) = nI 0 := l0
    have a1 : fX6_isIgnoredThere z RA w 0 (nI i) = some (b2i (isIn (V 0) i && ignT P (V 0) i), z1) := a1
    have b1 : fX6_isIgnoredThere z1 RA w 1 (nI i) = some (b2i (isIn (V 1) i && ignT P (V 1) i), z2) := b1
    have d1 : fX6_isIgnoredThere z2 RA w 2 (nI i) = some (b2i (isIn (V 2) i && ignT P (V 2) i), z3) := d1
    have fin : ∀ (y : HH) (b : Bool), (∀ q, q ≠ w + 4 → y q = z q) → wA y w (n, F, V, P, pr, c0, c1, c2) → b = ig0 V P i → ((∀ q, q ≠ w + 4 → q ≠ 104 → up y 104 i (b2i b) q = up h 103 0 (nI w) q) ∧ (∀ u, u < i + 1 → up y 104 i (b2i b) 104 u = b2i (ig0 V P u)) ∧ wA (up y 104 i (b2i b)) w (n, F, V, P, pr, c0, c1, c2)) := by
      intro y b y1 y2 hb
      refine ⟨fun q q1 q2 => by rw [up_ne q2, y1 q q1, I1 q q1 q2], fun u hu => ?_, wA_eq (fun q _ _ => up_ne (by omega)) y2⟩
      rw [up_at]
      by_cases e : u = i
      · rw [if_pos e, e, hb]
      · rw [if_neg e, y1 104 (by omega)]
        exact I2 u (by omega)
    have head : fX0_compare_b7 RA 103 w (k + 1) z (nI i) = if (isIn (V 0) i && ignT P (V 0) i) = true then fX0_compare_b7 RA 103 w k (up z1 104 i 1) (nI (i + 1)) else if (isIn (V 1) i && ignT P (V 1) i) = true then fX0_compare_b7 RA 103 w k (up z2 104 i 1) (nI (i + 1)) else if (isIn (V 2) i && ignT P (V 2) i) = true then fX0_compare_b7 RA 103 w k (up z3 104 i 1) (nI (i + 1)) else fX0_compare_b7 RA 103 w k (up z3 104 i 0) (nI (i + 1)) := by
      rw [fX0_compare_b7, if_neg (fun z => by have := (le30 (by omega)).mp z; omega), e0, gwd_w ww.1, a1, bi2_eq, e1, gwd_w ww.1, b1, bi2_eq, e2, gwd_w ww.1, d1, bi2_eq, b2i_ifn, b2i_ifn, b2i_if]
      simp only [fX0_compare_b54, fX0_compare_b59, G_1, Gl_104, gd_in hi n30, lt_eq, ix_n (show i < 2 ^ 31 by omega), n_p1, zn_1, zn_0]
    rw [head]
    unfold ig0 at fin
    cases x0 : (isIn (V 0) i && ignT P (V 0) i) with
    | true => exact ⟨_, rfl, fin z1 true a2 a3 (by rw [x0]; rfl)⟩
    | false =>
    cases x1 : (isIn (V 1) i && ignT P (V 1) i) with
    | true => exact ⟨_, rfl, fin z2 true (fun q hq => (b2 q hq).trans (a2 q hq)) b3 (by rw [x0, x1]; rfl)⟩
    | false =>
    cases x2 : (isIn (V 2) i && ignT P (V 2) i) with
    | true => exact ⟨_, rfl, fin z3 true (fun q hq => (d2 q hq).trans ((b2 q hq).trans (a2 q hq))) d3 (by rw [x0, x1, x2]; rfl)⟩
    | false => exact ⟨_, rfl, fin z3 false (fun q hq => (d2 q hq).trans ((b2 q hq).trans (a2 q hq))) d3 (by rw [x0, x1, x2]; rfl)⟩) (fun k z hI => by
    rw [fX0_compare_b7, if_pos ((le30 (by omega)).mpr (Nat.le_refl 30))])
  obtain ⟨z1, ⟨I1, I2, I3⟩, E1⟩ := key1 lpF 0 (up h 103 0 (nI w)) (by omega) (by rw [lpF_eq]; omega) ⟨fun _ _ _ => rfl, fun u hu => by omega, h0w⟩
  have e0 : z1 103 0 = nI w := by rw [I1 103 (by omega) (by decide), up_same]
  obtain ⟨z2, w1, w2, w3⟩ := within_a (P := P) ww hn hwf ⟨e0, tr z1 I3⟩ I2
  have z2w : wA z2 w (n, F, V, P, pr, c0, c1, c2) := wA_eq (fun q _ _ => w2 q (by omega)) I3
  have e2 : z2 103 0 = nI w := by rw [w2 103 (by decide)]; exact e0
  -- the second
  have key2 := loop_inv (L := fX0_compare_b72 RA 103 w) (e := 30) (I := fun i z => (∀ q, q ≠ 106 → q ≠ 107 → z q = z2 q) ∧ (∀ s, s < 2 → ∀ u, u < i → z (106 + s) u = chI V P s u)) (g := fun z => some z) (fun k i z hi hI => by
    obtain ⟨J1, J2⟩ := hI
    have cx : ∀ y : HH, (∀ q, q ≠ 106 → q ≠ 107 → y q = z2 q) → cxA y w V := fun y hy => cxA_eq (by rw [hy 103 (by decide) (by decide)]) (fun q _ _ => hy q (by omega) (by omega)) ⟨e2, tr z2 z2w⟩
    have igr : ∀ y : HH, (∀ q, q ≠ 106 → q ≠ 107 → y q = z2 q) → y 104 i = b2i (igA V P i) := fun y hy => by rw [hy 104 (by decide) (by decide)]; exact w3 i hi
    have i00 : ix 0 = 0 := by decide
    have i11 : ix 1 = 1 := by decide
    have g0 := G_105 0 (by decide)
    have g1 := G_105 1 (by decide)
    have t0 := (isW_T (s := 0) ww.2 (by decide)).1
    have t1 := (isW_T (s := 1) ww.2 (by decide)).1
    have l6 := Gl_106 0 (by decide)
    have l7 := Gl_106 1 (by decide)
    have hy1 : ∀ a, ∀ q, q ≠ 106 → q ≠ 107 → up z 106 i a q = z2 q := fun a q q1 q2 => by rw [up_ne q1]; exact J1 q q1 q2
    have head : fX0_compare_b72 RA 103 w (k + 1) z (nI i) = fX0_compare_b72 RA 103 w k (up (up z 106 i (chI V P 0 i)) 107 i (chI V P 1 i)) (nI (i + 1)) := by
      rw [fX0_compare_b72, if_neg (fun z => by have := (le30 (by omega)).mp z; omega), G_2, Gl_105, gd_t (show inb 0 2 = true by decide), G_1, Gl_104, gd_in hi n30, ix_n (show i < 2 ^ 31 by omega), igr z J1, b2i_if, i00, g0]
      have second : ∀ a, fX0_compare_b112 RA 103 w (fun h_ z2_ => fX0_compare_b72 RA 103 w k h_ z2_) z (106 + 0) (nI i) a (nI i) = fX0_compare_b72 RA 103 w k (up (up z 106 i a) 107 i (chI V P 1 i)) (nI (i + 1)) := by
        intro a
        unfold fX0_compare_b112
        rw [l6, gd_in hi n30, lt_eq, ix_n (show i < 2 ^ 31 by omega), G_2, Gl_105, gd_t (show inb 1 2 = true by decide), G_1, Gl_104, gd_in hi n30, igr _ (hy1 a), b2i_if, i11, g1]
        have third : ∀ b, fX0_compare_b147 RA 103 w (fun h_ z2_ => fX0_compare_b72 RA 103 w k h_ z2_) (up z 106 i a) (106 + 1) (nI i) b (nI i) = fX0_compare_b72 RA 103 w k (up (up z 106 i a) 107 i b) (nI (i + 1)) := by
          intro b
          unfold fX0_compare_b147
          rw [l7, gd_in hi n30, lt_eq, ix_n (show i < 2 ^ 31 by omega), n_p1]
        cases eg : igA V P i with
        | true => rw [if_pos rfl, third, ch_ig (s := 1) eg]
        | false =>
          rw [if_neg (by decide)]
          have c9 := cx _ (hy1 a)
          rw [c9.1, gwd_w ww.1, ww.2.2.1, ww.2.2.2.2.2.2.2.1, gd_t (show inb 1 3 = true by decide), t1, changeOf_a ww c9 hi (by decide), Option.bind_some, third, ch_no (s := 1) eg]
      cases eg : igA V P i with
      | true => rw [if_pos rfl, second, ch_ig (s := 0) eg]
      | false =>
        rw [if_neg (by decide)]
        have c9 := cx _ J1
        rw [c9.1, gwd_w ww.1, ww.2.2.1, ww.2.2.2.2.2.2.2.1, gd_t (show inb 0 3 = true by decide), t0, changeOf_a ww c9 hi (by decide), Option.bind_some, second, ch_no (s := 0) eg]
    refine ⟨_, head, fun q q1 q2 => by rw [up_ne q2, up_ne q1]; exact J1 q q1 q2, fun s hs u hu => ?_⟩
    have : s = 0 ∨ s = 1 := by omega
    rcases this with rfl | rfl
    · rw [up_ne (by decide), up_at]
      by_cases e : u = i
      · rw [if_pos e, e]
      · rw [if_neg e]; exact J2 0 (by decide) u (by omega)
    · rw [up_at]
      by_cases e : u = i
      · rw [if_pos e, e]
      · rw [if_neg e, up_ne (by decide)]; exact J2 1 (by decide) u (by omega)) (fun k z hI => by
    rw [fX0_compare_b72, if_pos ((le30 (by omega)).mpr (Nat.le_refl 30))])
  obtain ⟨z3, ⟨J1, J2⟩, E2⟩ := key2 lpF 0 z2 (by omega) (by rw [lpF_eq]; omega) ⟨fun _ _ _ => rfl, fun s _ u hu => by omega⟩
  refine ⟨z3, ?_, fun q q1 q2 => ?_, by rw [J1 103 (by decide) (by decide)]; exact e2, fun u hu => by rw [J1 104 (by decide) (by decide)]; exact w3 u hu, J2⟩
  · unfold fX0_compare
    rw [lt_eq]
    have E1 : fX0_compare_b7 RA 103 w lpF (up h 103 0 (nI w)) (nI 0) = (fX0_ignoreWithin z1 RA 103).bind (fun h67 => fX0_compare_b72 RA 103 w lpF h67 0) := E1
    rw [w1, Option.bind_some] at E1
    rw [← l0] at E1
    have E2 : fX0_compare_b72 RA 103 w lpF z2 (nI 0) = some z3 := E2
    rw [← l0] at E2
    rw [E1, E2]
  · rw [J1 q (by omega) (by omega), w2 q (by omega), I1 q q1 (by omega), up_ne (by omega)]
