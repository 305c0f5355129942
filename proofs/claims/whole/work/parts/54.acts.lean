/-! make, write, move, remove on a world of the class -/
theorem trs_eq {h h' : HH} {w : Nat} {V : Nat → TV} (e : ∀ q, w + 6 ≤ q → q < w + 21 → h' q = h q) (a : ∀ s, s < 3 → avA h (w + 6 + 5 * s) = V s ∧ clT h (w + 6 + 5 * s)) : ∀ s, s < 3 → avA h' (w + 6 + 5 * s) = V s ∧ clT h' (w + 6 + 5 * s) := by
  intro s hs
  obtain ⟨u1, u2⟩ := a s hs
  have t1 := e (w + 6 + 5 * s + 1) (by omega) (by omega)
  have t2 := e (w + 6 + 5 * s + 2) (by omega) (by omega)
  have t3 := e (w + 6 + 5 * s + 3) (by omega) (by omega)
  have t4 := e (w + 6 + 5 * s + 4) (by omega) (by omega)
  exact ⟨(avA_eq t1 t2 t3 t4).trans u1, clT_eq t1 t2 t3 t4 u2⟩
theorem pas_eq {h h' : HH} {w : Nat} {P : List PT} (e : ∀ q, w + 21 ≤ q → q < w + 33 → h' q = h q) (hl : P.length ≤ 6) (a : ∀ i y, P[i]? = some y → patA h (w + 21 + 2 * i) y) : ∀ i y, P[i]? = some y → patA h' (w + 21 + 2 * i) y := by
  intro i y hi
  obtain ⟨v1, v2, v3, v4⟩ := a i y hi
  have hl : i < P.length := (List.getElem?_eq_some_iff.mp hi).1
  have t1 := e (w + 21 + 2 * i) (by omega) (by omega)
  have t2 := e (w + 21 + 2 * i + 1) (by omega) (by omega)
  exact ⟨v1, by rw [t1]; exact v2, by rw [t1]; exact v3, fun j z hj => by rw [t2]; exact v4 j z hj⟩
/-- only numbers of the world itself -/
theorem wA_row {h h' : HH} {w n : Nat} {F : Nat → Bool} {V : Nat → TV} {P : List PT} {pr c0 c1 c2 : Int32} (e : ∀ q, w < q → q < w + 33 → h' q = h q) (e0 : h' w 0 = h w 0) (e4 : h' w 4 = h w 4) (hw : wA h w (n, F, V, P, pr, c0, c1, c2)) : wA h' w (n, F, V, P, h' w 5, h' w 6, h' w 7, h' w 8) := by
  obtain ⟨a1, a2, a3, a4, a5, a6, a7, a8, a9, b1, b2, b3, b4⟩ := hw
  have e1 := e (w + 1) (by omega) (by omega)
  exact ⟨a1, e0.trans a2, fun t ht => by rw [e1]; exact a3 t ht, fun t ht => by rw [e1]; exact a4 t ht, trs_eq (fun q h1 h2 => e q (by omega) (by omega)) a5, a6, e4.trans a7, pas_eq (fun q h1 h2 => e q (by omega) (by omega)) a6 a8, fun i hi => by rw [e (w + 21 + 2 * i) (by omega) (by omega)]; exact a9 i hi, rfl, rfl, rfl, rfl⟩
def rfH (h : HH) (w : Nat) (a b c : Int32) : HH := up (up (up h w 6 a) w 7 b) w 8 c
theorem rfH_ne {h : HH} {w q : Nat} {a b c : Int32} (e : q ≠ w) : rfH h w a b c q = h q := by
  unfold rfH
  rw [up_ne e, up_ne e, up_ne e]
theorem rfH_at {h : HH} {w j : Nat} {a b c : Int32} : rfH h w a b c w j = if j = 8 then c else if j = 7 then b else if j = 6 then a else h w j := by
  unfold rfH
  rw [up_at, up_at, up_at]
theorem frW_rf {h : HH} {w : Nat} {a b c : Int32} : frW w h (rfH h w a b c) := fun q e => rfH_ne (by omega)
def rfS (x : WS) (a b c : Int32) : WS := match x with
  | (n, F, V, P, pr, _, _, _) => (n, F, V, P, pr, a, b, c)
theorem wA_rf {h : HH} {w : Nat} {x : WS} {a b c : Int32} (hw : wA h w x) : wA (rfH h w a b c) w (rfS x a b c) := by
  obtain ⟨n, F, V, P, pr, c0, c1, c2⟩ := x
  have k := wA_row (h' := rfH h w a b c) (fun q h1 h2 => rfH_ne (by omega)) (by rw [rfH_at]; simp) (by rw [rfH_at]; simp) hw
  have e5 : rfH h w a b c w 5 = pr := by
    rw [rfH_at]
    exact hw.2.2.2.2.2.2.2.2.2.1
  have e6 : rfH h w a b c w 6 = a := by rw [rfH_at]; rfl
  have e7 : rfH h w a b c w 7 = b := by rw [rfH_at]; rfl
  have e8 : rfH h w a b c w 8 = c := by rw [rfH_at]; rfl
  rw [e5, e6, e7, e8] at k
  exact k
theorem refuse_a {h : HH} {w : Nat} {a b : Int32} : fX6_refuse h RA w a b = some (a, rfH h w a b 0) := rfl
theorem allow_a {h : HH} {w : Nat} {v : Int32} : fX6_allow h RA w v = some (v, rfH h w 0 (-1) 0) := rfl
def coB (c : Int32) : Bool := !(decide (c < -1)) && decide (c < 1000)
def upF (F : Nat → Bool) (t : Nat) (b : Bool) : Nat → Bool := fun j => if j = t then b else F j
def upT (V : Nat → TV) (s : Nat) (v : TV) : Nat → TV := fun j => if j = s then v else V j
def mkS (x : WS) (s f nm c : Int32) : Int32 × WS := match x with
  | (n, F, V, P, pr, c0, c1, c2) =>
    if (siB s && plB n f && naB nm && coB c) = true then
      if chB F (V (ix s)) f = true then
        if n < 30 then
          match fnd (fun t => isAtS (V (ix s)) t f nm) 0 30 with
          | some t => (-6, (n, F, V, P, pr, -6, nI t, 0))
          | none => (nI n, (n + 1, upF F n (decide (c = -1)), upT V (ix s) (upV (V (ix s)) n (some (f, nm, mx c 0))), P, pr, 0, -1, 0))
        else (-4, (n, F, V, P, pr, -4, -1, 0))
      else (-3, (n, F, V, P, pr, -3, f, 0))
    else (-2, (n, F, V, P, pr, -2, -1, 0))
theorem oI_ne {x : Nat} (h : x < 2 ^ 31) : ¬ oI (some x) = -1 := m1_ne x h
theorem fnd_lt {P : Nat → Bool} : ∀ {k i t : Nat}, fnd P i k = some t → i ≤ t ∧ t < i + k ∧ P t = true
  | 0, i, t, h => by cases h
  | k + 1, i, t, h => by
    unfold fnd at h
    split at h
    · have e := Option.some.inj h
      subst e
      exact ⟨Nat.le_refl _, by omega, by assumption⟩
    · have := fnd_lt h
      exact ⟨by omega, by omega, this.2.2⟩
theorem n_lt30 {n : Nat} (hn : n ≤ 30) : nI n < 30 ↔ n < 30 := by rw [l30]; exact nI_ltI (by omega) n30
theorem trs_wr {h h1 : HH} {w s t : Nat} {V : Nat → TV} (hs : s < 3) {b : Option (Int32 × Int32 × Int32)} (e : ∀ q, w + 6 ≤ q → q < w + 21 → q ≠ w + 6 + 5 * s + 1 → q ≠ w + 6 + 5 * s + 2 → q ≠ w + 6 + 5 * s + 3 → q ≠ w + 6 + 5 * s + 4 → h1 q = h q) (e1 : avA h1 (w + 6 + 5 * s) = upV (V s) t b) (e2 : clT h1 (w + 6 + 5 * s)) (a : ∀ s, s < 3 → avA h (w + 6 + 5 * s) = V s ∧ clT h (w + 6 + 5 * s)) : ∀ s', s' < 3 → avA h1 (w + 6 + 5 * s') = upT V s (upV (V s) t b) s' ∧ clT h1 (w + 6 + 5 * s') := by
  intro s' hs'
  unfold upT
  by_cases d : s' = s
  · subst d
    rw [if_pos rfl]
    exact ⟨e1, e2⟩
  · rw [if_neg d]
    obtain ⟨u1, u2⟩ := a s' hs'
    have t1 := e (w + 6 + 5 * s' + 1) (by omega) (by omega) (by omega) (by omega) (by omega) (by omega)
    have t2 := e (w + 6 + 5 * s' + 2) (by omega) (by omega) (by omega) (by omega) (by omega) (by omega)
    have t3 := e (w + 6 + 5 * s' + 3) (by omega) (by omega) (by omega) (by omega) (by omega) (by omega)
    have t4 := e (w + 6 + 5 * s' + 4) (by omega) (by omega) (by omega) (by omega) (by omega) (by omega)
    exact ⟨(avA_eq t1 t2 t3 t4).trans u1, clT_eq t1 t2 t3 t4 u2⟩
/-- a whole tree of a world is another one -/
theorem trs_tr {h h1 : HH} {w s : Nat} {V : Nat → TV} {v : TV} (hs : s < 3) (e : frT (w + 6 + 5 * s) h h1) (e1 : avA h1 (w + 6 + 5 * s) = v) (e2 : clT h1 (w + 6 + 5 * s)) (a : ∀ s, s < 3 → avA h (w + 6 + 5 * s) = V s ∧ clT h (w + 6 + 5 * s)) : ∀ s', s' < 3 → avA h1 (w + 6 + 5 * s') = upT V s v s' ∧ clT h1 (w + 6 + 5 * s') := by
  intro s' hs'
  unfold upT
  by_cases d : s' = s
  · subst d
    rw [if_pos rfl]
    exact ⟨e1, e2⟩
  · rw [if_neg d]
    obtain ⟨u1, u2⟩ := a s' hs'
    exact ⟨(frT_av e (by omega)).trans u1, frT_cl e (by omega) u2⟩
/-- one tree of a world is another one -/
theorem wA_tr {h h1 : HH} {w s : Nat} {n : Nat} {F : Nat → Bool} {V : Nat → TV} {P : List PT} {pr c0 c1 c2 : Int32} {v : TV} (hs : s < 3) (e : frT (w + 6 + 5 * s) h h1) (e1 : avA h1 (w + 6 + 5 * s) = v) (e2 : clT h1 (w + 6 + 5 * s)) (hw : wA h w (n, F, V, P, pr, c0, c1, c2)) : wA h1 w (n, F, upT V s v, P, pr, c0, c1, c2) := by
  obtain ⟨a1, a2, a3, a4, a5, a6, a7, a8, a9, b1, b2, b3, b4⟩ := hw
  have e0 := e w (by omega) (by omega) (by omega) (by omega)
  have f1 := e (w + 1) (by omega) (by omega) (by omega) (by omega)
  exact ⟨a1, by rw [e0]; exact a2, fun t ht => by rw [f1]; exact a3 t ht, fun t ht => by rw [f1]; exact a4 t ht, trs_tr hs e e1 e2 a5, a6, by rw [e0]; exact a7, pas_eq (fun q h1 h2 => e q (by omega) (by omega) (by omega) (by omega)) a6 a8, fun i hi => by rw [e (w + 21 + 2 * i) (by omega) (by omega) (by omega) (by omega)]; exact a9 i hi, by rw [e0]; exact b1, by rw [e0]; exact b2, by rw [e0]; exact b3, by rw [e0]; exact b4⟩
def allN (x : WS) : Prop := match x with
  | (n, _, V, _) => ∀ s, s < 3 → inN n (V s)
theorem zn_dec (p : Prop) [Decidable p] : zn (if p then 1 else 0) = b2i (decide p) := by
  by_cases h : p <;> simp [h, b2i, zn_0, zn_1]
theorem b2i_if {α : Type} (p : Bool) (a b : α) : (if b2i p = 0 then a else b) = if p = true then b else a := by cases p <;> rfl
theorem b2i_ifn {α : Type} (p : Bool) (a b : α) : (if ¬ b2i p = 0 then a else b) = if p = true then a else b := by cases p <;> rfl
theorem create_a {h : HH} {w : Nat} {x : WS} (iw : isW w) (hw : wA h w x) (hN : allN x) (s f nm c : Int32) : ∃ h', fX6_create h RA w s f nm c = some ((mkS x s f nm c).1, h') ∧ wA h' w (mkS x s f nm c).2 ∧ frW w h h' := by
  have hw0 := hw
  obtain ⟨n, F, V, P, pr, c0, c1, c2⟩ := x
  obtain ⟨a1, a2, a3, a4, a5, a6, a7, a8, a9, b1, b2, b3, b4⟩ := hw
  unfold fX6_create mkS
  simp only [isSide_a, isPlace_a a2, isName_a, Option.bind_some, b2i_if, b2i_ifn]
  have bd : ∀ a b c, wA (rfH h w a b c) w (n, F, V, P, pr, a, b, c) := fun a b c => wA_rf (x := (n, F, V, P, pr, c0, c1, c2)) hw0
  have bad : ∃ h', fX6_create_b36 RA w s f nm c h = some (-2, h') ∧ wA h' w (n, F, V, P, pr, -2, -1, 0) ∧ frW w h h' := ⟨_, rfl, bd _ _ _, frW_rf⟩
  cases hs : siB s with
  | false => simpa [hs] using bad
  | true =>
  cases hp : plB n f with
  | false => simpa [hs, hp] using bad
  | true =>
  cases hm : naB nm with
  | false => simpa [hs, hp, hm] using bad
  | true =>
  by_cases g1 : c < -1
  · have gc : coB c = false := by unfold coB; simp [g1]
    simpa [hs, hp, hm, gc, g1] using bad
  by_cases g2 : ¬ c < 1000
  · have gc : coB c = false := by unfold coB; simp [g2]
    simpa [hs, hp, hm, gc, g1, g2] using bad
  have g2 := Classical.not_not.mp g2
  have gc : coB c = true := by unfold coB; simp [g1, g2]
  obtain ⟨i, hi, rfl⟩ := siB_n hs
  obtain ⟨r1, hT⟩ := isW_T (s := i) iw (by omega)
  obtain ⟨u1, u2⟩ := a5 i (by omega)
  simp only [Bool.and_self, gc, if_true, g1, g2, if_false, iw.2.1, iw.2.2.2.2.2.2.1, ix_n (show i < 2 ^ 31 by omega), r1]
  rw [gd_in (show i < 3 by omega) (by decide), canHold_a iw (by omega) a4 (by rw [u1]; exact hN i (by omega)), Option.bind_some, b2i_ifn, u1]
  cases hc : chB F (V i) f with
  | false => exact ⟨_, rfl, bd _ _ _, frW_rf⟩
  | true =>
  simp only [if_true, a2, n_lt30 a1]
  by_cases hn : ¬ n < 30
  · rw [if_neg hn, if_neg hn]
    exact ⟨_, rfl, bd _ _ _, frW_rf⟩
  have hn := Classical.not_not.mp hn
  rw [if_pos hn, if_pos hn, standing_n hT, Option.bind_some, u1]
  cases hf : fnd (fun t => isAtS (V i) t f nm) 0 30 with
  | some t =>
    have ht := fnd_lt hf
    rw [if_neg (oI_ne (by omega))]
    exact ⟨_, rfl, bd _ _ _, frW_rf⟩
  | none =>
    rw [if_pos (show oI none = -1 from rfl)]
    simp only [lt_eq, fX6_create_b144, iw.1, iw.2.2.2.2.2.1, gd_in hn n30, ix_n (show n < 2 ^ 31 by omega), n_p1]
    have key : ∀ z : Int32, z = b2i (decide (c = -1)) → ∃ h', ((fX5_put (up (up h w 0 (nI (n + 1))) (w + 1) n (zn z)) RA (w + 6 + 5 * i) (nI n) f nm (mx c 0)).bind fun h157 => bi2 (fX6_allow h157 RA w (nI n)) fun v163 h163 => some (v163, h163)) = some (nI n, h') ∧ wA h' w (n + 1, upF F n (decide (c = -1)), upT V i (upV (V i) n (some (f, nm, mx c 0))), P, pr, 0, -1, 0) ∧ frW w h h' := by
      intro z hz
      subst hz
      rw [put_n hT hn, Option.bind_some, allow_a, bi2_eq, zn_b]
      refine ⟨_, rfl, ?_, ?_⟩
      · refine wA_rf (x := (n + 1, upF F n (decide (c = -1)), upT V i (upV (V i) n (some (f, nm, mx c 0))), P, pr, c0, c1, c2)) ?_
        refine wA_tr (s := i) (by omega) frT_wr ?_ (clT_wr1 ?_) ?_ (h := up (up h w 0 (nI (n + 1))) (w + 1) n (b2i (decide (c = -1))))
        · rw [avA_wr1 hn, avA_eq (h := h) (by rw [up_ne (by omega), up_ne (by omega)]) (by rw [up_ne (by omega), up_ne (by omega)]) (by rw [up_ne (by omega), up_ne (by omega)]) (by rw [up_ne (by omega), up_ne (by omega)]), u1]
        · exact clT_eq (h := h) (by rw [up_ne (by omega), up_ne (by omega)]) (by rw [up_ne (by omega), up_ne (by omega)]) (by rw [up_ne (by omega), up_ne (by omega)]) (by rw [up_ne (by omega), up_ne (by omega)]) u2
        · have ew : ∀ j, j ≠ 0 → up (up h w 0 (nI (n + 1))) (w + 1) n (b2i (decide (c = -1))) w j = h w j := by
            intro j hj
            rw [up_ne (by omega), up_at, if_neg hj]
          have eq : ∀ q, w + 2 ≤ q → up (up h w 0 (nI (n + 1))) (w + 1) n (b2i (decide (c = -1))) q = h q := by
            intro q hq
            rw [up_ne (by omega), up_ne (by omega)]
          have e1 : ∀ j, up (up h w 0 (nI (n + 1))) (w + 1) n (b2i (decide (c = -1))) (w + 1) j = if j = n then b2i (decide (c = -1)) else h (w + 1) j := by
            intro j
            rw [up_at, up_ne (by omega)]
          refine ⟨by omega, by rw [up_ne (by omega), up_same], fun t ht => ?_, fun t ht => ?_, trs_eq (fun q h1 h2 => eq q (by omega)) a5, a6, by rw [ew 4 (by decide)]; exact a7, pas_eq (fun q h1 h2 => eq q (by omega)) a6 a8, fun k hk => by rw [eq _ (by omega)]; exact a9 k hk, by rw [ew 5 (by decide)]; exact b1, by rw [ew 6 (by decide)]; exact b2, by rw [ew 7 (by decide)]; exact b3, by rw [ew 8 (by decide)]; exact b4⟩
          · rw [e1]
            split
            · exact b2i_01 _
            · exact a3 t ht
          · rw [e1]
            unfold upF
            by_cases et : t = n
            · rw [if_pos et, if_pos et]
            · rw [if_neg et, if_neg et]
              exact a4 t (by omega)
      · exact frW_trans (frW_trans (frW_trans (frW_up (by omega) (by omega)) (frW_up (by omega) (by omega))) (frT_W frT_wr (by omega) (by omega))) frW_rf
    by_cases hcc : c = -1
    · rw [if_neg (fun z => z hcc)]
      exact key 1 (by simp [hcc, b2i])
    · rw [if_pos hcc]
      exact key 0 (by simp [hcc, b2i])
