/-! write, move, remove on a world of the class -/
theorem ifT {α : Type} {p : Bool} (h : p = true) (a b : α) : (if p = true then a else b) = a := if_pos h
theorem ifF {α : Type} {p : Bool} (h : p = false) (a b : α) : (if p = true then a else b) = b := by rw [h]; rfl
theorem rfH_8 {h : HH} {w : Nat} {a b c k : Int32} : up (rfH h w a b c) w 8 k = rfH h w a b k := by
  funext q j
  by_cases e : q = w
  · subst e
    rw [up_at, rfH_at, rfH_at]
    by_cases e8 : j = 8 <;> simp [e8]
  · rw [up_ne e, rfH_ne e, rfH_ne e]
theorem isIn_some {v : TV} {t : Nat} (e : isIn v t = true) : v t = some (vF v t, vN v t, vC v t) := by
  unfold isIn at e
  unfold vF vN vC
  cases h : v t with
  | none => rw [h] at e; cases e
  | some x => obtain ⟨a, b, c⟩ := x; rfl
theorem isIn_row {h : HH} {T t : Nat} (e : isIn (avA h T) t = true) : ¬ h (T + 1) t = 0 ∧ h (T + 2) t = vF (avA h T) t ∧ h (T + 3) t = vN (avA h T) t ∧ h (T + 4) t = vC (avA h T) t := by
  have ht := isIn_lt e
  unfold isIn at e
  unfold vF vN vC
  rw [avA_in ht] at e ⊢
  by_cases h0 : h (T + 1) t = 0
  · rw [if_pos h0] at e; cases e
  · rw [if_neg h0]; exact ⟨h0, rfl, rfl, rfl⟩
theorem cl_one {h : HH} {T t : Nat} (hc : clT h T) (e : isIn (avA h T) t = true) : h (T + 1) t = 1 := by
  rcases hc t (isIn_lt e) with k | k
  · exact absurd k.1 (isIn_row e).1
  · exact k
/-- a content is another one -/
theorem av_cont {h : HH} {T t : Nat} {c : Int32} (e : isIn (avA h T) t = true) : avA (up h (T + 4) t c) T = upV (avA h T) t (some (vF (avA h T) t, vN (avA h T) t, c)) := by
  have ht := isIn_lt e
  obtain ⟨r1, r2, r3, r4⟩ := isIn_row e
  funext j
  unfold upV
  by_cases ej : j = t
  · subst ej
    rw [if_pos rfl, avA_in ht, up_ne (by omega), if_neg r1, up_ne (by omega), up_ne (by omega), up_same, ← r2, ← r3]
  · rw [if_neg ej]
    unfold avA
    rw [up_ne (by omega), up_ne (by omega), up_ne (by omega), up_at, if_neg ej]
theorem cl_cont {h : HH} {T t : Nat} {c : Int32} (hc : clT h T) (e : isIn (avA h T) t = true) : clT (up h (T + 4) t c) T := by
  intro j hj
  rw [up_ne (by omega), up_ne (by omega), up_ne (by omega), up_at]
  by_cases ej : j = t
  · subst ej
    exact Or.inr (cl_one hc e)
  · rw [if_neg ej]
    exact hc j hj
theorem av_place {h : HH} {T t : Nat} {f n : Int32} (e : isIn (avA h T) t = true) : avA (up (up h (T + 2) t f) (T + 3) t n) T = upV (avA h T) t (some (f, n, vC (avA h T) t)) := by
  have ht := isIn_lt e
  obtain ⟨r1, r2, r3, r4⟩ := isIn_row e
  funext j
  unfold upV
  by_cases ej : j = t
  · subst ej
    rw [if_pos rfl, avA_in ht, up_ne (by omega), up_ne (by omega), if_neg r1, up_ne (by omega), up_same, up_same, up_ne (by omega), up_ne (by omega), ← r4]
  · rw [if_neg ej]
    unfold avA
    rw [up_ne (show T + 1 ≠ T + 3 by omega), up_ne (show T + 1 ≠ T + 2 by omega), up_ne (show T + 2 ≠ T + 3 by omega), up_at, if_neg ej, up_at, if_neg ej, up_ne (show T + 3 ≠ T + 2 by omega), up_ne (show T + 4 ≠ T + 3 by omega), up_ne (show T + 4 ≠ T + 2 by omega)]
theorem cl_place {h : HH} {T t : Nat} {f n : Int32} (hc : clT h T) (e : isIn (avA h T) t = true) : clT (up (up h (T + 2) t f) (T + 3) t n) T := by
  intro j hj
  rw [up_ne (show T + 1 ≠ T + 3 by omega), up_ne (show T + 1 ≠ T + 2 by omega)]
  by_cases ej : j = t
  · subst ej
    exact Or.inr (cl_one hc e)
  · rw [up_ne (show T + 2 ≠ T + 3 by omega), up_at, if_neg ej, up_at, if_neg ej, up_ne (show T + 3 ≠ T + 2 by omega), up_ne (show T + 4 ≠ T + 3 by omega), up_ne (show T + 4 ≠ T + 2 by omega)]
    exact hc j hj
theorem frT_up {h : HH} {T t q : Nat} {c : Int32} (e : q = T + 1 ∨ q = T + 2 ∨ q = T + 3 ∨ q = T + 4) : frT T h (up h q t c) := fun z h1 h2 h3 h4 => up_ne (by omega)
def vaB (v : Int32) : Bool := !(decide (v < 0)) && decide (v < 1000)
def wtS (x : WS) (s t v : Int32) : Int32 × WS := match x with
  | (n, F, V, P, pr, c0, c1, c2) =>
    if (siB s && thB n t && vaB v) = true then
      if isIn (V (ix s)) (ix t) = true then
        if F (ix t) = true then (-13, (n, F, V, P, pr, -13, -1, 0))
        else (vC (V (ix s)) (ix t), (n, F, upT V (ix s) (upV (V (ix s)) (ix t) (some (vF (V (ix s)) (ix t), vN (V (ix s)) (ix t), v))), P, pr, 0, -1, 0))
      else (-3, (n, F, V, P, pr, -3, t, 0))
    else (-2, (n, F, V, P, pr, -2, -1, 0))
theorem rewrite_a {h : HH} {w : Nat} {x : WS} (iw : isW w) (hw : wA h w x) (s t v : Int32) : ∃ h', fX6_rewrite h RA w s t v = some ((wtS x s t v).1, h') ∧ wA h' w (wtS x s t v).2 ∧ frW w h h' := by
  have hw0 := hw
  obtain ⟨n, F, V, P, pr, c0, c1, c2⟩ := x
  obtain ⟨a1, a2, a3, a4, a5, a6, a7, a8, a9, b1, b2, b3, b4⟩ := hw
  unfold fX6_rewrite wtS
  simp only [isSide_a, isThing_a a2, Option.bind_some, b2i_if, b2i_ifn]
  have bd : ∀ a b c, wA (rfH h w a b c) w (n, F, V, P, pr, a, b, c) := fun a b c => wA_rf (x := (n, F, V, P, pr, c0, c1, c2)) hw0
  have bad : ∃ h', fX6_rewrite_b26 RA w s t v h = some (-2, h') ∧ wA h' w (n, F, V, P, pr, -2, -1, 0) ∧ frW w h h' := ⟨_, rfl, bd _ _ _, frW_rf⟩
  cases hs : siB s with
  | false => simpa [hs] using bad
  | true =>
  cases hp : thB n t with
  | false => simpa [hs, hp] using bad
  | true =>
  by_cases g1 : v < 0
  · have gc : vaB v = false := by unfold vaB; simp [g1]
    simpa [hs, hp, gc, g1] using bad
  by_cases g2 : ¬ v < 1000
  · have gc : vaB v = false := by unfold vaB; simp [g2]
    simpa [hs, hp, gc, g1, g2] using bad
  have g2 := Classical.not_not.mp g2
  have gc : vaB v = true := by unfold vaB; simp [g1, g2]
  obtain ⟨i, hi, rfl⟩ := siB_n hs
  obtain ⟨k, hk, rfl⟩ := thB_n a1 hp
  obtain ⟨r1, hT⟩ := isW_T (s := i) iw (by omega)
  obtain ⟨u1, u2⟩ := a5 i (by omega)
  simp only [Bool.and_self, gc, if_true, g1, g2, if_false, iw.1, iw.2.1, iw.2.2.2.2.2.1, iw.2.2.2.2.2.2.1, ix_n (show i < 2 ^ 31 by omega), ix_n (show k < 2 ^ 31 by omega), r1]
  rw [gd_in (show i < 3 by omega) (by decide), has_n hT (by omega), Option.bind_some, b2i_ifn, u1]
  cases hc : isIn (V i) k with
  | false => exact ⟨_, rfl, bd _ _ _, frW_rf⟩
  | true =>
  simp only [if_true]
  rw [gd_in (show k < 30 by omega) n30, a4 k hk]
  have hc2 : isIn (avA h (w + 6 + 5 * i)) k = true := by rw [u1]; exact hc
  cases hF : F k with
  | true => exact ⟨_, rfl, bd _ _ _, frW_rf⟩
  | false =>
  rw [if_pos (show b2i false = 0 from rfl), if_neg (by decide)]
  obtain ⟨q0, q1, q2, q3, m0, m1, m2, m3⟩ := hT
  simp only [lt_eq, q3, m3, gd_in (show k < 30 by omega) n30, allow_a, bi2_eq]
  refine ⟨_, by rw [(isIn_row hc2).2.2.2, u1], ?_, frW_trans (frT_W (frT_up (Or.inr (Or.inr (Or.inr rfl)))) (by omega) (by omega)) frW_rf⟩
  refine wA_rf (x := (n, F, upT V i (upV (V i) k (some (vF (V i) k, vN (V i) k, v))), P, pr, c0, c1, c2)) ?_
  exact wA_tr (by omega) (frT_up (Or.inr (Or.inr (Or.inr rfl)))) (by rw [av_cont hc2, u1]) (cl_cont u2 hc2) hw0
def mvS (x : WS) (s t f nm : Int32) : Int32 × WS := match x with
  | (n, F, V, P, pr, c0, c1, c2) =>
    if (siB s && thB n t && plB n f && naB nm) = true then
      if isIn (V (ix s)) (ix t) = true then
        if chB F (V (ix s)) f = true then
          match suS (V (ix s)) t 31 f with
          | some k => (-7, (n, F, V, P, pr, -7, f, nI k))
          | none =>
            if (fnd (fun j => isAtS (V (ix s)) j f nm) 0 30).all (fun j => decide (nI j = t)) = true then
              (1, (n, F, upT V (ix s) (upV (V (ix s)) (ix t) (some (f, nm, vC (V (ix s)) (ix t)))), P, pr, 0, -1, 0))
            else (-6, (n, F, V, P, pr, -6, oI (fnd (fun j => isAtS (V (ix s)) j f nm) 0 30), 0))
        else (-3, (n, F, V, P, pr, -3, f, 0))
      else (-3, (n, F, V, P, pr, -3, t, 0))
    else (-2, (n, F, V, P, pr, -2, -1, 0))
theorem carry_a {h : HH} {w : Nat} {x : WS} (iw : isW w) (hw : wA h w x) (hN : allN x) (s t f nm : Int32) : ∃ h', fX6_carry h RA w s t f nm = some ((mvS x s t f nm).1, h') ∧ wA h' w (mvS x s t f nm).2 ∧ frW w h h' := by
  have hw0 := hw
  obtain ⟨n, F, V, P, pr, c0, c1, c2⟩ := x
  obtain ⟨a1, a2, a3, a4, a5, a6, a7, a8, a9, b1, b2, b3, b4⟩ := hw
  unfold fX6_carry mvS
  simp only [isSide_a, isThing_a a2, isPlace_a a2, isName_a, Option.bind_some, b2i_if, b2i_ifn]
  have bd : ∀ a b c, wA (rfH h w a b c) w (n, F, V, P, pr, a, b, c) := fun a b c => wA_rf (x := (n, F, V, P, pr, c0, c1, c2)) hw0
  have bad : ∃ h', fX6_carry_b31 RA w s t f nm h = some (-2, h') ∧ wA h' w (n, F, V, P, pr, -2, -1, 0) ∧ frW w h h' := ⟨_, rfl, bd _ _ _, frW_rf⟩
  cases hs : siB s with
  | false => simpa [hs] using bad
  | true =>
  cases hp : thB n t with
  | false => simpa [hs, hp] using bad
  | true =>
  cases hq : plB n f with
  | false => simpa [hs, hp, hq] using bad
  | true =>
  cases hm : naB nm with
  | false => simpa [hs, hp, hq, hm] using bad
  | true =>
  obtain ⟨i, hi, rfl⟩ := siB_n hs
  obtain ⟨k, hk, rfl⟩ := thB_n a1 hp
  obtain ⟨r1, hT⟩ := isW_T (s := i) iw (by omega)
  obtain ⟨u1, u2⟩ := a5 i (by omega)
  simp only [Bool.and_self, if_true, iw.2.1, iw.2.2.2.2.2.2.1, ix_n (show i < 2 ^ 31 by omega), ix_n (show k < 2 ^ 31 by omega), r1]
  rw [gd_in (show i < 3 by omega) (by decide), has_n hT (by omega), Option.bind_some, b2i_ifn, u1]
  cases hc : isIn (V i) k with
  | false => exact ⟨_, rfl, bd _ _ _, frW_rf⟩
  | true =>
  have hc2 : isIn (avA h (w + 6 + 5 * i)) k = true := by rw [u1]; exact hc
  simp only [if_true]
  rw [canHold_a iw (by omega) a4 (by rw [u1]; exact hN i (by omega)), Option.bind_some, b2i_ifn, u1]
  cases hd : chB F (V i) f with
  | false => exact ⟨_, rfl, bd _ _ _, frW_rf⟩
  | true =>
  simp only [if_true]
  rw [stepsUp_n hT, Option.bind_some, u1]
  cases hu : suS (V i) (nI k) 31 f with
  | some d =>
    have := suS_lt hu
    rw [if_neg (oI_ne (by omega))]
    refine ⟨_, rfl, ?_, ?_⟩
    · show wA (up (rfH h w (-7) f 0) w 8 (nI d)) w (n, F, V, P, pr, -7, f, nI d)
      rw [rfH_8]
      exact bd _ _ _
    · show frW w h (up (rfH h w (-7) f 0) w 8 (nI d))
      rw [rfH_8]
      exact frW_rf
  | none =>
  rw [if_pos (show oI none = -1 from rfl), standing_n hT, Option.bind_some, u1]
  have go : ∃ h', fX6_carry_b145 RA w (nI i) (nI k) f nm h (w + 6 + 5 * i) = some (1, h') ∧ wA h' w (n, F, upT V i (upV (V i) k (some (f, nm, vC (V i) k))), P, pr, 0, -1, 0) ∧ frW w h h' := by
    obtain ⟨q0, q1, q2, q3, m0, m1, m2, m3⟩ := hT
    unfold fX6_carry_b145
    simp only [lt_eq, q1, q2, m1, m2, gd_in (show k < 30 by omega) n30, ix_n (show k < 2 ^ 31 by omega), allow_a, bi2_eq]
    have fr2 : frT (w + 6 + 5 * i) h (up (up h (w + 6 + 5 * i + 2) k f) (w + 6 + 5 * i + 3) k nm) := frT_trans (frT_up (Or.inr (Or.inl rfl))) (frT_up (Or.inr (Or.inr (Or.inl rfl))))
    refine ⟨_, rfl, ?_, frW_trans (frT_W fr2 (by omega) (by omega)) frW_rf⟩
    refine wA_rf (x := (n, F, upT V i (upV (V i) k (some (f, nm, vC (V i) k))), P, pr, c0, c1, c2)) ?_
    exact wA_tr (by omega) fr2 (by rw [av_place hc2, u1]) (cl_place u2 hc2) hw0
  cases hf : fnd (fun t => isAtS (V i) t f nm) 0 30 with
  | none =>
    rw [if_pos (show oI none = -1 from rfl)]
    exact go
  | some u =>
    have hu2 := fnd_lt hf
    rw [if_neg (oI_ne (by omega))]
    by_cases e : nI u = nI k
    · rw [if_pos (show oI (some u) = nI k from e), if_pos (show (some u).all (fun j => decide (nI j = nI k)) = true from decide_eq_true e)]
      exact go
    · rw [if_neg (show ¬ oI (some u) = nI k from e), if_neg (show ¬ (some u).all (fun j => decide (nI j = nI k)) = true from fun z => e (of_decide_eq_true z))]
      exact ⟨_, rfl, bd _ _ _, frW_rf⟩
/-! remove -/
def goB (v : TV) (a : Int32) (t : Nat) : Bool := decide (nI t = a) || inS v t a
def rmV (v : TV) (a : Int32) : TV := fun j => if goB v a j = true then none else v j
def rmS (x : WS) (s t : Int32) : Int32 × WS := match x with
  | (n, F, V, P, pr, c0, c1, c2) =>
    if (siB s && thB n t) = true then
      if isIn (V (ix s)) (ix t) = true then (cnt (goB (V (ix s)) t) 30, (n, F, upT V (ix s) (rmV (V (ix s)) t), P, pr, 0, -1, 0))
      else (-3, (n, F, V, P, pr, -3, t, 0))
    else (-2, (n, F, V, P, pr, -2, -1, 0))
theorem erase_a {h : HH} {w : Nat} {x : WS} (iw : isW w) (hw : wA h w x) (s t : Int32) : ∃ h', fX6_erase h RA w s t = some ((rmS x s t).1, h') ∧ wA h' w (rmS x s t).2 ∧ frW w h h' := by
  have hw0 := hw
  obtain ⟨n, F, V, P, pr, c0, c1, c2⟩ := x
  obtain ⟨a1, a2, a3, a4, a5, a6, a7, a8, a9, b1, b2, b3, b4⟩ := hw
  unfold fX6_erase rmS
  simp only [isSide_a, isThing_a a2, Option.bind_some, b2i_if, b2i_ifn]
  have bd : ∀ a b c, wA (rfH h w a b c) w (n, F, V, P, pr, a, b, c) := fun a b c => wA_rf (x := (n, F, V, P, pr, c0, c1, c2)) hw0
  have bad : ∃ h', fX6_erase_b15 RA w s t h = some (-2, h') ∧ wA h' w (n, F, V, P, pr, -2, -1, 0) ∧ frW w h h' := ⟨_, rfl, bd _ _ _, frW_rf⟩
  cases hs : siB s with
  | false => simpa [hs] using bad
  | true =>
  cases hp : thB n t with
  | false => simpa [hs, hp] using bad
  | true =>
  obtain ⟨i, hi, rfl⟩ := siB_n hs
  obtain ⟨k, hk, rfl⟩ := thB_n a1 hp
  obtain ⟨r1, hT⟩ := isW_T (s := i) iw (by omega)
  obtain ⟨u1, u2⟩ := a5 i (by omega)
  simp only [Bool.and_self, if_true, iw.2.1, iw.2.2.2.2.2.2.1, ix_n (show i < 2 ^ 31 by omega), ix_n (show k < 2 ^ 31 by omega), r1]
  rw [gd_in (show i < 3 by omega) (by decide), has_n hT (by omega), Option.bind_some, b2i_ifn, u1]
  cases hc : isIn (V i) k with
  | false => exact ⟨_, rfl, bd _ _ _, frW_rf⟩
  | true =>
  simp only [if_true]
  have iw10 := iw.2.2.2.2.1
  have ln5 : lnA (w + 5) = 30 := iw.2.2.2.2.2.2.2.2.2.1
  have key := loop_inv (L := fun n (h : HH) z => fX6_erase_b49 RA w (nI i) (nI k) n h (w + 6 + 5 * i) z) (e := 30) (I := fun j s => (∀ q, q ≠ w + 5 → s q = h q) ∧ ∀ t, t < j → s (w + 5) t = b2i (goB (V i) (nI k) t)) (g := fun s => fX6_erase_b96 RA w (nI i) (nI k) lpF s (w + 6 + 5 * i) 0 0) (fun n j s hj hI => by
    obtain ⟨I1, I2⟩ := hI
    have es : avA s (w + 6 + 5 * i) = V i := (avA_eq (I1 _ (by omega)) (I1 _ (by omega)) (I1 _ (by omega)) (I1 _ (by omega))).trans u1
    have nx : ∀ z : Int32, z = b2i (goB (V i) (nI k) j) → (∀ q, q ≠ w + 5 → up s (w + 5) j (zn z) q = h q) ∧ ∀ t, t < j + 1 → up s (w + 5) j (zn z) (w + 5) t = b2i (goB (V i) (nI k) t) := by
      intro z hz
      refine ⟨fun q hq => (up_ne hq).trans (I1 q hq), fun t ht => ?_⟩
      rw [up_at]
      by_cases e : t = j
      · rw [if_pos e, hz, zn_b, e]
      · rw [if_neg e]
        exact I2 t (by omega)
    rw [fX6_erase_b49, if_neg (fun z => by have := (le30 (by omega)).mp z; omega), iw10]
    simp only [fX6_erase_b78, fX6_erase_b83, ln5, gd_in hj n30, lt_eq, ix_n (show j < 2 ^ 31 by omega), n_p1]
    by_cases e : nI j = nI k
    · rw [if_pos e]
      exact ⟨_, rfl, nx 1 (by unfold goB; simp [e, b2i])⟩
    · rw [if_neg e, isInner_n hT hj, Option.bind_some, es]
      cases hin : inS (V i) j (nI k) with
      | false => exact ⟨_, rfl, nx 0 (by unfold goB; simp [e, hin, b2i])⟩
      | true => exact ⟨_, rfl, nx 1 (by unfold goB; simp [hin, b2i])⟩) (fun n s hI => by
    rw [fX6_erase_b49, if_pos ((le30 (by omega)).mpr (Nat.le_refl 30))])
  obtain ⟨h1, ⟨J1, J2⟩, e1⟩ := key lpF 0 h (by omega) (by rw [lpF_eq]; omega) ⟨fun _ _ => rfl, fun t ht => by omega⟩
  have e1' : fX6_erase_b49 RA w (nI i) (nI k) lpF h (w + 6 + 5 * i) 0 = fX6_erase_b96 RA w (nI i) (nI k) lpF h1 (w + 6 + 5 * i) 0 0 := e1
  rw [e1']
  have w1 : wA h1 w (n, F, V, P, pr, c0, c1, c2) := wA_scr (fun q _ _ _ h5 => J1 q h5) hw0
  obtain ⟨u3, u4⟩ := w1.2.2.2.2.1 i (by omega)
  have key2 := loop_inv (L := fun n (s : HH × Int32) z => fX6_erase_b96 RA w (nI i) (nI k) n s.1 (w + 6 + 5 * i) s.2 z) (e := 30) (I := fun j s => frT (w + 6 + 5 * i) h1 s.1 ∧ clT s.1 (w + 6 + 5 * i) ∧ (avA s.1 (w + 6 + 5 * i) = fun t => if t < j ∧ goB (V i) (nI k) t = true then none else V i t) ∧ s.2 = cnt (goB (V i) (nI k)) j) (g := fun s => some (s.2, rfH s.1 w 0 (-1) 0)) (fun n j s hj hI => by
    obtain ⟨s, c⟩ := s
    obtain ⟨I1, I2, I3, I4⟩ := hI
    simp only at I1 I2 I3 I4
    simp only
    rw [fX6_erase_b96, if_neg (fun z => by have := (le30 (by omega)).mp z; omega), iw10, ln5, gd_in hj n30, ix_n (by omega)]
    simp only [fX6_erase_b122, n_p1]
    rw [I1 (w + 5) (by omega) (by omega) (by omega) (by omega), J2 j hj, b2i_if]
    have cs : cnt (goB (V i) (nI k)) (j + 1) = if goB (V i) (nI k) j then cnt (goB (V i) (nI k)) j + 1 else cnt (goB (V i) (nI k)) j := by
      unfold cnt
      rw [fld_succ, Nat.zero_add]
    cases hg : goB (V i) (nI k) j with
    | false =>
      rw [ifF rfl]
      refine ⟨(s, c), rfl, I1, I2, I3.trans ?_, ?_⟩
      · funext t
        by_cases ej : t = j
        · subst ej; simp [hg]
        · simp only [show (t < j + 1) ↔ (t < j) by omega]
      · show c = _
        rw [cs, hg, I4]
        rfl
    | true =>
      rw [if_pos rfl, takeOut_n hT hj, Option.bind_some]
      refine ⟨(wr4 s (w + 6 + 5 * i) j 0 (-1) (-1) (-1), c + 1), rfl, frT_trans I1 frT_wr, clT_wr0 I2, ?_, ?_⟩
      · show avA (wr4 s (w + 6 + 5 * i) j 0 (-1) (-1) (-1)) (w + 6 + 5 * i) = _
        rw [avA_wr0, I3]
        funext t
        unfold upV
        by_cases ej : t = j
        · subst ej; simp [hg]
        · simp only [if_neg ej, show (t < j + 1) ↔ (t < j) by omega]
      · show c + 1 = _
        rw [cs, hg, I4]
        rfl) (fun n s hI => by
    rw [fX6_erase_b96, if_pos ((le30 (by omega)).mpr (Nat.le_refl 30)), allow_a, bi2_eq])
  obtain ⟨⟨h2, c⟩, ⟨K1, K2, K3, K4⟩, e2⟩ := key2 lpF 0 (h1, 0) (by omega) (by rw [lpF_eq]; omega) ⟨frT_rfl, u4, u3.trans (by funext t; simp), rfl⟩
  simp only at K1 K2 K3 K4 e2
  have e2' : fX6_erase_b96 RA w (nI i) (nI k) lpF h1 (w + 6 + 5 * i) 0 0 = some (c, rfH h2 w 0 (-1) 0) := e2
  rw [e2', K4]
  refine ⟨_, rfl, ?_, ?_⟩
  · refine wA_rf (x := (n, F, upT V i (rmV (V i) (nI k)), P, pr, c0, c1, c2)) ?_
    refine wA_tr (by omega) K1 (K3.trans ?_) K2 w1
    funext t
    unfold rmV
    by_cases ht : t < 30
    · simp [ht]
    · have hv : V i t = none := by rw [← u1]; exact avA_out ht
      simp [hv]
  · exact frW_trans (frW_trans (fun q e => J1 q (by omega)) (frT_W K1 (by omega) (by omega))) frW_rf
