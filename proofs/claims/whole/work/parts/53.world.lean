/-! worlds of the class: n, who is a folder, the trees 0, 1, 2, the patterns, whom it prefers, what was refused -/
abbrev PT : Type := List Int32 × Bool
abbrev WS : Type := Nat × (Nat → Bool) × (Nat → TV) × List PT × Int32 × Int32 × Int32 × Int32
def isW (w : Nat) : Prop := RA w 1 = w + 1 ∧ RA w 2 = w + 2 ∧ RA w 3 = w + 3 ∧ RA w 9 = w + 4 ∧ RA w 10 = w + 5 ∧ lnA (w + 1) = 30 ∧ lnA (w + 2) = 3 ∧ lnA (w + 3) = 6 ∧ lnA (w + 4) = 30 ∧ lnA (w + 5) = 30 ∧ (∀ i, i < 3 → RA (w + 2) i = w + 6 + 5 * i ∧ isTb (w + 6 + 5 * i) = true) ∧ ∀ i, i < 6 → RA (w + 3) i = w + 21 + 2 * i ∧ RA (w + 21 + 2 * i) 0 = w + 22 + 2 * i ∧ lnA (w + 22 + 2 * i) = 8
theorem isW_2 : isW 2 := by unfold isW; decide +kernel
theorem isW_35 : isW 35 := by unfold isW; decide +kernel
theorem isW_68 : isW 68 := by unfold isW; decide +kernel
/-- a pattern of the class at P -/
def patA (h : HH) (P : Nat) (x : PT) : Prop := x.1.length ≤ 8 ∧ h P 1 = nI x.1.length ∧ h P 2 = b2i x.2 ∧ ∀ j y, x.1[j]? = some y → h (P + 1) j = y
def wA (h : HH) (w : Nat) (x : WS) : Prop := match x with
  | (n, F, V, P, pr, c0, c1, c2) => n ≤ 30 ∧ h w 0 = nI n ∧ (∀ t, t < 30 → h (w + 1) t = 0 ∨ h (w + 1) t = 1) ∧ (∀ t, t < n → h (w + 1) t = b2i (F t)) ∧ (∀ s, s < 3 → avA h (w + 6 + 5 * s) = V s ∧ clT h (w + 6 + 5 * s)) ∧ P.length ≤ 6 ∧ h w 4 = nI P.length ∧ (∀ i y, P[i]? = some y → patA h (w + 21 + 2 * i) y) ∧ (∀ i, i < 6 → h (w + 21 + 2 * i) 2 = 0 ∨ h (w + 21 + 2 * i) 2 = 1) ∧ h w 5 = pr ∧ h w 6 = c0 ∧ h w 7 = c1 ∧ h w 8 = c2
/-- only rows of the world at w are other ones -/
def frW (w : Nat) (h h' : HH) : Prop := ∀ q, q < w ∨ w + 33 ≤ q → h' q = h q
theorem frW_rfl {w : Nat} {h : HH} : frW w h h := fun _ _ => rfl
theorem frW_trans {w : Nat} {h h' h'' : HH} (a : frW w h h') (b : frW w h' h'') : frW w h h'' := fun q e => (b q e).trans (a q e)
theorem frW_up {w : Nat} {h : HH} {p k : Nat} {x : Int32} (h1 : w ≤ p) (h2 : p < w + 33) : frW w h (up h p k x) := fun q e => up_ne (by omega)
theorem frT_W {w T : Nat} {h h' : HH} (a : frT T h h') (h1 : w ≤ T) (h2 : T + 4 < w + 33) : frW w h h' := fun q e => a q (by omega) (by omega) (by omega) (by omega)
theorem wA_eq {h h' : HH} {w : Nat} {x : WS} (e : ∀ q, w ≤ q → q < w + 33 → h' q = h q) (hw : wA h w x) : wA h' w x := by
  obtain ⟨n, F, V, P, pr, c0, c1, c2⟩ := x
  obtain ⟨a1, a2, a3, a4, a5, a6, a7, a8, a9, b1, b2, b3, b4⟩ := hw
  have e0 := e w (by omega) (by omega)
  have e1 := e (w + 1) (by omega) (by omega)
  refine ⟨a1, by rw [e0]; exact a2, fun t ht => by rw [e1]; exact a3 t ht, fun t ht => by rw [e1]; exact a4 t ht, fun s hs => ?_, a6, by rw [e0]; exact a7, fun i y hi => ?_, fun i hi => by rw [e (w + 21 + 2 * i) (by omega) (by omega)]; exact a9 i hi, by rw [e0]; exact b1, by rw [e0]; exact b2, by rw [e0]; exact b3, by rw [e0]; exact b4⟩
  · obtain ⟨u1, u2⟩ := a5 s hs
    have t1 := e (w + 6 + 5 * s + 1) (by omega) (by omega)
    have t2 := e (w + 6 + 5 * s + 2) (by omega) (by omega)
    have t3 := e (w + 6 + 5 * s + 3) (by omega) (by omega)
    have t4 := e (w + 6 + 5 * s + 4) (by omega) (by omega)
    exact ⟨(avA_eq t1 t2 t3 t4).trans u1, clT_eq t1 t2 t3 t4 u2⟩
  · obtain ⟨v1, v2, v3, v4⟩ := a8 i y hi
    have hl : i < P.length := (List.getElem?_eq_some_iff.mp hi).1
    have t1 := e (w + 21 + 2 * i) (by omega) (by omega)
    have t2 := e (w + 21 + 2 * i + 1) (by omega) (by omega)
    exact ⟨v1, by rw [t1]; exact v2, by rw [t1]; exact v3, fun j z hj => by rw [t2]; exact v4 j z hj⟩
theorem wA_frW {h h' : HH} {w w' : Nat} {x : WS} (e : frW w' h h') (d : w + 33 ≤ w' ∨ w' + 33 ≤ w) (hw : wA h w x) : wA h' w x := wA_eq (fun q h1 h2 => e q (by omega)) hw
/-- where the scratch rows of a world are other ones -/
theorem wA_scr {h h' : HH} {w : Nat} {x : WS} (e : ∀ q, w ≤ q → q < w + 33 → q ≠ w + 4 → q ≠ w + 5 → h' q = h q) (hw : wA h w x) : wA h' w x := by
  obtain ⟨n, F, V, P, pr, c0, c1, c2⟩ := x
  obtain ⟨a1, a2, a3, a4, a5, a6, a7, a8, a9, b1, b2, b3, b4⟩ := hw
  have e0 := e w (by omega) (by omega) (by omega) (by omega)
  have e1 := e (w + 1) (by omega) (by omega) (by omega) (by omega)
  refine ⟨a1, by rw [e0]; exact a2, fun t ht => by rw [e1]; exact a3 t ht, fun t ht => by rw [e1]; exact a4 t ht, fun s hs => ?_, a6, by rw [e0]; exact a7, fun i y hi => ?_, fun i hi => by rw [e (w + 21 + 2 * i) (by omega) (by omega) (by omega) (by omega)]; exact a9 i hi, by rw [e0]; exact b1, by rw [e0]; exact b2, by rw [e0]; exact b3, by rw [e0]; exact b4⟩
  · obtain ⟨u1, u2⟩ := a5 s hs
    have t1 := e (w + 6 + 5 * s + 1) (by omega) (by omega) (by omega) (by omega)
    have t2 := e (w + 6 + 5 * s + 2) (by omega) (by omega) (by omega) (by omega)
    have t3 := e (w + 6 + 5 * s + 3) (by omega) (by omega) (by omega) (by omega)
    have t4 := e (w + 6 + 5 * s + 4) (by omega) (by omega) (by omega) (by omega)
    exact ⟨(avA_eq t1 t2 t3 t4).trans u1, clT_eq t1 t2 t3 t4 u2⟩
  · obtain ⟨v1, v2, v3, v4⟩ := a8 i y hi
    have hl : i < P.length := (List.getElem?_eq_some_iff.mp hi).1
    have t1 := e (w + 21 + 2 * i) (by omega) (by omega) (by omega) (by omega)
    have t2 := e (w + 21 + 2 * i + 1) (by omega) (by omega) (by omega) (by omega)
    exact ⟨v1, by rw [t1]; exact v2, by rw [t1]; exact v3, fun j z hj => by rw [t2]; exact v4 j z hj⟩
theorem isW_T {w s : Nat} (hw : isW w) (hs : s < 3) : RA (w + 2) s = w + 6 + 5 * s ∧ isT (w + 6 + 5 * s) := ⟨(hw.2.2.2.2.2.2.2.2.2.2.1 s hs).1, isT_of (hw.2.2.2.2.2.2.2.2.2.2.1 s hs).2⟩
/-! the questions -/
def thB (n : Nat) (a : Int32) : Bool := !(decide (a < 0)) && !(decide (nI n ≤ a))
theorem thB_n {n : Nat} (hn : n ≤ 30) {a : Int32} (h : thB n a = true) : ∃ t, t < n ∧ a = nI t := by
  unfold thB at h
  simp only [Bool.and_eq_true, Bool.not_eq_true', decide_eq_false_iff_not] at h
  obtain ⟨j, hj, rfl⟩ := nI_of h.1
  exact ⟨j, by have := mt (nI_leI (show n < 2 ^ 31 by omega) hj).mpr h.2; omega, rfl⟩
theorem thB_of {n t : Nat} (ht : t < n) (hn : n ≤ 30) : thB n (nI t) = true := by
  unfold thB
  simp only [Bool.and_eq_true, Bool.not_eq_true', decide_eq_false_iff_not]
  exact ⟨nI_pos (by omega), nI_ge ht (by omega)⟩
theorem isThing_a {h : HH} {w n : Nat} (hn : h w 0 = nI n) (a : Int32) : fX6_isThing h RA w a = some (b2i (thB n a)) := by
  unfold fX6_isThing fX6_isThing_b16 thB
  rw [hn]
  by_cases h1 : a < 0
  · simp [h1, b2i]
  · by_cases h2 : nI n ≤ a
    · simp [h1, h2, b2i]
    · simp [h1, h2, b2i]
def plB (n : Nat) (a : Int32) : Bool := decide (a = -1) || thB n a
theorem isPlace_a {h : HH} {w n : Nat} (hn : h w 0 = nI n) (a : Int32) : fX6_isPlace h RA w a = some (b2i (plB n a)) := by
  unfold fX6_isPlace plB
  rw [isThing_a hn, Option.bind_some]
  simp only [fX6_isPlace_b13]
  by_cases h1 : a = -1
  · simp [h1, b2i]
  · cases thB n a <;> simp [h1, b2i]
def siB (a : Int32) : Bool := !(decide (a < 0)) && !(decide (2 ≤ a))
def naB (a : Int32) : Bool := !(decide (a < 0)) && !(decide (50 ≤ a))
theorem isSide_a {h : HH} (a : Int32) : fX7_isSide h RA a = some (b2i (siB a)) := by
  unfold fX7_isSide fX7_isSide_b13 siB
  by_cases h1 : a < 0
  · simp [h1, b2i]
  · by_cases h2 : 2 ≤ a <;> simp [h1, h2, b2i]
theorem isName_a {h : HH} (a : Int32) : fX7_isName h RA a = some (b2i (naB a)) := by
  unfold fX7_isName fX7_isName_b14 naB
  by_cases h1 : a < 0
  · simp [h1, b2i]
  · by_cases h2 : 50 ≤ a <;> simp [h1, h2, b2i]
theorem siB_n {a : Int32} (h : siB a = true) : ∃ s, s < 2 ∧ a = nI s := by
  unfold siB at h
  simp only [Bool.and_eq_true, Bool.not_eq_true', decide_eq_false_iff_not] at h
  obtain ⟨j, hj, rfl⟩ := nI_of h.1
  exact ⟨j, by have := mt (n_le (show (2 : Int32) = nI 2 by decide) (by decide) j hj).mpr h.2; omega, rfl⟩
/-- whether a place of a tree can hold things -/
def chB (F : Nat → Bool) (v : TV) (a : Int32) : Bool := decide (a = -1) || (!(decide (a < 0)) && isIn v (ix a) && F (ix a))
theorem has_a {h : HH} {T : Nat} (hT : isT T) (a : Int32) : fX5_has h RA T a = some (b2i (!(decide (a < 0)) && isIn (avA h T) (ix a))) := by
  by_cases h0 : a < 0
  · unfold fX5_has fX5_has_b23
    simp [h0, b2i]
  · obtain ⟨t, ht, rfl⟩ := nI_of h0
    by_cases h1 : t < 30
    · rw [has_n hT h1, ix_n ht]
      simp [h0]
    · unfold fX5_has fX5_has_b23 isIn
      rw [if_neg h0, if_pos ((le30 ht).mpr (by omega)), ix_n ht, avA_out h1]
      simp [b2i]
theorem isIn_lt {h : HH} {T t : Nat} (e : isIn (avA h T) t = true) : t < 30 := by
  unfold isIn at e
  by_cases h1 : t < 30
  · exact h1
  · rw [avA_out h1] at e
    cases e
/-- who stands in a tree is one of the things -/
def inN (n : Nat) (v : TV) : Prop := ∀ t, isIn v t = true → t < n
theorem canHold_a {h : HH} {w s n : Nat} {F : Nat → Bool} (hw : isW w) (hs : s < 3) (hF : ∀ t, t < n → h (w + 1) t = b2i (F t)) (hN : inN n (avA h (w + 6 + 5 * s))) (a : Int32) : fX6_canHold h RA w (w + 6 + 5 * s) a = some (b2i (chB F (avA h (w + 6 + 5 * s)) a)) := by
  unfold fX6_canHold chB
  rw [has_a (isW_T hw hs).2, Option.bind_some]
  simp only [fX6_canHold_b22, fX6_canHold_b26]
  by_cases h1 : a = -1
  · simp [h1, b2i]
  · rw [if_neg h1]
    by_cases h0 : a < 0
    · simp [h0, h1, b2i]
    · obtain ⟨t, ht, rfl⟩ := nI_of h0
      rw [ix_n ht]
      by_cases h2 : isIn (avA h (w + 6 + 5 * s)) t = true
      · have h3 := isIn_lt h2
        rw [if_neg (by simp [h0, h2, b2i]), hw.1, hw.2.2.2.2.2.1, gd_in h3 n30, hF t (hN t h2)]
        cases F t <;> simp [h0, h1, h2, b2i]
      · simp [h0, h1, h2, b2i]
