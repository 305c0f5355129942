/-! writes to a tree of the class -/
theorem up_same {h : HH} {p k : Nat} {x : Int32} : up h p k x p k = x := by unfold up; rw [if_pos ⟨rfl, rfl⟩]
theorem up_at {h : HH} {p k : Nat} {x : Int32} {j : Nat} : up h p k x p j = if j = k then x else h p j := by unfold up; simp
theorem zn_0 : zn 0 = 0 := by decide
theorem zn_1 : zn 1 = 1 := by decide
theorem zn_b (p : Bool) : zn (b2i p) = b2i p := by cases p <;> decide
/-- one row t of the tree T -/
def wr4 (h : HH) (T t : Nat) (a b c d : Int32) : HH := up (up (up (up h (T + 1) t a) (T + 2) t b) (T + 3) t c) (T + 4) t d
theorem wr4_ne {h : HH} {T t : Nat} {a b c d : Int32} {q : Nat} (h1 : q ≠ T + 1) (h2 : q ≠ T + 2) (h3 : q ≠ T + 3) (h4 : q ≠ T + 4) : wr4 h T t a b c d q = h q := by
  unfold wr4
  rw [up_ne h4, up_ne h3, up_ne h2, up_ne h1]
theorem wr4_1 {h : HH} {T t : Nat} {a b c d : Int32} (j : Nat) : wr4 h T t a b c d (T + 1) j = if j = t then a else h (T + 1) j := by
  unfold wr4
  rw [up_ne (by omega), up_ne (by omega), up_ne (by omega), up_at]
theorem wr4_2 {h : HH} {T t : Nat} {a b c d : Int32} (j : Nat) : wr4 h T t a b c d (T + 2) j = if j = t then b else h (T + 2) j := by
  unfold wr4
  rw [up_ne (by omega), up_ne (by omega), up_at, up_ne (by omega)]
theorem wr4_3 {h : HH} {T t : Nat} {a b c d : Int32} (j : Nat) : wr4 h T t a b c d (T + 3) j = if j = t then c else h (T + 3) j := by
  unfold wr4
  rw [up_ne (by omega), up_at, up_ne (by omega), up_ne (by omega)]
theorem wr4_4 {h : HH} {T t : Nat} {a b c d : Int32} (j : Nat) : wr4 h T t a b c d (T + 4) j = if j = t then d else h (T + 4) j := by
  unfold wr4
  rw [up_at, up_ne (by omega), up_ne (by omega), up_ne (by omega)]
/-- a thing becomes x -/
def upV (v : TV) (t : Nat) (x : Option (Int32 × Int32 × Int32)) : TV := fun j => if j = t then x else v j
theorem avA_wr0 {h : HH} {T t : Nat} {b c d : Int32} : avA (wr4 h T t 0 b c d) T = upV (avA h T) t none := by
  funext j
  unfold avA upV
  rw [wr4_1, wr4_2, wr4_3, wr4_4]
  by_cases e : j = t
  · simp only [e, if_true]
    split <;> rfl
  · simp only [e, if_false]
theorem avA_wr1 {h : HH} {T t : Nat} {b c d : Int32} (ht : t < 30) : avA (wr4 h T t 1 b c d) T = upV (avA h T) t (some (b, c, d)) := by
  funext j
  unfold avA upV
  rw [wr4_1, wr4_2, wr4_3, wr4_4]
  by_cases e : j = t
  · simp only [e, if_true, ht]
    rfl
  · simp only [e, if_false]
theorem avA_eq {h h' : HH} {T : Nat} (h1 : h' (T + 1) = h (T + 1)) (h2 : h' (T + 2) = h (T + 2)) (h3 : h' (T + 3) = h (T + 3)) (h4 : h' (T + 4) = h (T + 4)) : avA h' T = avA h T := by
  unfold avA
  rw [h1, h2, h3, h4]
theorem avA_wr_ne {h : HH} {T T' t : Nat} {a b c d : Int32} (e : T' + 5 ≤ T ∨ T + 5 ≤ T') : avA (wr4 h T' t a b c d) T = avA h T :=
  avA_eq (wr4_ne (by omega) (by omega) (by omega) (by omega)) (wr4_ne (by omega) (by omega) (by omega) (by omega)) (wr4_ne (by omega) (by omega) (by omega) (by omega)) (wr4_ne (by omega) (by omega) (by omega) (by omega))
/-- clean: who isn't there has NONE everywhere -/
def clT (h : HH) (T : Nat) : Prop := ∀ t, t < 30 → (h (T + 1) t = 0 ∧ h (T + 2) t = -1 ∧ h (T + 3) t = -1 ∧ h (T + 4) t = -1) ∨ h (T + 1) t = 1
theorem clT_eq {h h' : HH} {T : Nat} (h1 : h' (T + 1) = h (T + 1)) (h2 : h' (T + 2) = h (T + 2)) (h3 : h' (T + 3) = h (T + 3)) (h4 : h' (T + 4) = h (T + 4)) (hc : clT h T) : clT h' T := by
  intro t ht
  rw [h1, h2, h3, h4]
  exact hc t ht
theorem clT_wr_ne {h : HH} {T T' t : Nat} {a b c d : Int32} (e : T' + 5 ≤ T ∨ T + 5 ≤ T') (hc : clT h T) : clT (wr4 h T' t a b c d) T :=
  clT_eq (wr4_ne (by omega) (by omega) (by omega) (by omega)) (wr4_ne (by omega) (by omega) (by omega) (by omega)) (wr4_ne (by omega) (by omega) (by omega) (by omega)) (wr4_ne (by omega) (by omega) (by omega) (by omega)) hc
theorem clT_wr0 {h : HH} {T t : Nat} (hc : clT h T) : clT (wr4 h T t 0 (-1) (-1) (-1)) T := by
  intro j hj
  rw [wr4_1, wr4_2, wr4_3, wr4_4]
  by_cases e : j = t
  · simp only [e, if_true]; exact Or.inl ⟨trivial, trivial, trivial, trivial⟩
  · simp only [e, if_false]; exact hc j hj
theorem clT_wr1 {h : HH} {T t : Nat} {b c d : Int32} (hc : clT h T) : clT (wr4 h T t 1 b c d) T := by
  intro j hj
  rw [wr4_1, wr4_2, wr4_3, wr4_4]
  by_cases e : j = t
  · simp only [e, if_true]; exact Or.inr trivial
  · simp only [e, if_false]; exact hc j hj
def vF (v : TV) (t : Nat) : Int32 := match v t with | none => -1 | some (a, _, _) => a
def vN (v : TV) (t : Nat) : Int32 := match v t with | none => -1 | some (_, b, _) => b
def vC (v : TV) (t : Nat) : Int32 := match v t with | none => -1 | some (_, _, c) => c
theorem cl_rows {h : HH} {T t : Nat} (hc : clT h T) (ht : t < 30) : h (T + 1) t = b2i (isIn (avA h T) t) ∧ h (T + 2) t = vF (avA h T) t ∧ h (T + 3) t = vN (avA h T) t ∧ h (T + 4) t = vC (avA h T) t := by
  unfold isIn vF vN vC
  rw [avA_in ht]
  rcases hc t ht with ⟨h1, h2, h3, h4⟩ | h1
  · simp [h1, h2, h3, h4, b2i]
  · simp [h1, b2i]
theorem takeOut_n {h : HH} {T t : Nat} (hT : isT T) (ht : t < 30) : fX5_takeOut h RA T (nI t) = some (wr4 h T t 0 (-1) (-1) (-1)) := by
  obtain ⟨r0, r1, r2, r3, n0, n1, n2, n3⟩ := hT
  unfold fX5_takeOut
  simp only [lt_eq, r0, r1, r2, r3, n0, n1, n2, n3, gd_in ht n30, ix_n (show t < 2 ^ 31 by omega), zn_0]
  rfl
theorem put_n {h : HH} {T t : Nat} (hT : isT T) (ht : t < 30) (a b c : Int32) : fX5_put h RA T (nI t) a b c = some (wr4 h T t 1 a b c) := by
  obtain ⟨r0, r1, r2, r3, n0, n1, n2, n3⟩ := hT
  unfold fX5_put
  simp only [lt_eq, r0, r1, r2, r3, n0, n1, n2, n3, gd_in ht n30, ix_n (show t < 2 ^ 31 by omega), zn_1]
  rfl
theorem putAsIn_n {h : HH} {T G t : Nat} (hT : isT T) (hG : isT G) (ht : t < 30) (e : T + 5 ≤ G ∨ G + 5 ≤ T) (hc : clT h G) : fX5_putAsIn h RA T G (nI t) = some (wr4 h T t (b2i (isIn (avA h G) t)) (vF (avA h G) t) (vN (avA h G) t) (vC (avA h G) t)) := by
  obtain ⟨r0, r1, r2, r3, n0, n1, n2, n3⟩ := hT
  obtain ⟨g0, g1, g2, g3, m0, m1, m2, m3⟩ := hG
  obtain ⟨c1, c2, c3, c4⟩ := cl_rows hc ht
  unfold fX5_putAsIn
  simp only [lt_eq, r0, r1, r2, r3, n0, n1, n2, n3, g0, g1, g2, g3, m0, m1, m2, m3, gd_in ht n30, ix_n (show t < 2 ^ 31 by omega)]
  rw [c1, zn_b, up_ne (show G + 2 ≠ T + 1 by omega), c2, up_ne (show G + 3 ≠ T + 2 by omega), up_ne (show G + 3 ≠ T + 1 by omega), c3, up_ne (show G + 4 ≠ T + 3 by omega), up_ne (show G + 4 ≠ T + 2 by omega), up_ne (show G + 4 ≠ T + 1 by omega), c4]
  rfl
/-- the row as in v -/
theorem avA_wrV {h : HH} {T t : Nat} {v : TV} (ht : t < 30) : avA (wr4 h T t (b2i (isIn v t)) (vF v t) (vN v t) (vC v t)) T = upV (avA h T) t (v t) := by
  unfold isIn vF vN vC
  cases e : v t with
  | none => exact avA_wr0
  | some x => obtain ⟨a, b, c⟩ := x; exact avA_wr1 ht
theorem clT_wrV {h : HH} {T t : Nat} {v : TV} (hc : clT h T) : clT (wr4 h T t (b2i (isIn v t)) (vF v t) (vN v t) (vC v t)) T := by
  unfold isIn vF vN vC
  cases e : v t with
  | none => exact clT_wr0 hc
  | some x => obtain ⟨a, b, c⟩ := x; exact clT_wr1 hc
/-- only the rows of the tree T are other ones -/
def frT (T : Nat) (h h' : HH) : Prop := ∀ q, q ≠ T + 1 → q ≠ T + 2 → q ≠ T + 3 → q ≠ T + 4 → h' q = h q
theorem frT_rfl {T : Nat} {h : HH} : frT T h h := fun _ _ _ _ _ => rfl
theorem frT_wr {T t : Nat} {h : HH} {a b c d : Int32} : frT T h (wr4 h T t a b c d) := fun _ h1 h2 h3 h4 => wr4_ne h1 h2 h3 h4
theorem frT_trans {T : Nat} {h h' h'' : HH} (a : frT T h h') (b : frT T h' h'') : frT T h h'' := fun q h1 h2 h3 h4 => (b q h1 h2 h3 h4).trans (a q h1 h2 h3 h4)
theorem frT_av {T G : Nat} {h h' : HH} (a : frT T h h') (e : T + 5 ≤ G ∨ G + 5 ≤ T) : avA h' G = avA h G := avA_eq (a _ (by omega) (by omega) (by omega) (by omega)) (a _ (by omega) (by omega) (by omega) (by omega)) (a _ (by omega) (by omega) (by omega) (by omega)) (a _ (by omega) (by omega) (by omega) (by omega))
theorem frT_cl {T G : Nat} {h h' : HH} (a : frT T h h') (e : T + 5 ≤ G ∨ G + 5 ≤ T) (hc : clT h G) : clT h' G := clT_eq (a _ (by omega) (by omega) (by omega) (by omega)) (a _ (by omega) (by omega) (by omega) (by omega)) (a _ (by omega) (by omega) (by omega) (by omega)) (a _ (by omega) (by omega) (by omega) (by omega)) hc
theorem clear_n {h : HH} {T : Nat} (hT : isT T) : ∃ h', fX5_clear h RA T = some h' ∧ frT T h h' ∧ avA h' T = (fun _ => none) ∧ clT h' T := by
  have key := loop_inv (L := fX5_clear_b2 RA T) (e := 30) (I := fun i s => frT T h s ∧ ∀ t, t < i → s (T + 1) t = 0 ∧ s (T + 2) t = -1 ∧ s (T + 3) t = -1 ∧ s (T + 4) t = -1) (g := fun s => some s) (fun n i s hi hI => by
    refine ⟨wr4 s T i 0 (-1) (-1) (-1), ?_, frT_trans hI.1 frT_wr, ?_⟩
    · rw [fX5_clear_b2, if_neg (fun z => by have := (le30 (by omega)).mp z; omega), takeOut_n hT hi, Option.bind_some, n_p1]
    · intro t ht
      rw [wr4_1, wr4_2, wr4_3, wr4_4]
      by_cases e : t = i
      · simp only [e, if_true]; exact ⟨trivial, trivial, trivial, trivial⟩
      · simp only [e, if_false]; exact hI.2 t (by omega)) (fun n s hI => by rw [fX5_clear_b2, if_pos ((le30 (by omega)).mpr (Nat.le_refl 30))])
  obtain ⟨s', ⟨h1, h2⟩, h3⟩ := key lpF 0 h (by omega) (by rw [lpF_eq]; omega) ⟨frT_rfl, fun t ht => by omega⟩
  refine ⟨s', h3, h1, ?_, fun t ht => Or.inl (h2 t ht)⟩
  funext t
  unfold avA
  split
  · rename_i ht
    rw [if_pos (h2 t ht).1]
  · rfl
