/-! a tree of the class: what its methods answer and do, in words of what it holds -/
theorem n30 : (30 : Nat) < 2 ^ 31 := by decide
theorem nI_inj {a b : Nat} (ha : a < 2 ^ 31) (hb : b < 2 ^ 31) (h : nI a = nI b) : a = b := (nI_eq ha hb).mp h
theorem gd_inv {α : Type} {c : Bool} {k : Option α} (h : c = false) : gd c k = none := by rw [h]; rfl
theorem fold_c {β : Type} {P : Nat → Bool} {L : Nat → Int32 → Int32 → Option β} {e : Nat} {g : Int32 → Option β} (hs : ∀ n i s, i < e → L (n + 1) s (nI i) = L n (if P i then s + 1 else s) (nI (i + 1))) (hx : ∀ n s, L (n + 1) s (nI e) = g s) : ∀ n i s, i ≤ e → e - i < n → L n s (nI i) = g (fld (fun i s => if P i then s + 1 else s) i (e - i) s) := loop_fold hs hx
/-- how many i in [0, e) with P -/
def cnt (P : Nat → Bool) (e : Nat) : Int32 := fld (fun i s => if P i then s + 1 else s) 0 e 0
theorem fld_congr {σ : Type} {f g : Nat → σ → σ} : ∀ (k i : Nat) (s : σ), (∀ j s, i ≤ j → j < i + k → f j s = g j s) → fld f i k s = fld g i k s
  | 0, _, _, _ => rfl
  | k + 1, i, s, h => by
    show fld f (i + 1) k (f i s) = fld g (i + 1) k (g i s)
    rw [h i s (Nat.le_refl _) (by omega)]
    exact fld_congr k (i + 1) _ (fun j s h1 h2 => h j s (by omega) (by omega))
theorem cnt_congr {P Q : Nat → Bool} {e : Nat} (h : ∀ i, i < e → P i = Q i) : cnt P e = cnt Q e := fld_congr e 0 0 (fun j s _ h2 => by
  simp only [h j (by omega)])
theorem fnd_congr {P Q : Nat → Bool} : ∀ (k i : Nat), (∀ j, i ≤ j → j < i + k → P j = Q j) → fnd P i k = fnd Q i k
  | 0, _, _ => rfl
  | k + 1, i, h => by
    unfold fnd
    rw [h i (Nat.le_refl _) (by omega), fnd_congr k (i + 1) (fun j h1 h2 => h j (by omega) (by omega))]
theorem fnd_none {P : Nat → Bool} : ∀ (k i : Nat), (∀ j, i ≤ j → j < i + k → P j = false) → fnd P i k = none
  | 0, _, _ => rfl
  | k + 1, i, h => by
    unfold fnd
    rw [h i (Nat.le_refl _) (by omega), fnd_none k (i + 1) (fun j h1 h2 => h j (by omega) (by omega))]
    rfl
theorem fnd_app {P : Nat → Bool} : ∀ (a b i : Nat), (∀ j, i + a ≤ j → j < i + a + b → P j = false) → fnd P i (a + b) = fnd P i a
  | 0, b, i, h => by
    rw [Nat.zero_add]
    exact fnd_none b i (fun j h1 h2 => h j (by omega) (by omega))
  | a + 1, b, i, h => by
    rw [show a + 1 + b = (a + b) + 1 by omega]
    unfold fnd
    rw [fnd_app a b (i + 1) (fun j h1 h2 => h j (by omega) (by omega))]
theorem cnt_more {P : Nat → Bool} {a b : Nat} (h : ∀ j, a ≤ j → j < a + b → P j = false) : cnt P (a + b) = cnt P a := by
  induction b with
  | zero => rfl
  | succ b ih =>
    have e : cnt P (a + (b + 1)) = (fun i s => if P i then s + 1 else s) (0 + (a + b)) (cnt P (a + b)) := fld_succ _ (a + b) 0 0
    rw [e]
    simp only [Nat.zero_add]
    rw [h (a + b) (by omega) (by omega), ih (fun j h1 h2 => h j h1 (by omega))]
    simp
theorem size_n {h : HH} {T : Nat} (hT : isT T) : fX5_size h RA T = some (cnt (fun t => isIn (avA h T) t) 30) := by
  obtain ⟨r0, r1, r2, r3, n0, n1, n2, n3⟩ := hT
  have key := loop_fold (L := fX5_size_b4 h RA T) (e := 30) (f := fun i s => if isIn (avA h T) i then s + 1 else s) (g := fun s => some s) (fun n i s hi => by
    rw [fX5_size_b4, if_neg (fun z => by have := (le30 (by omega)).mp z; omega), r0, n0, gd_in hi n30, ix_n (by omega)]
    simp only [fX5_size_b22, n_p1]
    unfold isIn
    rw [avA_in hi]
    by_cases h0 : h (T + 1) i = 0 <;> simp [h0]) (fun n s => by rw [fX5_size_b4, if_pos ((le30 (by omega)).mpr (Nat.le_refl 30))])
  exact key lpF 0 0 (by omega) (by rw [lpF_eq]; omega)
/-- how many folders up from at to a thing -/
def suS (v : TV) (to : Int32) : Nat → Int32 → Option Nat
  | 0, _ => none
  | k + 1, at_ => if at_ < 0 ∨ (30 : Int32) ≤ at_ then none else match v (ix at_) with
    | none => none
    | some (f, _, _) => if at_ = to then some 0 else (suS v to k f).map (· + 1)
theorem i30 {x : Int32} (h : ¬ (x < 0 ∨ (30 : Int32) ≤ x)) : ∃ t, t < 30 ∧ x = nI t := by
  obtain ⟨j, hj, e⟩ := nI_of (fun z => h (Or.inl z))
  subst e
  refine ⟨j, ?_, rfl⟩
  have := mt (le30 hj).mpr (fun z => h (Or.inr z))
  omega
theorem stepsUp_b {h : HH} {T : Nat} (hT : isT T) (a1 to : Int32) : ∀ (n k j : Nat) (x : Int32), j + k = 31 → k < n → fX5_stepsUp_b5 h RA T a1 to n x (nI j) = some (oI ((suS (avA h T) to k x).map (· + j))) := by
  obtain ⟨r0, r1, r2, r3, n0, n1, n2, n3⟩ := hT
  intro n
  induction n with
  | zero => intro k j x h1 h2; omega
  | succ n ih =>
    intro k j x h1 h2
    rw [fX5_stepsUp_b5]
    cases k with
    | zero =>
      rw [if_pos ((n_lt l30 n30 j (by omega)).mpr (by omega))]
      rfl
    | succ k =>
      rw [if_neg (fun z => by have := (n_lt l30 n30 j (by omega)).mp z; omega)]
      unfold suS
      by_cases hx : x < 0 ∨ (30 : Int32) ≤ x
      · rw [if_pos hx]
        rcases hx with hx | hx
        · rw [if_pos hx]; rfl
        · by_cases h0 : x < 0
          · rw [if_pos h0]; rfl
          · rw [if_neg h0, if_pos hx]; rfl
      · rw [if_neg hx, if_neg (fun z => hx (Or.inl z)), if_neg (fun z => hx (Or.inr z))]
        obtain ⟨t, ht, rfl⟩ := i30 hx
        rw [r0, n0, gd_in ht n30, ix_n (by omega), avA_in ht]
        by_cases h0 : h (T + 1) t = 0
        · rw [if_neg (fun z => z h0), if_pos h0]; rfl
        · rw [if_pos h0, if_neg h0]
          by_cases he : nI t = to
          · simp only [he, if_true, not_true_eq_false, if_false, Option.map_some, Nat.zero_add]
            rfl
          · rw [if_pos he, r1, n1, gd_in ht n30, lt_eq, n_p1, ih k (j + 1) _ (by omega) (by omega)]
            simp only [he, if_false, Option.map_map]
            congr 2
            have e9 : ((fun x => x + j) ∘ fun x => x + 1) = (fun x : Nat => x + (j + 1)) := by funext z; simp only [Function.comp]; omega
            rw [e9]
theorem stepsUp_n {h : HH} {T : Nat} (hT : isT T) (from_ to : Int32) : fX5_stepsUp h RA T from_ to = some (oI (suS (avA h T) to 31 from_)) := by
  have key := stepsUp_b (h := h) hT from_ to lpF 31 0 from_ (by omega) (by rw [lpF_eq]; omega)
  unfold fX5_stepsUp
  rw [l0, key]
  simp
theorem oI_m1 {x : Option Nat} (h : ∀ a, x = some a → a < 2 ^ 31) : oI x = -1 ↔ x = none := by
  cases x with
  | none => exact ⟨fun _ => rfl, fun _ => rfl⟩
  | some a => exact ⟨fun z => absurd z (m1_ne a (h a rfl)), fun z => by cases z⟩
theorem suS_lt {v : TV} {to : Int32} : ∀ {k : Nat} {x : Int32} {a : Nat}, suS v to k x = some a → a < k := by
  intro k
  induction k with
  | zero => intro x a h; cases h
  | succ k ih =>
    intro x a h
    unfold suS at h
    split at h
    · cases h
    · split at h
      · cases h
      · rename_i f _ _ _
        split at h
        · cases h; omega
        · cases hz : suS v to k f with
          | none => rw [hz] at h; cases h
          | some z =>
            rw [hz] at h
            have h2 : z + 1 = a := Option.some.inj h
            have := ih hz
            omega
/-- whether a thing is an inner one of another one -/
def inS (v : TV) (t : Nat) (of : Int32) : Bool := match v t with
  | none => false
  | some (f, _, _) => (suS v of 31 f).isSome
theorem isInner_n {h : HH} {T t : Nat} (hT : isT T) (ht : t < 30) (of : Int32) : fX5_isInner h RA T (nI t) of = some (b2i (inS (avA h T) t of)) := by
  have hT0 := hT
  obtain ⟨r0, r1, r2, r3, n0, n1, n2, n3⟩ := hT
  unfold fX5_isInner fX5_isInner_b27
  rw [has_n hT0 ht, Option.bind_some, r1, n1, gd_in ht n30, ix_n (by omega), stepsUp_n hT0, Option.bind_some]
  unfold inS isIn
  by_cases h0 : h (T + 1) t = 0
  · have e : avA h T t = none := by rw [avA_in ht, if_pos h0]
    rw [e]; rfl
  · have e : avA h T t = some (h (T + 2) t, h (T + 3) t, h (T + 4) t) := by rw [avA_in ht, if_neg h0]
    rw [e]
    simp only [Option.isSome_some]
    rw [if_neg (by decide)]
    cases hz : suS (avA h T) of 31 (h (T + 2) t) with
    | none => rfl
    | some a =>
      rw [if_neg (fun z => by
        have := (oI_m1 (fun b hb => by have := suS_lt (hz.trans (congrArg some (Option.some.inj hb))); have := Option.some.inj hb; omega)).mp z
        cases this)]
      rfl
theorem innerOnes_n {h : HH} {T : Nat} (hT : isT T) (of : Int32) : fX5_innerOnes h RA T of = some (cnt (fun t => inS (avA h T) t of) 30) := by
  have key := loop_fold (L := fX5_innerOnes_b4 h RA T of) (e := 30) (f := fun i s => if inS (avA h T) i of then s + 1 else s) (g := fun s => some s) (fun n i s hi => by
    rw [fX5_innerOnes_b4, if_neg (fun z => by have := (le30 (by omega)).mp z; omega), isInner_n hT hi, Option.bind_some]
    simp only [fX5_innerOnes_b22, n_p1]
    cases inS (avA h T) i of <;> simp [b2i]) (fun n s => by rw [fX5_innerOnes_b4, if_pos ((le30 (by omega)).mpr (Nat.le_refl 30))])
  exact key lpF 0 0 (by omega) (by rw [lpF_eq]; omega)
/-- how many things are met going up, fuel k -/
def dpS (v : TV) : Nat → Int32 → Nat
  | 0, _ => 0
  | k + 1, at_ => if at_ < 0 ∨ (30 : Int32) ≤ at_ then 0 else match v (ix at_) with
    | none => 0
    | some (f, _, _) => dpS v k f + 1
theorem dpS_le {v : TV} : ∀ {k : Nat} {x : Int32}, dpS v k x ≤ k := by
  intro k
  induction k with
  | zero => intro x; exact Nat.le_refl _
  | succ k ih =>
    intro x
    unfold dpS
    split
    · omega
    · split
      · omega
      · rename_i f _ _ _
        have := ih (x := f)
        omega
theorem depth_b {h : HH} {T : Nat} (hT : isT T) (a1 : Int32) : ∀ (n k j : Nat) (x : Int32), j + k = 30 → k < n → fX5_depth_b4 h RA T a1 n (nI j) x = some (nI (j + dpS (avA h T) k x) - 1) := by
  obtain ⟨r0, r1, r2, r3, n0, n1, n2, n3⟩ := hT
  intro n
  induction n with
  | zero => intro k j x h1 h2; omega
  | succ n ih =>
    intro k j x h1 h2
    rw [fX5_depth_b4]
    cases k with
    | zero =>
      rw [if_pos ((le30 (by omega)).mpr (by omega))]
      rfl
    | succ k =>
      rw [if_neg (fun z => by have := (le30 (by omega)).mp z; omega)]
      unfold dpS
      by_cases hx : x < 0 ∨ (30 : Int32) ≤ x
      · rw [if_pos hx]
        rcases hx with hx | hx
        · rw [if_pos hx]; rfl
        · by_cases h0 : x < 0
          · rw [if_pos h0]; rfl
          · rw [if_neg h0, if_pos hx]; rfl
      · rw [if_neg hx, if_neg (fun z => hx (Or.inl z)), if_neg (fun z => hx (Or.inr z))]
        obtain ⟨t, ht, rfl⟩ := i30 hx
        rw [r0, n0, gd_in ht n30, ix_n (by omega), avA_in ht]
        by_cases h0 : h (T + 1) t = 0
        · simp only [h0, if_true]; rfl
        · simp only [h0, if_false]
          rw [r1, n1, gd_in ht n30, lt_eq, n_p1, ih k (j + 1) _ (by omega) (by omega)]
          rw [show j + 1 + dpS (avA h T) k (h (T + 2) t) = j + (dpS (avA h T) k (h (T + 2) t) + 1) by omega]
theorem depth_n {h : HH} {T : Nat} (hT : isT T) (a : Int32) : fX5_depth h RA T a = some (nI (dpS (avA h T) 30 a) - 1) := by
  have key := depth_b (h := h) hT a lpF 30 0 a (by omega) (by rw [lpF_eq]; omega)
  unfold fX5_depth
  rw [l0, key, Nat.zero_add]
