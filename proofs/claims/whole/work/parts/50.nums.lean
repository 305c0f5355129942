/-! numbers as nI n, guards, loops -/
theorem m1_ne (i : Nat) (h : i < 2 ^ 31) : ¬ nI i = -1 := by
  intro e
  have h1 := congrArg Int32.toInt e
  rw [nI_toInt h] at h1
  have h2 : (-1 : Int32).toInt = -1 := by decide
  omega
theorem n_lt0 (i : Nat) (h : i < 2 ^ 31) : ¬ nI i < 0 := nI_pos h
theorem n_le {c : Int32} {k : Nat} (hc : c = nI k) (hk : k < 2 ^ 31) (i : Nat) (h : i < 2 ^ 31) : c ≤ nI i ↔ k ≤ i := by rw [hc]; exact nI_leI hk h
theorem n_lt {c : Int32} {k : Nat} (hc : c = nI k) (hk : k < 2 ^ 31) (i : Nat) (h : i < 2 ^ 31) : c < nI i ↔ k < i := by rw [hc]; exact nI_ltI hk h
theorem inb_n {i n : Nat} (h : i < n) (hn : n < 2 ^ 31) : inb (nI i) n = true := by
  unfold inb
  exact decide_eq_true (nI_in h hn)
theorem ix_n {i : Nat} (h : i < 2 ^ 31) : ix (nI i) = i := nI_clamp h
theorem gd_t {α : Type} {c : Bool} {k : Option α} (h : c = true) : gd c k = k := by rw [h]; rfl
theorem gd_in {α : Type} {i n : Nat} {k : Option α} (h : i < n) (hn : n < 2 ^ 31) : gd (inb (nI i) n) k = k := gd_t (inb_n h hn)
theorem bz_0 {α : Type} {k : Option α} : bz 0 k = k := rfl
theorem bz_1 {α : Type} {k : Option α} : bz 1 k = k := rfl
theorem bz_t {α : Type} {x : Int32} {k : Option α} (h : x = 0 ∨ x = 1) : bz x k = k := if_pos h
theorem lt_eq {α β : Type} (x : α) (f : α → β) : lt x f = f x := rfl
theorem bi2_eq {α β γ : Type} (a : α) (b : β) (f : α → β → Option γ) : bi2 (some (a, b)) f = f a b := rfl
def b2i (p : Bool) : Int32 := if p then 1 else 0
theorem b2i_0 (p : Bool) : b2i p = 0 ↔ p = false := by cases p <;> decide
theorem b2i_01 (p : Bool) : b2i p = 0 ∨ b2i p = 1 := by cases p <;> decide
/-- the first i in [i, e) with P -/
def fnd (P : Nat → Bool) (i : Nat) : Nat → Option Nat
  | 0 => none
  | k + 1 => if P i then some i else fnd P (i + 1) k
def oI (x : Option Nat) : Int32 := match x with
  | none => -1
  | some i => nI i
theorem loop_find {β : Type} {L : Nat → Int32 → Option β} {P : Nat → Bool} {e : Nat} {g : Option Nat → Option β} (hs : ∀ n i, i < e → L (n + 1) (nI i) = if P i then g (some i) else L n (nI (i + 1))) (hx : ∀ n, L (n + 1) (nI e) = g none) : ∀ n i, i ≤ e → e - i < n → L n (nI i) = g (fnd P i (e - i)) := by
  intro n
  induction n with
  | zero => intro i h1 h2; omega
  | succ n ih =>
    intro i h1 h2
    rcases Nat.lt_or_ge i e with h | h
    · rw [hs n i h, show e - i = (e - (i + 1)) + 1 by omega]
      unfold fnd
      by_cases hp : P i = true
      · rw [if_pos hp, if_pos hp]
      · rw [if_neg hp, if_neg hp]
        exact ih (i + 1) (by omega) (by omega)
    · have : i = e := by omega
      subst this
      rw [hx, Nat.sub_self]
      rfl
/-- a loop with an invariant: each turn goes on; the exit is g -/
theorem loop_inv {σ β : Type} {L : Nat → σ → Int32 → β} {e : Nat} {I : Nat → σ → Prop} {g : σ → β} (hs : ∀ n i s, i < e → I i s → ∃ s', L (n + 1) s (nI i) = L n s' (nI (i + 1)) ∧ I (i + 1) s') (hx : ∀ n s, I e s → L (n + 1) s (nI e) = g s) : ∀ n i s, i ≤ e → e - i < n → I i s → ∃ s', I e s' ∧ L n s (nI i) = g s' := by
  intro n
  induction n with
  | zero => intro i s h1 h2; omega
  | succ n ih =>
    intro i s h1 h2 hI
    rcases Nat.lt_or_ge i e with h | h
    · obtain ⟨s', e1, hI'⟩ := hs n i s h hI
      obtain ⟨s2, h3, h4⟩ := ih (i + 1) s' (by omega) (by omega) hI'
      exact ⟨s2, h3, e1.trans h4⟩
    · have : i = e := by omega
      subst this
      exact ⟨s, hI, hx n s hI⟩
/-- the same with a fold told -/
def fld {σ : Type} (f : Nat → σ → σ) (i : Nat) : Nat → σ → σ
  | 0, s => s
  | k + 1, s => fld f (i + 1) k (f i s)
theorem fld_succ {σ : Type} (f : Nat → σ → σ) : ∀ (k i : Nat) (s : σ), fld f i (k + 1) s = f (i + k) (fld f i k s)
  | 0, i, s => rfl
  | k + 1, i, s => by
    show fld f (i + 1) (k + 1) (f i s) = _
    rw [fld_succ f k (i + 1) (f i s), show i + 1 + k = i + (k + 1) by omega]
    rfl
theorem loop_fold {σ β : Type} {L : Nat → σ → Int32 → β} {e : Nat} {f : Nat → σ → σ} {g : σ → β} (hs : ∀ n i s, i < e → L (n + 1) s (nI i) = L n (f i s) (nI (i + 1))) (hx : ∀ n s, L (n + 1) s (nI e) = g s) : ∀ n i s, i ≤ e → e - i < n → L n s (nI i) = g (fld f i (e - i) s) := by
  intro n
  induction n with
  | zero => intro i s h1 h2; omega
  | succ n ih =>
    intro i s h1 h2
    rcases Nat.lt_or_ge i e with h | h
    · rw [hs n i s h, ih (i + 1) (f i s) (by omega) (by omega), show e - i = (e - (i + 1)) + 1 by omega]
      rfl
    · have : i = e := by omega
      subst this
      rw [hx, Nat.sub_self]
      rfl
theorem l30 : (30 : Int32) = nI 30 := by decide
theorem l0 : (0 : Int32) = nI 0 := by decide
theorem l1 : (1 : Int32) = nI 1 := by decide
theorem n_p1 (i : Nat) : nI i + 1 = nI (i + 1) := nI_1 i
theorem le30 {i : Nat} (h : i < 2 ^ 31) : (30 : Int32) ≤ nI i ↔ 30 ≤ i := n_le l30 (by decide) i h
theorem lpF_eq : lpF = 4096 := rfl
theorem ite_some {α : Type} {c : Prop} [Decidable c] {a b : α} : (if c then some a else some b) = some (if c then a else b) := by split <;> rfl
/-! the places of a tree -/
def isT (T : Nat) : Prop := RA T 0 = T + 1 ∧ RA T 1 = T + 2 ∧ RA T 2 = T + 3 ∧ RA T 3 = T + 4 ∧ lnA (T + 1) = 30 ∧ lnA (T + 2) = 30 ∧ lnA (T + 3) = 30 ∧ lnA (T + 4) = 30
def isTb (T : Nat) : Bool := decide (RA T 0 = T + 1 ∧ RA T 1 = T + 2 ∧ RA T 2 = T + 3 ∧ RA T 3 = T + 4 ∧ lnA (T + 1) = 30 ∧ lnA (T + 2) = 30 ∧ lnA (T + 3) = 30 ∧ lnA (T + 4) = 30)
theorem isT_of {T : Nat} (h : isTb T = true) : isT T := by
  unfold isTb at h
  have h2 := of_decide_eq_true h
  exact h2
theorem isT_all : [8, 13, 18, 41, 46, 51, 74, 79, 84, 108].all isTb = true := by decide +kernel
abbrev TV : Type := Nat → Option (Int32 × Int32 × Int32)
/-- what a tree of the class holds -/
def avA (h : HH) (T : Nat) : TV := fun t => if t < 30 then (if h (T + 1) t = 0 then none else some (h (T + 2) t, h (T + 3) t, h (T + 4) t)) else none
theorem avA_in {h : HH} {T t : Nat} (ht : t < 30) : avA h T t = if h (T + 1) t = 0 then none else some (h (T + 2) t, h (T + 3) t, h (T + 4) t) := if_pos ht
theorem avA_out {h : HH} {T t : Nat} (ht : ¬ t < 30) : avA h T t = none := if_neg ht
def isIn (v : TV) (t : Nat) : Bool := (v t).isSome
theorem has_n {h : HH} {T t : Nat} (hT : isT T) (ht : t < 30) : fX5_has h RA T (nI t) = some (b2i (isIn (avA h T) t)) := by
  obtain ⟨r0, r1, r2, r3, n0, n1, n2, n3⟩ := hT
  unfold fX5_has fX5_has_b23
  rw [if_neg (n_lt0 t (by omega)), if_neg (fun z => by have := (le30 (by omega)).mp z; omega), r0, n0, gd_in ht (by decide), ix_n (by omega)]
  unfold isIn
  rw [avA_in ht]
  split <;> rfl
theorem has_m1 {h : HH} {T : Nat} : fX5_has h RA T (-1) = some 0 := rfl
def isAtS (v : TV) (t : Nat) (f n : Int32) : Bool := match v t with
  | none => false
  | some (a, b, _) => decide (a = f) && decide (b = n)
theorem isAt_n {h : HH} {T t : Nat} (hT : isT T) (ht : t < 30) (f n : Int32) : fX5_isAt h RA T (nI t) f n = some (b2i (isAtS (avA h T) t f n)) := by
  obtain ⟨r0, r1, r2, r3, n0, n1, n2, n3⟩ := hT
  unfold fX5_isAt
  simp only [fX5_isAt_b33, r0, r1, r2, n0, n1, n2, gd_in ht (by decide : 30 < 2 ^ 31), ix_n (show t < 2 ^ 31 by omega)]
  unfold isAtS
  rw [avA_in ht]
  by_cases h0 : h (T + 1) t = 0
  · simp [h0, b2i]
  · by_cases h1 : h (T + 2) t = f
    · by_cases h2 : h (T + 3) t = n
      · simp [h0, h1, h2, b2i]
      · simp [h0, h1, h2, b2i]
    · simp [h0, h1, b2i]
theorem standing_n {h : HH} {T : Nat} (hT : isT T) (f n : Int32) : fX5_standing h RA T f n = some (oI (fnd (fun t => isAtS (avA h T) t f n) 0 30)) := by
  unfold fX5_standing
  have key := loop_find (L := fX5_standing_b2 h RA T f n) (P := fun t => isAtS (avA h T) t f n) (e := 30) (g := fun x => some (oI x)) (fun k i hi => by
    rw [fX5_standing_b2, if_neg (fun z => by have := (le30 (by omega)).mp z; omega), isAt_n hT hi, Option.bind_some]
    by_cases hp : isAtS (avA h T) i f n = true
    · rw [if_pos hp, if_neg (by rw [b2i_0, hp]; decide)]
      rfl
    · rw [if_neg hp, if_pos (by rw [b2i_0]; simpa using hp), n_p1]) (fun k => by rw [fX5_standing_b2, if_pos ((le30 (by omega)).mpr (Nat.le_refl 30))]; rfl)
  exact key lpF 0 (by omega) (by rw [lpF_eq]; omega)
