/-! who is ignored at all: the least closed set -/
theorem G_1 : RA 103 1 = 104 := by decide +kernel
theorem G_2 : RA 103 2 = 105 := by decide +kernel
theorem G_3 : RA 103 3 = 108 := by decide +kernel
theorem G_6 : RA 103 6 = 113 := by decide +kernel
theorem G_7 : RA 103 7 = 114 := by decide +kernel
theorem G_105 : ∀ s, s < 2 → RA 105 s = 106 + s := by decide +kernel
theorem Gl_104 : lnA 104 = 30 := by decide +kernel
theorem Gl_105 : lnA 105 = 2 := by decide +kernel
theorem Gl_106 : ∀ s, s < 2 → lnA (106 + s) = 30 := by decide +kernel
theorem Gl_113 : lnA 113 = 150 := by decide +kernel
theorem Gl_114 : lnA 114 = 150 := by decide +kernel
theorem isT_108 : isT 108 := isT_of (by decide +kernel)
theorem gwd_w {α : Type} {w : Nat} (h : w = 2 ∨ w = 68) (f : Nat → Option α) : gwd (nI w) f = f w := by
  unfold gwd
  rcases h with rfl | rfl
  · rw [if_pos rfl]
  · rw [if_neg (n_ne (by decide) (by decide) (by decide)), if_pos rfl]
def st1 (v : TV) (g : Nat → Bool) (t : Nat) : Bool := isIn v t && !(decide (vF v t < 0)) && g (ix (vF v t))
def stI (V : Nat → TV) (g : Nat → Bool) (t : Nat) : Bool := st1 (V 0) g t || (st1 (V 1) g t || st1 (V 2) g t)
theorem st1_spec {n t : Nat} {F : Nat → Bool} {v : TV} {g : Nat → Bool} (hn : n ≤ 30) (hw : wfT n F v) : st1 v g t = true ↔ isIn v t = true ∧ ∃ f, f < n ∧ vF v t = nI f ∧ isIn v f = true ∧ g f = true := by
  unfold st1
  constructor
  · intro h
    simp only [Bool.and_eq_true, Bool.not_eq_true', decide_eq_false_iff_not] at h
    obtain ⟨⟨h1, h2⟩, h3⟩ := h
    rcases (hw t h1).2.1 with e | ⟨f, q1, q2, q3, q4⟩
    · exact absurd (by rw [e]; decide) h2
    · refine ⟨h1, f, q1, q2, q3, ?_⟩
      rw [q2, ix_n (by omega)] at h3
      exact h3
  · rintro ⟨h1, f, q1, q2, q3, q4⟩
    simp only [Bool.and_eq_true, Bool.not_eq_true', decide_eq_false_iff_not]
    refine ⟨⟨h1, ?_⟩, ?_⟩
    · rw [q2]; exact n_lt0 f (by omega)
    · rw [q2, ix_n (by omega)]; exact q4
theorem stI_spec {n t : Nat} {F : Nat → Bool} {V : Nat → TV} {g : Nat → Bool} (hn : n ≤ 30) (hw : ∀ s, s < 3 → wfT n F (V s)) : stI V g t = true ↔ ∃ s, s < 3 ∧ isIn (V s) t = true ∧ ∃ f, f < n ∧ vF (V s) t = nI f ∧ isIn (V s) f = true ∧ g f = true := by
  unfold stI
  simp only [Bool.or_eq_true, st1_spec hn (hw 0 (by decide)), st1_spec hn (hw 1 (by decide)), st1_spec hn (hw 2 (by decide))]
  constructor
  · rintro (h | h | h)
    · exact ⟨0, by decide, h⟩
    · exact ⟨1, by decide, h⟩
    · exact ⟨2, by decide, h⟩
  · rintro ⟨s, hs, h⟩
    have : s = 0 ∨ s = 1 ∨ s = 2 := by omega
    rcases this with rfl | rfl | rfl
    · exact Or.inl h
    · exact Or.inr (Or.inl h)
    · exact Or.inr (Or.inr h)
noncomputable def ig0 (V : Nat → TV) (P : List PT) (t : Nat) : Bool := (isIn (V 0) t && ignT P (V 0) t) || ((isIn (V 1) t && ignT P (V 1) t) || (isIn (V 2) t && ignT P (V 2) t))
def clsd (V : Nat → TV) (g : Nat → Bool) : Prop := ∀ t, stI V g t = true → g t = true
def igQ (V : Nat → TV) (P : List PT) (t : Nat) : Prop := ∀ g : Nat → Bool, (∀ u, ig0 V P u = true → g u = true) → clsd V g → g t = true
noncomputable def igA (V : Nat → TV) (P : List PT) (t : Nat) : Bool := @decide (igQ V P t) (Classical.propDecidable _)
theorem igA_iff {V : Nat → TV} {P : List PT} {t : Nat} : igA V P t = true ↔ igQ V P t := @decide_eq_true_iff _ (Classical.propDecidable _)
theorem st1_mono {v : TV} {g g' : Nat → Bool} (h : ∀ u, g u = true → g' u = true) {t : Nat} (e : st1 v g t = true) : st1 v g' t = true := by
  unfold st1 at e ⊢
  simp only [Bool.and_eq_true] at e ⊢
  exact ⟨e.1, h _ e.2⟩
theorem stI_mono {V : Nat → TV} {g g' : Nat → Bool} (h : ∀ u, g u = true → g' u = true) {t : Nat} (e : stI V g t = true) : stI V g' t = true := by
  unfold stI at e ⊢
  simp only [Bool.or_eq_true] at e ⊢
  rcases e with e | e | e
  · exact Or.inl (st1_mono h e)
  · exact Or.inr (Or.inl (st1_mono h e))
  · exact Or.inr (Or.inr (st1_mono h e))
theorem igQ_0 {V : Nat → TV} {P : List PT} {t : Nat} (h : ig0 V P t = true) : igQ V P t := fun _ h0 _ => h0 t h
theorem igQ_s {V : Nat → TV} {P : List PT} {t : Nat} {g : Nat → Bool} (hg : ∀ u, g u = true → igQ V P u) (h : stI V g t = true) : igQ V P t := fun g' h0 hc => hc t (stI_mono (fun u hu => hg u hu g' h0 hc) h)
theorem igA_of {V : Nat → TV} {P : List PT} {g : Nat → Bool} (h0 : ∀ u, ig0 V P u = true → g u = true) (hc : clsd V g) (hm : ∀ u, g u = true → igQ V P u) (t : Nat) : g t = igA V P t := by
  cases e : igA V P t with
  | true => exact igA_iff.mp e g h0 hc
  | false =>
    cases e2 : g t with
    | false => rfl
    | true => rw [igA_iff.mpr (hm t e2)] at e; cases e
theorem igA_closed {V : Nat → TV} {P : List PT} : clsd V (igA V P) := fun t h => igA_iff.mpr (igQ_s (fun u hu => igA_iff.mp hu) h)
theorem igA_lt {V : Nat → TV} {P : List PT} {n t : Nat} {F : Nat → Bool} (hw : ∀ s, s < 3 → wfT n F (V s)) (h : igA V P t = true) : t < n := by
  have hin : ∀ u, (isIn (V 0) u = true ∨ isIn (V 1) u = true ∨ isIn (V 2) u = true) → u < n := by
    rintro u (z | z | z)
    · exact (hw 0 (by decide) u z).1
    · exact (hw 1 (by decide) u z).1
    · exact (hw 2 (by decide) u z).1
  have := igA_iff.mp h (fun u => decide (u < n)) (fun u hu => by
    unfold ig0 at hu
    simp only [Bool.or_eq_true, Bool.and_eq_true] at hu
    exact decide_eq_true (hin u (by rcases hu with z | z | z <;> simp [z.1]))) (fun u hu => by
    unfold stI st1 at hu
    simp only [Bool.or_eq_true, Bool.and_eq_true] at hu
    exact decide_eq_true (hin u (by rcases hu with z | z | z <;> simp [z.1.1])))
  exact of_decide_eq_true this
/-- how many aren't -/
def nfc (g : Nat → Bool) : Nat → Nat
  | 0 => 0
  | k + 1 => nfc g k + (if g k = true then 0 else 1)
theorem nfc_le {g : Nat → Bool} : ∀ k, nfc g k ≤ k
  | 0 => Nat.le_refl _
  | k + 1 => by
    unfold nfc
    have := nfc_le (g := g) k
    split <;> omega
theorem nfc_mono {g g' : Nat → Bool} (h : ∀ u, g u = true → g' u = true) : ∀ k, nfc g' k ≤ nfc g k
  | 0 => Nat.le_refl _
  | k + 1 => by
    unfold nfc
    have := nfc_mono h k
    by_cases e : g k = true
    · rw [if_pos e, if_pos (h k e)]; omega
    · rw [if_neg e]
      split <;> omega
theorem nfc_less {g g' : Nat → Bool} (h : ∀ u, g u = true → g' u = true) {t : Nat} (h1 : g t = false) (h2 : g' t = true) : ∀ k, t < k → nfc g' k < nfc g k
  | 0, e => absurd e (by omega)
  | k + 1, e => by
    unfold nfc
    by_cases et : t = k
    · subst et
      rw [if_pos h2, if_neg (by rw [h1]; decide)]
      have := nfc_mono h t
      omega
    · have := nfc_less h h1 h2 k (by omega)
      by_cases e : g k = true
      · rw [if_pos e, if_pos (h k e)]; omega
      · rw [if_neg e]
        split <;> omega
theorem nfc_0 {g : Nat → Bool} : ∀ k, nfc g k = 0 → ∀ t, t < k → g t = true
  | 0, _, t, ht => absurd ht (by omega)
  | k + 1, h, t, ht => by
    unfold nfc at h
    by_cases e : g k = true
    · rw [if_pos e] at h
      by_cases et : t = k
      · rw [et]; exact e
      · exact nfc_0 k (by omega) t (by omega)
    · rw [if_neg e] at h
      omega
theorem stI_lt {V : Nat → TV} {g : Nat → Bool} {n t : Nat} {F : Nat → Bool} (hw : ∀ s, s < 3 → wfT n F (V s)) (h : stI V g t = true) : t < n := by
  unfold stI st1 at h
  simp only [Bool.or_eq_true, Bool.and_eq_true] at h
  rcases h with z | z | z
  · exact (hw 0 (by decide) t z.1.1).1
  · exact (hw 1 (by decide) t z.1.1).1
  · exact (hw 2 (by decide) t z.1.1).1
/-! the class's closing-up -/
theorem stands1_a {h : HH} {T : Nat} {v : TV} {g : Nat → Bool} {t n : Nat} {F : Nat → Bool} (hn : n ≤ 30) (hv : avA h T = v) (hc : clT h T) (hw : wfT n F v) (ht : t < 30) (hg : ∀ u, u < 30 → h 104 u = b2i (g u)) {α : Type} (x y : α) : (if h (T + 2) t < 0 then x else if 30 ≤ h (T + 2) t then x else if h 104 (ix (h (T + 2) t)) = 0 then x else y) = if st1 v g t = true then y else x := by
  have hr := (cl_rows hc ht).2.1
  rw [hv] at hr
  rw [hr]
  cases hin : isIn v t with
  | false =>
    have e : vF v t = -1 := by
      unfold isIn at hin
      unfold vF
      cases e : v t with
      | none => rfl
      | some y => rw [e] at hin; cases hin
    rw [e, if_pos (by decide)]
    unfold st1
    rw [hin]
    rfl
  | true =>
    rcases (hw t hin).2.1 with e | ⟨f, q1, q2, q3, q4⟩
    · rw [e, if_pos (by decide)]
      unfold st1
      rw [hin, e]
      rfl
    · have hs : st1 v g t = g f := by
        unfold st1
        rw [hin, q2, ix_n (by omega)]
        simp [n_lt0 f (by omega)]
      rw [hs, q2, if_neg (n_lt0 f (by omega)), if_neg (fun z => by have := (le30 (by omega)).mp z; omega), ix_n (by omega), hg f (by omega), b2i_if]
