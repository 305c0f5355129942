/-! the class's rounds of closing-up -/
def cxA (h : HH) (w : Nat) (V : Nat → TV) : Prop := h 103 0 = nI w ∧ ∀ s, s < 3 → avA h (w + 6 + 5 * s) = V s ∧ clT h (w + 6 + 5 * s)
theorem cxA_eq {h h' : HH} {w : Nat} {V : Nat → TV} (e0 : h' 103 0 = h 103 0) (e : ∀ q, w + 6 ≤ q → q < w + 21 → h' q = h q) (a : cxA h w V) : cxA h' w V := ⟨e0.trans a.1, trs_eq e a.2⟩
def rwB (h : HH) (p : Nat) (g : Nat → Bool) : Prop := ∀ u, u < 30 → h p u = b2i (g u)
theorem rwB_up {h : HH} {p t : Nat} {g : Nat → Bool} {b : Bool} (a : rwB h p g) : rwB (up h p t (b2i b)) p (fun u => if u = t then b else g u) := by
  intro u hu
  rw [up_at]
  by_cases e : u = t
  · simp [e]
  · simp [e, a u hu]
def w268 (w : Nat) : Prop := (w = 2 ∨ w = 68) ∧ isW w
theorem w268_2 : w268 2 := ⟨Or.inl rfl, isW_2⟩
theorem w268_68 : w268 68 := ⟨Or.inr rfl, isW_68⟩
theorem w268_lt {w : Nat} (h : w268 w) : w ≤ 68 := by rcases h.1 with e | e <;> omega
theorem standsIn_s {h : HH} {w n t s : Nat} {F : Nat → Bool} {V : Nat → TV} {g : Nat → Bool} (ww : w268 w) (hn : n ≤ 30) (cx : cxA h w V) (hw : ∀ s, s < 3 → wfT n F (V s)) (ht : t < 30) (hg : rwB h 104 g) (hs : s < 3) (m : Nat) : fX0_standsInIgnored_b2 h RA 103 (nI t) (m + 1) (nI s) = if st1 (V s) g t = true then some 1 else fX0_standsInIgnored_b2 h RA 103 (nI t) m (nI (s + 1)) := by
  obtain ⟨r1, hT⟩ := isW_T (s := s) ww.2 hs
  obtain ⟨u1, u2⟩ := cx.2 s hs
  rw [← stands1_a hn u1 u2 (hw s hs) ht hg]
  rw [fX0_standsInIgnored_b2, if_neg (fun z => by have := (n_le (show (3 : Int32) = nI 3 by decide) (by decide) s (by omega)).mp z; omega), cx.1, gwd_w ww.1, ww.2.2.1, ww.2.2.2.2.2.2.2.1, gd_in hs (by decide), ix_n (show s < 2 ^ 31 by omega), r1, hT.2.1, hT.2.2.2.2.2.1, gd_in ht n30, ix_n (show t < 2 ^ 31 by omega), lt_eq, G_1, Gl_104]
  simp only [fX0_standsInIgnored_b43, n_p1]
  have hr := (cl_rows u2 ht).2.1
  rw [u1] at hr
  by_cases a1 : h (w + 6 + 5 * s + 2) t < 0
  · rw [if_pos a1, if_pos a1]
  · rw [if_neg a1, if_neg a1]
    by_cases a2 : 30 ≤ h (w + 6 + 5 * s + 2) t
    · rw [if_pos a2, if_pos a2]
    · rw [if_neg a2, if_neg a2]
      obtain ⟨f, hf, e⟩ := i30 (x := h (w + 6 + 5 * s + 2) t) (fun z => z.elim a1 a2)
      rw [e, gd_in hf n30]
theorem standsIn_a {h : HH} {w n t : Nat} {F : Nat → Bool} {V : Nat → TV} {g : Nat → Bool} (ww : w268 w) (hn : n ≤ 30) (cx : cxA h w V) (hw : ∀ s, s < 3 → wfT n F (V s)) (ht : t < 30) (hg : rwB h 104 g) : fX0_standsInIgnored h RA 103 (nI t) = some (b2i (stI V g t)) := by
  obtain ⟨m, hm⟩ : ∃ m, lpF = m + 4 := ⟨4092, rfl⟩
  unfold fX0_standsInIgnored
  rw [hm, l0, standsIn_s ww hn cx hw ht hg (by decide), standsIn_s ww hn cx hw ht hg (by decide), standsIn_s ww hn cx hw ht hg (by decide), fX0_standsInIgnored_b2, if_pos (show (3 : Int32) ≤ nI (0 + 1 + 1 + 1) by decide)]
  unfold stI
  show (if st1 (V 0) g t = true then some 1 else if st1 (V 1) g t = true then some 1 else if st1 (V 2) g t = true then some 1 else some 0) = _
  cases st1 (V 0) g t <;> cases st1 (V 1) g t <;> cases st1 (V 2) g t <;> rfl
theorem sweep_a {w n : Nat} {F : Nat → Bool} {V : Nat → TV} {P : List PT} (ww : w268 w) (hn : n ≤ 30) (hw : ∀ s, s < 3 → wfT n F (V s)) (k4 : HH → Int32 → Int32 → Option HH) (x2 : Int32) {h : HH} {g : Nat → Bool} (cx : cxA h w V) (hg : rwB h 104 g) (hQ : ∀ u, g u = true → igQ V P u) : ∃ h' m g', fX0_ignoreWithin_b18 RA 103 k4 lpF h 0 x2 0 = k4 h' (b2i m) (x2 + 1) ∧ (∀ q, q ≠ 104 → h' q = h q) ∧ rwB h' 104 g' ∧ (∀ u, g u = true → g' u = true) ∧ (∀ u, g' u = true → igQ V P u) ∧ (m = false → clsd V g') ∧ (m = true → ∃ t, t < 30 ∧ g t = false ∧ g' t = true) := by
  have hl := w268_lt ww
  have key := loop_inv (L := fun k (z : HH × Int32) y => fX0_ignoreWithin_b18 RA 103 k4 k z.1 z.2 x2 y) (e := 30) (I := fun i z => ∃ m g', z.2 = b2i m ∧ (∀ q, q ≠ 104 → z.1 q = h q) ∧ rwB z.1 104 g' ∧ (∀ u, g u = true → g' u = true) ∧ (∀ u, g' u = true → igQ V P u) ∧ (m = false → g' = g ∧ ∀ t, t < i → stI V g t = true → g t = true) ∧ (m = true → ∃ t, t < 30 ∧ g t = false ∧ g' t = true)) (g := fun z => k4 z.1 z.2 (x2 + 1)) (fun k i z hi hI => by
    obtain ⟨m, g', z2, I1, I2, I3, I4, I5, I6⟩ := hI
    have cx1 : cxA z.1 w V := cxA_eq (by rw [I1 103 (by decide)]) (fun q h1 h2 => I1 q (by omega)) cx
    have head : fX0_ignoreWithin_b18 RA 103 k4 (k + 1) z.1 z.2 x2 (nI i) = if g' i = true then fX0_ignoreWithin_b18 RA 103 k4 k z.1 z.2 x2 (nI (i + 1)) else if stI V g' i = true then fX0_ignoreWithin_b18 RA 103 k4 k (up z.1 104 i 1) 1 x2 (nI (i + 1)) else fX0_ignoreWithin_b18 RA 103 k4 k z.1 z.2 x2 (nI (i + 1)) := by
      rw [fX0_ignoreWithin_b18, if_neg (fun z => by have := (le30 (by omega)).mp z; omega), G_1, Gl_104, gd_in hi n30, ix_n (show i < 2 ^ 31 by omega), I2 i hi, b2i_ifn, standsIn_a ww hn cx1 hw hi I2, Option.bind_some, b2i_if, gd_in hi n30, lt_eq, zn_1]
      simp only [fX0_ignoreWithin_b50, n_p1]
    by_cases a1 : g' i = true
    · refine ⟨z, ?_, m, g', z2, I1, I2, I3, I4, fun hm => ⟨(I5 hm).1, fun t ht hst => ?_⟩, I6⟩
      · show fX0_ignoreWithin_b18 RA 103 k4 (k + 1) z.1 z.2 x2 (nI i) = _
        rw [head, if_pos a1]
      · by_cases e : t = i
        · rw [e, ← (I5 hm).1]; exact a1
        · exact (I5 hm).2 t (by omega) hst
    by_cases a2 : stI V g' i = true
    · refine ⟨(up z.1 104 i 1, 1), ?_, true, (fun u => if u = i then true else g' u), rfl, fun q hq => (up_ne hq).trans (I1 q hq), rwB_up (b := true) I2, fun u hu => ?_, fun u hu => ?_, (fun z => by cases z), fun _ => ⟨i, hi, ?_, by simp⟩⟩
      · show fX0_ignoreWithin_b18 RA 103 k4 (k + 1) z.1 z.2 x2 (nI i) = _
        rw [head, if_neg a1, if_pos a2]
      · show (if u = i then true else g' u) = true
        rw [I3 u hu]
        split <;> rfl
      · have hu : (if u = i then true else g' u) = true := hu
        by_cases e : u = i
        · rw [e]; exact igQ_s I4 a2
        · rw [if_neg e] at hu; exact I4 u hu
      · cases e : g i with
        | false => rfl
        | true => exact absurd (I3 i e) a1
    · refine ⟨z, ?_, m, g', z2, I1, I2, I3, I4, fun hm => ⟨(I5 hm).1, fun t ht hst => ?_⟩, I6⟩
      · show fX0_ignoreWithin_b18 RA 103 k4 (k + 1) z.1 z.2 x2 (nI i) = _
        rw [head, if_neg a1, if_neg a2]
      · by_cases e : t = i
        · rw [e, ← (I5 hm).1] at hst; exact absurd hst a2
        · exact (I5 hm).2 t (by omega) hst) (fun k z hI => by
    show fX0_ignoreWithin_b18 RA 103 k4 (k + 1) z.1 z.2 x2 (nI 30) = _
    rw [fX0_ignoreWithin_b18, if_pos ((le30 (by omega)).mpr (Nat.le_refl 30))])
  obtain ⟨z, ⟨m, g', z2, I1, I2, I3, I4, I5, I6⟩, E⟩ := key lpF 0 (h, 0) (by omega) (by rw [lpF_eq]; omega) ⟨false, g, rfl, fun _ _ => rfl, hg, fun _ h => h, hQ, fun _ => ⟨rfl, fun t ht => by omega⟩, fun z => by cases z⟩
  have E : fX0_ignoreWithin_b18 RA 103 k4 lpF h 0 x2 (nI 0) = k4 z.1 z.2 (x2 + 1) := E
  rw [← l0, z2] at E
  refine ⟨z.1, m, g', E, I1, I2, I3, I4, fun hm => ?_, I6⟩
  obtain ⟨e, hc⟩ := I5 hm
  rw [e]
  intro t ht
  exact hc t (by have := stI_lt hw ht; omega) ht
theorem within_b {w n : Nat} {F : Nat → Bool} {V : Nat → TV} {P : List PT} (ww : w268 w) (hn : n ≤ 30) (hw : ∀ s, s < 3 → wfT n F (V s)) : ∀ (r k j : Nat) (h : HH) (g : Nat → Bool) (m : Bool), j + r = 30 → r < k → cxA h w V → rwB h 104 g → (∀ u, g u = true → igQ V P u) → (∀ u, ig0 V P u = true → g u = true) → (m = false → clsd V g) → (m = true → nfc g 30 + j ≤ 30) → ∃ h', fX0_ignoreWithin_b4 RA 103 k h (b2i m) (nI j) = some h' ∧ (∀ q, q ≠ 104 → h' q = h q) ∧ rwB h' 104 (igA V P) := by
  have hl := w268_lt ww
  intro r
  induction r with
  | zero =>
    intro k j h g m hj hk cx hg hQ h0 h1 h2
    obtain ⟨k, rfl⟩ : ∃ z, k = z + 1 := ⟨k - 1, by omega⟩
    have hc : clsd V g := by
      cases m with
      | false => exact h1 rfl
      | true =>
        have := h2 rfl
        intro t ht
        exact nfc_0 30 (by omega) t (by have := stI_lt hw ht; omega)
    refine ⟨h, ?_, fun _ _ => rfl, fun u hu => by rw [hg u hu, igA_of h0 hc hQ u]⟩
    rw [fX0_ignoreWithin_b4, if_pos ((le30 (by omega)).mpr (by omega))]
  | succ r ih =>
    intro k j h g m hj hk cx hg hQ h0 h1 h2
    obtain ⟨k, rfl⟩ : ∃ z, k = z + 1 := ⟨k - 1, by omega⟩
    cases m with
    | false =>
      refine ⟨h, ?_, fun _ _ => rfl, fun u hu => by rw [hg u hu, igA_of h0 (h1 rfl) hQ u]⟩
      rw [fX0_ignoreWithin_b4, if_neg (fun z => by have := (le30 (by omega)).mp z; omega), if_pos (show b2i false = 0 from rfl)]
    | true =>
      obtain ⟨h', m', g', e1, e2, e3, e4, e5, e6, e7⟩ := sweep_a (P := P) ww hn hw (fun h_ z1_ z2_ => fX0_ignoreWithin_b4 RA 103 k h_ z1_ z2_) (nI j) cx hg hQ
      obtain ⟨h2', f1, f2, f3⟩ := ih k (j + 1) h' g' m' (by omega) (by omega) (cxA_eq (by rw [e2 103 (by decide)]) (fun q _ _ => e2 q (by omega)) cx) e3 e5 (fun u hu => e4 u (h0 u hu)) e6 (fun hm => by
        obtain ⟨t, t1, t2, t3⟩ := e7 hm
        have := nfc_less e4 t2 t3 30 t1
        have := h2 rfl
        omega)
      refine ⟨h2', ?_, fun q hq => (f2 q hq).trans (e2 q hq), f3⟩
      rw [fX0_ignoreWithin_b4, if_neg (fun z => by have := (le30 (by omega)).mp z; omega), if_neg (show ¬ b2i true = 0 by decide), e1, n_p1]
      exact f1
theorem within_a {w n : Nat} {F : Nat → Bool} {V : Nat → TV} {P : List PT} (ww : w268 w) (hn : n ≤ 30) (hw : ∀ s, s < 3 → wfT n F (V s)) {h : HH} (cx : cxA h w V) (hg : rwB h 104 (ig0 V P)) : ∃ h', fX0_ignoreWithin h RA 103 = some h' ∧ (∀ q, q ≠ 104 → h' q = h q) ∧ rwB h' 104 (igA V P) := by
  obtain ⟨h', e1, e2, e3⟩ := within_b (P := P) ww hn hw 30 lpF 0 h (ig0 V P) true (by omega) (by rw [lpF_eq]; omega) cx hg (fun u hu => igQ_0 hu) (fun u hu => hu) (fun z => by cases z) (fun _ => by have := nfc_le (g := ig0 V P) 30; omega)
  refine ⟨h', ?_, e2, e3⟩
  unfold fX0_ignoreWithin
  rw [l0, ← e1]
  rfl
