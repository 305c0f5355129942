/-! who is ignored at all, on the reference -/
def rwN (h : HH) (p n : Nat) (g : Nat → Bool) : Prop := ∀ u, u < n → h p u = b2i (g u)
theorem rwN_up {h : HH} {p n t : Nat} {g : Nat → Bool} {b : Bool} (a : rwN h p n g) : rwN (up h p t (b2i b)) p n (fun u => if u = t then b else g u) := by
  intro u hu
  rw [up_at]
  by_cases e : u = t
  · simp [e]
  · simp [e, a u hu]
def frJ (h h' : HH) : Prop := (∀ q, q ≠ 30 → q ≠ 31 → q ≠ 32 → q ≠ 1 → h' q = h q) ∧ ∀ j, j ≠ 22 → h' 1 j = h 1 j
theorem frJ_rfl {h : HH} : frJ h h := ⟨fun _ _ _ _ _ => rfl, fun _ _ => rfl⟩
theorem frJ_trans {h h' h'' : HH} (a : frJ h h') (b : frJ h' h'') : frJ h h'' := ⟨fun q e1 e2 e3 e4 => (b.1 q e1 e2 e3 e4).trans (a.1 q e1 e2 e3 e4), fun j e => (b.2 j e).trans (a.2 j e)⟩
theorem frJ_I {h h' : HH} (a : frI h h') : frJ h h' := ⟨fun q e1 e2 _ e4 => a.1 q e1 e2 e4, a.2⟩
theorem frJ_32 {h : HH} {k : Nat} {x : Int32} : frJ h (up h 32 k x) := ⟨fun q _ _ e _ => up_ne e, fun j _ => by rw [up_ne (by decide)]⟩
theorem wM_frJ {h h' : HH} {x : WS} (e : frJ h h') (hw : wM h x) : wM h' x := by
  obtain ⟨n, F, V, P, pr, c0, c1, c2⟩ := x
  obtain ⟨d1, d2, d3, d4, d5, d6, d7, e1, e2, e3, e4, e5⟩ := hw
  refine ⟨d1, by rw [e.2 0 (by decide)]; exact d2, fun t ht => by rw [e.1 2 (by decide) (by decide) (by decide) (by decide)]; exact d3 t ht, fun s hs => (avM_eq (e.1 _ (by omega) (by omega) (by omega) (by omega)) (e.1 _ (by omega) (by omega) (by omega) (by omega)) (e.1 _ (by omega) (by omega) (by omega) (by omega)) (e.1 _ (by omega) (by omega) (by omega) (by omega))).trans (d4 s hs), d5, by rw [e.2 11 (by decide)]; exact d6, fun i y hi => ?_, by rw [e.2 1 (by decide)]; exact e1, by rw [e.2 7 (by decide)]; exact e2, by rw [e.2 8 (by decide)]; exact e3, by rw [e.2 9 (by decide)]; exact e4, bM_eq (fun q _ _ => e.1 q (by omega) (by omega) (by omega) (by omega)) e5⟩
  have hl := (List.getElem?_eq_some_iff.mp hi).1
  exact patM_eq (e.1 20 (by decide) (by decide) (by decide) (by decide)) (e.1 21 (by decide) (by decide) (by decide) (by decide)) (e.1 _ (by omega) (by omega) (by omega) (by omega)) (d7 i y hi)
theorem ign_s {w : WS} {n : Nat} {F : Nat → Bool} {V : Nat → TV} {P : List PT} {pr c0 c1 c2 : Int32} (k2 : HH → Int32 → Option HH) {z : HH} {s t : Nat} {acc : Bool} (hw : wM z (n, F, V, P, pr, c0, c1, c2)) (hwf : ∀ s, s < 3 → wfT n F (V s)) (hs : s < 3) (ht : t < n) (ha : z 32 t = b2i acc) (m : Nat) : ∃ z', fX8_ignore_b19 RM 1 k2 (m + 1) z (nI t) (nI s) = fX8_ignore_b19 RM 1 k2 m z' (nI t) (nI (s + 1)) ∧ frJ z z' ∧ z' 32 t = b2i (acc || (isIn (V s) t && ignT P (V s) t)) ∧ ∀ u, u ≠ t → z' 32 u = z 32 u := by
  have hn : n ≤ 30 := hw.1
  have v1 := hw.2.2.2.1 s hs
  have hP := paM_of hw
  have head : fX8_ignore_b19 RM 1 k2 (m + 1) z (nI t) (nI s) = if isIn (V s) t = true then (bi2 (fX8_isIgnoredOn z RM 1 (nI s) (nI t)) (fun v45 h45 => if v45 = 0 then (fX8_ignore_b55 RM 1 k2 (fun h_ z1_ z2_ => fX8_ignore_b19 RM 1 k2 m h_ z1_ z2_) h45 32 (nI t) (b2i acc) (nI t) (nI s)) else (fX8_ignore_b56 RM 1 k2 (fun h_ z1_ z2_ => fX8_ignore_b19 RM 1 k2 m h_ z1_ z2_) h45 32 (nI t) (b2i acc) 1 (nI t) (nI s)))) else fX8_ignore_b55 RM 1 k2 (fun h_ z1_ z2_ => fX8_ignore_b19 RM 1 k2 m h_ z1_ z2_) z 32 (nI t) (b2i acc) (nI t) (nI s) := by
    rw [fX8_ignore_b19, if_neg (fun z => by have := (n_le (show (3 : Int32) = nI 3 by decide) (by decide) s (by omega)).mp z; omega), M_25, ln_32, gd_in (show t < 30 by omega) n30, M_3, ln_3, gd_in hs (by decide), ix_n (show s < 2 ^ 31 by omega), R_3 s hs, L_3 s hs, gd_in (show t < 30 by omega) n30, ix_n (show t < 2 ^ 31 by omega), inM_if (show t < 30 by omega), v1, ha]
  have fin : ∀ (y : HH) (b : Bool), fX8_ignore_b56 RM 1 k2 (fun h_ z1_ z2_ => fX8_ignore_b19 RM 1 k2 m h_ z1_ z2_) y 32 (nI t) (b2i acc) (b2i b) (nI t) (nI s) = fX8_ignore_b19 RM 1 k2 m (up y 32 t (b2i (acc || b))) (nI t) (nI (s + 1)) := by
    intro y b
    unfold fX8_ignore_b56
    rw [ln_32, gd_in (show t < 30 by omega) n30, lt_eq, zn_or, ix_n (show t < 2 ^ 31 by omega), n_p1]
  have f0 : ∀ (y : HH), fX8_ignore_b55 RM 1 k2 (fun h_ z1_ z2_ => fX8_ignore_b19 RM 1 k2 m h_ z1_ z2_) y 32 (nI t) (b2i acc) (nI t) (nI s) = fX8_ignore_b19 RM 1 k2 m (up y 32 t (b2i (acc || false))) (nI t) (nI (s + 1)) := fun y => fin y false
  rw [head]
  cases hin : isIn (V s) t with
  | false =>
    rw [if_neg (by decide), f0]
    exact ⟨_, rfl, frJ_32, by rw [up_same]; rfl, fun u hu => by rw [up_at, if_neg hu]⟩
  | true =>
    obtain ⟨z', e1, e2⟩ := isIgnoredOn_m (h := z) (t := t) (P := P) hs hn (by rw [v1]; exact hin) (by rw [v1]; exact hwf s hs) hP
    rw [v1] at e1
    rw [if_pos rfl, e1, bi2_eq, b2i_if]
    have e32 : z' 32 = z 32 := e2.1 32 (by decide) (by decide) (by decide)
    cases hi : ignT P (V s) t with
    | false =>
      rw [if_neg (by decide), f0]
      exact ⟨_, rfl, frJ_trans (frJ_I e2) frJ_32, by rw [up_same]; rfl, fun u hu => by rw [up_at, if_neg hu, e32]⟩
    | true =>
      have := fin z' true
      rw [if_pos rfl]
      refine ⟨_, this, frJ_trans (frJ_I e2) frJ_32, by rw [up_same]; rfl, fun u hu => by rw [up_at, if_neg hu, e32]⟩
theorem mst_s {z : HH} {n t s : Nat} {F : Nat → Bool} {V : Nat → TV} {g : Nat → Bool} (k72 : HH → Int32 → Option HH) (k80 : HH → Int32 → Int32 → Option HH) (x1 : Int32) (hn : n ≤ 30) (hv : ∀ s, s < 3 → avM z s = V s) (hwf : ∀ s, s < 3 → wfT n F (V s)) (hs : s < 3) (ht : t < n) (hg : rwN z 32 n g) (m : Nat) : fX8_ignore_b90 RM 1 k72 k80 (m + 1) z x1 (nI t) (nI s) = if g t = true then fX8_ignore_b90 RM 1 k72 k80 m z x1 (nI t) (nI (s + 1)) else if st1 (V s) g t = true then fX8_ignore_b90 RM 1 k72 k80 m (up z 32 t 1) 1 (nI t) (nI (s + 1)) else fX8_ignore_b90 RM 1 k72 k80 m z x1 (nI t) (nI (s + 1)) := by
  have v1 := hv s hs
  have t30 : t < 30 := by omega
  rw [fX8_ignore_b90, if_neg (fun z => by have := (n_le (show (3 : Int32) = nI 3 by decide) (by decide) s (by omega)).mp z; omega), M_25, ln_32, gd_in t30 n30, ix_n (show t < 2 ^ 31 by omega), hg t ht, b2i_ifn]
  simp only [fX8_ignore_b155, n_p1]
  by_cases a1 : g t = true
  · rw [if_pos a1, if_pos a1]
  rw [if_neg a1, if_neg a1, M_3, ln_3, gd_in hs (by decide), ix_n (show s < 2 ^ 31 by omega), R_3 s hs, L_3 s hs, gd_in t30 n30, inM_if t30, v1]
  cases hin : isIn (V s) t with
  | false =>
    have : st1 (V s) g t = false := by unfold st1; rw [hin]; rfl
    rw [this]
    rfl
  | true =>
    obtain ⟨q0, q1, q2, q3⟩ := isInM_row (h := z) (s := s) (t := t) (by rw [v1]; exact hin)
    rw [v1] at q1
    rw [if_pos rfl, M_4, ln_7, gd_in hs (by decide), R_7 s hs, L_7 s hs, gd_in t30 n30, q1]
    rcases (hwf s hs t hin).2.1 with e | ⟨f, p1, p2, p3, p4⟩
    · have : st1 (V s) g t = false := by unfold st1; rw [hin, e]; rfl
      rw [this, if_pos e]
      rfl
    · have hst : st1 (V s) g t = g f := by
        unfold st1
        rw [hin, p2, ix_n (by omega)]
        simp [n_lt0 f (by omega)]
      rw [hst, p2, if_neg (m1_ne f (by omega)), gd_in hs (by decide), gd_in t30 n30, gd_in (show f < 30 by omega) n30, ix_n (show f < 2 ^ 31 by omega), hg f p1, b2i_ifn, gd_in t30 n30, lt_eq, zn_1]
theorem mst_a {z : HH} {n t : Nat} {F : Nat → Bool} {V : Nat → TV} {g : Nat → Bool} (k72 : HH → Int32 → Option HH) (k80 : HH → Int32 → Int32 → Option HH) (x1 : Int32) (hn : n ≤ 30) (hv : ∀ s, s < 3 → avM z s = V s) (hwf : ∀ s, s < 3 → wfT n F (V s)) (ht : t < n) (hg : rwN z 32 n g) : fX8_ignore_b90 RM 1 k72 k80 lpF z x1 (nI t) 0 = if g t = true then k80 z x1 (nI (t + 1)) else if stI V g t = true then k80 (up z 32 t 1) 1 (nI (t + 1)) else k80 z x1 (nI (t + 1)) := by
  obtain ⟨m, hm⟩ : ∃ m, lpF = m + 4 := ⟨4092, rfl⟩
  have hex : ∀ (y : HH) (x : Int32), fX8_ignore_b90 RM 1 k72 k80 (m + 1) y x (nI t) (nI (2 + 1)) = k80 y x (nI (t + 1)) := by
    intro y x
    rw [fX8_ignore_b90, if_pos (show (3 : Int32) ≤ nI (2 + 1) by decide), n_p1]
  have hg1 : rwN (up z 32 t 1) 32 n (fun u => if u = t then true else g u) := rwN_up (b := true) hg
  have hv1 : ∀ s, s < 3 → avM (up z 32 t 1) s = V s := fun s hs => (avM_eq (up_ne (by omega)) (up_ne (by omega)) (up_ne (by omega)) (up_ne (by omega))).trans (hv s hs)
  have t1 : (fun u => if u = t then true else g u) t = true := by simp
  rw [hm, l0, mst_s (s := 0) k72 k80 x1 hn hv hwf (by decide) ht hg, mst_s (s := 1) k72 k80 x1 hn hv hwf (by decide) ht hg, mst_s (s := 2) k72 k80 x1 hn hv hwf (by decide) ht hg, mst_s (s := 1) k72 k80 1 hn hv1 hwf (by decide) ht hg1, mst_s (s := 2) k72 k80 1 hn hv1 hwf (by decide) ht hg1, hex, hex, if_pos t1, if_pos t1]
  unfold stI
  cases g t <;> cases st1 (V 0) g t <;> cases st1 (V 1) g t <;> cases st1 (V 2) g t <;> rfl
theorem msweep {n : Nat} {F : Nat → Bool} {V : Nat → TV} {P : List PT} (k72 : HH → Int32 → Option HH) (hn : n ≤ 30) (hwf : ∀ s, s < 3 → wfT n F (V s)) {h : HH} {g : Nat → Bool} (h0 : h 1 0 = nI n) (hv : ∀ s, s < 3 → avM h s = V s) (hg : rwN h 32 n g) (hQ : ∀ u, g u = true → igQ V P u) : ∃ h' m g', fX8_ignore_b80 RM 1 k72 lpF h 0 0 = k72 h' (b2i m) ∧ (∀ q, q ≠ 32 → h' q = h q) ∧ rwN h' 32 n g' ∧ (∀ u, g u = true → g' u = true) ∧ (∀ u, g' u = true → igQ V P u) ∧ (m = false → clsd V g') ∧ (m = true → ∃ t, t < 30 ∧ g t = false ∧ g' t = true) := by
  have key := loop_inv (L := fun k (z : HH × Int32) y => fX8_ignore_b80 RM 1 k72 k z.1 z.2 y) (e := n) (I := fun i z => ∃ m g', z.2 = b2i m ∧ (∀ q, q ≠ 32 → z.1 q = h q) ∧ rwN z.1 32 n g' ∧ (∀ u, g u = true → g' u = true) ∧ (∀ u, g' u = true → igQ V P u) ∧ (m = false → g' = g ∧ ∀ t, t < i → stI V g t = true → g t = true) ∧ (m = true → ∃ t, t < 30 ∧ g t = false ∧ g' t = true)) (g := fun z => k72 z.1 z.2) (fun k i z hi hI => by
    obtain ⟨m, g', z2, I1, I2, I3, I4, I5, I6⟩ := hI
    have hv1 : ∀ s, s < 3 → avM z.1 s = V s := fun s hs => (avM_eq (I1 _ (by omega)) (I1 _ (by omega)) (I1 _ (by omega)) (I1 _ (by omega))).trans (hv s hs)
    have head : fX8_ignore_b80 RM 1 k72 (k + 1) z.1 z.2 (nI i) = if g' i = true then fX8_ignore_b80 RM 1 k72 k z.1 z.2 (nI (i + 1)) else if stI V g' i = true then fX8_ignore_b80 RM 1 k72 k (up z.1 32 i 1) 1 (nI (i + 1)) else fX8_ignore_b80 RM 1 k72 k z.1 z.2 (nI (i + 1)) := by
      rw [fX8_ignore_b80, I1 1 (by decide), h0, if_neg (nI_ge hi (by omega)), mst_a k72 _ z.2 hn hv1 hwf hi I2]
    by_cases a1 : g' i = true
    · refine ⟨z, ?_, m, g', z2, I1, I2, I3, I4, fun hm => ⟨(I5 hm).1, fun t ht hst => ?_⟩, I6⟩
      · show fX8_ignore_b80 RM 1 k72 (k + 1) z.1 z.2 (nI i) = _
        rw [head, if_pos a1]
      · by_cases e : t = i
        · rw [e, ← (I5 hm).1]; exact a1
        · exact (I5 hm).2 t (by omega) hst
    by_cases a2 : stI V g' i = true
    · refine ⟨(up z.1 32 i 1, 1), ?_, true, (fun u => if u = i then true else g' u), rfl, fun q hq => (up_ne hq).trans (I1 q hq), rwN_up (b := true) I2, fun u hu => ?_, fun u hu => ?_, (fun z => by cases z), fun _ => ⟨i, by omega, ?_, by simp⟩⟩
      · show fX8_ignore_b80 RM 1 k72 (k + 1) z.1 z.2 (nI i) = _
        rw [head, if_neg a1, if_pos a2]
      · show (if u = i then true else g' u) = true
        rw [I3 u hu]
        split <;> rfl
      · have hu : (if u = i then true else g' u) = true := hu
        by_cases e : u = i
        · rw [e]; exact igQ_s I4 a2
        · rw [if_neg e] at hu; exact I4 u hu
      · cases e : g i with
        | false => rfl
        | true => exact absurd (I3 i e) a1
    · refine ⟨z, ?_, m, g', z2, I1, I2, I3, I4, fun hm => ⟨(I5 hm).1, fun t ht hst => ?_⟩, I6⟩
      · show fX8_ignore_b80 RM 1 k72 (k + 1) z.1 z.2 (nI i) = _
        rw [head, if_neg a1, if_neg a2]
      · by_cases e : t = i
        · rw [e, ← (I5 hm).1] at hst; exact absurd hst a2
        · exact (I5 hm).2 t (by omega) hst) (fun k z hI => by
    obtain ⟨m, g', z2, I1, -⟩ := hI
    show fX8_ignore_b80 RM 1 k72 (k + 1) z.1 z.2 (nI n) = _
    rw [fX8_ignore_b80, I1 1 (by decide), h0, if_pos (nI_le (Nat.le_refl n) (by omega))])
  obtain ⟨z, ⟨m, g', z2, I1, I2, I3, I4, I5, I6⟩, E⟩ := key lpF 0 (h, 0) (by omega) (by rw [lpF_eq]; omega) ⟨false, g, rfl, fun _ _ => rfl, hg, fun _ h => h, hQ, fun _ => ⟨rfl, fun t ht => by omega⟩, fun z => by cases z⟩
  have E : fX8_ignore_b80 RM 1 k72 lpF h 0 (nI 0) = k72 z.1 z.2 := E
  rw [← l0, z2] at E
  refine ⟨z.1, m, g', E, I1, I2, I3, I4, fun hm => ?_, I6⟩
  obtain ⟨e, hc⟩ := I5 hm
  rw [e]
  intro t ht
  exact hc t (stI_lt hwf ht) ht
theorem mrounds {n : Nat} {F : Nat → Bool} {V : Nat → TV} {P : List PT} (hn : n ≤ 30) (hwf : ∀ s, s < 3 → wfT n F (V s)) : ∀ (r k : Nat) (h : HH) (g : Nat → Bool), nfc g 30 ≤ r → r + 1 < k → h 1 0 = nI n → (∀ s, s < 3 → avM h s = V s) → rwN h 32 n g → (∀ u, g u = true → igQ V P u) → (∀ u, ig0 V P u = true → g u = true) → ∃ h', fX8_ignore_b72 RM 1 k h 1 = some h' ∧ (∀ q, q ≠ 32 → h' q = h q) ∧ rwN h' 32 n (igA V P) := by
  intro r
  induction r with
  | zero =>
    intro k h g hr hk h0 hv hg hQ hi
    obtain ⟨k, rfl⟩ : ∃ z, k = z + 2 := ⟨k - 2, by omega⟩
    obtain ⟨h', m', g', e1, e2, e3, e4, e5, e6, e7⟩ := msweep (P := P) (fun h_ z1_ => fX8_ignore_b72 RM 1 (k + 1) h_ z1_) hn hwf h0 hv hg hQ
    cases m' with
    | true =>
      obtain ⟨t, t1, t2, t3⟩ := e7 rfl
      have := nfc_less e4 t2 t3 30 t1
      omega
    | false =>
      refine ⟨h', ?_, e2, fun u hu => by rw [e3 u hu, igA_of (fun u hu => e4 u (hi u hu)) (e6 rfl) e5 u]⟩
      rw [fX8_ignore_b72, if_neg (by decide), e1]
      show fX8_ignore_b72 RM 1 (k + 1) h' (b2i false) = _
      rw [fX8_ignore_b72, if_pos (show b2i false = 0 from rfl)]
  | succ r ih =>
    intro k h g hr hk h0 hv hg hQ hi
    obtain ⟨k, rfl⟩ : ∃ z, k = z + 2 := ⟨k - 2, by omega⟩
    obtain ⟨h', m', g', e1, e2, e3, e4, e5, e6, e7⟩ := msweep (P := P) (fun h_ z1_ => fX8_ignore_b72 RM 1 (k + 1) h_ z1_) hn hwf h0 hv hg hQ
    cases m' with
    | true =>
      obtain ⟨t, t1, t2, t3⟩ := e7 rfl
      have := nfc_less e4 t2 t3 30 t1
      obtain ⟨h2, f1, f2, f3⟩ := ih (k + 1) h' g' (by omega) (by omega) (by rw [e2 1 (by decide)]; exact h0) (fun s hs => (avM_eq (e2 _ (by omega)) (e2 _ (by omega)) (e2 _ (by omega)) (e2 _ (by omega))).trans (hv s hs)) e3 e5 (fun u hu => e4 u (hi u hu))
      refine ⟨h2, ?_, fun q hq => (f2 q hq).trans (e2 q hq), f3⟩
      rw [fX8_ignore_b72, if_neg (by decide), e1]
      exact f1
    | false =>
      refine ⟨h', ?_, e2, fun u hu => by rw [e3 u hu, igA_of (fun u hu => e4 u (hi u hu)) (e6 rfl) e5 u]⟩
      rw [fX8_ignore_b72, if_neg (by decide), e1]
      show fX8_ignore_b72 RM 1 (k + 1) h' (b2i false) = _
      rw [fX8_ignore_b72, if_pos (show b2i false = 0 from rfl)]
theorem ignore_m {h : HH} {n : Nat} {F : Nat → Bool} {V : Nat → TV} {P : List PT} {pr c0 c1 c2 : Int32} (hw : wM h (n, F, V, P, pr, c0, c1, c2)) (hwf : ∀ s, s < 3 → wfT n F (V s)) : ∃ h', fX8_ignore h RM 1 = some h' ∧ frJ h h' ∧ rwN h' 32 n (igA V P) := by
  have hn : n ≤ 30 := hw.1
  have key := loop_inv (L := fX8_ignore_b2 RM 1) (e := n) (I := fun i z => frJ h z ∧ ∀ u, u < i → z 32 u = b2i (ig0 V P u)) (g := fun z => fX8_ignore_b72 RM 1 lpF z 1) (fun k i z hi hI => by
    obtain ⟨I1, I2⟩ := hI
    have w0 := wM_frJ I1 hw
    obtain ⟨m, hm⟩ : ∃ m, lpF = m + 4 := ⟨4092, rfl⟩
    have w1 := wM_frJ (frJ_32 (k := i) (x := 0)) w0
    obtain ⟨z1, a1, a2, a3, a4⟩ := ign_s (w := (n, F, V, P, pr, c0, c1, c2)) (fun h_ z1_ => fX8_ignore_b2 RM 1 k h_ z1_) (s := 0) (t := i) (acc := false) w1 hwf (by decide) hi (by rw [up_same]; rfl) (m + 3)
    obtain ⟨z2, b1, b2, b3, b4⟩ := ign_s (w := (n, F, V, P, pr, c0, c1, c2)) (fun h_ z1_ => fX8_ignore_b2 RM 1 k h_ z1_) (s := 1) (t := i) (wM_frJ a2 w1) hwf (by decide) hi a3 (m + 2)
    obtain ⟨z3, d1, d2, d3, d4⟩ := ign_s (w := (n, F, V, P, pr, c0, c1, c2)) (fun h_ z1_ => fX8_ignore_b2 RM 1 k h_ z1_) (s := 2) (t := i) (wM_frJ b2 (wM_frJ a2 w1)) hwf (by decide) hi b3 (m + 1)
    refine ⟨z3, ?_, frJ_trans I1 (frJ_trans frJ_32 (frJ_trans a2 (frJ_trans b2 d2))), fun u hu => ?_⟩
    · rw [fX8_ignore_b2, w0.2.1, if_neg (nI_ge hi (by omega)), M_25, ln_32, gd_in (show i < 30 by omega) n30, lt_eq, zn_0, ix_n (show i < 2 ^ 31 by omega), hm, l0]
      rw [l0] at a1
      rw [a1, b1, d1, fX8_ignore_b19, if_pos (show (3 : Int32) ≤ nI (2 + 1) by decide), n_p1]
    · by_cases e : u = i
      · rw [e, d3]
        unfold ig0
        simp only [Bool.false_or, Bool.or_assoc]
      · rw [d4 u e, b4 u e, a4 u e, up_at, if_neg e]
        exact I2 u (by omega)) (fun k z hI => by
    have w0 := wM_frJ hI.1 hw
    rw [fX8_ignore_b2, w0.2.1, if_pos (nI_le (Nat.le_refl n) (by omega))])
  obtain ⟨z, ⟨I1, I2⟩, E⟩ := key lpF 0 h (by omega) (by rw [lpF_eq]; omega) ⟨frJ_rfl, fun u hu => by omega⟩
  have w0 := wM_frJ I1 hw
  obtain ⟨h', f1, f2, f3⟩ := mrounds (P := P) hn hwf 30 lpF z (ig0 V P) (nfc_le 30) (by rw [lpF_eq]; omega) w0.2.1 w0.2.2.2.1 I2 (fun u hu => igQ_0 hu) (fun u hu => hu)
  refine ⟨h', ?_, frJ_trans I1 ⟨fun q _ _ e _ => f2 q e, fun j _ => by rw [f2 1 (by decide)]⟩, f3⟩
  unfold fX8_ignore
  have E : fX8_ignore_b2 RM 1 lpF h (nI 0) = fX8_ignore_b72 RM 1 lpF z 1 := E
  rw [← l0] at E
  rw [E, f1]
theorem changed_m {h : HH} {n s t : Nat} {V : Nat → TV} {P : List PT} (hn : n ≤ 30) (hv : ∀ s, s < 3 → avM h s = V s) (hg : rwN h 32 n (igA V P)) (hs : s < 2) (ht : t < n) : fX8_changed h RM 1 (nI s) (nI t) = some (chI V P s t) := by
  have t30 : t < 30 := by omega
  have v1 := hv s (by omega)
  have v2 := hv 2 (by decide)
  have i2 : ix 2 = 2 := by decide
  have r3 := R_3 2 (by decide)
  have r7 := R_7 2 (by decide)
  have r11 := R_11 2 (by decide)
  have r15 := R_15 2 (by decide)
  have k3 := L_3 2 (by decide)
  have k7 := L_7 2 (by decide)
  have k11 := L_11 2 (by decide)
  have k15 := L_15 2 (by decide)
  unfold fX8_changed
  simp only [fX8_changed_b90, fX8_changed_b95, M_3, M_4, M_5, M_6, M_25, ln_3, ln_7, ln_11, ln_15, ln_32, i2, ix_n (show s < 2 ^ 31 by omega), ix_n (show t < 2 ^ 31 by omega), gd_in t30 n30, gd_t (show inb 2 3 = true by decide), gd_in (show s < 3 by omega) (show 3 < 2 ^ 31 by decide), r3, r7, r11, r15, k3, k7, k11, k15, R_3 s (by omega), R_7 s (by omega), R_11 s (by omega), R_15 s (by omega), L_3 s (by omega), L_7 s (by omega), L_11 s (by omega), L_15 s (by omega), hg t ht, b2i_if, inM_if t30, inM_ifn t30, v1, v2]
  cases eg : igA V P t with
  | true => rw [if_pos rfl, ch_ig eg]
  | false =>
    rw [if_neg (by decide), ch_no eg]
    unfold cmB gnB mvB wrB
    cases x2 : isIn (V 2) t with
    | false => cases isIn (V s) t <;> simp [chN]
    | true =>
      cases x1 : isIn (V s) t with
      | false => rfl
      | true =>
        obtain ⟨-, p1, p2, p3⟩ := isInM_row (h := h) (s := s) (t := t) (by rw [v1]; exact x1)
        obtain ⟨-, q1, q2, q3⟩ := isInM_row (h := h) (s := 2) (t := t) (by rw [v2]; exact x2)
        rw [v1] at p1 p2 p3
        rw [v2] at q1 q2 q3
        rw [p1, p2, p3, q1, q2, q3]
        unfold plE ctE
        by_cases e1 : vF (V s) t = vF (V 2) t <;> by_cases e2 : vN (V s) t = vN (V 2) t <;> by_cases e3 : vC (V s) t = vC (V 2) t <;> simp [e1, e2, e3, chN]
