/-! pattern -/
theorem kd_le {r : Nat → Int32} {L b : Nat} : (kdS r L b).2.1 ≤ 6 := by
  unfold kdS
  split
  · show 0 ≤ 6; omega
  · split
    · show (if _ then 2 else 1) ≤ 6
      split <;> omega
    · split
      · show 3 ≤ 6; omega
      · split
        · show 4 ≤ 6; omega
        · split
          · split
            · show 6 ≤ 6; omega
            · show 5 ≤ 6; omega
          · show 1 ≤ 6; omega
def rdS (r : Nat → Int32) (L : Nat) : Nat → Nat → List Int32 → Option Nat × List Int32
  | 0, b, l => (some b, l)
  | m + 1, b, l => if isPt (kdS r L b).2.1 = true then (if (kdS r L (bgS r L (kdS r L b).1)).2.1 = 0 then (none, l ++ [(kdS r L b).2.2]) else if ¬ (kdS r L (bgS r L (kdS r L b).1)).2.1 = 4 ∨ m = 0 then (some (bgS r L (kdS r L b).1), l ++ [(kdS r L b).2.2]) else rdS r L m (bgS r L (kdS r L (bgS r L (kdS r L b).1)).1) (l ++ [(kdS r L b).2.2])) else (some b, l)
theorem rd_not {r : Nat → Int32} {L m b : Nat} {l : List Int32} (h : isPt (kdS r L b).2.1 = false) : rdS r L (m + 1) b l = (some b, l) := by
  unfold rdS
  rw [h]
  rfl
theorem rd_end {r : Nat → Int32} {L m b : Nat} {l : List Int32} (h : isPt (kdS r L b).2.1 = true) (h2 : (kdS r L (bgS r L (kdS r L b).1)).2.1 = 0) : rdS r L (m + 1) b l = (none, l ++ [(kdS r L b).2.2]) := by
  unfold rdS
  rw [if_pos h, if_pos h2]
theorem rd_bad {r : Nat → Int32} {L m b : Nat} {l : List Int32} (h : isPt (kdS r L b).2.1 = true) (h2 : ¬ (kdS r L (bgS r L (kdS r L b).1)).2.1 = 0) (h3 : ¬ (kdS r L (bgS r L (kdS r L b).1)).2.1 = 4 ∨ m = 0) : rdS r L (m + 1) b l = (some (bgS r L (kdS r L b).1), l ++ [(kdS r L b).2.2]) := by
  unfold rdS
  rw [if_pos h, if_neg h2, if_pos h3]
theorem rd_go {r : Nat → Int32} {L m b : Nat} {l : List Int32} (h : isPt (kdS r L b).2.1 = true) (h2 : (kdS r L (bgS r L (kdS r L b).1)).2.1 = 4) (h3 : ¬ m = 0) : rdS r L (m + 1) b l = rdS r L m (bgS r L (kdS r L (bgS r L (kdS r L b).1)).1) (l ++ [(kdS r L b).2.2]) := by
  have e : rdS r L (m + 1) b l = if isPt (kdS r L b).2.1 = true then (if (kdS r L (bgS r L (kdS r L b).1)).2.1 = 0 then (none, l ++ [(kdS r L b).2.2]) else if ¬ (kdS r L (bgS r L (kdS r L b).1)).2.1 = 4 ∨ m = 0 then (some (bgS r L (kdS r L b).1), l ++ [(kdS r L b).2.2]) else rdS r L m (bgS r L (kdS r L (bgS r L (kdS r L b).1)).1) (l ++ [(kdS r L b).2.2])) else (some b, l) := rfl
  rw [e, if_pos h, if_neg (by omega), if_neg (by omega)]
theorem isPt_k {k : Nat} (h : isPt k = true) : k = 2 ∨ k = 5 ∨ k = 6 := by
  unfold isPt at h
  simpa using h
theorem isPt_n {k : Nat} (h : isPt k = false) : ¬ k = 2 ∧ ¬ k = 5 ∧ ¬ k = 6 := by
  unfold isPt at h
  simpa using h
def frPz (P : Nat) (h h' : HH) : Prop := (∀ q, q ≠ 101 → q ≠ P → q ≠ P + 1 → h' q = h q) ∧ h' 101 1 = h 101 1 ∧ h' P 2 = h P 2
theorem frPz_rfl {P : Nat} {h : HH} : frPz P h h := ⟨fun _ _ _ _ => rfl, rfl, rfl⟩
theorem frPz_trans {P : Nat} {h h' h'' : HH} (a : frPz P h h') (b : frPz P h' h'') : frPz P h h'' := ⟨fun q e1 e2 e3 => (b.1 q e1 e2 e3).trans (a.1 q e1 e2 e3), b.2.1.trans a.2.1, b.2.2.trans a.2.2⟩
theorem frPz_Q {P : Nat} {h h' : HH} (hP : P + 1 < 101) (a : frQ h h') : frPz P h h' := ⟨fun q e1 _ _ => a.1 q e1, a.2 1 rfl, by rw [a.1 P (by omega)]⟩
def pwA (h : HH) (P : Nat) (l : List Int32) : Prop := h P 1 = nI l.length ∧ ∀ j y, l[j]? = some y → h (P + 1) j = y
theorem pwA_Q {P : Nat} {h h' : HH} {l : List Int32} (hP : P + 1 < 101) (a : frQ h h') (p : pwA h P l) : pwA h' P l := ⟨by rw [a.1 P (by omega)]; exact p.1, fun j y hj => by rw [a.1 (P + 1) (by omega)]; exact p.2 j y hj⟩
theorem read_b {r : Nat → Int32} {L P : Nat} (hL : L ≤ 40) (hP : P + 1 < 101) (p0 : RA P 0 = P + 1) (pl : lnA (P + 1) = 8) : ∀ (m n b : Nat) (l : List Int32) (h : HH), l.length + m = 8 → m < n → tpR h r L → b ≤ L → tkA h b (kdS r L b) → pwA h P l → ∃ h', fX4_read_b44 RA 101 P n h (nI l.length) = some (oI (rdS r L m b l).1, h') ∧ frPz P h h' ∧ pwA h' P (rdS r L m b l).2 := by
  intro m
  induction m with
  | zero =>
    intro n b l h hm hn t hb tk pw
    obtain ⟨n, rfl⟩ : ∃ k, n = k + 1 := ⟨n - 1, by omega⟩
    refine ⟨h, ?_, frPz_rfl, pw⟩
    rw [fX4_read_b44, if_pos ((n_le (show (8 : Int32) = nI 8 by decide) (by decide) l.length (by omega)).mpr (by omega)), tk.2.2.1]
    rfl
  | succ m ih =>
    intro n b l h hm hn t hb tk pw
    obtain ⟨n, rfl⟩ : ∃ k, n = k + 1 := ⟨n - 1, by omega⟩
    obtain ⟨t1, t2, t3, t4⟩ := tk
    have hl8 : ¬ (8 : Int32) ≤ nI l.length := fun z => by
      have := (n_le (show (8 : Int32) = nI 8 by decide) (by decide) l.length (by omega)).mp z
      omega
    have kle := kd_le (r := r) (L := L) (b := b)
    have hz : ∀ z : Nat, z < 10 → (nI (kdS r L b).2.1 = nI z ↔ (kdS r L b).2.1 = z) := fun z hz => ⟨fun e => nI_inj (by omega) (by omega) e, fun e => by rw [e]⟩
    have z2 : nI (kdS r L b).2.1 = 2 ↔ (kdS r L b).2.1 = 2 := hz 2 (by decide)
    have z5 : nI (kdS r L b).2.1 = 5 ↔ (kdS r L b).2.1 = 5 := hz 5 (by decide)
    have z6 : nI (kdS r L b).2.1 = 6 ↔ (kdS r L b).2.1 = 6 := hz 6 (by decide)
    cases hp : isPt (kdS r L b).2.1 with
    | false =>
      obtain ⟨n2, n5, n6⟩ := isPt_n hp
      rw [rd_not hp]
      refine ⟨h, ?_, frPz_rfl, pw⟩
      rw [fX4_read_b44, if_neg hl8, t2, if_neg (fun z => n2 (z2.mp z)), if_neg (fun z => n5 (z5.mp z)), if_neg (fun z => n6 (z6.mp z)), t3]
      rfl
    | true =>
      have e0 : fX4_read_b44 RA 101 P (n + 1) h (nI l.length) = fX4_read_b80 RA 101 P (fun h_ z2_ => fX4_read_b44 RA 101 P n h_ z2_) h (nI l.length) := by
        rw [fX4_read_b44, if_neg hl8, t2]
        rcases isPt_k hp with e | e | e
        · rw [if_pos (z2.mpr e)]
        · rw [if_neg (fun z => by have := z2.mp z; omega), if_pos (z5.mpr e)]
        · rw [if_neg (fun z => by have := z2.mp z; omega), if_neg (fun z => by have := z5.mp z; omega), if_pos (z6.mpr e)]
      have hv := t4 hp
      have fz : frPz P h (up (up h (P + 1) l.length (kdS r L b).2.2) P 1 (nI (l.length + 1))) := ⟨fun q e1 e2 e3 => by rw [up_ne e2, up_ne e3], by rw [up_ne (by omega), up_ne (by omega)], by rw [up_at, if_neg (by decide), up_ne (by omega)]⟩
      have pz : pwA (up (up h (P + 1) l.length (kdS r L b).2.2) P 1 (nI (l.length + 1))) P (l ++ [(kdS r L b).2.2]) := ⟨by rw [up_same]; simp, fun j y hj => by
        rw [up_ne (by omega), up_at]
        rcases app_get hj with ⟨k1, k2⟩ | ⟨k1, k2⟩
        · rw [if_neg (by omega)]; exact pw.2 j y k2
        · rw [if_pos k1, k2]⟩
      have tz : tpR (up (up h (P + 1) l.length (kdS r L b).2.2) P 1 (nI (l.length + 1))) r L := ⟨by rw [up_ne (by omega), up_ne (by omega)]; exact t.1, fun i hi => by rw [up_ne (by omega), up_ne (by omega)]; exact t.2 i hi⟩
      have az : up (up h (P + 1) l.length (kdS r L b).2.2) P 1 (nI (l.length + 1)) 101 2 = nI (kdS r L b).1 := by rw [up_ne (by omega), up_ne (by omega)]; exact t1
      rw [e0, fX4_read_b80, p0, pl, gd_in (show l.length < 8 by omega) (by decide), lt_eq, ix_n (show l.length < 2 ^ 31 by omega), hv, n_p1, lt_eq]
      generalize up (up h (P + 1) l.length (kdS r L b).2.2) P 1 (nI (l.length + 1)) = z at fz pz tz az ⊢
      have hx : (kdS r L b).1 ≤ L := kdS_le hb
      obtain ⟨h1, e1, q1, u1, u2, u3, u4⟩ := next_a hL tz hx az
      have hb2 : bgS r L (kdS r L b).1 ≤ L := bgS_le hx
      have kle2 := kd_le (r := r) (L := L) (b := bgS r L (kdS r L b).1)
      have hz2 : ∀ z : Nat, z < 10 → (nI (kdS r L (bgS r L (kdS r L b).1)).2.1 = nI z ↔ (kdS r L (bgS r L (kdS r L b).1)).2.1 = z) := fun z hz => ⟨fun e => nI_inj (by omega) (by omega) e, fun e => by rw [e]⟩
      have y0 : nI (kdS r L (bgS r L (kdS r L b).1)).2.1 = 0 ↔ (kdS r L (bgS r L (kdS r L b).1)).2.1 = 0 := hz2 0 (by decide)
      have y4 : nI (kdS r L (bgS r L (kdS r L b).1)).2.1 = 4 ↔ (kdS r L (bgS r L (kdS r L b).1)).2.1 = 4 := hz2 4 (by decide)
      have p1 := pwA_Q hP q1 pz
      have f1 := frPz_trans fz (frPz_Q hP q1)
      have p11 : h1 P 1 = nI (l.length + 1) := by rw [p1.1]; simp
      rw [e1, Option.bind_some, u2]
      by_cases c0 : (kdS r L (bgS r L (kdS r L b).1)).2.1 = 0
      · rw [rd_end hp c0, if_neg (fun z => z (y0.mpr c0))]
        exact ⟨h1, rfl, f1, p1⟩
      · rw [if_pos (fun z => c0 (y0.mp z))]
        by_cases c4 : (kdS r L (bgS r L (kdS r L b).1)).2.1 = 4
        · rw [if_neg (fun z => z (y4.mpr c4)), p11]
          by_cases cm : m = 0
          · rw [rd_bad hp c0 (Or.inr cm), if_neg (fun z => z (by rw [show l.length + 1 = 8 by omega]; decide)), u3]
            exact ⟨h1, rfl, f1, p1⟩
          · rw [rd_go hp c4 cm, if_pos (fun z => by
              have := nI_inj (show l.length + 1 < 2 ^ 31 by omega) (show 8 < 2 ^ 31 by decide) (show nI (l.length + 1) = nI 8 from z)
              omega)]
            obtain ⟨h2, e2, q2, w⟩ := next_a hL (tpR_Q q1 tz) (kdS_le hb2) u1
            obtain ⟨h3, e3, q3, p3⟩ := ih n (bgS r L (kdS r L (bgS r L (kdS r L b).1)).1) (l ++ [(kdS r L b).2.2]) h2 (by simp; omega) (by omega) (tpR_Q q2 (tpR_Q q1 tz)) (bgS_le (kdS_le hb2)) w (pwA_Q hP q2 p1)
            refine ⟨h3, ?_, frPz_trans f1 (frPz_trans (frPz_Q hP q2) q3), p3⟩
            rw [e2, Option.bind_some, ← e3]
            simp
        · rw [rd_bad hp c0 (Or.inl c4), if_pos (fun z => c4 (y4.mp z)), u3]
          exact ⟨h1, rfl, f1, p1⟩
def ngS (r : Nat → Int32) (L : Nat) : Bool := decide ((kdS r L (bgS r L 0)).2.1 = 3)
def stS (r : Nat → Int32) (L : Nat) : Nat := if ngS r L = true then bgS r L (kdS r L (bgS r L 0)).1 else bgS r L 0
def ptS (r : Nat → Int32) (L : Nat) : Option Nat × List Int32 := rdS r L 8 (stS r L) []
theorem rd_len {r : Nat → Int32} {L : Nat} : ∀ (m b : Nat) (l : List Int32), (rdS r L m b l).2.length ≤ l.length + m
  | 0, b, l => Nat.le_refl _
  | m + 1, b, l => by
    have ih := rd_len (r := r) (L := L) m (bgS r L (kdS r L (bgS r L (kdS r L b).1)).1) (l ++ [(kdS r L b).2.2])
    have hl : (l ++ [(kdS r L b).2.2]).length = l.length + 1 := by simp
    unfold rdS
    split
    · split
      · show (l ++ [(kdS r L b).2.2]).length ≤ _
        omega
      · split
        · show (l ++ [(kdS r L b).2.2]).length ≤ _
          omega
        · omega
    · show l.length ≤ _
      omega
theorem read_a {h : HH} {r : Nat → Int32} {L P : Nat} (hL : L ≤ 40) (hP : P + 1 < 101) (p0 : RA P 0 = P + 1) (pl : lnA (P + 1) = 8) (t : tpR h r L) : ∃ h', fX4_read h RA 101 P = some (oI (ptS r L).1, h') ∧ (∀ q, q ≠ 101 → q ≠ P → q ≠ P + 1 → h' q = h q) ∧ h' 101 1 = h 101 1 ∧ h' P 2 = b2i (ngS r L) ∧ pwA h' P (ptS r L).2 := by
  have tz : tpR (up (up h 101 2 0) P 1 0) r L := ⟨by rw [up_ne (by omega), up_at, if_neg (by decide)]; exact t.1, fun i hi => by rw [up_ne (by omega), up_ne (by omega)]; exact t.2 i hi⟩
  have az : up (up h 101 2 0) P 1 0 101 2 = nI 0 := by rw [up_ne (by omega), up_same]; rfl
  have pz : pwA (up (up h 101 2 0) P 1 0) P [] := ⟨up_same, fun j y hj => by cases hj⟩
  have fz : ∀ q, q ≠ 101 → q ≠ P → q ≠ P + 1 → up (up h 101 2 0) P 1 0 q = h q := fun q e1 e2 e3 => by rw [up_ne e2, up_ne e1]
  have sz : up (up h 101 2 0) P 1 0 101 1 = h 101 1 := by rw [up_ne (by omega), up_at, if_neg (by decide)]
  unfold fX4_read
  rw [lt_eq, lt_eq]
  generalize up (up h 101 2 0) P 1 0 = z at tz az pz fz sz ⊢
  obtain ⟨h1, e1, q1, u1, u2, u3, u4⟩ := next_a hL tz (Nat.zero_le L) az
  have kle := kd_le (r := r) (L := L) (b := bgS r L 0)
  have y3 : nI (kdS r L (bgS r L 0)).2.1 = 3 ↔ (kdS r L (bgS r L 0)).2.1 = 3 := ⟨fun e => nI_inj (by omega) (by decide) (show nI _ = nI 3 from e), fun e => by rw [e]; rfl⟩
  rw [e1, Option.bind_some, u2]
  have p1 := pwA_Q hP q1 pz
  have f1 := frPz_Q hP q1
  have t1 := tpR_Q q1 tz
  have fu : ∀ v : Int32, frQ h1 (up h1 P 2 v) ∨ True := fun v => Or.inr trivial
  have tv : ∀ v : Int32, tpR (up h1 P 2 v) r L := fun v => ⟨by rw [up_ne (by omega)]; exact t1.1, fun i hi => by rw [up_ne (by omega)]; exact t1.2 i hi⟩
  have pv : ∀ v : Int32, pwA (up h1 P 2 v) P [] := fun v => ⟨by rw [up_at, if_neg (by decide)]; exact p1.1, fun j y hj => by cases hj⟩
  have av : ∀ v : Int32, (up h1 P 2 v) 101 = h1 101 := fun v => up_ne (by omega)
  have fin : ∀ (v : Int32) (b : Nat) (y : HH), b = stS r L → v = b2i (ngS r L) → b ≤ L → frQ (up h1 P 2 v) y → tkA y b (kdS r L b) → ∃ h', fX4_read_b42 RA 101 P y = some (oI (ptS r L).1, h') ∧ (∀ q, q ≠ 101 → q ≠ P → q ≠ P + 1 → h' q = h q) ∧ h' 101 1 = h 101 1 ∧ h' P 2 = b2i (ngS r L) ∧ pwA h' P (ptS r L).2 := by
    intro v b y hb hv hbL fy tk
    obtain ⟨h', k1, k2, k3⟩ := read_b hL hP p0 pl 8 lpF b [] y rfl (by rw [lpF_eq]; omega) (tpR_Q fy (tv v)) hbL tk (pwA_Q hP fy (pv v))
    subst hb
    refine ⟨h', ?_, fun q q1' q2 q3 => ?_, ?_, ?_, k3⟩
    · unfold fX4_read_b42
      rw [l0]
      exact k1
    · rw [k2.1 q q1' q2 q3, fy.1 q q1', up_ne q2, q1.1 q q1', fz q q1' q2 q3]
    · rw [k2.2.1, fy.2 1 rfl, up_ne (by omega), q1.2 1 rfl, sz]
    · rw [k2.2.2, fy.1 P (by omega), up_same, hv]
  by_cases c3 : (kdS r L (bgS r L 0)).2.1 = 3
  · have hng : ngS r L = true := decide_eq_true c3
    rw [if_neg (fun z => z (y3.mpr c3)), fX4_read_b28, bz_1, lt_eq, up_same, if_neg (show ¬ (1 : Int32) = 0 by decide)]
    obtain ⟨h2, e2, q2, w⟩ := next_a (h := up h1 P 2 1) hL (tv 1) (kdS_le (bgS_le (Nat.zero_le L))) (by rw [av]; exact u1)
    obtain ⟨h', k1, k2⟩ := fin 1 _ h2 (by unfold stS; rw [if_pos hng]) (by rw [hng]; rfl) (bgS_le (kdS_le (bgS_le (Nat.zero_le L)))) q2 w
    exact ⟨h', by rw [e2, Option.bind_some, k1], k2⟩
  · have hng : ngS r L = false := decide_eq_false c3
    rw [if_pos (fun z => c3 (y3.mp z)), fX4_read_b28, bz_0, lt_eq, up_same, if_pos rfl]
    exact fin 0 _ _ (by unfold stS; rw [if_neg (by rw [hng]; decide)]) (by rw [hng]; rfl) (bgS_le (Nat.zero_le L)) frQ_rfl ⟨by rw [av]; exact u1, by rw [av]; exact u2, by rw [av]; exact u3, fun z => by rw [av]; exact u4 z⟩
