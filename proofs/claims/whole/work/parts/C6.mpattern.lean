/-! the reference's pattern -/
def frV (c : Nat) (h h' : HH) : Prop := (∀ q, q ≠ 1 → q ≠ 21 → q ≠ 23 + c → h' q = h q) ∧ (∀ j, j < 17 ∨ 22 ≤ j → h' 1 j = h 1 j) ∧ ∀ i, i ≠ c → h' 21 i = h 21 i
theorem frV_rfl {c : Nat} {h : HH} : frV c h h := ⟨fun _ _ _ _ => rfl, fun _ _ => rfl, fun _ _ => rfl⟩
theorem frV_trans {c : Nat} {h h' h'' : HH} (a : frV c h h') (b : frV c h' h'') : frV c h h'' := ⟨fun q e1 e2 e3 => (b.1 q e1 e2 e3).trans (a.1 q e1 e2 e3), fun j e => (b.2.1 j e).trans (a.2.1 j e), fun i e => (b.2.2 i e).trans (a.2.2 i e)⟩
theorem frV_Y {c : Nat} {h h' : HH} (a : frY h h') : frV c h h' := ⟨fun q e1 _ _ => a.1 q e1, a.2, fun i _ => by rw [a.1 21 (by decide)]⟩
def pwM (h : HH) (c : Nat) (l : List Int32) : Prop := h 21 c = nI l.length ∧ ∀ j y, l[j]? = some y → h (23 + c) j = y
theorem pwM_Y {c : Nat} {h h' : HH} {l : List Int32} (a : frY h h') (p : pwM h c l) : pwM h' c l := ⟨by rw [a.1 21 (by decide)]; exact p.1, fun j y hj => by rw [a.1 (23 + c) (by omega)]; exact p.2 j y hj⟩
def endM (h : HH) (f : Option Nat) : Prop := match f with
  | none => h 1 19 = 0 ∧ h 1 21 = 0
  | some b => (h 1 21 = 1 ∨ (h 1 21 = 0 ∧ ¬ h 1 19 = 0)) ∧ h 1 18 = nI b
theorem mkI_1 : ∀ k, k ≤ 6 → (mkI k = 1 ↔ ¬ (k = 0 ∨ k = 3 ∨ k = 4)) := by decide
theorem mkI_0 : ∀ k, k ≤ 6 → (mkI k = 0 ↔ k = 0) := by decide
theorem mkI_2 : ∀ k, k ≤ 6 → (mkI k = 2 ↔ k = 3) := by decide
theorem mkI_3 : ∀ k, k ≤ 6 → (mkI k = 3 ↔ k = 4) := by decide
theorem wkI_0 : ∀ k, k ≤ 6 → (wkI k = 0 ↔ ¬ k = 1) := by decide
theorem wkI_1 : ∀ k, k ≤ 6 → ¬ wkI k = 0 → wkI k = 1 := by decide
/-- a part that can't be read -/
theorem part_no {h : HH} {r : Nat → Int32} {L b : Nat} (tk : tkM h b (kdS r L b)) (hp : isPt (kdS r L b).2.1 = false) : ∃ h', fX8_part h RM 1 = some h' ∧ frY h h' ∧ h' 1 21 = 1 ∧ h' 1 18 = nI b := by
  obtain ⟨t1, t2, t3, t4, t5⟩ := tk
  have kle := kd_le (r := r) (L := L) (b := b)
  obtain ⟨n2, n5, n6⟩ := isPt_n hp
  unfold fX8_part
  rw [t3]
  by_cases e : (kdS r L b).2.1 = 1
  · have w1 : wkI (kdS r L b).2.1 = 1 := by rw [e]; rfl
    rw [w1] at t4
    rw [if_pos ((mkI_1 _ kle).mpr (by omega)), fX8_part_b13, t4, if_neg (show ¬ (1 : Int32) = 0 by decide)]
    exact ⟨h, rfl, frY_rfl, t4, t2⟩
  · rw [if_neg (fun z => (mkI_1 _ kle).mp z (by omega)), lt_eq, fX8_part_b13, up_same, if_neg (show ¬ (1 : Int32) = 0 by decide)]
    exact ⟨_, rfl, frY_up (by decide) (by decide), up_same, by rw [up_at, if_neg (by decide)]; exact t2⟩
theorem b85_bad {h : HH} {n b : Nat} (h21 : h 1 21 = 1) (h18 : h 1 18 = nI b) : fX8_pattern_b85 RM 1 (n + 1) h = fX8_pattern_b130 RM 1 h ∧ endM h (some b) := by
  refine ⟨?_, Or.inl h21, h18⟩
  rw [fX8_pattern_b85, h21, if_pos (show ¬ (1 : Int32) = 0 by decide)]
theorem part_yes {h : HH} {r : Nat → Int32} {L b c : Nat} {l : List Int32} (hL : L ≤ 40) (hr : ∀ i, i < L → ¬ r i = -1) (hc : c < 6) (hl : l.length < 8) (t : tpM h r L) (hb : b ≤ L) (tk : tkM h b (kdS r L b)) (h11 : h 1 11 = nI c) (pw : pwM h c l) (hp : isPt (kdS r L b).2.1 = true) : ∃ h1, fX8_part h RM 1 = some h1 ∧ frV c h h1 ∧ pwM h1 c (l ++ [(kdS r L b).2.2]) ∧ tkM h1 (bgS r L (kdS r L b).1) (kdS r L (bgS r L (kdS r L b).1)) := by
  obtain ⟨t1, t2, t3, t4, t5⟩ := tk
  have kle := kd_le (r := r) (L := L) (b := b)
  have kp := isPt_k hp
  have hv := t5 hp
  have m1 : mkI (kdS r L b).2.1 = 1 := (mkI_1 _ kle).mpr (by omega)
  have w0 : wkI (kdS r L b).2.1 = 0 := (wkI_0 _ kle).mpr (by omega)
  rw [m1] at t3
  rw [w0] at t4
  have fz : frV c h (up (up h (23 + c) l.length (kdS r L b).2.2) 21 c (nI (l.length + 1))) := ⟨fun q e1 e2 e3 => by rw [up_ne e2, up_ne e3], fun j e => by rw [up_ne (by decide), up_ne (by omega)], fun i e => by rw [up_at, if_neg e, up_ne (by omega)]⟩
  have pz : pwM (up (up h (23 + c) l.length (kdS r L b).2.2) 21 c (nI (l.length + 1))) c (l ++ [(kdS r L b).2.2]) := ⟨by rw [up_same]; simp, fun j y hj => by
    rw [up_ne (by omega), up_at]
    rcases app_get hj with ⟨k1, k2⟩ | ⟨k1, k2⟩
    · rw [if_neg (by omega)]; exact pw.2 j y k2
    · rw [if_pos k1, k2]⟩
  have tz : tpM (up (up h (23 + c) l.length (kdS r L b).2.2) 21 c (nI (l.length + 1))) r L := ⟨by rw [up_ne (by decide), up_ne (by omega)]; exact t.1, fun i hi => by rw [up_ne (by decide), up_ne (by omega)]; exact t.2 i hi⟩
  have o1 : ∀ j, up (up h (23 + c) l.length (kdS r L b).2.2) 21 c (nI (l.length + 1)) 1 j = h 1 j := fun j => by rw [up_ne (by decide), up_ne (by omega)]
  have y11 : up h (23 + c) l.length (kdS r L b).2.2 1 11 = nI c := by rw [up_ne (by omega)]; exact h11
  have y21 : up h (23 + c) l.length (kdS r L b).2.2 21 c = nI l.length := by rw [up_ne (by omega)]; exact pw.1
  have e0 : fX8_part h RM 1 = fX8_next (up (up h (23 + c) l.length (kdS r L b).2.2) 21 c (nI (l.length + 1))) RM 1 := by
    unfold fX8_part
    rw [t3, if_pos rfl, fX8_part_b13, t4, if_pos rfl, M_14, ln_22, M_13, ln_21, h11, gd_in hc (by decide), gd_in hc (by decide), ix_n (show c < 2 ^ 31 by omega), pw.1, R_22 c hc, L_22 c hc, gd_in hl (by decide), lt_eq, ix_n (show l.length < 2 ^ 31 by omega), hv, y11, gd_in hc (by decide), gd_in hc (by decide), ix_n (show c < 2 ^ 31 by omega), y21, n_p1, lt_eq]
    cases fX8_next (up (up h (23 + c) l.length (kdS r L b).2.2) 21 c (nI (l.length + 1))) RM 1 <;> rfl
  generalize up (up h (23 + c) l.length (kdS r L b).2.2) 21 c (nI (l.length + 1)) = z at fz pz tz o1 e0
  obtain ⟨h1, e1, q1, w⟩ := next_m hL hr tz (kdS_le hb) (by rw [o1]; exact t1) (by rw [o1]; exact t4)
  exact ⟨h1, e0.trans e1, frV_trans fz (frV_Y q1), pwM_Y q1 pz, w⟩
theorem b85_end {h : HH} {r : Nat → Int32} {L b n : Nat} (tk : tkM h b (kdS r L b)) (h4 : ¬ (kdS r L b).2.1 = 4) : fX8_pattern_b85 RM 1 (n + 1) h = fX8_pattern_b130 RM 1 h ∧ endM h (if (kdS r L b).2.1 = 0 then none else some b) := by
  obtain ⟨t1, t2, t3, t4, t5⟩ := tk
  have kle := kd_le (r := r) (L := L) (b := b)
  have q3 : ¬ mkI (kdS r L b).2.1 = 3 := fun z => h4 ((mkI_3 _ kle).mp z)
  rw [fX8_pattern_b85, t3, t4]
  refine ⟨?_, ?_⟩
  · by_cases e : wkI (kdS r L b).2.1 = 0
    · rw [if_neg (fun z => z e), if_pos q3]
    · rw [if_pos e]
  · by_cases e0 : (kdS r L b).2.1 = 0
    · rw [if_pos e0]
      exact ⟨by rw [t3, e0]; rfl, by rw [t4, e0]; rfl⟩
    · rw [if_neg e0]
      refine ⟨?_, t2⟩
      by_cases e : wkI (kdS r L b).2.1 = 0
      · exact Or.inr ⟨t4.trans e, by rw [t3]; exact fun z => e0 ((mkI_0 _ kle).mp z)⟩
      · exact Or.inl (t4.trans (wkI_1 _ kle e))
theorem parts_m {r : Nat → Int32} {L c : Nat} (hL : L ≤ 40) (hr : ∀ i, i < L → ¬ r i = -1) (hc : c < 6) : ∀ (m n b : Nat) (l : List Int32) (h : HH), l.length + (m + 1) = 8 → m + 2 ≤ n → tpM h r L → b ≤ L → tkM h b (kdS r L b) → h 1 11 = nI c → pwM h c l → ∃ h', (fX8_part h RM 1).bind (fun z => fX8_pattern_b85 RM 1 n z) = fX8_pattern_b130 RM 1 h' ∧ frV c h h' ∧ pwM h' c (rdS r L (m + 1) b l).2 ∧ endM h' (rdS r L (m + 1) b l).1 := by
  intro m
  induction m with
  | zero =>
    intro n b l h hm hn t hb tk h11 pw
    obtain ⟨n, rfl⟩ : ∃ k, n = k + 2 := ⟨n - 2, by omega⟩
    cases hp : isPt (kdS r L b).2.1 with
    | false =>
      obtain ⟨h', e1, q1, q2, q3⟩ := part_no tk hp
      obtain ⟨g1, g2⟩ := b85_bad (n := n + 1) q2 q3
      rw [rd_not hp]
      exact ⟨h', by rw [e1, Option.bind_some, g1], frV_Y q1, pwM_Y q1 pw, g2⟩
    | true =>
      obtain ⟨h1, e1, f1, p1, w⟩ := part_yes hL hr hc (by omega) t hb tk h11 pw hp
      rw [e1, Option.bind_some]
      by_cases c4 : (kdS r L (bgS r L (kdS r L b).1)).2.1 = 4
      · rw [rd_bad hp (by omega) (Or.inr rfl)]
        obtain ⟨t1, t2, t3, t4, t5⟩ := w
        rw [c4] at t3 t4
        have t3 : h1 1 19 = 3 := t3
        have t4 : h1 1 21 = 0 := t4
        have k11 : h1 1 11 = nI c := by rw [f1.2.1 11 (by decide)]; exact h11
        have k8 : h1 21 c = 8 := by rw [p1.1, show (l ++ [(kdS r L b).2.2]).length = 8 by simp; omega]; rfl
        obtain ⟨g1, g2⟩ := b85_bad (h := up (up h1 1 21 1) 1 21 1) (n := n) (b := bgS r L (kdS r L b).1) up_same (by rw [up_at, if_neg (by decide), up_at, if_neg (by decide)]; exact t2)
        refine ⟨up (up h1 1 21 1) 1 21 1, ?_, frV_trans f1 (frV_Y (frY_trans (frY_up (by decide) (by decide)) (frY_up (by decide) (by decide)))), pwM_Y (frY_trans (frY_up (by decide) (by decide)) (frY_up (by decide) (by decide))) p1, g2⟩
        rw [fX8_pattern_b85, t4, if_neg (fun z => z rfl), t3, if_neg (fun z => z rfl), k11, M_13, ln_21, gd_in hc (by decide), ix_n (show c < 2 ^ 31 by omega), k8, if_neg (fun z => z rfl), lt_eq, fX8_pattern_b119]
        unfold fX8_next
        rw [up_same, if_neg (show ¬ (1 : Int32) = 0 by decide), Option.bind_some]
        unfold fX8_part
        rw [show up h1 1 21 1 1 19 = 3 by rw [up_at, if_neg (by decide)]; exact t3, if_neg (show ¬ (3 : Int32) = 1 by decide), lt_eq, fX8_part_b13, up_same, if_neg (show ¬ (1 : Int32) = 0 by decide), Option.bind_some]
        exact g1
      · obtain ⟨g1, g2⟩ := b85_end (n := n + 1) w c4
        by_cases c0 : (kdS r L (bgS r L (kdS r L b).1)).2.1 = 0
        · rw [if_pos c0] at g2
          rw [rd_end hp c0]
          exact ⟨h1, g1, f1, p1, g2⟩
        · rw [if_neg c0] at g2
          rw [rd_bad hp c0 (Or.inl c4)]
          exact ⟨h1, g1, f1, p1, g2⟩
  | succ m ih =>
    intro n b l h hm hn t hb tk h11 pw
    obtain ⟨n, rfl⟩ : ∃ k, n = k + 1 := ⟨n - 1, by omega⟩
    cases hp : isPt (kdS r L b).2.1 with
    | false =>
      obtain ⟨h', e1, q1, q2, q3⟩ := part_no tk hp
      obtain ⟨g1, g2⟩ := b85_bad (n := n) q2 q3
      rw [rd_not hp]
      exact ⟨h', by rw [e1, Option.bind_some, g1], frV_Y q1, pwM_Y q1 pw, g2⟩
    | true =>
      obtain ⟨h1, e1, f1, p1, w⟩ := part_yes hL hr hc (by omega) t hb tk h11 pw hp
      rw [e1, Option.bind_some]
      by_cases c4 : (kdS r L (bgS r L (kdS r L b).1)).2.1 = 4
      · rw [rd_go hp c4 (by omega)]
        obtain ⟨t1, t2, t3, t4, t5⟩ := w
        rw [c4] at t3 t4
        have t3 : h1 1 19 = 3 := t3
        have t4 : h1 1 21 = 0 := t4
        have hb2 : bgS r L (kdS r L b).1 ≤ L := bgS_le (kdS_le hb)
        have k11 : h1 1 11 = nI c := by rw [f1.2.1 11 (by decide)]; exact h11
        have tt1 : tpM h1 r L := ⟨by rw [f1.2.1 16 (by decide)]; exact t.1, fun i hi => by rw [f1.1 29 (by decide) (by decide) (by omega)]; exact t.2 i hi⟩
        have k8 : ¬ h1 21 c = 8 := fun z => by
          rw [p1.1] at z
          have := nI_inj (show (l ++ [(kdS r L b).2.2]).length < 2 ^ 31 by simp; omega) (show 8 < 2 ^ 31 by decide) (show nI (l ++ [(kdS r L b).2.2]).length = nI 8 from z)
          simp at this
          omega
        obtain ⟨h2, e2, q2, w2⟩ := next_m hL hr tt1 (kdS_le hb2) t1 t4
        obtain ⟨h3, e3, f3, p3, g3⟩ := ih n (bgS r L (kdS r L (bgS r L (kdS r L b).1)).1) (l ++ [(kdS r L b).2.2]) h2 (by simp; omega) (by omega) (tpM_Y q2 tt1) (bgS_le (kdS_le hb2)) w2 (by rw [q2.2 11 (by decide)]; exact k11) (pwM_Y q2 p1)
        refine ⟨h3, ?_, frV_trans f1 (frV_trans (frV_Y q2) f3), p3, g3⟩
        rw [fX8_pattern_b85, t4, if_neg (fun z => z rfl), t3, if_neg (fun z => z rfl), k11, M_13, ln_21, gd_in hc (by decide), ix_n (show c < 2 ^ 31 by omega), if_pos k8, fX8_pattern_b119, e2, Option.bind_some]
        exact e3
      · obtain ⟨g1, g2⟩ := b85_end (n := n) w c4
        by_cases c0 : (kdS r L (bgS r L (kdS r L b).1)).2.1 = 0
        · rw [if_pos c0] at g2
          rw [rd_end hp c0]
          exact ⟨h1, g1, f1, p1, g2⟩
        · rw [if_neg c0] at g2
          rw [rd_bad hp c0 (Or.inl c4)]
          exact ⟨h1, g1, f1, p1, g2⟩
def ansF (c : Nat) (f : Option Nat) : Int32 := match f with
  | none => nI c
  | some b => -100 - nI b
def cntF (c : Nat) (f : Option Nat) : Int32 := match f with
  | none => nI (c + 1)
  | some _ => nI c
/-- the end of it -/
theorem b130_m {h : HH} {f : Option Nat} {c : Nat} (e : endM h f) (hc : h 1 11 = nI c) : ∃ h', fX8_pattern_b130 RM 1 h = some (ansF c f, h') ∧ (∀ q, q ≠ 1 → h' q = h q) ∧ (∀ j, j ≠ 11 → j ≠ 16 → j ≠ 21 → h' 1 j = h 1 j) ∧ h' 1 16 = 0 ∧ h' 1 11 = cntF c f := by
  have go : ∀ s : Int32, (h 1 21 ||| s = 0 ∨ h 1 21 ||| s = 1) → (h 1 21 ||| s = 0 ↔ f = none) → (∀ b, f = some b → h 1 18 = nI b) → ∃ h', fX8_pattern_b147 RM 1 h 1 (h 1 21) s = some (ansF c f, h') ∧ (∀ q, q ≠ 1 → h' q = h q) ∧ (∀ j, j ≠ 11 → j ≠ 16 → j ≠ 21 → h' 1 j = h 1 j) ∧ h' 1 16 = 0 ∧ h' 1 11 = cntF c f := by
    intro s hs hf hb
    rw [fX8_pattern_b147, bz_t hs, lt_eq, lt_eq]
    have y21 : up (up h 1 21 (h 1 21 ||| s)) 1 16 0 1 21 = (h 1 21 ||| s) := by rw [up_at, if_neg (by decide), up_same]
    have y11 : up (up h 1 21 (h 1 21 ||| s)) 1 16 0 1 11 = nI c := by rw [up_at, if_neg (by decide), up_at, if_neg (by decide)]; exact hc
    have y18 : up (up h 1 21 (h 1 21 ||| s)) 1 16 0 1 18 = h 1 18 := by rw [up_at, if_neg (by decide), up_at, if_neg (by decide)]
    have y16 : up (up h 1 21 (h 1 21 ||| s)) 1 16 0 1 16 = 0 := up_same
    have yq : ∀ q, q ≠ 1 → up (up h 1 21 (h 1 21 ||| s)) 1 16 0 q = h q := fun q e => by rw [up_ne e, up_ne e]
    have yj : ∀ j, j ≠ 11 → j ≠ 16 → j ≠ 21 → up (up h 1 21 (h 1 21 ||| s)) 1 16 0 1 j = h 1 j := fun j _ e2 e3 => by rw [up_at, if_neg e2, up_at, if_neg e3]
    generalize up (up h 1 21 (h 1 21 ||| s)) 1 16 0 = z at y21 y11 y18 y16 yq yj ⊢
    rw [y21]
    cases f with
    | none =>
      rw [if_pos (hf.mpr rfl), y11, n_p1, lt_eq, up_same, nI_pred]
      exact ⟨_, rfl, fun q e => by rw [up_ne e]; exact yq q e, fun j e1 e2 e3 => by rw [up_at, if_neg e1]; exact yj j e1 e2 e3, by rw [up_at, if_neg (by decide)]; exact y16, up_same⟩
    | some b =>
      rw [if_neg (fun z => by cases hf.mp z), y18, hb b rfl]
      exact ⟨z, rfl, yq, yj, y16, y11⟩
  unfold fX8_pattern_b130
  cases f with
  | none =>
    obtain ⟨e1, e2⟩ := e
    rw [if_pos e1]
    exact go 0 (Or.inl (by rw [e2]; rfl)) ⟨fun _ => rfl, fun _ => by rw [e2]; rfl⟩ (fun b hb => by cases hb)
  | some b =>
    obtain ⟨e1, e2⟩ := e
    by_cases z : h 1 19 = 0
    · have e21 : h 1 21 = 1 := by
        rcases e1 with e1 | e1
        · exact e1
        · exact absurd z e1.2
      rw [if_pos z]
      exact go 0 (Or.inr (by rw [e21]; rfl)) ⟨fun q => absurd q (by rw [e21]; decide), fun q => by cases q⟩ (fun b' hb => by cases hb; exact e2)
    · rw [if_neg z]
      have o1 : h 1 21 ||| 1 = 1 := by
        rcases e1 with e1 | e1
        · rw [e1]; rfl
        · rw [e1.1]; rfl
      exact go 1 (Or.inr o1) ⟨fun q => absurd q (by rw [o1]; decide), fun q => by cases q⟩ (fun b' hb => by cases hb; exact e2)
theorem pattern_m {h : HH} {r : Nat → Int32} {L c : Nat} (hL : L ≤ 40) (hr : ∀ i, i < L → ¬ r i = -1) (hc : c < 6) (t : tpM h r L) (h11 : h 1 11 = nI c) : ∃ h', fX8_pattern h RM 1 = some (ansF c (ptS r L).1, h') ∧ (∀ q, q ≠ 1 → q ≠ 20 → q ≠ 21 → q ≠ 23 + c → h' q = h q) ∧ (∀ j, j ≠ 11 → j < 16 ∨ 22 ≤ j → h' 1 j = h 1 j) ∧ (∀ i, i ≠ c → h' 20 i = h 20 i ∧ h' 21 i = h 21 i) ∧ h' 1 16 = 0 ∧ h' 1 11 = cntF c (ptS r L).1 ∧ h' 20 c = b2i (ngS r L) ∧ pwM h' c (ptS r L).2 := by
  have yq : ∀ q, q ≠ 1 → q ≠ 21 → up (up (up h 1 17 0) 1 21 0) 21 c 0 q = h q := fun q e1 e2 => by rw [up_ne e2, up_ne e1, up_ne e1]
  have yj : ∀ j, j ≠ 17 → j ≠ 21 → up (up (up h 1 17 0) 1 21 0) 21 c 0 1 j = h 1 j := fun j e1 e2 => by rw [up_ne (by decide), up_at, if_neg e2, up_at, if_neg e1]
  have y17 : up (up (up h 1 17 0) 1 21 0) 21 c 0 1 17 = nI 0 := by rw [up_ne (by decide), up_at, if_neg (by decide), up_same]; rfl
  have y21 : up (up (up h 1 17 0) 1 21 0) 21 c 0 1 21 = 0 := by rw [up_ne (by decide), up_same]
  have yi : ∀ i, i ≠ c → up (up (up h 1 17 0) 1 21 0) 21 c 0 21 i = h 21 i := fun i e => by rw [up_at, if_neg e, up_ne (by decide), up_ne (by decide)]
  have yp : pwM (up (up (up h 1 17 0) 1 21 0) 21 c 0) c [] := ⟨up_same, fun j y hj => by cases hj⟩
  have z11 : up (up h 1 17 0) 1 21 0 1 11 = nI c := by rw [up_at, if_neg (by decide), up_at, if_neg (by decide)]; exact h11
  have h6 : ¬ h 1 11 = 6 := fun z => by
    rw [h11] at z
    have := nI_inj (show c < 2 ^ 31 by omega) (show 6 < 2 ^ 31 by decide) (show nI c = nI 6 from z)
    omega
  unfold fX8_pattern
  rw [if_pos h6, lt_eq, lt_eq, z11, M_13, ln_21, gd_in hc (by decide), ix_n (show c < 2 ^ 31 by omega), lt_eq]
  have ty : tpM (up (up (up h 1 17 0) 1 21 0) 21 c 0) r L := ⟨by rw [yj 16 (by decide) (by decide)]; exact t.1, fun i hi => by rw [yq 29 (by decide) (by decide)]; exact t.2 i hi⟩
  have y11 := yj 11 (by decide) (by decide)
  generalize up (up (up h 1 17 0) 1 21 0) 21 c 0 = z at yq yj y17 y21 yi yp ty y11 ⊢
  obtain ⟨h1, e1, q1, w⟩ := next_m hL hr ty (Nat.zero_le L) y17 y21
  have kle := kd_le (r := r) (L := L) (b := bgS r L 0)
  obtain ⟨w1, w2, w3, w4, w5⟩ := w
  have k11 : h1 1 11 = nI c := by rw [q1.2 11 (by decide), y11]; exact h11
  have tv : ∀ v : Int32, tpM (up h1 20 c v) r L := fun v => ⟨by rw [up_ne (by decide)]; exact (tpM_Y q1 ty).1, fun i hi => by rw [up_ne (by decide)]; exact (tpM_Y q1 ty).2 i hi⟩
  have pv : ∀ v : Int32, pwM (up h1 20 c v) c [] := fun v => ⟨by rw [up_ne (by decide)]; exact (pwM_Y q1 yp).1, fun j y hj => by cases hj⟩
  have av : ∀ (v : Int32) (j : Nat), up h1 20 c v 1 j = h1 1 j := fun v j => by rw [up_ne (by decide)]
  have fin : ∀ (v : Int32) (b : Nat) (y : HH), b = stS r L → v = b2i (ngS r L) → b ≤ L → frY (up h1 20 c v) y → tkM y b (kdS r L b) → ∃ h', fX8_pattern_b81 RM 1 y = some (ansF c (ptS r L).1, h') ∧ (∀ q, q ≠ 1 → q ≠ 20 → q ≠ 21 → q ≠ 23 + c → h' q = h q) ∧ (∀ j, j ≠ 11 → j < 16 ∨ 22 ≤ j → h' 1 j = h 1 j) ∧ (∀ i, i ≠ c → h' 20 i = h 20 i ∧ h' 21 i = h 21 i) ∧ h' 1 16 = 0 ∧ h' 1 11 = cntF c (ptS r L).1 ∧ h' 20 c = b2i (ngS r L) ∧ pwM h' c (ptS r L).2 := by
    intro v b y hb hv hbL fy tk
    have s11 : y 1 11 = nI c := by rw [fy.2 11 (by decide), av]; exact k11
    obtain ⟨h2, k1, k2, k3, k4⟩ := parts_m hL hr hc 7 lpF b [] y rfl (by rw [lpF_eq]; omega) (tpM_Y fy (tv v)) hbL tk s11 (pwM_Y fy (pv v))
    subst hb
    obtain ⟨h3, g1, g2, g3, g4, g5⟩ := b130_m (f := (ptS r L).1) (c := c) k4 (by rw [k2.2.1 11 (by decide)]; exact s11)
    refine ⟨h3, ?_, fun q e1' e2 e3 e4 => ?_, fun j e1' e2 => ?_, fun i e => ⟨?_, ?_⟩, g4, g5, ?_, ?_⟩
    · unfold fX8_pattern_b81
      exact k1.trans g1
    · rw [g2 q e1', k2.1 q e1' e3 e4, fy.1 q e1', up_ne e2, q1.1 q e1', yq q e1' e3]
    · rw [g3 j e1' (by omega) (by omega), k2.2.1 j (by omega), fy.2 j (by omega), av, q1.2 j (by omega), yj j (by omega) (by omega)]
    · rw [g2 20 (by decide), k2.1 20 (by decide) (by decide) (by omega), fy.1 20 (by decide), up_at, if_neg e, q1.1 20 (by decide), yq 20 (by decide) (by decide)]
    · rw [g2 21 (by decide), k2.2.2 i e, fy.1 21 (by decide), up_ne (by decide), q1.1 21 (by decide), yi i e]
    · rw [g2 20 (by decide), k2.1 20 (by decide) (by decide) (by omega), fy.1 20 (by decide), up_same, hv]
    · exact ⟨by rw [g2 21 (by decide)]; exact k3.1, fun j y' hj => by rw [g2 (23 + c) (by omega)]; exact k3.2 j y' hj⟩
  rw [e1, Option.bind_some, w4, w3, k11, M_12]
  have e63 : ∀ v : Int32, fX8_pattern_b64 RM 1 h1 20 (nI c) v = if zn v = 0 then fX8_pattern_b81 RM 1 (up h1 20 c (zn v)) else (fX8_next (up h1 20 c (zn v)) RM 1).bind (fun h78 => fX8_pattern_b81 RM 1 h78) := by
    intro v
    rw [fX8_pattern_b64, ln_20, gd_in hc (by decide), lt_eq, ix_n (show c < 2 ^ 31 by omega), av, k11, M_12, ln_20, gd_in hc (by decide), ix_n (show c < 2 ^ 31 by omega), up_same]
  by_cases c3 : (kdS r L (bgS r L 0)).2.1 = 3
  · have hng : ngS r L = true := decide_eq_true c3
    rw [if_neg (fun q => q ((wkI_0 _ kle).mpr (by omega))), if_neg (fun q => q ((mkI_2 _ kle).mpr c3)), e63, zn_1, if_neg (show ¬ (1 : Int32) = 0 by decide)]
    obtain ⟨h2, e2, q2, w'⟩ := next_m (h := up h1 20 c 1) hL hr (tv 1) (kdS_le (bgS_le (Nat.zero_le L))) (by rw [av]; exact w1) (by rw [av, w4]; exact (wkI_0 _ kle).mpr (by omega))
    rw [e2, Option.bind_some]
    exact fin 1 _ h2 (by unfold stS; rw [if_pos hng]) (by rw [hng]; rfl) (bgS_le (kdS_le (bgS_le (Nat.zero_le L)))) q2 w'
  · have hng : ngS r L = false := decide_eq_false c3
    have go := fin 0 (bgS r L 0) (up h1 20 c 0) (by unfold stS; rw [if_neg (by rw [hng]; decide)]) (by rw [hng]; rfl) (bgS_le (Nat.zero_le L)) frY_rfl ⟨by rw [av]; exact w1, by rw [av]; exact w2, by rw [av]; exact w3, by rw [av]; exact w4, fun q => by rw [av]; exact w5 q⟩
    have e0 : fX8_pattern_b63 RM 1 h1 20 (nI c) = fX8_pattern_b81 RM 1 (up h1 20 c 0) := by rw [fX8_pattern_b63, e63, zn_0, if_pos rfl]
    by_cases cw : wkI (kdS r L (bgS r L 0)).2.1 = 0
    · rw [if_neg (fun q => q cw), if_pos (fun q => c3 ((mkI_2 _ kle).mp q)), e0]
      exact go
    · rw [if_pos cw, e0]
      exact go
/-! the statement -/
theorem s_pattern : S_pattern Inv := by
  rintro hA hM I0
  have I1 := I0
  obtain ⟨⟨n, F, V, P, pr, c0, c1, c2⟩, K, tp, S, i1, i2, i3, i4, i5, i6, i7⟩ := I0
  obtain ⟨a1, a2, a3, a4, a5, a6, a7, a8, a9, b1, b2, b3, b4⟩ := i4
  obtain ⟨d1, d2, d3, d4, d5, d6, d7, e1, e2, e3, e4, e5⟩ := i5
  obtain ⟨p1, p2, p3, p4, p5, p6⟩ := i6
  obtain ⟨m1, m2, m3, m4, m5⟩ := i7
  by_cases h6 : P.length = 6
  · unfold fX7_pattern fX8_pattern
    rw [A_10, a7, d6, h6, if_neg (show ¬ nI 6 < 6 by decide), if_neg (show ¬ ¬ nI 6 = 6 from fun z => z rfl)]
    exact ⟨_, hA, hM, rfl, rfl, I1⟩
  · have hc : P.length < 6 := by omega
    have hL : tp.length ≤ 40 := p3.1
    have hg : ∀ i, i < tp.length → tp[i]? = some ((tp[i]?).getD 0) := fun i hi => by rw [List.getElem?_eq_getElem hi]; rfl
    have tA : tpR hA (fun i => (tp[i]?).getD 0) tp.length := ⟨p4, fun i hi => p5 i _ (hg i hi)⟩
    have tM : tpM hM (fun i => (tp[i]?).getD 0) tp.length := ⟨m3, fun i hi => m4 i _ (hg i hi)⟩
    have hr : ∀ i, i < tp.length → ¬ (tp[i]?).getD 0 = -1 := fun i hi => p3.2 i _ (hg i hi)
    obtain ⟨rP1, rP2, rP3⟩ := isW_2.2.2.2.2.2.2.2.2.2.2.2 P.length hc
    have rP1 : RA 5 P.length = 23 + 2 * P.length := rP1
    have rP2 : RA (23 + 2 * P.length) 0 = 23 + 2 * P.length + 1 := by rw [show 23 + 2 * P.length = 2 + 21 + 2 * P.length by omega, rP2]; omega
    have rP3 : lnA (23 + 2 * P.length + 1) = 8 := by rw [show 23 + 2 * P.length + 1 = 2 + 22 + 2 * P.length by omega]; exact rP3
    have r23 : RA 2 3 = 5 := isW_2.2.2.1
    have l5 : lnA 5 = 6 := isW_2.2.2.2.2.2.2.2.1
    obtain ⟨hB, k1, k2, k3, k4, k5⟩ := read_a (P := 23 + 2 * P.length) hL (by omega) rP2 rP3 tA
    obtain ⟨hN, f1, f2, f3, f4, f5, f6, f7, f8⟩ := pattern_m hL hr hc tM d6
    have len8 : (ptS (fun i => (tp[i]?).getD 0) tp.length).2.length ≤ 8 := by
      have := rd_len (r := fun i => (tp[i]?).getD 0) (L := tp.length) 8 (stS (fun i => (tp[i]?).getD 0) tp.length) []
      have this : (ptS (fun i => (tp[i]?).getD 0) tp.length).2.length ≤ 0 + 8 := this
      omega
    have fA : ∀ q, q ≠ 101 → q ≠ 23 + 2 * P.length → q ≠ 23 + 2 * P.length + 1 → hB q = hA q := k2
    generalize hX : ptS (fun i => (tp[i]?).getD 0) tp.length = X at k1 k5 f1 f6 f8 len8
    generalize hY : ngS (fun i => (tp[i]?).getD 0) tp.length = Y at k4 f7
    obtain ⟨ft, l⟩ := X
    have k5 : pwA hB (23 + 2 * P.length) l := k5
    have f8 : pwM hN P.length l := f8
    have len8 : l.length ≤ 8 := len8
    have eA : fX7_pattern hA RA 1 = lt (up hB 101 1 0) (fun h43 => if oI ft = -1 then (lt (up h43 2 4 ((h43 2 4) + 1)) (fun h66 => some ((h66 2 4) - 1, h66))) else (some (-100 - oI ft, h43))) := by
      unfold fX7_pattern
      have : nI P.length < 6 := nI_lt hc (by decide)
      rw [A_10, a7, if_pos this, r23, l5, gd_in hc (by decide), ix_n (show P.length < 2 ^ 31 by omega), rP1, A_14, k1, bi2_eq]
    have gA : ∀ (h' : HH), (∀ q, q ≠ 2 → h' q = up hB 101 1 0 q) → reA h' K [] S := fun h' hq => by
      have g : ∀ q, q ≠ 2 → q ≠ 101 → q ≠ 23 + 2 * P.length → q ≠ 23 + 2 * P.length + 1 → h' q = hA q := fun q q1 q2 q3 q4 => by rw [hq q q1, up_ne q2, fA q q2 q3 q4]
      exact ⟨by rw [g 1 (by decide) (by decide) (by omega) (by omega)]; exact p1, fun y hy => wA_eq (fun q h1 h2 => g q (by omega) (by omega) (by omega) (by omega)) (p2 y hy), ⟨by decide, fun i y hy => by cases hy⟩, by rw [hq 101 (by decide), up_same]; rfl, (fun i y hy => by cases hy), fun i hi => shA_eq (g _ (by omega) (by omega) (by omega) (by omega)) (g _ (by omega) (by omega) (by omega) (by omega)) (p6 i hi)⟩
    have gM : reM hN K [] S := ⟨by rw [f3 43 (by decide) (by decide)]; exact m1, fun y hy => imM_eq (fun q hq => f2 q (by omega) (by omega) (by omega) (by omega)) (m2 y hy), f5, (fun i y hy => by cases hy), fun i hi => shM_eq (f2 85 (by decide) (by decide) (by decide) (by omega)) (f2 86 (by decide) (by decide) (by decide) (by omega)) (f2 _ (by omega) (by omega) (by omega) (by omega)) (m5 i hi)⟩
    have paM : ∀ i y, P[i]? = some y → patM hN i y := fun i y hi => by
      have hl := (List.getElem?_eq_some_iff.mp hi).1
      obtain ⟨v1, v2, v3, v4⟩ := d7 i y hi
      obtain ⟨w1, w2⟩ := f4 i (by omega)
      exact ⟨v1, w2.trans v2, w1.trans v3, fun j z hj => by rw [f2 (23 + i) (by omega) (by omega) (by omega) (by omega)]; exact v4 j z hj⟩
    have bMN : bM hN := bM_eq (fun q _ _ => f2 q (by omega) (by omega) (by omega) (by omega)) e5
    have avN : ∀ s, s < 3 → avM hN s = V s := fun s hs => (avM_eq (f2 _ (by omega) (by omega) (by omega) (by omega)) (f2 _ (by omega) (by omega) (by omega) (by omega)) (f2 _ (by omega) (by omega) (by omega) (by omega)) (f2 _ (by omega) (by omega) (by omega) (by omega))).trans (d4 s hs)
    have wM' : ∀ (Q : List PT), Q.length ≤ 6 → hN 1 11 = nI Q.length → (∀ i y, Q[i]? = some y → patM hN i y) → wM hN (n, F, V, Q, pr, c0, c1, c2) := fun Q q1 q2 q3 => ⟨d1, by rw [f3 0 (by decide) (by decide)]; exact d2, fun t ht => by rw [f2 2 (by decide) (by decide) (by decide) (by omega)]; exact d3 t ht, avN, q1, q2, q3, by rw [f3 1 (by decide) (by decide)]; exact e1, by rw [f3 7 (by decide) (by decide)]; exact e2, by rw [f3 8 (by decide) (by decide)]; exact e3, by rw [f3 9 (by decide) (by decide)]; exact e4, bMN⟩
    have paA : ∀ (h' : HH), (∀ q, q ≠ 2 → h' q = up hB 101 1 0 q) → ∀ i y, P[i]? = some y → patA h' (2 + 21 + 2 * i) y := fun h' hq i y hi => by
      have hl := (List.getElem?_eq_some_iff.mp hi).1
      obtain ⟨v1, v2, v3, v4⟩ := a8 i y hi
      have g : ∀ q, q ≠ 2 → q ≠ 101 → q ≠ 23 + 2 * P.length → q ≠ 23 + 2 * P.length + 1 → h' q = hA q := fun q q1 q2 q3 q4 => by rw [hq q q1, up_ne q2, fA q q2 q3 q4]
      have g1 := g (2 + 21 + 2 * i) (by omega) (by omega) (by omega) (by omega)
      have g2 := g (2 + 21 + 2 * i + 1) (by omega) (by omega) (by omega) (by omega)
      exact ⟨v1, by rw [g1]; exact v2, by rw [g1]; exact v3, fun j z hj => by rw [g2]; exact v4 j z hj⟩
    have wA' : ∀ (h' : HH) (Q : List PT), (∀ q, q ≠ 2 → h' q = up hB 101 1 0 q) → (∀ j, j ≠ 4 → h' 2 j = hA 2 j) → Q.length ≤ 6 → h' 2 4 = nI Q.length → (∀ i y, Q[i]? = some y → patA h' (2 + 21 + 2 * i) y) → wA h' 2 (n, F, V, Q, pr, c0, c1, c2) := fun h' Q hq hj q1 q2 q3 => by
      have g : ∀ q, q ≠ 2 → q ≠ 101 → q ≠ 23 + 2 * P.length → q ≠ 23 + 2 * P.length + 1 → h' q = hA q := fun q q1 q2 q3 q4 => by rw [hq q q1, up_ne q2, fA q q2 q3 q4]
      refine ⟨a1, by rw [hj 0 (by decide)]; exact a2, fun t ht => by rw [g (2 + 1) (by omega) (by omega) (by omega) (by omega)]; exact a3 t ht, fun t ht => by rw [g (2 + 1) (by omega) (by omega) (by omega) (by omega)]; exact a4 t ht, trs_eq (fun q h1 h2 => g q (by omega) (by omega) (by omega) (by omega)) a5, q1, q2, q3, fun i hi => ?_, by rw [hj 5 (by decide)]; exact b1, by rw [hj 6 (by decide)]; exact b2, by rw [hj 7 (by decide)]; exact b3, by rw [hj 8 (by decide)]; exact b4⟩
      by_cases e : i = P.length
      · subst e
        have k4' : hB (23 + 2 * P.length) 2 = b2i Y := k4
        rw [show 2 + 21 + 2 * P.length = 23 + 2 * P.length by omega, hq _ (by omega), up_ne (by omega), k4']
        exact b2i_01 _
      · rw [g (2 + 21 + 2 * i) (by omega) (by omega) (by omega) (by omega)]
        exact a9 i hi
    cases ft with
    | some b =>
      have hne : ¬ oI (some b) = -1 := by
        have hb : b < 2 ^ 31 := by
          have : b ≤ 40 := by
            have hall : ∀ (m b : Nat) (l : List Int32), b ≤ tp.length → ∀ x, (rdS (fun i => (tp[i]?).getD 0) tp.length m b l).1 = some x → x ≤ tp.length := by
              intro m
              induction m with
              | zero =>
                intro b l hb x hx
                cases hx
                exact hb
              | succ m ih =>
                intro b l hb x hx
                have hb2 : bgS (fun i => (tp[i]?).getD 0) tp.length (kdS (fun i => (tp[i]?).getD 0) tp.length b).1 ≤ tp.length := bgS_le (kdS_le hb)
                unfold rdS at hx
                split at hx
                · split at hx
                  · cases hx
                  · split at hx
                    · cases hx
                      exact hb2
                    · exact ih _ _ (bgS_le (kdS_le hb2)) x hx
                · cases hx
                  exact hb
            have hs : stS (fun i => (tp[i]?).getD 0) tp.length ≤ tp.length := by
              unfold stS
              split
              · exact bgS_le (kdS_le (bgS_le (Nat.zero_le _)))
              · exact bgS_le (Nat.zero_le _)
            have := hall 8 (stS (fun i => (tp[i]?).getD 0) tp.length) [] hs b (by
              have e9 : (ptS (fun i => (tp[i]?).getD 0) tp.length).1 = some b := by rw [hX]
              exact e9)
            omega
          omega
        exact m1_ne b hb
      refine ⟨-100 - nI b, up hB 101 1 0, hN, ?_, f1, (n, F, V, P, pr, c0, c1, c2), K, [], S, i1, i2, i3, ?_, wM' P a6 f6 paM, gA _ (fun q _ => rfl), gM⟩
      · rw [eA, lt_eq, if_neg hne]
        rfl
      · exact wA' _ P (fun q _ => rfl) (fun j _ => by rw [up_ne (by decide), fA 2 (by decide) (by omega) (by omega)]) a6 (by rw [up_ne (by decide), fA 2 (by decide) (by omega) (by omega)]; exact a7) (paA _ (fun q _ => rfl))
    | none =>
      have q24 : up hB 101 1 0 2 4 = nI P.length := by rw [up_ne (by decide), fA 2 (by decide) (by omega) (by omega)]; exact a7
      have hPl : (P ++ [(l, Y)]).length = P.length + 1 := by simp
      have hget : ∀ (i : Nat) (y : PT), (P ++ [(l, Y)])[i]? = some y → (i = P.length ∧ y = (l, Y)) ∨ P[i]? = some y := fun i y hi => by
        by_cases e : i < P.length
        · rw [List.getElem?_append_left e] at hi
          exact Or.inr hi
        · rw [List.getElem?_append_right (by omega)] at hi
          have h1 := (List.getElem?_eq_some_iff.mp hi).1
          have e2 : i = P.length := by simp at h1; omega
          subst e2
          rw [Nat.sub_self] at hi
          exact Or.inl ⟨rfl, (Option.some.inj hi).symm⟩
      refine ⟨nI P.length, up (up hB 101 1 0) 2 4 (nI (P.length + 1)), hN, ?_, f1, (n, F, V, P ++ [(l, Y)], pr, c0, c1, c2), K, [], S, i1, i2, i3, ?_, ?_, gA _ (fun q hq => up_ne hq), gM⟩
      · rw [eA, lt_eq, if_pos (show oI none = -1 from rfl), q24, n_p1, lt_eq, up_same, nI_pred]
      · refine wA' _ (P ++ [(l, Y)]) (fun q hq => up_ne hq) (fun j hj => by rw [up_at, if_neg hj, up_ne (by decide), fA 2 (by decide) (by omega) (by omega)]) (by omega) (by rw [up_same, hPl]) (fun i y hi => ?_)
        rcases hget i y hi with ⟨e, ey⟩ | hi2
        · subst e
          subst ey
          have g1 : up (up hB 101 1 0) 2 4 (nI (P.length + 1)) (2 + 21 + 2 * P.length) = hB (23 + 2 * P.length) := by rw [up_ne (by omega), up_ne (by omega)]
          have g2 : up (up hB 101 1 0) 2 4 (nI (P.length + 1)) (2 + 21 + 2 * P.length + 1) = hB (23 + 2 * P.length + 1) := by rw [up_ne (by omega), up_ne (by omega)]
          exact ⟨len8, by rw [g1]; exact k5.1, by rw [g1]; exact k4, fun j z hj => by rw [g2]; exact k5.2 j z hj⟩
        · exact paA _ (fun q hq => up_ne hq) i y hi2
      · refine wM' _ (by omega) (by rw [hPl]; exact f6) (fun i y hi => ?_)
        rcases hget i y hi with ⟨e, ey⟩ | hi2
        · subst e
          subst ey
          exact ⟨len8, f8.1, f7, fun j z hj => f8.2 j z hj⟩
        · exact paM i y hi2
