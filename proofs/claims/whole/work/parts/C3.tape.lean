/-! what is read from the tape: the class's tokens -/
theorem nI_subn {b d : Nat} : nI (b + d) - nI b = nI d := by rw [Nat.add_comm, ← nI_add, Int32.add_sub_cancel]
def wsB (x : Int32) : Bool := decide (x = 32) || decide (x = 10)
def dgV (x : Int32) : Bool := !(decide (x < 48)) && !(decide (57 < x))
def dgB (r : Nat → Int32) (L a : Nat) : Bool := decide (a < L) && dgV (r a)
def skp (r : Nat → Int32) (L : Nat) : Nat → Nat → Nat
  | 0, a => a
  | k + 1, a => if (decide (a < L) && wsB (r a)) = true then skp r L k (a + 1) else a
def nmS (r : Nat → Int32) (L b : Nat) : Nat → Nat → Int32 → Nat × Int32
  | 0, d, v => (d, v)
  | k + 1, d, v => if dgB r L (b + d) = true then nmS r L b k (d + 1) (if 2 ≤ d then v else v * 10 + r (b + d) - 48) else (d, v)
def kdS (r : Nat → Int32) (L b : Nat) : Nat × Nat × Int32 := if L ≤ b then (b, 0, 0) else if dgB r L b = true then (b + (nmS r L b (L - b + 1) 0 0).1, if (nmS r L b (L - b + 1) 0 0).1 ≤ 2 then 2 else 1, (nmS r L b (L - b + 1) 0 0).2) else if r b = 33 then (b + 1, 3, 0) else if r b = 47 then (b + 1, 4, 0) else if r b = 42 then (if (decide (b + 1 < L) && decide (r (b + 1) = 42)) = true then (b + 2, 6, -2) else (b + 1, 5, -1)) else (b + 1, 1, 0)
def bgS (r : Nat → Int32) (L a : Nat) : Nat := skp r L (L - a + 1) a
def isPt (k : Nat) : Bool := decide (k = 2) || (decide (k = 5) || decide (k = 6))
theorem skp_le {r : Nat → Int32} {L : Nat} : ∀ k a, a ≤ L → skp r L k a ≤ L
  | 0, a, h => h
  | k + 1, a, h => by
    unfold skp
    split
    · rename_i e
      simp only [Bool.and_eq_true, decide_eq_true_eq] at e
      exact skp_le k (a + 1) e.1
    · exact h
theorem bgS_le {r : Nat → Int32} {L a : Nat} (h : a ≤ L) : bgS r L a ≤ L := skp_le _ _ h
theorem nmS_le {r : Nat → Int32} {L b : Nat} : ∀ k d v, b + d ≤ L → b + (nmS r L b k d v).1 ≤ L
  | 0, d, v, h => h
  | k + 1, d, v, h => by
    unfold nmS
    split
    · rename_i e
      unfold dgB at e
      simp only [Bool.and_eq_true, decide_eq_true_eq] at e
      exact nmS_le k (d + 1) _ (by omega)
    · exact h
theorem kdS_le {r : Nat → Int32} {L b : Nat} (h : b ≤ L) : (kdS r L b).1 ≤ L := by
  unfold kdS
  split
  · exact h
  · split
    · exact nmS_le _ _ _ h
    · split
      · show b + 1 ≤ L; omega
      · split
        · show b + 1 ≤ L; omega
        · split
          · split
            · rename_i e
              simp only [Bool.and_eq_true, decide_eq_true_eq] at e
              show b + 2 ≤ L; omega
            · show b + 1 ≤ L; omega
          · show b + 1 ≤ L; omega
theorem skp_go {r : Nat → Int32} {L k a : Nat} (h : (decide (a < L) && wsB (r a)) = true) : skp r L (k + 1) a = skp r L k (a + 1) := if_pos h
theorem skp_no {r : Nat → Int32} {L k a : Nat} (h : (decide (a < L) && wsB (r a)) = false) : skp r L (k + 1) a = a := by
  unfold skp
  rw [h]
  rfl
theorem nmS_go {r : Nat → Int32} {L b k d : Nat} {v : Int32} (h : dgB r L (b + d) = true) : nmS r L b (k + 1) d v = nmS r L b k (d + 1) (if 2 ≤ d then v else v * 10 + r (b + d) - 48) := if_pos h
theorem nmS_no {r : Nat → Int32} {L b k d : Nat} {v : Int32} (h : dgB r L (b + d) = false) : nmS r L b (k + 1) d v = (d, v) := by
  unfold nmS
  rw [h]
  rfl
def tpR (h : HH) (r : Nat → Int32) (L : Nat) : Prop := h 101 1 = nI L ∧ ∀ i, i < L → h 102 i = r i
def frQ (h h' : HH) : Prop := (∀ q, q ≠ 101 → h' q = h q) ∧ ∀ j, j = 1 → h' 101 j = h 101 j
theorem frQ_rfl {h : HH} : frQ h h := ⟨fun _ _ => rfl, fun _ _ => rfl⟩
theorem frQ_trans {h h' h'' : HH} (a : frQ h h') (b : frQ h' h'') : frQ h h'' := ⟨fun q e => (b.1 q e).trans (a.1 q e), fun j e => (b.2 j e).trans (a.2 j e)⟩
theorem frQ_up {h : HH} {k : Nat} {x : Int32} (e : k ≠ 1) : frQ h (up h 101 k x) := ⟨fun q z => up_ne z, fun j z => by rw [up_at, if_neg (by omega)]⟩
theorem tpR_Q {h h' : HH} {r : Nat → Int32} {L : Nat} (a : frQ h h') (t : tpR h r L) : tpR h' r L := ⟨(a.2 1 rfl).trans t.1, fun i hi => by rw [a.1 102 (by decide)]; exact t.2 i hi⟩
theorem isDigit_a {h : HH} {r : Nat → Int32} {L a : Nat} (hL : L ≤ 40) (t : tpR h r L) (ha : a ≤ L) : fX4_isDigit h RA 101 (nI a) = some (b2i (dgB r L a)) := by
  unfold fX4_isDigit fX4_isDigit_b34 dgB dgV
  rw [t.1]
  by_cases e : L ≤ a
  · rw [if_pos (nI_le e (by omega)), decide_eq_false (by omega)]
    rfl
  · rw [if_neg (nI_ge (by omega) (by omega)), A_101, A_102, gd_in (show a < 40 by omega) n40, ix_n (show a < 2 ^ 31 by omega), t.2 a (by omega), decide_eq_true (show a < L by omega)]
    by_cases e1 : r a < 48
    · simp [e1, b2i]
    · by_cases e2 : 57 < r a
      · simp [e1, e2, b2i, gd_in (show a < 40 by omega) n40]
      · simp [e1, e2, b2i, gd_in (show a < 40 by omega) n40]
theorem n2_le {d : Nat} (h : d < 2 ^ 31) : (2 : Int32) ≤ nI d ↔ 2 ≤ d := n_le (show (2 : Int32) = nI 2 by decide) (by decide) d h
theorem nle_2 {d : Nat} (h : d < 2 ^ 31) : nI d ≤ (2 : Int32) ↔ d ≤ 2 := nI_leI h (show 2 < 2 ^ 31 by decide)
theorem readNum_b {r : Nat → Int32} {L b : Nat} (hL : L ≤ 40) : ∀ (k n d : Nat) (h : HH) (v : Int32), b + d + k = L → k < n → tpR h r L → h 101 2 = nI (b + d) → h 101 4 = nI b → h 101 5 = v → ∃ h', fX4_readNumber_b5 RA 101 n h = some h' ∧ frQ h h' ∧ h' 101 2 = nI (b + (nmS r L b (k + 1) d v).1) ∧ h' 101 3 = nI (if (nmS r L b (k + 1) d v).1 ≤ 2 then 2 else 1) ∧ h' 101 4 = nI b ∧ h' 101 5 = (nmS r L b (k + 1) d v).2 := by
  intro k
  induction k with
  | zero =>
    intro n d h v hk hn t h2 h4 h5
    obtain ⟨n, rfl⟩ : ∃ m, n = m + 1 := ⟨n - 1, by omega⟩
    have hd : dgB r L (b + d) = false := by unfold dgB; rw [decide_eq_false (by omega)]; rfl
    rw [fX4_readNumber_b5, t.1, h2, if_pos (nI_le (show L ≤ b + d by omega) (by omega)), fX4_readNumber_b77, h2, h4, nI_subn, nmS_no hd]
    simp only [nle_2 (show d < 2 ^ 31 by omega), fX4_readNumber_b96, lt_eq]
    by_cases e : d ≤ 2
    · rw [if_pos e, if_pos e]
      exact ⟨_, rfl, frQ_up (by decide), by rw [up_at, if_neg (by decide)]; exact h2, by rw [up_same]; rfl, by rw [up_at, if_neg (by decide)]; exact h4, by rw [up_at, if_neg (by decide)]; exact h5⟩
    · rw [if_neg e, if_neg e]
      exact ⟨_, rfl, frQ_up (by decide), by rw [up_at, if_neg (by decide)]; exact h2, by rw [up_same]; rfl, by rw [up_at, if_neg (by decide)]; exact h4, by rw [up_at, if_neg (by decide)]; exact h5⟩
  | succ k ih =>
    intro n d h v hk hn t h2 h4 h5
    obtain ⟨n, rfl⟩ : ∃ m, n = m + 1 := ⟨n - 1, by omega⟩
    cases hd : dgB r L (b + d) with
    | false =>
      rw [fX4_readNumber_b5, t.1, h2, if_neg (nI_ge (show b + d < L by omega) (by omega)), isDigit_a hL t (by omega), hd, Option.bind_some, b2i_if, if_neg (show ¬ (false = true) by decide), fX4_readNumber_b77, h2, h4, nI_subn, nmS_no hd]
      simp only [nle_2 (show d < 2 ^ 31 by omega), fX4_readNumber_b96, lt_eq]
      by_cases e : d ≤ 2
      · rw [if_pos e, if_pos e]
        exact ⟨_, rfl, frQ_up (by decide), by rw [up_at, if_neg (by decide)]; exact h2, by rw [up_same]; rfl, by rw [up_at, if_neg (by decide)]; exact h4, by rw [up_at, if_neg (by decide)]; exact h5⟩
      · rw [if_neg e, if_neg e]
        exact ⟨_, rfl, frQ_up (by decide), by rw [up_at, if_neg (by decide)]; exact h2, by rw [up_same]; rfl, by rw [up_at, if_neg (by decide)]; exact h4, by rw [up_at, if_neg (by decide)]; exact h5⟩
    | true =>
      have hlt : b + d < L := by
        unfold dgB at hd
        simp only [Bool.and_eq_true, decide_eq_true_eq] at hd
        exact hd.1
      rw [fX4_readNumber_b5, t.1, h2, if_neg (nI_ge hlt (by omega)), isDigit_a hL t (by omega), hd, Option.bind_some, b2i_if, if_pos rfl, h4, nI_subn, nmS_go hd]
      simp only [n2_le (show d < 2 ^ 31 by omega), fX4_readNumber_b64, lt_eq]
      by_cases e : 2 ≤ d
      · rw [if_pos e, if_pos e, h2, n_p1]
        obtain ⟨h', g1, g2, g3⟩ := ih n (d + 1) (up h 101 2 (nI (b + d + 1))) v (by omega) (by omega) (tpR_Q (frQ_up (by decide)) t) (by rw [up_same]; rfl) (by rw [up_at, if_neg (by decide)]; exact h4) (by rw [up_at, if_neg (by decide)]; exact h5)
        exact ⟨h', g1, frQ_trans (frQ_up (by decide)) g2, g3⟩
      · have e5 : ∀ x : Int32, up h 101 5 x 101 2 = nI (b + d) := fun x => by rw [up_at, if_neg (by decide)]; exact h2
        rw [if_neg e, if_neg e, h5, A_101, A_102, gd_in (show b + d < 40 by omega) n40, ix_n (show b + d < 2 ^ 31 by omega), t.2 _ hlt, e5, n_p1]
        obtain ⟨h', g1, g2, g3⟩ := ih n (d + 1) (up (up h 101 5 (v * 10 + r (b + d) - 48)) 101 2 (nI (b + d + 1))) (v * 10 + r (b + d) - 48) (by omega) (by omega) (tpR_Q (frQ_trans (frQ_up (by decide)) (frQ_up (by decide))) t) (by rw [up_same]; rfl) (by rw [up_at, if_neg (by decide), up_at, if_neg (by decide)]; exact h4) (by rw [up_at, if_neg (by decide), up_same])
        exact ⟨h', g1, frQ_trans (frQ_trans (frQ_up (by decide)) (frQ_up (by decide))) g2, g3⟩
def tkA (h' : HH) (b : Nat) (x : Nat × Nat × Int32) : Prop := h' 101 2 = nI x.1 ∧ h' 101 3 = nI x.2.1 ∧ h' 101 4 = nI b ∧ (isPt x.2.1 = true → h' 101 5 = x.2.2)
theorem next52_a {h : HH} {r : Nat → Int32} {L b : Nat} (hL : L ≤ 40) (t : tpR h r L) (hb : b ≤ L) (h2 : h 101 2 = nI b) : ∃ h', fX4_next_b52 RA 101 h = some h' ∧ frQ h h' ∧ tkA h' b (kdS r L b) := by
  have z2 : up h 101 4 (nI b) 101 2 = nI b := by rw [up_at, if_neg (by decide)]; exact h2
  have z4 : up h 101 4 (nI b) 101 4 = nI b := up_same
  have f4 : frQ h (up h 101 4 (nI b)) := frQ_up (by decide)
  have t4 := tpR_Q f4 t
  rw [fX4_next_b52, lt_eq, h2]
  generalize up h 101 4 (nI b) = z at z2 z4 f4 t4 ⊢
  rw [z2, t4.1, lt_eq]
  unfold kdS
  by_cases e : L ≤ b
  · rw [if_neg (nI_nlt e (by omega)), if_pos e]
    exact ⟨_, rfl, frQ_trans f4 (frQ_up (by decide)), by rw [up_at, if_neg (by decide)]; exact z2, by rw [up_same]; rfl, by rw [up_at, if_neg (by decide)]; exact z4, fun q => by cases q⟩
  · rw [if_pos ((nI_ltI (by omega) (by omega)).mpr (show b < L by omega)), if_neg e, isDigit_a hL t4 hb, Option.bind_some, b2i_if]
    cases hd : dgB r L b with
    | true =>
      rw [if_pos rfl, if_pos rfl]
      obtain ⟨h', g1, g2, g3, g4, g5, g6⟩ := readNum_b (b := b) hL (L - b) lpF 0 (up z 101 5 0) 0 (by omega) (by rw [lpF_eq]; omega) (tpR_Q (frQ_up (by decide)) t4) (by rw [up_at, if_neg (by decide)]; exact z2) (by rw [up_at, if_neg (by decide)]; exact z4) up_same
      refine ⟨h', by rw [fX4_readNumber, lt_eq, g1]; rfl, frQ_trans f4 (frQ_trans (frQ_up (by decide)) g2), g3, g4, g5, fun _ => g6⟩
    | false =>
      rw [if_neg (show ¬ (false = true) by decide), if_neg (show ¬ (false = true) by decide), fX4_readSign, z2, A_101, A_102, gd_in (show b < 40 by omega) n40, ix_n (show b < 2 ^ 31 by omega), t4.2 b (by omega), lt_eq, n_p1, lt_eq]
      have y2 : up z 101 2 (nI (b + 1)) 101 2 = nI (b + 1) := up_same
      have y4 : up z 101 2 (nI (b + 1)) 101 4 = nI b := by rw [up_at, if_neg (by decide)]; exact z4
      have fy : frQ h (up z 101 2 (nI (b + 1))) := frQ_trans f4 (frQ_up (by decide))
      have ty := tpR_Q fy t
      generalize up z 101 2 (nI (b + 1)) = y at y2 y4 fy ty ⊢
      by_cases e1 : r b = 33
      · rw [if_neg (fun q => q e1), if_pos e1]
        exact ⟨_, rfl, frQ_trans fy (frQ_up (by decide)), by rw [up_at, if_neg (by decide)]; exact y2, by rw [up_same]; rfl, by rw [up_at, if_neg (by decide)]; exact y4, fun q => by cases q⟩
      · rw [if_pos e1, if_neg e1]
        by_cases e2 : r b = 47
        · rw [if_neg (fun q => q e2), if_pos e2]
          exact ⟨_, rfl, frQ_trans fy (frQ_up (by decide)), by rw [up_at, if_neg (by decide)]; exact y2, by rw [up_same]; rfl, by rw [up_at, if_neg (by decide)]; exact y4, fun q => by cases q⟩
        · rw [if_pos e2, if_neg e2]
          by_cases e3 : r b = 42
          · rw [if_pos e3, if_pos e3, ty.1, y2]
            have star : ∃ h', fX4_readSign_b112 RA 101 y = some h' ∧ frQ h h' ∧ tkA h' b (b + 1, 5, -1) := ⟨_, rfl, frQ_trans fy (frQ_trans (frQ_up (by decide)) (frQ_up (by decide))), by rw [up_at, if_neg (by decide), up_at, if_neg (by decide)]; exact y2, by rw [up_at, if_neg (by decide), up_same]; rfl, by rw [up_at, if_neg (by decide), up_at, if_neg (by decide)]; exact y4, fun _ => up_same⟩
            by_cases e4 : L ≤ b + 1
            · rw [if_pos (nI_le e4 (by omega)), decide_eq_false (show ¬ b + 1 < L by omega)]
              obtain ⟨h', g1, g2, g3⟩ := star
              exact ⟨h', by rw [g1]; rfl, g2, g3⟩
            · rw [if_neg (nI_ge (by omega) (by omega)), gd_in (show b + 1 < 40 by omega) n40, ix_n (show b + 1 < 2 ^ 31 by omega), ty.2 _ (by omega), decide_eq_true (show b + 1 < L by omega)]
              by_cases e5 : r (b + 1) = 42
              · rw [if_neg (fun q => q e5), decide_eq_true e5, n_p1]
                exact ⟨_, rfl, frQ_trans fy (frQ_trans (frQ_up (by decide)) (frQ_trans (frQ_up (by decide)) (frQ_up (by decide)))), by rw [up_at, if_neg (by decide), up_at, if_neg (by decide), up_same]; rfl, by rw [up_at, if_neg (by decide), up_same]; rfl, by rw [up_at, if_neg (by decide), up_at, if_neg (by decide), up_at, if_neg (by decide)]; exact y4, fun _ => up_same⟩
              · rw [if_pos e5, decide_eq_false e5]
                obtain ⟨h', g1, g2, g3⟩ := star
                exact ⟨h', by rw [g1]; rfl, g2, g3⟩
          · rw [if_neg e3, if_neg e3]
            exact ⟨_, rfl, frQ_trans fy (frQ_up (by decide)), by rw [up_at, if_neg (by decide)]; exact y2, by rw [up_same]; rfl, by rw [up_at, if_neg (by decide)]; exact y4, fun q => by cases q⟩
theorem next_b {r : Nat → Int32} {L : Nat} (hL : L ≤ 40) : ∀ (k n a : Nat) (h : HH), a + k = L → k < n → tpR h r L → h 101 2 = nI a → ∃ h', fX4_next_b0 RA 101 n h = some h' ∧ frQ h h' ∧ tkA h' (skp r L (k + 1) a) (kdS r L (skp r L (k + 1) a)) := by
  intro k
  induction k with
  | zero =>
    intro n a h hk hn t h2
    obtain ⟨n, rfl⟩ : ∃ m, n = m + 1 := ⟨n - 1, by omega⟩
    rw [skp_no (by rw [decide_eq_false (by omega)]; rfl), fX4_next_b0, t.1, h2, if_pos (nI_le (show L ≤ a by omega) (by omega))]
    exact next52_a hL t (by omega) h2
  | succ k ih =>
    intro n a h hk hn t h2
    obtain ⟨n, rfl⟩ : ∃ m, n = m + 1 := ⟨n - 1, by omega⟩
    have ha : a < L := by omega
    have go : ∃ h', fX4_next_b0 RA 101 n (up h 101 2 (nI (a + 1))) = some h' ∧ frQ h h' ∧ tkA h' (skp r L (k + 1) (a + 1)) (kdS r L (skp r L (k + 1) (a + 1))) := by
      obtain ⟨h', g1, g2, g3⟩ := ih n (a + 1) (up h 101 2 (nI (a + 1))) (by omega) (by omega) (tpR_Q (frQ_up (by decide)) t) up_same
      exact ⟨h', g1, frQ_trans (frQ_up (by decide)) g2, g3⟩
    rw [fX4_next_b0, t.1, h2, if_neg (nI_ge ha (by omega)), A_101, A_102, gd_in (show a < 40 by omega) n40, gd_in (show a < 40 by omega) n40, ix_n (show a < 2 ^ 31 by omega), t.2 a ha]
    by_cases e1 : r a = 32
    · rw [if_pos e1, skp_go (by unfold wsB; simp [ha, e1]), fX4_next_b39, h2, n_p1]
      exact go
    · rw [if_neg e1]
      by_cases e2 : r a = 10
      · rw [if_neg (fun q => q e2), skp_go (by unfold wsB; simp [ha, e2]), fX4_next_b39, h2, n_p1]
        exact go
      · rw [if_pos e2, skp_no (by unfold wsB; simp [e1, e2])]
        exact next52_a hL t (by omega) h2
theorem next_a {h : HH} {r : Nat → Int32} {L a : Nat} (hL : L ≤ 40) (t : tpR h r L) (ha : a ≤ L) (h2 : h 101 2 = nI a) : ∃ h', fX4_next h RA 101 = some h' ∧ frQ h h' ∧ tkA h' (bgS r L a) (kdS r L (bgS r L a)) := next_b hL (L - a) lpF a h (by omega) (by rw [lpF_eq]; omega) t h2
