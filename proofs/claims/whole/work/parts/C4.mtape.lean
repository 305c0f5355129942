/-! what is read from the tape: the reference's tokens -/
def mkI (k : Nat) : Int32 := if k = 0 then 0 else if k = 3 then 2 else if k = 4 then 3 else 1
def wkI (k : Nat) : Int32 := if k = 1 then 1 else 0
def tpM (h : HH) (r : Nat → Int32) (L : Nat) : Prop := h 1 16 = nI L ∧ ∀ i, i < L → h 29 i = r i
def frY (h h' : HH) : Prop := (∀ q, q ≠ 1 → h' q = h q) ∧ ∀ j, j < 17 ∨ 22 ≤ j → h' 1 j = h 1 j
theorem frY_rfl {h : HH} : frY h h := ⟨fun _ _ => rfl, fun _ _ => rfl⟩
theorem frY_trans {h h' h'' : HH} (a : frY h h') (b : frY h' h'') : frY h h'' := ⟨fun q e => (b.1 q e).trans (a.1 q e), fun j e => (b.2 j e).trans (a.2 j e)⟩
theorem frY_up {h : HH} {k : Nat} {x : Int32} (e1 : 17 ≤ k) (e2 : k < 22) : frY h (up h 1 k x) := ⟨fun q z => up_ne z, fun j z => by rw [up_at, if_neg (by omega)]⟩
theorem tpM_Y {h h' : HH} {r : Nat → Int32} {L : Nat} (a : frY h h') (t : tpM h r L) : tpM h' r L := ⟨(a.2 16 (by decide)).trans t.1, fun i hi => by rw [a.1 29 (by decide)]; exact t.2 i hi⟩
def byV (r : Nat → Int32) (L a : Nat) : Int32 := if a < L then r a else -1
theorem byteAt_m {h : HH} {r : Nat → Int32} {L a : Nat} (hL : L ≤ 40) (t : tpM h r L) (ha : a ≤ L) : fX8_byteAt h RM 1 (nI a) = some (byV r L a) := by
  unfold fX8_byteAt byV
  rw [t.1]
  by_cases e : L ≤ a
  · rw [if_pos (nI_le e (by omega)), if_neg (by omega)]
  · rw [if_neg (nI_ge (by omega) (by omega)), M_15, ln_29, gd_in (show a < 40 by omega) n40, ix_n (show a < 2 ^ 31 by omega), t.2 a (by omega), if_pos (by omega)]
theorem by_dg {r : Nat → Int32} {L a : Nat} : (!(decide (byV r L a < 48)) && !(decide (57 < byV r L a))) = dgB r L a := by
  unfold byV dgB dgV
  by_cases e : a < L
  · rw [if_pos e, decide_eq_true e, Bool.true_and]
  · rw [if_neg e, decide_eq_false e, Bool.false_and]
    decide
def tkM (h' : HH) (b : Nat) (x : Nat × Nat × Int32) : Prop := h' 1 17 = nI x.1 ∧ h' 1 18 = nI b ∧ h' 1 19 = mkI x.2.1 ∧ h' 1 21 = wkI x.2.1 ∧ (isPt x.2.1 = true → h' 1 20 = x.2.2)
theorem num_m {r : Nat → Int32} {L b : Nat} (hL : L ≤ 40) : ∀ (k n d : Nat) (h : HH) (v : Int32), b + d + k = L → k < n → tpM h r L → h 1 17 = nI (b + d) → h 1 18 = nI b → h 1 19 = 1 → h 1 20 = v → ∃ h', fX8_next_b189 RM 1 n h = some h' ∧ frY h h' ∧ tkM h' b (b + (nmS r L b (k + 1) d v).1, (if (nmS r L b (k + 1) d v).1 ≤ 2 then 2 else 1), (nmS r L b (k + 1) d v).2) := by
  intro k
  induction k with
  | zero =>
    intro n d h v hk hn t h7 h8 h9 h0
    obtain ⟨n, rfl⟩ : ∃ m, n = m + 1 := ⟨n - 1, by omega⟩
    have hd : dgB r L (b + d) = false := by unfold dgB; rw [decide_eq_false (by omega)]; rfl
    rw [fX8_next_b189, h7, byteAt_m hL t (by omega), Option.bind_some, in_m, by_dg, hd, Option.bind_some, b2i_if, if_neg (show ¬ (false = true) by decide), h8, nI_subn, nmS_no hd]
    simp only [nle_2 (show d < 2 ^ 31 by omega), fX8_next_b275, lt_eq, bz_0, bz_1]
    by_cases e : d ≤ 2
    · rw [if_pos e, if_pos e]
      exact ⟨_, rfl, frY_up (by decide) (by decide), by rw [up_at, if_neg (by decide)]; exact h7, by rw [up_at, if_neg (by decide)]; exact h8, by rw [up_at, if_neg (by decide)]; exact h9, by rw [up_same]; rfl, fun _ => by rw [up_at, if_neg (by decide)]; exact h0⟩
    · rw [if_neg e, if_neg e]
      exact ⟨_, rfl, frY_up (by decide) (by decide), by rw [up_at, if_neg (by decide)]; exact h7, by rw [up_at, if_neg (by decide)]; exact h8, by rw [up_at, if_neg (by decide)]; exact h9, by rw [up_same]; rfl, fun _ => by rw [up_at, if_neg (by decide)]; exact h0⟩
  | succ k ih =>
    intro n d h v hk hn t h7 h8 h9 h0
    obtain ⟨n, rfl⟩ : ∃ m, n = m + 1 := ⟨n - 1, by omega⟩
    cases hd : dgB r L (b + d) with
    | false =>
      rw [fX8_next_b189, h7, byteAt_m hL t (by omega), Option.bind_some, in_m, by_dg, hd, Option.bind_some, b2i_if, if_neg (show ¬ (false = true) by decide), h8, nI_subn, nmS_no hd]
      simp only [nle_2 (show d < 2 ^ 31 by omega), fX8_next_b275, lt_eq, bz_0, bz_1]
      by_cases e : d ≤ 2
      · rw [if_pos e, if_pos e]
        exact ⟨_, rfl, frY_up (by decide) (by decide), by rw [up_at, if_neg (by decide)]; exact h7, by rw [up_at, if_neg (by decide)]; exact h8, by rw [up_at, if_neg (by decide)]; exact h9, by rw [up_same]; rfl, fun _ => by rw [up_at, if_neg (by decide)]; exact h0⟩
      · rw [if_neg e, if_neg e]
        exact ⟨_, rfl, frY_up (by decide) (by decide), by rw [up_at, if_neg (by decide)]; exact h7, by rw [up_at, if_neg (by decide)]; exact h8, by rw [up_at, if_neg (by decide)]; exact h9, by rw [up_same]; rfl, fun _ => by rw [up_at, if_neg (by decide)]; exact h0⟩
    | true =>
      have hlt : b + d < L := by
        unfold dgB at hd
        simp only [Bool.and_eq_true, decide_eq_true_eq] at hd
        exact hd.1
      have hv : byV r L (b + d) = r (b + d) := if_pos hlt
      rw [fX8_next_b189, h7, byteAt_m hL t (by omega), Option.bind_some, in_m, by_dg, hd, Option.bind_some, b2i_if, if_pos rfl, h8, nI_subn, nmS_go hd, Option.bind_some, hv]
      simp only [n2_le (show d < 2 ^ 31 by omega), fX8_next_b243, lt_eq]
      by_cases e : 2 ≤ d
      · rw [if_pos e, if_pos e, h7, n_p1]
        obtain ⟨h', g1, g2, g3⟩ := ih n (d + 1) (up h 1 17 (nI (b + d + 1))) v (by omega) (by omega) (tpM_Y (frY_up (by decide) (by decide)) t) (by rw [up_same]; rfl) (by rw [up_at, if_neg (by decide)]; exact h8) (by rw [up_at, if_neg (by decide)]; exact h9) (by rw [up_at, if_neg (by decide)]; exact h0)
        exact ⟨h', g1, frY_trans (frY_up (by decide) (by decide)) g2, g3⟩
      · have e5 : ∀ x : Int32, up h 1 20 x 1 17 = nI (b + d) := fun x => by rw [up_at, if_neg (by decide)]; exact h7
        rw [if_neg e, if_neg e, h0, e5, n_p1, Int32.mul_comm 10 v]
        obtain ⟨h', g1, g2, g3⟩ := ih n (d + 1) (up (up h 1 20 (v * 10 + r (b + d) - 48)) 1 17 (nI (b + d + 1))) (v * 10 + r (b + d) - 48) (by omega) (by omega) (tpM_Y (frY_trans (frY_up (by decide) (by decide)) (frY_up (by decide) (by decide))) t) (by rw [up_same]; rfl) (by rw [up_at, if_neg (by decide), up_at, if_neg (by decide)]; exact h8) (by rw [up_at, if_neg (by decide), up_at, if_neg (by decide)]; exact h9) (by rw [up_at, if_neg (by decide), up_same])
        exact ⟨h', g1, frY_trans (frY_trans (frY_up (by decide) (by decide)) (frY_up (by decide) (by decide))) g2, g3⟩
/-- a token once its first byte is known -/
theorem tok_m {h : HH} {r : Nat → Int32} {L b : Nat} (hL : L ≤ 40) (hr : ∀ i, i < L → ¬ r i = -1) (t : tpM h r L) (hb : b ≤ L) (h7 : h 1 17 = nI b) (h8 : h 1 18 = nI b) (h21 : h 1 21 = 0) : ∃ h', (if ¬ byV r L b = -1 then (if ¬ byV r L b = 33 then (if ¬ byV r L b = 47 then fX8_next_b95 RM 1 h 1 1 (byV r L b) else fX8_next_b95 RM 1 h 1 3 (byV r L b)) else fX8_next_b95 RM 1 h 1 2 (byV r L b)) else fX8_next_b95 RM 1 h 1 0 (byV r L b)) = some h' ∧ frY h h' ∧ tkM h' b (kdS r L b) := by
  unfold kdS
  by_cases e : L ≤ b
  · have hv : byV r L b = -1 := if_neg (by omega)
    rw [hv, if_neg (fun q => q rfl), if_pos e, fX8_next_b95, lt_eq, if_neg (fun q => q rfl)]
    exact ⟨_, rfl, frY_up (by decide) (by decide), by rw [up_at, if_neg (by decide)]; exact h7, by rw [up_at, if_neg (by decide)]; exact h8, by rw [up_same]; rfl, by rw [up_at, if_neg (by decide)]; exact h21, fun q => by cases q⟩
  · have hv : byV r L b = r b := if_pos (by omega)
    have hn : ¬ r b = -1 := hr b (by omega)
    have hdg : (!(decide (r b < 48)) && !(decide (57 < r b))) = dgB r L b := by rw [← by_dg, hv]
    rw [hv, if_pos hn, if_neg e]
    have head : ∀ s1 : Int32, fX8_next_b95 RM 1 h 1 s1 (r b) = (if ¬ r b = 42 then (if dgB r L b = true then fX8_next_b189 RM 1 lpF (up (up (up h 1 19 s1) 1 17 (nI (b + 1))) 1 20 (r b - 48)) else (if ¬ (up (up h 1 19 s1) 1 17 (nI (b + 1))) 1 19 = 1 then some (up (up h 1 19 s1) 1 17 (nI (b + 1))) else some (up (up (up h 1 19 s1) 1 17 (nI (b + 1))) 1 21 1))) else ((fX8_byteAt (up (up h 1 19 s1) 1 17 (nI (b + 1))) RM 1 (nI (b + 1))).bind (fun v125 => if ¬ v125 = 42 then (fX8_next_b138 RM 1 (up (up h 1 19 s1) 1 17 (nI (b + 1))) 0) else (fX8_next_b138 RM 1 (up (up h 1 19 s1) 1 17 (nI (b + 1))) 1)))) := by
      intro s1
      have e7 : up h 1 19 s1 1 17 = nI b := by rw [up_at, if_neg (by decide)]; exact h7
      rw [fX8_next_b95, lt_eq, if_pos hn, e7, n_p1, lt_eq, in_m, Option.bind_some, hdg, b2i_if]
      rw [show up (up h 1 19 s1) 1 17 (nI (b + 1)) 1 17 = nI (b + 1) from up_same]
      rfl
    have g9 : ∀ s1 : Int32, up (up h 1 19 s1) 1 17 (nI (b + 1)) 1 19 = s1 := fun s1 => by rw [up_at, if_neg (by decide), up_same]
    have g7 : ∀ s1 : Int32, up (up h 1 19 s1) 1 17 (nI (b + 1)) 1 17 = nI (b + 1) := fun s1 => up_same
    have g8 : ∀ s1 : Int32, up (up h 1 19 s1) 1 17 (nI (b + 1)) 1 18 = nI b := fun s1 => by rw [up_at, if_neg (by decide), up_at, if_neg (by decide)]; exact h8
    have g21 : ∀ s1 : Int32, up (up h 1 19 s1) 1 17 (nI (b + 1)) 1 21 = 0 := fun s1 => by rw [up_at, if_neg (by decide), up_at, if_neg (by decide)]; exact h21
    have gf : ∀ s1 : Int32, frY h (up (up h 1 19 s1) 1 17 (nI (b + 1))) := fun s1 => frY_trans (frY_up (by decide) (by decide)) (frY_up (by decide) (by decide))
    by_cases e1 : r b = 33
    · have hd : dgB r L b = false := by rw [← hdg, e1]; decide
      rw [if_neg (fun q => q e1), head, hd, g9, if_pos (show ¬ r b = 42 by rw [e1]; decide), if_neg (show ¬ (false = true) by decide), if_pos (show ¬ (2 : Int32) = 1 by decide), if_neg (show ¬ (false = true) by decide), if_pos e1]
      exact ⟨_, rfl, gf 2, g7 2, g8 2, g9 2, g21 2, fun q => by cases q⟩
    · rw [if_pos e1]
      by_cases e2 : r b = 47
      · have hd : dgB r L b = false := by rw [← hdg, e2]; decide
        rw [if_neg (fun q => q e2), head, hd, g9, if_pos (show ¬ r b = 42 by rw [e2]; decide), if_neg (show ¬ (false = true) by decide), if_pos (show ¬ (3 : Int32) = 1 by decide), if_neg (show ¬ (false = true) by decide), if_neg e1, if_pos e2]
        exact ⟨_, rfl, gf 3, g7 3, g8 3, g9 3, g21 3, fun q => by cases q⟩
      · rw [if_pos e2, head, g9]
        by_cases e3 : r b = 42
        · have hd : dgB r L b = false := by rw [← hdg, e3]; decide
          rw [if_neg (fun q => q e3), hd, if_neg (show ¬ (false = true) by decide), if_neg e1, if_neg e2, if_pos e3, byteAt_m hL (tpM_Y (gf 1) t) (by omega), Option.bind_some]
          by_cases e4 : (decide (b + 1 < L) && decide (r (b + 1) = 42)) = true
          · rw [if_pos e4]
            simp only [Bool.and_eq_true, decide_eq_true_eq] at e4
            have hv1 : byV r L (b + 1) = 42 := by unfold byV; rw [if_pos e4.1]; exact e4.2
            rw [hv1, if_neg (fun q => q rfl), fX8_next_b138, if_neg (show ¬ (1 : Int32) = 0 by decide), g7, n_p1, lt_eq, fX8_next_b153, if_neg (show ¬ (1 : Int32) = 0 by decide)]
            exact ⟨_, rfl, frY_trans (gf 1) (frY_trans (frY_up (by decide) (by decide)) (frY_up (by decide) (by decide))), by rw [up_at, if_neg (by decide), up_same], by rw [up_at, if_neg (by decide), up_at, if_neg (by decide)]; exact g8 1, by rw [up_at, if_neg (by decide), up_at, if_neg (by decide)]; exact g9 1, by rw [up_at, if_neg (by decide), up_at, if_neg (by decide)]; exact g21 1, fun _ => up_same⟩
          · rw [if_neg e4]
            have hv1 : ¬ byV r L (b + 1) = 42 := by
              intro z
              apply e4
              unfold byV at z
              by_cases e5 : b + 1 < L
              · rw [if_pos e5] at z
                simp [e5, z]
              · rw [if_neg e5] at z
                exact absurd z (by decide)
            rw [if_pos hv1, fX8_next_b138, if_pos rfl, fX8_next_b153, if_pos rfl]
            exact ⟨_, rfl, frY_trans (gf 1) (frY_up (by decide) (by decide)), by rw [up_at, if_neg (by decide)]; exact g7 1, by rw [up_at, if_neg (by decide)]; exact g8 1, by rw [up_at, if_neg (by decide)]; exact g9 1, by rw [up_at, if_neg (by decide)]; exact g21 1, fun _ => up_same⟩
        · rw [if_pos e3]
          cases hd : dgB r L b with
          | true =>
            rw [if_pos rfl, if_pos rfl]
            obtain ⟨m, hm⟩ : ∃ m, L - b = m + 1 := ⟨L - b - 1, by omega⟩
            have hgo : nmS r L b (L - b + 1) 0 0 = nmS r L b (m + 1) 1 (r b - 48) := by
              rw [nmS_go (by exact hd), hm, if_neg (by decide), Int32.zero_mul, Int32.zero_add]
              rfl
            rw [hgo]
            obtain ⟨h', q1, q2, q3⟩ := num_m (b := b) hL m lpF 1 (up (up (up h 1 19 1) 1 17 (nI (b + 1))) 1 20 (r b - 48)) (r b - 48) (by omega) (by rw [lpF_eq]; omega) (tpM_Y (frY_trans (gf 1) (frY_up (by decide) (by decide))) t) (by rw [up_at, if_neg (by decide)]; exact g7 1) (by rw [up_at, if_neg (by decide)]; exact g8 1) (by rw [up_at, if_neg (by decide)]; exact g9 1) up_same
            exact ⟨h', q1, frY_trans (frY_trans (gf 1) (frY_up (by decide) (by decide))) q2, q3⟩
          | false =>
            rw [if_neg (show ¬ (false = true) by decide), if_neg (show ¬ ¬ (1 : Int32) = 1 from fun q => q rfl), if_neg (show ¬ (false = true) by decide), if_neg e1, if_neg e2, if_neg e3]
            exact ⟨_, rfl, frY_trans (gf 1) (frY_up (by decide) (by decide)), by rw [up_at, if_neg (by decide)]; exact g7 1, by rw [up_at, if_neg (by decide)]; exact g8 1, by rw [up_at, if_neg (by decide)]; exact g9 1, up_same, fun q => by cases q⟩
theorem nextm_b {r : Nat → Int32} {L : Nat} (hL : L ≤ 40) (hr : ∀ i, i < L → ¬ r i = -1) : ∀ (k n a : Nat) (h : HH), a + k = L → k < n → tpM h r L → h 1 17 = nI a → h 1 21 = 0 → ∃ h', fX8_next_b8 RM 1 n h = some h' ∧ frY h h' ∧ tkM h' (skp r L (k + 1) a) (kdS r L (skp r L (k + 1) a)) := by
  intro k
  induction k with
  | zero =>
    intro n a h hk hn t h7 h21
    obtain ⟨n, rfl⟩ : ∃ m, n = m + 1 := ⟨n - 1, by omega⟩
    have hv : byV r L a = -1 := if_neg (by omega)
    obtain ⟨h', q1, q2, q3⟩ := tok_m (h := up h 1 18 (nI a)) (b := a) hL hr (tpM_Y (frY_up (by decide) (by decide)) t) (by omega) (by rw [up_at, if_neg (by decide)]; exact h7) up_same (by rw [up_at, if_neg (by decide)]; exact h21)
    refine ⟨h', ?_, frY_trans (frY_up (by decide) (by decide)) q2, ?_⟩
    · rw [fX8_next_b8, h7, byteAt_m hL t (by omega), Option.bind_some, Option.bind_some, hv, if_neg (show ¬ (-1 : Int32) = 32 by decide), if_pos (show ¬ (-1 : Int32) = 10 by decide), lt_eq, show up h 1 18 (nI a) 1 17 = nI a by rw [up_at, if_neg (by decide)]; exact h7]
      rw [byteAt_m hL (tpM_Y (frY_up (by decide) (by decide)) t) (by omega), Option.bind_some]
      exact q1
    · rw [skp_no (by rw [decide_eq_false (by omega)]; rfl)]
      exact q3
  | succ k ih =>
    intro n a h hk hn t h7 h21
    obtain ⟨n, rfl⟩ : ∃ m, n = m + 1 := ⟨n - 1, by omega⟩
    have ha : a < L := by omega
    have hv : byV r L a = r a := if_pos ha
    have go : ∃ h', fX8_next_b8 RM 1 n (up h 1 17 (nI (a + 1))) = some h' ∧ frY h h' ∧ tkM h' (skp r L (k + 1) (a + 1)) (kdS r L (skp r L (k + 1) (a + 1))) := by
      obtain ⟨h', g1, g2, g3⟩ := ih n (a + 1) (up h 1 17 (nI (a + 1))) (by omega) (by omega) (tpM_Y (frY_up (by decide) (by decide)) t) up_same (by rw [up_at, if_neg (by decide)]; exact h21)
      exact ⟨h', g1, frY_trans (frY_up (by decide) (by decide)) g2, g3⟩
    rw [fX8_next_b8, h7, byteAt_m hL t (by omega), Option.bind_some, Option.bind_some, hv]
    by_cases e1 : r a = 32
    · rw [if_pos e1, skp_go (by unfold wsB; simp [ha, e1]), fX8_next_b34, h7, n_p1]
      exact go
    · rw [if_neg e1]
      by_cases e2 : r a = 10
      · rw [if_neg (fun q => q e2), skp_go (by unfold wsB; simp [ha, e2]), fX8_next_b34, h7, n_p1]
        exact go
      · rw [if_pos e2, skp_no (by unfold wsB; simp [e1, e2]), lt_eq, show up h 1 18 (nI a) 1 17 = nI a by rw [up_at, if_neg (by decide)]; exact h7]
        rw [byteAt_m hL (tpM_Y (frY_up (by decide) (by decide)) t) (by omega), Option.bind_some]
        obtain ⟨h', q1, q2, q3⟩ := tok_m (h := up h 1 18 (nI a)) (b := a) hL hr (tpM_Y (frY_up (by decide) (by decide)) t) (by omega) (by rw [up_at, if_neg (by decide)]; exact h7) up_same (by rw [up_at, if_neg (by decide)]; exact h21)
        exact ⟨h', q1, frY_trans (frY_up (by decide) (by decide)) q2, q3⟩
theorem next_m {h : HH} {r : Nat → Int32} {L a : Nat} (hL : L ≤ 40) (hr : ∀ i, i < L → ¬ r i = -1) (t : tpM h r L) (ha : a ≤ L) (h7 : h 1 17 = nI a) (h21 : h 1 21 = 0) : ∃ h', fX8_next h RM 1 = some h' ∧ frY h h' ∧ tkM h' (bgS r L a) (kdS r L (bgS r L a)) := by
  unfold fX8_next
  rw [if_pos h21]
  exact nextm_b hL hr (L - a) lpF a h (by omega) (by rw [lpF_eq]; omega) t h7 h21
