/-! chance -/
theorem gdv_free {h h' : HH} {r r' : RR} {a b : Int32} : ∀ n x, fX7_greatestDivisor_b2 h r a b n x = fX7_greatestDivisor_b2 h' r' a b n x := by
  intro n
  induction n with
  | zero => intro x; rfl
  | succ n ih =>
    intro x
    rw [fX7_greatestDivisor_b2, fX7_greatestDivisor_b2]
    simp only [fX7_greatestDivisor_b21, ih]
theorem com_free {h h' : HH} {r r' : RR} : ∀ n a b, fX8_common h r n a b = fX8_common h' r' n a b := by
  intro n
  induction n with
  | zero => intro a b; rfl
  | succ n ih =>
    intro a b
    rw [fX8_common, fX8_common]
    simp only [ih]
def hz0 : HH := fun _ _ => 0
def rz0 : RR := fun _ _ => 0
theorem gdv_more {h : HH} {r : RR} {a b : Int32} : ∀ n x d v, fX7_greatestDivisor_b2 h r a b n x = some v → fX7_greatestDivisor_b2 h r a b (n + d) x = some v := by
  intro n
  induction n with
  | zero => intro x d v e; cases e
  | succ n ih =>
    intro x d v e
    rw [show n + 1 + d = (n + d) + 1 by omega]
    rw [fX7_greatestDivisor_b2] at e ⊢
    simp only [fX7_greatestDivisor_b21] at e ⊢
    split
    · rename_i h1
      rw [if_pos h1] at e
      exact e
    · rename_i h1
      rw [if_neg h1] at e
      by_cases hx : decide (¬ x = 0) = true
      · simp only [gd_t hx] at e ⊢
        by_cases h3 : ¬ irm a x = 0
        · rw [if_pos h3] at e ⊢
          exact ih _ _ _ e
        · rw [if_neg h3] at e ⊢
          by_cases h4 : ¬ irm b x = 0
          · rw [if_pos h4] at e ⊢
            exact ih _ _ _ e
          · rw [if_neg h4] at e ⊢
            exact e
      · unfold gd at e
        rw [if_neg hx] at e
        cases e
def gcdS (a m : Nat) : Int32 := nI (Nat.gcd a m)
theorem gcd_all : ∀ m, m < 11 → 1 ≤ m → ∀ a, a < 11 → fX7_greatestDivisor_b2 hz0 rz0 (nI a) (nI m) 12 (nI m) = some (gcdS a m) ∧ fX8_common hz0 rz0 64 (nI a) (nI m) = some (gcdS a m) ∧ ¬ gcdS a m = 0 := by decide +kernel
theorem gcd_both {a m : Nat} (h : HH) (hm : 1 ≤ m) (hm2 : m ≤ 10) (ha : a ≤ 10) : fX7_greatestDivisor h RA (nI a) (nI m) = some (gcdS a m) ∧ fX8_common h RM 64 (nI a) (nI m) = some (gcdS a m) ∧ ¬ gcdS a m = 0 := by
  obtain ⟨h1, h2, h3⟩ := gcd_all m (by omega) hm a (by omega)
  refine ⟨?_, ?_, h3⟩
  · have := gdv_more 12 (nI m) 4084 _ h1
    unfold fX7_greatestDivisor
    rw [gdv_free (h' := hz0) (r' := rz0)]
    exact this
  · rw [com_free (h' := hz0) (r' := rz0)]
    exact h2
noncomputable def abS (x : WS) (sd : Int32) (j : Nat) (a : Nat) : Nat := if drwS x (sd + nI j) 8 ≤ 0 then a else a + 1
theorem le0_n {c : Nat} (h : c ≤ 150) : nI c ≤ 0 ↔ c ≤ 0 := nI_leI (show c < 2 ^ 31 by omega) (show 0 < 2 ^ 31 by decide)
theorem abS_le {x : WS} {sd : Int32} {j a : Nat} : abS x sd j a ≤ a + 1 := by
  unfold abS
  split <;> omega
theorem chance_a {h : HH} {x : WS} {K : Option WS} {tp : List Int32} {S : Nat → SH} (hx : wfS x) (hw : wA h 2 x) (hr : reA h K tp S) (sd a3 : Int32) {m : Nat} (h1 : 1 ≤ m) (hm : m ≤ 10) : ∃ h', fX7_chance_b29 RA 1 sd (nI m) a3 lpF h 0 0 = some ((if ¬ a3 = 0 then nI m else nI (fld (abS x sd) 0 m 0)) / gcdS (fld (abS x sd) 0 m 0) m, h') ∧ wA h' 2 x ∧ reA h' K tp S := by
  obtain ⟨⟨h', a'⟩, ⟨q1, q2, q3, q4⟩, k2⟩ := loop_rel (L := fun n (s : HH × Nat) y => fX7_chance_b29 RA 1 sd (nI m) a3 n s.1 (nI s.2) y) (e := m) (f := abS x sd) (R := fun j s a => s.2 = a ∧ wA s.1 2 x ∧ reA s.1 K tp S ∧ a ≤ j) (g := fun s => (fX7_greatestDivisor s.1 RA (nI s.2) (nI m)).bind (fun v60 => if ¬ a3 = 0 then (gd (decide (¬ v60 = 0)) (some (nI m / v60, s.1))) else (gd (decide (¬ v60 = 0)) (some (nI s.2 / v60, s.1))))) (fun n j s a hj hR => by
    obtain ⟨z, b⟩ := s
    obtain ⟨r1, r2, r3, r4⟩ := hR
    have r1 : b = a := r1
    have r2 : wA z 2 x := r2
    have r3 : reA z K tp S := r3
    subst r1
    obtain ⟨z', k1, k2, k3, k4⟩ := clashesDrawn_a hx r2 r3 (sd + nI j) (show 8 ≤ 20 by decide)
    have k1 : fX7_clashesDrawn z RA 1 (sd + nI j) 8 = some (nI (drwS x (sd + nI j) 8), z') := k1
    have hle := abS_le (x := x) (sd := sd) (j := j) (a := b)
    refine ⟨(z', abS x sd j b), ?_, rfl, k2, k3, by omega⟩
    show fX7_chance_b29 RA 1 sd (nI m) a3 (n + 1) z (nI b) (nI j) = fX7_chance_b29 RA 1 sd (nI m) a3 n z' (nI (abS x sd j b)) (nI (j + 1))
    rw [fX7_chance_b29, if_neg (nI_ge hj (by omega)), k1, bi2_eq]
    simp only [fX7_chance_b51, n_p1, le0_n k4]
    unfold abS
    split <;> rfl) (fun n s a hR => by
    show fX7_chance_b29 RA 1 sd (nI m) a3 (n + 1) s.1 (nI s.2) (nI m) = _
    rw [fX7_chance_b29, if_pos (nI_le (Nat.le_refl _) (by omega))]) lpF (h, 0) 0 (by rw [lpF_eq]; omega) ⟨rfl, hw, hr, Nat.le_refl 0⟩
  have q1 : a' = fld (abS x sd) 0 m 0 := q1
  subst q1
  have k2 : fX7_chance_b29 RA 1 sd (nI m) a3 lpF h (nI 0) (nI 0) = (fX7_greatestDivisor h' RA (nI (fld (abS x sd) 0 m 0)) (nI m)).bind (fun v60 => if ¬ a3 = 0 then (gd (decide (¬ v60 = 0)) (some (nI m / v60, h'))) else (gd (decide (¬ v60 = 0)) (some (nI (fld (abS x sd) 0 m 0) / v60, h')))) := k2
  have q4 : fld (abS x sd) 0 m 0 ≤ m := q4
  obtain ⟨g1, g2, g3⟩ := gcd_both h' h1 hm (show fld (abS x sd) 0 m 0 ≤ 10 by omega)
  refine ⟨h', ?_, q2, q3⟩
  rw [← l0] at k2
  rw [k2, g1, Option.bind_some, gd_t (decide_eq_true g3), gd_t (decide_eq_true g3)]
  split <;> rfl
theorem chance_m {h : HH} {x : WS} {K : Option WS} {tp : List Int32} {S : Nat → SH} (hx : wfS x) (hw : wM h x) (hr : reM h K tp S) (hb : ∀ j, drwS x j 8 ≤ 150) (sd a3 : Int32) {m : Nat} (h1 : 1 ≤ m) (hm : m ≤ 10) : ∃ h', fX8_chance_b28 RM 1 sd (nI m) a3 lpF h 0 0 = some ((if ¬ a3 = 0 then nI m else nI (fld (abS x sd) 0 m 0)) / gcdS (fld (abS x sd) 0 m 0) m, h') ∧ wM h' x ∧ reM h' K tp S := by
  obtain ⟨⟨h', a'⟩, ⟨q1, q2, q3, q4⟩, k2⟩ := loop_rel (L := fun n (s : HH × Nat) y => fX8_chance_b28 RM 1 sd (nI m) a3 n s.1 (nI s.2) y) (e := m) (f := abS x sd) (R := fun j s a => s.2 = a ∧ wM s.1 x ∧ reM s.1 K tp S ∧ a ≤ j) (g := fun s => if ¬ a3 = 0 then (fX8_chance_b66 RM 1 sd (nI m) a3 s.1 (nI m) (nI s.2)) else (fX8_chance_b66 RM 1 sd (nI m) a3 s.1 (nI s.2) (nI s.2))) (fun n j s a hj hR => by
    obtain ⟨z, b⟩ := s
    obtain ⟨r1, r2, r3, r4⟩ := hR
    have r1 : b = a := r1
    have r2 : wM z x := r2
    have r3 : reM z K tp S := r3
    subst r1
    obtain ⟨z', k1, k2, k3⟩ := byLot_m hx r2 r3 (sd + nI j) (show 8 ≤ 20 by decide)
    have k1 : fX8_byLot z RM 1 (sd + nI j) 8 = some (nI (drwS x (sd + nI j) 8), z') := k1
    have hle := abS_le (x := x) (sd := sd) (j := j) (a := b)
    refine ⟨(z', abS x sd j b), ?_, rfl, k2, k3, by omega⟩
    show fX8_chance_b28 RM 1 sd (nI m) a3 (n + 1) z (nI b) (nI j) = fX8_chance_b28 RM 1 sd (nI m) a3 n z' (nI (abS x sd j b)) (nI (j + 1))
    rw [fX8_chance_b28, if_neg (nI_ge hj (by omega)), k1, bi2_eq]
    simp only [fX8_chance_b50, n_p1, le0_n (hb (sd + nI j))]
    unfold abS
    split <;> rfl) (fun n s a hR => by
    show fX8_chance_b28 RM 1 sd (nI m) a3 (n + 1) s.1 (nI s.2) (nI m) = _
    rw [fX8_chance_b28, if_pos (nI_le (Nat.le_refl _) (by omega))]) lpF (h, 0) 0 (by rw [lpF_eq]; omega) ⟨rfl, hw, hr, Nat.le_refl 0⟩
  have q1 : a' = fld (abS x sd) 0 m 0 := q1
  subst q1
  have k2 : fX8_chance_b28 RM 1 sd (nI m) a3 lpF h (nI 0) (nI 0) = (if ¬ a3 = 0 then (fX8_chance_b66 RM 1 sd (nI m) a3 h' (nI m) (nI (fld (abS x sd) 0 m 0))) else (fX8_chance_b66 RM 1 sd (nI m) a3 h' (nI (fld (abS x sd) 0 m 0)) (nI (fld (abS x sd) 0 m 0)))) := k2
  have q4 : fld (abS x sd) 0 m 0 ≤ m := q4
  obtain ⟨g1, g2, g3⟩ := gcd_both h' h1 hm (show fld (abS x sd) 0 m 0 ≤ 10 by omega)
  refine ⟨h', ?_, q2, q3⟩
  rw [← l0] at k2
  rw [k2]
  simp only [fX8_chance_b66, g2, Option.bind_some, gd_t (decide_eq_true g3)]
  split <;> rfl
theorem s_chance : S_chance Inv := by
  rintro hA hM I0 a b c
  have I1 := I0
  obtain ⟨x, K, tp, S, i1, i2, i3, i4, i5, i6, i7⟩ := I0
  have k3 : (!(decide (c < 0)) && !(decide (1 < c))) = thB 2 c := in_k (k := 1) (by decide) c
  have g3 : ∀ x y : Option (Int32 × HH), (if c < 0 then x else if c ≤ 1 then y else x) = if thB 2 c = true then y else x := fun x y => gate_le (k := 1) (by decide) c x y
  have hb : ∀ j, drwS x j 8 ≤ 150 := fun j => by
    obtain ⟨_, _, _, _, k4⟩ := clashesDrawn_a i1 i4 i6 j (show 8 ≤ 20 by decide)
    exact k4
  unfold fX7_chance fX8_chance
  rw [in_m, in_m, k3, g3, Option.bind_some, Option.bind_some, b2i_if, b2i_ifn]
  by_cases u1 : b < 1
  · rw [if_pos u1, ifF (by simp [u1])]
    exact ⟨-2, hA, hM, rfl, rfl, I1⟩
  · by_cases u2 : 10 < b
    · rw [if_neg u1, if_pos u2, ifF (by simp [u2])]
      exact ⟨-2, hA, hM, rfl, rfl, I1⟩
    · have hp : (!(decide (b < 1)) && !(decide (10 < b))) = true := by simp [u1, u2]
      rw [if_neg u1, if_neg u2, ifT hp]
      have b0 : ¬ b < 0 := fun z => u1 (by
        rw [Int32.lt_iff_toInt_lt] at z ⊢
        have e1 : (1 : Int32).toInt = 1 := by decide
        have e0 : (0 : Int32).toInt = 0 := by decide
        omega)
      obtain ⟨m, hm, rfl⟩ := nI_of b0
      have m1 : 1 ≤ m := by
        have := mt (nI_ltI hm (show 1 < 2 ^ 31 by decide)).mpr u1
        omega
      have m10 : m ≤ 10 := by
        have := mt (n_lt (show (10 : Int32) = nI 10 by decide) (by decide) m hm).mpr u2
        omega
      cases hc : thB 2 c with
      | false => exact ⟨-2, hA, hM, rfl, rfl, I1⟩
      | true =>
        rw [if_pos rfl, if_pos rfl]
        obtain ⟨hA', k1, k2, k3⟩ := chance_a i1 i4 i6 a c m1 m10
        obtain ⟨hM', f1, f2, f3⟩ := chance_m i1 i5 i7 hb a c m1 m10
        exact ⟨_, hA', hM', k1, f1, x, K, tp, S, i1, i2, i3, k2, f2, k3, f3⟩
