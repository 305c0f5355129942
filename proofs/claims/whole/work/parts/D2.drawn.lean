/-! in thought: drawn, chance -/
def nxS (z : Int32) : Int32 := z * 1103515245 + 12345
def drS (z n : Int32) : Int32 := irm (ushr z 9) n
def dstS (x : WS) (z : Int32) : WS := if drS (nxS (nxS (nxS z))) 3 = 0 then (wtS x (drS (nxS z) 2) (drS (nxS (nxS z)) (mx (nI x.1) 1)) (drS (nxS (nxS (nxS (nxS z)))) 50)).2 else if drS (nxS (nxS (nxS z))) 3 = 1 then (mvS x (drS (nxS z) 2) (drS (nxS (nxS z)) (mx (nI x.1) 1)) (-1) (drS (nxS (nxS (nxS (nxS z)))) 50)).2 else (rmS x (drS (nxS z) 2) (drS (nxS (nxS z)) (mx (nI x.1) 1))).2
def dwS (_ : Nat) (s : WS × Int32) : WS × Int32 := (dstS s.1 s.2, nxS (nxS (nxS (nxS s.2))))
def samW (x y : WS) : Prop := y.1 = x.1 ∧ y.2.1 = x.2.1 ∧ y.2.2.2.1 = x.2.2.2.1 ∧ y.2.2.2.2.1 = x.2.2.2.2.1
theorem samW_rfl {x : WS} : samW x x := ⟨rfl, rfl, rfl, rfl⟩
theorem samW_trans {x y z : WS} (a : samW x y) (b : samW y z) : samW x z := ⟨b.1.trans a.1, b.2.1.trans a.2.1, b.2.2.1.trans a.2.2.1, b.2.2.2.trans a.2.2.2⟩
theorem sam_wt {x : WS} {s t v : Int32} : samW x (wtS x s t v).2 := by
  obtain ⟨n, F, V, P, pr, c0, c1, c2⟩ := x
  unfold wtS
  dsimp only
  repeat' split
  all_goals exact ⟨rfl, rfl, rfl, rfl⟩
theorem sam_mv {x : WS} {s t f nm : Int32} : samW x (mvS x s t f nm).2 := by
  obtain ⟨n, F, V, P, pr, c0, c1, c2⟩ := x
  unfold mvS
  dsimp only
  repeat' split
  all_goals exact ⟨rfl, rfl, rfl, rfl⟩
theorem sam_rm {x : WS} {s t : Int32} : samW x (rmS x s t).2 := by
  obtain ⟨n, F, V, P, pr, c0, c1, c2⟩ := x
  unfold rmS
  dsimp only
  repeat' split
  all_goals exact ⟨rfl, rfl, rfl, rfl⟩
theorem sam_d {x : WS} {z : Int32} : samW x (dstS x z) := by
  unfold dstS
  split
  · exact sam_wt
  · split
    · exact sam_mv
    · exact sam_rm
theorem wfS_d {x : WS} {z : Int32} (hx : x.1 ≤ 30) (h : wfS x) : wfS (dstS x z) := by
  unfold dstS
  split
  · exact wfS_wt h _ _ _
  · split
    · exact wfS_mv hx h _ _ _ _
    · exact wfS_rm hx h _ _
theorem mx_ne : ∀ n, n ≤ 30 → ¬ mx (nI n) 1 = 0 ∧ mx 1 (nI n) = mx (nI n) 1 := by decide +kernel
theorem wM_n {h : HH} {x : WS} (a : wM h x) : x.1 ≤ 30 := by
  obtain ⟨n, F, V, P, pr, c0, c1, c2⟩ := x
  exact a.1
theorem wM_0 {h : HH} {x : WS} (a : wM h x) : h 1 0 = nI x.1 := by
  obtain ⟨n, F, V, P, pr, c0, c1, c2⟩ := x
  exact a.2.1
theorem wA_0 {h : HH} {w : Nat} {x : WS} (a : wA h w x) : h w 0 = nI x.1 := by
  obtain ⟨n, F, V, P, pr, c0, c1, c2⟩ := x
  exact a.2.1
noncomputable def nclS (y : WS) : Nat := (t5S y.2.2.1 y.2.2.2.1 y.1 (ix y.2.2.2.2.1)).2.2.length
noncomputable def drwS (x : WS) (z : Int32) (k : Nat) : Nat := nclS (fld dwS 0 k (x, z)).1
theorem ncl_eq {n first : Nat} {F : Nat → Bool} {V : Nat → TV} {P : List PT} {c0 c1 c2 : Int32} (hf : first < 2) : nclS (n, F, V, P, nI first, c0, c1, c2) = (t5S V P n first).2.2.length := by
  unfold nclS
  show (t5S V P n (ix (nI first))).2.2.length = _
  rw [ix_n (show first < 2 ^ 31 by omega)]
theorem settle_68 {h : HH} {y : WS} (hy : wfS y) (hw : wA h 68 y) : ∃ h', fX0_settle h RA 103 68 (h 68 5) = some h' ∧ h' 103 8 = nI (nclS y) ∧ frC 68 h h' ∧ nclS y ≤ 150 := by
  obtain ⟨n, F, V, P, pr, c0, c1, c2⟩ := y
  have hall : ∀ s, s < 3 → wfT n F (V s) := hy.1
  obtain ⟨first, hf, rfl⟩ := pr_first hy.2
  have ep : h 68 5 = nI first := hw.2.2.2.2.2.2.2.2.2.1
  obtain ⟨h', a1, a2, a3, a4, a5⟩ := settle_a w268_68 hf hw hall
  have e : nclS (n, F, V, P, nI first, c0, c1, c2) = (t5S V P n first).2.2.length := ncl_eq hf
  refine ⟨h', by rw [ep, a1], ?_, a2, ?_⟩
  · rw [a5.2.2.2.2.1, e]
  · rw [e]; exact (t5_ok hw.1 hf hall).1.2.2.2.2.2.2
def frX (h h' : HH) : Prop := ∀ q, q < 68 ∨ (101 ≤ q ∧ q < 103) ∨ 115 ≤ q → h' q = h q
theorem frX_trans {h h' h'' : HH} (a : frX h h') (b : frX h' h'') : frX h h'' := fun q e => (b q e).trans (a q e)
theorem frX_W {h h' : HH} (a : frW 68 h h') : frX h h' := fun q e => a q (by omega)
theorem frX_C {h h' : HH} (a : frC 68 h h') : frX h h' := fun q e => a q (by omega) (by omega)
theorem wA_X {h h' : HH} {x : WS} (e : frX h h') (a : wA h 2 x) : wA h' 2 x := wA_eq (fun q h1 h2 => e q (by omega)) a
theorem reA_X {h h' : HH} {K : Option WS} {tp : List Int32} {S : Nat → SH} (e : frX h h') (a : reA h K tp S) : reA h' K tp S := reA_eq (by rw [e 1 (by omega)]) (fun q hq => e q (by omega)) a
theorem g2_ok : decide (¬ (2 : Nat) = 0) = true := by decide
theorem g3_ok : decide (¬ (3 : Nat) = 0) = true := by decide
theorem g50_ok : decide (¬ (50 : Nat) = 0) = true := by decide
theorem nxt_a {h : HH} {z : Int32} : fX7_nextSeed h RA z = some (nxS z) := rfl
theorem dr_eq {z n : Int32} : irm (ushr z 9) n = drS z n := rfl
theorem dstep_a {h : HH} {x : WS} (hx : wfS x) (hw : wA h 68 x) (sd a2 z : Int32) (j n : Nat) (hj : ¬ a2 ≤ nI j) : ∃ h', fX7_clashesDrawn_b29 RA 1 sd a2 (n + 1) h (mx (nI x.1) 1) z (nI j) = fX7_clashesDrawn_b29 RA 1 sd a2 n h' (mx (nI x.1) 1) (nxS (nxS (nxS (nxS z)))) (nI (j + 1)) ∧ wA h' 68 (dstS x z) ∧ frX h h' := by
  have gx : decide (¬ mx (nI x.1) 1 = 0) = true := decide_eq_true (mx_ne x.1 (wA_n hw)).1
  rw [fX7_clashesDrawn_b29, if_neg hj, nxt_a, Option.bind_some, gd_t g2_ok, lt_eq, nxt_a, Option.bind_some, gd_t gx, lt_eq, nxt_a, Option.bind_some, gd_t g3_ok, lt_eq, nxt_a, Option.bind_some, gd_t g50_ok, lt_eq, dr_eq, dr_eq, dr_eq, dr_eq, A_12]
  unfold dstS
  by_cases c0 : drS (nxS (nxS (nxS z))) 3 = 0
  · obtain ⟨h', k1, k2, k3⟩ := rewrite_a isW_68 hw (drS (nxS z) 2) (drS (nxS (nxS z)) (mx (nI x.1) 1)) (drS (nxS (nxS (nxS (nxS z)))) 50)
    rw [if_neg (fun q => q c0), if_pos c0, k1, bi2_eq, fX7_clashesDrawn_b158, n_p1]
    exact ⟨h', rfl, k2, frX_W k3⟩
  · rw [if_pos c0, if_neg c0]
    by_cases c1 : drS (nxS (nxS (nxS z))) 3 = 1
    · obtain ⟨h', k1, k2, k3⟩ := carry_a isW_68 hw (allW_N hx.1) (drS (nxS z) 2) (drS (nxS (nxS z)) (mx (nI x.1) 1)) (-1) (drS (nxS (nxS (nxS (nxS z)))) 50)
      rw [if_neg (fun q => q c1), if_pos c1, k1, bi2_eq, fX7_clashesDrawn_b158, n_p1]
      exact ⟨h', rfl, k2, frX_W k3⟩
    · obtain ⟨h', k1, k2, k3⟩ := erase_a isW_68 hw (drS (nxS z) 2) (drS (nxS (nxS z)) (mx (nI x.1) 1))
      rw [if_pos c1, if_neg c1, k1, bi2_eq, fX7_clashesDrawn_b158, n_p1]
      exact ⟨h', rfl, k2, frX_W k3⟩
theorem clashesDrawn_a {h : HH} {x : WS} {K : Option WS} {tp : List Int32} {S : Nat → SH} (hx : wfS x) (hw : wA h 2 x) (hr : reA h K tp S) (sd : Int32) {k : Nat} (hk : k ≤ 20) : ∃ h', fX7_clashesDrawn h RA 1 sd (nI k) = some (nI (drwS x sd k), h') ∧ wA h' 2 x ∧ reA h' K tp S ∧ drwS x sd k ≤ 150 := by
  obtain ⟨h1, e1, w1, f1⟩ := world_become isW_68 isW_2 (Or.inr (by decide)) hw
  obtain ⟨⟨h2, z2⟩, ⟨q1, q2, q3, q4, q5⟩, k2⟩ := loop_rel (L := fun m (s : HH × Int32) y => fX7_clashesDrawn_b29 RA 1 sd (nI k) m s.1 (mx (nI x.1) 1) s.2 y) (e := k) (f := dwS) (R := fun _ s p => s.2 = p.2 ∧ wA s.1 68 p.1 ∧ wfS p.1 ∧ samW x p.1 ∧ frX h1 s.1) (g := fun s => (fX0_settle s.1 RA 103 68 (s.1 68 5)).bind (fun h179 => some (h179 103 8, h179))) (fun m j s p hj hR => by
    obtain ⟨z, b⟩ := s
    obtain ⟨y, b'⟩ := p
    obtain ⟨r1, r2, r3, r4, r5⟩ := hR
    have r1 : b = b' := r1
    have r2 : wA z 68 y := r2
    have r3 : wfS y := r3
    have r4 : samW x y := r4
    have r5 : frX h1 z := r5
    subst r1
    obtain ⟨z', s1, s2, s3⟩ := dstep_a r3 r2 sd (nI k) b j m (nI_ge hj (by omega))
    refine ⟨(z', nxS (nxS (nxS (nxS b)))), ?_, rfl, s2, wfS_d (wA_n r2) r3, samW_trans r4 sam_d, frX_trans r5 s3⟩
    rw [r4.1] at s1
    exact s1) (fun m s p hR => by
    show fX7_clashesDrawn_b29 RA 1 sd (nI k) (m + 1) s.1 (mx (nI x.1) 1) s.2 (nI k) = _
    rw [fX7_clashesDrawn_b29, if_pos (nI_le (Nat.le_refl _) (by omega)), A_15, A_12]) lpF (h1, sd) (x, sd) (by rw [lpF_eq]; omega) ⟨rfl, w1, hx, samW_rfl, fun _ _ => rfl⟩
  have q2 : wA h2 68 (fld dwS 0 k (x, sd)).1 := q2
  obtain ⟨h3, c0, c1, c2, c3⟩ := settle_68 q3 q2
  have k2 : fX7_clashesDrawn_b29 RA 1 sd (nI k) lpF h1 (mx (nI x.1) 1) sd (nI 0) = (fX0_settle h2 RA 103 68 (h2 68 5)).bind (fun h179 => some (h179 103 8, h179)) := k2
  have fr : frX h h3 := frX_trans (frX_W f1) (frX_trans q5 (frX_C c2))
  refine ⟨h3, ?_, wA_X fr hw, reA_X fr hr, c3⟩
  unfold fX7_clashesDrawn
  rw [A_12, A_10, e1, Option.bind_some, wA_0 w1, lt_eq, l0, k2, c0, Option.bind_some, c1]
  rfl
/-! the reference's -/
theorem R_42s {s : Nat} (hs : s < 3) : RM 42 s = 43 + s ∧ RM 46 s = 47 + s ∧ RM 50 s = 51 + s ∧ RM 54 s = 55 + s := ⟨R_42 s hs, R_46 s hs, R_50 s hs, R_54 s hs⟩
def kepM (h z : HH) : Prop := ∀ s, s < 3 → ∀ k, k < 30 → z (43 + s) k = h (4 + s) k ∧ z (47 + s) k = h (8 + s) k ∧ z (51 + s) k = h (12 + s) k ∧ z (55 + s) k = h (16 + s) k
theorem keep_m {h : HH} : ∃ h', fX8_keep h RM 1 = some h' ∧ (∀ q, q < 43 ∨ 58 ≤ q → h' q = h q) ∧ kepM h h' := by
  have key := loop_inv (L := fX8_keep_b2 RM 1) (e := 3) (I := fun j z => (∀ q, q < 43 ∨ 58 ≤ q → z q = h q) ∧ ∀ s, s < j → ∀ k, k < 30 → z (43 + s) k = h (4 + s) k ∧ z (47 + s) k = h (8 + s) k ∧ z (51 + s) k = h (12 + s) k ∧ z (55 + s) k = h (16 + s) k) (g := fun z => some z) (fun m j z hj hI => by
    obtain ⟨I1, I2⟩ := hI
    obtain ⟨r1, r2, r3, r4⟩ := R_42s hj
    refine ⟨cp4 z (4 + j) (8 + j) (12 + j) (16 + j) (43 + j) (47 + j) (51 + j) (55 + j), ?_, fun q hq => (cp4_ne (by omega) (by omega) (by omega) (by omega)).trans (I1 q hq), fun s hs k hk => ?_⟩
    · rw [fX8_keep_b2, if_neg (i3c hj)]
      simp only [M_3, M_4, M_5, M_6, M_38, M_39, M_40, M_41, ln_3, ln_7, ln_11, ln_15, ln_42, ln_46, ln_50, ln_54, gd_in hj (show 3 < 2 ^ 31 by decide), ix_n (show j < 2 ^ 31 by omega), R_3 j hj, R_7 j hj, R_11 j hj, R_15 j hj, r1, r2, r3, r4, L_3 j hj, L_7 j hj, L_11 j hj, L_15 j hj, L_42 j hj, L_46 j hj, L_50 j hj, L_54 j hj, gd_t cp_30, ix_0, ix_30, lt_eq, n_p1]
      rfl
    · by_cases e : s = j
      · subst e
        obtain ⟨q1, q2, q3, q4⟩ := cp4_rows (z := z) (a := 4 + s) (b := 8 + s) (c := 12 + s) (d := 16 + s) (a' := 43 + s) (b' := 47 + s) (c' := 51 + s) (d' := 55 + s) hk (by omega) (by omega)
        rw [I1 (4 + s) (by omega)] at q1
        rw [I1 (8 + s) (by omega)] at q2
        rw [I1 (12 + s) (by omega)] at q3
        rw [I1 (16 + s) (by omega)] at q4
        exact ⟨q1, q2, q3, q4⟩
      · rw [cp4_ne (by omega) (by omega) (by omega) (by omega), cp4_ne (by omega) (by omega) (by omega) (by omega), cp4_ne (by omega) (by omega) (by omega) (by omega), cp4_ne (by omega) (by omega) (by omega) (by omega)]
        exact I2 s (by omega) k hk) (fun m z hI => by rw [fX8_keep_b2, if_pos (show (3 : Int32) ≤ nI 3 by decide)])
  obtain ⟨h1, ⟨I1, I2⟩, E1⟩ := key lpF 0 h (by omega) (by rw [lpF_eq]; omega) ⟨fun _ _ => rfl, fun s hs => by omega⟩
  exact ⟨h1, by unfold fX8_keep; rw [l0]; exact E1, I1, I2⟩
theorem layBack_m {h g : HH} (kp : kepM g h) : ∃ h', fX8_layBack h RM 1 = some h' ∧ (∀ q, q < 4 ∨ 19 ≤ q → h' q = h q) ∧ ∀ s, s < 3 → ∀ k, k < 30 → h' (4 + s) k = g (4 + s) k ∧ h' (8 + s) k = g (8 + s) k ∧ h' (12 + s) k = g (12 + s) k ∧ h' (16 + s) k = g (16 + s) k := by
  have key := loop_inv (L := fX8_layBack_b2 RM 1) (e := 3) (I := fun j z => (∀ q, q < 4 ∨ 19 ≤ q → z q = h q) ∧ ∀ s, s < j → ∀ k, k < 30 → z (4 + s) k = g (4 + s) k ∧ z (8 + s) k = g (8 + s) k ∧ z (12 + s) k = g (12 + s) k ∧ z (16 + s) k = g (16 + s) k) (g := fun z => some z) (fun m j z hj hI => by
    obtain ⟨I1, I2⟩ := hI
    obtain ⟨r1, r2, r3, r4⟩ := R_42s hj
    refine ⟨cp4 z (43 + j) (47 + j) (51 + j) (55 + j) (4 + j) (8 + j) (12 + j) (16 + j), ?_, fun q hq => (cp4_ne (by omega) (by omega) (by omega) (by omega)).trans (I1 q hq), fun s hs k hk => ?_⟩
    · rw [fX8_layBack_b2, if_neg (i3c hj)]
      simp only [M_3, M_4, M_5, M_6, M_38, M_39, M_40, M_41, ln_3, ln_7, ln_11, ln_15, ln_42, ln_46, ln_50, ln_54, gd_in hj (show 3 < 2 ^ 31 by decide), ix_n (show j < 2 ^ 31 by omega), R_3 j hj, R_7 j hj, R_11 j hj, R_15 j hj, r1, r2, r3, r4, L_3 j hj, L_7 j hj, L_11 j hj, L_15 j hj, L_42 j hj, L_46 j hj, L_50 j hj, L_54 j hj, gd_t cp_30, ix_0, ix_30, lt_eq, n_p1]
      rfl
    · by_cases e : s = j
      · subst e
        obtain ⟨q1, q2, q3, q4⟩ := cp4_rows (z := z) (a := 43 + s) (b := 47 + s) (c := 51 + s) (d := 55 + s) (a' := 4 + s) (b' := 8 + s) (c' := 12 + s) (d' := 16 + s) hk (by omega) (by omega)
        obtain ⟨y1, y2, y3, y4⟩ := kp s hj k hk
        rw [I1 (43 + s) (by omega), y1] at q1
        rw [I1 (47 + s) (by omega), y2] at q2
        rw [I1 (51 + s) (by omega), y3] at q3
        rw [I1 (55 + s) (by omega), y4] at q4
        exact ⟨q1, q2, q3, q4⟩
      · rw [cp4_ne (by omega) (by omega) (by omega) (by omega), cp4_ne (by omega) (by omega) (by omega) (by omega), cp4_ne (by omega) (by omega) (by omega) (by omega), cp4_ne (by omega) (by omega) (by omega) (by omega)]
        exact I2 s (by omega) k hk) (fun m z hI => by rw [fX8_layBack_b2, if_pos (show (3 : Int32) ≤ nI 3 by decide)])
  obtain ⟨h1, ⟨I1, I2⟩, E1⟩ := key lpF 0 h (by omega) (by rw [lpF_eq]; omega) ⟨fun _ _ => rfl, fun s hs => by omega⟩
  exact ⟨h1, by unfold fX8_layBack; rw [l0]; exact E1, I1, I2⟩
/-- what the drawing may change of the reference -/
def frL (h h' : HH) : Prop := (∀ q, q ≠ 1 → 20 ≤ q → q < 30 ∨ 40 ≤ q → h' q = h q) ∧ ∀ j, j ≠ 0 → j ≠ 7 → j ≠ 8 → j ≠ 9 → j ≠ 22 → j ≠ 26 → j ≠ 27 → j ≠ 42 → h' 1 j = h 1 j
theorem frL_rfl {h : HH} : frL h h := ⟨fun _ _ _ _ => rfl, fun _ _ _ _ _ _ _ _ _ => rfl⟩
theorem frL_trans {h h' h'' : HH} (a : frL h h') (b : frL h' h'') : frL h h'' := ⟨fun q e1 e2 e3 => (b.1 q e1 e2 e3).trans (a.1 q e1 e2 e3), fun j e1 e2 e3 e4 e5 e6 e7 e8 => (b.2 j e1 e2 e3 e4 e5 e6 e7 e8).trans (a.2 j e1 e2 e3 e4 e5 e6 e7 e8)⟩
theorem frL_M {h h' : HH} (a : frM h h') : frL h h' := ⟨fun q _ e _ => a.1 q e, fun j e1 e2 e3 e4 _ _ _ _ => a.2 j e1 e2 e3 e4⟩
theorem frL_K {h h' : HH} (a : frK h h') : frL h h' := ⟨fun q e1 e2 e3 => a.1 q e1 e3, fun j _ _ _ _ e5 e6 e7 _ => a.2 j e5 e6 e7⟩
theorem frL_42 {h : HH} {v : Int32} : frL h (up h 1 42 v) := ⟨fun q e1 _ _ => up_ne e1, fun j _ _ _ _ _ _ _ e8 => by rw [up_at, if_neg e8]⟩
theorem wM_42 {h : HH} {x : WS} {v : Int32} (a : wM h x) : wM (up h 1 42 v) x := by
  have e : frK h h := frK_rfl
  obtain ⟨n, F, V, P, pr, c0, c1, c2⟩ := x
  obtain ⟨d1, d2, d3, d4, d5, d6, d7, e1, e2, e3, e4, e5⟩ := a
  have o1 : ∀ j, j ≠ 42 → up h 1 42 v 1 j = h 1 j := fun j hj => by rw [up_at, if_neg hj]
  exact ⟨d1, by rw [o1 0 (by decide)]; exact d2, fun t ht => by rw [up_ne (by decide)]; exact d3 t ht, fun s hs => (avM_eq (up_ne (by omega)) (up_ne (by omega)) (up_ne (by omega)) (up_ne (by omega))).trans (d4 s hs), d5, by rw [o1 11 (by decide)]; exact d6, fun i y hi => patM_eq (up_ne (by decide)) (up_ne (by decide)) (up_ne (by omega)) (d7 i y hi), by rw [o1 1 (by decide)]; exact e1, by rw [o1 7 (by decide)]; exact e2, by rw [o1 8 (by decide)]; exact e3, by rw [o1 9 (by decide)]; exact e4, bM_n (by omega) e5⟩
theorem draw_m {h : HH} {z n : Int32} (h42 : h 1 42 = z) (hn : ¬ n = 0) : fX8_draw h RM 1 n = some (drS (nxS z) n, up h 1 42 (nxS z)) := by
  unfold fX8_draw
  rw [lt_eq, h42, gd_t (decide_eq_true hn), up_same]
  rfl
theorem dstep_m {h : HH} {x : WS} (hx : wfS x) (hw : wM h x) (sd a2 z y7 y8 y9 : Int32) (j n : Nat) (hj : ¬ a2 ≤ nI j) (h42 : h 1 42 = z) : ∃ h', fX8_byLot_b29 RM 1 sd a2 (n + 1) h y7 y8 y9 (nI j) = fX8_byLot_b29 RM 1 sd a2 n h' y7 y8 y9 (nI (j + 1)) ∧ wM h' (dstS x z) ∧ frL h h' ∧ h' 1 42 = nxS (nxS (nxS (nxS z))) := by
  obtain ⟨gx, gy⟩ := mx_ne x.1 (wM_n hw)
  have d1 := draw_m (n := 2) h42 (by decide)
  have w1 := wM_42 (v := nxS z) hw
  have d2 := draw_m (h := up h 1 42 (nxS z)) (n := mx (nI x.1) 1) up_same gx
  have w2 := wM_42 (v := nxS (nxS z)) w1
  have d3 := draw_m (h := up (up h 1 42 (nxS z)) 1 42 (nxS (nxS z))) (n := 3) up_same (by decide)
  have w3 := wM_42 (v := nxS (nxS (nxS z))) w2
  have d4 := draw_m (h := up (up (up h 1 42 (nxS z)) 1 42 (nxS (nxS z))) 1 42 (nxS (nxS (nxS z)))) (n := 50) up_same (by decide)
  have w4 := wM_42 (v := nxS (nxS (nxS (nxS z)))) w3
  have h0 : up h 1 42 (nxS z) 1 0 = nI x.1 := wM_0 w1
  rw [fX8_byLot_b29, if_neg hj, d1, bi2_eq, h0, gy, d2, bi2_eq, d3, bi2_eq, d4, bi2_eq]
  have fr4 : frL h (up (up (up (up h 1 42 (nxS z)) 1 42 (nxS (nxS z))) 1 42 (nxS (nxS (nxS z)))) 1 42 (nxS (nxS (nxS (nxS z))))) := frL_trans frL_42 (frL_trans frL_42 (frL_trans frL_42 frL_42))
  have s42 : up (up (up (up h 1 42 (nxS z)) 1 42 (nxS (nxS z))) 1 42 (nxS (nxS (nxS z)))) 1 42 (nxS (nxS (nxS (nxS z)))) 1 42 = nxS (nxS (nxS (nxS z))) := up_same
  generalize up (up (up (up h 1 42 (nxS z)) 1 42 (nxS (nxS z))) 1 42 (nxS (nxS (nxS z)))) 1 42 (nxS (nxS (nxS (nxS z)))) = g at w4 fr4 s42 ⊢
  unfold dstS
  by_cases c0 : drS (nxS (nxS (nxS z))) 3 = 0
  · obtain ⟨h', k1, k2, k3⟩ := write_m w4 (drS (nxS z) 2) (drS (nxS (nxS z)) (mx (nI x.1) 1)) (drS (nxS (nxS (nxS (nxS z)))) 50)
    rw [if_neg (fun q => q c0), if_pos c0, k1, bi2_eq, fX8_byLot_b117, n_p1]
    exact ⟨h', rfl, k2, frL_trans fr4 (frL_M k3), (k3.2 42 (by decide) (by decide) (by decide) (by decide)).trans s42⟩
  · rw [if_pos c0, if_neg c0]
    by_cases c1 : drS (nxS (nxS (nxS z))) 3 = 1
    · obtain ⟨h', k1, k2, k3⟩ := move_m w4 hx.1 (drS (nxS z) 2) (drS (nxS (nxS z)) (mx (nI x.1) 1)) (-1) (drS (nxS (nxS (nxS (nxS z)))) 50)
      rw [if_neg (fun q => q c1), if_pos c1, k1, bi2_eq, fX8_byLot_b117, n_p1]
      exact ⟨h', rfl, k2, frL_trans fr4 (frL_M k3), (k3.2 42 (by decide) (by decide) (by decide) (by decide)).trans s42⟩
    · obtain ⟨h', k1, k2, k3⟩ := remove_m w4 hx.1 (drS (nxS z) 2) (drS (nxS (nxS z)) (mx (nI x.1) 1))
      rw [if_pos c1, if_neg c1, k1, bi2_eq, fX8_byLot_b117, n_p1]
      exact ⟨h', rfl, k2, frL_trans fr4 (frL_M k3), (k3.2 42 (by decide) (by decide) (by decide) (by decide)).trans s42⟩
theorem tell_ncl {h : HH} {y : WS} (hy : wfS y) (hw : wM h y) : ∃ h', fX8_tellTarget h RM 1 (h 1 1) = some h' ∧ frK h h' ∧ wM h' y ∧ h' 1 26 = nI (nclS y) := by
  obtain ⟨n, F, V, P, pr, c0, c1, c2⟩ := y
  have hall : ∀ s, s < 3 → wfT n F (V s) := hy.1
  obtain ⟨first, hf, rfl⟩ := pr_first hy.2
  have ep : h 1 1 = nI first := hw.2.2.2.2.2.2.2.1
  obtain ⟨h', a1, a2, a3, a4, a5⟩ := tellTarget_m hf hw hall
  refine ⟨h', by rw [ep, a1], a2, a3, ?_⟩
  rw [a5.2.2.2.2.2.1]
  unfold nclS
  show _ = nI (t5S V P n (ix (nI first))).2.2.length
  rw [ix_n (show first < 2 ^ 31 by omega)]
theorem byLot_m {h : HH} {x : WS} {K : Option WS} {tp : List Int32} {S : Nat → SH} (hx : wfS x) (hw : wM h x) (hr : reM h K tp S) (sd : Int32) {k : Nat} (hk : k ≤ 20) : ∃ h', fX8_byLot h RM 1 sd (nI k) = some (nI (drwS x sd k), h') ∧ wM h' x ∧ reM h' K tp S := by
  obtain ⟨h1, e1, f1, kp⟩ := keep_m (h := h)
  have w1 : wM h1 x := wM_lo (fun q hq => f1 q (by omega)) hw
  obtain ⟨h2, ⟨q1, q2, q3, q4, q5⟩, k2⟩ := loop_rel (L := fun m (s : HH) y => fX8_byLot_b29 RM 1 sd (nI k) m s (h 1 7) (h 1 8) (h 1 9) y) (e := k) (f := dwS) (R := fun _ s p => s 1 42 = p.2 ∧ wM s p.1 ∧ wfS p.1 ∧ samW x p.1 ∧ frL h1 s) (g := fun s => (fX8_tellTarget s RM 1 (s 1 1)).bind (fun h130 => (fX8_layBack h130 RM 1).bind (fun h134 => some (h134 1 26, up (up (up h134 1 7 (h 1 7)) 1 8 (h 1 8)) 1 9 (h 1 9))))) (fun m j z p hj hR => by
    obtain ⟨y, b⟩ := p
    obtain ⟨r1, r2, r3, r4, r5⟩ := hR
    have r1 : z 1 42 = b := r1
    have r2 : wM z y := r2
    have r3 : wfS y := r3
    have r4 : samW x y := r4
    obtain ⟨z', s1, s2, s3, s4⟩ := dstep_m r3 r2 sd (nI k) b (h 1 7) (h 1 8) (h 1 9) j m (nI_ge hj (by omega)) r1
    exact ⟨z', s1, s4, s2, wfS_d (wM_n r2) r3, samW_trans r4 sam_d, frL_trans r5 s3⟩) (fun m s p hR => by
    show fX8_byLot_b29 RM 1 sd (nI k) (m + 1) s (h 1 7) (h 1 8) (h 1 9) (nI k) = _
    rw [fX8_byLot_b29, if_pos (nI_le (Nat.le_refl _) (by omega))]
    cases fX8_tellTarget s RM 1 (s 1 1) with
    | none => rfl
    | some u =>
      rw [Option.bind_some, Option.bind_some]
      cases fX8_layBack u RM 1 with
      | none => rfl
      | some v =>
        rw [Option.bind_some, Option.bind_some, lt_eq, lt_eq, lt_eq, up_at, if_neg (show ¬ (26 : Nat) = 9 by decide), up_at, if_neg (show ¬ (26 : Nat) = 8 by decide), up_at, if_neg (show ¬ (26 : Nat) = 7 by decide)]) lpF (up h1 1 42 sd) (x, sd) (by rw [lpF_eq]; omega) ⟨up_same, wM_42 w1, hx, samW_rfl, frL_42⟩
  have q2 : wM h2 (fld dwS 0 k (x, sd)).1 := q2
  have k2 : fX8_byLot_b29 RM 1 sd (nI k) lpF (up h1 1 42 sd) (h 1 7) (h 1 8) (h 1 9) (nI 0) = (fX8_tellTarget h2 RM 1 (h2 1 1)).bind (fun h130 => (fX8_layBack h130 RM 1).bind (fun h134 => some (h134 1 26, up (up (up h134 1 7 (h 1 7)) 1 8 (h 1 8)) 1 9 (h 1 9)))) := k2
  obtain ⟨h3, t1, t2, t3, t4⟩ := tell_ncl q3 q2
  have fr3 : frL h1 h3 := frL_trans q5 (frL_K t2)
  have kp3 : kepM h h3 := fun s hs j hj => by
    obtain ⟨y1, y2, y3, y4⟩ := kp s hs j hj
    exact ⟨by rw [fr3.1 _ (by omega) (by omega) (by omega)]; exact y1, by rw [fr3.1 _ (by omega) (by omega) (by omega)]; exact y2, by rw [fr3.1 _ (by omega) (by omega) (by omega)]; exact y3, by rw [fr3.1 _ (by omega) (by omega) (by omega)]; exact y4⟩
  obtain ⟨h4, b1, b2, b3⟩ := layBack_m kp3
  have eq4 : ∀ q, q ≠ 1 → up (up (up h4 1 7 (h 1 7)) 1 8 (h 1 8)) 1 9 (h 1 9) q = h4 q := fun q e => by rw [up_ne e, up_ne e, up_ne e]
  have ej4 : ∀ j, j ≠ 7 → j ≠ 8 → j ≠ 9 → up (up (up h4 1 7 (h 1 7)) 1 8 (h 1 8)) 1 9 (h 1 9) 1 j = h4 1 j := fun j e1 e2 e3 => by rw [up_at, if_neg e3, up_at, if_neg e2, up_at, if_neg e1]
  refine ⟨up (up (up h4 1 7 (h 1 7)) 1 8 (h 1 8)) 1 9 (h 1 9), ?_, ?_, ?_⟩
  · unfold fX8_byLot
    rw [lt_eq, lt_eq, lt_eq, e1, Option.bind_some, lt_eq, l0, k2, t1, Option.bind_some, b1, Option.bind_some, b2 1 (by omega), t4]
    rfl
  · obtain ⟨u1, u2, u3, u4⟩ := q4
    generalize hY : (fld dwS 0 k (x, sd)).1 = Y at u1 u2 u3 u4 t3
    obtain ⟨n, F, V, P, pr, c0, c1, c2⟩ := x
    obtain ⟨n', F', V', P', pr', c0', c1', c2'⟩ := Y
    have u1 : n' = n := u1
    have u2 : F' = F := u2
    have u3 : P' = P := u3
    have u4 : pr' = pr := u4
    subst u1; subst u2; subst u3; subst u4
    obtain ⟨d1, d2, d3, d4, d5, d6, d7, g1, g2, g3, g4, g5⟩ := t3
    obtain ⟨o1, o2, o3, o4, o5, o6, o7, p1, p2, p3, p4, p5⟩ := hw
    refine ⟨d1, by rw [ej4 0 (by decide) (by decide) (by decide), b2 1 (by omega)]; exact d2, fun t ht => by rw [eq4 2 (by decide), b2 2 (by omega)]; exact d3 t ht, fun s hs => ?_, d5, by rw [ej4 11 (by decide) (by decide) (by decide), b2 1 (by omega)]; exact d6, fun i y hi => ?_, by rw [ej4 1 (by decide) (by decide) (by decide), b2 1 (by omega)]; exact g1, ?_, ?_, ?_, fun s hs t ht => ?_⟩
    · rw [← o4 s hs]
      refine tv_eq (fun t ht => ?_)
      rw [eq4 (4 + s) (by omega), eq4 (8 + s) (by omega), eq4 (12 + s) (by omega), eq4 (16 + s) (by omega)]
      exact b3 s hs t ht
    · have hl := (List.getElem?_eq_some_iff.mp hi).1
      exact patM_eq (by rw [eq4 20 (by decide), b2 20 (by omega)]) (by rw [eq4 21 (by decide), b2 21 (by omega)]) (by rw [eq4 _ (by omega), b2 _ (by omega)]) (d7 i y hi)
    · rw [up_at, if_neg (by decide), up_at, if_neg (by decide), up_same]; exact p2
    · rw [up_at, if_neg (by decide), up_same]; exact p3
    · rw [up_same]; exact p4
    · rw [eq4 (4 + s) (by omega), (b3 s hs t ht).1]
      exact p5 s hs t ht
  · exact reM_eq (by rw [ej4 43 (by decide) (by decide) (by decide), b2 1 (by omega), fr3.2 43 (by decide) (by decide) (by decide) (by decide) (by decide) (by decide) (by decide) (by decide), f1 1 (by omega)]) (by rw [ej4 16 (by decide) (by decide) (by decide), b2 1 (by omega), fr3.2 16 (by decide) (by decide) (by decide) (by decide) (by decide) (by decide) (by decide) (by decide), f1 1 (by omega)]) (fun q hq => by rw [eq4 q (by omega), b2 q (by omega), fr3.1 q (by omega) (by omega) (by omega), f1 q (by omega)]) hr
theorem s_drawn : S_drawn Inv := by
  rintro hA hM I0 a b
  have I1 := I0
  obtain ⟨x, K, tp, S, i1, i2, i3, i4, i5, i6, i7⟩ := I0
  have g3 : ∀ u v : Option (Int32 × HH), (if b < 0 then u else if b ≤ 20 then v else u) = if thB 21 b = true then v else u := fun u v => gate_le (k := 20) (by decide) b u v
  have k3 : (!(decide (b < 0)) && !(decide (20 < b))) = thB 21 b := in_k (k := 20) (by decide) b
  unfold fX7_drawn fX8_drawn
  rw [in_m, k3, g3, Option.bind_some, b2i_if]
  cases hb : thB 21 b with
  | false => exact ⟨-2, hA, hM, rfl, rfl, I1⟩
  | true =>
    obtain ⟨k, hk, rfl⟩ := thB_n (by decide) hb
    obtain ⟨hA', k1, k2, k3, k4⟩ := clashesDrawn_a i1 i4 i6 a (show k ≤ 20 by omega)
    obtain ⟨hM', f1, f2, f3⟩ := byLot_m i1 i5 i7 a (show k ≤ 20 by omega)
    rw [if_pos rfl, if_pos rfl, k1, f1, bi2_eq, bi2_eq]
    exact ⟨_, hA', hM', rfl, rfl, x, K, tp, S, i1, i2, i3, k2, f2, k3, f3⟩
