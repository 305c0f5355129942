/-! spared -/
def spT (V : Nat → TV) (s t : Nat) : TV := upV (V s) t (some (vF (V s) t, vN (V s) t, vC (V 2) t))
def spV (V : Nat → TV) (s t : Nat) : Nat → TV := upT V s (spT V s t)
theorem wfS_sp {n s t : Nat} {F : Nat → Bool} {V : Nat → TV} {P : List PT} {pr c0 c1 c2 : Int32} (hin : isIn (V s) t = true) (hs : s < 3) (h : wfS (n, F, V, P, pr, c0, c1, c2)) : wfS (n, F, spV V s t, P, pr, c0, c1, c2) := by
  obtain ⟨h1, h2⟩ := h
  have h1' : ∀ s, s < 3 → wfT n F (V s) := h1
  exact ⟨upT_all (Nat.le_refl n) (fun t ht => rfl) (wfT_cont hin (h1' s hs)) h1', h2⟩
theorem wr_in2 {V : Nat → TV} {P : List PT} {s t : Nat} (h : wrI V P s t = true) : isIn (V s) t = true ∧ isIn (V 2) t = true := by
  unfold wrI wrB at h
  simp only [Bool.and_eq_true] at h
  exact ⟨h.2.1.2, h.2.1.1⟩
theorem spared_a {h : HH} {n s t first : Nat} {F : Nat → Bool} {V : Nat → TV} {P : List PT} {c0 c1 c2 : Int32} {K : Option WS} {tp : List Int32} {S : Nat → SH} (hs : s < 2) (ht : t < n) (hf : first < 2) (i1 : wfS (n, F, V, P, nI first, c0, c1, c2)) (hw : wA h 2 (n, F, V, P, nI first, c0, c1, c2)) (hr : reA h K tp S) : ∃ h', fX7_spared h RA 1 (nI s) (nI t) = some (if wrI V P s t = true then nI (nclS (n, F, V, P, nI first, c0, c1, c2)) - nI (nclS (n, F, spV V s t, P, nI first, c0, c1, c2)) else -3, h') ∧ wA h' 2 (n, F, V, P, nI first, c0, c1, c2) ∧ reA h' K tp S := by
  have hn : n ≤ 30 := hw.1
  have hall : ∀ s, s < 3 → wfT n F (V s) := i1.1
  have ep : h 2 5 = nI first := hw.2.2.2.2.2.2.2.2.2.1
  have t30 : t < 30 := by omega
  have hsi : siB (nI s) = true := by
    have : s = 0 ∨ s = 1 := by omega
    rcases this with rfl | rfl <;> decide
  obtain ⟨g, a1, a2, a3, a4, a5⟩ := settle_a w268_2 hf hw hall
  have g8 : g 103 8 = nI (nclS (n, F, V, P, nI first, c0, c1, c2)) := by rw [a5.2.2.2.2.1, ncl_eq hf]
  have rg : reA g K tp S := reA_C a2 hr
  unfold fX7_spared
  rw [isSide_a, Option.bind_some, b2i_if, if_pos hsi, A_10, isThing_a hw.2.1, Option.bind_some, b2i_ifn, if_pos (thB_of ht hn), A_15, ep, a1, Option.bind_some, G_2, Gl_105, gd_in hs (by decide), ix_n (show s < 2 ^ 31 by omega), G_105 s hs, Gl_106 s hs, gd_in t30 n30, ix_n (show t < 2 ^ 31 by omega), a4.2.1.2 s hs t t30]
  cases hwr : wrI V P s t with
  | false =>
    rw [if_neg (fun z => z (ch_all.2.2.2.2.2.mpr hwr)), if_neg (show ¬ (false = true) by decide)]
    exact ⟨g, rfl, a3, rg⟩
  | true =>
    obtain ⟨is1, is2⟩ := wr_in2 hwr
    rw [if_pos (fun z => by rw [ch_all.2.2.2.2.2.mp z] at hwr; cases hwr), if_pos rfl, lt_eq, g8, A_12]
    obtain ⟨h1, e1, w1, f1⟩ := world_become isW_68 isW_2 (Or.inr (by decide)) a3
    obtain ⟨r1, hT⟩ := isW_T (s := s) isW_68 (show s < 3 by omega)
    obtain ⟨r2, hT2⟩ := isW_T (s := 2) isW_2 (show 2 < 3 by decide)
    obtain ⟨u1, u2⟩ := w1.2.2.2.2.1 s (by omega)
    obtain ⟨v1, v2⟩ := a3.2.2.2.2.1 2 (by decide)
    have w682 : RA 68 2 = 70 := isW_68.2.1
    have l70 : lnA 70 = 3 := isW_68.2.2.2.2.2.2.1
    have w22 : RA 2 2 = 4 := isW_2.2.1
    have l4 : lnA 4 = 3 := isW_2.2.2.2.2.2.2.1
    have r1 : RA 70 s = 68 + 6 + 5 * s := r1
    have r2 : RA 4 2 = 2 + 6 + 5 * 2 := r2
    have i2 : inb 2 3 = true := by decide
    have cont2 : h1 (2 + 6 + 5 * 2 + 4) t = vC (V 2) t := by rw [f1 _ (by omega), (cl_rows v2 t30).2.2.2, v1]
    have hin68 : isIn (avA h1 (68 + 6 + 5 * s)) t = true := by rw [u1]; exact is1
    have wy : wA (up h1 (68 + 6 + 5 * s + 4) t (vC (V 2) t)) 68 (n, F, spV V s t, P, nI first, c0, c1, c2) := by
      refine wA_tr (show s < 3 by omega) (frT_up (Or.inr (Or.inr (Or.inr rfl)))) ?_ (cl_cont u2 hin68) w1
      rw [av_cont hin68, u1]
      rfl
    have ywf : wfS (n, F, spV V s t, P, nI first, c0, c1, c2) := wfS_sp is1 (by omega) i1
    obtain ⟨h2, s1, s2, s3, s4⟩ := settle_68 ywf wy
    have fr : frX g h2 := frX_trans (frX_W f1) (frX_trans (fun q hq => up_ne (by omega)) (frX_C s3))
    refine ⟨h2, ?_, wA_X fr a3, reA_X fr rg⟩
    rw [e1, Option.bind_some, w682, l70, gd_in (show s < 3 by omega) (by decide), w22, l4, gd_t i2, ix_2, r2, r1, hT2.2.2.2.1, hT2.2.2.2.2.2.2.2, gd_in t30 n30, hT.2.2.2.1, hT.2.2.2.2.2.2.2, gd_in t30 n30, lt_eq, cont2, s1, Option.bind_some, s2]
theorem upT_ne {V : Nat → TV} {s s' : Nat} {v : TV} (h : s' ≠ s) : upT V s v s' = V s' := if_neg h
theorem upT_at {V : Nat → TV} {s : Nat} {v : TV} : upT V s v s = v := if_pos rfl
theorem spared_m {h : HH} {n s t first : Nat} {F : Nat → Bool} {V : Nat → TV} {P : List PT} {c0 c1 c2 : Int32} {K : Option WS} {tp : List Int32} {S : Nat → SH} (hs : s < 2) (ht : t < n) (hf : first < 2) (i1 : wfS (n, F, V, P, nI first, c0, c1, c2)) (hw : wM h (n, F, V, P, nI first, c0, c1, c2)) (hr : reM h K tp S) : ∃ h', fX8_spared h RM 1 (nI s) (nI t) = some (if wrI V P s t = true then nI (nclS (n, F, V, P, nI first, c0, c1, c2)) - nI (nclS (n, F, spV V s t, P, nI first, c0, c1, c2)) else -3, h') ∧ wM h' (n, F, V, P, nI first, c0, c1, c2) ∧ reM h' K tp S := by
  have hn : n ≤ 30 := hw.1
  have hall : ∀ s, s < 3 → wfT n F (V s) := i1.1
  have t30 : t < 30 := by omega
  have hsi : siB (nI s) = true := by
    have : s = 0 ∨ s = 1 := by omega
    rcases this with rfl | rfl <;> decide
  obtain ⟨z, b1, b2, b3⟩ := ignore_m hw hall
  have wz := wM_frJ b2 hw
  have rz := reM_frJ b2 hr
  unfold fX8_spared
  rw [isSide_m, Option.bind_some, b2i_if, if_pos hsi, isThing_m hn hw.2.1, Option.bind_some, b2i_ifn, if_pos (thB_of ht hn), b1, Option.bind_some, changed_m hn wz.2.2.2.1 b3 hs ht, Option.bind_some]
  cases hwr : wrI V P s t with
  | false =>
    rw [if_neg (fun z => z (ch_all.2.2.2.2.2.mpr hwr)), if_neg (show ¬ (false = true) by decide)]
    exact ⟨z, rfl, wz, rz⟩
  | true =>
    obtain ⟨is1, is2⟩ := wr_in2 hwr
    obtain ⟨g, t1, t2, t3, t4⟩ := tell_ncl i1 wz
    have g1 := t3.2.2.2.1 s (by omega)
    have g2 := t3.2.2.2.1 2 (by decide)
    have row1 := (rowsM g1 is1).2.2
    have row2 := (rowsM g2 is2).2.2
    have i2 : inb 2 3 = true := by decide
    rw [if_pos (fun z => by rw [ch_all.2.2.2.2.2.mp z] at hwr; cases hwr), if_pos rfl, t1, Option.bind_some, lt_eq, t4, M_6, ln_15, gd_in (show s < 3 by omega) (by decide), ix_n (show s < 2 ^ 31 by omega), R_15 s (by omega), L_15 s (by omega), gd_in t30 n30, ix_n (show t < 2 ^ 31 by omega), lt_eq, gd_in (show s < 3 by omega) (by decide), gd_t i2, ix_2, R_15 2 (by decide), L_15 2 (by decide), gd_in t30 n30, gd_in t30 n30, lt_eq, row1, row2]
    have hin : isIn (avM g s) t = true := by rw [g1]; exact is1
    have wy : wM (up g (16 + s) t (vC (V 2) t)) (n, F, spV V s t, P, nI first, c0, c1, c2) := by
      refine wM_tr (fun q hq => up_ne (by omega)) (fun s' hs' => (av_contM (by omega) hin s' hs').trans ?_) (fun z => bM_n (by omega) z) t3
      refine upT_congr (show s < 3 by omega) (fun s'' hs'' => t3.2.2.2.1 s'' hs'') ?_ s' hs'
      rw [g1]
      rfl
    have ywf : wfS (n, F, spV V s t, P, nI first, c0, c1, c2) := wfS_sp is1 (by omega) i1
    obtain ⟨k, k1, k2, k3, k4⟩ := tell_ncl ywf wy
    have e1 := k3.2.2.2.1 s (by omega)
    have e1 : avM k s = spT V s t := by rw [e1]; exact upT_at
    have hink : isIn (avM k s) t = true := by rw [e1]; unfold spT; exact isIn_ue
    refine ⟨up k (16 + s) t (vC (V s) t), ?_, ?_, ?_⟩
    · rw [k1, Option.bind_some, gd_in (show s < 3 by omega) (by decide), gd_in t30 n30, lt_eq, up_ne (show 1 ≠ 16 + s by omega), k4]
    · refine wM_tr (fun q hq => up_ne (by omega)) (fun s' hs' => (av_contM (by omega) hink s' hs').trans ?_) (fun z => bM_n (by omega) z) k3
      by_cases d : s' = s
      · subst d
        rw [upT_at, e1]
        funext j
        by_cases dj : j = t
        · subst dj
          rw [upV_at]
          unfold spT
          rw [upV_rows.1, upV_rows.2.1]
          exact (isIn_some is1).symm
        · rw [upV_ne dj]
          unfold spT
          rw [upV_ne dj]
      · rw [upT_ne d, k3.2.2.2.1 s' hs']
        exact upT_ne d
    · exact reM_eq (by rw [up_ne (by omega), k2.2 43 (by decide) (by decide) (by decide), up_ne (by omega), t2.2 43 (by decide) (by decide) (by decide)]) (by rw [up_ne (by omega), k2.2 16 (by decide) (by decide) (by decide), up_ne (by omega), t2.2 16 (by decide) (by decide) (by decide)]) (fun q hq => by rw [up_ne (by omega), k2.1 q (by omega) (by omega), up_ne (by omega), t2.1 q (by omega) (by omega)]) rz
theorem s_spared : S_spared Inv := by
  rintro hA hM I0 a b
  have I1 := I0
  obtain ⟨⟨n, F, V, P, pr, c0, c1, c2⟩, K, tp, S, i1, i2, i3, i4, i5, i6, i7⟩ := I0
  have hn : n ≤ 30 := i4.1
  obtain ⟨first, hf, rfl⟩ := pr_first i1.2
  cases ha : siB a with
  | false =>
    unfold fX7_spared fX8_spared
    rw [isSide_a, isSide_m, Option.bind_some, Option.bind_some, b2i_if, b2i_if, ha]
    exact ⟨-2, hA, hM, rfl, rfl, I1⟩
  | true =>
    obtain ⟨s, hs, rfl⟩ := siB_n ha
    cases hb : thB n b with
    | false =>
      unfold fX7_spared fX8_spared
      rw [isSide_a, isSide_m, Option.bind_some, Option.bind_some, b2i_if, b2i_if, ha, if_pos rfl, if_pos rfl, A_10, isThing_a i4.2.1, isThing_m hn i5.2.1, Option.bind_some, Option.bind_some, b2i_ifn, b2i_ifn, hb]
      exact ⟨-2, hA, hM, rfl, rfl, I1⟩
    | true =>
      obtain ⟨t, ht, rfl⟩ := thB_n hn hb
      obtain ⟨hA', k1, k2, k3⟩ := spared_a hs ht hf i1 i4 i6
      obtain ⟨hM', f1, f2, f3⟩ := spared_m hs ht hf i1 i5 i7
      exact ⟨_, hA', hM', k1, f1, _, K, tp, S, i1, i2, i3, k2, f2, k3, f3⟩
