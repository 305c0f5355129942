theorem n30_iff {t : Nat} (h : t ≤ 30) : nI t = 30 ↔ t = 30 := by
  rw [l30]
  exact ⟨fun z => nI_inj (by omega) (by omega) z, fun z => by rw [z]⟩
theorem fills_m {z : HH} {n i first : Nat} {F : Nat → Bool} {V : Nat → TV} {P : List PT} (hn : n ≤ 30) (hf : first < 2) (c : ctxM z n F V P) (hi : i < n) {G : TV} {tot : Nat} {C : CL} (hl : C.length < 150) (hnt : n ≤ tot) (m : mgM z (G, tot, C) (fun _ => True) (fun t => t < i ∨ n ≤ t)) (hin : isIn G i = true) (htg : tgB V P n i = true) : ∃ z', fX8_fills z RM 1 (nI i) (nI first) = some z' ∧ frE z z' ∧ mgM z' (sp3 V P first i (G, tot, C)) (fun _ => True) (fun t => t < i + 1 ∨ n ≤ t) := by
  have i30 : i < 30 := by omega
  obtain ⟨hh, hig⟩ := tg_here htg
  obtain ⟨sd, hsd, e1, e2, e3⟩ := sideFor_m hn hf c hi hh (wrI V P) 8 (fun s => ch_all.2.2.2.2.2) (fun s hs => wr_in hs)
  have ep : vC (V sd) i = ctS V P first i := by
    unfold ctS
    rcases e3 with e3 | ⟨e3, e4, e5, e6⟩
    · rw [← e3]
    · rw [e4]
      have := wr_eq e5 hig (by rw [← e3]; exact e2) e6
      rw [e3, this]
  obtain ⟨p1, p2, p3⟩ := rowsM (c.2.1 sd hsd) e2
  rw [ep] at p3
  have fz : frE z (up z 39 i (ctS V P first i)) := frE_up (by decide) (by decide)
  have cz := ctxM_fr fz c
  have mz : mgM (up z 39 i (ctS V P first i)) (upV G i (some (vF G i, vN G i, ctS V P first i)), tot, C) (fun _ => True) (fun t => t < i + 1 ∨ n ≤ t) := by
    obtain ⟨m1, m2, m3, m4, m5, m6⟩ := m
    refine ⟨fun t ht => ?_, fun t ht hd hti => ?_, fun t ht hd hti => ?_, by rw [up_ne (by decide)]; exact m4, m5, clM_fr (by rw [up_ne (by decide)]) (up_ne (by decide)) (up_ne (by decide)) m6⟩
    · rw [up_ne (by decide)]
      show z 35 t = b2i (isIn (upV G i _) t)
      rw [isIn_cols hin]
      exact m1 t ht
    · have hti : isIn (upV G i (some (vF G i, vN G i, ctS V P first i))) t = true := hti
      rw [isIn_cols hin] at hti
      show _ = vF (upV G i _) t ∧ _ = vN (upV G i _) t
      rw [up_ne (show 37 ≠ 39 by decide), up_ne (show 38 ≠ 39 by decide)]
      have := m2 t ht trivial hti
      by_cases e : t = i
      · rw [e] at this ⊢
        exact ⟨this.1.trans upV_rows.1.symm, this.2.trans upV_rows.2.1.symm⟩
      · rw [vF_une e, vN_une e]
        exact this
    · have hti : isIn (upV G i (some (vF G i, vN G i, ctS V P first i))) t = true := hti
      rw [isIn_cols hin] at hti
      show _ = vC (upV G i _) t
      rw [up_at]
      by_cases e : t = i
      · rw [if_pos e, e]
        exact upV_rows.2.2.symm
      · rw [if_neg e, vC_une e]
        exact m3 t ht (by omega) hti
  have ch0 : fX8_changed (up z 39 i (ctS V P first i)) RM 1 0 (nI i) = some (chI V P 0 i) := changed_m (s := 0) hn cz.2.1 cz.2.2.1 (by decide) hi
  have ch1 : fX8_changed (up z 39 i (ctS V P first i)) RM 1 1 (nI i) = some (chI V P 1 i) := changed_m (s := 1) hn cz.2.1 cz.2.2.1 (by decide) hi
  obtain ⟨zc, q1, q2, q3⟩ := mgM_clash mz hl 2 i
  have t30 : tot ≤ 30 := m.2.2.2.2.1
  unfold fX8_fills
  rw [e1, Option.bind_some, M_6, ln_15, gd_in hsd (by decide), ix_n (show sd < 2 ^ 31 by omega), R_15 sd hsd, L_15 sd hsd, gd_in i30 n30, M_34, ln_39, gd_in i30 n30, lt_eq, ix_n (show i < 2 ^ 31 by omega), p3]
  generalize up z 39 i (ctS V P first i) = y at fz cz mz ch0 ch1 q1 q3
  have i2 : ix 2 = 2 := by decide
  have i00 : ix 0 = 0 := by decide
  have i11 : ix 1 = 1 := by decide
  have p3' := R_3 2 (by decide)
  have k3' := L_3 2 (by decide)
  have v2 := cz.2.1 2 (by decide)
  rw [M_3, ln_3, gd_t (show inb 2 3 = true by decide), i2, p3', k3', gd_in i30 n30, inM_if i30, v2, ch0, Option.bind_some, ch1, Option.bind_some]
  have b62 : fX8_fills_b62 RM 1 (nI i) (nI first) y = some y := rfl
  rw [b62]
  have hx : sp3 V P first i (G, tot, C) = if c2B V P i = true then (if tot < 30 then (upV (upV G i (some (vF G i, vN G i, ctS V P first i))) tot (some (vF G i, vN G i, vC (V (1 - first)) i)), tot + 1, C ++ [(2, i)]) else (upV G i (some (vF G i, vN G i, ctS V P first i)), tot, C ++ [(2, i)])) else (upV G i (some (vF G i, vN G i, ctS V P first i)), tot, C) := by
    show (if isIn G i = true then _ else _) = _
    rw [if_pos hin]
  rw [hx]
  unfold c2B
  by_cases hb : (wrI V P 0 i && wrI V P 1 i) = true
  · simp only [Bool.and_eq_true] at hb
    have n0 : ¬ (chI V P 0 i &&& 8 = 0) := fun w => by rw [ch_all.2.2.2.2.2.mp w] at hb; cases hb.1
    have n1 : ¬ (chI V P 1 i &&& 8 = 0) := fun w => by rw [ch_all.2.2.2.2.2.mp w] at hb; cases hb.2
    obtain ⟨x2, x0⟩ := wr_in hb.1
    obtain ⟨-, x1⟩ := wr_in hb.2
    rw [x2, if_pos rfl, if_neg n0, if_neg n1, hb.1, hb.2, Bool.true_and, Bool.true_and]
    obtain ⟨r1, r2, r3⟩ := rowsM (cz.2.1 0 (by decide)) x0
    obtain ⟨s1, s2, s3⟩ := rowsM (cz.2.1 1 (by decide)) x1
    have u0 := R_15 0 (by decide)
    have u1 := R_15 1 (by decide)
    have w0 := L_15 0 (by decide)
    have w1 := L_15 1 (by decide)
    unfold fX8_fills_b63
    rw [if_neg (by decide), M_6, ln_15, gd_t (show inb 0 3 = true by decide), i00, u0, w0, gd_in i30 n30, gd_t (show inb 1 3 = true by decide), i11, u1, w1, gd_in i30 n30, ix_n (show i < 2 ^ 31 by omega), r3, s3, q1, Option.bind_some]
    unfold ctE
    by_cases d1 : vC (V 0) i = vC (V 1) i
    · rw [if_neg (fun w => w d1)]
      refine ⟨y, rfl, fz, ?_⟩
      rw [decide_eq_true d1]
      exact mz
    · rw [if_pos d1, decide_eq_false d1]
      have e27 : zc 1 27 = nI tot := q2.2.2.2.1
      have cc := ctxM_fr (frE_trans fz q3) c
      by_cases ht : tot < 30
      · rw [e27, if_pos (fun w => by have := (n30_iff t30).mp w; omega), M_30, ln_35, gd_in ht n30, lt_eq, zn_1, zn_0, ix_n (show tot < 2 ^ 31 by omega)]
        have a1 : up zc 35 tot 1 1 27 = nI tot := by rw [up_ne (by decide)]; exact e27
        rw [a1, M_31, ln_36, gd_in ht n30, lt_eq, ix_n (show tot < 2 ^ 31 by omega)]
        have a2 : up (up zc 35 tot 1) 36 tot 0 1 27 = nI tot := by rw [up_ne (by decide)]; exact a1
        obtain ⟨g1, g2, g3, g4, g5, g6⟩ := q2
        have gi := g2 i i30 trivial (show isIn (upV G i (some (vF G i, vN G i, ctS V P first i))) i = true from isIn_ue)
        have gi1 : zc 37 i = vF G i := gi.1.trans upV_rows.1
        have gi2 : zc 38 i = vN G i := gi.2.trans upV_rows.2.1
        have a3 : up (up zc 35 tot 1) 36 tot 0 37 i = vF G i := by rw [up_ne (by decide), up_ne (by decide)]; exact gi1
        rw [a2, M_32, ln_37, gd_in i30 n30, gd_in ht n30, lt_eq, ix_n (show tot < 2 ^ 31 by omega), a3]
        have a4 : up (up (up zc 35 tot 1) 36 tot 0) 37 tot (vF G i) 1 27 = nI tot := by rw [up_ne (by decide)]; exact a2
        have a5 : up (up (up zc 35 tot 1) 36 tot 0) 37 tot (vF G i) 38 i = vN G i := by rw [up_ne (by decide), up_ne (by decide), up_ne (by decide)]; exact gi2
        rw [a4, M_33, ln_38, gd_in i30 n30, gd_in ht n30, lt_eq, ix_n (show tot < 2 ^ 31 by omega), a5]
        have a6 : up (up (up (up zc 35 tot 1) 36 tot 0) 37 tot (vF G i)) 38 tot (vN G i) 1 27 = nI tot := by rw [up_ne (by decide)]; exact a4
        have xo : isIn (V (1 - first)) i = true := by
          have : first = 0 ∨ first = 1 := by omega
          rcases this with rfl | rfl
          · exact x1
          · exact x0
        obtain ⟨o1, o2, o3⟩ := rowsM (cc.2.1 (1 - first) (by omega)) xo
        have a7 : up (up (up (up zc 35 tot 1) 36 tot 0) 37 tot (vF G i)) 38 tot (vN G i) (16 + (1 - first)) i = vC (V (1 - first)) i := by rw [up_ne (by omega), up_ne (by omega), up_ne (by omega), up_ne (by omega)]; exact o3
        have a8 : up (up (up (up (up zc 35 tot 1) 36 tot 0) 37 tot (vF G i)) 38 tot (vN G i)) 39 tot (vC (V (1 - first)) i) 1 27 = nI tot := by rw [up_ne (by decide)]; exact a6
        rw [a6, n_oth hf, gd_in (show 1 - first < 3 by omega) (by decide), ix_n (show 1 - first < 2 ^ 31 by omega), R_15 _ (by omega), L_15 _ (by omega), gd_in i30 n30, M_34, ln_39, gd_in ht n30, lt_eq, ix_n (show tot < 2 ^ 31 by omega), a7, a8, lt_eq, n_p1]
        refine ⟨_, rfl, frE_trans fz (frE_trans q3 (frE_trans (frE_up (by decide) (by decide)) (frE_trans (frE_up (by decide) (by decide)) (frE_trans (frE_up (by decide) (by decide)) (frE_trans (frE_up (by decide) (by decide)) (frE_trans (frE_up (by decide) (by decide)) (frE_1 (Or.inr rfl)))))))), ?_⟩
        show mgM _ (if (true = true) then (if tot < 30 then _ else _) else _) _ _
        rw [if_pos rfl, if_pos ht]
        have r35 : ∀ j, up (up (up (up (up (up zc 35 tot 1) 36 tot 0) 37 tot (vF G i)) 38 tot (vN G i)) 39 tot (vC (V (1 - first)) i)) 1 27 (nI (tot + 1)) 35 j = if j = tot then 1 else zc 35 j := fun j => by
          rw [up_ne (by decide), up_ne (by decide), up_ne (by decide), up_ne (by decide), up_ne (by decide), up_at]
        have r37 : ∀ j, up (up (up (up (up (up zc 35 tot 1) 36 tot 0) 37 tot (vF G i)) 38 tot (vN G i)) 39 tot (vC (V (1 - first)) i)) 1 27 (nI (tot + 1)) 37 j = if j = tot then vF G i else zc 37 j := fun j => by
          rw [up_ne (by decide), up_ne (by decide), up_ne (by decide), up_at, up_ne (by decide), up_ne (by decide)]
        have r38 : ∀ j, up (up (up (up (up (up zc 35 tot 1) 36 tot 0) 37 tot (vF G i)) 38 tot (vN G i)) 39 tot (vC (V (1 - first)) i)) 1 27 (nI (tot + 1)) 38 j = if j = tot then vN G i else zc 38 j := fun j => by
          rw [up_ne (by decide), up_ne (by decide), up_at, up_ne (by decide), up_ne (by decide), up_ne (by decide)]
        have r39 : ∀ j, up (up (up (up (up (up zc 35 tot 1) 36 tot 0) 37 tot (vF G i)) 38 tot (vN G i)) 39 tot (vC (V (1 - first)) i)) 1 27 (nI (tot + 1)) 39 j = if j = tot then vC (V (1 - first)) i else zc 39 j := fun j => by
          rw [up_ne (by decide), up_at, up_ne (by decide), up_ne (by decide), up_ne (by decide), up_ne (by decide)]
        have r1 : up (up (up (up (up (up zc 35 tot 1) 36 tot 0) 37 tot (vF G i)) 38 tot (vN G i)) 39 tot (vC (V (1 - first)) i)) 1 27 (nI (tot + 1)) 1 27 = nI (tot + 1) := up_same
        have rc : clM (up (up (up (up (up (up zc 35 tot 1) 36 tot 0) 37 tot (vF G i)) 38 tot (vN G i)) 39 tot (vC (V (1 - first)) i)) 1 27 (nI (tot + 1))) (C ++ [(2, i)]) := clM_fr (by rw [up_at, if_neg (by decide), up_ne (by decide), up_ne (by decide), up_ne (by decide), up_ne (by decide), up_ne (by decide)]) (by rw [up_ne (by decide), up_ne (by decide), up_ne (by decide), up_ne (by decide), up_ne (by decide), up_ne (by decide)]) (by rw [up_ne (by decide), up_ne (by decide), up_ne (by decide), up_ne (by decide), up_ne (by decide), up_ne (by decide)]) g6
        generalize up (up (up (up (up (up zc 35 tot 1) 36 tot 0) 37 tot (vF G i)) 38 tot (vN G i)) 39 tot (vC (V (1 - first)) i)) 1 27 (nI (tot + 1)) = zz at r35 r37 r38 r39 r1 rc
        refine ⟨fun t h30 => ?_, fun t h30 _ hti => ?_, fun t h30 hd hti => ?_, r1, ht, rc⟩
        · rw [r35]
          show _ = b2i (isIn (upV (upV G i _) tot _) t)
          by_cases e : t = tot
          · rw [if_pos e, e, isIn_ue]; rfl
          · rw [if_neg e, isIn_un e]
            exact g1 t h30
        · have hti : isIn (upV (upV G i (some (vF G i, vN G i, ctS V P first i))) tot (some (vF G i, vN G i, vC (V (1 - first)) i))) t = true := hti
          rw [r37, r38]
          show _ = vF (upV (upV G i _) tot _) t ∧ _ = vN (upV (upV G i _) tot _) t
          by_cases e : t = tot
          · rw [if_pos e, if_pos e, e]
            exact ⟨upV_rows.1.symm, upV_rows.2.1.symm⟩
          · rw [if_neg e, if_neg e, vF_une e, vN_une e]
            rw [isIn_un e] at hti
            exact g2 t h30 trivial hti
        · have hti : isIn (upV (upV G i (some (vF G i, vN G i, ctS V P first i))) tot (some (vF G i, vN G i, vC (V (1 - first)) i))) t = true := hti
          rw [r39]
          show _ = vC (upV (upV G i _) tot _) t
          by_cases e : t = tot
          · rw [if_pos e, e]
            exact upV_rows.2.2.symm
          · rw [if_neg e, vC_une e]
            rw [isIn_un e] at hti
            exact g3 t h30 hd hti
      · rw [e27, if_neg (fun w => w ((n30_iff t30).mpr (by omega)))]
        refine ⟨zc, rfl, frE_trans fz q3, ?_⟩
        show mgM _ (if (true = true) then (if tot < 30 then _ else _) else _) _ _
        rw [if_pos rfl, if_neg ht]
        exact q2
  · have hb : (wrI V P 0 i && wrI V P 1 i) = false := by simpa using hb
    rw [hb, Bool.false_and]
    refine ⟨y, ?_, fz, mz⟩
    cases x2 : isIn (V 2) i with
    | false => rfl
    | true =>
      rw [if_pos rfl]
      by_cases n0 : chI V P 0 i &&& 8 = 0
      · rw [if_pos n0]
      · rw [if_neg n0]
        by_cases n1 : chI V P 1 i &&& 8 = 0
        · rw [if_pos n1]
        · exfalso
          have a0 : wrI V P 0 i = true := by
            cases e : wrI V P 0 i with
            | true => rfl
            | false => exact absurd (ch_all.2.2.2.2.2.mpr e) n0
          have a1 : wrI V P 1 i = true := by
            cases e : wrI V P 1 i with
            | true => rfl
            | false => exact absurd (ch_all.2.2.2.2.2.mpr e) n1
          rw [a0, a1] at hb
          cases hb
