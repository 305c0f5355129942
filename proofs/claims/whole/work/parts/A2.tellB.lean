/-! places and contents on the reference -/
def mgM (z : HH) (x : T3) (DF DC : Nat → Prop) : Prop := (∀ t, t < 30 → z 35 t = b2i (isIn x.1 t)) ∧ (∀ t, t < 30 → DF t → isIn x.1 t = true → z 37 t = vF x.1 t ∧ z 38 t = vN x.1 t) ∧ (∀ t, t < 30 → DC t → isIn x.1 t = true → z 39 t = vC x.1 t) ∧ z 1 27 = nI x.2.1 ∧ x.2.1 ≤ 30 ∧ clM z x.2.2
theorem mgM_D {z : HH} {x : T3} {DF DC DF' DC' : Nat → Prop} (hF : ∀ t, isIn x.1 t = true → DF' t → DF t) (hC : ∀ t, isIn x.1 t = true → DC' t → DC t) (m : mgM z x DF DC) : mgM z x DF' DC' := by
  obtain ⟨m1, m2, m3, m4, m5, m6⟩ := m
  exact ⟨m1, fun t ht hd hi => m2 t ht (hF t hi hd) hi, fun t ht hd hi => m3 t ht (hC t hi hd) hi, m4, m5, m6⟩
theorem mgM_clash {z : HH} {G : TV} {tot : Nat} {C : CL} {DF DC : Nat → Prop} (m : mgM z (G, tot, C) DF DC) (hl : C.length < 150) (k : Int32) (t : Nat) : ∃ z', fX8_clashes z RM 1 k (nI t) = some z' ∧ mgM z' (G, tot, C ++ [(k, t)]) DF DC ∧ frE z z' := by
  obtain ⟨m1, m2, m3, m4, m5, m6⟩ := m
  obtain ⟨z', e1, e2, e3, e4, e5⟩ := clashes_m m6 hl k t
  exact ⟨z', e1, ⟨fun t ht => by rw [e4 35 (by decide) (by decide)]; exact m1 t ht, fun t ht hd hi => by rw [e4 37 (by decide) (by decide), e4 38 (by decide) (by decide)]; exact m2 t ht hd hi, fun t ht hd hi => by rw [e4 39 (by decide) (by decide)]; exact m3 t ht hd hi, e5.trans m4, m5, e2⟩, e3⟩
theorem mgM_if {α : Type} {z : HH} {x : T3} {DF DC : Nat → Prop} (m : mgM z x DF DC) {t : Nat} (ht : t < 30) (a b : α) : (if z 35 t = 0 then a else b) = if isIn x.1 t = true then b else a := by rw [m.1 t ht, b2i_if]
theorem mv_eq {V : Nat → TV} {P : List PT} {s t : Nat} (h : mvI V P s t = false) (hg : igA V P t = false) (h2 : isIn (V 2) t = true) (hs : isIn (V s) t = true) : vF (V s) t = vF (V 2) t ∧ vN (V s) t = vN (V 2) t := by
  unfold mvI mvB at h
  rw [hg, h2, hs] at h
  have h : plE (V s) (V 2) t = true := by
    cases e : plE (V s) (V 2) t with
    | true => rfl
    | false => rw [e] at h; cases h
  unfold plE at h
  simp only [Bool.and_eq_true, decide_eq_true_eq] at h
  exact h
theorem wr_eq {V : Nat → TV} {P : List PT} {s t : Nat} (h : wrI V P s t = false) (hg : igA V P t = false) (h2 : isIn (V 2) t = true) (hs : isIn (V s) t = true) : vC (V s) t = vC (V 2) t := by
  unfold wrI wrB at h
  rw [hg, h2, hs] at h
  have h : ctE (V s) (V 2) t = true := by
    cases e : ctE (V s) (V 2) t with
    | true => rfl
    | false => rw [e] at h; cases h
  unfold ctE at h
  exact of_decide_eq_true h
theorem mv_in {V : Nat → TV} {P : List PT} {s t : Nat} (h : mvI V P s t = true) : isIn (V 2) t = true ∧ isIn (V s) t = true := by
  unfold mvI mvB at h
  simp only [Bool.and_eq_true] at h
  exact h.2.1
theorem wr_in {V : Nat → TV} {P : List PT} {s t : Nat} (h : wrI V P s t = true) : isIn (V 2) t = true ∧ isIn (V s) t = true := by
  unfold wrI wrB at h
  simp only [Bool.and_eq_true] at h
  exact h.2.1
theorem tg_here {V : Nat → TV} {P : List PT} {n t : Nat} (h : tgB V P n t = true) : hereB V P t = true ∧ igA V P t = false := by
  unfold tgB at h
  simp only [Bool.and_eq_true] at h
  refine ⟨h.1, ?_⟩
  have := h.1
  unfold hereB at this
  simp only [Bool.and_eq_true, Bool.not_eq_true'] at this
  exact this.1
theorem rowsM {h : HH} {V : Nat → TV} {s t : Nat} (hv : avM h s = V s) (hin : isIn (V s) t = true) : h (8 + s) t = vF (V s) t ∧ h (12 + s) t = vN (V s) t ∧ h (16 + s) t = vC (V s) t := by
  obtain ⟨-, p1, p2, p3⟩ := isInM_row (h := h) (s := s) (t := t) (by rw [hv]; exact hin)
  rw [hv] at p1 p2 p3
  exact ⟨p1, p2, p3⟩
theorem isIn_cols {G : TV} {i t : Nat} {a b c : Int32} (hi : isIn G i = true) : isIn (upV G i (some (a, b, c))) t = isIn G t := by
  by_cases e : t = i
  · subst e; rw [isIn_ue, hi]
  · rw [isIn_un e]
theorem places_m {z : HH} {n i first : Nat} {F : Nat → Bool} {V : Nat → TV} {P : List PT} (hn : n ≤ 30) (hf : first < 2) (c : ctxM z n F V P) (hi : i < n) {G : TV} {tot : Nat} {C : CL} (hl : C.length < 150) (m : mgM z (G, tot, C) (fun t => t < i) (fun _ => False)) (hin : isIn G i = true) (htg : tgB V P n i = true) : ∃ z', fX8_places z RM 1 (nI i) (nI first) = some z' ∧ frE z z' ∧ mgM z' (sp2 V P first i (G, tot, C)) (fun t => t < i + 1) (fun _ => False) := by
  have i30 : i < 30 := by omega
  obtain ⟨hh, hig⟩ := tg_here htg
  obtain ⟨sd, hsd, e1, e2, e3⟩ := sideFor_m hn hf c hi hh (mvI V P) 4 (fun s => ch_all.2.2.2.2.1) (fun s hs => mv_in hs)
  have ep : vF (V sd) i = plF V P first i ∧ vN (V sd) i = plN V P first i := by
    unfold plF plN
    rcases e3 with e3 | ⟨e3, e4, e5, e6⟩
    · rw [← e3]; exact ⟨rfl, rfl⟩
    · rw [e4]
      have := mv_eq e5 hig (by rw [← e3]; exact e2) e6
      rw [e3, this.1, this.2]
      exact ⟨rfl, rfl⟩
  obtain ⟨p1, p2, p3⟩ := rowsM (c.2.1 sd hsd) e2
  rw [ep.1] at p1
  rw [ep.2] at p2
  have fz : frE z (up (up z 37 i (plF V P first i)) 38 i (plN V P first i)) := frE_trans (frE_up (by decide) (by decide)) (frE_up (by decide) (by decide))
  have cz := ctxM_fr fz c
  have mz : mgM (up (up z 37 i (plF V P first i)) 38 i (plN V P first i)) (upV G i (some (plF V P first i, plN V P first i, vC G i)), tot, C) (fun t => t < i + 1) (fun _ => False) := by
    obtain ⟨m1, m2, m3, m4, m5, m6⟩ := m
    refine ⟨fun t ht => ?_, fun t ht hd hti => ?_, fun t ht hd _ => hd.elim, by rw [up_ne (by decide), up_ne (by decide)]; exact m4, m5, clM_fr (by rw [up_ne (by decide), up_ne (by decide)]) (by rw [up_ne (by decide), up_ne (by decide)]) (by rw [up_ne (by decide), up_ne (by decide)]) m6⟩
    · rw [up_ne (by decide), up_ne (by decide)]
      show z 35 t = b2i (isIn (upV G i _) t)
      rw [isIn_cols hin]
      exact m1 t ht
    · have hti : isIn (upV G i (some (plF V P first i, plN V P first i, vC G i))) t = true := hti
      show _ = vF (upV G i _) t ∧ _ = vN (upV G i _) t
      rw [up_ne (show 37 ≠ 38 by decide), up_at, up_at, up_ne (show 38 ≠ 37 by decide)]
      by_cases e : t = i
      · rw [if_pos e, if_pos e, e]
        exact ⟨upV_rows.1.symm, upV_rows.2.1.symm⟩
      · rw [if_neg e, if_neg e, vF_une e, vN_une e]
        rw [isIn_un e] at hti
        exact m2 t ht (by omega) hti
  have ch0 : fX8_changed (up (up z 37 i (plF V P first i)) 38 i (plN V P first i)) RM 1 0 (nI i) = some (chI V P 0 i) := changed_m (s := 0) hn cz.2.1 cz.2.2.1 (by decide) hi
  have ch1 : fX8_changed (up (up z 37 i (plF V P first i)) 38 i (plN V P first i)) RM 1 1 (nI i) = some (chI V P 1 i) := changed_m (s := 1) hn cz.2.1 cz.2.2.1 (by decide) hi
  have hx : sp2 V P first i (G, tot, C) = (upV G i (some (plF V P first i, plN V P first i, vC G i)), tot, if c1B V P i = true then C ++ [(1, i)] else C) := by
    show (if isIn G i = true then _ else _) = _
    rw [if_pos hin]
  rw [hx]
  obtain ⟨zc, q1, q2, q3⟩ := mgM_clash mz hl 1 i
  unfold fX8_places
  rw [e1, Option.bind_some, M_4, ln_7, gd_in hsd (by decide), ix_n (show sd < 2 ^ 31 by omega), R_7 sd hsd, L_7 sd hsd, gd_in i30 n30, M_32, ln_37, gd_in i30 n30, lt_eq, ix_n (show i < 2 ^ 31 by omega), p1, M_5, ln_11, gd_in hsd (by decide), R_11 sd hsd, L_11 sd hsd, gd_in i30 n30, M_33, ln_38, gd_in i30 n30, lt_eq, up_ne (show 12 + sd ≠ 37 by omega), p2]
  generalize up (up z 37 i (plF V P first i)) 38 i (plN V P first i) = y at fz cz mz ch0 ch1 q1 q3
  have i2 : ix 2 = 2 := by decide
  have i00 : ix 0 = 0 := by decide
  have i11 : ix 1 = 1 := by decide
  have p3' := R_3 2 (by decide)
  have k3' := L_3 2 (by decide)
  have v2 := cz.2.1 2 (by decide)
  rw [M_3, ln_3, gd_t (show inb 2 3 = true by decide), i2, p3', k3', gd_in i30 n30, inM_if i30, v2, ch0, Option.bind_some, ch1, Option.bind_some]
  have b73 : fX8_places_b73 RM 1 (nI i) (nI first) y = some y := rfl
  rw [b73]
  unfold c1B
  by_cases hb : (mvI V P 0 i && mvI V P 1 i) = true
  · simp only [Bool.and_eq_true] at hb
    have n0 : ¬ (chI V P 0 i &&& 4 = 0) := fun w => by rw [ch_all.2.2.2.2.1.mp w] at hb; cases hb.1
    have n1 : ¬ (chI V P 1 i &&& 4 = 0) := fun w => by rw [ch_all.2.2.2.2.1.mp w] at hb; cases hb.2
    obtain ⟨x2, x0⟩ := mv_in hb.1
    obtain ⟨-, x1⟩ := mv_in hb.2
    rw [x2, if_pos rfl, if_neg n0, if_neg n1, hb.1, hb.2, Bool.true_and, Bool.true_and]
    obtain ⟨r1, r2, r3⟩ := rowsM (cz.2.1 0 (by decide)) x0
    obtain ⟨s1, s2, s3⟩ := rowsM (cz.2.1 1 (by decide)) x1
    have u0 := R_7 0 (by decide)
    have u1 := R_7 1 (by decide)
    have u2 := R_11 0 (by decide)
    have u3 := R_11 1 (by decide)
    have w0 := L_7 0 (by decide)
    have w1 := L_7 1 (by decide)
    have w2 := L_11 0 (by decide)
    have w3 := L_11 1 (by decide)
    unfold fX8_places_b74 fX8_places_b119
    rw [if_neg (by decide), M_4, ln_7, gd_t (show inb 0 3 = true by decide), i00, u0, w0, gd_in i30 n30, gd_t (show inb 1 3 = true by decide), i11, u1, w1, gd_in i30 n30, ix_n (show i < 2 ^ 31 by omega), r1, s1, M_5, ln_11, gd_t (show inb 0 3 = true by decide), u2, w2, gd_in i30 n30, gd_t (show inb 1 3 = true by decide), u3, w3, gd_in i30 n30, r2, s2, q1, Option.bind_some]
    unfold plE
    by_cases d1 : vF (V 0) i = vF (V 1) i
    · by_cases d2 : vN (V 0) i = vN (V 1) i
      · rw [if_neg (fun w => w d1), if_pos d2]
        refine ⟨y, rfl, fz, ?_⟩
        simp only [d1, d2, decide_true, Bool.and_self, Bool.not_true]
        exact mz
      · rw [if_neg (fun w => w d1), if_neg d2]
        refine ⟨zc, rfl, frE_trans fz q3, ?_⟩
        simp only [d2, decide_false, Bool.and_false, Bool.not_false, if_true]
        exact q2
    · rw [if_pos d1]
      refine ⟨zc, rfl, frE_trans fz q3, ?_⟩
      simp only [d1, decide_false, Bool.false_and, Bool.not_false, if_true]
      exact q2
  · have hb : (mvI V P 0 i && mvI V P 1 i) = false := by simpa using hb
    rw [hb, Bool.false_and]
    refine ⟨y, ?_, fz, mz⟩
    cases x2 : isIn (V 2) i with
    | false => rfl
    | true =>
      rw [if_pos rfl]
      by_cases n0 : chI V P 0 i &&& 4 = 0
      · rw [if_pos n0]
      · rw [if_neg n0]
        by_cases n1 : chI V P 1 i &&& 4 = 0
        · rw [if_pos n1]
        · exfalso
          have a0 : mvI V P 0 i = true := by
            cases e : mvI V P 0 i with
            | true => rfl
            | false => exact absurd (ch_all.2.2.2.2.1.mpr e) n0
          have a1 : mvI V P 1 i = true := by
            cases e : mvI V P 1 i with
            | true => rfl
            | false => exact absurd (ch_all.2.2.2.2.1.mpr e) n1
          rw [a0, a1] at hb
          cases hb
