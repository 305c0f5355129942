/-! the reference's sync -/
theorem avM_rm {h : HH} {s t : Nat} : avM (up h (4 + s) t 0) s = upV (avM h s) t none := by
  funext u
  by_cases hu : u < 30
  · rw [avM_in hu]
    by_cases e : u = t
    · subst e
      rw [upV_at, up_same, if_pos rfl]
    · rw [upV_ne e, avM_in hu, up_at, if_neg e, up_ne (show 8 + s ≠ 4 + s by omega), up_ne (show 12 + s ≠ 4 + s by omega), up_ne (show 16 + s ≠ 4 + s by omega)]
  · rw [avM_out hu]
    by_cases e : u = t
    · rw [e, upV_at]
    · rw [upV_ne e, avM_out hu]
theorem avM_st {h : HH} {s t : Nat} {a b c : Int32} (hs : s < 3) (ht : t < 30) : avM (up (up (up (up h (4 + s) t 1) (8 + s) t a) (12 + s) t b) (16 + s) t c) s = upV (avM h s) t (some (a, b, c)) := by
  have r4 : ∀ j, up (up (up (up h (4 + s) t 1) (8 + s) t a) (12 + s) t b) (16 + s) t c (4 + s) j = if j = t then 1 else h (4 + s) j := fun j => by rw [up_ne (show 4 + s ≠ 16 + s by omega), up_ne (show 4 + s ≠ 12 + s by omega), up_ne (show 4 + s ≠ 8 + s by omega), up_at]
  have r8 : ∀ j, up (up (up (up h (4 + s) t 1) (8 + s) t a) (12 + s) t b) (16 + s) t c (8 + s) j = if j = t then a else h (8 + s) j := fun j => by rw [up_ne (show 8 + s ≠ 16 + s by omega), up_ne (show 8 + s ≠ 12 + s by omega), up_at, up_ne (show 8 + s ≠ 4 + s by omega)]
  have r12 : ∀ j, up (up (up (up h (4 + s) t 1) (8 + s) t a) (12 + s) t b) (16 + s) t c (12 + s) j = if j = t then b else h (12 + s) j := fun j => by rw [up_ne (show 12 + s ≠ 16 + s by omega), up_at, up_ne (show 12 + s ≠ 8 + s by omega), up_ne (show 12 + s ≠ 4 + s by omega)]
  have r16 : ∀ j, up (up (up (up h (4 + s) t 1) (8 + s) t a) (12 + s) t b) (16 + s) t c (16 + s) j = if j = t then c else h (16 + s) j := fun j => by rw [up_at, up_ne (show 16 + s ≠ 12 + s by omega), up_ne (show 16 + s ≠ 8 + s by omega), up_ne (show 16 + s ≠ 4 + s by omega)]
  funext u
  by_cases hu : u < 30
  · rw [avM_in hu, r4, r8, r12, r16]
    by_cases e : u = t
    · subst e
      rw [upV_at, if_pos rfl, if_pos rfl, if_pos rfl, if_pos rfl]
      rfl
    · rw [upV_ne e, avM_in hu, if_neg e, if_neg e, if_neg e, if_neg e]
  · rw [avM_out hu, upV_ne (by omega), avM_out hu]
def frR (s : Nat) (h h' : HH) : Prop := ∀ q, q ≠ 4 + s → q ≠ 8 + s → q ≠ 12 + s → q ≠ 16 + s → h' q = h q
theorem frR_av {s s' : Nat} {h h' : HH} (a : frR s h h') (hs : s < 3) (hs' : s' < 3) (e : s' ≠ s) : avM h' s' = avM h s' := avM_eq (a _ (by omega) (by omega) (by omega) (by omega)) (a _ (by omega) (by omega) (by omega) (by omega)) (a _ (by omega) (by omega) (by omega) (by omega)) (a _ (by omega) (by omega) (by omega) (by omega))
theorem becomes_m {h : HH} {n s : Nat} {V : Nat → TV} {P : List PT} {x : T3} (hs : s < 3) (hn : n ≤ 30) (h0 : h 1 0 = nI n) (hg : rwN h 32 n (igA V P)) (m : mgM h x (fun _ => True) (fun _ => True)) (hbz : bM h) {U : TV} (hU : avM h s = U) (hlt : ∀ t, igA V P t = true → t < n) (hmix : ∀ t, x.2.1 ≤ t → mixV V P x.1 U t = U t) : ∃ h', fX8_becomesTarget h RM 1 (nI s) = some h' ∧ frR s h h' ∧ bM h' ∧ avM h' s = mixV V P x.1 U := by
  have m5 : x.2.1 ≤ 30 := m.2.2.2.2.1
  have m4 : h 1 27 = nI x.2.1 := m.2.2.2.1
  have key := loop_inv (L := fX8_becomesTarget_b2 RM 1 (nI s)) (e := x.2.1) (I := fun j z => frR s h z ∧ bM z ∧ ∀ t, avM z s t = if t < j then mixV V P x.1 U t else U t) (g := fun z => some z) (fun k t z ht hI => by
    obtain ⟨I1, I2, I3⟩ := hI
    have t30 : t < 30 := by omega
    have e1 : z 1 = h 1 := I1 1 (by omega) (by omega) (by omega) (by omega)
    have e32 : z 32 = h 32 := I1 32 (by omega) (by omega) (by omega) (by omega)
    have e35 : z 35 = h 35 := I1 35 (by omega) (by omega) (by omega) (by omega)
    have e37 : z 37 = h 37 := I1 37 (by omega) (by omega) (by omega) (by omega)
    have e38 : z 38 = h 38 := I1 38 (by omega) (by omega) (by omega) (by omega)
    have e39 : z 39 = h 39 := I1 39 (by omega) (by omega) (by omega) (by omega)
    have next : ∀ z', frR s z z' → bM z' → avM z' s = upV (avM z s) t (mixV V P x.1 U t) → frR s h z' ∧ bM z' ∧ ∀ u, avM z' s u = if u < t + 1 then mixV V P x.1 U u else U u := fun z' q1 q2 q3 => by
      refine ⟨fun q a1 a2 a3 a4 => (q1 q a1 a2 a3 a4).trans (I1 q a1 a2 a3 a4), q2, fun u => ?_⟩
      rw [q3]
      by_cases e : u = t
      · subst e
        rw [upV_at, if_pos (by omega)]
      · rw [upV_ne e, I3 u]
        by_cases e2 : u < t
        · rw [if_pos e2, if_pos (by omega)]
        · rw [if_neg e2, if_neg (by omega)]
    have b30 : igA V P t = false → ∃ z', fX8_becomesTarget_b30 RM 1 (nI s) (fun h_ z2_ => fX8_becomesTarget_b2 RM 1 (nI s) k h_ z2_) z (nI t) = fX8_becomesTarget_b2 RM 1 (nI s) k z' (nI (t + 1)) ∧ frR s h z' ∧ bM z' ∧ ∀ u, avM z' s u = if u < t + 1 then mixV V P x.1 U u else U u := fun hig => by
      have hm : mixV V P x.1 U t = x.1 t := by unfold mixV; rw [hig]; rfl
      have o35 : ∀ v : Int32, up z (4 + s) t v 35 = h 35 := fun v => by rw [up_ne (by omega), e35]
      rw [fX8_becomesTarget_b30, M_3, ln_3, gd_in hs (by decide), M_30, ln_35, gd_in t30 n30, ix_n (show s < 2 ^ 31 by omega), R_3 s hs, L_3 s hs, gd_in t30 n30, ix_n (show t < 2 ^ 31 by omega), e35, m.1 t t30, zn_b, lt_eq, gd_in t30 n30, o35, m.1 t t30, b2i_if]
      cases hin : isIn x.1 t with
      | false =>
        rw [if_neg (show ¬ (false = true) by decide), fX8_becomesTarget_b77, n_p1]
        refine ⟨up z (4 + s) t (b2i false), rfl, next _ (fun q a1 _ _ _ => up_ne a1) (bM_u (Or.inl rfl) I2) ?_⟩
        have hnone : x.1 t = none := by
          unfold isIn at hin
          cases e : x.1 t with
          | none => rfl
          | some y => rw [e] at hin; cases hin
        rw [hm, hnone]
        exact avM_rm
      | true =>
        obtain ⟨g1, g2⟩ := m.2.1 t t30 trivial hin
        have g3 := m.2.2.1 t t30 trivial hin
        have hb1 : b2i true = 1 := rfl
        have o37 : up z (4 + s) t 1 37 t = vF x.1 t := by rw [up_ne (by omega), e37]; exact g1
        have o38 : up z (4 + s) t 1 38 t = vN x.1 t := by rw [up_ne (by omega), e38]; exact g2
        have o39 : up z (4 + s) t 1 39 t = vC x.1 t := by rw [up_ne (by omega), e39]; exact g3
        rw [if_pos rfl, hb1, M_32, M_33, M_34, ln_37, ln_38, ln_39, gd_in t30 n30, gd_in t30 n30, gd_in t30 n30, o37, o38, o39, stand_m hs t30, Option.bind_some, fX8_becomesTarget_b77, n_p1]
        refine ⟨_, rfl, next _ (fun q a1 a2 a3 a4 => by rw [up_ne a4, up_ne a3, up_ne a2, up_ne a1, up_ne a1]) (bM_n (by omega) (bM_n (by omega) (bM_n (by omega) (bM_u (Or.inr rfl) (bM_u (Or.inr rfl) I2))))) ?_⟩
        rw [avM_st hs t30, hm, isIn_some hin]
        have e9 : avM (up z (4 + s) t 1) s = upV (avM z s) t (avM (up z (4 + s) t 1) s t) := by
          funext u
          by_cases hu : u = t
          · rw [hu, upV_at]
          · rw [upV_ne hu]
            by_cases hu2 : u < 30
            · rw [avM_in hu2, avM_in hu2, up_at, if_neg hu, up_ne (show 8 + s ≠ 4 + s by omega), up_ne (show 12 + s ≠ 4 + s by omega), up_ne (show 16 + s ≠ 4 + s by omega)]
            · rw [avM_out hu2, avM_out hu2]
        funext u
        by_cases hu : u = t
        · rw [hu, upV_at, upV_at]
        · rw [upV_ne hu, upV_ne hu, e9, upV_ne hu]
    rw [fX8_becomesTarget_b2, e1, m4, if_neg (nI_ge ht (by omega)), h0]
    by_cases e : n ≤ t
    · rw [if_pos (nI_le e (by omega))]
      exact b30 (by
        cases eg : igA V P t with
        | false => rfl
        | true => have := hlt t eg; omega)
    · rw [if_neg (nI_ge (by omega) (by omega)), M_25, ln_32, gd_in t30 n30, ix_n (show t < 2 ^ 31 by omega), e32, hg t (by omega), b2i_if]
      cases hig : igA V P t with
      | false =>
        rw [if_neg (show ¬ (false = true) by decide)]
        exact b30 hig
      | true =>
        rw [if_pos rfl, fX8_becomesTarget_b77, n_p1]
        refine ⟨z, rfl, I1, I2, fun u => ?_⟩
        rw [I3 u]
        by_cases e2 : u < t
        · rw [if_pos e2, if_pos (by omega)]
        · rw [if_neg e2]
          by_cases e3 : u = t
          · subst e3
            rw [if_pos (by omega)]
            unfold mixV
            rw [hig]
            rfl
          · rw [if_neg (by omega)]) (fun k z hI => by
    have e1 : z 1 = h 1 := hI.1 1 (by omega) (by omega) (by omega) (by omega)
    rw [fX8_becomesTarget_b2, e1, m4, if_pos (nI_le (Nat.le_refl _) (by omega))])
  obtain ⟨h', ⟨I1, I2, I3⟩, E⟩ := key lpF 0 h (by omega) (by rw [lpF_eq]; omega) ⟨fun _ _ _ _ _ => rfl, hbz, fun t => by rw [if_neg (by omega), hU]⟩
  refine ⟨h', ?_, I1, I2, ?_⟩
  · unfold fX8_becomesTarget
    rw [l0]
    exact E
  · funext t
    rw [I3 t]
    by_cases e : t < x.2.1
    · rw [if_pos e]
    · rw [if_neg e, hmix t (by omega)]
def jB (v : TV) : Prop := ∀ t, isIn v t = true → vF v t = -1 ∨ ∃ g, g < 30 ∧ vF v t = nI g
theorem jB_sub {v u : TV} (h : subT v u) (a : jB v) : jB u := fun t ht => by
  have c := isIn_congr (subT_in h ht)
  rw [c.2]
  exact a t (c.1.symm.trans ht)
theorem msweep2 {V : Nat → TV} {P : List PT} {n : Nat} (hn : n ≤ 30) (hlt : ∀ t, igA V P t = true → t < n) (k2 : HH → Int32 → Option HH) {z : HH} {v : TV} (h0 : z 1 0 = nI n) (hg : rwN z 32 n (igA V P)) (hv : avM z 2 = v) (hbz : bM z) (hq : clQ (nigB V P) v) (hj : jB v) : ∃ z', fX8_leavesIgnored_b10 RM 1 k2 lpF z 0 0 = k2 z' (b2i (sws v).2) ∧ (∀ q, q ≠ 6 → z' q = z q) ∧ avM z' 2 = (sws v).1 ∧ bM z' := by
  obtain ⟨⟨z', b⟩, ⟨q1, q2, q3, q4, q5⟩, E⟩ := loop_rel (L := fun k (s : HH × Int32) y => fX8_leavesIgnored_b10 RM 1 k2 k s.1 s.2 y) (e := n) (f := swt) (R := fun _ s x => s.2 = b2i x.2 ∧ (∀ q, q ≠ 6 → s.1 q = z q) ∧ avM s.1 2 = x.1 ∧ bM s.1 ∧ (clQ (nigB V P) x.1 ∧ jB x.1)) (g := fun s => k2 s.1 s.2) (fun k t s x ht hR => by
    obtain ⟨y, b⟩ := s
    obtain ⟨u, fl⟩ := x
    obtain ⟨R1, R2, R3, R4, R5, R6⟩ := hR
    have R1 : b = b2i fl := R1
    have R2 : ∀ q, q ≠ 6 → y q = z q := R2
    have R3 : avM y 2 = u := R3
    have R4 : bM y := R4
    have R5 : clQ (nigB V P) u := R5
    have R6 : jB u := R6
    subst R1
    have t30 : t < 30 := by omega
    have i2 : inb 2 3 = true := by decide
    have e1 : y 1 = z 1 := R2 1 (by decide)
    have e32 : y 32 = z 32 := R2 32 (by decide)
    have ok' : clQ (nigB V P) (swt t (u, fl)).1 ∧ jB (swt t (u, fl)).1 := ⟨(swt_keep (x := (u, fl)) R5).2, jB_sub (swt_sub (x := (u, fl))) R6⟩
    have stay : hmB u t = false → (∃ s' : HH × Int32, fX8_leavesIgnored_b10 RM 1 k2 k y (b2i fl) (nI (t + 1)) = fX8_leavesIgnored_b10 RM 1 k2 k s'.1 s'.2 (nI (t + 1)) ∧ s'.2 = b2i (swt t (u, fl)).2 ∧ (∀ q, q ≠ 6 → s'.1 q = z q) ∧ avM s'.1 2 = (swt t (u, fl)).1 ∧ bM s'.1 ∧ (clQ (nigB V P) (swt t (u, fl)).1 ∧ jB (swt t (u, fl)).1)) := fun hno => by
      rw [swt_no (x := (u, fl)) hno] at ok' ⊢
      exact ⟨(y, b2i fl), rfl, rfl, R2, R3, R4, ok'⟩
    show ∃ s' : HH × Int32, fX8_leavesIgnored_b10 RM 1 k2 (k + 1) y (b2i fl) (nI t) = fX8_leavesIgnored_b10 RM 1 k2 k s'.1 s'.2 (nI (t + 1)) ∧ _
    have in6 : ∀ {α : Type} (a b : α) (w : Nat), w < 30 → (if y 6 w = 0 then a else b) = if isIn u w = true then b else a := fun a b w hw => by
      have := inM_if (h := y) (s := 2) hw a b
      rw [R3] at this
      exact this
    rw [fX8_leavesIgnored_b10, e1, h0, if_neg (nI_ge ht (by omega)), M_4, ln_7, gd_t i2, ix_2, R_7 2 (by decide), L_7 2 (by decide), gd_in t30 n30, ix_n (show t < 2 ^ 31 by omega), lt_eq, M_25, ln_32, gd_in t30 n30, e32, hg t ht, b2i_if, M_3, ln_3, gd_t i2, R_3 2 (by decide), L_3 2 (by decide), gd_in t30 n30]
    have p6 : (4 + 2 : Nat) = 6 := rfl
    have p10 : (8 + 2 : Nat) = 10 := rfl
    rw [p6, p10, in6 _ _ t t30]
    simp only [fX8_leavesIgnored_b77, n_p1]
    cases hig : igA V P t with
    | false =>
      rw [if_neg (show ¬ (false = true) by decide)]
      exact stay (clQ_hm R5 (by unfold nigB; rw [hig]; rfl))
    | true =>
      rw [if_pos rfl]
      cases hin : isIn u t with
      | false =>
        rw [if_neg (show ¬ (false = true) by decide)]
        exact stay (by unfold hmB; rw [hin]; rfl)
      | true =>
        have rF : y 10 t = vF u t := (rowsM (V := fun _ => u) (s := 2) R3 hin).1
        rw [if_pos rfl, rF]
        rcases R6 t hin with e | ⟨g, g1, g2⟩
        · rw [if_pos e]
          exact stay (by unfold hmB; rw [decide_eq_true e]; simp)
        · have gne : ¬ vF u t = -1 := by rw [g2]; exact m1_ne g (by omega)
          rw [if_neg gne, g2, gd_t i2, gd_in g1 n30, ix_n (show g < 2 ^ 31 by omega), in6 _ _ g g1]
          cases hgi : isIn u g with
          | true =>
            rw [if_pos rfl]
            exact stay (by unfold hmB; rw [g2, ix_n (show g < 2 ^ 31 by omega), hgi, decide_eq_false (n_lt0 g (by omega))]; simp)
          | false =>
            have hyes : hmB u t = true := by unfold hmB; rw [hin, g2, ix_n (show g < 2 ^ 31 by omega), hgi, decide_eq_false (m1_ne g (by omega))]; simp
            rw [swt_yes (x := (u, fl)) hyes] at ok' ⊢
            rw [if_neg (show ¬ (false = true) by decide), gd_t i2, gd_in t30 n30, zn_0, lt_eq]
            refine ⟨(up y 6 t 0, 1), rfl, rfl, fun q hq => (up_ne hq).trans (R2 q hq), ?_, bM_u (Or.inl rfl) R4, ok'⟩
            have := avM_rm (h := y) (s := 2) (t := t)
            rw [R3] at this
            exact this) (fun k s x hR => by
    have e1 : s.1 1 = z 1 := hR.2.1 1 (by decide)
    show fX8_leavesIgnored_b10 RM 1 k2 (k + 1) s.1 s.2 (nI n) = _
    rw [fX8_leavesIgnored_b10, e1, h0, if_pos (nI_le (Nat.le_refl _) (by omega))]) lpF (z, 0) (v, false) (by rw [lpF_eq]; omega) ⟨rfl, fun _ _ => rfl, hv, hbz, hq, hj⟩
  have E : fX8_leavesIgnored_b10 RM 1 k2 lpF z 0 (nI 0) = k2 z' b := E
  rw [sws_m hn hq (fun t ht => by
    unfold nigB
    cases e : igA V P t with
    | false => rfl
    | true => have := hlt t e; omega)] at q1 q3
  have q1 : b = b2i (sws v).2 := q1
  rw [← l0] at E
  exact ⟨z', by rw [E, q1], q2, q3, q4⟩
theorem mrounds2 {V : Nat → TV} {P : List PT} {n : Nat} (hn : n ≤ 30) (hlt : ∀ t, igA V P t = true → t < n) : ∀ (r k : Nat) (z : HH) (v : TV) (b : Bool), ncN v ≤ r → r + 1 < k → z 1 0 = nI n → rwN z 32 n (igA V P) → avM z 2 = v → bM z → clQ (nigB V P) v → jB v → (b = false → swn r v = v) → ∃ z', fX8_leavesIgnored_b2 RM 1 k z (b2i b) = some z' ∧ (∀ q, q ≠ 6 → z' q = z q) ∧ avM z' 2 = swn r v ∧ bM z' := by
  intro r
  induction r with
  | zero =>
    intro k z v b hr hk h0 hg hv hbz hq hj hb
    obtain ⟨k, rfl⟩ : ∃ m, k = m + 2 := ⟨k - 2, by omega⟩
    rw [fX8_leavesIgnored_b2, b2i_if]
    cases b with
    | false =>
      rw [if_neg (show ¬ (false = true) by decide), hb rfl]
      exact ⟨z, rfl, fun _ _ => rfl, hv, hbz⟩
    | true =>
      rw [if_pos rfl]
      obtain ⟨z1, e1, f1, g1, g2⟩ := msweep2 hn hlt (fun h_ z1_ => fX8_leavesIgnored_b2 RM 1 (k + 1) h_ z1_) h0 hg hv hbz hq hj
      have hf : (sws v).2 = false := by
        cases e : (sws v).2 with
        | false => rfl
        | true => have := sws_less e; omega
      refine ⟨z1, ?_, f1, by rw [g1, (sws_no hf).1]; rfl, g2⟩
      rw [e1, hf, fX8_leavesIgnored_b2, b2i_if, if_neg (show ¬ (false = true) by decide)]
  | succ r ih =>
    intro k z v b hr hk h0 hg hv hbz hq hj hb
    obtain ⟨k, rfl⟩ : ∃ m, k = m + 1 := ⟨k - 1, by omega⟩
    rw [fX8_leavesIgnored_b2, b2i_if]
    cases b with
    | false =>
      rw [if_neg (show ¬ (false = true) by decide), hb rfl]
      exact ⟨z, rfl, fun _ _ => rfl, hv, hbz⟩
    | true =>
      rw [if_pos rfl]
      obtain ⟨z1, e1, f1, g1, g2⟩ := msweep2 hn hlt (fun h_ z1_ => fX8_leavesIgnored_b2 RM 1 k h_ z1_) h0 hg hv hbz hq hj
      cases hf : (sws v).2 with
      | true =>
        have hless := sws_less hf
        obtain ⟨z2, e2, f2, g3, g4⟩ := ih k z1 (sws v).1 true (by omega) (by omega) (by rw [f1 1 (by decide)]; exact h0) (fun u hu => by rw [f1 32 (by decide)]; exact hg u hu) g1 g2 (sws_keep hq).2 (jB_sub sws_sub hj) (fun z => by cases z)
        exact ⟨z2, by rw [e1, hf]; exact e2, fun q hq' => (f2 q hq').trans (f1 q hq'), g3, g4⟩
      | false =>
        obtain ⟨k, rfl⟩ : ∃ m, k = m + 1 := ⟨k - 1, by omega⟩
        refine ⟨z1, ?_, f1, ?_, g2⟩
        · rw [e1, hf, fX8_leavesIgnored_b2, b2i_if, if_neg (show ¬ (false = true) by decide)]
        · rw [g1, swn_fix hf, (sws_no hf).1]
theorem sync_m {h : HH} {n : Nat} {F : Nat → Bool} {V : Nat → TV} {P : List PT} {pr c0 c1 c2 : Int32} {x : T3} (a1 : Int32) (hw : wM h (n, F, V, P, pr, c0, c1, c2)) (hwf : ∀ s, s < 3 → wfT n F (V s)) (c : ctxM h n F V P) (m : mgM h x (fun _ => True) (fun _ => True)) (ok : tgOK V P n F x) : ∃ h', fX8_sync_b32 RM 1 lpF h a1 0 = some (a1, h') ∧ (∀ q, 20 ≤ q → h' q = h q) ∧ (∀ j, j ≠ 0 → h' 1 j = h 1 j) ∧ wM h' (x.2.1, fNew F n, syV V P x.1, P, pr, c0, c1, c2) := by
  have hn : n ≤ 30 := hw.1
  have m4 : x.2.1 ≤ 30 := ok.2.1
  have hle : n ≤ x.2.1 := ok.1
  have h27 : h 1 27 = nI x.2.1 := m.2.2.2.1
  have h0 : h 1 0 = nI n := c.1
  have hlt : ∀ t, igA V P t = true → t < n := fun t ht => igA_lt hwf ht
  obtain ⟨d1, d2, d3, d4, d5, d6, d7, e1, e2, e3, e4, e5⟩ := hw
  have hmix : ∀ (U : TV), wfT n F U → ∀ t, x.2.1 ≤ t → mixV V P x.1 U t = U t := fun U hU t ht => by
    unfold mixV
    cases e : igA V P t with
    | true => rfl
    | false =>
      have h1 : isIn x.1 t = false := by rw [ok.2.2.2.1 t (by omega)]; exact decide_eq_false (by omega)
      have h2 : isIn U t = false := by
        cases e2 : isIn U t with
        | false => rfl
        | true => have := (hU t e2).1; omega
      have z1 : x.1 t = none := by
        unfold isIn at h1
        cases e3 : x.1 t with
        | none => rfl
        | some y => rw [e3] at h1; cases h1
      have z2 : U t = none := by
        unfold isIn at h2
        cases e3 : U t with
        | none => rfl
        | some y => rw [e3] at h2; cases h2
      rw [if_neg (show ¬ (false = true) by decide), z1, z2]
  have key := loop_inv (L := fun k z y => fX8_sync_b32 RM 1 k z a1 y) (e := 3) (I := fun s z => (∀ q, q < 4 ∨ q = 7 ∨ q = 11 ∨ q = 15 ∨ 19 ≤ q → z q = h q) ∧ bM z ∧ ∀ s', s' < 3 → avM z s' = if s' < s then mixV V P x.1 (V s') else V s') (g := fun z => (fX8_leavesIgnored z RM 1).bind (fun h49 => lt (h49 1 0) (fun y56 => fX8_sync_b57 RM 1 lpF h49 a1 y56))) (fun k s z hs hI => by
    obtain ⟨I1, I2, I3⟩ := hI
    have j1 := I3 s hs
    rw [if_neg (by omega)] at j1
    have o1 : z 1 = h 1 := I1 1 (by omega)
    have mz : mgM z x (fun _ => True) (fun _ => True) := by
      obtain ⟨m1, m2, m3, m4, m5, m6⟩ := m
      exact ⟨fun t ht => by rw [I1 35 (by omega)]; exact m1 t ht, fun t ht hd hi => by rw [I1 37 (by omega), I1 38 (by omega)]; exact m2 t ht hd hi, fun t ht hd hi => by rw [I1 39 (by omega)]; exact m3 t ht hd hi, by rw [o1]; exact m4, m5, clM_fr (by rw [o1]) (I1 33 (by omega)) (I1 34 (by omega)) m6⟩
    obtain ⟨z', k1, k2, k3, k4⟩ := becomes_m (V := V) (P := P) hs hn (by rw [o1]; exact h0) (fun u hu => by rw [I1 32 (by omega)]; exact c.2.2.1 u hu) mz I2 j1 hlt (hmix (V s) (hwf s hs))
    refine ⟨z', ?_, fun q hq => (k2 q (by omega) (by omega) (by omega) (by omega)).trans (I1 q hq), k3, fun s' hs' => ?_⟩
    · show fX8_sync_b32 RM 1 (k + 1) z a1 (nI s) = fX8_sync_b32 RM 1 k z' a1 (nI (s + 1))
      rw [fX8_sync_b32, if_neg (i3c hs), k1, Option.bind_some, n_p1]
    · by_cases es : s' = s
      · subst es
        rw [if_pos (by omega)]
        exact k4
      · rw [frR_av k2 hs hs' es, I3 s' hs']
        by_cases e : s' < s
        · rw [if_pos e, if_pos (by omega)]
        · rw [if_neg e, if_neg (by omega)]) (fun k z hI => by
    show fX8_sync_b32 RM 1 (k + 1) z a1 (nI 3) = _
    rw [fX8_sync_b32, if_pos (show (3 : Int32) ≤ nI 3 by decide)])
  obtain ⟨h1, ⟨B1, B2, B3⟩, E1⟩ := key lpF 0 h (by omega) (by rw [lpF_eq]; omega) ⟨fun _ _ => rfl, e5, fun s hs => by rw [if_neg (by omega)]; exact d4 s hs⟩
  have E1 : fX8_sync_b32 RM 1 lpF h a1 (nI 0) = (fX8_leavesIgnored h1 RM 1).bind (fun h49 => lt (h49 1 0) (fun y56 => fX8_sync_b57 RM 1 lpF h49 a1 y56)) := E1
  have av2 : avM h1 2 = mixV V P x.1 (V 2) := by rw [B3 2 (by decide), if_pos (by decide)]
  have jb2 : jB (mixV V P x.1 (V 2)) := fun t ht => by
    cases eg : igA V P t with
    | true =>
      have cg := isIn_congr (show mixV V P x.1 (V 2) t = V 2 t by unfold mixV; rw [eg]; rfl)
      rcases (hwf 2 (by decide) t (cg.1.symm.trans ht)).2.1 with z | ⟨g, g1, g2, g3, g4⟩
      · exact Or.inl (cg.2.trans z)
      · exact Or.inr ⟨g, by omega, cg.2.trans g2⟩
    | false =>
      rcases mix_cl (U := V 2) hn hwf ok t (by unfold nigB; rw [eg]; rfl) ht with z | ⟨g, g1, g2, g3, g4⟩
      · exact Or.inl z
      · exact Or.inr ⟨g, g1, g2⟩
  obtain ⟨h2, k1, k2, k3, k4⟩ := mrounds2 (V := V) (P := P) hn hlt 30 lpF h1 (mixV V P x.1 (V 2)) true ncN_30 (by rw [lpF_eq]; omega) (by rw [B1 1 (by omega)]; exact h0) (fun u hu => by rw [B1 32 (by omega)]; exact c.2.2.1 u hu) av2 B2 (mix_cl hn hwf ok) jb2 (fun z => by cases z)
  have E2 : fX8_leavesIgnored h1 RM 1 = some h2 := k1
  have o21 : h2 1 = h 1 := by rw [k2 1 (by decide), B1 1 (by omega)]
  have key2 := loop_inv (L := fun k z y => fX8_sync_b57 RM 1 k z a1 y) (e := x.2.1) (I := fun j z => n ≤ j ∧ (∀ q, q ≠ 2 → z q = h2 q) ∧ ∀ t, z 2 t = if n ≤ t ∧ t < j then 0 else h2 2 t) (g := fun z => some (a1, up z 1 0 (nI x.2.1))) (fun k t z ht hI => by
    obtain ⟨I0, I1, I2⟩ := hI
    refine ⟨up z 2 t 0, ?_, by omega, fun q hq => (up_ne hq).trans (I1 q hq), fun u => ?_⟩
    · show fX8_sync_b57 RM 1 (k + 1) z a1 (nI t) = fX8_sync_b57 RM 1 k (up z 2 t 0) a1 (nI (t + 1))
      rw [fX8_sync_b57, I1 1 (by decide), o21, h27, if_neg (nI_ge ht (by omega)), M_2, ln_2, gd_in (show t < 30 by omega) n30, ix_n (show t < 2 ^ 31 by omega), zn_0, lt_eq, n_p1]
    · rw [up_at]
      by_cases e : u = t
      · rw [if_pos e, if_pos (by omega)]
      · rw [if_neg e, I2 u]
        by_cases e2 : n ≤ u ∧ u < t
        · rw [if_pos e2, if_pos (by omega)]
        · rw [if_neg e2, if_neg (by omega)]) (fun k z hI => by
    show fX8_sync_b57 RM 1 (k + 1) z a1 (nI x.2.1) = _
    rw [fX8_sync_b57, hI.2.1 1 (by decide), o21, h27, if_pos (nI_le (Nat.le_refl _) (by omega)), lt_eq])
  obtain ⟨h3, ⟨-, A1, A2⟩, E3⟩ := key2 lpF n h2 hle (by rw [lpF_eq]; omega) ⟨Nat.le_refl n, fun _ _ => rfl, fun t => by rw [if_neg (by omega)]⟩
  have E3 : fX8_sync_b57 RM 1 lpF h2 a1 (nI n) = some (a1, up h3 1 0 (nI x.2.1)) := E3
  have lo : ∀ q, q ≠ 1 → q ≠ 2 → q ≠ 6 → (q < 4 ∨ q = 7 ∨ q = 11 ∨ q = 15 ∨ 19 ≤ q) → up h3 1 0 (nI x.2.1) q = h q := fun q q1 q2 q3 q4 => by rw [up_ne q1, A1 q q2, k2 q q3, B1 q q4]
  have hi : ∀ q, q ≠ 1 → q ≠ 2 → q ≠ 6 → up h3 1 0 (nI x.2.1) q = h1 q := fun q q1 q2 q3 => by rw [up_ne q1, A1 q q2, k2 q q3]
  have oj : ∀ j, j ≠ 0 → up h3 1 0 (nI x.2.1) 1 j = h 1 j := fun j hj => by rw [up_at, if_neg hj, A1 1 (by decide), o21]
  refine ⟨up h3 1 0 (nI x.2.1), ?_, fun q hq => lo q (by omega) (by omega) (by omega) (by omega), oj, m4, up_same, fun t ht => ?_, fun s hs => ?_, d5, by rw [oj 11 (by decide)]; exact d6, fun i y hy => patM_eq (lo 20 (by decide) (by decide) (by decide) (by omega)) (lo 21 (by decide) (by decide) (by decide) (by omega)) (lo _ (by omega) (by omega) (by omega) (by omega)) (d7 i y hy), by rw [oj 1 (by decide)]; exact e1, by rw [oj 7 (by decide)]; exact e2, by rw [oj 8 (by decide)]; exact e3, by rw [oj 9 (by decide)]; exact e4, ?_⟩
  · rw [l0, E1, E2, Option.bind_some, lt_eq, show h2 1 0 = nI n by rw [o21]; exact h0, E3]
  · rw [up_ne (by decide), A2 t]
    unfold fNew
    by_cases e : t < n
    · rw [if_neg (by omega), decide_eq_true e, Bool.true_and, k2 2 (by decide), B1 2 (by omega)]
      exact d3 t e
    · rw [if_pos (by omega), decide_eq_false e, Bool.false_and]
      rfl
  · unfold syV
    by_cases e : s = 2
    · subst e
      rw [if_pos rfl, ← k3]
      exact avM_eq (by rw [up_ne (by decide), A1 _ (by decide)]) (by rw [up_ne (by decide), A1 _ (by decide)]) (by rw [up_ne (by decide), A1 _ (by decide)]) (by rw [up_ne (by decide), A1 _ (by decide)])
    · rw [if_neg e]
      have y1 := B3 s hs
      rw [if_pos hs] at y1
      rw [← y1]
      exact avM_eq (hi _ (by omega) (by omega) (by omega)) (hi _ (by omega) (by omega) (by omega)) (hi _ (by omega) (by omega) (by omega)) (hi _ (by omega) (by omega) (by omega))
  · exact bM_n (by omega) (bM_eq (fun q _ _ => A1 q (by omega)) k4)
theorem s_sync : S_sync Inv := by
  rintro hA hM I0
  have I1 := I0
  obtain ⟨⟨n, F, V, P, pr, c0, c1, c2⟩, K, tp, S, i1, i2, i3, i4, i5, i6, i7⟩ := I0
  have hn : n ≤ 30 := i4.1
  have hall : ∀ s, s < 3 → wfT n F (V s) := i1.1
  obtain ⟨first, hf, rfl⟩ := pr_first i1.2
  have epA : hA 2 5 = nI first := i4.2.2.2.2.2.2.2.2.2.1
  have epM : hM 1 1 = nI first := i5.2.2.2.2.2.2.2.1
  obtain ⟨hA', hM', a1, b1, w1, w2, r1, r2, x1, x2, y1, y2, ok⟩ := both_settle first hf i1 i2 i3 i4 i5 i6 i7
  obtain ⟨zA, p1, p2, p3⟩ := stepsOf_a w268_2 (show 0 < 2 by decide) x1 x2
  obtain ⟨zA2, p4, p5, p6⟩ := stepsOf_a w268_2 (show 1 < 2 by decide) (ctxA_P w268_2 p2 x1) (mgA_P p2 x2)
  obtain ⟨zM, f1, f2, f3⟩ := tellPlan_m hn hall y1 y2 ok (show 0 < 2 by decide)
  obtain ⟨zM2, f4, f5, f6⟩ := tellPlan_m hn hall (ctxM_S f2 y1) (mgM_S f2 y2) ok (show 1 < 2 by decide)
  have p1 : fX7_stepsOf hA' RA 1 0 = _ := p1
  have p4 : fX7_stepsOf zA RA 1 1 = _ := p4
  have f1 : fX8_tellPlan hM' RM 1 0 = _ := f1
  have f4 : fX8_tellPlan zM RM 1 1 = _ := f4
  have pw := wA_P w268_2 p5 (wA_P w268_2 p2 w1)
  have fw := wM_frS f5 (wM_frS f2 w2)
  obtain ⟨hB, q1, q2, q3⟩ := carryOut_a pw hall (ctxA_P w268_2 p5 (ctxA_P w268_2 p2 x1)) (mgA_P p5 (mgA_P p2 x2)) ok
  obtain ⟨hN, g1, g2, g3, g4⟩ := sync_m (nI (p4S V P (t5S V P n first).1 0).length + nI (p4S V P (t5S V P n first).1 1).length) fw hall (ctxM_S f5 (ctxM_S f2 y1)) (mgM_S f5 (mgM_S f2 y2)) ok
  refine ⟨nI (p4S V P (t5S V P n first).1 0).length + nI (p4S V P (t5S V P n first).1 1).length, hB, hN, ?_, ?_, ((t5S V P n first).2.1, fNew F n, syV V P (t5S V P n first).1, P, nI first, c0, c1, c2), K, tp, S, ⟨sy_wf hn hall ok, i1.2⟩, i2, i3, q3, g4, reA_W q2 (reA_P p5 (reA_P p2 r1)), reM_eq (g3 43 (by decide)) (g3 16 (by decide)) (fun q hq => g2 q (by omega)) (reM_frS f5 (reM_frS f2 r2))⟩
  · unfold fX7_sync
    rw [A_15, A_10, epA, a1, Option.bind_some, p1, bi2_eq, p4, bi2_eq, lt_eq, q1, Option.bind_some]
  · unfold fX8_sync
    rw [epM, b1, Option.bind_some, f1, Option.bind_some, lt_eq, f3.1, f4, Option.bind_some, f6.1, lt_eq]
    exact g1
