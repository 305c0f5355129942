/-! the class's sync -/
def frT2 (z z' : HH) : Prop := ∀ q, q < 8 ∨ 23 ≤ q → z' q = z q
theorem mgA_hi {h h' : HH} {x : T3} (a : ∀ q, 103 ≤ q → h' q = h q) (m : mgA h x) : mgA h' x := by
  obtain ⟨a1, a2, a3, a4, a5⟩ := m
  exact ⟨(avA_eq (a _ (by decide)) (a _ (by decide)) (a _ (by decide)) (a _ (by decide))).trans a1, clT_eq (a _ (by decide)) (a _ (by decide)) (a _ (by decide)) (a _ (by decide)) a2, by rw [a 103 (by decide)]; exact a3, a4, clA_fr (by rw [a 103 (by decide)]) (a _ (by decide)) (a _ (by decide)) a5⟩
theorem c41_a {s tot : Nat} {V : Nat → TV} {P : List PT} {x : T3} (hs : s < 3) (k34 : HH → Int32 → Option HH) {z : HH} (c0 : z 103 0 = nI 2) (c2 : ∀ u, u < 30 → z 104 u = b2i (igA V P u)) (m : mgA z x) {U : TV} (hU : avA z (2 + 6 + 5 * s) = U) (hc : clT z (2 + 6 + 5 * s)) (ht : x.2.1 = tot) (hmix : ∀ t, tot ≤ t → mixV V P x.1 U t = U t) : ∃ z', fX0_carryOut_b41 RA 103 k34 lpF z (nI s) 0 = k34 z' (nI (s + 1)) ∧ frT (2 + 6 + 5 * s) z z' ∧ avA z' (2 + 6 + 5 * s) = mixV V P x.1 U ∧ clT z' (2 + 6 + 5 * s) := by
  obtain ⟨r1, hT⟩ := isW_T (s := s) isW_2 hs
  obtain ⟨m1, m2, m3, m4, m5⟩ := m
  rw [ht] at m3 m4
  have key := loop_inv (L := fun k (z : HH) y => fX0_carryOut_b41 RA 103 k34 k z (nI s) y) (e := tot) (I := fun j z' => frT (2 + 6 + 5 * s) z z' ∧ (∀ t, avA z' (2 + 6 + 5 * s) t = if t < j then mixV V P x.1 U t else U t) ∧ clT z' (2 + 6 + 5 * s)) (g := fun z' => k34 z' (nI (s + 1))) (fun k t z' ht hI => by
    obtain ⟨I1, I2, I3⟩ := hI
    have t30 : t < 30 := by omega
    have e103 : z' 103 = z 103 := I1 103 (by omega) (by omega) (by omega) (by omega)
    have e104 : z' 104 = z 104 := I1 104 (by omega) (by omega) (by omega) (by omega)
    have hG : avA z' 108 = x.1 := (frT_av I1 (show 2 + 6 + 5 * s + 5 ≤ 108 ∨ 108 + 5 ≤ 2 + 6 + 5 * s by omega)).trans m1
    have hGc : clT z' 108 := frT_cl I1 (show 2 + 6 + 5 * s + 5 ≤ 108 ∨ 108 + 5 ≤ 2 + 6 + 5 * s by omega) m2
    show ∃ s', fX0_carryOut_b41 RA 103 k34 (k + 1) z' (nI s) (nI t) = fX0_carryOut_b41 RA 103 k34 k s' (nI s) (nI (t + 1)) ∧ _
    rw [fX0_carryOut_b41, e103, m3, if_neg (nI_ge ht (by omega)), G_1, Gl_104, gd_in t30 n30, ix_n (show t < 2 ^ 31 by omega), e104, c2 t t30, b2i_ifn]
    cases hig : igA V P t with
    | true =>
      refine ⟨z', ?_, I1, fun u => ?_, I3⟩
      · rw [if_pos rfl, fX0_carryOut_b75, n_p1]
      · rw [I2 u]
        by_cases e : u < t
        · rw [if_pos e, if_pos (by omega)]
        · rw [if_neg e]
          by_cases e2 : u = t
          · subst e2
            rw [if_pos (by omega)]
            unfold mixV
            rw [hig]
            rfl
          · rw [if_neg (by omega)]
    | false =>
      refine ⟨wr4 z' (2 + 6 + 5 * s) t (b2i (isIn x.1 t)) (vF x.1 t) (vN x.1 t) (vC x.1 t), ?_, frT_trans I1 frT_wr, fun u => ?_, clT_wrV I3⟩
      · rw [if_neg (show ¬ (false = true) by decide), c0, gwd_w (Or.inl rfl), isW_2.2.1, isW_2.2.2.2.2.2.2.1, gd_in hs (by decide), ix_n (show s < 2 ^ 31 by omega), r1, G_3, putAsIn_n hT isT_108 t30 (show 2 + 6 + 5 * s + 5 ≤ 108 ∨ 108 + 5 ≤ 2 + 6 + 5 * s by omega) hGc, hG, Option.bind_some, fX0_carryOut_b75, n_p1]
      · rw [avA_wrV t30]
        by_cases e2 : u = t
        · subst e2
          rw [upV_at, if_pos (by omega)]
          unfold mixV
          rw [hig]
          rfl
        · rw [upV_ne e2, I2 u]
          by_cases e : u < t
          · rw [if_pos e, if_pos (by omega)]
          · rw [if_neg e, if_neg (by omega)]) (fun k z' hI => by
    have e103 : z' 103 = z 103 := hI.1 103 (by omega) (by omega) (by omega) (by omega)
    show fX0_carryOut_b41 RA 103 k34 (k + 1) z' (nI s) (nI tot) = _
    rw [fX0_carryOut_b41, e103, m3, if_pos (nI_le (Nat.le_refl _) (by omega)), n_p1])
  obtain ⟨z', ⟨I1, I2, I3⟩, E⟩ := key lpF 0 z (by omega) (by rw [lpF_eq]; omega) ⟨frT_rfl, fun t => by rw [if_neg (by omega), hU], hc⟩
  have E : fX0_carryOut_b41 RA 103 k34 lpF z (nI s) (nI 0) = k34 z' (nI (s + 1)) := E
  rw [← l0] at E
  refine ⟨z', E, I1, ?_, I3⟩
  funext t
  rw [I2 t]
  by_cases e : t < tot
  · rw [if_pos e]
  · rw [if_neg e, hmix t (by omega)]
/-- one sweep over who is homeless -/
theorem swp_a {Q : Nat → Bool} {tot : Nat} (hm30 : tot ≤ 30) (k14 : HH → Nat → Int32 → Int32 → Option HH) {z : HH} {v : TV} (x3 : Int32) (h4 : z 103 4 = nI tot) (hv : avA z 18 = v) (hc : clT z 18) (hq : clQ Q v) (hm : ∀ t, tot ≤ t → Q t = true) : ∃ z', fX0_forgetHomeless_b29 RA 103 k14 lpF z 18 0 x3 0 = k14 z' 18 (b2i (sws v).2) (x3 + 1) ∧ frT 18 z z' ∧ avA z' 18 = (sws v).1 ∧ clT z' 18 := by
  obtain ⟨r1, hT⟩ := isW_T (s := 2) isW_2 (show 2 < 3 by decide)
  have hT : isT 18 := hT
  obtain ⟨t0, t1, t2, t3, n0, n1, n2, n3⟩ := hT
  obtain ⟨⟨z', b⟩, ⟨q1, q2, q3, q4⟩, E⟩ := loop_rel (L := fun k (s : HH × Int32) y => fX0_forgetHomeless_b29 RA 103 k14 k s.1 18 s.2 x3 y) (e := tot) (f := swt) (R := fun _ s x => s.2 = b2i x.2 ∧ frT 18 z s.1 ∧ avA s.1 18 = x.1 ∧ clT s.1 18) (g := fun s => k14 s.1 18 s.2 (x3 + 1)) (fun k t s x ht hR => by
    obtain ⟨y, b⟩ := s
    obtain ⟨u, fl⟩ := x
    obtain ⟨R1, R2, R3, R4⟩ := hR
    have R1 : b = b2i fl := R1
    have R2 : frT 18 z y := R2
    have R3 : avA y 18 = u := R3
    have R4 : clT y 18 := R4
    subst R1
    have t30 : t < 30 := by omega
    have e103 : y 103 = z 103 := R2 103 (by decide) (by decide) (by decide) (by decide)
    have rF : y (18 + 2) t = vF u t := by
      have q := (cl_rows R4 t30).2.1
      rw [R3] at q
      exact q
    have hT : isT 18 := ⟨t0, t1, t2, t3, n0, n1, n2, n3⟩
    have t1' : RA 18 1 = 18 + 2 := t1
    have n1' : lnA (18 + 2) = 30 := n1
    show ∃ s' : HH × Int32, fX0_forgetHomeless_b29 RA 103 k14 (k + 1) y 18 (b2i fl) x3 (nI t) = fX0_forgetHomeless_b29 RA 103 k14 k s'.1 18 s'.2 x3 (nI (t + 1)) ∧ _
    have stay : hmB u t = false → (∃ s' : HH × Int32, fX0_forgetHomeless_b29 RA 103 k14 k y 18 (b2i fl) x3 (nI (t + 1)) = fX0_forgetHomeless_b29 RA 103 k14 k s'.1 18 s'.2 x3 (nI (t + 1)) ∧ s'.2 = b2i (swt t (u, fl)).2 ∧ frT 18 z s'.1 ∧ avA s'.1 18 = (swt t (u, fl)).1 ∧ clT s'.1 18) := fun hno => by
      rw [swt_no (x := (u, fl)) hno]
      exact ⟨(y, b2i fl), rfl, rfl, R2, R3, R4⟩
    rw [fX0_forgetHomeless_b29, e103, h4, if_neg (nI_ge ht (by omega)), has_n hT t30, Option.bind_some, R3, b2i_if]
    simp only [fX0_forgetHomeless_b80, n_p1]
    cases hin : isIn u t with
    | false =>
      rw [if_neg (show ¬ (false = true) by decide)]
      exact stay (by unfold hmB; rw [hin]; rfl)
    | true =>
      rw [if_pos rfl, t1', n1', gd_in t30 n30, ix_n (show t < 2 ^ 31 by omega), rF]
      by_cases e1 : vF u t = -1
      · rw [if_pos e1]
        exact stay (by unfold hmB; rw [decide_eq_true e1]; simp)
      · rw [if_neg e1, gd_in t30 n30, has_a hT, Option.bind_some, R3, b2i_ifn]
        cases hb : (!(decide (vF u t < 0)) && isIn u (ix (vF u t))) with
        | true =>
          rw [if_pos rfl]
          exact stay (by unfold hmB; rw [hb]; simp)
        | false =>
          have hyes : hmB u t = true := by unfold hmB; rw [hin, hb, decide_eq_false e1]; rfl
          rw [if_neg (show ¬ (false = true) by decide), takeOut_n hT t30, Option.bind_some, swt_yes (x := (u, fl)) hyes]
          refine ⟨(wr4 y 18 t 0 (-1) (-1) (-1), 1), rfl, rfl, frT_trans R2 frT_wr, ?_, clT_wr0 R4⟩
          rw [avA_wr0, R3]) (fun k s x hR => by
    have e103 : s.1 103 = z 103 := hR.2.1 103 (by decide) (by decide) (by decide) (by decide)
    show fX0_forgetHomeless_b29 RA 103 k14 (k + 1) s.1 18 s.2 x3 (nI tot) = _
    rw [fX0_forgetHomeless_b29, e103, h4, if_pos (nI_le (Nat.le_refl _) (by omega))]) lpF (z, 0) (v, false) (by rw [lpF_eq]; omega) ⟨rfl, frT_rfl, hv, hc⟩
  have E : fX0_forgetHomeless_b29 RA 103 k14 lpF z 18 0 x3 (nI 0) = k14 z' 18 b (x3 + 1) := E
  rw [sws_m hm30 hq hm] at q1 q3
  have q1 : b = b2i (sws v).2 := q1
  rw [← l0] at E
  exact ⟨z', by rw [E, q1], q2, q3, q4⟩
theorem rounds_a {Q : Nat → Bool} {tot : Nat} (hm30 : tot ≤ 30) (hm : ∀ t, tot ≤ t → Q t = true) : ∀ (r k j : Nat) (z : HH) (v : TV) (b : Bool), j + r = 30 → r < k → z 103 4 = nI tot → avA z 18 = v → clT z 18 → clQ Q v → (b = false → swn r v = v) → ∃ z', fX0_forgetHomeless_b14 RA 103 k z 18 (b2i b) (nI j) = some z' ∧ frT 18 z z' ∧ avA z' 18 = swn r v ∧ clT z' 18 := by
  intro r
  induction r with
  | zero =>
    intro k j z v b hj hk h4 hv hc hq hb
    obtain ⟨k, rfl⟩ : ∃ m, k = m + 1 := ⟨k - 1, by omega⟩
    refine ⟨z, ?_, frT_rfl, hv, hc⟩
    rw [fX0_forgetHomeless_b14, if_pos ((le30 (by omega)).mpr (by omega))]
  | succ r ih =>
    intro k j z v b hj hk h4 hv hc hq hb
    obtain ⟨k, rfl⟩ : ∃ m, k = m + 1 := ⟨k - 1, by omega⟩
    rw [fX0_forgetHomeless_b14, if_neg (fun z => by have := (le30 (by omega)).mp z; omega), b2i_if]
    cases b with
    | false =>
      rw [if_neg (show ¬ (false = true) by decide), hb rfl]
      exact ⟨z, rfl, frT_rfl, hv, hc⟩
    | true =>
      rw [if_pos rfl]
      obtain ⟨z1, e1, f1, g1, g2⟩ := swp_a hm30 (fun h_ z1_ z2_ z3_ => fX0_forgetHomeless_b14 RA 103 k h_ z1_ z2_ z3_) (nI j) h4 hv hc hq hm
      have e9 : z1 103 = z 103 := f1 103 (by decide) (by decide) (by decide) (by decide)
      obtain ⟨z2, e2, f2, g3, g4⟩ := ih k (j + 1) z1 (sws v).1 (sws v).2 (by omega) (by omega) (by rw [e9]; exact h4) g1 g2 (sws_keep hq).2 (fun hf => by
        rw [(sws_no hf).1]
        exact swn_fix hf r)
      refine ⟨z2, ?_, frT_trans f1 f2, g3, g4⟩
      rw [e1, n_p1]
      exact e2
theorem frT_2 {s : Nat} {z z' : HH} (hs : s < 3) (a : frT (2 + 6 + 5 * s) z z') : frT2 z z' := fun q e => a q (by omega) (by omega) (by omega) (by omega)
theorem carryOut_a {h : HH} {n first : Nat} {F : Nat → Bool} {V : Nat → TV} {P : List PT} {pr c0 c1 c2 : Int32} {x : T3} (hw : wA h 2 (n, F, V, P, pr, c0, c1, c2)) (hwf : ∀ s, s < 3 → wfT n F (V s)) (c : ctxA h 2 n V P first) (m : mgA h x) (ok : tgOK V P n F x) : ∃ h', fX0_carryOut h RA 103 = some h' ∧ frW 2 h h' ∧ wA h' 2 (x.2.1, fNew F n, syV V P x.1, P, pr, c0, c1, c2) := by
  have hn : n ≤ 30 := hw.1
  have m4 : x.2.1 ≤ 30 := ok.2.1
  have hle : n ≤ x.2.1 := ok.1
  have e21 : RA 2 1 = 3 := isW_2.1
  have l3 : lnA 3 = 30 := isW_2.2.2.2.2.2.1
  have m3 : h 103 4 = nI x.2.1 := m.2.2.1
  have c00 : h 103 0 = nI 2 := c.1.1
  have hmix : ∀ (U : TV), wfT n F U → ∀ t, x.2.1 ≤ t → mixV V P x.1 U t = U t := fun U hU t ht => by
    unfold mixV
    cases e : igA V P t with
    | true => rfl
    | false =>
      have h1 : isIn x.1 t = false := by rw [ok.2.2.2.1 t (by omega)]; exact decide_eq_false (by omega)
      have h2 : isIn U t = false := by
        cases e2 : isIn U t with
        | false => rfl
        | true => have := (hU t e2).1; omega
      have z1 : x.1 t = none := by
        unfold isIn at h1
        cases e3 : x.1 t with
        | none => rfl
        | some y => rw [e3] at h1; cases h1
      have z2 : U t = none := by
        unfold isIn at h2
        cases e3 : U t with
        | none => rfl
        | some y => rw [e3] at h2; cases h2
      rw [if_neg (show ¬ (false = true) by decide), z1, z2]
  have key := loop_inv (L := fX0_carryOut_b8 RA 103) (e := x.2.1) (I := fun j z => n ≤ j ∧ (∀ q, q ≠ 3 → z q = h q) ∧ ∀ t, z 3 t = if n ≤ t ∧ t < j then 0 else h 3 t) (g := fun z => fX0_carryOut_b34 RA 103 lpF z 0) (fun k t z ht hI => by
    obtain ⟨I0, I1, I2⟩ := hI
    refine ⟨up z 3 t 0, ?_, by omega, fun q hq => (up_ne hq).trans (I1 q hq), fun u => ?_⟩
    · rw [fX0_carryOut_b8, I1 103 (by decide), m3, if_neg (nI_ge ht (by omega)), c00, gwd_w (Or.inl rfl), e21, l3, gd_in (show t < 30 by omega) n30, ix_n (show t < 2 ^ 31 by omega), lt_eq, zn_0, n_p1]
    · rw [up_at]
      by_cases e : u = t
      · rw [if_pos e, if_pos (by omega)]
      · rw [if_neg e, I2 u]
        by_cases e2 : n ≤ u ∧ u < t
        · rw [if_pos e2, if_pos (by omega)]
        · rw [if_neg e2, if_neg (by omega)]) (fun k z hI => by
    rw [fX0_carryOut_b8, hI.2.1 103 (by decide), m3, if_pos (nI_le (Nat.le_refl _) (by omega))])
  obtain ⟨h1, ⟨-, A1, A2⟩, E1⟩ := key lpF n h hle (by rw [lpF_eq]; omega) ⟨Nat.le_refl n, fun _ _ => rfl, fun t => by rw [if_neg (by omega)]⟩
  have tr1 : ∀ s, s < 3 → avA h1 (2 + 6 + 5 * s) = V s ∧ clT h1 (2 + 6 + 5 * s) := trs_eq (fun q q1 q2 => A1 q (by omega)) hw.2.2.2.2.1
  have key2 := loop_inv (L := fX0_carryOut_b34 RA 103) (e := 3) (I := fun s z => (∀ q, q < 8 ∨ 23 ≤ q → z q = h1 q) ∧ ∀ s', s' < 3 → avA z (2 + 6 + 5 * s') = (if s' < s then mixV V P x.1 (V s') else V s') ∧ clT z (2 + 6 + 5 * s')) (g := fun z => (fX0_forgetHomeless (up z 2 0 (nI x.2.1)) RA 103).bind (fun h99 => some h99)) (fun k s z hs hI => by
    obtain ⟨I1, I2⟩ := hI
    obtain ⟨j1, j2⟩ := I2 s hs
    rw [if_neg (by omega)] at j1
    have e103 : z 103 = h 103 := by rw [I1 103 (by omega), A1 103 (by decide)]
    have e104 : z 104 = h 104 := by rw [I1 104 (by omega), A1 104 (by decide)]
    obtain ⟨z', k1, k2, k3, k4⟩ := c41_a (V := V) (P := P) hs (fun h_ z1_ => fX0_carryOut_b34 RA 103 k h_ z1_) (z := z) (x := x) (tot := x.2.1) (by rw [e103]; exact c00) (fun u hu => by rw [e104]; exact c.2.1.1 u hu) (mgA_hi (fun q hq => by rw [I1 q (by omega), A1 q (by omega)]) m) j1 j2 rfl (hmix (V s) (hwf s hs))
    refine ⟨z', ?_, fun q hq => (frT_2 hs k2 q hq).trans (I1 q hq), fun s' hs' => ?_⟩
    · rw [fX0_carryOut_b34, if_neg (i3c hs), k1]
    · by_cases es : s' = s
      · subst es
        rw [if_pos (by omega)]
        exact ⟨k3, k4⟩
      · obtain ⟨y1, y2⟩ := I2 s' hs'
        refine ⟨(frT_av k2 (by omega)).trans (y1.trans ?_), frT_cl k2 (by omega) y2⟩
        by_cases e : s' < s
        · rw [if_pos e, if_pos (by omega)]
        · rw [if_neg e, if_neg (by omega)]) (fun k z hI => by
    have e103 : z 103 = h 103 := by rw [hI.1 103 (by omega), A1 103 (by decide)]
    rw [fX0_carryOut_b34, if_pos (show (3 : Int32) ≤ nI 3 by decide), e103, c00, gwd_w (Or.inl rfl), m3, lt_eq])
  obtain ⟨h2, ⟨B1, B2⟩, E2⟩ := key2 lpF 0 h1 (by omega) (by rw [lpF_eq]; omega) ⟨fun _ _ => rfl, fun s hs => by rw [if_neg (by omega)]; exact tr1 s hs⟩
  have b18 := B2 2 (by decide)
  rw [if_pos (show 2 < 3 by decide)] at b18
  have b18 : avA h2 18 = mixV V P x.1 (V 2) ∧ clT h2 18 := b18
  have g2 : ∀ q, q ≠ 2 → up h2 2 0 (nI x.2.1) q = h2 q := fun q hq => up_ne hq
  have e103 : up h2 2 0 (nI x.2.1) 103 = h 103 := by rw [g2 103 (by decide), B1 103 (by omega), A1 103 (by decide)]
  obtain ⟨h3, e3, f3, g3, k3⟩ := rounds_a (Q := nigB V P) (tot := x.2.1) m4 (fun t ht => by
    unfold nigB
    cases e : igA V P t with
    | false => rfl
    | true => have := igA_lt hwf e; omega) 30 lpF 0 (up h2 2 0 (nI x.2.1)) (mixV V P x.1 (V 2)) true rfl (by rw [lpF_eq]; omega) (by rw [e103]; exact m3) ((avA_eq (g2 _ (by decide)) (g2 _ (by decide)) (g2 _ (by decide)) (g2 _ (by decide))).trans b18.1) (clT_eq (g2 _ (by decide)) (g2 _ (by decide)) (g2 _ (by decide)) (g2 _ (by decide)) b18.2) (mix_cl hn hwf ok) (fun z => by cases z)
  have i2 : inb 2 3 = true := by decide
  have r4 : RA 4 2 = 18 := (isW_T (s := 2) isW_2 (by decide)).1
  have w22 : RA 2 2 = 4 := isW_2.2.1
  have l4 : lnA 4 = 3 := isW_2.2.2.2.2.2.2.1
  have E3 : fX0_forgetHomeless (up h2 2 0 (nI x.2.1)) RA 103 = some h3 := by
    unfold fX0_forgetHomeless
    rw [e103, c00, gwd_w (Or.inl rfl), w22, l4, gd_t i2, ix_2, r4, l0]
    exact e3
  have lo : ∀ q, q ≠ 2 → q ≠ 3 → q < 8 ∨ 23 ≤ q → h3 q = h q := fun q q1 q2 q3 => by rw [f3 q (by omega) (by omega) (by omega) (by omega), g2 q q1, B1 q q3, A1 q q2]
  have r3 : ∀ t, h3 3 t = if n ≤ t ∧ t < x.2.1 then 0 else h 3 t := fun t => by rw [f3 3 (by decide) (by decide) (by decide) (by decide), g2 3 (by decide), B1 3 (by omega)]; exact A2 t
  have r2 : ∀ j, j ≠ 0 → h3 2 j = h 2 j := fun j hj => by rw [f3 2 (by decide) (by decide) (by decide) (by decide), up_at, if_neg hj, B1 2 (by omega), A1 2 (by decide)]
  obtain ⟨a1, a2, a3, a4, a5, a6, a7, a8, a9, b1, b2, b3, b4⟩ := hw
  refine ⟨h3, ?_, fun q hq => lo q (by omega) (by omega) (by omega), m4, ?_, fun t ht => ?_, fun t ht => ?_, fun s hs => ?_, a6, by rw [r2 4 (by decide)]; exact a7, pas_eq (fun q h1 h2 => lo q (by omega) (by omega) (by omega)) a6 a8, fun i hi => by rw [lo _ (by omega) (by omega) (by omega)]; exact a9 i hi, by rw [r2 5 (by decide)]; exact b1, by rw [r2 6 (by decide)]; exact b2, by rw [r2 7 (by decide)]; exact b3, by rw [r2 8 (by decide)]; exact b4⟩
  · unfold fX0_carryOut
    have E2 : fX0_carryOut_b34 RA 103 lpF h1 (nI 0) = (fX0_forgetHomeless (up h2 2 0 (nI x.2.1)) RA 103).bind (fun h99 => some h99) := E2
    rw [c00, gwd_w (Or.inl rfl), a2, lt_eq, E1, l0, E2, E3]
    rfl
  · rw [f3 2 (by decide) (by decide) (by decide) (by decide), up_same]
  · show h3 3 t = 0 ∨ h3 3 t = 1
    rw [r3 t]
    split
    · exact Or.inl rfl
    · exact a3 t ht
  · show h3 3 t = b2i (fNew F n t)
    rw [r3 t]
    unfold fNew
    by_cases e : t < n
    · rw [if_neg (by omega), decide_eq_true e, Bool.true_and]
      exact a4 t e
    · rw [if_pos (by omega), decide_eq_false e, Bool.false_and]
      rfl
  · unfold syV
    by_cases e : s = 2
    · subst e
      rw [if_pos rfl]
      exact ⟨g3, k3⟩
    · rw [if_neg e]
      obtain ⟨y1, y2⟩ := B2 s hs
      rw [if_pos hs] at y1
      have y3 := frT_av f3 (G := 2 + 6 + 5 * s) (by omega)
      have y4 := frT_cl f3 (G := 2 + 6 + 5 * s) (by omega)
      have q4 : avA (up h2 2 0 (nI x.2.1)) (2 + 6 + 5 * s) = avA h2 (2 + 6 + 5 * s) := avA_eq (g2 _ (by omega)) (g2 _ (by omega)) (g2 _ (by omega)) (g2 _ (by omega))
      exact ⟨y3.trans (q4.trans y1), y4 (clT_eq (g2 _ (by omega)) (g2 _ (by omega)) (g2 _ (by omega)) (g2 _ (by omega)) y2)⟩
