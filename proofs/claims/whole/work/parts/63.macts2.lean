/-! write, move, remove on the reference -/
theorem av_contM {h : HH} {s t : Nat} {c : Int32} (hs : s < 3) (e : isIn (avM h s) t = true) : ∀ s', s' < 3 → avM (up h (16 + s) t c) s' = upT (avM h) s (upV (avM h s) t (some (vF (avM h s) t, vN (avM h s) t, c))) s' := by
  intro s' hs'
  have ht := isInM_lt e
  obtain ⟨r1, r2, r3, r4⟩ := isInM_row e
  unfold upT
  by_cases es : s' = s
  · subst es
    rw [if_pos rfl]
    funext j
    unfold upV
    by_cases ej : j = t
    · subst ej
      rw [if_pos rfl, avM_in ht, up_ne (by omega), if_neg r1, up_ne (by omega), up_ne (by omega), up_same, ← r2, ← r3]
    · rw [if_neg ej]
      unfold avM
      rw [up_ne (show 4 + s' ≠ 16 + s' by omega), up_ne (show 8 + s' ≠ 16 + s' by omega), up_ne (show 12 + s' ≠ 16 + s' by omega), up_at, if_neg ej]
  · rw [if_neg es]
    exact avM_eq (up_ne (by omega)) (up_ne (by omega)) (up_ne (by omega)) (up_ne (by omega))
theorem av_placeM {h : HH} {s t : Nat} {f n : Int32} (hs : s < 3) (e : isIn (avM h s) t = true) : ∀ s', s' < 3 → avM (up (up h (8 + s) t f) (12 + s) t n) s' = upT (avM h) s (upV (avM h s) t (some (f, n, vC (avM h s) t))) s' := by
  intro s' hs'
  have ht := isInM_lt e
  obtain ⟨r1, r2, r3, r4⟩ := isInM_row e
  unfold upT
  by_cases es : s' = s
  · subst es
    rw [if_pos rfl]
    funext j
    unfold upV
    by_cases ej : j = t
    · subst ej
      rw [if_pos rfl, avM_in ht, up_ne (show 4 + s' ≠ 12 + s' by omega), up_ne (show 4 + s' ≠ 8 + s' by omega), if_neg r1, up_ne (show 8 + s' ≠ 12 + s' by omega), up_same, up_same, up_ne (show 16 + s' ≠ 12 + s' by omega), up_ne (show 16 + s' ≠ 8 + s' by omega), ← r4]
    · rw [if_neg ej]
      unfold avM
      rw [up_ne (show 4 + s' ≠ 12 + s' by omega), up_ne (show 4 + s' ≠ 8 + s' by omega), up_ne (show 8 + s' ≠ 12 + s' by omega), up_at, if_neg ej, up_at, if_neg ej, up_ne (show 12 + s' ≠ 8 + s' by omega), up_ne (show 16 + s' ≠ 12 + s' by omega), up_ne (show 16 + s' ≠ 8 + s' by omega)]
  · rw [if_neg es]
    exact avM_eq (by rw [up_ne (by omega), up_ne (by omega)]) (by rw [up_ne (by omega), up_ne (by omega)]) (by rw [up_ne (by omega), up_ne (by omega)]) (by rw [up_ne (by omega), up_ne (by omega)])
/-- only rows of the trees -/
theorem wM_tr {h h1 : HH} {n : Nat} {F : Nat → Bool} {V V' : Nat → TV} {P : List PT} {pr c0 c1 c2 : Int32} (e : ∀ q, q < 4 ∨ 20 ≤ q → h1 q = h q) (ev : ∀ s, s < 3 → avM h1 s = V' s) (eb : bM h → bM h1) (hw : wM h (n, F, V, P, pr, c0, c1, c2)) : wM h1 (n, F, V', P, pr, c0, c1, c2) := by
  obtain ⟨a1, a2, a3, a4, a5, a6, a7, b1, b2, b3, b4, b5⟩ := hw
  have e1 := e 1 (by omega)
  exact ⟨a1, by rw [e1]; exact a2, fun t ht => by rw [e 2 (by omega)]; exact a3 t ht, ev, a5, by rw [e1]; exact a6, fun i y hi => patM_eq (e _ (by omega)) (e _ (by omega)) (e _ (by omega)) (a7 i y hi), by rw [e1]; exact b1, by rw [e1]; exact b2, by rw [e1]; exact b3, by rw [e1]; exact b4, eb b5⟩
theorem upT_congr {V W : Nat → TV} {s : Nat} {v w : TV} (hs : s < 3) (e : ∀ s', s' < 3 → V s' = W s') (ev : v = w) : ∀ s', s' < 3 → upT V s v s' = upT W s w s' := by
  intro s' hs'
  unfold upT
  rw [ev, e s' hs']
theorem write_m {h : HH} {x : WS} (hw : wM h x) (s t v : Int32) : ∃ h', fX8_write h RM 1 s t v = some ((wtS x s t v).1, h') ∧ wM h' (wtS x s t v).2 ∧ frM h h' := by
  have hw0 := hw
  obtain ⟨n, F, V, P, pr, c0, c1, c2⟩ := x
  obtain ⟨a1, a2, a3, a4, a5, a6, a7, b1, b2, b3, b4, b5⟩ := hw
  have bd : ∀ a b c, wM (rfM h a b c) (n, F, V, P, pr, a, b, c) := fun a b c => wM_rf hw0
  have bad : ∃ h', fX8_write_b26 RM 1 s t v h = some (-2, h') ∧ wM h' (n, F, V, P, pr, -2, -1, 0) ∧ frM h h' := ⟨_, rfl, bd _ _ _, frM_rf⟩
  unfold fX8_write wtS
  simp only [isSide_m, isThing_m a1 a2, in_m, Option.bind_some, b2i_if, b2i_ifn, vaB_eq]
  cases hs : siB s with
  | false => simpa [hs] using bad
  | true =>
  cases hp : thB n t with
  | false => simpa [hs, hp] using bad
  | true =>
  cases gc : vaB v with
  | false => simpa [hs, hp, gc] using bad
  | true =>
  obtain ⟨i, hi, rfl⟩ := siB_n hs
  obtain ⟨k, hk, rfl⟩ := thB_n a1 hp
  have u1 := a4 i (by omega)
  simp only [Bool.and_self, if_true, M_2, M_3, M_6, ln_2, ln_3, ln_15, gd_in (show i < 3 by omega) (show 3 < 2 ^ 31 by decide), ix_n (show i < 2 ^ 31 by omega), R_3 i (by omega), R_15 i (by omega), L_3 i (by omega), L_15 i (by omega), gd_in (show k < 30 by omega) n30, ix_n (show k < 2 ^ 31 by omega), inM_ifn (show k < 30 by omega), u1, a3 k hk, b2i_if]
  cases hc : isIn (V i) k with
  | false => exact ⟨_, rfl, bd _ _ _, frM_rf⟩
  | true =>
  have hc2 : isIn (avM h i) k = true := by rw [u1]; exact hc
  rw [if_pos rfl]
  cases hF : F k with
  | true => exact ⟨_, rfl, bd _ _ _, frM_rf⟩
  | false =>
  rw [ifF rfl, if_pos rfl, ifF rfl]
  simp only [lt_eq, done_m, bi2_eq]
  refine ⟨_, by rw [(isInM_row hc2).2.2.2, u1], ?_, frM_trans ⟨fun q hq => up_ne (by omega), fun j _ _ _ _ => by rw [up_ne (by omega)]⟩ frM_rf⟩
  refine wM_rf (wM_tr (fun q hq => up_ne (by omega)) (fun s' hs' => (av_contM (by omega) hc2 s' hs').trans ?_) (fun z => bM_n (by omega) z) hw0)
  exact upT_congr (by omega) (fun s' h' => a4 s' h') (by rw [u1]) s' hs'
theorem move_m {h : HH} {x : WS} (hw : wM h x) (hW : allW x) (s t f nm : Int32) : ∃ h', fX8_move h RM 1 s t f nm = some ((mvS x s t f nm).1, h') ∧ wM h' (mvS x s t f nm).2 ∧ frM h h' := by
  have hw0 := hw
  have hN := allW_N hW
  obtain ⟨n, F, V, P, pr, c0, c1, c2⟩ := x
  obtain ⟨a1, a2, a3, a4, a5, a6, a7, b1, b2, b3, b4, b5⟩ := hw
  have bd : ∀ a b c, wM (rfM h a b c) (n, F, V, P, pr, a, b, c) := fun a b c => wM_rf hw0
  have bad : ∃ h', fX8_move_b36 RM 1 s t f nm h = some (-2, h') ∧ wM h' (n, F, V, P, pr, -2, -1, 0) ∧ frM h h' := ⟨_, rfl, bd _ _ _, frM_rf⟩
  have e28 : fX8_move h RM 1 s t f nm = if (siB s && thB n t && plB n f) = true then fX8_move_b28 RM 1 s t f nm h else fX8_move_b36 RM 1 s t f nm h := by
    unfold fX8_move plB
    simp only [isSide_m, isThing_m a1 a2, Option.bind_some, b2i_if]
    cases siB s <;> cases thB n t <;> by_cases g : f = -1 <;> cases thB n f <;> simp [g]
  rw [e28]
  unfold mvS
  cases hs : siB s with
  | false => simpa [hs] using bad
  | true =>
  cases hp : thB n t with
  | false => simpa [hs, hp] using bad
  | true =>
  cases hq : plB n f with
  | false => simpa [hs, hp, hq] using bad
  | true =>
  rw [if_pos (show (true && true && true) = true from rfl)]
  unfold fX8_move_b28
  simp only [isName_m, Option.bind_some, b2i_ifn, hs, hp, hq]
  cases hm : naB nm with
  | false => simpa [hs, hp, hq, hm] using bad
  | true =>
  obtain ⟨i, hi, rfl⟩ := siB_n hs
  obtain ⟨k, hk, rfl⟩ := thB_n a1 hp
  have u1 := a4 i (by omega)
  simp only [Bool.and_self, if_true, M_3, ln_3, gd_in (show i < 3 by omega) (show 3 < 2 ^ 31 by decide), ix_n (show i < 2 ^ 31 by omega), R_3 i (by omega), L_3 i (by omega), gd_in (show k < 30 by omega) n30, ix_n (show k < 2 ^ 31 by omega), inM_ifn (show k < 30 by omega), u1]
  cases hc : isIn (V i) k with
  | false => exact ⟨_, rfl, bd _ _ _, frM_rf⟩
  | true =>
  have hc2 : isIn (avM h i) k = true := by rw [u1]; exact hc
  rw [if_pos rfl, isFolderOn_m (by omega) a1 a2 a3 (by rw [u1]; exact hN i (by omega)), Option.bind_some, b2i_ifn, u1]
  cases hd : chB F (V i) f with
  | false => exact ⟨_, rfl, bd _ _ _, frM_rf⟩
  | true =>
  rw [if_pos rfl]
  have e99 : (if ¬ f = -1 then (fX8_deepIn h RM 1 (nI i) f (nI k)).bind (fun v96 => fX8_move_b99 RM 1 (nI i) (nI k) f nm h v96) else fX8_move_b99 RM 1 (nI i) (nI k) f nm h (-1)) = fX8_move_b99 RM 1 (nI i) (nI k) f nm h (oI (suS (V i) (nI k) 31 f)) := by
    by_cases g : f = -1
    · rw [if_neg (fun z => z g), g, suS_m1]
      rfl
    · have hf : ∃ j, j < 30 ∧ f = nI j ∧ isIn (V i) j = true := by
        unfold chB at hd
        simp only [g, decide_false, Bool.false_or, Bool.and_eq_true, Bool.not_eq_true', decide_eq_false_iff_not] at hd
        obtain ⟨j, hj, rfl⟩ := nI_of hd.1.1
        rw [ix_n hj] at hd
        have := hN i (by omega) j hd.1.2
        exact ⟨j, by omega, rfl, hd.1.2⟩
      obtain ⟨j, hj, rfl, hin⟩ := hf
      have q3 := (hW i (by omega) j hin).2.2
      rw [if_pos g, deepIn_m (k := 30) (by omega) (Or.inr ⟨j, hj, rfl, by rw [u1]; exact hin, by rw [u1]; exact q3⟩) (by omega), Option.bind_some, u1]
  rw [e99]
  unfold fX8_move_b99
  cases hu : suS (V i) (nI k) 31 f with
  | some d =>
    have := suS_lt hu
    rw [if_neg (oI_ne (by omega))]
    exact ⟨_, rfl, bd _ _ _, frM_rf⟩
  | none =>
  rw [if_pos (show oI none = -1 from rfl), found_m (by omega) a1 a2 (by rw [u1]; exact hN i (by omega)), Option.bind_some, u1]
  have go : ∃ h', fX8_move_b149 RM 1 (nI i) (nI k) f nm h = some (1, h') ∧ wM h' (n, F, upT V i (upV (V i) k (some (f, nm, vC (V i) k))), P, pr, 0, -1, 0) ∧ frM h h' := by
    unfold fX8_move_b149
    simp only [M_4, M_5, ln_7, ln_11, gd_in (show i < 3 by omega) (show 3 < 2 ^ 31 by decide), ix_n (show i < 2 ^ 31 by omega), R_7 i (by omega), R_11 i (by omega), L_7 i (by omega), L_11 i (by omega), gd_in (show k < 30 by omega) n30, ix_n (show k < 2 ^ 31 by omega), lt_eq, done_m, bi2_eq]
    refine ⟨_, rfl, ?_, frM_trans ⟨fun q hq => by rw [up_ne (by omega), up_ne (by omega)], fun j _ _ _ _ => by rw [up_ne (by omega), up_ne (by omega)]⟩ frM_rf⟩
    refine wM_rf (wM_tr (fun q hq => by rw [up_ne (by omega), up_ne (by omega)]) (fun s' hs' => (av_placeM (by omega) hc2 s' hs').trans ?_) (fun z => bM_n (by omega) (bM_n (by omega) z)) hw0)
    exact upT_congr (by omega) (fun s' h' => a4 s' h') (by rw [u1]) s' hs'
  cases hf : fnd (fun t => isAtS (V i) t f nm) 0 30 with
  | none =>
    rw [if_pos (show oI none = -1 from rfl)]
    exact go
  | some u =>
    have hu2 := fnd_lt hf
    rw [if_neg (oI_ne (by omega))]
    by_cases e : nI u = nI k
    · rw [if_pos (show oI (some u) = nI k from e), if_pos (show (some u).all (fun j => decide (nI j = nI k)) = true from decide_eq_true e)]
      exact go
    · rw [if_neg (show ¬ oI (some u) = nI k from e), if_neg (show ¬ (some u).all (fun j => decide (nI j = nI k)) = true from fun z => e (of_decide_eq_true z))]
      exact ⟨_, rfl, bd _ _ _, frM_rf⟩
/-! remove -/
theorem cnt_succ (P : Nat → Bool) (e : Nat) : cnt P (e + 1) = if P e = true then cnt P e + 1 else cnt P e := by
  unfold cnt
  rw [fld_succ, Nat.zero_add]
theorem cnt_or {Q : Nat → Bool} {k : Nat} (hk : Q k = false) : ∀ e, cnt (fun t => decide (nI t = nI k) || Q t) e = if k < e ∧ e < 2 ^ 31 ∧ k < 2 ^ 31 then cnt Q e + 1 else cnt (fun t => decide (nI t = nI k) || Q t) e := by
  intro e
  induction e with
  | zero => simp
  | succ e ih =>
    by_cases hc : k < e + 1 ∧ e + 1 < 2 ^ 31 ∧ k < 2 ^ 31
    · rw [if_pos hc, cnt_succ, cnt_succ]
      by_cases ek : e = k
      · subst ek
        have e0 : cnt (fun t => decide (nI t = nI e) || Q t) e = cnt Q e := cnt_congr (fun j hj => by
          have : ¬ nI j = nI e := n_ne (by omega) (by omega) (by omega)
          simp [this])
        rw [e0]
        simp [hk]
      · have : ¬ nI e = nI k := n_ne (by omega) (by omega) ek
        rw [if_pos (show k < e ∧ e < 2 ^ 31 ∧ k < 2 ^ 31 by omega)] at ih
        rw [ih]
        simp only [this, decide_false, Bool.false_or]
        split <;> rfl
    · rw [if_neg hc]
theorem inS_out {n : Nat} {v : TV} (hN : inN n v) (a : Int32) {t : Nat} (ht : n ≤ t) : inS v t a = false := by
  unfold inS
  cases e : v t with
  | none => rfl
  | some x =>
    have := hN t (by unfold isIn; rw [e]; rfl)
    omega
/-- the count of the reference, from 1 on -/
theorem fld_from (P : Nat → Bool) : ∀ e, fld (fun i s => if P i then s + 1 else s) 0 e (1 : Int32) = cnt P e + 1 := by
  intro e
  induction e with
  | zero => rfl
  | succ e ih =>
    rw [fld_succ, ih, cnt_succ, Nat.zero_add]
    split <;> rfl
theorem inS_self {n k : Nat} {F : Nat → Bool} {v : TV} (hw : wfT n F v) (hk : k < 30) : inS v k (nI k) = false := by
  unfold inS
  cases e : v k with
  | none => rfl
  | some x =>
    obtain ⟨a, b, c⟩ := x
    have hin : isIn v k = true := by unfold isIn; rw [e]; rfl
    have hf : vF v k = a := by unfold vF; rw [e]
    have := noRing hk (K := 31) 29 (hw k hin).2.2
    rw [hf] at this
    show (suS v (nI k) 31 a).isSome = false
    rw [this]
    rfl
theorem remove_m {h : HH} {x : WS} (hw : wM h x) (hW : allW x) (s t : Int32) : ∃ h', fX8_remove h RM 1 s t = some ((rmS x s t).1, h') ∧ wM h' (rmS x s t).2 ∧ frM h h' := by
  have hw0 := hw
  have hN := allW_N hW
  obtain ⟨n, F, V, P, pr, c0, c1, c2⟩ := x
  obtain ⟨a1, a2, a3, a4, a5, a6, a7, b1, b2, b3, b4, b5⟩ := hw
  have bd : ∀ a b c, wM (rfM h a b c) (n, F, V, P, pr, a, b, c) := fun a b c => wM_rf hw0
  have bad : ∃ h', fX8_remove_b15 RM 1 s t h = some (-2, h') ∧ wM h' (n, F, V, P, pr, -2, -1, 0) ∧ frM h h' := ⟨_, rfl, bd _ _ _, frM_rf⟩
  unfold fX8_remove rmS
  simp only [isSide_m, isThing_m a1 a2, Option.bind_some, b2i_if, b2i_ifn]
  cases hs : siB s with
  | false => simpa [hs] using bad
  | true =>
  cases hp : thB n t with
  | false => simpa [hs, hp] using bad
  | true =>
  obtain ⟨i, hi, rfl⟩ := siB_n hs
  obtain ⟨k, hk, rfl⟩ := thB_n a1 hp
  have u1 := a4 i (by omega)
  have wi := hW i (by omega)
  simp only [Bool.and_self, if_true, M_3, ln_3, gd_in (show i < 3 by omega) (show 3 < 2 ^ 31 by decide), ix_n (show i < 2 ^ 31 by omega), R_3 i (by omega), L_3 i (by omega), gd_in (show k < 30 by omega) n30, ix_n (show k < 2 ^ 31 by omega), inM_ifn (show k < 30 by omega), u1]
  cases hc : isIn (V i) k with
  | false => exact ⟨_, rfl, bd _ _ _, frM_rf⟩
  | true =>
  rw [if_pos rfl, if_pos rfl]
  have key := loop_inv (L := fun m (s : HH × Int32) z => fX8_removes_b5 RM 1 (nI i) (nI k) m s.1 s.2 z) (e := n) (I := fun j s => (∀ q, q ≠ 19 → s.1 q = h q) ∧ (∀ t, t < j → s.1 19 t = b2i (inS (V i) t (nI k))) ∧ s.2 = fld (fun i' s => if inS (V i) i' (nI k) then s + 1 else s) 0 j 1) (g := fun s => fX8_removes_b51 RM 1 (nI i) (nI k) lpF s.1 s.2 0) (fun m j s hj hI => by
    obtain ⟨s, c⟩ := s
    obtain ⟨I1, I2, I3⟩ := hI
    simp only at I1 I2 I3
    have es : avM s i = V i := (avM_eq (I1 _ (by omega)) (I1 _ (by omega)) (I1 _ (by omega)) (I1 _ (by omega))).trans u1
    have e0 : s 1 0 = nI n := by rw [I1 1 (by omega)]; exact a2
    simp only
    rw [fX8_removes_b5, e0, if_neg (nI_ge hj (by omega)), isInner_m (by omega) (by omega) (by omega) (show wfT n F (avM s i) by rw [es]; exact wi), Option.bind_some, es, zn_b, M_10, ln_19, gd_in (show j < 30 by omega) n30, ix_n (by omega), lt_eq, gd_in (show j < 30 by omega) n30]
    simp only [fX8_removes_b42, n_p1, up_same, b2i_if]
    have nx : (∀ q, q ≠ 19 → up s 19 j (b2i (inS (V i) j (nI k))) q = h q) ∧ (∀ t, t < j + 1 → up s 19 j (b2i (inS (V i) j (nI k))) 19 t = b2i (inS (V i) t (nI k))) := by
      refine ⟨fun q hq => (up_ne hq).trans (I1 q hq), fun t ht => ?_⟩
      rw [up_at]
      by_cases e : t = j
      · rw [if_pos e, e]
      · rw [if_neg e]
        exact I2 t (by omega)
    cases hin : inS (V i) j (nI k) with
    | false =>
      rw [hin] at nx
      refine ⟨(_, c), rfl, nx.1, nx.2, ?_⟩
      rw [fld_succ, Nat.zero_add, hin]
      exact I3
    | true =>
      rw [hin] at nx
      refine ⟨(_, c + 1), rfl, nx.1, nx.2, ?_⟩
      rw [fld_succ, Nat.zero_add, hin]
      exact congrArg (· + 1) I3) (fun m s hI => by
    have e0 : s.1 1 0 = nI n := by rw [hI.1 1 (by omega)]; exact a2
    rw [fX8_removes_b5, e0, if_pos (nI_le (Nat.le_refl n) (by omega))])
  obtain ⟨⟨h1, c⟩, ⟨J1, J2, J3⟩, e1⟩ := key lpF 0 (h, 1) (by omega) (by rw [lpF_eq]; omega) ⟨fun _ _ => rfl, fun t ht => by omega, rfl⟩
  simp only at J1 J2 J3 e1
  have e1' : fX8_removes h RM 1 (nI i) (nI k) = fX8_removes_b51 RM 1 (nI i) (nI k) lpF h1 c 0 := e1
  have key2 := loop_inv (L := fun m (s : HH) z => fX8_removes_b51 RM 1 (nI i) (nI k) m s c z) (e := n) (I := fun j s => (∀ q, q ≠ 4 + i → s q = h1 q) ∧ ∀ t, s (4 + i) t = if t < j ∧ goB (V i) (nI k) t = true then 0 else h1 (4 + i) t) (g := fun s => some (c, s)) (fun m j s hj hI => by
    obtain ⟨I1, I2⟩ := hI
    have e0 : s 1 0 = nI n := by rw [I1 1 (by omega), J1 1 (by omega)]; exact a2
    have e19 : s 19 j = b2i (inS (V i) j (nI k)) := by rw [I1 19 (by omega)]; exact J2 j hj
    rw [fX8_removes_b51, e0, if_neg (nI_ge hj (by omega)), M_10, ln_19, gd_in (show j < 30 by omega) n30, ix_n (by omega), e19, b2i_ifn]
    simp only [fX8_removes_b86, fX8_removes_b76, M_3, ln_3, gd_in (show i < 3 by omega) (show 3 < 2 ^ 31 by decide), ix_n (show i < 2 ^ 31 by omega), R_3 i (by omega), L_3 i (by omega), gd_in (show j < 30 by omega) n30, ix_n (show j < 2 ^ 31 by omega), lt_eq, zn_0, n_p1]
    have yes : goB (V i) (nI k) j = true → (∀ q, q ≠ 4 + i → up s (4 + i) j 0 q = h1 q) ∧ ∀ t, up s (4 + i) j 0 (4 + i) t = if t < j + 1 ∧ goB (V i) (nI k) t = true then 0 else h1 (4 + i) t := by
      intro hg
      refine ⟨fun q hq => (up_ne hq).trans (I1 q hq), fun t => ?_⟩
      rw [up_at]
      by_cases e : t = j
      · subst e; simp [hg]
      · rw [if_neg e, I2 t]
        simp only [show (t < j + 1) ↔ (t < j) by omega]
    have no : goB (V i) (nI k) j = false → (∀ q, q ≠ 4 + i → s q = h1 q) ∧ ∀ t, s (4 + i) t = if t < j + 1 ∧ goB (V i) (nI k) t = true then 0 else h1 (4 + i) t := by
      intro hg
      refine ⟨I1, fun t => ?_⟩
      rw [I2 t]
      by_cases e : t = j
      · subst e; simp [hg]
      · simp only [show (t < j + 1) ↔ (t < j) by omega]
    cases hin : inS (V i) j (nI k) with
    | true =>
      rw [if_pos rfl]
      exact ⟨_, rfl, yes (by unfold goB; simp [hin])⟩
    | false =>
      rw [ifF rfl]
      by_cases e : nI j = nI k
      · rw [if_neg (fun z => z e)]
        exact ⟨_, rfl, yes (by unfold goB; simp [e])⟩
      · rw [if_pos e]
        exact ⟨_, rfl, no (by unfold goB; simp [e, hin])⟩) (fun m s hI => by
    have e0 : s 1 0 = nI n := by rw [hI.1 1 (by omega), J1 1 (by omega)]; exact a2
    rw [fX8_removes_b51, e0, if_pos (nI_le (Nat.le_refl n) (by omega))])
  obtain ⟨h2, ⟨K1, K2⟩, e2⟩ := key2 lpF 0 h1 (by omega) (by rw [lpF_eq]; omega) ⟨fun _ _ => rfl, fun t => by simp⟩
  have e2' : fX8_removes_b51 RM 1 (nI i) (nI k) lpF h1 c 0 = some (c, h2) := e2
  rw [e1', e2', bi2_eq, done_m, bi2_eq]
  have hcnt : c = cnt (goB (V i) (nI k)) 30 := by
    rw [J3, fld_from]
    have q0 := cnt_or (Q := fun t => inS (V i) t (nI k)) (k := k) (inS_self wi (show k < 30 by omega)) 30
    rw [if_pos (by omega)] at q0
    have q1 : cnt (fun t => inS (V i) t (nI k)) 30 = cnt (fun t => inS (V i) t (nI k)) n := by
      rw [show (30 : Nat) = n + (30 - n) by omega]
      exact cnt_more (fun j h1 h2 => inS_out (hN i (by omega)) _ h1)
    rw [q1] at q0
    exact q0.symm
  refine ⟨_, by rw [hcnt], ?_, frM_trans ⟨fun q hq => (K1 q (by omega)).trans (J1 q (by omega)), fun j _ _ _ _ => by rw [K1 1 (by omega), J1 1 (by omega)]⟩ frM_rf⟩
  have w1 : wM h1 (n, F, V, P, pr, c0, c1, c2) := by
    have e1 := J1 1 (by omega)
    exact ⟨a1, by rw [e1]; exact a2, fun t ht => by rw [J1 2 (by omega)]; exact a3 t ht, fun s hs => (avM_eq (J1 _ (by omega)) (J1 _ (by omega)) (J1 _ (by omega)) (J1 _ (by omega))).trans (a4 s hs), a5, by rw [e1]; exact a6, fun p y hp => patM_eq (J1 _ (by omega)) (J1 _ (by omega)) (J1 _ (by omega)) (a7 p y hp), by rw [e1]; exact b1, by rw [e1]; exact b2, by rw [e1]; exact b3, by rw [e1]; exact b4, bM_eq (fun q _ _ => J1 q (by omega)) b5⟩
  refine wM_rf (wM_tr (fun q hq => K1 q (by omega)) (fun s' hs' => ?_) (fun z s' hs' t ht => by
    by_cases es : s' = i
    · subst es
      rw [K2 t]
      split
      · exact Or.inl rfl
      · exact z s' hs' t ht
    · rw [K1 (4 + s') (by omega)]
      exact z s' hs' t ht) w1)
  have v1 := w1.2.2.2.1
  unfold upT
  by_cases es : s' = i
  · subst es
    rw [if_pos rfl]
    funext t
    have qt := congrFun (v1 s' hs') t
    unfold avM at qt
    unfold avM rmV
    rw [K2 t, K1 (8 + s') (by omega), K1 (12 + s') (by omega), K1 (16 + s') (by omega)]
    by_cases ht : t < 30
    · rw [if_pos ht] at qt
      rw [if_pos ht]
      cases hg : goB (V s') (nI k) t with
      | false => simpa using qt
      | true =>
        by_cases htn : t < n
        · simp [htn]
        · have hv : V s' t = none := by
            cases e : V s' t with
            | none => rfl
            | some y =>
              have := hN s' hs' t (by unfold isIn; rw [e]; rfl)
              omega
          rw [hv] at qt
          simpa [htn] using qt
    · rw [if_neg ht] at qt
      rw [if_neg ht, ← qt]
      split <;> rfl
  · rw [if_neg es, ← v1 s' hs']
    exact avM_eq (K1 _ (by omega)) (K1 _ (by omega)) (K1 _ (by omega)) (K1 _ (by omega))
