/-! the reference's tellTarget, part by part -/
def frE (h h' : HH) : Prop := (∀ q, q ≠ 1 → q < 33 ∨ 40 ≤ q → h' q = h q) ∧ ∀ j, j ≠ 26 → j ≠ 27 → h' 1 j = h 1 j
theorem frE_rfl {h : HH} : frE h h := ⟨fun _ _ _ => rfl, fun _ _ _ => rfl⟩
theorem frE_trans {h h' h'' : HH} (a : frE h h') (b : frE h' h'') : frE h h'' := ⟨fun q e1 e2 => (b.1 q e1 e2).trans (a.1 q e1 e2), fun j e1 e2 => (b.2 j e1 e2).trans (a.2 j e1 e2)⟩
theorem frE_up {h : HH} {p k : Nat} {x : Int32} (h1 : 33 ≤ p) (h2 : p < 40) : frE h (up h p k x) := ⟨fun q _ e => up_ne (by omega), fun j _ _ => by rw [up_ne (by omega)]⟩
theorem frE_1 {h : HH} {k : Nat} {x : Int32} (h1 : k = 26 ∨ k = 27) : frE h (up h 1 k x) := ⟨fun q e _ => up_ne e, fun j e1 e2 => by rw [up_at, if_neg (by omega)]⟩
def ctxM (h : HH) (n : Nat) (F : Nat → Bool) (V : Nat → TV) (P : List PT) : Prop := h 1 0 = nI n ∧ (∀ s, s < 3 → avM h s = V s) ∧ rwN h 32 n (igA V P) ∧ ∀ t, t < n → h 2 t = b2i (F t)
theorem ctxM_fr {h h' : HH} {n : Nat} {F : Nat → Bool} {V : Nat → TV} {P : List PT} (a : frE h h') (c : ctxM h n F V P) : ctxM h' n F V P := by
  obtain ⟨c1, c2, c3, c4⟩ := c
  exact ⟨by rw [a.2 0 (by decide) (by decide)]; exact c1, fun s hs => (avM_eq (a.1 _ (by omega) (by omega)) (a.1 _ (by omega) (by omega)) (a.1 _ (by omega) (by omega)) (a.1 _ (by omega) (by omega))).trans (c2 s hs), fun u hu => by rw [a.1 32 (by decide) (by decide)]; exact c3 u hu, fun t ht => by rw [a.1 2 (by decide) (by decide)]; exact c4 t ht⟩
def clM (h : HH) (C : CL) : Prop := h 1 26 = nI C.length ∧ ∀ i y, C[i]? = some y → h 33 i = y.1 ∧ h 34 i = nI y.2
theorem clM_fr {h h' : HH} {C : CL} (e8 : h' 1 26 = h 1 26) (e1 : h' 33 = h 33) (e2 : h' 34 = h 34) (a : clM h C) : clM h' C := ⟨e8.trans a.1, fun i y hi => by rw [e1, e2]; exact a.2 i y hi⟩
theorem clashes_m {h : HH} {C : CL} (hC : clM h C) (hl : C.length < 150) (k : Int32) (t : Nat) : ∃ h', fX8_clashes h RM 1 k (nI t) = some h' ∧ clM h' (C ++ [(k, t)]) ∧ frE h h' ∧ (∀ q, 35 ≤ q → q < 40 → h' q = h q) ∧ h' 1 27 = h 1 27 := by
  have e1 : up h 33 C.length k 1 26 = nI C.length := by rw [up_ne (by decide)]; exact hC.1
  have e2 : up (up h 33 C.length k) 34 C.length (nI t) 1 26 = nI C.length := by rw [up_ne (by decide)]; exact e1
  refine ⟨up (up (up h 33 C.length k) 34 C.length (nI t)) 1 26 (nI (C.length + 1)), ?_, ⟨by rw [up_same]; simp, fun i y hi => ?_⟩, frE_trans (frE_up (by decide) (by decide)) (frE_trans (frE_up (by decide) (by decide)) (frE_1 (Or.inl rfl))), fun q q1 q2 => by rw [up_ne (by omega), up_ne (by omega), up_ne (by omega)], by rw [up_at, if_neg (by decide), up_ne (by decide), up_ne (by decide)]⟩
  · unfold fX8_clashes
    rw [hC.1, M_28, ln_33, gd_in (show C.length < 200 by omega) (by decide), lt_eq, ix_n (show C.length < 2 ^ 31 by omega), e1, M_29, ln_34, gd_in (show C.length < 200 by omega) (by decide), lt_eq, ix_n (show C.length < 2 ^ 31 by omega), e2, lt_eq, n_p1]
  · rw [up_ne (show 33 ≠ 1 by decide), up_ne (show 33 ≠ 34 by decide), up_at, up_ne (show 34 ≠ 1 by decide), up_at]
    rcases get_app hi with ⟨ei, ey⟩ | hi2
    · rw [if_pos ei, if_pos ei, ey]
      exact ⟨rfl, rfl⟩
    · have := (List.getElem?_eq_some_iff.mp hi2).1
      rw [if_neg (by omega), if_neg (by omega), up_ne (show 34 ≠ 33 by decide)]
      exact hC.2 i y hi2
theorem isStirred_m {h : HH} {n s t : Nat} {F : Nat → Bool} {V : Nat → TV} {P : List PT} (hn : n ≤ 30) (hw : ∀ s, s < 3 → wfT n F (V s)) (c : ctxM h n F V P) (hs : s < 2) (ht : t < n) : fX8_isStirred h RM 1 (nI s) (nI t) = some (b2i (kpB V P n s t)) := by
  obtain ⟨c1, c2, c3, c4⟩ := c
  have v1 := c2 s (by omega)
  have key := loop_find (L := fX8_isStirred_b16 h RM 1 (nI s) (nI t)) (P := stB V P s t) (e := n) (g := fun x => some (b2i x.isSome)) (fun k i hi => by
    rw [fX8_isStirred_b16, c1, if_neg (nI_ge hi (by omega)), isInner_m (n := n) (F := F) (show s < 3 by omega) (by omega) (by omega) (by rw [v1]; exact hw s (by omega)), Option.bind_some, v1, b2i_if, M_25, ln_32, gd_in (show i < 30 by omega) n30, ix_n (show i < 2 ^ 31 by omega), c3 i hi, b2i_ifn, changed_m hn c2 c3 hs hi, Option.bind_some]
    simp only [fX8_isStirred_b57, n_p1]
    unfold stB
    cases inS (V s) i (nI t) with
    | false => rw [Bool.and_false]; rfl
    | true =>
      rw [if_pos rfl, Bool.and_true]
      cases hig : igA V P i with
      | true => rfl
      | false =>
        rw [if_neg (by decide)]
        cases hc : (cmI V P s i || (mvI V P s i || wrI V P s i)) with
        | false =>
          rw [if_pos (ch_all.2.2.2.1.mpr hc)]
          rfl
        | true =>
          rw [if_neg (fun z => by have := ch_all.2.2.2.1.mp z; rw [hc] at this; cases this)]
          rfl) (fun k => by
    rw [fX8_isStirred_b16, c1, if_pos (nI_le (Nat.le_refl n) (by omega))]
    rfl) lpF 0 (by omega) (by rw [lpF_eq]; omega)
  have key : fX8_isStirred_b16 h RM 1 (nI s) (nI t) lpF (nI 0) = some (b2i (anyN n (stB V P s t))) := key
  rw [← l0] at key
  unfold fX8_isStirred
  rw [changed_m hn c2 c3 hs ht, Option.bind_some, key]
  unfold kpB
  cases hc : (mvI V P s t || wrI V P s t) with
  | false =>
    rw [if_pos (ch_all.2.2.1.mpr hc)]
    rfl
  | true =>
    rw [if_neg (fun z => by have := ch_all.2.2.1.mp z; rw [hc] at this; cases this)]
    rfl
theorem whoIs_m {h : HH} {n t : Nat} {F : Nat → Bool} {V : Nat → TV} {P : List PT} (hn : n ≤ 30) (hw : ∀ s, s < 3 → wfT n F (V s)) (c : ctxM h n F V P) (ht : t < n) {C : CL} (hC : clM h C) (hl : C.length < 150) : ∃ h', fX8_whoIs h RM 1 (nI t) = some h' ∧ frE h h' ∧ clM h' (if k0B V P n t = true then C ++ [(0, t)] else C) ∧ (∀ j, h' 35 j = if j = t then b2i (tgB V P n t) else h 35 j) ∧ h' 1 27 = h 1 27 := by
  have t30 : t < 30 := by omega
  have hF := c.2.2.2 t ht
  have e2 : up h 35 t 0 2 t = b2i (F t) := by rw [up_ne (by decide)]; exact hF
  have f32 : frE h (up (up h 35 t 0) 36 t (b2i (F t))) := frE_trans (frE_up (by decide) (by decide)) (frE_up (by decide) (by decide))
  have c32 := ctxM_fr f32 c
  have cl32 : clM (up (up h 35 t 0) 36 t (b2i (F t))) C := clM_fr (by rw [up_ne (by decide), up_ne (by decide)]) (by rw [up_ne (by decide), up_ne (by decide)]) (by rw [up_ne (by decide), up_ne (by decide)]) hC
  have r32 : ∀ j, up (up h 35 t 0) 36 t (b2i (F t)) 35 j = if j = t then 0 else h 35 j := fun j => by rw [up_ne (by decide), up_at]
  have t32 : up (up h 35 t 0) 36 t (b2i (F t)) 1 27 = h 1 27 := by rw [up_ne (by decide), up_ne (by decide)]
  generalize hy : up (up h 35 t 0) 36 t (b2i (F t)) = y at f32 c32 cl32 r32 t32
  have f1 : frE h (up y 35 t 1) := frE_trans f32 (frE_up (by decide) (by decide))
  have cl1 : clM (up y 35 t 1) C := clM_fr (by rw [up_ne (by decide)]) (up_ne (by decide)) (up_ne (by decide)) cl32
  have r1 : ∀ j, up y 35 t 1 35 j = if j = t then 1 else h 35 j := fun j => by
    rw [up_at, r32]
    by_cases e : j = t <;> simp [e]
  obtain ⟨yc, q1, q2, q3, q4, q5⟩ := clashes_m cl1 hl 0 t
  have st : ∀ s, s < 2 → fX8_whoIs_b139 RM 1 (nI t) y 1 (nI s) = if kpB V P n s t = true then some yc else some y := by
    intro s hs
    unfold fX8_whoIs_b139
    rw [isStirred_m hn hw c32 hs ht, Option.bind_some, b2i_if, M_30, ln_35, gd_in t30 n30, lt_eq, ix_n (show t < 2 ^ 31 by omega), zn_1, q1, Option.bind_some]
  have s0 : fX8_whoIs_b139 RM 1 (nI t) y 1 0 = if kpB V P n 0 t = true then some yc else some y := st 0 (by decide)
  have s1 : fX8_whoIs_b139 RM 1 (nI t) y 1 1 = if kpB V P n 1 t = true then some yc else some y := st 1 (by decide)
  have ch0 : fX8_changed h RM 1 0 (nI t) = some (chI V P 0 t) := changed_m (s := 0) hn c.2.1 c.2.2.1 (by decide) ht
  have ch1 : fX8_changed h RM 1 1 (nI t) = some (chI V P 1 t) := changed_m (s := 1) hn c.2.1 c.2.2.1 (by decide) ht
  have i2 : ix 2 = 2 := by decide
  have p3 := R_3 2 (by decide)
  have k3 := L_3 2 (by decide)
  have v2 := c32.2.1 2 (by decide)
  have a0 : ∀ {α : Type} (a b : α), (if chI V P 0 t = 1 then a else b) = if cmI V P 0 t = true then a else b := fun a b => by simp only [ch_all.1]
  have a1 : ∀ {α : Type} (a b : α), (if ¬ chI V P 1 t = 1 then a else b) = if cmI V P 1 t = true then b else a := fun a b => by simp only [ch_all.1, ite_not]
  have g0 : ∀ {α : Type} (a b : α), (if chI V P 0 t = 2 then a else b) = if gnI V P 0 t = true then a else b := fun a b => by simp only [ch_all.2.1]
  have g1 : ∀ {α : Type} (a b : α), (if chI V P 1 t = 2 then a else b) = if gnI V P 1 t = true then a else b := fun a b => by simp only [ch_all.2.1]
  have n0 : ∀ {α : Type} (a b : α), (if ¬ chI V P 0 t = 2 then a else b) = if gnI V P 0 t = true then b else a := fun a b => by simp only [ch_all.2.1, ite_not]
  have n1 : ∀ {α : Type} (a b : α), (if ¬ chI V P 1 t = 2 then a else b) = if gnI V P 1 t = true then b else a := fun a b => by simp only [ch_all.2.1, ite_not]
  have main : fX8_whoIs h RM 1 (nI t) = if tgB V P n t = true then (if k0B V P n t = true then some yc else some (up y 35 t 1)) else some y := by
    unfold fX8_whoIs
    rw [ch0, Option.bind_some, ch1, Option.bind_some, M_30, ln_35, gd_in t30 n30, lt_eq, zn_0, ix_n (show t < 2 ^ 31 by omega), M_2, ln_2, gd_in t30 n30, M_31, ln_36, gd_in t30 n30, lt_eq, e2, zn_b, hy, M_25, ln_32, gd_in t30 n30, c32.2.2.1 t ht, b2i_if, a0, a1]
    simp only [fX8_whoIs_b53, fX8_whoIs_b94, fX8_whoIs_b115, fX8_whoIs_b125, M_3, ln_3, i2, gd_t (show inb 2 3 = true by decide), p3, k3, gd_in t30 n30, ix_n (show t < 2 ^ 31 by omega), inM_if t30, v2, g0, g1, n0, n1, M_30, ln_35, lt_eq, zn_1, s0, s1]
    unfold tgB k0B hereB goB2 gsd cmI gnI cmB gnB
    cases igA V P t with
    | true => rfl
    | false =>
      cases isIn (V 2) t <;> cases isIn (V 0) t <;> cases isIn (V 1) t <;> cases z0 : kpB V P n 0 t <;> cases z1 : kpB V P n 1 t <;> first | rfl | simp [z0, z1]
  rw [main]
  cases h1 : tgB V P n t with
  | false =>
    have h2 : tgB V P n t = false → k0B V P n t = false := by
      unfold tgB k0B
      cases hereB V P t <;> cases goB2 V P t <;> cases kpB V P n (gsd V P t) t <;> simp
    rw [h2 h1]
    refine ⟨y, rfl, f32, cl32, fun j => ?_, t32⟩
    rw [r32]
    rfl
  | true =>
    cases h2 : k0B V P n t with
    | false =>
      refine ⟨_, rfl, f1, cl1, r1, by rw [up_ne (by decide)]; exact t32⟩
    | true =>
      refine ⟨yc, rfl, frE_trans f1 q3, q2, fun j => by rw [q4 35 (by decide) (by decide)]; exact r1 j, by rw [q5, up_ne (by decide)]; exact t32⟩
theorem sideFor_m {h : HH} {n t first : Nat} {F : Nat → Bool} {V : Nat → TV} {P : List PT} (hn : n ≤ 30) (hf : first < 2) (c : ctxM h n F V P) (ht : t < n) (hh : hereB V P t = true) (B : Nat → Nat → Bool) (k : Int32) (hB : ∀ s, chI V P s t &&& k = 0 ↔ B s t = false) (hBi : ∀ s, B s t = true → isIn (V 2) t = true ∧ isIn (V s) t = true) : ∃ sd, sd < 3 ∧ fX8_sideFor h RM 1 (nI t) k (nI first) = some (nI sd) ∧ isIn (V sd) t = true ∧ (sd = sdS V B first t ∨ (sd = 2 ∧ sdS V B first t = first ∧ B first t = false ∧ isIn (V first) t = true)) := by
  obtain ⟨c1, c2, c3, c4⟩ := c
  have t30 : t < 30 := by omega
  have ch0 : fX8_changed h RM 1 0 (nI t) = some (chI V P 0 t) := changed_m (s := 0) hn c2 c3 (by decide) ht
  have ch1 : fX8_changed h RM 1 1 (nI t) = some (chI V P 1 t) := changed_m (s := 1) hn c2 c3 (by decide) ht
  have i2 : ix 2 = 2 := by decide
  have p3 := R_3 2 (by decide)
  have k3 := L_3 2 (by decide)
  have v2 := c2 2 (by decide)
  have vf := c2 first (by omega)
  have g0 : ∀ {α : Type} (a b : α), (if chI V P 0 t = 2 then a else b) = if gnI V P 0 t = true then a else b := fun a b => by simp only [ch_all.2.1]
  have g1 : ∀ {α : Type} (a b : α), (if chI V P 1 t = 2 then a else b) = if gnI V P 1 t = true then a else b := fun a b => by simp only [ch_all.2.1]
  have b0 : ∀ {α : Type} (a b : α), (if chI V P 0 t &&& k = 0 then a else b) = if B 0 t = true then b else a := fun a b => by
    simp only [hB]
    cases B 0 t <;> rfl
  have b1 : ∀ {α : Type} (a b : α), (if chI V P 1 t &&& k = 0 then a else b) = if B 1 t = true then b else a := fun a b => by
    simp only [hB]
    cases B 1 t <;> rfl
  have one : ¬ ((1 : Int32) = 0) := by decide
  unfold hereB at hh
  simp only [Bool.and_eq_true, Bool.not_eq_true', Bool.or_eq_true] at hh
  obtain ⟨hig, hin⟩ := hh
  have q0 := hBi 0
  have q1 := hBi 1
  unfold fX8_sideFor
  rw [ch0, Option.bind_some, ch1, Option.bind_some]
  simp only [fX8_sideFor_b43, fX8_sideFor_b44, fX8_sideFor_b82, fX8_sideFor_b96, fX8_sideFor_b112, M_3, ln_3, i2, gd_t (show inb 2 3 = true by decide), p3, k3, gd_in t30 n30, ix_n (show t < 2 ^ 31 by omega), inM_if t30, v2, vf, g0, g1, b0, b1, gd_in (show first < 3 by omega) (show 3 < 2 ^ 31 by decide), ix_n (show first < 2 ^ 31 by omega), R_3 first (by omega), L_3 first (by omega), n_oth hf, one, not_true_eq_false, not_false_eq_true, if_true, if_false]
  unfold gnI gnB
  rw [hig]
  have : first = 0 ∨ first = 1 := by omega
  rcases this with rfl | rfl
  · have es : sdS V B 0 t = if isIn (V 0) t = true then (if (B 1 t && !(B 0 t)) = true then 1 else 0) else 1 := rfl
    have en : nI (1 - 0) = nI 1 := rfl
    rw [es, en]
    cases x2 : isIn (V 2) t <;> cases x0 : isIn (V 0) t <;> cases x1 : isIn (V 1) t <;> cases y0 : B 0 t <;> cases y1 : B 1 t <;> first
      | exact absurd (q0 y0).1 (by rw [x2]; decide)
      | exact absurd (q0 y0).2 (by rw [x0]; decide)
      | exact absurd (q1 y1).1 (by rw [x2]; decide)
      | exact absurd (q1 y1).2 (by rw [x1]; decide)
      | exact absurd hin (by rw [x0, x1]; decide)
      | exact ⟨0, by decide, rfl, x0, Or.inl rfl⟩
      | exact ⟨1, by decide, rfl, x1, Or.inl rfl⟩
      | exact ⟨2, by decide, rfl, x2, Or.inr ⟨rfl, rfl, rfl, rfl⟩⟩
  · have es : sdS V B 1 t = if isIn (V 1) t = true then (if (B 0 t && !(B 1 t)) = true then 0 else 1) else 0 := rfl
    have en : nI (1 - 1) = nI 0 := rfl
    rw [es, en]
    cases x2 : isIn (V 2) t <;> cases x0 : isIn (V 0) t <;> cases x1 : isIn (V 1) t <;> cases y0 : B 0 t <;> cases y1 : B 1 t <;> first
      | exact absurd (q0 y0).1 (by rw [x2]; decide)
      | exact absurd (q0 y0).2 (by rw [x0]; decide)
      | exact absurd (q1 y1).1 (by rw [x2]; decide)
      | exact absurd (q1 y1).2 (by rw [x1]; decide)
      | exact absurd hin (by rw [x0, x1]; decide)
      | exact ⟨1, by decide, rfl, x1, Or.inl rfl⟩
      | exact ⟨0, by decide, rfl, x0, Or.inl rfl⟩
      | exact ⟨2, by decide, rfl, x2, Or.inr ⟨rfl, rfl, rfl, rfl⟩⟩
