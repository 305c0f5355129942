/-! tellTarget whole; what the TARGET is -/
theorem mdS_facts {n : Nat} {F : Nat → Bool} : ∀ (r : Nat) (x : T3), nfc (frZ x.1) 30 ≤ r → clsG n F x.1 → clsG n F (mdS r x).1 ∧ (∀ t, isIn (mdS r x).1 t = isIn x.1 t) ∧ (mdS r x).2.1 = x.2.1 ∧ ringS (mdS r x).1 = none ∧ (mdS r x).2.2.length ≤ x.2.2.length + r := by
  intro r
  induction r with
  | zero =>
    intro x hr hc
    have hno : ringS x.1 = none := by
      cases e : ringS x.1 with
      | none => rfl
      | some t =>
        obtain ⟨t1, t2⟩ := grt_some e
        have := nfc_0 30 (show nfc (frZ x.1) 30 = 0 by omega) t t1
        rw [ring_fol t2] at this
        cases this
    exact ⟨hc, fun _ => rfl, rfl, hno, Nat.le_refl _⟩
  | succ r ih =>
    intro x hr hc
    cases hno : ringS x.1 with
    | none =>
      rw [mdS_no hno]
      exact ⟨hc, fun _ => rfl, rfl, hno, by omega⟩
    | some t =>
      obtain ⟨t1, t2⟩ := grt_some hno
      have hin := inS_isIn t2
      rw [mdS_one hno]
      obtain ⟨f4, f5, f6, f7, f8⟩ := ih (cutS x.1 t, x.2.1, x.2.2 ++ [(4, t)]) (by
        have := nfc_less (g := frZ x.1) (g' := frZ (cutS x.1 t)) (fun u hu => frZ_cut hin u hu) (ring_fol t2) frZ_cut_t 30 t1
        show nfc (frZ (cutS x.1 t)) 30 ≤ r
        omega) (clsG_cut hc hin)
      refine ⟨f4, fun u => (f5 u).trans (isIn_cols hin), f6, f7, ?_⟩
      have : (x.2.2 ++ [((4 : Int32), t)]).length = x.2.2.length + 1 := by simp
      have f8 : (mdS r (cutS x.1 t, x.2.1, x.2.2 ++ [(4, t)])).2.2.length ≤ (x.2.2 ++ [((4 : Int32), t)]).length + r := f8
      omega
theorem sp5_cols {V : Nat → TV} {P : List PT} {i : Nat} {x : T3} : (∀ t, isIn (sp5 V P i x).1 t = isIn x.1 t) ∧ (∀ t, vF (sp5 V P i x).1 t = vF x.1 t) ∧ (sp5 V P i x).2.1 = x.2.1 ∧ (sp5 V P i x).2.2.length ≤ x.2.2.length + 1 := by
  unfold sp5
  by_cases e : isIn x.1 i = true
  · rw [if_pos e]
    split
    · refine ⟨fun t => isIn_cols e, fun t => ?_, rfl, by simp⟩
      by_cases et : t = i
      · subst et; exact upV_rows.1
      · exact vF_une et
    · exact ⟨fun _ => rfl, fun _ => rfl, rfl, by omega⟩
  · rw [if_neg e]
    exact ⟨fun _ => rfl, fun _ => rfl, rfl, by omega⟩
theorem f5_cols {V : Nat → TV} {P : List PT} {x : T3} : ∀ k, (∀ t, isIn (fld (sp5 V P) 0 k x).1 t = isIn x.1 t) ∧ (∀ t, vF (fld (sp5 V P) 0 k x).1 t = vF x.1 t) ∧ (fld (sp5 V P) 0 k x).2.1 = x.2.1 ∧ (fld (sp5 V P) 0 k x).2.2.length ≤ x.2.2.length + k
  | 0 => ⟨fun _ => rfl, fun _ => rfl, rfl, Nat.le_refl _⟩
  | k + 1 => by
    obtain ⟨a1, a2, a3, a4⟩ := f5_cols (V := V) (P := P) (x := x) k
    obtain ⟨b1, b2, b3, b4⟩ := sp5_cols (V := V) (P := P) (i := k) (x := fld (sp5 V P) 0 k x)
    rw [fld_app]
    exact ⟨fun t => (b1 t).trans (a1 t), fun t => (b2 t).trans (a2 t), b3.trans a3, by omega⟩
theorem ring_vF {G H : TV} (h1 : ∀ t, isIn G t = isIn H t) (h2 : ∀ t, vF G t = vF H t) : ∀ {K : Nat} {to x : Int32}, suS G to K x = suS H to K x := by
  intro K
  induction K with
  | zero => intro to x; rfl
  | succ K ih =>
    intro to x
    by_cases hx : x < 0 ∨ (30 : Int32) ≤ x
    · unfold suS
      rw [if_pos hx, if_pos hx]
    · obtain ⟨u, hu, rfl⟩ := i30 hx
      cases e : isIn G u with
      | true =>
        rw [suS_succ hu e, suS_succ hu ((h1 u).symm.trans e), h2 u, ih]
      | false =>
        have e2 : isIn H u = false := (h1 u).symm.trans e
        unfold suS
        rw [if_neg hx, if_neg hx, ix_n (by omega)]
        unfold isIn at e e2
        cases eg : G u with
        | some y => rw [eg] at e; cases e
        | none =>
          cases eh : H u with
          | some y => rw [eh] at e2; cases e2
          | none => rfl
theorem inS_vF {G H : TV} (h1 : ∀ t, isIn G t = isIn H t) (h2 : ∀ t, vF G t = vF H t) {t : Nat} {a : Int32} : inS G t a = inS H t a := by
  cases e : isIn G t with
  | true =>
    rw [inS_in e, inS_in ((h1 t).symm.trans e), h2 t, ring_vF h1 h2]
  | false =>
    have e2 : isIn H t = false := (h1 t).symm.trans e
    cases x1 : inS G t a with
    | true => rw [inS_isIn x1] at e; cases e
    | false =>
      cases x2 : inS H t a with
      | true => rw [inS_isIn x2] at e2; cases e2
      | false => rfl
theorem ringS_vF {G H : TV} (h1 : ∀ t, isIn G t = isIn H t) (h2 : ∀ t, vF G t = vF H t) : ringS G = ringS H := grt_congr (fun t _ => inS_vF h1 h2)
/-- what is known of a TARGET -/
def tgOK (V : Nat → TV) (P : List PT) (n : Nat) (F : Nat → Bool) (x : T3) : Prop := n ≤ x.2.1 ∧ x.2.1 ≤ 30 ∧ (∀ t, t < n → isIn x.1 t = tgB V P n t) ∧ (∀ t, n ≤ t → isIn x.1 t = decide (t < x.2.1)) ∧ clsG n F x.1 ∧ ringS x.1 = none ∧ x.2.2.length ≤ 150
theorem t5_ok {V : Nat → TV} {P : List PT} {n first : Nat} {F : Nat → Bool} (hn : n ≤ 30) (hf : first < 2) (hw : ∀ s, s < 3 → wfT n F (V s)) : tgOK V P n F (t5S V P n first) ∧ (∀ t, isIn (t5S V P n first).1 t = isIn (t3S V P n first).1 t) ∧ (t5S V P n first).2.1 = (t3S V P n first).2.1 ∧ (t4S V P n first).2.1 = (t3S V P n first).2.1 ∧ (∀ t, isIn (t4S V P n first).1 t = isIn (t3S V P n first).1 t) ∧ (t4S V P n first).2.2.length ≤ 120 := by
  obtain ⟨h1, h2, h3, h4, h5, h6, h7⟩ := t3_inv (V := V) (P := P) (first := first) hn n (Nat.le_refl n)
  have h7 : (t3S V P n first).2.2.length ≤ n + n + n := h7
  have h4 : (t3S V P n first).2.1 ≤ 30 := h4
  obtain ⟨m1, m2, m3, m4, m5⟩ := mdS_facts 30 (t3S V P n first) (nfc_le 30) (t3_cls hn hf hw)
  have m3 : (t4S V P n first).2.1 = (t3S V P n first).2.1 := m3
  have m5 : (t4S V P n first).2.2.length ≤ (t3S V P n first).2.2.length + 30 := m5
  obtain ⟨k1, k2, k3, k4⟩ := f5_cols (V := V) (P := P) (x := t4S V P n first) (t4S V P n first).2.1
  have k1 : ∀ t, isIn (t5S V P n first).1 t = isIn (t4S V P n first).1 t := k1
  have k2 : ∀ t, vF (t5S V P n first).1 t = vF (t4S V P n first).1 t := k2
  have k3 : (t5S V P n first).2.1 = (t4S V P n first).2.1 := k3
  have k4 : (t5S V P n first).2.2.length ≤ (t4S V P n first).2.2.length + (t4S V P n first).2.1 := k4
  have ein : ∀ t, isIn (t5S V P n first).1 t = isIn (t3S V P n first).1 t := fun t => (k1 t).trans (m2 t)
  have etot : (t5S V P n first).2.1 = (t3S V P n first).2.1 := k3.trans m3
  refine ⟨⟨by rw [etot]; exact h3, by rw [etot]; exact h4, fun t ht => (ein t).trans (h1 t ht), fun t ht => by rw [ein, etot]; exact h5 t ht, ?_, ?_, by omega⟩, ein, etot, m3, m2, by omega⟩
  · intro t ht
    obtain ⟨q1, q2⟩ := m1 t ((k1 t).symm.trans ht)
    refine ⟨q1, ?_⟩
    rw [k2]
    rcases q2 with z | ⟨g, g1, g2, g3, g4⟩
    · exact Or.inl z
    · exact Or.inr ⟨g, g1, g2, (k1 g).trans g3, g4⟩
  · rw [ringS_vF k1 k2]
    exact m4
theorem tg_noig {V : Nat → TV} {P : List PT} {n t : Nat} {F : Nat → Bool} {x : T3} (hw : ∀ s, s < 3 → wfT n F (V s)) (h1 : ∀ t, t < n → isIn x.1 t = tgB V P n t) (h : isIn x.1 t = true) : igA V P t = false := by
  by_cases ht : t < n
  · rw [h1 t ht] at h
    exact (tg_here h).2
  · cases e : igA V P t with
    | false => rfl
    | true => exact absurd (igA_lt hw e) ht
def frK (h h' : HH) : Prop := (∀ q, q ≠ 1 → q < 30 ∨ 40 ≤ q → h' q = h q) ∧ ∀ j, j ≠ 22 → j ≠ 26 → j ≠ 27 → h' 1 j = h 1 j
theorem frK_rfl {h : HH} : frK h h := ⟨fun _ _ _ => rfl, fun _ _ _ _ => rfl⟩
theorem frK_trans {h h' h'' : HH} (a : frK h h') (b : frK h' h'') : frK h h'' := ⟨fun q e1 e2 => (b.1 q e1 e2).trans (a.1 q e1 e2), fun j e1 e2 e3 => (b.2 j e1 e2 e3).trans (a.2 j e1 e2 e3)⟩
theorem frK_E {h h' : HH} (a : frE h h') : frK h h' := ⟨fun q e1 e2 => a.1 q e1 (by omega), fun j _ e1 e2 => a.2 j e1 e2⟩
theorem frK_J {h h' : HH} (a : frJ h h') : frK h h' := ⟨fun q e1 e2 => a.1 q (by omega) (by omega) (by omega) e1, fun j e1 _ _ => a.2 j e1⟩
theorem wM_frK {h h' : HH} {x : WS} (e : frK h h') (hw : wM h x) : wM h' x := by
  obtain ⟨n, F, V, P, pr, c0, c1, c2⟩ := x
  obtain ⟨d1, d2, d3, d4, d5, d6, d7, e1, e2, e3, e4, e5⟩ := hw
  refine ⟨d1, by rw [e.2 0 (by decide) (by decide) (by decide)]; exact d2, fun t ht => by rw [e.1 2 (by decide) (by decide)]; exact d3 t ht, fun s hs => (avM_eq (e.1 _ (by omega) (by omega)) (e.1 _ (by omega) (by omega)) (e.1 _ (by omega) (by omega)) (e.1 _ (by omega) (by omega))).trans (d4 s hs), d5, by rw [e.2 11 (by decide) (by decide) (by decide)]; exact d6, fun i y hi => ?_, by rw [e.2 1 (by decide) (by decide) (by decide)]; exact e1, by rw [e.2 7 (by decide) (by decide) (by decide)]; exact e2, by rw [e.2 8 (by decide) (by decide) (by decide)]; exact e3, by rw [e.2 9 (by decide) (by decide) (by decide)]; exact e4, bM_eq (fun q _ _ => e.1 q (by omega) (by omega)) e5⟩
  have hl := (List.getElem?_eq_some_iff.mp hi).1
  exact patM_eq (e.1 20 (by decide) (by decide)) (e.1 21 (by decide) (by decide)) (e.1 _ (by omega) (by omega)) (d7 i y hi)
theorem reM_frK {h h' : HH} {K : Option WS} {tp : List Int32} {S : Nat → SH} (e : frK h h') (a : reM h K tp S) : reM h' K tp S := reM_eq (e.2 43 (by decide) (by decide) (by decide)) (e.2 16 (by decide) (by decide) (by decide)) (fun q hq => e.1 q (by omega) (by omega)) a
theorem tellTarget_m {h : HH} {n first : Nat} {F : Nat → Bool} {V : Nat → TV} {P : List PT} {pr c0 c1 c2 : Int32} (hf : first < 2) (hw : wM h (n, F, V, P, pr, c0, c1, c2)) (hwf : ∀ s, s < 3 → wfT n F (V s)) : ∃ h', fX8_tellTarget h RM 1 (nI first) = some h' ∧ frK h h' ∧ wM h' (n, F, V, P, pr, c0, c1, c2) ∧ ctxM h' n F V P ∧ mgM h' (t5S V P n first) (fun _ => True) (fun _ => True) := by
  have hn : n ≤ 30 := hw.1
  obtain ⟨ok, ein, etot, e4t, e4in, e4l⟩ := t5_ok (V := V) (P := P) (first := first) hn hf hwf
  have l3 := t3_inv (V := V) (P := P) (first := first) hn n (Nat.le_refl n)
  have l2 := t2_inv (V := V) (P := P) (n := n) (first := first)
  have l1 := t1_inv (V := V) (P := P) (n := n)
  -- clearing those above
  have key0 := loop_inv (L := fX8_tellTarget_b18 RM 1 (nI first)) (e := 30) (I := fun i z => frE (up (up h 1 26 0) 1 27 (nI n)) z ∧ z 1 26 = 0 ∧ z 1 27 = nI n ∧ ∀ t, n ≤ t → t < i → z 35 t = 0) (g := fun z => (fX8_ignore z RM 1).bind (fun h38 => fX8_tellTarget_b43 RM 1 (nI first) lpF h38 0)) (fun k i z hi hI => by
    obtain ⟨I1, I2, I3, I4⟩ := hI
    refine ⟨up z 35 i 0, ?_, frE_trans I1 (frE_up (by decide) (by decide)), by rw [up_ne (by decide)]; exact I2, by rw [up_ne (by decide)]; exact I3, fun t h1 h2 => ?_⟩
    · rw [fX8_tellTarget_b18, if_neg (fun z => by have := (le30 (by omega)).mp z; omega), M_30, ln_35, gd_in hi n30, lt_eq, zn_0, ix_n (show i < 2 ^ 31 by omega), n_p1]
    · rw [up_at]
      by_cases e : t = i
      · rw [if_pos e]
      · rw [if_neg e]; exact I4 t h1 (by omega)) (fun k z hI => by
    rw [fX8_tellTarget_b18, if_pos ((le30 (by omega)).mpr (Nat.le_refl 30))])
  obtain ⟨z0, ⟨a1, a2, a3, a4⟩, E0⟩ := key0 lpF n (up (up h 1 26 0) 1 27 (nI n)) (by omega) (by rw [lpF_eq]; omega) ⟨frE_rfl, by rw [up_at, if_neg (by decide), up_same], up_same, fun t h1 h2 => by omega⟩
  have fr0 : frE h z0 := frE_trans (frE_trans (frE_1 (Or.inl rfl)) (frE_1 (Or.inr rfl))) a1
  have w0 := wM_frK (frK_E fr0) hw
  obtain ⟨z1, b1, b2, b3⟩ := ignore_m w0 hwf
  have w1 := wM_frK (frK_J b2) w0
  have c1 : ctxM z1 n F V P := ⟨w1.2.1, w1.2.2.2.1, b3, w1.2.2.1⟩
  have z35 : ∀ t, n ≤ t → t < 30 → z1 35 t = 0 := fun t h1 h2 => by rw [b2.1 35 (by decide) (by decide) (by decide) (by decide)]; exact a4 t h1 h2
  have z26 : z1 1 26 = 0 := by rw [b2.2 26 (by decide)]; exact a2
  have z27 : z1 1 27 = nI n := by rw [b2.2 27 (by decide)]; exact a3
  -- who
  obtain ⟨z2, ⟨d1, d2, d3, d4⟩, E2⟩ := loop_rel (L := fX8_tellTarget_b43 RM 1 (nI first)) (e := n) (f := sp1 V P n) (R := fun i z x => frE z1 z ∧ (∀ t, t < 30 → (t < i ∨ n ≤ t) → z 35 t = b2i (isIn x.1 t)) ∧ clM z x.2.2 ∧ z 1 27 = nI n ∧ x.2.2.length ≤ i ∧ ∀ t, isIn x.1 t = (decide (t < i) && tgB V P n t)) (g := fun z => fX8_tellTarget_b64 RM 1 (nI first) lpF z 0) (fun k i z x hi hR => by
    obtain ⟨I1, I2, I3, I4, I5, I6⟩ := hR
    have cz := ctxM_fr I1 c1
    obtain ⟨G, tot, C⟩ := x
    have I5 : C.length ≤ i := I5
    obtain ⟨z', q1, q2, q3, q4, q5⟩ := whoIs_m hn hwf cz hi I3 (show C.length < 150 by omega)
    refine ⟨z', ?_, frE_trans I1 q2, ?_⟩
    · rw [fX8_tellTarget_b43, cz.1, if_neg (nI_ge hi (by omega)), q1, Option.bind_some, n_p1]
    · have ei : isIn G i = false := by
        have := I6 i
        simp at this
        exact this
      have hI6 : ∀ t, isIn G t = (decide (t < i) && tgB V P n t) := I6
      unfold sp1
      cases htg : tgB V P n i with
      | true =>
        rw [if_pos rfl]
        refine ⟨fun t ht hd => ?_, q3, q5.trans I4, ?_, fun t => ?_⟩
        · rw [q4]
          show _ = b2i (isIn (upV G i _) t)
          by_cases e : t = i
          · rw [if_pos e, e, isIn_ue, htg]
          · rw [if_neg e, isIn_un e]
            exact I2 t ht (by omega)
        · show (if k0B V P n i = true then C ++ [((0 : Int32), i)] else C).length ≤ i + 1
          split
          · simp; omega
          · omega
        · show isIn (upV G i _) t = _
          by_cases e : t = i
          · subst e; rw [isIn_ue, htg]; simp
          · rw [isIn_un e, hI6, show decide (t < i + 1) = decide (t < i) by simp; omega]
      | false =>
        rw [if_neg (by decide)]
        have hk : k0B V P n i = false := by
          have : tgB V P n i = false → k0B V P n i = false := by
            unfold tgB k0B
            cases hereB V P i <;> cases goB2 V P i <;> cases kpB V P n (gsd V P i) i <;> simp
          exact this htg
        rw [hk] at q3
        refine ⟨fun t ht hd => ?_, q3, q5.trans I4, by show C.length ≤ i + 1; omega, fun t => ?_⟩
        · rw [q4]
          show _ = b2i (isIn G t)
          by_cases e : t = i
          · rw [if_pos e, e, htg, ei]
          · rw [if_neg e]
            exact I2 t ht (by omega)
        · show isIn G t = _
          by_cases e : t = i
          · subst e; rw [ei, htg]; simp
          · rw [hI6, show decide (t < i + 1) = decide (t < i) by simp; omega]) (fun k z x hR => by
    rw [fX8_tellTarget_b43, (ctxM_fr hR.1 c1).1, if_pos (nI_le (Nat.le_refl n) (by omega))]) lpF z1 (fun _ => none, n, []) (by rw [lpF_eq]; omega) ⟨frE_rfl, fun t ht hd => by rw [z35 t (by omega) ht]; rfl, ⟨z26, fun i y hi => by cases hi⟩, z27, Nat.le_refl _, fun t => by simp [isIn]⟩
  have t1n : (t1S V P n).2.1 = n := (l1 n (Nat.le_refl n)).2.1
  have c2 := ctxM_fr d1 c1
  have m2 : mgM z2 (t1S V P n) (fun t => t < 0) (fun _ => False) := ⟨fun t ht => d2 t ht (by omega), fun t _ hd => by omega, fun t _ hd => hd.elim, by rw [t1n]; exact d4.1, by rw [t1n]; exact hn, d3⟩
  -- places
  obtain ⟨z3, ⟨f1, f2, f3⟩, E3⟩ := loop_rel (L := fX8_tellTarget_b64 RM 1 (nI first)) (e := n) (f := sp2 V P first) (R := fun i z x => frE z2 z ∧ mgM z x (fun t => t < i) (fun _ => False) ∧ x.2.2.length ≤ n + i ∧ ∀ t, isIn x.1 t = (decide (t < n) && tgB V P n t)) (g := fun z => fX8_tellTarget_b95 RM 1 (nI first) lpF z 0) (fun k i z x hi hR => by
    obtain ⟨I1, I2, I3, I4⟩ := hR
    have cz := ctxM_fr I1 c2
    obtain ⟨G, tot, C⟩ := x
    have I3 : C.length ≤ n + i := I3
    have I4 : ∀ t, isIn G t = (decide (t < n) && tgB V P n t) := I4
    have head : fX8_tellTarget_b64 RM 1 (nI first) (k + 1) z (nI i) = if isIn G i = true then (fX8_places z RM 1 (nI i) (nI first)).bind (fun h84 => fX8_tellTarget_b64 RM 1 (nI first) k h84 (nI (i + 1))) else fX8_tellTarget_b64 RM 1 (nI first) k z (nI (i + 1)) := by
      rw [fX8_tellTarget_b64, cz.1, if_neg (nI_ge hi (by omega)), M_30, ln_35, gd_in (show i < 30 by omega) n30, ix_n (show i < 2 ^ 31 by omega), mgM_if I2 (show i < 30 by omega)]
      simp only [fX8_tellTarget_b87, n_p1]
    rw [head]
    cases hin : isIn G i with
    | false =>
      have : sp2 V P first i (G, tot, C) = (G, tot, C) := by
        show (if isIn G i = true then _ else _) = _
        rw [hin]; rfl
      rw [this]
      exact ⟨z, rfl, I1, mgM_D (fun t ht hd => by
        have : t ≠ i := fun e => by subst e; have ht : isIn G t = true := ht; rw [hin] at ht; cases ht
        show t < i
        have hd : t < i + 1 := hd
        omega) (fun _ _ hd => hd) I2, by show C.length ≤ n + (i + 1); omega, I4⟩
    | true =>
      have htg : tgB V P n i = true := by
        have := I4 i
        rw [hin] at this
        simp [hi] at this
        exact this
      obtain ⟨z', q1, q2, q3⟩ := places_m hn hf cz hi (show C.length < 150 by omega) I2 hin htg
      rw [if_pos rfl, q1, Option.bind_some]
      refine ⟨z', rfl, frE_trans I1 q2, q3, ?_, fun t => ?_⟩
      · show (if isIn G i = true then _ else _ : T3).2.2.length ≤ n + (i + 1)
        rw [if_pos hin]
        show (if c1B V P i = true then C ++ [((1 : Int32), i)] else C).length ≤ n + (i + 1)
        split
        · simp; omega
        · omega
      · show isIn (if isIn G i = true then _ else _ : T3).1 t = _
        rw [if_pos hin]
        show isIn (upV G i _) t = _
        rw [isIn_cols hin]
        exact I4 t) (fun k z x hR => by
    rw [fX8_tellTarget_b64, (ctxM_fr hR.1 c2).1, if_pos (nI_le (Nat.le_refl n) (by omega))]) lpF z2 (t1S V P n) (by rw [lpF_eq]; omega) ⟨frE_rfl, m2, (l1 n (Nat.le_refl n)).2.2, fun t => t1_in⟩
  have c3 := ctxM_fr f1 c2
  have t2n : (t2S V P n first).2.1 = n := (l2 n (Nat.le_refl n)).2.2.1
  have m3 : mgM z3 (t2S V P n first) (fun _ => True) (fun t => t < 0 ∨ n ≤ t) := by
    refine mgM_D (fun t ht _ => ?_) (fun t ht hd => ?_) f2
    · have := f3.2 t
      have ht : isIn (fld (sp2 V P first) 0 n (t1S V P n)).1 t = true := ht
      rw [ht] at this
      have := of_decide_eq_true (Bool.and_eq_true_iff.mp this.symm).1
      exact this
    · have := f3.2 t
      have ht : isIn (fld (sp2 V P first) 0 n (t1S V P n)).1 t = true := ht
      rw [ht] at this
      have := of_decide_eq_true (Bool.and_eq_true_iff.mp this.symm).1
      omega
  -- contents
  obtain ⟨z4, ⟨g1, g2, g3⟩, E4⟩ := loop_rel (L := fX8_tellTarget_b95 RM 1 (nI first)) (e := n) (f := sp3 V P first) (R := fun i z x => frE z3 z ∧ mgM z x (fun _ => True) (fun t => t < i ∨ n ≤ t) ∧ (∀ t, t < n → isIn x.1 t = tgB V P n t) ∧ n ≤ x.2.1 ∧ x.2.2.length ≤ n + n + i) (g := fun z => (fX8_breaksRings z RM 1).bind (fun h125 => fX8_tellTarget_b130 RM 1 (nI first) lpF h125 0)) (fun k i z x hi hR => by
    obtain ⟨I1, I2, I3, I4, I5⟩ := hR
    have cz := ctxM_fr I1 c3
    obtain ⟨G, tot, C⟩ := x
    have I5 : C.length ≤ n + n + i := I5
    have I4 : n ≤ tot := I4
    have I3 : ∀ t, t < n → isIn G t = tgB V P n t := I3
    have head : fX8_tellTarget_b95 RM 1 (nI first) (k + 1) z (nI i) = if isIn G i = true then (fX8_fills z RM 1 (nI i) (nI first)).bind (fun h84 => fX8_tellTarget_b95 RM 1 (nI first) k h84 (nI (i + 1))) else fX8_tellTarget_b95 RM 1 (nI first) k z (nI (i + 1)) := by
      rw [fX8_tellTarget_b95, cz.1, if_neg (nI_ge hi (by omega)), M_30, ln_35, gd_in (show i < 30 by omega) n30, ix_n (show i < 2 ^ 31 by omega), mgM_if I2 (show i < 30 by omega)]
      simp only [fX8_tellTarget_b118, n_p1]
    rw [head]
    cases hin : isIn G i with
    | false =>
      have : sp3 V P first i (G, tot, C) = (G, tot, C) := by
        show (if isIn G i = true then _ else _) = _
        rw [hin]; rfl
      rw [this]
      exact ⟨z, rfl, I1, mgM_D (fun _ _ hd => hd) (fun t ht hd => by
        have : t ≠ i := fun e => by subst e; have ht : isIn G t = true := ht; rw [hin] at ht; cases ht
        have hd : t < i + 1 ∨ n ≤ t := hd
        show t < i ∨ n ≤ t
        omega) I2, I3, I4, by show C.length ≤ n + n + (i + 1); omega⟩
    | true =>
      have htg : tgB V P n i = true := by rw [← I3 i hi]; exact hin
      obtain ⟨z', q1, q2, q3⟩ := fills_m hn hf cz hi (show C.length < 150 by omega) I4 I2 hin htg
      rw [if_pos rfl, q1, Option.bind_some]
      have hx : sp3 V P first i (G, tot, C) = if c2B V P i = true then (if tot < 30 then (upV (upV G i (some (vF G i, vN G i, ctS V P first i))) tot (some (vF G i, vN G i, vC (V (1 - first)) i)), tot + 1, C ++ [(2, i)]) else (upV G i (some (vF G i, vN G i, ctS V P first i)), tot, C ++ [(2, i)])) else (upV G i (some (vF G i, vN G i, ctS V P first i)), tot, C) := by
        show (if isIn G i = true then _ else _) = _
        rw [if_pos hin]
      refine ⟨z', rfl, frE_trans I1 q2, q3, ?_⟩
      rw [hx]
      split
      · split
        · refine ⟨fun t ht => ?_, by show n ≤ tot + 1; omega, by show (C ++ [((2 : Int32), i)]).length ≤ n + n + (i + 1); simp; omega⟩
          show isIn (upV (upV G i _) tot _) t = _
          rw [isIn_un (by omega), isIn_cols hin]
          exact I3 t ht
        · exact ⟨fun t ht => (isIn_cols hin).trans (I3 t ht), I4, by show (C ++ [((2 : Int32), i)]).length ≤ n + n + (i + 1); simp; omega⟩
      · exact ⟨fun t ht => (isIn_cols hin).trans (I3 t ht), I4, by show C.length ≤ n + n + (i + 1); omega⟩) (fun k z x hR => by
    rw [fX8_tellTarget_b95, (ctxM_fr hR.1 c3).1, if_pos (nI_le (Nat.le_refl n) (by omega))]) lpF z3 (t2S V P n first) (by rw [lpF_eq]; omega) ⟨frE_rfl, m3, fun t ht => by
      have := f3.2 t
      simp [ht] at this
      exact this, by rw [t2n]; exact Nat.le_refl _, by
      have := f3.1
      exact this⟩
  have c4 := ctxM_fr g1 c3
  have m4 : mgM z4 (t3S V P n first) (fun _ => True) (fun _ => True) := mgM_D (fun _ _ hd => hd) (fun t _ _ => by show t < n ∨ n ≤ t; omega) g2
  have p3 : ∀ t, isIn (t3S V P n first).1 t = true → t < (t3S V P n first).2.1 := by
    intro t ht
    by_cases h1 : t < n
    · have : n ≤ (t3S V P n first).2.1 := g3.2.1
      omega
    · have := l3.2.2.2.2.1 t (by omega)
      have this : isIn (t3S V P n first).1 t = decide (t < (t3S V P n first).2.1) := this
      rw [ht] at this
      exact of_decide_eq_true this.symm
  -- rings
  obtain ⟨z5, r1, r2, r3, -⟩ := mrings_b (F := F) hn 30 lpF z4 (t3S V P n first) (nfc_le 30) (by rw [lpF_eq]; omega) m4 (t3_cls hn hf hwf) p3 (by
    have := l3.2.2.2.2.2.2
    have this : (t3S V P n first).2.2.length ≤ n + n + n := this
    omega) 0 (by decide)
  have c5 := ctxM_fr r2 c4
  have m5 : mgM z5 (t4S V P n first) (fun _ => True) (fun _ => True) := r3
  -- names
  have tot30 : (t4S V P n first).2.1 ≤ 30 := m5.2.2.2.2.1
  obtain ⟨z6, ⟨s1, s2, -⟩, E6⟩ := loop_rel (L := fX8_tellTarget_b130 RM 1 (nI first)) (e := (t4S V P n first).2.1) (f := sp5 V P) (R := fun i z x => frE z5 z ∧ mgM z x (fun _ => True) (fun _ => True) ∧ (∀ t, isIn x.1 t = isIn (t4S V P n first).1 t) ∧ x.2.1 = (t4S V P n first).2.1 ∧ x.2.2.length ≤ 120 + i) (g := fun z => some z) (fun k i z x hi hR => by
    obtain ⟨I1, I2, I3, I4, I5⟩ := hR
    have cz := ctxM_fr I1 c5
    have hcols := sp5_cols (V := V) (P := P) (i := i) (x := x)
    obtain ⟨G, tot, C⟩ := x
    have I3 : ∀ t, isIn G t = isIn (t4S V P n first).1 t := I3
    have I4 : tot = (t4S V P n first).2.1 := I4
    have I5 : C.length ≤ 120 + i := I5
    have e27 : z 1 27 = nI (t4S V P n first).2.1 := I2.2.2.2.1.trans (congrArg nI I4)
    have head : fX8_tellTarget_b130 RM 1 (nI first) (k + 1) z (nI i) = if isIn G i = true then (fX8_callsAnew z RM 1 (nI i)).bind (fun h84 => fX8_tellTarget_b130 RM 1 (nI first) k h84 (nI (i + 1))) else fX8_tellTarget_b130 RM 1 (nI first) k z (nI (i + 1)) := by
      rw [fX8_tellTarget_b130, e27, if_neg (nI_ge hi (by omega)), M_30, ln_35, gd_in (show i < 30 by omega) n30, ix_n (show i < 2 ^ 31 by omega), mgM_if I2 (show i < 30 by omega)]
      simp only [fX8_tellTarget_b152, n_p1]
    rw [head]
    have tail : (∀ t, isIn (sp5 V P i (G, tot, C)).1 t = isIn (t4S V P n first).1 t) ∧ (sp5 V P i (G, tot, C)).2.1 = (t4S V P n first).2.1 ∧ (sp5 V P i (G, tot, C)).2.2.length ≤ 120 + (i + 1) := by
      obtain ⟨h1, h2, h3, h4⟩ := hcols
      have h4 : (sp5 V P i (G, tot, C)).2.2.length ≤ C.length + 1 := h4
      exact ⟨fun t => (h1 t).trans (I3 t), h3.trans I4, by omega⟩
    cases hin : isIn G i with
    | false =>
      have : sp5 V P i (G, tot, C) = (G, tot, C) := by
        show (if isIn G i = true then _ else _) = _
        rw [hin]; rfl
      refine ⟨z, rfl, I1, ?_, tail⟩
      rw [this]
      exact I2
    | true =>
      obtain ⟨z', q1, q2, q3⟩ := callsAnew_m hn hwf cz (show C.length < 150 by omega) I2 hin (fun t ht => by
        rw [I4, e4t]
        exact p3 t (by rw [← e4in t, ← I3 t]; exact ht)) (fun t ht => tg_noig (x := t3S V P n first) (n := n) (F := F) hwf (fun t ht => g3.1 t ht) (by rw [← e4in t, ← I3 t]; exact ht))
      rw [if_pos rfl, q1, Option.bind_some]
      exact ⟨z', rfl, frE_trans I1 q2, q3, tail⟩) (fun k z x hR => by
    have e27 : z 1 27 = nI (t4S V P n first).2.1 := hR.2.1.2.2.2.1.trans (congrArg nI hR.2.2.2.1)
    rw [fX8_tellTarget_b130, e27, if_pos (nI_le (Nat.le_refl _) (by omega))]) lpF z5 (t4S V P n first) (by rw [lpF_eq]; omega) ⟨frE_rfl, m5, fun _ => rfl, rfl, e4l⟩
  have c6 := ctxM_fr s1 c5
  have fr16 : frE z1 z6 := frE_trans d1 (frE_trans f1 (frE_trans g1 (frE_trans r2 s1)))
  have frAll : frK h z6 := frK_trans (frK_E fr0) (frK_trans (frK_J b2) (frK_E fr16))
  refine ⟨z6, ?_, frAll, wM_frK frAll hw, c6, s2⟩
  have e0 : up h 1 26 0 1 0 = nI n := by rw [up_at, if_neg (by decide)]; exact hw.2.1
  have e1 : up (up h 1 26 0) 1 27 (nI n) 1 0 = nI n := by rw [up_at, if_neg (by decide)]; exact e0
  unfold fX8_tellTarget
  rw [lt_eq, e0, lt_eq, lt_eq, e1]
  rw [← l0] at E2 E3 E4 E6
  have r1 : fX8_breaksRings z4 RM 1 = some z5 := r1
  rw [E0, b1, Option.bind_some, E2, E3, E4, r1, Option.bind_some, E6]
