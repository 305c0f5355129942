/-! rings on the reference -/
theorem suS_fuel {v : TV} {to : Int32} : ∀ {K K' a : Nat} {x : Int32}, suS v to K x = some a → a < K' → suS v to K' x = some a := by
  intro K
  induction K with
  | zero => intro K' a x h; cases h
  | succ K ih =>
    intro K' a x h ha
    obtain ⟨K', rfl⟩ : ∃ z, K' = z + 1 := ⟨K' - 1, by omega⟩
    unfold suS at h ⊢
    split at h
    · cases h
    · rename_i hx
      rw [if_neg hx]
      cases e : v (ix x) with
      | none => rw [e] at h; cases h
      | some y =>
        obtain ⟨f, b, c⟩ := y
        rw [e] at h
        simp only at h ⊢
        by_cases e2 : x = to
        · rw [if_pos e2] at h ⊢; exact h
        · rw [if_neg e2] at h ⊢
          cases hz : suS v to K f with
          | none => rw [hz] at h; cases h
          | some d =>
            rw [hz] at h
            have hd : d + 1 = a := Option.some.inj h
            rw [ih hz (show d < K' by omega), ← hd]
            rfl
theorem su_cut {v : TV} {t : Nat} (t30 : t < 30) (ht : isIn v t = true) : ∀ {K a : Nat} {x : Int32}, suS v (nI t) K x = some a → endsX (cutS v t) (a + 1) x := by
  intro K
  induction K with
  | zero => intro a x h; cases h
  | succ K ih =>
    intro a x h
    unfold suS at h
    split at h
    · cases h
    · rename_i hx
      obtain ⟨u, hu, rfl⟩ := i30 hx
      rw [ix_n (by omega)] at h
      cases e : v u with
      | none => rw [e] at h; cases h
      | some y =>
        obtain ⟨f, b, c⟩ := y
        have hui : isIn v u = true := by unfold isIn; rw [e]; rfl
        have hvf : vF v u = f := by unfold vF; rw [e]
        have huc : isIn (cutS v t) u = true := by unfold cutS; rw [isIn_cols ht]; exact hui
        rw [e] at h
        simp only at h
        by_cases e2 : nI u = nI t
        · rw [if_pos e2] at h
          have ha : 0 = a := Option.some.inj h
          subst ha
          have : u = t := nI_inj (by omega) (by omega) e2
          subst this
          exact ⟨u, hu, rfl, huc, by unfold cutS; exact upV_rows.1⟩
        · rw [if_neg e2] at h
          cases hz : suS v (nI t) K f with
          | none => rw [hz] at h; cases h
          | some d =>
            rw [hz] at h
            have hd : d + 1 = a := Option.some.inj h
            subst hd
            refine ⟨u, hu, rfl, huc, ?_⟩
            have : vF (cutS v t) u = f := by
              unfold cutS
              rw [vF_une (fun z => e2 (by rw [z]))]
              exact hvf
            rw [this]
            exact ih hz
theorem ring_30 {v : TV} {t : Nat} (t30 : t < 30) (ht : isIn v t = true) (x : Int32) : (suS v (nI t) 30 x).isSome = (suS v (nI t) 31 x).isSome := by
  cases h1 : suS v (nI t) 31 x with
  | none =>
    cases h2 : suS v (nI t) 30 x with
    | none => rfl
    | some a =>
      have := suS_lt h2
      rw [suS_fuel h2 (show a < 31 by omega)] at h1
      cases h1
  | some a =>
    obtain ⟨l, l1, l2, l3, -⟩ := endsX_list (su_cut t30 ht h1)
    have := nodup_len 30 l l3 l2
    rw [suS_fuel h1 (show a < 30 by omega)]
theorem isInRing_b {h : HH} {x : T3} {DC : Nat → Prop} {n t : Nat} {F : Nat → Bool} (hn : n ≤ 30) (m : mgM h x (fun _ => True) DC) (hc : clsG n F x.1) (t30 : t < 30) : ∀ (K k j : Nat) (y : Int32), j + K = 30 → K < k → (y = -1 ∨ ∃ g, g < 30 ∧ y = nI g ∧ isIn x.1 g = true) → fX8_isInRing_b9 h RM 1 (nI t) k y (nI j) = some (b2i (suS x.1 (nI t) K y).isSome) := by
  intro K
  induction K with
  | zero =>
    intro k j y hj hk _
    obtain ⟨k, rfl⟩ : ∃ z, k = z + 1 := ⟨k - 1, by omega⟩
    rw [fX8_isInRing_b9, if_pos ((le30 (by omega)).mpr (by omega))]
    rfl
  | succ K ih =>
    intro k j y hj hk hy
    obtain ⟨k, rfl⟩ : ∃ z, k = z + 1 := ⟨k - 1, by omega⟩
    rw [fX8_isInRing_b9, if_neg (fun z => by have := (le30 (by omega)).mp z; omega)]
    rcases hy with hy | ⟨g, hg, hy, hgi⟩
    · rw [if_pos hy, hy, suS_m1]
      rfl
    · subst hy
      rw [if_neg (m1_ne g (by omega)), suS_succ hg hgi]
      by_cases e : nI g = nI t
      · rw [if_neg (fun z => z e), if_pos e]
        rfl
      · have hF := m.2.1 g hg trivial hgi
        rw [if_pos e, if_neg e, M_32, ln_37, gd_in hg n30, lt_eq, ix_n (show g < 2 ^ 31 by omega), hF.1, n_p1, ih k (j + 1) _ (by omega) (by omega) (by
          rcases (hc g hgi).2 with z | ⟨u, u1, u2, u3, u4⟩
          · exact Or.inl z
          · exact Or.inr ⟨u, by omega, u2, u3⟩)]
        cases suS x.1 (nI t) K (vF x.1 g) <;> rfl
theorem isInRing_m {h : HH} {x : T3} {DC : Nat → Prop} {n t : Nat} {F : Nat → Bool} (hn : n ≤ 30) (m : mgM h x (fun _ => True) DC) (hc : clsG n F x.1) (hin : isIn x.1 t = true) : fX8_isInRing h RM 1 (nI t) = some (b2i (inS x.1 t (nI t))) := by
  have t30 := (hc t hin).1
  have hF := m.2.1 t t30 trivial hin
  unfold fX8_isInRing
  rw [M_32, ln_37, gd_in t30 n30, lt_eq, ix_n (show t < 2 ^ 31 by omega), hF.1, l0, isInRing_b hn m hc t30 30 lpF 0 _ (by omega) (by rw [lpF_eq]; omega) (by
    rcases (hc t hin).2 with z | ⟨u, u1, u2, u3, u4⟩
    · exact Or.inl z
    · exact Or.inr ⟨u, by omega, u2, u3⟩), ring_30 t30 hin, inS_in hin]
theorem worst_m {h : HH} {x : T3} {DC : Nat → Prop} {n : Nat} {F : Nat → Bool} (hn : n ≤ 30) (m : mgM h x (fun _ => True) DC) (hc : clsG n F x.1) (ht : ∀ t, isIn x.1 t = true → t < x.2.1) (k2 : HH → Int32 → Option HH) : fX8_breaksRings_b11 RM 1 k2 lpF h (-1) 0 = (if ¬ oI (ringS x.1) = (-1) then (gd (inb (oI (ringS x.1)) (lnM (RM 1 32))) (lt (up h (RM 1 32) (ix (oI (ringS x.1))) (-1)) (fun h56 => (fX8_clashes h56 RM 1 4 (oI (ringS x.1))).bind (fun h60 => k2 h60 (oI (ringS x.1)))))) else (some h)) := by
  have tot30 : x.2.1 ≤ 30 := m.2.2.2.2.1
  have more : ∀ d k, x.2.1 + d = k → grt (fun t => inS x.1 t (nI t)) k = grt (fun t => inS x.1 t (nI t)) x.2.1 := by
    intro d
    induction d with
    | zero => intro k hk; rw [← hk]; rfl
    | succ d ih =>
      intro k hk
      rw [← hk, show x.2.1 + (d + 1) = (x.2.1 + d) + 1 by omega, grt_s, if_neg (fun z => by
        have := ht _ (inS_isIn z)
        omega)]
      exact ih _ rfl
  have key := loop_inv (L := fun k (z : Int32) y => fX8_breaksRings_b11 RM 1 k2 k h z y) (e := x.2.1) (I := fun i z => z = oI (grt (fun t => inS x.1 t (nI t)) i)) (g := fun z => (if ¬ z = (-1) then (gd (inb z (lnM (RM 1 32))) (lt (up h (RM 1 32) (ix z) (-1)) (fun h56 => (fX8_clashes h56 RM 1 4 z).bind (fun h60 => k2 h60 z)))) else (some h))) (fun k i z hi hI => by
    show ∃ s', fX8_breaksRings_b11 RM 1 k2 (k + 1) h z (nI i) = _ ∧ _
    rw [fX8_breaksRings_b11, m.2.2.2.1, if_neg (nI_ge hi (by omega)), M_30, ln_35, gd_in (show i < 30 by omega) n30, ix_n (show i < 2 ^ 31 by omega), mgM_if m (show i < 30 by omega)]
    simp only [fX8_breaksRings_b38, n_p1]
    rw [grt_s]
    cases hin : isIn x.1 i with
    | false =>
      have e : inS x.1 i (nI i) = false := by
        cases e : inS x.1 i (nI i) with
        | false => rfl
        | true => rw [inS_isIn e] at hin; cases hin
      rw [e]
      exact ⟨z, rfl, hI⟩
    | true =>
      rw [if_pos rfl, isInRing_m hn m hc hin, Option.bind_some, b2i_if]
      cases inS x.1 i (nI i) with
      | true => exact ⟨nI i, rfl, rfl⟩
      | false => exact ⟨z, rfl, hI⟩) (fun k z hI => by
    show fX8_breaksRings_b11 RM 1 k2 (k + 1) h z (nI x.2.1) = _
    rw [fX8_breaksRings_b11, m.2.2.2.1, if_pos (nI_le (Nat.le_refl _) (by omega))]) lpF 0 (-1) (by omega) (by rw [lpF_eq]; omega) rfl
  obtain ⟨z, e1, e2⟩ := key
  have e2 : fX8_breaksRings_b11 RM 1 k2 lpF h (-1) (nI 0) = _ := e2
  rw [← l0] at e2
  rw [e2, e1, ← more (30 - x.2.1) 30 (by omega)]
  rfl
def frZ (G : TV) (t : Nat) : Bool := !(isIn G t) || decide (vF G t = -1)
theorem frZ_cut {G : TV} {t : Nat} (hin : isIn G t = true) (u : Nat) (h : frZ G u = true) : frZ (cutS G t) u = true := by
  unfold frZ cutS at *
  rw [isIn_cols hin]
  by_cases e : u = t
  · subst e; rw [upV_rows.1]; simp
  · rw [vF_une e]; exact h
theorem frZ_cut_t {G : TV} {t : Nat} : frZ (cutS G t) t = true := by
  unfold frZ cutS
  rw [upV_rows.1]
  simp
theorem ring_fol {G : TV} {t : Nat} (h : inS G t (nI t) = true) : frZ G t = false := by
  unfold frZ
  rw [inS_isIn h]
  rw [inS_in (inS_isIn h)] at h
  cases e : decide (vF G t = -1) with
  | false => rfl
  | true =>
    rw [of_decide_eq_true e, suS_m1] at h
    cases h
theorem mrings_b {n : Nat} {F : Nat → Bool} (hn : n ≤ 30) : ∀ (r k : Nat) (h : HH) (x : T3), nfc (frZ x.1) 30 ≤ r → r + 1 < k → mgM h x (fun _ => True) (fun _ => True) → clsG n F x.1 → (∀ t, isIn x.1 t = true → t < x.2.1) → x.2.2.length + r ≤ 149 → ∀ y : Int32, ¬ y = -1 → ∃ h', fX8_breaksRings_b2 RM 1 k h y = some h' ∧ frE h h' ∧ mgM h' (mdS r x) (fun _ => True) (fun _ => True) ∧ clsG n F (mdS r x).1 ∧ (∀ t, isIn (mdS r x).1 t = isIn x.1 t) ∧ (mdS r x).2.1 = x.2.1 ∧ ringS (mdS r x).1 = none ∧ (mdS r x).2.2.length ≤ x.2.2.length + r := by
  intro r
  induction r with
  | zero =>
    intro k h x hr hk m hc ht hl y hy
    obtain ⟨k, rfl⟩ : ∃ z, k = z + 1 := ⟨k - 1, by omega⟩
    have hno : ringS x.1 = none := by
      cases e : ringS x.1 with
      | none => rfl
      | some t =>
        obtain ⟨t1, t2⟩ := grt_some e
        have := nfc_0 30 (show nfc (frZ x.1) 30 = 0 by omega) t t1
        rw [ring_fol t2] at this
        cases this
    refine ⟨h, ?_, frE_rfl, m, hc, fun _ => rfl, rfl, hno, Nat.le_refl _⟩
    rw [fX8_breaksRings_b2, if_neg hy, worst_m hn m hc ht, hno, if_neg (fun z => z rfl)]
  | succ r ih =>
    intro k h x hr hk m hc ht hl y hy
    obtain ⟨k, rfl⟩ : ∃ z, k = z + 1 := ⟨k - 1, by omega⟩
    cases hno : ringS x.1 with
    | none =>
      rw [mdS_no hno]
      refine ⟨h, ?_, frE_rfl, m, hc, fun _ => rfl, rfl, hno, by omega⟩
      rw [fX8_breaksRings_b2, if_neg hy, worst_m hn m hc ht, hno, if_neg (fun z => z rfl)]
    | some t =>
      obtain ⟨t1, t2⟩ := grt_some hno
      have hin := inS_isIn t2
      obtain ⟨G, tot, C⟩ := x
      have t2 : inS G t (nI t) = true := t2
      have hin : isIn G t = true := hin
      have hl : C.length + (r + 1) ≤ 149 := hl
      have mz : mgM (up h 37 t (-1)) (cutS G t, tot, C) (fun _ => True) (fun _ => True) := by
        obtain ⟨m1, m2, m3, m4, m5, m6⟩ := m
        refine ⟨fun u hu => ?_, fun u hu _ hui => ?_, fun u hu _ hui => ?_, by rw [up_ne (by decide)]; exact m4, m5, clM_fr (by rw [up_ne (by decide)]) (up_ne (by decide)) (up_ne (by decide)) m6⟩
        · rw [up_ne (by decide)]
          show _ = b2i (isIn (upV G t _) u)
          rw [isIn_cols hin]
          exact m1 u hu
        · have hui : isIn (upV G t (some (-1, vN G t, vC G t))) u = true := hui
          rw [isIn_cols hin] at hui
          show _ = vF (upV G t _) u ∧ _ = vN (upV G t _) u
          rw [up_at, up_ne (show 38 ≠ 37 by decide)]
          have := m2 u hu trivial hui
          by_cases e : u = t
          · subst e
            rw [if_pos rfl]
            exact ⟨upV_rows.1.symm, this.2.trans upV_rows.2.1.symm⟩
          · rw [if_neg e, vF_une e, vN_une e]
            exact this
        · have hui : isIn (upV G t (some (-1, vN G t, vC G t))) u = true := hui
          rw [isIn_cols hin] at hui
          show _ = vC (upV G t _) u
          rw [up_ne (show 39 ≠ 37 by decide)]
          have := m3 u hu trivial hui
          by_cases e : u = t
          · subst e
            exact this.trans upV_rows.2.2.symm
          · rw [vC_une e]
            exact this
      obtain ⟨zc, q1, q2, q3⟩ := mgM_clash mz (by omega) 4 t
      have ecut : ∀ u, isIn (cutS G t) u = isIn G u := fun u => isIn_cols hin
      obtain ⟨h', f1, f2, f3, f4, f5, f6, f7, f8⟩ := ih k zc (cutS G t, tot, C ++ [(4, t)]) (by
        have := nfc_less (g := frZ G) (g' := frZ (cutS G t)) (fun u hu => frZ_cut hin u hu) (ring_fol t2) frZ_cut_t 30 t1
        show nfc (frZ (cutS G t)) 30 ≤ r
        have hr : nfc (frZ G) 30 ≤ r + 1 := hr
        omega) (by omega) q2 (clsG_cut hc hin) (fun u hu => ht u ((ecut u).symm.trans hu)) (by show (C ++ [((4 : Int32), t)]).length + r ≤ 149; simp; omega) (nI t) (m1_ne t (by omega))
      rw [mdS_one hno]
      refine ⟨h', ?_, frE_trans (frE_up (by decide) (by decide)) (frE_trans q3 f2), f3, f4, fun u => (f5 u).trans (ecut u), f6, f7, by
        have : (C ++ [((4 : Int32), t)]).length = C.length + 1 := by simp
        have f8 : (mdS r (cutS G t, tot, C ++ [(4, t)])).2.2.length ≤ (C ++ [((4 : Int32), t)]).length + r := f8
        show (mdS r (cutS G t, tot, C ++ [(4, t)])).2.2.length ≤ C.length + (r + 1)
        omega⟩
      rw [fX8_breaksRings_b2, if_neg hy, worst_m hn m hc ht, hno, if_pos (oI_ne (by omega)), oI_some, M_32, ln_37, gd_in t1 n30, lt_eq, ix_n (show t < 2 ^ 31 by omega), q1, Option.bind_some]
      exact f1
