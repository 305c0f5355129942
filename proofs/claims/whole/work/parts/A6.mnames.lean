/-! names on the reference -/
theorem isAtS_row {v : TV} {t : Nat} {f nm : Int32} (h : isIn v t = true) : isAtS v t f nm = (decide (vF v t = f) && decide (vN v t = nm)) := by
  unfold isIn at h
  unfold isAtS vF vN
  cases e : v t with
  | none => rw [e] at h; cases h
  | some x => rfl
theorem isAtS_no {v : TV} {t : Nat} {f nm : Int32} (h : isIn v t = false) : isAtS v t f nm = false := by
  unfold isIn at h
  unfold isAtS
  cases e : v t with
  | none => rfl
  | some x => rw [e] at h; cases h
theorem isAtS_in {v : TV} {t : Nat} {f nm : Int32} (h : isAtS v t f nm = true) : isIn v t = true ∧ vF v t = f ∧ vN v t = nm := by
  cases e : isIn v t with
  | false => rw [isAtS_no e] at h; cases h
  | true =>
    rw [isAtS_row e] at h
    simp only [Bool.and_eq_true, decide_eq_true_eq] at h
    exact ⟨rfl, h⟩
theorem hadIg_s {h : HH} {n t s : Nat} {F : Nat → Bool} {V : Nat → TV} {P : List PT} (hn : n ≤ 30) (c : ctxM h n F V P) (ht : t < n) (hs : s < 3) (f nm : Int32) (k2 : Int32 → Option Int32) (k : Nat) : fX8_isHadByIgnored_b13 h RM 1 f nm k2 (k + 1) (nI t) (nI s) = if igA V P t = true then (if isAtS (V s) t f nm = true then some 1 else fX8_isHadByIgnored_b13 h RM 1 f nm k2 k (nI t) (nI (s + 1))) else k2 (nI (t + 1)) := by
  obtain ⟨c1, c2, c3, c4⟩ := c
  have t30 : t < 30 := by omega
  have v1 := c2 s hs
  have l3 : ¬ (3 : Int32) ≤ nI s := fun z => by have := (n_le (show (3 : Int32) = nI 3 by decide) (by decide) s (by omega)).mp z; omega
  rw [fX8_isHadByIgnored_b13, M_25, ln_32, gd_in t30 n30, ix_n (show t < 2 ^ 31 by omega), c3 t ht, b2i_if, if_neg l3, M_3, ln_3, gd_in hs (by decide), ix_n (show s < 2 ^ 31 by omega), R_3 s hs, L_3 s hs, gd_in t30 n30, inM_if t30, v1, M_4, ln_7, gd_in hs (by decide), R_7 s hs, L_7 s hs, gd_in t30 n30, M_5, ln_11, gd_in hs (by decide), R_11 s hs, L_11 s hs, gd_in t30 n30]
  simp only [fX8_isHadByIgnored_b74, fX8_isHadByIgnored_b68, n_p1]
  cases igA V P t with
  | false => rfl
  | true =>
    rw [if_pos rfl, if_pos rfl]
    cases hin : isIn (V s) t with
    | false => rw [isAtS_no hin]; rfl
    | true =>
      obtain ⟨r1, r2, r3⟩ := rowsM v1 hin
      rw [if_pos rfl, isAtS_row hin, r1, r2]
      by_cases e1 : vF (V s) t = f
      · by_cases e2 : vN (V s) t = nm
        · simp [e1, e2]
        · simp [e1, e2]
      · simp [e1]
theorem hadIg_m {h : HH} {n : Nat} {F : Nat → Bool} {V : Nat → TV} {P : List PT} (hn : n ≤ 30) (hw : ∀ s, s < 3 → wfT n F (V s)) (c : ctxM h n F V P) (f nm : Int32) : fX8_isHadByIgnored h RM 1 f nm = some (b2i (igH V P f nm)) := by
  have key := loop_find (L := fX8_isHadByIgnored_b2 h RM 1 f nm) (P := fun t => igA V P t && (isAtS (V 0) t f nm || (isAtS (V 1) t f nm || isAtS (V 2) t f nm))) (e := n) (g := fun x => some (b2i x.isSome)) (fun k i hi => by
    obtain ⟨m, hm⟩ : ∃ m, lpF = m + 4 := ⟨4092, rfl⟩
    have ex : igA V P i = true → fX8_isHadByIgnored_b13 h RM 1 f nm (fun z3_ => fX8_isHadByIgnored_b2 h RM 1 f nm k z3_) (m + 1) (nI i) (nI (2 + 1)) = fX8_isHadByIgnored_b2 h RM 1 f nm k (nI (i + 1)) := by
      intro e
      rw [fX8_isHadByIgnored_b13, M_25, ln_32, gd_in (show i < 30 by omega) n30, ix_n (show i < 2 ^ 31 by omega), c.2.2.1 i hi, b2i_if, e, if_pos rfl, if_pos (show (3 : Int32) ≤ nI (2 + 1) by decide)]
      unfold fX8_isHadByIgnored_b74
      rw [n_p1]
    rw [fX8_isHadByIgnored_b2, c.1, if_neg (nI_ge hi (by omega)), hm, l0, hadIg_s hn c hi (by decide), hadIg_s hn c hi (by decide), hadIg_s hn c hi (by decide)]
    cases eg : igA V P i with
    | false => rfl
    | true =>
      rw [ex eg]
      cases isAtS (V 0) i f nm <;> cases isAtS (V 1) i f nm <;> cases isAtS (V 2) i f nm <;> rfl) (fun k => by
    rw [fX8_isHadByIgnored_b2, c.1, if_pos (nI_le (Nat.le_refl n) (by omega))]
    rfl) lpF 0 (by omega) (by rw [lpF_eq]; omega)
  unfold fX8_isHadByIgnored
  rw [l0, key]
  have : igH V P f nm = anyN n (fun t => igA V P t && (isAtS (V 0) t f nm || (isAtS (V 1) t f nm || isAtS (V 2) t f nm))) := by
    apply bool_ext
    unfold igH
    rw [anyN_iff, anyN_iff]
    constructor
    · rintro ⟨t, h1, h2⟩
      simp only [Bool.and_eq_true] at h2
      exact ⟨t, igA_lt hw h2.1, by simp only [Bool.and_eq_true]; exact h2⟩
    · rintro ⟨t, h1, h2⟩
      exact ⟨t, by omega, h2⟩
  rw [this]
  rfl
theorem isHad_m {h : HH} {x : T3} {n b : Nat} {F : Nat → Bool} {V : Nat → TV} {P : List PT} (hn : n ≤ 30) (hw : ∀ s, s < 3 → wfT n F (V s)) (c : ctxM h n F V P) (m : mgM h x (fun _ => True) (fun _ => True)) (hb : b ≤ 30) (f nm : Int32) : fX8_isHad h RM 1 f nm (nI b) = some (b2i (anyN b (fun t => isAtS x.1 t f nm) || igH V P f nm)) := by
  have key := loop_find (L := fX8_isHad_b3 h RM 1 f nm (nI b)) (P := fun t => isAtS x.1 t f nm) (e := b) (g := fun y => if y.isSome = true then some 1 else some (b2i (igH V P f nm))) (fun k i hi => by
    have i30 : i < 30 := by omega
    rw [fX8_isHad_b3, if_neg (nI_ge hi (by omega)), M_30, ln_35, gd_in i30 n30, ix_n (show i < 2 ^ 31 by omega), mgM_if m i30, M_32, ln_37, gd_in i30 n30, M_33, ln_38, gd_in i30 n30]
    simp only [fX8_isHad_b43, n_p1]
    cases hin : isIn x.1 i with
    | false => rw [isAtS_no hin]; rfl
    | true =>
      have hF := m.2.1 i i30 trivial hin
      rw [if_pos rfl, isAtS_row hin, hF.1, hF.2]
      by_cases e1 : vF x.1 i = f
      · by_cases e2 : vN x.1 i = nm
        · simp [e1, e2]
        · simp [e1, e2]
      · simp [e1]) (fun k => by
    rw [fX8_isHad_b3, if_pos (nI_le (Nat.le_refl b) (by omega)), hadIg_m hn hw c, Option.bind_some, bz_t (b2i_01 _)]
    rfl) lpF 0 (by omega) (by rw [lpF_eq]; omega)
  unfold fX8_isHad
  rw [l0, key]
  unfold anyN
  rw [Nat.sub_zero]
  cases fnd (fun t => isAtS x.1 t f nm) 0 b <;> rfl
theorem loop_first {β : Type} {L : Nat → Int32 → Option β} {P : Nat → Bool} {g : Nat → Option β} (hs : ∀ n i, i < 120 → P i = false → L (n + 1) (nI i) = L n (nI (i + 1))) (hg : ∀ n i, i < 120 → P i = true → L (n + 1) (nI i) = g i) : ∀ (d i n k : Nat), fnd P i d = some k → i + d ≤ 120 → d ≤ n → L n (nI i) = g k := by
  intro d
  induction d with
  | zero => intro i n k h; cases h
  | succ d ih =>
    intro i n k h h1 h2
    obtain ⟨n, rfl⟩ : ∃ z, n = z + 1 := ⟨n - 1, by omega⟩
    unfold fnd at h
    by_cases e : P i = true
    · rw [if_pos e] at h
      have := Option.some.inj h
      subst this
      exact hg n i (by omega) e
    · rw [if_neg e] at h
      rw [hs n i (by omega) (by simpa using e)]
      exact ih (i + 1) n k h (by omega) (by omega)
noncomputable def nmC (V : Nat → TV) (P : List PT) (G : TV) (c : Nat) : Int32 := if igA V P (c / 3) = true then vN (V (c % 3)) (c / 3) else vN G (c / 3)
theorem used_code {V : Nat → TV} {P : List PT} {G : TV} {f nm : Int32} (hg : ∀ t, isIn G t = true → igA V P t = false) (h : frB V P G f nm = true) : ∃ c, c < 90 ∧ nmC V P G c = nm := by
  unfold frB at h
  simp only [Bool.or_eq_true] at h
  rcases h with h | h
  · obtain ⟨t, t1, t2⟩ := anyN_iff.mp h
    obtain ⟨q1, q2, q3⟩ := isAtS_in t2
    refine ⟨3 * t, by omega, ?_⟩
    unfold nmC
    rw [show 3 * t / 3 = t by omega, hg t q1]
    exact q3
  · unfold igH at h
    obtain ⟨t, t1, t2⟩ := anyN_iff.mp h
    simp only [Bool.and_eq_true, Bool.or_eq_true] at t2
    obtain ⟨hi, t2⟩ := t2
    have : ∃ s, s < 3 ∧ isAtS (V s) t f nm = true := by
      rcases t2 with t2 | t2 | t2
      · exact ⟨0, by decide, t2⟩
      · exact ⟨1, by decide, t2⟩
      · exact ⟨2, by decide, t2⟩
    obtain ⟨s, s1, s2⟩ := this
    obtain ⟨q1, q2, q3⟩ := isAtS_in s2
    refine ⟨3 * t + s, by omega, ?_⟩
    unfold nmC
    rw [show (3 * t + s) / 3 = t by omega, show (3 * t + s) % 3 = s by omega, hi]
    exact q3
theorem free_ex {V : Nat → TV} {P : List PT} {G : TV} {f : Int32} (hg : ∀ t, isIn G t = true → igA V P t = false) : ∃ k, fnd (fun k => !(frB V P G f (nI k))) 0 120 = some k := by
  cases e : fnd (fun k => !(frB V P G f (nI k))) 0 120 with
  | some k => exact ⟨k, rfl⟩
  | none =>
    exfalso
    have all : ∀ k, k < 120 → frB V P G f (nI k) = true := by
      intro k hk
      cases e2 : frB V P G f (nI k) with
      | true => rfl
      | false =>
        have : anyN 120 (fun k => !(frB V P G f (nI k))) = true := anyN_iff.mpr ⟨k, hk, by rw [e2]; rfl⟩
        unfold anyN at this
        rw [e] at this
        cases this
    have build : ∀ m, m ≤ 91 → ∃ l : List Nat, l.length = m ∧ (∀ c ∈ l, c < 90 ∧ ∃ k, k < m ∧ nmC V P G c = nI k) ∧ l.Nodup := by
      intro m
      induction m with
      | zero => intro _; exact ⟨[], rfl, (fun c hc => by cases hc), List.nodup_nil⟩
      | succ m ih =>
        intro hm
        obtain ⟨l, l1, l2, l3⟩ := ih (by omega)
        obtain ⟨c, c1, c2⟩ := used_code hg (all m (by omega))
        refine ⟨c :: l, by simp [l1], fun d hd => ?_, List.nodup_cons.mpr ⟨fun hc => ?_, l3⟩⟩
        · rcases List.mem_cons.mp hd with e | e
          · rw [e]; exact ⟨c1, m, by omega, c2⟩
          · obtain ⟨d1, k, k1, k2⟩ := l2 d e
            exact ⟨d1, k, by omega, k2⟩
        · obtain ⟨-, k, k1, k2⟩ := l2 c hc
          have := nI_inj (by omega) (by omega) (c2.symm.trans k2)
          omega
    obtain ⟨l, l1, l2, l3⟩ := build 91 (Nat.le_refl _)
    have := nodup_len 90 l l3 (fun c hc => (l2 c hc).1)
    omega
theorem callsAnew_m {h : HH} {n i : Nat} {F : Nat → Bool} {V : Nat → TV} {P : List PT} (hn : n ≤ 30) (hw : ∀ s, s < 3 → wfT n F (V s)) (c : ctxM h n F V P) {G : TV} {tot : Nat} {C : CL} (hl : C.length < 150) (m : mgM h (G, tot, C) (fun _ => True) (fun _ => True)) (hin : isIn G i = true) (ht : ∀ t, isIn G t = true → t < tot) (hg : ∀ t, isIn G t = true → igA V P t = false) : ∃ h', fX8_callsAnew h RM 1 (nI i) = some h' ∧ frE h h' ∧ mgM h' (sp5 V P i (G, tot, C)) (fun _ => True) (fun _ => True) := by
  have tot30 : tot ≤ 30 := m.2.2.2.2.1
  have i30 : i < 30 := by have := ht i hin; omega
  have hF := m.2.1 i i30 trivial hin
  have hF1 : h 37 i = vF G i := hF.1
  have hF2 : h 38 i = vN G i := hF.2
  have hx : sp5 V P i (G, tot, C) = if (anyN i (fun t => isAtS G t (vF G i) (vN G i)) || igH V P (vF G i) (vN G i)) = true then (upV G i (some (vF G i, nI (lfn V P G (vF G i)), vC G i)), tot, C ++ [(3, i)]) else (G, tot, C) := by
    show (if isIn G i = true then _ else _) = _
    rw [if_pos hin]
  rw [hx]
  have had : ∀ nm, anyN tot (fun t => isAtS G t (vF G i) nm) = anyN 30 (fun t => isAtS G t (vF G i) nm) := by
    intro nm
    apply bool_ext
    rw [anyN_iff, anyN_iff]
    exact ⟨fun ⟨t, h1, h2⟩ => ⟨t, by omega, h2⟩, fun ⟨t, h1, h2⟩ => ⟨t, ht t (isAtS_in h2).1, h2⟩⟩
  unfold fX8_callsAnew
  rw [M_32, ln_37, gd_in i30 n30, M_33, ln_38, gd_in i30 n30, ix_n (show i < 2 ^ 31 by omega), hF1, hF2, isHad_m hn hw c m (by omega), Option.bind_some, b2i_ifn]
  show ∃ h', (if (anyN i (fun t => isAtS G t (vF G i) (vN G i)) || igH V P (vF G i) (vN G i)) = true then _ else _) = _ ∧ _
  cases hb : (anyN i (fun t => isAtS G t (vF G i) (vN G i)) || igH V P (vF G i) (vN G i)) with
  | false => exact ⟨h, rfl, frE_rfl, m⟩
  | true =>
    rw [if_pos rfl, if_pos rfl]
    obtain ⟨k0, hk0⟩ := free_ex (f := vF G i) hg
    have hlf : lfn V P G (vF G i) = k0 := by unfold lfn; rw [hk0]; rfl
    rw [hlf]
    have mz : mgM (up h 38 i (nI k0)) (upV G i (some (vF G i, nI k0, vC G i)), tot, C) (fun _ => True) (fun _ => True) := by
      obtain ⟨m1, m2, m3, m4, m5, m6⟩ := m
      refine ⟨fun u hu => ?_, fun u hu _ hui => ?_, fun u hu _ hui => ?_, by rw [up_ne (by decide)]; exact m4, m5, clM_fr (by rw [up_ne (by decide)]) (up_ne (by decide)) (up_ne (by decide)) m6⟩
      · rw [up_ne (by decide)]
        show _ = b2i (isIn (upV G i _) u)
        rw [isIn_cols hin]
        exact m1 u hu
      · have hui : isIn (upV G i (some (vF G i, nI k0, vC G i))) u = true := hui
        rw [isIn_cols hin] at hui
        show _ = vF (upV G i _) u ∧ _ = vN (upV G i _) u
        rw [up_at, up_ne (show 37 ≠ 38 by decide)]
        have := m2 u hu trivial hui
        by_cases e : u = i
        · subst e
          rw [if_pos rfl]
          exact ⟨this.1.trans upV_rows.1.symm, upV_rows.2.1.symm⟩
        · rw [if_neg e, vF_une e, vN_une e]
          exact this
      · have hui : isIn (upV G i (some (vF G i, nI k0, vC G i))) u = true := hui
        rw [isIn_cols hin] at hui
        show _ = vC (upV G i _) u
        rw [up_ne (show 39 ≠ 38 by decide)]
        have := m3 u hu trivial hui
        by_cases e : u = i
        · subst e
          exact this.trans upV_rows.2.2.symm
        · rw [vC_une e]
          exact this
    obtain ⟨zc, q1, q2, q3⟩ := mgM_clash mz hl 3 i
    have head : ∀ (k j : Nat), fX8_callsAnew_b23 RM 1 (nI i) (k + 1) h (nI j) = if frB V P G (vF G i) (nI j) = true then fX8_callsAnew_b23 RM 1 (nI i) k h (nI (j + 1)) else (fX8_clashes (up h 38 i (nI j)) RM 1 3 (nI i)).bind (fun h57 => some h57) := by
      intro k j
      have e27 : h 1 27 = nI tot := m.2.2.2.1
      rw [fX8_callsAnew_b23, M_32, ln_37, gd_in i30 n30, ix_n (show i < 2 ^ 31 by omega), hF1, e27, isHad_m hn hw c m tot30, Option.bind_some, b2i_if, M_33, ln_38, gd_in i30 n30, lt_eq, n_p1]
      show (if (anyN tot (fun t => isAtS G t (vF G i) (nI j)) || igH V P (vF G i) (nI j)) = true then _ else _) = _
      rw [had]
      rfl
    have key := loop_first (L := fun k y => fX8_callsAnew_b23 RM 1 (nI i) k h y) (P := fun k => !(frB V P G (vF G i) (nI k))) (g := fun j => (fX8_clashes (up h 38 i (nI j)) RM 1 3 (nI i)).bind (fun h57 => some h57)) (fun k j _ hp => by
      show fX8_callsAnew_b23 RM 1 (nI i) (k + 1) h (nI j) = _
      rw [head, if_pos (by simpa using hp)]) (fun k j _ hp => by
      show fX8_callsAnew_b23 RM 1 (nI i) (k + 1) h (nI j) = _
      rw [head, if_neg (by simpa using hp)]) 120 0 lpF k0 hk0 (by omega) (by rw [lpF_eq]; omega)
    refine ⟨zc, ?_, frE_trans (frE_up (by decide) (by decide)) q3, q2⟩
    have key : fX8_callsAnew_b23 RM 1 (nI i) lpF h (nI 0) = (fX8_clashes (up h 38 i (nI k0)) RM 1 3 (nI i)).bind (fun h57 => some h57) := key
    rw [l0, key, q1, Option.bind_some]
