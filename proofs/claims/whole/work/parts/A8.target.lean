/-! the ways up end; target, clash -/
def rch (v : TV) : Nat → Int32 → Int32 → Prop
  | 0, y, x => y = x
  | k + 1, y, x => ∃ g, g < 30 ∧ y = nI g ∧ isIn v g = true ∧ rch v k (vF v g) x
theorem rch_su {v : TV} {g : Nat} (hg : g < 30) (hgi : isIn v g = true) : ∀ {k : Nat} {y : Int32}, rch v k y (nI g) → (suS v (nI g) (k + 1) y).isSome = true := by
  intro k
  induction k with
  | zero =>
    intro y h
    have h : y = nI g := h
    rw [h, suS_succ hg hgi, if_pos rfl]
    rfl
  | succ k ih =>
    intro y h
    obtain ⟨u, hu, rfl, hui, hr⟩ := h
    rw [suS_succ hu hui]
    split
    · rfl
    · have := ih hr
      cases e : suS v (nI g) (k + 1) (vF v u) with
      | none => rw [e] at this; cases this
      | some a => rfl
theorem rch_app {v : TV} {g : Nat} (hg : g < 30) (hgi : isIn v g = true) : ∀ {k : Nat} {y : Int32}, rch v k y (nI g) → rch v (k + 1) y (vF v g) := by
  intro k
  induction k with
  | zero =>
    intro y h
    have h : y = nI g := h
    exact ⟨g, hg, h, hgi, rfl⟩
  | succ k ih =>
    intro y h
    obtain ⟨u, hu, e, hui, hr⟩ := h
    exact ⟨u, hu, e, hui, ih hr⟩
theorem noring_ends {G : TV} {n : Nat} {F : Nat → Bool} (hn : n ≤ 30) (hc : clsG n F G) (hr : ringS G = none) : ∀ (m : Nat) (l : List Nat) (x : Int32), l.length + m = 30 → l.Nodup → (∀ u ∈ l, u < 30 ∧ isIn G u = true ∧ ∃ k, rch G k (vF G u) x) → (x = -1 ∨ ∃ g, g < 30 ∧ x = nI g ∧ isIn G g = true) → endsV G m x := by
  have nor : ∀ g, g < 30 → isIn G g = true → ∀ k, ¬ rch G k (vF G g) (nI g) := by
    intro g hg hgi k hk
    have h1 := rch_su hg hgi hk
    cases e : suS G (nI g) (k + 1) (vF G g) with
    | none => rw [e] at h1; cases h1
    | some a =>
      obtain ⟨l, l1, l2, l3, -⟩ := endsX_list (su_cut hg hgi e)
      have := nodup_len 30 l l3 l2
      have h2 := grt_none hr g hg
      have h3 : inS G g (nI g) = true := by rw [inS_in hgi, suS_fuel e (show a < 31 by omega)]; rfl
      have h2 : inS G g (nI g) = false := h2
      rw [h3] at h2
      cases h2
  intro m
  induction m with
  | zero =>
    intro l x hl hnd hall hx
    rcases hx with hx | ⟨g, hg, hx, hgi⟩
    · exact hx
    · exfalso
      subst hx
      have hnot : g ∉ l := fun hm => by
        obtain ⟨-, -, k, hk⟩ := hall g hm
        exact nor g hg hgi k hk
      have := nodup_len 30 (g :: l) (List.nodup_cons.mpr ⟨hnot, hnd⟩) (fun u hu => by
        rcases List.mem_cons.mp hu with e | e
        · rw [e]; exact hg
        · exact (hall u e).1)
      simp at this
      omega
  | succ m ih =>
    intro l x hl hnd hall hx
    rcases hx with hx | ⟨g, hg, hx, hgi⟩
    · exact Or.inl hx
    · subst hx
      have hnot : g ∉ l := fun hm => by
        obtain ⟨-, -, k, hk⟩ := hall g hm
        exact nor g hg hgi k hk
      refine Or.inr ⟨g, hg, rfl, hgi, ih (g :: l) (vF G g) (by simp; omega) (List.nodup_cons.mpr ⟨hnot, hnd⟩) (fun u hu => ?_) ?_⟩
      · rcases List.mem_cons.mp hu with e | e
        · subst e; exact ⟨hg, hgi, 0, rfl⟩
        · obtain ⟨u1, u2, k, hk⟩ := hall u e
          exact ⟨u1, u2, k + 1, rch_app hg hgi hk⟩
      · rcases (hc g hgi).2 with z | ⟨u, u1, u2, u3, u4⟩
        · exact Or.inl z
        · exact Or.inr ⟨u, by omega, u2, u3⟩
theorem tg_ends {G : TV} {n t : Nat} {F : Nat → Bool} (hn : n ≤ 30) (hc : clsG n F G) (hr : ringS G = none) (hin : isIn G t = true) : endsV G 29 (vF G t) := by
  refine noring_ends hn hc hr 29 [t] (vF G t) rfl (by simp) (fun u hu => ?_) ?_
  · have e : u = t := by simpa using hu
    subst e
    exact ⟨(hc u hin).1, hin, 0, rfl⟩
  · rcases (hc t hin).2 with z | ⟨u, u1, u2, u3, u4⟩
    · exact Or.inl z
    · exact Or.inr ⟨u, by omega, u2, u3⟩
theorem willDeep_b {h : HH} {x : T3} (m : mgM h x (fun _ => True) (fun _ => True)) (t0 : Int32) : ∀ (k q K j : Nat) (y : Int32), endsV x.1 k y → k < q → k ≤ K → fX8_willDeep_b9 h RM 1 t0 q (nI j) y = some (nI (j + dpS x.1 K y)) := by
  intro k
  induction k with
  | zero =>
    intro q K j y he hq hK
    obtain ⟨q, rfl⟩ : ∃ m, q = m + 1 := ⟨q - 1, by omega⟩
    have he : y = -1 := he
    rw [fX8_willDeep_b9, if_pos he, he, dpS_m1]
    rfl
  | succ k ih =>
    intro q K j y he hq hK
    obtain ⟨q, rfl⟩ : ∃ m, q = m + 1 := ⟨q - 1, by omega⟩
    obtain ⟨K, rfl⟩ : ∃ m, K = m + 1 := ⟨K - 1, by omega⟩
    rcases he with he | ⟨g, hg, he, hin, hrec⟩
    · rw [fX8_willDeep_b9, if_pos he, he, dpS_m1]
      rfl
    · subst he
      rw [fX8_willDeep_b9, if_neg (m1_ne g (by omega)), dpS_succ hg hin, M_32, ln_37, gd_in hg n30, lt_eq, ix_n (show g < 2 ^ 31 by omega), (m.2.1 g hg trivial hin).1, n_p1, ih q K (j + 1) _ hrec (by omega) (by omega), show j + 1 + dpS x.1 K (vF x.1 g) = j + (dpS x.1 K (vF x.1 g) + 1) by omega]
def dpG (G : TV) (t : Nat) : Nat := dpS G 29 (vF G t)
theorem willDeep_m {h : HH} {x : T3} {n t : Nat} {F : Nat → Bool} (hn : n ≤ 30) (m : mgM h x (fun _ => True) (fun _ => True)) (hc : clsG n F x.1) (hr : ringS x.1 = none) (hin : isIn x.1 t = true) : fX8_willDeep h RM 1 (nI t) = some (nI (dpG x.1 t)) := by
  have t30 := (hc t hin).1
  unfold fX8_willDeep
  rw [M_32, ln_37, gd_in t30 n30, lt_eq, ix_n (show t < 2 ^ 31 by omega), (m.2.1 t t30 trivial hin).1, l0, willDeep_b m (nI t) 29 lpF 29 0 _ (tg_ends hn hc hr hin) (by rw [lpF_eq]; omega) (Nat.le_refl _), Nat.zero_add]
  rfl
theorem goalDepth_a {h : HH} {x : T3} {t : Nat} (m : mgA h x) (t30 : t < 30) : fX5_depth h RA 108 (nI t) = some (if isIn x.1 t = true then nI (dpG x.1 t) else -1) := by
  cases hin : isIn x.1 t with
  | true =>
    have := depth_in isT_108 (h := h) (t := t) (by rw [m.1]; exact hin)
    rw [this, m.1]
    rfl
  | false =>
    have := depth_no isT_108 (h := h) t30 (by rw [m.1]; exact hin)
    rw [this]
    rfl
/-- both at once -/
theorem both_settle {hA hM : HH} {n : Nat} {F : Nat → Bool} {V : Nat → TV} {P : List PT} {pr c0 c1 c2 : Int32} {K : Option WS} {tp : List Int32} {S : Nat → SH} (first : Nat) (hf : first < 2) (i1 : wfS (n, F, V, P, pr, c0, c1, c2)) (i2 : ∀ y, K = some y → wfS y) (i3 : soS S) (i4 : wA hA 2 (n, F, V, P, pr, c0, c1, c2)) (i5 : wM hM (n, F, V, P, pr, c0, c1, c2)) (i6 : reA hA K tp S) (i7 : reM hM K tp S) : ∃ hA' hM', fX0_settle hA RA 103 2 (nI first) = some hA' ∧ fX8_tellTarget hM RM 1 (nI first) = some hM' ∧ wA hA' 2 (n, F, V, P, pr, c0, c1, c2) ∧ wM hM' (n, F, V, P, pr, c0, c1, c2) ∧ reA hA' K tp S ∧ reM hM' K tp S ∧ ctxA hA' 2 n V P first ∧ mgA hA' (t5S V P n first) ∧ ctxM hM' n F V P ∧ mgM hM' (t5S V P n first) (fun _ => True) (fun _ => True) ∧ tgOK V P n F (t5S V P n first) := by
  have hall : ∀ s, s < 3 → wfT n F (V s) := i1.1
  obtain ⟨hA', a1, a2, a3, a4, a5⟩ := settle_a w268_2 hf i4 hall
  obtain ⟨hM', b1, b2, b3, b4, b5⟩ := tellTarget_m hf i5 hall
  exact ⟨hA', hM', a1, b1, a3, b3, reA_eq (by rw [a2 1 (by decide) (by decide)]) (fun q hq => a2 q (by omega) (by omega)) i6, reM_frK b2 i7, a4, a5, b4, b5, (t5_ok i4.1 hf hall).1⟩
theorem pr_first {n : Nat} {F : Nat → Bool} {V : Nat → TV} {P : List PT} {pr c0 c1 c2 : Int32} (h : okP (n, F, V, P, pr, c0, c1, c2)) : ∃ first, first < 2 ∧ pr = nI first := by
  have h : pr = 0 ∨ pr = 1 := h
  rcases h with h | h
  · exact ⟨0, by decide, h⟩
  · exact ⟨1, by decide, h⟩
theorem in_k {k : Nat} (hk : k + 1 < 2 ^ 31) (a : Int32) : (!(decide (a < 0)) && !(decide (nI k < a))) = thB (k + 1) a := by
  unfold thB
  by_cases h0 : a < 0
  · simp [h0]
  · obtain ⟨p, hp, rfl⟩ := nI_of h0
    have e1 := nI_ltI (show k < 2 ^ 31 by omega) hp
    have e2 := nI_leI hk hp
    have : decide (nI k < nI p) = decide (nI (k + 1) ≤ nI p) := by
      rw [decide_eq_decide, e1, e2]
      omega
    rw [this]
theorem gate_le {α : Type} {k : Nat} (hk : k + 1 < 2 ^ 31) (a : Int32) (x y : α) : (if a < 0 then x else if a ≤ nI k then y else x) = if thB (k + 1) a = true then y else x := by
  unfold thB
  by_cases h0 : a < 0
  · simp [h0]
  · obtain ⟨p, hp, rfl⟩ := nI_of h0
    have e1 := nI_leI hp (show k < 2 ^ 31 by omega)
    have e2 := nI_leI hk hp
    rw [if_neg h0]
    by_cases e : p ≤ k
    · rw [if_pos (e1.mpr e), if_pos]
      simp only [h0, decide_false, Bool.not_false, Bool.true_and, Bool.not_eq_true', decide_eq_false_iff_not]
      rw [e2]; omega
    · rw [if_neg (fun z => e (e1.mp z)), if_neg]
      simp only [h0, decide_false, Bool.not_false, Bool.true_and, Bool.not_eq_true', decide_eq_false_iff_not]
      rw [e2]; omega
theorem gate_ge {α : Type} {k : Nat} (a : Int32) (x y : α) : (if a < 0 then x else if nI k ≤ a then x else y) = if thB k a = true then y else x := by
  unfold thB
  by_cases h0 : a < 0
  · simp [h0]
  · by_cases h1 : nI k ≤ a <;> simp [h0, h1]
theorem s_target : S_target Inv := by
  rintro hA hM I0 a b
  have I1 := I0
  obtain ⟨⟨n, F, V, P, pr, c0, c1, c2⟩, K, tp, S, i1, i2, i3, i4, i5, i6, i7⟩ := I0
  have hn : n ≤ 30 := i4.1
  obtain ⟨first, hf, rfl⟩ := pr_first i1.2
  have epA : hA 2 5 = nI first := i4.2.2.2.2.2.2.2.2.2.1
  have epM : hM 1 1 = nI first := i5.2.2.2.2.2.2.2.1
  obtain ⟨hA', hM', a1, b1, w1, w2, r1, r2, x1, x2, y1, y2, ok⟩ := both_settle first hf i1 i2 i3 i4 i5 i6 i7
  have inv : Inv hA' hM' := ⟨_, K, tp, S, i1, i2, i3, w1, w2, r1, r2⟩
  have k29 : (29 : Int32) = nI 29 := by decide
  have k3 : (3 : Int32) = nI 3 := by decide
  unfold fX7_target fX8_target
  rw [A_10, A_15, epA, epM, a1, b1]
  simp only [in_m, Option.bind_some, b2i_if, b2i_ifn]
  rw [k29, in_k (by decide), k3, in_k (by decide), l30, gate_ge, gate_le (by decide)]
  cases ha : thB (29 + 1) a with
  | false =>
    exact ⟨-2, hA, hM, rfl, rfl, I1⟩
  | true =>
    have ha : thB 30 a = true := ha
    rw [if_pos rfl, if_pos rfl]
    cases hb : thB (3 + 1) b with
    | false => exact ⟨-2, hA, hM, rfl, rfl, I1⟩
    | true =>
      rw [if_pos rfl, if_pos rfl]
      obtain ⟨t, ht, rfl⟩ := thB_n (Nat.le_refl 30) ha
      obtain ⟨j, hj, rfl⟩ := thB_n (by decide) hb
      obtain ⟨k1, k2, k3, k4, k5, k6⟩ := G_g
      obtain ⟨q1, q2, q3⟩ := mgA_rows x2 ht
      have hz : ∀ z : Nat, z < 4 → (nI j = nI z ↔ j = z) := fun z hz => ⟨fun e => nI_inj (by omega) (by omega) e, fun e => by rw [e]⟩
      have j0 : ((nI j = 0) ↔ j = 0) := hz 0 (by decide)
      have j1 : ((nI j = 1) ↔ j = 1) := hz 1 (by decide)
      have j2 : ((nI j = 2) ↔ j = 2) := hz 2 (by decide)
      rw [G_3, k1, k2, k3, k4, k5, k6, gd_in ht n30, gd_in ht n30, gd_in ht n30, ix_n (show t < 2 ^ 31 by omega), q1, q2, q3, goalDepth_a x2 ht, Option.bind_some, M_30, ln_35, gd_in ht n30, M_32, ln_37, M_33, ln_38, M_34, ln_39, gd_in ht n30, gd_in ht n30, gd_in ht n30, y2.1 t ht, b2i_ifn]
      simp only [j0, j1, j2]
      cases hin : isIn (t5S V P n first).1 t with
      | false =>
        have e : (t5S V P n first).1 t = none := by
          unfold isIn at hin
          cases e : (t5S V P n first).1 t with
          | none => rfl
          | some y => rw [e] at hin; cases hin
        have f1 : vF (t5S V P n first).1 t = -1 := by unfold vF; rw [e]
        have f2 : vN (t5S V P n first).1 t = -1 := by unfold vN; rw [e]
        have f3 : vC (t5S V P n first).1 t = -1 := by unfold vC; rw [e]
        rw [f1, f2, f3]
        refine ⟨-1, hA', hM', ?_, rfl, inv⟩
        by_cases d0 : j = 0
        · rw [if_pos d0]
        · rw [if_neg d0]
          by_cases d1 : j = 1
          · rw [if_pos d1]
          · rw [if_neg d1]
            by_cases d2 : j = 2
            · rw [if_pos d2]
            · rw [if_neg d2]; rfl
      | true =>
        obtain ⟨g1, g2⟩ := y2.2.1 t ht trivial hin
        have g3 := y2.2.2.1 t ht trivial hin
        rw [if_pos rfl, if_pos rfl, g1, g2, g3, willDeep_m hn y2 ok.2.2.2.2.1 ok.2.2.2.2.2.1 hin, Option.bind_some]
        by_cases d0 : j = 0
        · exact ⟨_, hA', hM', by rw [if_pos d0], by rw [if_neg (fun z => z d0)], inv⟩
        · by_cases d1 : j = 1
          · exact ⟨_, hA', hM', by rw [if_neg d0, if_pos d1], by rw [if_pos d0, if_neg (fun z => z d1)], inv⟩
          · by_cases d2 : j = 2
            · exact ⟨_, hA', hM', by rw [if_neg d0, if_neg d1, if_pos d2], by rw [if_pos d0, if_pos d1, if_neg (fun z => z d2)], inv⟩
            · exact ⟨_, hA', hM', by rw [if_neg d0, if_neg d1, if_neg d2], by rw [if_pos d0, if_pos d1, if_pos d2], inv⟩
theorem s_clash : S_clash Inv := by
  rintro hA hM I0 a b
  have I1 := I0
  obtain ⟨⟨n, F, V, P, pr, c0, c1, c2⟩, K, tp, S, i1, i2, i3, i4, i5, i6, i7⟩ := I0
  have hn : n ≤ 30 := i4.1
  obtain ⟨first, hf, rfl⟩ := pr_first i1.2
  have epA : hA 2 5 = nI first := i4.2.2.2.2.2.2.2.2.2.1
  have epM : hM 1 1 = nI first := i5.2.2.2.2.2.2.2.1
  obtain ⟨hA', hM', a1, b1, w1, w2, r1, r2, x1, x2, y1, y2, ok⟩ := both_settle first hf i1 i2 i3 i4 i5 i6 i7
  have inv : Inv hA' hM' := ⟨_, K, tp, S, i1, i2, i3, w1, w2, r1, r2⟩
  have k1 : (1 : Int32) = nI 1 := by decide
  have hlen : (t5S V P n first).2.2.length ≤ 150 := ok.2.2.2.2.2.2
  have cA := x2.2.2.2.2
  have cM := y2.2.2.2.2.2
  have g2 : ∀ (x y : Option (Int32 × HH)), (if a < 0 then x else if a < nI (t5S V P n first).2.2.length then y else x) = if thB (t5S V P n first).2.2.length a = true then y else x := by
    intro x y
    unfold thB
    by_cases h0 : a < 0
    · simp [h0]
    · obtain ⟨p, hp, rfl⟩ := nI_of h0
      have e1 := nI_ltI hp (show (t5S V P n first).2.2.length < 2 ^ 31 by omega)
      have e2 := nI_leI (show (t5S V P n first).2.2.length < 2 ^ 31 by omega) hp
      rw [if_neg h0]
      by_cases e : p < (t5S V P n first).2.2.length
      · rw [if_pos (e1.mpr e), if_pos]
        simp only [h0, decide_false, Bool.not_false, Bool.true_and, Bool.not_eq_true', decide_eq_false_iff_not]
        rw [e2]; omega
      · rw [if_neg (fun z => e (e1.mp z)), if_neg]
        simp only [h0, decide_false, Bool.not_false, Bool.true_and, Bool.not_eq_true', decide_eq_false_iff_not]
        rw [e2]; omega
  unfold fX7_clash fX8_clash
  rw [A_10, A_15, epA, epM, a1, b1]
  simp only [in_m, Option.bind_some, b2i_if, b2i_ifn]
  rw [cA.1, cM.1, g2, in_pred (show (t5S V P n first).2.2.length < 2 ^ 31 by omega), k1, in_k (by decide), gate_le (by decide)]
  cases hb : thB (1 + 1) b with
  | false => exact ⟨-2, hA, hM, rfl, rfl, I1⟩
  | true =>
    rw [if_pos rfl, if_pos rfl]
    cases ha : thB (t5S V P n first).2.2.length a with
    | false => exact ⟨-12, hA', hM', rfl, rfl, inv⟩
    | true =>
      rw [if_pos rfl, if_pos rfl]
      obtain ⟨i, hi, e⟩ : ∃ i, i < (t5S V P n first).2.2.length ∧ a = nI i := by
        unfold thB at ha
        simp only [Bool.and_eq_true, Bool.not_eq_true', decide_eq_false_iff_not] at ha
        obtain ⟨p, hp, rfl⟩ := nI_of ha.1
        exact ⟨p, by have := mt (nI_leI (show (t5S V P n first).2.2.length < 2 ^ 31 by omega) hp).mpr ha.2; omega, rfl⟩
      subst e
      obtain ⟨u1, u2⟩ := cA.2 i _ (List.getElem?_eq_getElem hi)
      obtain ⟨v1, v2⟩ := cM.2 i _ (List.getElem?_eq_getElem hi)
      rw [G_6, G_7, Gl_113, Gl_114, gd_in (show i < 150 by omega) (by decide), gd_in (show i < 150 by omega) (by decide), ix_n (show i < 2 ^ 31 by omega), u1, u2, M_28, M_29, ln_33, ln_34, gd_in (show i < 200 by omega) (by decide), gd_in (show i < 200 by omega) (by decide), v1, v2]
      by_cases b0 : b = 0
      · rw [if_neg (fun z => z b0), if_neg (fun z => z b0)]
        exact ⟨_, hA', hM', rfl, rfl, inv⟩
      · rw [if_pos b0, if_pos b0]
        exact ⟨_, hA', hM', rfl, rfl, inv⟩
