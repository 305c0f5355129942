/-! TARGET's folders are of TARGET -/
theorem sds_in {V : Nat → TV} {B : Nat → Nat → Bool} {first t : Nat} (hf : first < 2) (hB : ∀ s, B s t = true → isIn (V s) t = true) (hh : isIn (V 0) t = true ∨ isIn (V 1) t = true) : isIn (V (sdS V B first t)) t = true := by
  unfold sdS
  by_cases e : isIn (V first) t = true
  · rw [if_pos e]
    by_cases e2 : (B (1 - first) t && !(B first t)) = true
    · rw [if_pos e2]
      simp only [Bool.and_eq_true] at e2
      exact hB _ e2.1
    · rw [if_neg e2]; exact e
  · rw [if_neg e]
    have : first = 0 ∨ first = 1 := by omega
    rcases this with rfl | rfl
    · rcases hh with z | z
      · exact absurd z e
      · exact z
    · rcases hh with z | z
      · exact z
      · exact absurd z e
theorem su_next {v : TV} {t g : Nat} (t30 : t < 30) (ht : isIn v t = true) (hf : vF v t = nI g) (hg : g < 30) (hgi : isIn v g = true) : ∀ {K : Nat} {x : Int32} {a : Nat}, suS v (nI t) K x = some a → (suS v (nI g) (K + 1) x).isSome = true := by
  intro K
  induction K with
  | zero => intro x a h; cases h
  | succ K ih =>
    intro x a h
    unfold suS at h
    split at h
    · cases h
    · rename_i hx
      obtain ⟨u, hu, rfl⟩ := i30 hx
      rw [ix_n (by omega)] at h
      cases e : v u with
      | none => rw [e] at h; cases h
      | some y =>
        obtain ⟨f, b, c⟩ := y
        have hui : isIn v u = true := by unfold isIn; rw [e]; rfl
        have hvf : vF v u = f := by unfold vF; rw [e]
        rw [e] at h
        simp only at h
        rw [suS_succ hu hui]
        by_cases e1 : nI u = nI g
        · rw [if_pos e1]; rfl
        · rw [if_neg e1]
          by_cases e2 : nI u = nI t
          · have : u = t := nI_inj (by omega) (by omega) e2
            subst this
            rw [hf, suS_succ hg hgi, if_pos rfl]
            rfl
          · rw [if_neg e2] at h
            rw [hvf]
            cases hz : suS v (nI t) K f with
            | none => rw [hz] at h; cases h
            | some b =>
              have := ih hz
              cases hq : suS v (nI g) (K + 1) f with
              | none => rw [hq] at this; cases this
              | some d => rfl
theorem inS_next {v : TV} {n t g k : Nat} {F : Nat → Bool} (hn : n ≤ 30) (hw : wfT n F v) (ht : isIn v t = true) (hf : vF v t = nI g) (hgi : isIn v g = true) (h : inS v k (nI t) = true) : inS v k (nI g) = true := by
  have hk := inS_isIn h
  have h30 : t < 30 := by have := (hw t ht).1; omega
  have g30 : g < 30 := by have := (hw g hgi).1; omega
  rw [inS_in hk] at h ⊢
  cases hz : suS v (nI t) 31 (vF v k) with
  | none => rw [hz] at h; cases h
  | some a =>
    have := su_next h30 ht hf g30 hgi hz
    rw [suS_stab ((hw k hk).2.2) (show 29 < 31 by omega) (show 29 < 31 + 1 by omega)]
    exact this
theorem inS_direct {v : TV} {t g : Nat} (ht : isIn v t = true) (hf : vF v t = nI g) (hg : g < 30) (hgi : isIn v g = true) : inS v t (nI g) = true := by
  rw [inS_in ht, hf, suS_succ hg hgi, if_pos rfl]
  rfl
theorem tg_closed {V : Nat → TV} {P : List PT} {n first t : Nat} {F : Nat → Bool} (hn : n ≤ 30) (hf : first < 2) (hw : ∀ s, s < 3 → wfT n F (V s)) (htg : tgB V P n t = true) : plF V P first t = -1 ∨ ∃ g, g < n ∧ plF V P first t = nI g ∧ tgB V P n g = true ∧ F g = true := by
  obtain ⟨hh, hig⟩ := tg_here htg
  have hh2 : isIn (V 0) t = true ∨ isIn (V 1) t = true := by
    unfold hereB at hh
    simp only [Bool.and_eq_true, Bool.or_eq_true] at hh
    exact hh.2
  have hs2 : sdS V (mvI V P) first t < 2 := sdS_lt hf
  have hsin := sds_in (B := mvI V P) (t := t) hf (fun s hs => (mv_in hs).2) hh2
  have hmv : isIn (V first) t = true → mvI V P first t = false → mvI V P (1 - first) t = true → sdS V (mvI V P) first t = 1 - first := by
    intro a b c
    unfold sdS
    rw [if_pos a, if_pos (by rw [b, c]; rfl)]
  have hmv2 : sdS V (mvI V P) first t = first ∨ (sdS V (mvI V P) first t = 1 - first ∧ (isIn (V first) t = false ∨ mvI V P (1 - first) t = true)) := by
    unfold sdS
    by_cases e : isIn (V first) t = true
    · rw [if_pos e]
      by_cases e2 : (mvI V P (1 - first) t && !(mvI V P first t)) = true
      · rw [if_pos e2]
        simp only [Bool.and_eq_true] at e2
        exact Or.inr ⟨rfl, Or.inr e2.1⟩
      · rw [if_neg e2]; exact Or.inl rfl
    · rw [if_neg e]
      exact Or.inr ⟨rfl, Or.inl (by simpa using e)⟩
  unfold plF
  generalize sdS V (mvI V P) first t = s at hs2 hsin hmv hmv2
  obtain ⟨q1, q2, q3⟩ := hw s (by omega) t hsin
  rcases q2 with q2 | ⟨g, g1, g2, g3, g4⟩
  · exact Or.inl q2
  refine Or.inr ⟨g, g1, g2, ?_, g4⟩
  have hgig : igA V P g = false := by
    cases e : igA V P g with
    | false => rfl
    | true =>
      have : igA V P t = true := igA_closed t ((stI_spec hn hw).mpr ⟨s, by omega, hsin, g, g1, g2, g3, e⟩)
      rw [this] at hig
      cases hig
  have hgh : hereB V P g = true := by
    unfold hereB
    rw [hgig]
    have : s = 0 ∨ s = 1 := by omega
    rcases this with rfl | rfl <;> simp [g3]
  unfold tgB
  rw [hgh, Bool.true_and]
  cases hgo : goB2 V P g with
  | false => rfl
  | true =>
    rw [Bool.not_true, Bool.false_or]
    -- it is gone on the other side
    have hgone : gnI V P (1 - s) g = true ∧ gsd V P g = s ∧ isIn (V 2) g = true ∧ isIn (V (1 - s)) g = false := by
      unfold goB2 at hgo
      unfold gsd
      unfold gnI gnB at hgo ⊢
      rw [hgig] at hgo ⊢
      have : s = 0 ∨ s = 1 := by omega
      rcases this with rfl | rfl
      · rw [g3] at hgo ⊢
        simp at hgo
        simp [hgo]
      · rw [g3] at hgo
        simp at hgo
        simp [hgo]
    obtain ⟨k1, k2, k3, k4⟩ := hgone
    rw [k2]
    unfold kpB
    have h30 : g < 30 := by omega
    have fin : ∀ k, k < n → stB V P s g k = true → ((mvI V P s g || wrI V P s g) || anyN n (stB V P s g)) = true := by
      intro k hk hst
      rw [anyN_iff.mpr ⟨k, hk, hst⟩, Bool.or_true]
    by_cases hch : (cmI V P s t || (mvI V P s t || wrI V P s t)) = true
    · refine fin t q1 ?_
      unfold stB
      rw [hch, Bool.or_true, Bool.true_and]
      exact inS_direct hsin g2 h30 g3
    · have hch : (cmI V P s t || (mvI V P s t || wrI V P s t)) = false := by simpa using hch
      simp only [Bool.or_eq_false_iff] at hch
      obtain ⟨hcm, hm, hwr⟩ := hch
      have hin2 : isIn (V 2) t = true := by
        unfold cmI cmB at hcm
        rw [hig, hsin] at hcm
        cases e : isIn (V 2) t with
        | true => rfl
        | false => rw [e] at hcm; cases hcm
      cases ho : isIn (V (1 - s)) t with
      | false =>
        have ht2 : goB2 V P t = true ∧ gsd V P t = s := by
          unfold goB2 gsd gnI gnB
          rw [hig, hin2]
          have : s = 0 ∨ s = 1 := by omega
          rcases this with rfl | rfl
          · have ho : isIn (V 1) t = false := ho
            rw [hsin, ho]; exact ⟨rfl, rfl⟩
          · have ho : isIn (V 0) t = false := ho
            rw [hsin, ho]; exact ⟨rfl, rfl⟩
        unfold tgB at htg
        rw [hh, ht2.1, ht2.2, Bool.true_and, Bool.not_true, Bool.false_or] at htg
        unfold kpB at htg
        rw [hm, hwr, Bool.false_or, Bool.false_or] at htg
        obtain ⟨k, kn, kst⟩ := anyN_iff.mp htg
        refine fin k kn ?_
        unfold stB at kst ⊢
        simp only [Bool.and_eq_true] at kst ⊢
        exact ⟨kst.1, inS_next hn (hw s (by omega)) hsin g2 g3 kst.2⟩
      | true =>
        exfalso
        have hmo : mvI V P (1 - s) t = false := by
          cases e : mvI V P (1 - s) t with
          | false => rfl
          | true =>
            rcases hmv2 with z | ⟨z, z2⟩
            · rw [← z] at hmv
              have := hmv hsin hm e
              omega
            · have z1 : 1 - s = first := by omega
              have z3 : 1 - first = s := by omega
              rcases z2 with z2 | z2
              · rw [← z1, ho] at z2; cases z2
              · rw [z3, hm] at z2; cases z2
        have a1 := (mv_eq hm hig hin2 hsin).1
        have a2 := (mv_eq hmo hig hin2 ho).1
        obtain ⟨-, r2, -⟩ := hw (1 - s) (by omega) t ho
        rcases r2 with r2 | ⟨g', b1, b2, b3, b4⟩
        · rw [a2, ← a1, g2] at r2
          exact m1_ne g (by omega) r2
        · have : g' = g := nI_inj (by omega) (by omega) (by rw [← b2, a2, ← a1, g2])
          rw [this, k4] at b3
          cases b3
/-- folders of TARGET -/
def clsG (n : Nat) (F : Nat → Bool) (G : TV) : Prop := ∀ t, isIn G t = true → t < 30 ∧ (vF G t = -1 ∨ ∃ g, g < n ∧ vF G t = nI g ∧ isIn G g = true ∧ F g = true)
theorem t3_cls {V : Nat → TV} {P : List PT} {n first : Nat} {F : Nat → Bool} (hn : n ≤ 30) (hf : first < 2) (hw : ∀ s, s < 3 → wfT n F (V s)) : clsG n F (t3S V P n first).1 := by
  obtain ⟨h1, h2, h3, h4, h5, h6, h7⟩ := t3_inv (V := V) (P := P) (first := first) hn n (Nat.le_refl n)
  have conv : ∀ j, tgB V P n j = true → (plF V P first j = -1 ∨ ∃ g, g < n ∧ plF V P first j = nI g ∧ isIn (t3S V P n first).1 g = true ∧ F g = true) := by
    intro j hj
    rcases tg_closed hn hf hw hj with z | ⟨g, g1, g2, g3, g4⟩
    · exact Or.inl z
    · exact Or.inr ⟨g, g1, g2, (h1 g g1).trans g3, g4⟩
  intro t hin
  by_cases ht : t < n
  · have htg : tgB V P n t = true := (h1 t ht).symm.trans hin
    refine ⟨by omega, ?_⟩
    have e : vF (t3S V P n first).1 t = plF V P first t := h2 t ht htg
    rw [e]
    exact conv t htg
  · have e5 : isIn (t3S V P n first).1 t = decide (t < (t3S V P n first).2.1) := h5 t (by omega)
    rw [hin] at e5
    have ht2 : t < (t3S V P n first).2.1 := of_decide_eq_true e5.symm
    have h4 : (t3S V P n first).2.1 ≤ 30 := h4
    obtain ⟨j, j1, j2, j3⟩ := h6 t (by omega) hin
    refine ⟨by omega, ?_⟩
    have j3 : vF (t3S V P n first).1 t = plF V P first j := j3
    rw [j3]
    exact conv j j2
theorem clsG_cut {n t : Nat} {F : Nat → Bool} {G : TV} (h : clsG n F G) (hin : isIn G t = true) : clsG n F (cutS G t) := by
  intro u hu
  unfold cutS at hu ⊢
  rw [isIn_cols hin] at hu
  obtain ⟨h1, h2⟩ := h u hu
  refine ⟨h1, ?_⟩
  by_cases e : u = t
  · subst e; exact Or.inl upV_rows.1
  · rw [vF_une e]
    rcases h2 with z | ⟨g, g1, g2, g3, g4⟩
    · exact Or.inl z
    · exact Or.inr ⟨g, g1, g2, by rw [isIn_cols hin]; exact g3, g4⟩
