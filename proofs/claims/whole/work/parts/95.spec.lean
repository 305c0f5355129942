/-! TARGET and CLASHES in plain words -/
theorem fld_app {σ : Type} (f : Nat → σ → σ) (k : Nat) (s : σ) : fld f 0 (k + 1) s = f k (fld f 0 k s) := by
  rw [fld_succ, Nat.zero_add]
theorem fld_inv {σ : Type} {f : Nat → σ → σ} {I : Nat → σ → Prop} {n : Nat} {s : σ} (h0 : I 0 s) (hs : ∀ i s, i < n → I i s → I (i + 1) (f i s)) : ∀ k, k ≤ n → I k (fld f 0 k s)
  | 0, _ => h0
  | k + 1, h => by
    rw [fld_app]
    exact hs k _ (by omega) (fld_inv h0 hs k (by omega))
theorem loop_rel {σ τ β : Type} {L : Nat → σ → Int32 → β} {e : Nat} {f : Nat → τ → τ} {R : Nat → σ → τ → Prop} {g : σ → β} (hs : ∀ n i s x, i < e → R i s x → ∃ s', L (n + 1) s (nI i) = L n s' (nI (i + 1)) ∧ R (i + 1) s' (f i x)) (hx : ∀ n s x, R e s x → L (n + 1) s (nI e) = g s) (n : Nat) (s : σ) (x : τ) (hn : e < n) (h0 : R 0 s x) : ∃ s', R e s' (fld f 0 e x) ∧ L n s (nI 0) = g s' :=
  loop_inv (I := fun i s => R i s (fld f 0 i x)) (fun m i s hi hI => by
    obtain ⟨s', h1, h2⟩ := hs m i s _ hi hI
    exact ⟨s', h1, by rw [fld_app]; exact h2⟩) (fun m s hI => hx m s _ hI) n 0 s (by omega) (by omega) h0
abbrev CL : Type := List (Int32 × Nat)
abbrev T3 : Type := TV × Nat × CL
def anyN (n : Nat) (P : Nat → Bool) : Bool := (fnd P 0 n).isSome
noncomputable def stB (V : Nat → TV) (P : List PT) (s t k : Nat) : Bool := (igA V P k || (cmI V P s k || (mvI V P s k || wrI V P s k))) && inS (V s) k (nI t)
noncomputable def kpB (V : Nat → TV) (P : List PT) (n s t : Nat) : Bool := (mvI V P s t || wrI V P s t) || anyN n (stB V P s t)
noncomputable def goB2 (V : Nat → TV) (P : List PT) (t : Nat) : Bool := gnI V P 0 t || gnI V P 1 t
noncomputable def gsd (V : Nat → TV) (P : List PT) (t : Nat) : Nat := if gnI V P 0 t = true then 1 else 0
noncomputable def hereB (V : Nat → TV) (P : List PT) (t : Nat) : Bool := !(igA V P t) && (isIn (V 0) t || isIn (V 1) t)
noncomputable def tgB (V : Nat → TV) (P : List PT) (n t : Nat) : Bool := hereB V P t && (!(goB2 V P t) || kpB V P n (gsd V P t) t)
noncomputable def k0B (V : Nat → TV) (P : List PT) (n t : Nat) : Bool := hereB V P t && (goB2 V P t && kpB V P n (gsd V P t) t)
def sdS (V : Nat → TV) (B : Nat → Nat → Bool) (first t : Nat) : Nat := if isIn (V first) t = true then (if (B (1 - first) t && !(B first t)) = true then 1 - first else first) else 1 - first
noncomputable def plF (V : Nat → TV) (P : List PT) (first t : Nat) : Int32 := vF (V (sdS V (mvI V P) first t)) t
noncomputable def plN (V : Nat → TV) (P : List PT) (first t : Nat) : Int32 := vN (V (sdS V (mvI V P) first t)) t
noncomputable def ctS (V : Nat → TV) (P : List PT) (first t : Nat) : Int32 := vC (V (sdS V (wrI V P) first t)) t
noncomputable def c1B (V : Nat → TV) (P : List PT) (t : Nat) : Bool := (mvI V P 0 t && mvI V P 1 t) && !(plE (V 0) (V 1) t)
noncomputable def c2B (V : Nat → TV) (P : List PT) (t : Nat) : Bool := (wrI V P 0 t && wrI V P 1 t) && !(ctE (V 0) (V 1) t)
noncomputable def sp1 (V : Nat → TV) (P : List PT) (n : Nat) (i : Nat) (x : T3) : T3 := if tgB V P n i = true then (upV x.1 i (some (-1, -1, 0)), x.2.1, if k0B V P n i = true then x.2.2 ++ [(0, i)] else x.2.2) else x
noncomputable def sp2 (V : Nat → TV) (P : List PT) (first : Nat) (i : Nat) (x : T3) : T3 := if isIn x.1 i = true then (upV x.1 i (some (plF V P first i, plN V P first i, vC x.1 i)), x.2.1, if c1B V P i = true then x.2.2 ++ [(1, i)] else x.2.2) else x
noncomputable def sp3 (V : Nat → TV) (P : List PT) (first : Nat) (i : Nat) (x : T3) : T3 :=
  if isIn x.1 i = true then
    if c2B V P i = true then
      if x.2.1 < 30 then (upV (upV x.1 i (some (vF x.1 i, vN x.1 i, ctS V P first i))) x.2.1 (some (vF x.1 i, vN x.1 i, vC (V (1 - first)) i)), x.2.1 + 1, x.2.2 ++ [(2, i)])
      else (upV x.1 i (some (vF x.1 i, vN x.1 i, ctS V P first i)), x.2.1, x.2.2 ++ [(2, i)])
    else (upV x.1 i (some (vF x.1 i, vN x.1 i, ctS V P first i)), x.2.1, x.2.2)
  else x
def grt (P : Nat → Bool) : Nat → Option Nat
  | 0 => none
  | k + 1 => if P k = true then some k else grt P k
theorem grt_some {P : Nat → Bool} : ∀ {k t : Nat}, grt P k = some t → t < k ∧ P t = true
  | 0, t, h => by cases h
  | k + 1, t, h => by
    unfold grt at h
    by_cases e : P k = true
    · rw [if_pos e] at h
      have := Option.some.inj h
      subst this
      exact ⟨Nat.lt_succ_self _, e⟩
    · rw [if_neg e] at h
      have := grt_some h
      exact ⟨by omega, this.2⟩
theorem grt_none {P : Nat → Bool} : ∀ {k : Nat}, grt P k = none → ∀ t, t < k → P t = false
  | 0, _, t, ht => absurd ht (by omega)
  | k + 1, h, t, ht => by
    unfold grt at h
    by_cases e : P k = true
    · rw [if_pos e] at h; cases h
    · rw [if_neg e] at h
      by_cases et : t = k
      · rw [et]; simpa using e
      · exact grt_none h t (by omega)
theorem grt_congr {P Q : Nat → Bool} : ∀ {k : Nat}, (∀ t, t < k → P t = Q t) → grt P k = grt Q k
  | 0, _ => rfl
  | k + 1, h => by
    unfold grt
    rw [h k (by omega), grt_congr (fun t ht => h t (by omega))]
def ringS (G : TV) : Option Nat := grt (fun t => inS G t (nI t)) 30
def cutS (G : TV) (t : Nat) : TV := upV G t (some (-1, vN G t, vC G t))
def mdS : Nat → T3 → T3
  | 0, x => x
  | k + 1, x => match ringS x.1 with
    | none => x
    | some t => mdS k (cutS x.1 t, x.2.1, x.2.2 ++ [(4, t)])
noncomputable def igH (V : Nat → TV) (P : List PT) (f nm : Int32) : Bool := anyN 30 (fun t => igA V P t && (isAtS (V 0) t f nm || (isAtS (V 1) t f nm || isAtS (V 2) t f nm)))
noncomputable def frB (V : Nat → TV) (P : List PT) (G : TV) (f nm : Int32) : Bool := anyN 30 (fun t => isAtS G t f nm) || igH V P f nm
noncomputable def lfn (V : Nat → TV) (P : List PT) (G : TV) (f : Int32) : Nat := (fnd (fun k => !(frB V P G f (nI k))) 0 120).getD 120
noncomputable def sp5 (V : Nat → TV) (P : List PT) (i : Nat) (x : T3) : T3 := if isIn x.1 i = true then (if (anyN i (fun t => isAtS x.1 t (vF x.1 i) (vN x.1 i)) || igH V P (vF x.1 i) (vN x.1 i)) = true then (upV x.1 i (some (vF x.1 i, nI (lfn V P x.1 (vF x.1 i)), vC x.1 i)), x.2.1, x.2.2 ++ [(3, i)]) else x) else x
noncomputable def t1S (V : Nat → TV) (P : List PT) (n : Nat) : T3 := fld (sp1 V P n) 0 n (fun _ => none, n, [])
noncomputable def t2S (V : Nat → TV) (P : List PT) (n first : Nat) : T3 := fld (sp2 V P first) 0 n (t1S V P n)
noncomputable def t3S (V : Nat → TV) (P : List PT) (n first : Nat) : T3 := fld (sp3 V P first) 0 n (t2S V P n first)
noncomputable def t4S (V : Nat → TV) (P : List PT) (n first : Nat) : T3 := mdS 30 (t3S V P n first)
noncomputable def t5S (V : Nat → TV) (P : List PT) (n first : Nat) : T3 := fld (sp5 V P) 0 (t4S V P n first).2.1 (t4S V P n first)
/-! what stands of them -/
theorem vF_at {v : TV} {t : Nat} {a b c : Int32} (h : v t = some (a, b, c)) : vF v t = a ∧ vN v t = b ∧ vC v t = c := by
  unfold vF vN vC
  rw [h]
  exact ⟨rfl, rfl, rfl⟩
theorem upV_rows {v : TV} {t : Nat} {a b c : Int32} : vF (upV v t (some (a, b, c))) t = a ∧ vN (upV v t (some (a, b, c))) t = b ∧ vC (upV v t (some (a, b, c))) t = c := vF_at upV_at
theorem vN_une {v : TV} {t j : Nat} {x : Option (Int32 × Int32 × Int32)} (e : j ≠ t) : vN (upV v t x) j = vN v j := by unfold vN; rw [upV_ne e]
theorem vC_une {v : TV} {t j : Nat} {x : Option (Int32 × Int32 × Int32)} (e : j ≠ t) : vC (upV v t x) j = vC v j := by unfold vC; rw [upV_ne e]
theorem isIn_un {v : TV} {t j : Nat} {x : Option (Int32 × Int32 × Int32)} (e : j ≠ t) : isIn (upV v t x) j = isIn v j := by unfold isIn; rw [upV_ne e]
theorem isIn_ue {v : TV} {t : Nat} {y : Int32 × Int32 × Int32} : isIn (upV v t (some y)) t = true := by unfold isIn; rw [upV_at]; rfl
theorem t1_inv {V : Nat → TV} {P : List PT} {n : Nat} : ∀ k, k ≤ n → (∀ t, isIn (fld (sp1 V P n) 0 k (fun _ => none, n, [])).1 t = (decide (t < k) && tgB V P n t)) ∧ (fld (sp1 V P n) 0 k (fun _ => none, n, [])).2.1 = n ∧ (fld (sp1 V P n) 0 k (fun _ => none, n, [])).2.2.length ≤ k := by
  refine fld_inv (I := fun k (x : T3) => (∀ t, isIn x.1 t = (decide (t < k) && tgB V P n t)) ∧ x.2.1 = n ∧ x.2.2.length ≤ k) ⟨fun t => by simp [isIn], rfl, Nat.le_refl _⟩ ?_
  rintro i x hi ⟨h1, h2, h3⟩
  unfold sp1
  by_cases e : tgB V P n i = true
  · rw [if_pos e]
    refine ⟨fun t => ?_, h2, ?_⟩
    · by_cases et : t = i
      · subst et; rw [isIn_ue, e]; simp
      · rw [isIn_un et, h1 t, show decide (t < i + 1) = decide (t < i) by simp; omega]
    · show (if k0B V P n i = true then x.2.2 ++ [(0, i)] else x.2.2).length ≤ i + 1
      split
      · simp; omega
      · omega
  · rw [if_neg e]
    refine ⟨fun t => ?_, h2, by omega⟩
    by_cases et : t = i
    · subst et; rw [h1]; simp [e]
    · rw [h1 t, show decide (t < i + 1) = decide (t < i) by simp; omega]
theorem t1_in {V : Nat → TV} {P : List PT} {n t : Nat} : isIn (t1S V P n).1 t = (decide (t < n) && tgB V P n t) := (t1_inv n (Nat.le_refl n)).1 t
theorem t2_inv {V : Nat → TV} {P : List PT} {n first : Nat} : ∀ k, k ≤ n → (∀ t, isIn (fld (sp2 V P first) 0 k (t1S V P n)).1 t = (decide (t < n) && tgB V P n t)) ∧ (∀ t, t < k → tgB V P n t = true → vF (fld (sp2 V P first) 0 k (t1S V P n)).1 t = plF V P first t) ∧ (fld (sp2 V P first) 0 k (t1S V P n)).2.1 = n ∧ (fld (sp2 V P first) 0 k (t1S V P n)).2.2.length ≤ n + k := by
  refine fld_inv (I := fun k (x : T3) => (∀ t, isIn x.1 t = (decide (t < n) && tgB V P n t)) ∧ (∀ t, t < k → tgB V P n t = true → vF x.1 t = plF V P first t) ∧ x.2.1 = n ∧ x.2.2.length ≤ n + k) ⟨fun t => t1_in, fun t ht => by omega, (t1_inv n (Nat.le_refl n)).2.1, (t1_inv n (Nat.le_refl n)).2.2⟩ ?_
  rintro i x hi ⟨h1, h2, h3, h4⟩
  unfold sp2
  by_cases e : isIn x.1 i = true
  · rw [if_pos e]
    refine ⟨fun t => ?_, fun t ht htg => ?_, h3, ?_⟩
    · by_cases et : t = i
      · subst et; rw [isIn_ue, ← h1, e]
      · rw [isIn_un et]; exact h1 t
    · by_cases et : t = i
      · subst et; exact upV_rows.1
      · rw [vF_une et]; exact h2 t (by omega) htg
    · show (if c1B V P i = true then x.2.2 ++ [(1, i)] else x.2.2).length ≤ _
      split
      · simp; omega
      · omega
  · rw [if_neg e]
    refine ⟨h1, fun t ht htg => ?_, h3, by omega⟩
    by_cases et : t = i
    · subst et
      rw [h1] at e
      simp [hi, htg] at e
    · exact h2 t (by omega) htg
def i3 (V : Nat → TV) (P : List PT) (n first k : Nat) (x : T3) : Prop := (∀ t, t < n → isIn x.1 t = tgB V P n t) ∧ (∀ t, t < n → tgB V P n t = true → vF x.1 t = plF V P first t) ∧ n ≤ x.2.1 ∧ x.2.1 ≤ 30 ∧ (∀ t, n ≤ t → isIn x.1 t = decide (t < x.2.1)) ∧ (∀ t, n ≤ t → isIn x.1 t = true → ∃ j, j < n ∧ tgB V P n j = true ∧ vF x.1 t = plF V P first j) ∧ x.2.2.length ≤ n + n + k
theorem t3_inv {V : Nat → TV} {P : List PT} {n first : Nat} (hn : n ≤ 30) : ∀ k, k ≤ n → i3 V P n first k (fld (sp3 V P first) 0 k (t2S V P n first)) := by
  obtain ⟨g1, g2, g3, g4⟩ := t2_inv (V := V) (P := P) (first := first) n (Nat.le_refl n)
  have g3' : (t2S V P n first).2.1 = n := g3
  refine fld_inv (I := i3 V P n first) ⟨fun t ht => ?_, fun t ht => g2 t ht, Nat.le_of_eq g3'.symm, by rw [g3']; exact hn, fun t ht => ?_, fun t ht hin => ?_, g4⟩ ?_
  · have := g1 t
    simp only [ht, decide_true, Bool.true_and] at this
    exact this
  · have := g1 t
    rw [show decide (t < n) = false by simp; omega] at this
    rw [g3', show decide (t < n) = false by simp; omega]
    exact this
  · have := g1 t
    rw [show decide (t < n) = false by simp; omega] at this
    have hin : isIn (fld (sp2 V P first) 0 n (t1S V P n)).1 t = true := hin
    rw [this] at hin
    cases hin
  · rintro i x hi ⟨h1, h2, h3, h4, h5, h6, h7⟩
    unfold sp3
    by_cases e : isIn x.1 i = true
    · rw [if_pos e]
      have htg : tgB V P n i = true := by rw [← h1 i hi]; exact e
      have base : ∀ c, (∀ t, isIn (upV x.1 i (some (vF x.1 i, vN x.1 i, c))) t = isIn x.1 t) ∧ (∀ t, vF (upV x.1 i (some (vF x.1 i, vN x.1 i, c))) t = vF x.1 t) := by
        intro c
        refine ⟨fun t => ?_, fun t => ?_⟩
        · by_cases et : t = i
          · subst et; rw [isIn_ue, e]
          · rw [isIn_un et]
        · by_cases et : t = i
          · subst et; exact upV_rows.1
          · rw [vF_une et]
      obtain ⟨b1, b2⟩ := base (ctS V P first i)
      by_cases c2 : c2B V P i = true
      · rw [if_pos c2]
        by_cases c3 : x.2.1 < 30
        · rw [if_pos c3]
          refine ⟨fun t ht => ?_, fun t ht ht2 => ?_, Nat.le_succ_of_le h3, c3, fun t ht => ?_, fun t ht hin => ?_, by simp; omega⟩
          · show isIn (upV (upV x.1 i _) x.2.1 _) t = _
            rw [isIn_un (by omega), b1]; exact h1 t ht
          · show vF (upV (upV x.1 i _) x.2.1 _) t = _
            rw [vF_une (by omega), b2]; exact h2 t ht ht2
          · show isIn (upV (upV x.1 i _) x.2.1 _) t = decide (t < x.2.1 + 1)
            by_cases et : t = x.2.1
            · subst et; rw [isIn_ue]; simp
            · rw [isIn_un et, b1, h5 t ht, show decide (t < x.2.1 + 1) = decide (t < x.2.1) by simp; omega]
          · show ∃ j, j < n ∧ tgB V P n j = true ∧ vF (upV (upV x.1 i _) x.2.1 _) t = plF V P first j
            have hin : isIn (upV (upV x.1 i (some (vF x.1 i, vN x.1 i, ctS V P first i))) x.2.1 (some (vF x.1 i, vN x.1 i, vC (V (1 - first)) i))) t = true := hin
            by_cases et : t = x.2.1
            · subst et
              exact ⟨i, hi, htg, upV_rows.1.trans (h2 i hi htg)⟩
            · rw [isIn_un et, b1] at hin
              rw [vF_une et, b2]
              exact h6 t ht hin
        · rw [if_neg c3]
          exact ⟨fun t ht => (b1 t).trans (h1 t ht), fun t ht ht2 => (b2 t).trans (h2 t ht ht2), h3, h4, fun t ht => (b1 t).trans (h5 t ht), fun t ht hin => by
            obtain ⟨j, j1, j2, j3⟩ := h6 t ht ((b1 t).symm.trans hin)
            exact ⟨j, j1, j2, (b2 t).trans j3⟩, by simp; omega⟩
      · rw [if_neg c2]
        exact ⟨fun t ht => (b1 t).trans (h1 t ht), fun t ht ht2 => (b2 t).trans (h2 t ht ht2), h3, h4, fun t ht => (b1 t).trans (h5 t ht), fun t ht hin => by
            obtain ⟨j, j1, j2, j3⟩ := h6 t ht ((b1 t).symm.trans hin)
            exact ⟨j, j1, j2, (b2 t).trans j3⟩, by simp only; omega⟩
    · rw [if_neg e]
      exact ⟨h1, h2, h3, h4, h5, h6, by omega⟩
