/-! sync: what it leaves, in plain words -/
noncomputable def mixV (V : Nat → TV) (P : List PT) (G U : TV) : TV := fun t => if igA V P t = true then U t else G t
def hmB (v : TV) (t : Nat) : Bool := isIn v t && (!(decide (vF v t = -1)) && !(!(decide (vF v t < 0)) && isIn v (ix (vF v t))))
def swt (t : Nat) (x : TV × Bool) : TV × Bool := if hmB x.1 t = true then (upV x.1 t none, true) else x
def sws (v : TV) : TV × Bool := fld swt 0 30 (v, false)
def swn : Nat → TV → TV
  | 0, v => v
  | k + 1, v => swn k (sws v).1
def ncN (v : TV) : Nat := nfc (fun t => !(isIn v t)) 30
theorem hmB_in {v : TV} {t : Nat} (h : hmB v t = true) : isIn v t = true := by
  unfold hmB at h
  simp only [Bool.and_eq_true] at h
  exact h.1
theorem isIn_none {v : TV} {t : Nat} : isIn (upV v t none) t = false := by
  unfold isIn
  rw [upV_at]
  rfl
theorem swt_no {t : Nat} {x : TV × Bool} (h : hmB x.1 t = false) : swt t x = x := by
  unfold swt
  rw [h]
  rfl
theorem swt_yes {t : Nat} {x : TV × Bool} (h : hmB x.1 t = true) : swt t x = (upV x.1 t none, true) := if_pos h
def subT (v u : TV) : Prop := ∀ t, u t = v t ∨ u t = none
theorem subT_in {v u : TV} (h : subT v u) {t : Nat} (e : isIn u t = true) : u t = v t := by
  rcases h t with z | z
  · exact z
  · unfold isIn at e
    rw [z] at e
    cases e
theorem isIn_congr {v u : TV} {t : Nat} (h : u t = v t) : isIn u t = isIn v t ∧ vF u t = vF v t := by
  unfold isIn vF
  rw [h]
  exact ⟨rfl, rfl⟩
theorem subT_isIn {v u : TV} (h : subT v u) {t : Nat} (e : isIn u t = true) : isIn v t = true := by
  rw [← (isIn_congr (subT_in h e)).1]
  exact e
theorem subT_trans {v u w : TV} (a : subT v u) (b : subT u w) : subT v w := fun t => by
  rcases b t with z | z
  · rw [z]; exact a t
  · exact Or.inr z
theorem swt_sub {t : Nat} {x : TV × Bool} : subT x.1 (swt t x).1 := by
  unfold swt
  split
  · intro u
    by_cases e : u = t
    · subst e
      exact Or.inr upV_at
    · exact Or.inl (upV_ne e)
  · exact fun u => Or.inl rfl
theorem fsw_sub {x : TV × Bool} : ∀ k, subT x.1 (fld swt 0 k x).1
  | 0 => fun u => Or.inl rfl
  | k + 1 => by
    rw [fld_app]
    exact subT_trans (fsw_sub k) swt_sub
theorem sws_sub {v : TV} : subT v (sws v).1 := fsw_sub (x := (v, false)) 30
theorem fsw_no {v : TV} : ∀ k, (fld swt 0 k (v, false)).2 = false → (fld swt 0 k (v, false)).1 = v ∧ ∀ t, t < k → hmB v t = false
  | 0 => fun _ => ⟨rfl, fun t ht => absurd ht (by omega)⟩
  | k + 1 => by
    rw [fld_app]
    have ih := fsw_no (v := v) k
    generalize fld swt 0 k (v, false) = y at ih
    intro h
    cases e : hmB y.1 k with
    | true =>
      rw [swt_yes e] at h
      cases h
    | false =>
      rw [swt_no e] at h ⊢
      obtain ⟨i1, i2⟩ := ih h
      refine ⟨i1, fun t ht => ?_⟩
      by_cases et : t = k
      · subst et
        rw [i1] at e
        exact e
      · exact i2 t (by omega)
theorem fsw_yes {v : TV} : ∀ k, (fld swt 0 k (v, false)).2 = true → ∃ t, t < k ∧ isIn v t = true ∧ isIn (fld swt 0 k (v, false)).1 t = false
  | 0 => fun h => by cases h
  | k + 1 => by
    have hs := fsw_sub (x := (v, false)) k
    rw [fld_app]
    have ih := fsw_yes (v := v) k
    generalize fld swt 0 k (v, false) = y at ih hs
    intro h
    cases e : hmB y.1 k with
    | true =>
      rw [swt_yes e]
      exact ⟨k, by omega, subT_isIn hs (hmB_in e), isIn_none⟩
    | false =>
      rw [swt_no e] at h ⊢
      obtain ⟨t, t1, t2, t3⟩ := ih h
      exact ⟨t, by omega, t2, t3⟩
theorem sws_less {v : TV} (h : (sws v).2 = true) : ncN (sws v).1 < ncN v := by
  obtain ⟨t, t1, t2, t3⟩ := fsw_yes 30 h
  refine nfc_less (t := t) (fun u hu => ?_) (by rw [t2]; rfl) ?_ 30 t1
  · cases e : isIn (sws v).1 u with
    | false => rfl
    | true =>
      rw [subT_isIn sws_sub e] at hu
      cases hu
  · show (!(isIn (fld swt 0 30 (v, false)).1 t)) = true
    rw [t3]
    rfl
theorem sws_no {v : TV} (h : (sws v).2 = false) : (sws v).1 = v ∧ ∀ t, t < 30 → hmB v t = false := fsw_no 30 h
theorem swn_fix {v : TV} (h : (sws v).2 = false) : ∀ k, swn k v = v
  | 0 => rfl
  | k + 1 => by
    show swn k (sws v).1 = v
    rw [(sws_no h).1]
    exact swn_fix h k
theorem swn_sub : ∀ (k : Nat) (v : TV), subT v (swn k v)
  | 0, v => fun u => Or.inl rfl
  | k + 1, v => subT_trans sws_sub (swn_sub k (sws v).1)
theorem swn_cl : ∀ (r : Nat) (v : TV), ncN v ≤ r → ∀ t, t < 30 → hmB (swn r v) t = false := by
  intro r
  induction r with
  | zero =>
    intro v h
    cases e : (sws v).2 with
    | false => exact (sws_no e).2
    | true => have := sws_less e; omega
  | succ r ih =>
    intro v h
    cases e : (sws v).2 with
    | false =>
      rw [swn_fix e]
      exact (sws_no e).2
    | true =>
      have := sws_less e
      exact ih (sws v).1 (by omega)
theorem ncN_30 {v : TV} : ncN v ≤ 30 := nfc_le 30
def clQ (Q : Nat → Bool) (v : TV) : Prop := ∀ t, Q t = true → isIn v t = true → vF v t = -1 ∨ ∃ g, g < 30 ∧ vF v t = nI g ∧ Q g = true ∧ isIn v g = true
theorem clQ_hm {Q : Nat → Bool} {v : TV} (h : clQ Q v) {t : Nat} (ht : Q t = true) : hmB v t = false := by
  unfold hmB
  cases e : isIn v t with
  | false => rfl
  | true =>
    rcases h t ht e with z | ⟨g, g1, g2, g3, g4⟩
    · rw [z]; rfl
    · rw [g2, ix_n (show g < 2 ^ 31 by omega), g4, decide_eq_false (n_lt0 g (by omega)), decide_eq_false (m1_ne g (by omega))]
      rfl
theorem swt_keep {Q : Nat → Bool} {t : Nat} {x : TV × Bool} (h : clQ Q x.1) : (∀ u, Q u = true → (swt t x).1 u = x.1 u) ∧ clQ Q (swt t x).1 := by
  cases e : hmB x.1 t with
  | false =>
    rw [swt_no e]
    exact ⟨fun u _ => rfl, h⟩
  | true =>
    rw [swt_yes e]
    have hq : Q t = false := by
      cases eq : Q t with
      | false => rfl
      | true =>
        rw [clQ_hm h eq] at e
        cases e
    have hne : ∀ u, Q u = true → u ≠ t := fun u hu z => by
      rw [z, hq] at hu
      cases hu
    have hup : ∀ u, Q u = true → upV x.1 t none u = x.1 u := fun u hu => upV_ne (hne u hu)
    refine ⟨hup, fun u hu hin => ?_⟩
    have c := isIn_congr (hup u hu)
    rw [c.1] at hin
    show vF (upV x.1 t none) u = -1 ∨ _
    rw [c.2]
    rcases h u hu hin with z | ⟨g, g1, g2, g3, g4⟩
    · exact Or.inl z
    · exact Or.inr ⟨g, g1, g2, g3, by rw [(isIn_congr (hup g g3)).1]; exact g4⟩
theorem fsw_keep {Q : Nat → Bool} {x : TV × Bool} (h : clQ Q x.1) : ∀ k, (∀ u, Q u = true → (fld swt 0 k x).1 u = x.1 u) ∧ clQ Q (fld swt 0 k x).1
  | 0 => ⟨fun u _ => rfl, h⟩
  | k + 1 => by
    rw [fld_app]
    obtain ⟨i1, i2⟩ := fsw_keep h k
    obtain ⟨j1, j2⟩ := swt_keep (t := k) i2
    exact ⟨fun u hu => (j1 u hu).trans (i1 u hu), j2⟩
theorem sws_keep {Q : Nat → Bool} {v : TV} (h : clQ Q v) : (∀ u, Q u = true → (sws v).1 u = v u) ∧ clQ Q (sws v).1 := by
  have h2 : clQ Q ((v, false) : TV × Bool).1 := h
  have k := fsw_keep h2 30
  have e : sws v = fld swt 0 30 (v, false) := rfl
  rw [← e] at k
  exact k
theorem swn_keep {Q : Nat → Bool} : ∀ (k : Nat) (v : TV), clQ Q v → ∀ u, Q u = true → swn k v u = v u
  | 0, v => fun _ u _ => rfl
  | k + 1, v => fun h u hu => (swn_keep k (sws v).1 (sws_keep h).2 u hu).trans ((sws_keep h).1 u hu)
theorem fsw_ext {Q : Nat → Bool} {x : TV × Bool} {m : Nat} (h : clQ Q x.1) (hm : ∀ t, m ≤ t → Q t = true) : ∀ d, fld swt 0 (m + d) x = fld swt 0 m x
  | 0 => rfl
  | d + 1 => by
    rw [show m + (d + 1) = (m + d) + 1 by omega, fld_app, swt_no (clQ_hm (fsw_keep h (m + d)).2 (hm _ (by omega)))]
    exact fsw_ext h hm d
theorem sws_m {Q : Nat → Bool} {v : TV} {m : Nat} (hm30 : m ≤ 30) (h : clQ Q v) (hm : ∀ t, m ≤ t → Q t = true) : fld swt 0 m (v, false) = sws v := by
  have := fsw_ext (x := (v, false)) h hm (30 - m)
  rw [show m + (30 - m) = 30 by omega] at this
  exact this.symm
/-! what it leaves is whole again -/
noncomputable def nigB (V : Nat → TV) (P : List PT) (t : Nat) : Bool := !(igA V P t)
def fNew (F : Nat → Bool) (n : Nat) (t : Nat) : Bool := decide (t < n) && F t
theorem mix_wf {V : Nat → TV} {P : List PT} {n : Nat} {F : Nat → Bool} {x : T3} {U v : TV} (hn : n ≤ 30) (hw : ∀ s, s < 3 → wfT n F (V s)) (hU : wfT n F U) (ok : tgOK V P n F x) (ha : ∀ t, igA V P t = false → v t = x.1 t) (hb : ∀ t, igA V P t = true → isIn v t = true → v t = U t) (hc : ∀ t, igA V P t = true → isIn v t = true → vF v t = -1 ∨ ∃ g, g < 30 ∧ vF v t = nI g ∧ isIn v g = true) : wfT x.2.1 (fNew F n) v := by
  have noig : ∀ t, isIn x.1 t = true → igA V P t = false := fun t ht => tg_noig hw ok.2.2.1 ht
  have gv : ∀ g, isIn x.1 g = true → isIn v g = true ∧ vF v g = vF x.1 g := fun g hg => by
    have c := isIn_congr (ha g (noig g hg))
    exact ⟨c.1.trans hg, c.2⟩
  have chA : ∀ u, isIn x.1 u = true → endsV v 29 (vF x.1 u) := fun u hu => endsV_w gv (tg_ends hn ok.2.2.2.2.1 ok.2.2.2.2.2.1 hu)
  have chB : ∀ k u, igA V P u = true → isIn v u = true → endsV U k (vF U u) → ∃ K, endsV v K (vF v u) := by
    intro k
    induction k with
    | zero =>
      intro u hu hin he
      rw [(isIn_congr (hb u hu hin)).2]
      exact ⟨0, he⟩
    | succ k ih =>
      intro u hu hin he
      have eu := (isIn_congr (hb u hu hin)).2
      rcases hc u hu hin with z | ⟨g, g1, g2, g3⟩
      · exact ⟨0, z⟩
      · rw [g2]
        cases eg : igA V P g with
        | false =>
          have c := isIn_congr (ha g eg)
          have hG : isIn x.1 g = true := c.1.symm.trans g3
          refine ⟨30, Or.inr ⟨g, g1, rfl, g3, ?_⟩⟩
          rw [c.2]
          exact chA g hG
        | true =>
          rw [eu] at g2
          rcases he with z | ⟨g', g1', g2', g3', g4'⟩
          · rw [z] at g2
            exact absurd g2.symm (m1_ne g (by omega))
          · have : g' = g := nI_inj (by omega) (by omega) (g2'.symm.trans g2)
            subst this
            obtain ⟨K, hK⟩ := ih g' eg g3 g4'
            exact ⟨K + 1, Or.inr ⟨g', g1, rfl, g3, hK⟩⟩
  intro t hin
  cases et : igA V P t with
  | false =>
    have c := isIn_congr (ha t et)
    have hG : isIn x.1 t = true := c.1.symm.trans hin
    obtain ⟨q1, q2⟩ := ok.2.2.2.2.1 t hG
    have ht : t < x.2.1 := by
      by_cases h1 : t < n
      · have := ok.1; omega
      · have := ok.2.2.2.1 t (by omega)
        rw [hG] at this
        exact of_decide_eq_true this.symm
    refine ⟨ht, ?_, by rw [c.2]; exact chA t hG⟩
    rw [c.2]
    rcases q2 with z | ⟨g, g1, g2, g3, g4⟩
    · exact Or.inl z
    · exact Or.inr ⟨g, by have := ok.1; omega, g2, (gv g g3).1, by unfold fNew; rw [decide_eq_true g1, g4]; rfl⟩
  | true =>
    have c := isIn_congr (hb t et hin)
    have hin2 : isIn U t = true := c.1.symm.trans hin
    obtain ⟨q1, q2, q3⟩ := hU t hin2
    have hle := ok.1
    obtain ⟨K, hK⟩ := chB 29 t et hin q3
    refine ⟨by omega, ?_, ends29 (by omega) hin hK⟩
    rcases hc t et hin with z | ⟨g, g1, g2, g3⟩
    · exact Or.inl z
    · rcases q2 with z | ⟨g', g1', g2', g3', g4'⟩
      · rw [c.2, z] at g2
        exact absurd g2.symm (m1_ne g (by omega))
      · have : g' = g := nI_inj (by omega) (by omega) (g2'.symm.trans (c.2.symm.trans g2))
        subst this
        exact Or.inr ⟨g', by omega, g2, g3, by unfold fNew; rw [decide_eq_true g1', g4']; rfl⟩
theorem tg_folder {V : Nat → TV} {P : List PT} {n s t g : Nat} {F : Nat → Bool} {x : T3} (hn : n ≤ 30) (hs : s < 2) (hw : ∀ s, s < 3 → wfT n F (V s)) (h1 : ∀ t, t < n → isIn x.1 t = tgB V P n t) (hin : isIn (V s) t = true) (hig : igA V P t = true) (hf : vF (V s) t = nI g) (hg : g < n) (hgi : isIn (V s) g = true) (hng : igA V P g = false) : isIn x.1 g = true := by
  have htn : t < n := (hw s (by omega) t hin).1
  have hst : stB V P s g t = true := by
    unfold stB
    rw [hig, inS_in hin, hf, suS_succ (show g < 30 by omega) hgi, if_pos rfl]
    rfl
  have hkp : kpB V P n s g = true := by
    unfold kpB
    rw [anyN_iff.mpr ⟨t, htn, hst⟩, Bool.or_true]
  rw [h1 g hg]
  unfold tgB hereB goB2 gsd gnI gnB
  rw [hng]
  have cs : s = 0 ∨ s = 1 := by omega
  rcases cs with rfl | rfl
  · rw [hgi]
    cases isIn (V 1) g <;> cases isIn (V 2) g <;> simp [hkp]
  · rw [hgi]
    cases isIn (V 0) g <;> cases isIn (V 2) g <;> simp [hkp]
noncomputable def syV (V : Nat → TV) (P : List PT) (G : TV) : Nat → TV := fun s => if s = 2 then swn 30 (mixV V P G (V 2)) else mixV V P G (V s)
theorem mix_cl {V : Nat → TV} {P : List PT} {n : Nat} {F : Nat → Bool} {x : T3} {U : TV} (hn : n ≤ 30) (hw : ∀ s, s < 3 → wfT n F (V s)) (ok : tgOK V P n F x) : clQ (nigB V P) (mixV V P x.1 U) := by
  have noig : ∀ t, isIn x.1 t = true → igA V P t = false := fun t ht => tg_noig hw ok.2.2.1 ht
  have ha : ∀ t, igA V P t = false → mixV V P x.1 U t = x.1 t := fun t ht => by
    unfold mixV
    rw [ht]
    rfl
  intro t ht hin
  have ht : igA V P t = false := by
    unfold nigB at ht
    simpa using ht
  have c := isIn_congr (ha t ht)
  rw [c.2]
  rcases (ok.2.2.2.2.1 t (c.1.symm.trans hin)).2 with z | ⟨g, g1, g2, g3, g4⟩
  · exact Or.inl z
  · exact Or.inr ⟨g, by omega, g2, by unfold nigB; rw [noig g g3]; rfl, by rw [(isIn_congr (ha g (noig g g3))).1]; exact g3⟩
theorem sy_wf {V : Nat → TV} {P : List PT} {n : Nat} {F : Nat → Bool} {x : T3} (hn : n ≤ 30) (hw : ∀ s, s < 3 → wfT n F (V s)) (ok : tgOK V P n F x) : ∀ s, s < 3 → wfT x.2.1 (fNew F n) (syV V P x.1 s) := by
  have ha : ∀ (U : TV) t, igA V P t = false → mixV V P x.1 U t = x.1 t := fun U t ht => by
    unfold mixV
    rw [ht]
    rfl
  have hb : ∀ (U : TV) t, igA V P t = true → mixV V P x.1 U t = U t := fun U t ht => by
    unfold mixV
    rw [ht]
    rfl
  intro s hs
  unfold syV
  by_cases e2 : s = 2
  · rw [if_pos e2]
    have hcl := mix_cl (U := V 2) hn hw ok
    have hsub := swn_sub 30 (mixV V P x.1 (V 2))
    refine mix_wf hn hw (hw 2 (by decide)) ok (fun t ht => ?_) (fun t ht hin => ?_) (fun t ht hin => ?_)
    · rw [swn_keep 30 _ hcl t (by unfold nigB; rw [ht]; rfl)]
      exact ha _ t ht
    · exact (subT_in hsub hin).trans (hb _ t ht)
    · have c := isIn_congr ((subT_in hsub hin).trans (hb _ t ht))
      obtain ⟨q1, q2, q3⟩ := hw 2 (by decide) t (c.1.symm.trans hin)
      have hm := swn_cl 30 (mixV V P x.1 (V 2)) ncN_30 t (by omega)
      rcases q2 with z | ⟨g, g1, g2, g3, g4⟩
      · exact Or.inl (c.2.trans z)
      · refine Or.inr ⟨g, by omega, c.2.trans g2, ?_⟩
        unfold hmB at hm
        rw [hin, c.2, g2, ix_n (show g < 2 ^ 31 by omega), decide_eq_false (n_lt0 g (by omega)), decide_eq_false (m1_ne g (by omega))] at hm
        simpa using hm
  · rw [if_neg e2]
    refine mix_wf hn hw (hw s hs) ok (fun t ht => ha _ t ht) (fun t ht _ => hb _ t ht) (fun t ht hin => ?_)
    have c := isIn_congr (hb (V s) t ht)
    have hin2 : isIn (V s) t = true := c.1.symm.trans hin
    obtain ⟨q1, q2, q3⟩ := hw s hs t hin2
    rcases q2 with z | ⟨g, g1, g2, g3, g4⟩
    · exact Or.inl (c.2.trans z)
    · refine Or.inr ⟨g, by omega, c.2.trans g2, ?_⟩
      cases eg : igA V P g with
      | true => rw [(isIn_congr (hb (V s) g eg)).1]; exact g3
      | false =>
        rw [(isIn_congr (ha (V s) g eg)).1]
        exact tg_folder hn (show s < 2 by omega) hw ok.2.2.1 hin2 ht g2 g1 g3 eg
