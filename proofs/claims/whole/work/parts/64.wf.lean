/-! what is kept: no rings, folders there -/
theorem suS_stab {v : TV} {to : Int32} : ∀ {k K K' : Nat} {x : Int32}, endsV v k x → k < K → k < K' → suS v to K x = suS v to K' x := by
  intro k
  induction k with
  | zero =>
    intro K K' x he _ _
    have he : x = -1 := he
    rw [he, suS_m1, suS_m1]
  | succ k ih =>
    intro K K' x he h1 h2
    rcases he with he | ⟨g, hg, e, hin, hrec⟩
    · rw [he, suS_m1, suS_m1]
    · subst e
      obtain ⟨K, rfl⟩ : ∃ m, K = m + 1 := ⟨K - 1, by omega⟩
      obtain ⟨K', rfl⟩ : ∃ m, K' = m + 1 := ⟨K' - 1, by omega⟩
      rw [suS_succ hg hin, suS_succ hg hin, ih hrec (show k < K by omega) (show k < K' by omega)]
theorem nodup_len : ∀ (N : Nat) (l : List Nat), l.Nodup → (∀ g ∈ l, g < N) → l.length ≤ N := by
  intro N
  induction N with
  | zero =>
    intro l _ h
    cases l with
    | nil => exact Nat.le_refl _
    | cons a l => exact absurd (h a (List.mem_cons_self)) (by omega)
  | succ N ih =>
    intro l hn h
    by_cases hm : N ∈ l
    · have h1 := ih (l.erase N) (hn.erase N) (fun g hg => by
        have hg2 := (List.Nodup.mem_erase_iff hn).mp hg
        have := h g hg2.2
        have := hg2.1
        omega)
      rw [List.length_erase_of_mem hm] at h1
      omega
    · have h1 := ih l hn (fun g hg => by
        have h2 := h g hg
        have : g ≠ N := fun e => hm (e ▸ hg)
        omega)
      omega
/-- just k things are met -/
def endsX (v : TV) : Nat → Int32 → Prop
  | 0, x => x = -1
  | k + 1, x => ∃ g, g < 30 ∧ x = nI g ∧ isIn v g = true ∧ endsX v k (vF v g)
theorem endsX_of {v : TV} : ∀ {K : Nat} {x : Int32}, endsV v K x → ∃ k, k ≤ K ∧ endsX v k x := by
  intro K
  induction K with
  | zero => intro x h; exact ⟨0, Nat.le_refl _, h⟩
  | succ K ih =>
    intro x h
    rcases h with h | ⟨g, h1, h2, h3, h4⟩
    · exact ⟨0, Nat.zero_le _, h⟩
    · obtain ⟨k, hk, hx⟩ := ih h4
      exact ⟨k + 1, by omega, g, h1, h2, h3, hx⟩
theorem endsV_of {v : TV} : ∀ {k : Nat} {x : Int32}, endsX v k x → endsV v k x := by
  intro k
  induction k with
  | zero => intro x h; exact h
  | succ k ih =>
    intro x h
    obtain ⟨g, h1, h2, h3, h4⟩ := h
    exact Or.inr ⟨g, h1, h2, h3, ih h4⟩
theorem endsX_one {v : TV} : ∀ {a b : Nat} {x : Int32}, endsX v a x → endsX v b x → a = b := by
  intro a
  induction a with
  | zero =>
    intro b x h1 h2
    cases b with
    | zero => rfl
    | succ b =>
      obtain ⟨g, q1, q2, -, -⟩ := h2
      have h1 : x = -1 := h1
      exact absurd (q2.symm.trans h1) (m1_ne g (by omega))
  | succ a ih =>
    intro b x h1 h2
    obtain ⟨g, p1, p2, p3, p4⟩ := h1
    cases b with
    | zero =>
      have h2 : x = -1 := h2
      exact absurd (p2.symm.trans h2) (m1_ne g (by omega))
    | succ b =>
      obtain ⟨g', q1, q2, q3, q4⟩ := h2
      have : g = g' := nI_inj (by omega) (by omega) (p2.symm.trans q2)
      subst this
      rw [ih p4 q4]
theorem endsX_list {v : TV} : ∀ {k : Nat} {x : Int32}, endsX v k x → ∃ l : List Nat, l.length = k ∧ (∀ g ∈ l, g < 30) ∧ l.Nodup ∧ ∀ g ∈ l, ∃ m, m ≤ k ∧ endsX v m (nI g) := by
  intro k
  induction k with
  | zero => intro x _; exact ⟨[], rfl, (fun g h => by cases h), List.nodup_nil, (fun g h => by cases h)⟩
  | succ k ih =>
    intro x h
    have h0 := h
    obtain ⟨g, p1, p2, p3, p4⟩ := h
    obtain ⟨l, l1, l2, l3, l4⟩ := ih p4
    refine ⟨g :: l, by simp [l1], fun z hz => ?_, ?_, fun z hz => ?_⟩
    · rcases List.mem_cons.mp hz with e | e
      · rw [e]; exact p1
      · exact l2 z e
    · refine List.nodup_cons.mpr ⟨fun hz => ?_, l3⟩
      obtain ⟨m, hm, hx⟩ := l4 g hz
      rw [p2] at h0
      have := endsX_one hx h0
      omega
    · rcases List.mem_cons.mp hz with e | e
      · rw [e]; rw [p2] at h0; exact ⟨k + 1, Nat.le_refl _, h0⟩
      · obtain ⟨m, hm, hx⟩ := l4 z e
        exact ⟨m, by omega, hx⟩
/-- who's way up ends at all is less than 30 deep -/
theorem ends29 {v : TV} {t K : Nat} (ht : t < 30) (hin : isIn v t = true) (h : endsV v K (vF v t)) : endsV v 29 (vF v t) := by
  obtain ⟨k, hk, hx⟩ := endsX_of h
  have h1 : endsX v (k + 1) (nI t) := ⟨t, ht, rfl, hin, hx⟩
  obtain ⟨l, l1, l2, l3, -⟩ := endsX_list h1
  have := nodup_len 30 l l3 l2
  exact endsV_le (endsV_of hx) (by omega)
theorem endsV_w {v w : TV} (e : ∀ g, isIn v g = true → isIn w g = true ∧ vF w g = vF v g) : ∀ {k : Nat} {x : Int32}, endsV v k x → endsV w k x := by
  intro k
  induction k with
  | zero => intro x h; exact h
  | succ k ih =>
    intro x h
    rcases h with h | ⟨g, h1, h2, h3, h4⟩
    · exact Or.inl h
    · obtain ⟨q1, q2⟩ := e g h3
      exact Or.inr ⟨g, h1, h2, q1, by rw [q2]; exact ih h4⟩
theorem wfT_same {n : Nat} {F : Nat → Bool} {v w : TV} (e : ∀ g, isIn w g = isIn v g ∧ (isIn v g = true → vF w g = vF v g)) (h : wfT n F v) : wfT n F w := by
  intro t ht
  rw [(e t).1] at ht
  obtain ⟨q1, q2, q3⟩ := h t ht
  rw [(e t).2 ht]
  refine ⟨q1, ?_, endsV_w (fun g hg => ⟨by rw [(e g).1]; exact hg, (e g).2 hg⟩) q3⟩
  rcases q2 with q2 | ⟨g, a, b, c, d⟩
  · exact Or.inl q2
  · exact Or.inr ⟨g, a, b, by rw [(e g).1]; exact c, d⟩
theorem wfT_F {n m : Nat} {F G : Nat → Bool} {v : TV} (hm : n ≤ m) (e : ∀ t, t < n → G t = F t) (h : wfT n F v) : wfT m G v := by
  intro t ht
  obtain ⟨q1, q2, q3⟩ := h t ht
  refine ⟨by omega, ?_, q3⟩
  rcases q2 with q2 | ⟨g, a, b, c, d⟩
  · exact Or.inl q2
  · exact Or.inr ⟨g, by omega, b, c, by rw [e g a]; exact d⟩
theorem upV_at {v : TV} {t : Nat} {x : Option (Int32 × Int32 × Int32)} : upV v t x t = x := if_pos rfl
theorem upV_ne {v : TV} {t j : Nat} {x : Option (Int32 × Int32 × Int32)} (e : j ≠ t) : upV v t x j = v j := if_neg e
theorem isIn_up {v : TV} {t j : Nat} {y : Int32 × Int32 × Int32} : isIn (upV v t (some y)) j = (decide (j = t) || isIn v j) := by
  unfold isIn
  by_cases e : j = t
  · subst e; rw [upV_at]; simp
  · rw [upV_ne e]; simp [e]
theorem vF_upe {v : TV} {t : Nat} {a b c : Int32} : vF (upV v t (some (a, b, c))) t = a := by unfold vF; rw [upV_at]
theorem vF_une {v : TV} {t j : Nat} {x : Option (Int32 × Int32 × Int32)} (e : j ≠ t) : vF (upV v t x) j = vF v j := by unfold vF; rw [upV_ne e]
theorem wfT_cont {n t : Nat} {F : Nat → Bool} {v : TV} {b c : Int32} (hin : isIn v t = true) (h : wfT n F v) : wfT n F (upV v t (some (vF v t, b, c))) := by
  refine wfT_same (fun g => ?_) h
  rw [isIn_up]
  by_cases e : g = t
  · subst e
    rw [vF_upe]
    simp [hin]
  · rw [vF_une e]
    simp [e]
theorem chB_spec {n : Nat} {F : Nat → Bool} {v : TV} {f : Int32} (hw : wfT n F v) (h : chB F v f = true) : f = -1 ∨ ∃ g, g < n ∧ f = nI g ∧ isIn v g = true ∧ F g = true := by
  by_cases e : f = -1
  · exact Or.inl e
  · unfold chB at h
    simp only [e, decide_false, Bool.false_or, Bool.and_eq_true, Bool.not_eq_true', decide_eq_false_iff_not] at h
    obtain ⟨⟨h0, h1⟩, h2⟩ := h
    obtain ⟨j, hj, rfl⟩ := nI_of h0
    rw [ix_n hj] at h1 h2
    exact Or.inr ⟨j, (hw j h1).1, rfl, h1, h2⟩
theorem wfT_new {n : Nat} {F : Nat → Bool} {v : TV} {f b c : Int32} {d : Bool} (hn : n < 30) (hc : chB F v f = true) (h : wfT n F v) : wfT (n + 1) (upF F n d) (upV v n (some (f, b, c))) := by
  have hnot : ∀ g, isIn v g = true → g ≠ n := fun g hg => by have := (h g hg).1; omega
  have hF : ∀ t, t < n → upF F n d t = F t := fun t ht => by unfold upF; rw [if_neg (by omega)]
  have hv : ∀ g, isIn v g = true → isIn (upV v n (some (f, b, c))) g = true ∧ vF (upV v n (some (f, b, c))) g = vF v g := fun g hg => ⟨by rw [isIn_up, hg]; simp, vF_une (hnot g hg)⟩
  have fol : ∀ x : Int32, (x = -1 ∨ ∃ g, g < n ∧ x = nI g ∧ isIn v g = true ∧ F g = true) → (x = -1 ∨ ∃ g, g < n + 1 ∧ x = nI g ∧ isIn (upV v n (some (f, b, c))) g = true ∧ upF F n d g = true) := by
    rintro x (hx | ⟨g, a1, a2, a3, a4⟩)
    · exact Or.inl hx
    · exact Or.inr ⟨g, by omega, a2, (hv g a3).1, by rw [hF g a1]; exact a4⟩
  intro t ht
  by_cases e : t = n
  · subst e
    rw [vF_upe]
    have hs := chB_spec h hc
    refine ⟨by omega, fol f hs, ?_⟩
    have hf : endsV v 30 f := by
      rcases hs with hs | ⟨g, a1, a2, a3, a4⟩
      · exact Or.inl hs
      · exact Or.inr ⟨g, by omega, a2, a3, (h g a3).2.2⟩
    have := ends29 (v := upV v t (some (f, b, c))) (t := t) (K := 30) hn ht (by rw [vF_upe]; exact endsV_w hv hf)
    rw [vF_upe] at this
    exact this
  · have hin : isIn v t = true := by
      rw [isIn_up] at ht
      simpa [e] using ht
    obtain ⟨q1, q2, q3⟩ := h t hin
    rw [vF_une e]
    exact ⟨by omega, fol _ q2, endsV_w hv q3⟩
theorem endsV_mv {v : TV} {t : Nat} {y : Int32 × Int32 × Int32} (ht : t < 30) : ∀ {k K : Nat} {x : Int32}, endsV v k x → k < K → suS v (nI t) K x = none → endsV (upV v t (some y)) k x := by
  intro k
  induction k with
  | zero => intro K x h _ _; exact h
  | succ k ih =>
    intro K x h hK hs
    rcases h with h | ⟨g, h1, h2, h3, h4⟩
    · exact Or.inl h
    · subst h2
      obtain ⟨K, rfl⟩ : ∃ m, K = m + 1 := ⟨K - 1, by omega⟩
      rw [suS_succ h1 h3] at hs
      by_cases e : nI g = nI t
      · rw [if_pos e] at hs; cases hs
      · rw [if_neg e] at hs
        have hs2 : suS v (nI t) K (vF v g) = none := by
          cases z : suS v (nI t) K (vF v g) with
          | none => rfl
          | some a => rw [z] at hs; cases hs
        have eg : g ≠ t := fun z => e (by rw [z])
        exact Or.inr ⟨g, h1, rfl, by rw [isIn_up, h3]; simp, by rw [vF_une eg]; exact ih h4 (by omega) hs2⟩
theorem wfT_mv {n t : Nat} {F : Nat → Bool} {v : TV} {f b c : Int32} (hn : n ≤ 30) (hin : isIn v t = true) (hc : chB F v f = true) (hs : suS v (nI t) 31 f = none) (h : wfT n F v) : wfT n F (upV v t (some (f, b, c))) := by
  have htn := (h t hin).1
  have hv : ∀ g, isIn v g = true → isIn (upV v t (some (f, b, c))) g = true := fun g hg => by rw [isIn_up, hg]; simp
  have hi : ∀ g, isIn (upV v t (some (f, b, c))) g = true → isIn v g = true := fun g hg => by
    rw [isIn_up] at hg
    by_cases e : g = t
    · rw [e]; exact hin
    · simpa [e] using hg
  have fol : ∀ x : Int32, (x = -1 ∨ ∃ g, g < n ∧ x = nI g ∧ isIn v g = true ∧ F g = true) → (x = -1 ∨ ∃ g, g < n ∧ x = nI g ∧ isIn (upV v t (some (f, b, c))) g = true ∧ F g = true) := by
    rintro x (hx | ⟨g, a1, a2, a3, a4⟩)
    · exact Or.inl hx
    · exact Or.inr ⟨g, a1, a2, hv g a3, a4⟩
  have hsp := chB_spec h hc
  have hf0 : endsV v 30 f := by
    rcases hsp with hs | ⟨g, a1, a2, a3, a4⟩
    · exact Or.inl hs
    · exact Or.inr ⟨g, by omega, a2, a3, (h g a3).2.2⟩
  have hf : endsV (upV v t (some (f, b, c))) 30 f := endsV_mv (by omega) hf0 (by omega) hs
  have hall : ∀ (k : Nat) (x : Int32), endsV v k x → endsV (upV v t (some (f, b, c))) (k + 31) x := by
    intro k
    induction k with
    | zero => intro x hx; exact endsV_le (k := 0) hx (by omega)
    | succ k ih =>
      intro x hx
      rcases hx with hx | ⟨g, h1, h2, h3, h4⟩
      · exact Or.inl hx
      · refine Or.inr ⟨g, h1, h2, hv g h3, ?_⟩
        by_cases e : g = t
        · subst e
          rw [vF_upe]
          exact endsV_le hf (by omega)
        · rw [vF_une e]
          exact ih _ h4
  intro u hu
  have hu0 := hi u hu
  obtain ⟨q1, q2, q3⟩ := h u hu0
  by_cases e : u = t
  · subst e
    have k1 := ends29 (v := upV v u (some (f, b, c))) (t := u) (K := 30) (by omega) hu (by rw [vF_upe]; exact hf)
    rw [vF_upe] at k1 ⊢
    exact ⟨q1, fol f hsp, k1⟩
  · have k1 := ends29 (v := upV v t (some (f, b, c))) (t := u) (K := 29 + 31) (by omega) hu (by rw [vF_une e]; exact hall 29 _ q3)
    rw [vF_une e] at k1 ⊢
    exact ⟨q1, fol _ q2, k1⟩
theorem isIn_rm {v : TV} {a : Int32} {t : Nat} : isIn (rmV v a) t = (isIn v t && !(goB v a t)) := by
  unfold isIn rmV
  cases goB v a t <;> simp
theorem vF_rm {v : TV} {a : Int32} {t : Nat} (h : goB v a t = false) : vF (rmV v a) t = vF v t := by
  unfold vF rmV
  rw [h]
  rfl
theorem inS_in {v : TV} {a : Int32} {t : Nat} (h : isIn v t = true) : inS v t a = (suS v a 31 (vF v t)).isSome := by
  rw [inS, isIn_some h]
theorem wfT_rm {n : Nat} {F : Nat → Bool} {v : TV} {a : Int32} (hn : n ≤ 30) (h : wfT n F v) : wfT n F (rmV v a) := by
  have up1 : ∀ t g, isIn v t = true → vF v t = nI g → isIn v g = true → goB v a t = false → goB v a g = false := by
    intro t g ht hf hg hgo
    have hgn := (h g hg).1
    unfold goB at hgo ⊢
    simp only [Bool.or_eq_false_iff, decide_eq_false_iff_not] at hgo ⊢
    have k := hgo.2
    rw [inS_in ht, hf, suS_succ (by omega) hg] at k
    by_cases e : nI g = a
    · rw [if_pos e] at k; cases k
    · refine ⟨e, ?_⟩
      rw [if_neg e] at k
      rw [inS_in hg, suS_stab (K' := 30) ((h g hg).2.2) (by omega) (by omega)]
      cases z : suS v a 30 (vF v g) with
      | none => rfl
      | some b => rw [z] at k; cases k
  have en : ∀ (k : Nat) (x : Int32), endsV v k x → (∀ g, x = nI g → g < 30 → isIn v g = true → goB v a g = false) → endsV (rmV v a) k x := by
    intro k
    induction k with
    | zero => intro x hx _; exact hx
    | succ k ih =>
      intro x hx hz
      rcases hx with hx | ⟨g, h1, h2, h3, h4⟩
      · exact Or.inl hx
      · have hgo := hz g h2 h1 h3
        refine Or.inr ⟨g, h1, h2, by rw [isIn_rm, h3, hgo]; rfl, ?_⟩
        rw [vF_rm hgo]
        exact ih _ h4 (fun g' e' _ i' => up1 g g' h3 e' i' hgo)
  intro t ht
  rw [isIn_rm] at ht
  simp only [Bool.and_eq_true, Bool.not_eq_true'] at ht
  obtain ⟨q1, q2, q3⟩ := h t ht.1
  rw [vF_rm ht.2]
  refine ⟨q1, ?_, en 29 _ q3 (fun g e _ i => up1 t g ht.1 e i ht.2)⟩
  rcases q2 with q2 | ⟨g, a1, a2, a3, a4⟩
  · exact Or.inl q2
  · exact Or.inr ⟨g, a1, a2, by rw [isIn_rm, a3, up1 t g ht.1 a2 a3 ht.2]; rfl, a4⟩
