/-! a PLAN in plain words -/
noncomputable def asB (V : Nat → TV) (P : List PT) (G : TV) (s t : Nat) : Bool := isIn (V s) t && (!(igA V P t) && !(isIn G t && plE (V s) G t))
def adS (B : Nat → Bool) (k : Int32) (t : Nat) (S : CL) : CL := if B t = true then S ++ [(k, t)] else S
noncomputable def dpStep (V : Nat → TV) (P : List PT) (G : TV) (s d t : Nat) (S : CL) : CL := if (isIn G t && decide (dpG G t = d)) = true then (if isIn (V s) t = true then (if asB V P G s t = true then S ++ [(2, t)] else S) else S ++ [(1, t)]) else S
noncomputable def dpAll (V : Nat → TV) (P : List PT) (G : TV) (s d : Nat) (S : CL) : CL := fld (dpStep V P G s d) 0 30 S
def wrC (V : Nat → TV) (G : TV) (s t : Nat) : Bool := isIn G t && (isIn (V s) t && !(ctE (V s) G t))
noncomputable def rmC (V : Nat → TV) (P : List PT) (G : TV) (s t : Nat) : Bool := asB V P G s t && !(isIn G t)
def dnS (B : Nat → Bool) (k : Int32) : Nat → CL → CL
  | 0, S => S
  | m + 1, S => dnS B k m (adS B k m S)
noncomputable def p1S (V : Nat → TV) (P : List PT) (G : TV) (s : Nat) : CL := fld (adS (asB V P G s) 0) 0 30 []
noncomputable def p2S (V : Nat → TV) (P : List PT) (G : TV) (s : Nat) : CL := fld (dpAll V P G s) 0 30 (p1S V P G s)
noncomputable def p3S (V : Nat → TV) (P : List PT) (G : TV) (s : Nat) : CL := fld (adS (wrC V G s) 3) 0 30 (p2S V P G s)
noncomputable def p4S (V : Nat → TV) (P : List PT) (G : TV) (s : Nat) : CL := dnS (rmC V P G s) 4 30 (p3S V P G s)
theorem adS_len {B : Nat → Bool} {k : Int32} {t : Nat} {S : CL} : (adS B k t S).length ≤ S.length + 1 := by
  unfold adS
  split
  · simp
  · omega
theorem fadS_len {B : Nat → Bool} {k : Int32} {S : CL} : ∀ m, (fld (adS B k) 0 m S).length ≤ S.length + m
  | 0 => Nat.le_refl _
  | m + 1 => by
    rw [fld_app]
    have h1 := fadS_len (B := B) (k := k) (S := S) m
    have h2 := adS_len (B := B) (k := k) (t := m) (S := fld (adS B k) 0 m S)
    omega
theorem dnS_len {B : Nat → Bool} {k : Int32} : ∀ (m : Nat) (S : CL), (dnS B k m S).length ≤ S.length + m
  | 0, S => Nat.le_refl _
  | m + 1, S => by
    show (dnS B k m (adS B k m S)).length ≤ _
    have h1 := dnS_len (B := B) (k := k) m (adS B k m S)
    have h2 := adS_len (B := B) (k := k) (t := m) (S := S)
    omega
/-- how many with P, as a number -/
def cnN (Q : Nat → Bool) : Nat → Nat
  | 0 => 0
  | k + 1 => cnN Q k + (if Q k = true then 1 else 0)
def smN (f : Nat → Nat) : Nat → Nat
  | 0 => 0
  | k + 1 => smN f k + f k
theorem smN_add {f g : Nat → Nat} : ∀ k, smN (fun d => f d + g d) k = smN f k + smN g k
  | 0 => rfl
  | k + 1 => by
    show smN (fun d => f d + g d) k + (f k + g k) = (smN f k + f k) + (smN g k + g k)
    rw [smN_add k]
    omega
theorem smN_0 : ∀ k, smN (fun _ => 0) k = 0
  | 0 => rfl
  | k + 1 => by
    show smN (fun _ => 0) k + 0 = 0
    rw [smN_0 k]
theorem smN_one {b : Bool} {e : Nat} : ∀ k, smN (fun d => if (b && decide (e = d)) = true then 1 else 0) k ≤ 1 ∧ (k ≤ e → smN (fun d => if (b && decide (e = d)) = true then 1 else 0) k = 0)
  | 0 => ⟨Nat.zero_le _, fun _ => rfl⟩
  | k + 1 => by
    obtain ⟨h1, h2⟩ := smN_one (b := b) (e := e) k
    refine ⟨?_, fun hk => ?_⟩
    · show smN _ k + (if (b && decide (e = k)) = true then 1 else 0) ≤ 1
      by_cases ek : e = k
      · rw [h2 (by omega)]
        split <;> omega
      · rw [show decide (e = k) = false from decide_eq_false ek, Bool.and_false]
        simpa using h1
    · show smN _ k + (if (b && decide (e = k)) = true then 1 else 0) = 0
      rw [h2 (by omega), show decide (e = k) = false by simp; omega, Bool.and_false]
      rfl
theorem smN_dis {I : Nat → Bool} {e : Nat → Nat} {D : Nat} : ∀ k, smN (fun d => cnN (fun t => I t && decide (e t = d)) k) D ≤ k
  | 0 => by
    show smN (fun _ => 0) D ≤ 0
    rw [smN_0]
    exact Nat.le_refl _
  | k + 1 => by
    have h1 := smN_dis (I := I) (e := e) (D := D) k
    have h2 := (smN_one (b := I k) (e := e k) D).1
    have h3 : smN (fun d => cnN (fun t => I t && decide (e t = d)) (k + 1)) D = smN (fun d => cnN (fun t => I t && decide (e t = d)) k) D + smN (fun d => if (I k && decide (e k = d)) = true then 1 else 0) D := smN_add D
    omega
theorem dpAll_len {V : Nat → TV} {P : List PT} {G : TV} {s d : Nat} {S : CL} : ∀ k, (fld (dpStep V P G s d) 0 k S).length ≤ S.length + cnN (fun t => isIn G t && decide (dpG G t = d)) k
  | 0 => Nat.le_refl _
  | k + 1 => by
    rw [fld_app]
    have h1 := dpAll_len (V := V) (P := P) (G := G) (s := s) (d := d) (S := S) k
    generalize fld (dpStep V P G s d) 0 k S = T at h1
    show (dpStep V P G s d k T).length ≤ S.length + (cnN (fun t => isIn G t && decide (dpG G t = d)) k + (if (isIn G k && decide (dpG G k = d)) = true then 1 else 0))
    unfold dpStep
    split
    · split
      · split
        · simp only [List.length_append, List.length_cons, List.length_nil]; omega
        · omega
      · simp only [List.length_append, List.length_cons, List.length_nil]; omega
    · omega
theorem p2_len {V : Nat → TV} {P : List PT} {G : TV} {s : Nat} {S : CL} : ∀ D, (fld (dpAll V P G s) 0 D S).length ≤ S.length + smN (fun d => cnN (fun t => isIn G t && decide (dpG G t = d)) 30) D
  | 0 => Nat.le_refl _
  | D + 1 => by
    rw [fld_app]
    have h1 := p2_len (V := V) (P := P) (G := G) (s := s) (S := S) D
    have h2 := dpAll_len (V := V) (P := P) (G := G) (s := s) (d := D) (S := fld (dpAll V P G s) 0 D S) 30
    show (fld (dpStep V P G s D) 0 30 (fld (dpAll V P G s) 0 D S)).length ≤ S.length + (smN (fun d => cnN (fun t => isIn G t && decide (dpG G t = d)) 30) D + cnN (fun t => isIn G t && decide (dpG G t = D)) 30)
    omega
theorem p1_30 {V : Nat → TV} {P : List PT} {G : TV} {s : Nat} : (p1S V P G s).length ≤ 30 := by
  have := fadS_len (B := asB V P G s) (k := 0) (S := []) 30
  exact this
theorem p2_60 {V : Nat → TV} {P : List PT} {G : TV} {s : Nat} (D : Nat) : (fld (dpAll V P G s) 0 D (p1S V P G s)).length ≤ 60 := by
  have h1 := p2_len (V := V) (P := P) (G := G) (s := s) (S := p1S V P G s) D
  have h2 := smN_dis (I := fun t => isIn G t) (e := fun t => dpG G t) (D := D) 30
  have h3 := p1_30 (V := V) (P := P) (G := G) (s := s)
  have h2 : smN (fun d => cnN (fun t => isIn G t && decide (dpG G t = d)) 30) D ≤ 30 := h2
  omega
theorem dpAll_60 {V : Nat → TV} {P : List PT} {G : TV} {s : Nat} (D k : Nat) (hk : k ≤ 30) : (fld (dpStep V P G s D) 0 k (fld (dpAll V P G s) 0 D (p1S V P G s))).length ≤ 90 := by
  have h1 := dpAll_len (V := V) (P := P) (G := G) (s := s) (d := D) (S := fld (dpAll V P G s) 0 D (p1S V P G s)) k
  have h2 := p2_60 (V := V) (P := P) (G := G) (s := s) D
  have h3 : ∀ Q : Nat → Bool, ∀ m, cnN Q m ≤ m := by
    intro Q m
    induction m with
    | zero => exact Nat.le_refl _
    | succ m ih =>
      unfold cnN
      split <;> omega
  have := h3 (fun t => isIn G t && decide (dpG G t = D)) k
  omega
theorem p3_90 {V : Nat → TV} {P : List PT} {G : TV} {s : Nat} : (p3S V P G s).length ≤ 90 := by
  have h1 := fadS_len (B := wrC V G s) (k := 3) (S := p2S V P G s) 30
  have h2 := p2_60 (V := V) (P := P) (G := G) (s := s) 30
  have h2 : (p2S V P G s).length ≤ 60 := h2
  show (fld (adS (wrC V G s) 3) 0 30 (p2S V P G s)).length ≤ 90
  omega
theorem p4_120 {V : Nat → TV} {P : List PT} {G : TV} {s : Nat} : (p4S V P G s).length ≤ 120 := by
  have h1 := dnS_len (B := rmC V P G s) (k := 4) 30 (p3S V P G s)
  have h2 := p3_90 (V := V) (P := P) (G := G) (s := s)
  show (dnS (rmC V P G s) 4 30 (p3S V P G s)).length ≤ 120
  omega
theorem fld_ext {σ : Type} {f : Nat → σ → σ} {n : Nat} (h : ∀ t s, n ≤ t → f t s = s) (s : σ) : ∀ d, fld f 0 (n + d) s = fld f 0 n s
  | 0 => rfl
  | d + 1 => by
    rw [show n + (d + 1) = (n + d) + 1 by omega, fld_app, h _ _ (by omega)]
    exact fld_ext h s d
theorem fld_ext30 {σ : Type} {f : Nat → σ → σ} {n : Nat} (hn : n ≤ 30) (h : ∀ t s, n ≤ t → f t s = s) (s : σ) : fld f 0 30 s = fld f 0 n s := by
  have := fld_ext h s (30 - n)
  rw [show n + (30 - n) = 30 by omega] at this
  exact this
theorem dnS_ext {B : Nat → Bool} {k : Int32} {n : Nat} (h : ∀ t, n ≤ t → B t = false) : ∀ (d : Nat) (S : CL), dnS B k (n + d) S = dnS B k n S
  | 0, S => rfl
  | d + 1, S => by
    show dnS B k (n + d) (adS B k (n + d) S) = _
    have : adS B k (n + d) S = S := by
      unfold adS
      rw [h (n + d) (by omega)]
      rfl
    rw [this]
    exact dnS_ext h d S
/-! the class's plan -/
theorem L_0 : RA 115 0 = 116 := by decide +kernel
theorem L_1 : RA 115 1 = 117 := by decide +kernel
theorem L_2 : RA 115 2 = 118 := by decide +kernel
theorem L_30 : RA 115 3 = 119 := by decide +kernel
theorem Ll_116 : lnA 116 = 120 := by decide +kernel
theorem Ll_117 : lnA 117 = 120 := by decide +kernel
theorem Ll_118 : lnA 118 = 30 := by decide +kernel
theorem Ll_119 : lnA 119 = 30 := by decide +kernel
def frP (h h' : HH) : Prop := ∀ q, q < 115 ∨ 120 ≤ q → h' q = h q
theorem frP_rfl {h : HH} : frP h h := fun _ _ => rfl
theorem frP_trans {h h' h'' : HH} (a : frP h h') (b : frP h' h'') : frP h h'' := fun q e => (b q e).trans (a q e)
theorem frP_up {h : HH} {p k : Nat} {x : Int32} (h1 : 115 ≤ p) (h2 : p < 120) : frP h (up h p k x) := fun q e => up_ne (by omega)
theorem mgA_P {h h' : HH} {x : T3} (a : frP h h') (m : mgA h x) : mgA h' x := by
  obtain ⟨a1, a2, a3, a4, a5⟩ := m
  exact ⟨(avA_eq (a _ (by decide)) (a _ (by decide)) (a _ (by decide)) (a _ (by decide))).trans a1, clT_eq (a _ (by decide)) (a _ (by decide)) (a _ (by decide)) (a _ (by decide)) a2, by rw [a 103 (by decide)]; exact a3, a4, clA_fr (by rw [a 103 (by decide)]) (a _ (by decide)) (a _ (by decide)) a5⟩
theorem ctxA_P {h h' : HH} {w n first : Nat} {V : Nat → TV} {P : List PT} (ww : w268 w) (a : frP h h') (c : ctxA h w n V P first) : ctxA h' w n V P first := by
  have hl := w268_lt ww
  obtain ⟨c1, ⟨c2, c3⟩, c4, c5⟩ := c
  exact ⟨cxA_eq (by rw [a 103 (by decide)]) (fun q _ _ => a q (by omega)) c1, ⟨fun u hu => by rw [a 104 (by decide)]; exact c2 u hu, fun s hs u hu => by rw [a (106 + s) (by omega)]; exact c3 s hs u hu⟩, by rw [a 103 (by decide)]; exact c4, by rw [a w (by omega)]; exact c5⟩
def psA (h : HH) (S : CL) : Prop := h 115 4 = nI S.length ∧ ∀ i y, S[i]? = some y → h 116 i = y.1 ∧ h 117 i = nI y.2
theorem add_a {h : HH} {S : CL} (hS : psA h S) (hl : S.length < 120) (k : Int32) (t : Nat) : ∃ h', fX2_add h RA 115 k (nI t) = some h' ∧ psA h' (S ++ [(k, t)]) ∧ frP h h' ∧ h' 118 = h 118 ∧ h' 119 = h 119 := by
  have l120 : ¬ (120 : Int32) ≤ nI S.length := fun z => by
    have := (n_le (show (120 : Int32) = nI 120 by decide) (by decide) S.length (by omega)).mp z
    omega
  have e1 : up h 116 S.length k 115 4 = nI S.length := by rw [up_ne (by decide)]; exact hS.1
  have e2 : up (up h 116 S.length k) 117 S.length (nI t) 115 4 = nI S.length := by rw [up_ne (by decide)]; exact e1
  refine ⟨up (up (up h 116 S.length k) 117 S.length (nI t)) 115 4 (nI (S.length + 1)), ?_, ⟨by rw [up_same]; simp, fun i y hi => ?_⟩, frP_trans (frP_up (by decide) (by decide)) (frP_trans (frP_up (by decide) (by decide)) (frP_up (by decide) (by decide))), by rw [up_ne (by decide), up_ne (by decide), up_ne (by decide)], by rw [up_ne (by decide), up_ne (by decide), up_ne (by decide)]⟩
  · unfold fX2_add
    rw [hS.1, if_neg l120, L_0, Ll_116, gd_in hl (by decide), lt_eq, ix_n (show S.length < 2 ^ 31 by omega), e1, L_1, Ll_117, gd_in hl (by decide), lt_eq, ix_n (show S.length < 2 ^ 31 by omega), e2, lt_eq, n_p1]
  · rw [up_ne (show 116 ≠ 115 by decide), up_ne (show 116 ≠ 117 by decide), up_at, up_ne (show 117 ≠ 115 by decide), up_at]
    rcases get_app hi with ⟨ei, ey⟩ | hi2
    · rw [if_pos ei, if_pos ei, ey]
      exact ⟨rfl, rfl⟩
    · have := (List.getElem?_eq_some_iff.mp hi2).1
      rw [if_neg (by omega), if_neg (by omega), up_ne (show 117 ≠ 116 by decide)]
      exact hS.2 i y hi2
