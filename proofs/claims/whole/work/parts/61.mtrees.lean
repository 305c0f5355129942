/-! trees of the reference -/
def avM (h : HH) (s : Nat) : TV := fun t => if t < 30 then (if h (4 + s) t = 0 then none else some (h (8 + s) t, h (12 + s) t, h (16 + s) t)) else none
theorem avM_in {h : HH} {s t : Nat} (ht : t < 30) : avM h s t = if h (4 + s) t = 0 then none else some (h (8 + s) t, h (12 + s) t, h (16 + s) t) := if_pos ht
theorem avM_out {h : HH} {s t : Nat} (ht : ¬ t < 30) : avM h s t = none := if_neg ht
theorem isInM_lt {h : HH} {s t : Nat} (e : isIn (avM h s) t = true) : t < 30 := by
  unfold isIn at e
  by_cases h1 : t < 30
  · exact h1
  · rw [avM_out h1] at e
    cases e
theorem isInM_row {h : HH} {s t : Nat} (e : isIn (avM h s) t = true) : ¬ h (4 + s) t = 0 ∧ h (8 + s) t = vF (avM h s) t ∧ h (12 + s) t = vN (avM h s) t ∧ h (16 + s) t = vC (avM h s) t := by
  have ht := isInM_lt e
  unfold isIn at e
  unfold vF vN vC
  rw [avM_in ht] at e ⊢
  by_cases h0 : h (4 + s) t = 0
  · rw [if_pos h0] at e; cases e
  · rw [if_neg h0]; exact ⟨h0, rfl, rfl, rfl⟩
theorem inM_iff {h : HH} {s t : Nat} (ht : t < 30) : h (4 + s) t = 0 ↔ isIn (avM h s) t = false := by
  unfold isIn
  rw [avM_in ht]
  by_cases h0 : h (4 + s) t = 0 <;> simp [h0]
theorem inM_if {α : Type} {h : HH} {s t : Nat} (ht : t < 30) (a b : α) : (if h (4 + s) t = 0 then a else b) = if isIn (avM h s) t = true then b else a := by
  by_cases h0 : h (4 + s) t = 0
  · rw [if_pos h0, (inM_iff ht).mp h0]; rfl
  · rw [if_neg h0, if_pos]
    cases e : isIn (avM h s) t with
    | true => rfl
    | false => exact absurd ((inM_iff ht).mpr e) h0
theorem inM_ifn {α : Type} {h : HH} {s t : Nat} (ht : t < 30) (a b : α) : (if ¬ h (4 + s) t = 0 then a else b) = if isIn (avM h s) t = true then a else b := by
  by_cases h0 : h (4 + s) t = 0
  · rw [if_neg (fun z => z h0), (inM_iff ht).mp h0]; rfl
  · rw [if_pos h0, if_pos]
    cases e : isIn (avM h s) t with
    | true => rfl
    | false => exact absurd ((inM_iff ht).mpr e) h0
/-- the way up from x ends within k folders -/
def endsV (v : TV) : Nat → Int32 → Prop
  | 0, x => x = -1
  | k + 1, x => x = -1 ∨ ∃ g, g < 30 ∧ x = nI g ∧ isIn v g = true ∧ endsV v k (vF v g)
def wfT (n : Nat) (F : Nat → Bool) (v : TV) : Prop := ∀ t, isIn v t = true → t < n ∧ (vF v t = -1 ∨ ∃ g, g < n ∧ vF v t = nI g ∧ isIn v g = true ∧ F g = true) ∧ endsV v 29 (vF v t)
theorem suS_m1 {v : TV} {to : Int32} {K : Nat} : suS v to K (-1) = none := by
  cases K with
  | zero => rfl
  | succ K => unfold suS; rw [if_pos (Or.inl (by decide))]
theorem not_out {g : Nat} (hg : g < 30) : ¬ (nI g < 0 ∨ (30 : Int32) ≤ nI g) := by
  rintro (z | z)
  · exact n_lt0 g (by omega) z
  · have := (le30 (by omega)).mp z
    omega
theorem suS_succ {v : TV} {to : Int32} {K g : Nat} (hg : g < 30) (e : isIn v g = true) : suS v to (K + 1) (nI g) = if nI g = to then some 0 else (suS v to K (vF v g)).map (· + 1) := by
  rw [suS, if_neg (not_out hg), ix_n (by omega), isIn_some e]
theorem endsV_mono {v : TV} : ∀ {k : Nat} {x : Int32}, endsV v k x → endsV v (k + 1) x := by
  intro k
  induction k with
  | zero => intro x h; exact Or.inl h
  | succ k ih =>
    intro x h
    rcases h with h | ⟨g, h1, h2, h3, h4⟩
    · exact Or.inl h
    · exact Or.inr ⟨g, h1, h2, h3, ih h4⟩
theorem endsV_le {v : TV} {k K : Nat} {x : Int32} (h : endsV v k x) (e : k ≤ K) : endsV v K x := by
  induction K with
  | zero => rw [show k = 0 by omega] at h; exact h
  | succ K ih =>
    by_cases e2 : k = K + 1
    · rw [← e2]; exact h
    · exact endsV_mono (ih (by omega))
theorem n_ne {a b : Nat} (ha : a < 2 ^ 31) (hb : b < 2 ^ 31) (h : a ≠ b) : ¬ nI a = nI b := fun z => h (nI_inj ha hb z)
theorem deepIn_b {h : HH} {s : Nat} (hs : s < 3) (t0 to : Int32) : ∀ (k n K j : Nat) (x : Int32), endsV (avM h s) k x → k < n → k < K → fX8_deepIn_b6 h RM 1 (nI s) t0 to n (nI j) x = some (oI ((suS (avM h s) to K x).map (· + j))) := by
  intro k
  induction k with
  | zero =>
    intro n K j x he hn hK
    obtain ⟨n, rfl⟩ : ∃ m, n = m + 1 := ⟨n - 1, by omega⟩
    have he : x = -1 := he
    rw [fX8_deepIn_b6, if_pos he, fX8_deepIn_b35, if_neg (fun z => z he), he, suS_m1]
    rfl
  | succ k ih =>
    intro n K j x he hn hK
    obtain ⟨n, rfl⟩ : ∃ m, n = m + 1 := ⟨n - 1, by omega⟩
    obtain ⟨K, rfl⟩ : ∃ m, K = m + 1 := ⟨K - 1, by omega⟩
    rcases he with he | ⟨g, hg, he, hin, hrec⟩
    · rw [fX8_deepIn_b6, if_pos he, fX8_deepIn_b35, if_neg (fun z => z he), he, suS_m1]
      rfl
    · subst he
      rw [fX8_deepIn_b6, if_neg (m1_ne g (by omega)), suS_succ hg hin]
      by_cases e : nI g = to
      · rw [if_pos e, if_pos e, fX8_deepIn_b35, if_pos (m1_ne g (by omega))]
        simp [oI]
      · rw [if_neg e, if_neg e]
        simp only [M_4, ln_7, gd_in hs (show 3 < 2 ^ 31 by decide), ix_n (show s < 2 ^ 31 by omega), R_7 s hs, L_7 s hs, gd_in hg n30, ix_n (show g < 2 ^ 31 by omega), lt_eq, n_p1]
        rw [(isInM_row hin).2.1, ih n K (j + 1) _ hrec (by omega) (by omega), Option.map_map]
        congr 3
        funext z
        simp only [Function.comp]
        omega
theorem deepIn_m {h : HH} {s : Nat} (hs : s < 3) {k : Nat} {x to : Int32} (he : endsV (avM h s) k x) (hk : k ≤ 30) : fX8_deepIn h RM 1 (nI s) x to = some (oI (suS (avM h s) to 31 x)) := by
  unfold fX8_deepIn
  rw [l0, deepIn_b hs x to k lpF 31 0 x he (by rw [lpF_eq]; omega) (by omega)]
  simp
theorem suS_len {v : TV} {to : Nat} (hto : to < 30) : ∀ {K k a : Nat} {x : Int32}, suS v (nI to) K x = some a → endsV v k x → a < k ∧ endsV v (k - a) (nI to) := by
  intro K
  induction K with
  | zero => intro k a x h; cases h
  | succ K ih =>
    intro k a x h he
    cases k with
    | zero =>
      have he : x = -1 := he
      rw [he, suS_m1] at h
      cases h
    | succ k =>
      rcases he with he | ⟨g, hg, he, hin, hrec⟩
      · rw [he, suS_m1] at h
        cases h
      · subst he
        rw [suS_succ hg hin] at h
        by_cases e : nI g = nI to
        · rw [if_pos e] at h
          cases h
          refine ⟨by omega, ?_⟩
          rw [← e]
          exact Or.inr ⟨g, hg, rfl, hin, hrec⟩
        · rw [if_neg e] at h
          cases hz : suS v (nI to) K (vF v g) with
          | none => rw [hz] at h; cases h
          | some b =>
            rw [hz] at h
            have hb : b + 1 = a := Option.some.inj h
            obtain ⟨q1, q2⟩ := ih hz hrec
            exact ⟨by omega, by rw [show k + 1 - a = k - b by omega]; exact q2⟩
/-- who's way up ends isn't met on it -/
theorem noRing {v : TV} {t : Nat} (ht : t < 30) {K : Nat} : ∀ (k : Nat), endsV v k (vF v t) → suS v (nI t) K (vF v t) = none := by
  intro k
  induction k using Nat.strongRecOn with
  | _ k ih =>
    intro he
    cases hz : suS v (nI t) K (vF v t) with
    | none => rfl
    | some a =>
      exfalso
      obtain ⟨q1, q2⟩ := suS_len ht hz he
      obtain ⟨m, hm⟩ : ∃ m, k - a = m + 1 := ⟨k - a - 1, by omega⟩
      rw [hm] at q2
      rcases q2 with q2 | ⟨g, hg, e, hin, hrec⟩
      · exact m1_ne t (by omega) q2
      · have : t = g := nI_inj (by omega) (by omega) e
        subst this
        have := ih m (by omega) hrec
        rw [hz] at this
        cases this
theorem isInner_m {h : HH} {s t u n : Nat} {F : Nat → Bool} (hs : s < 3) (ht : t < 30) (hu : u < 30) (hw : wfT n F (avM h s)) : fX8_isInner h RM 1 (nI s) (nI t) (nI u) = some (b2i (inS (avM h s) t (nI u))) := by
  unfold fX8_isInner fX8_isInner_b31
  simp only [M_3, ln_3, gd_in hs (show 3 < 2 ^ 31 by decide), ix_n (show s < 2 ^ 31 by omega), R_3 s hs, L_3 s hs, gd_in ht n30, ix_n (show t < 2 ^ 31 by omega), inM_if ht]
  cases hin : isIn (avM h s) t with
  | false =>
    rw [if_neg (by decide)]
    have e : avM h s t = none := by
      unfold isIn at hin
      cases e : avM h s t with
      | none => rfl
      | some x => rw [e] at hin; cases hin
    unfold inS
    rw [e]
    rfl
  | true =>
    rw [if_pos rfl]
    obtain ⟨q1, q2, q3⟩ := hw t hin
    have hv : inS (avM h s) t (nI u) = (suS (avM h s) (nI u) 31 (vF (avM h s) t)).isSome := by
      rw [inS, isIn_some hin]
    rw [hv]
    by_cases e : t = u
    · subst e
      rw [if_pos rfl, noRing ht 29 q3]
      rfl
    · have kd : fX8_deepIn h RM 1 (nI s) (nI t) (nI u) = some (oI ((suS (avM h s) (nI u) 32 (nI t)).map (· + 0))) := by
        unfold fX8_deepIn
        rw [l0]
        exact deepIn_b hs (nI t) (nI u) 30 lpF 32 0 (nI t) (Or.inr ⟨t, ht, rfl, hin, q3⟩) (by rw [lpF_eq]; omega) (by omega)
      rw [if_neg (n_ne (by omega) (by omega) e), kd, Option.bind_some, suS_succ ht hin, if_neg (n_ne (by omega) (by omega) e)]
      cases hz : suS (avM h s) (nI u) 31 (vF (avM h s) t) with
      | none => rfl
      | some a =>
        have := suS_lt hz
        show (if nI (a + 1 + 0) = -1 then some 0 else some 1) = _
        rw [if_neg (m1_ne _ (by omega))]
        rfl
theorem found_m {h : HH} {s n : Nat} (hs : s < 3) (hn : n ≤ 30) (h0 : h 1 0 = nI n) (hN : inN n (avM h s)) (f nm : Int32) : fX8_found h RM 1 (nI s) f nm = some (oI (fnd (fun t => isAtS (avM h s) t f nm) 0 30)) := by
  have hz : ∀ j, n ≤ j → isAtS (avM h s) j f nm = false := by
    intro j hj
    unfold isAtS
    cases e : avM h s j with
    | none => rfl
    | some x =>
      have := hN j (by unfold isIn; rw [e]; rfl)
      omega
  have key := loop_find (L := fX8_found_b3 h RM 1 (nI s) f nm) (P := fun t => isAtS (avM h s) t f nm) (e := n) (g := fun x => some (oI x)) (fun k i hi => by
    rw [fX8_found_b3, h0, if_neg (nI_ge hi (by omega))]
    simp only [fX8_found_b53, M_3, M_4, M_5, ln_3, ln_7, ln_11, gd_in hs (show 3 < 2 ^ 31 by decide), ix_n (show s < 2 ^ 31 by omega), R_3 s hs, R_7 s hs, R_11 s hs, L_3 s hs, L_7 s hs, L_11 s hs, gd_in (show i < 30 by omega) n30, ix_n (show i < 2 ^ 31 by omega), n_p1]
    unfold isAtS
    rw [avM_in (show i < 30 by omega)]
    by_cases g0 : h (4 + s) i = 0
    · simp [g0]
    · by_cases g1 : h (8 + s) i = f
      · by_cases g2 : h (12 + s) i = nm
        · simp [g0, g1, g2, oI]
        · simp [g0, g1, g2]
      · simp [g0, g1]) (fun k => by rw [fX8_found_b3, h0, if_pos (nI_le (Nat.le_refl n) (by omega))]; rfl)
  unfold fX8_found
  rw [l0, key lpF 0 (by omega) (by rw [lpF_eq]; omega), Nat.sub_zero, show (30 : Nat) = n + (30 - n) by omega, fnd_app n (30 - n) 0 (fun j h1 h2 => hz j (by omega))]
