def h00 : HH := fun _ _ => 0
def r00 : RR := fun _ _ => 0
def iniA : Option (HH × RR) := fX7_init 1 (zrow h00 1) (zrowR r00 1) 1
def iniM : Option (HH × RR) := fX8_init 1 (zrow h00 1) (zrowR r00 1) 1
def RA : RR := (iniA.getD (h00, r00)).2
def hA0 : HH := (iniA.getD (h00, r00)).1
def RM : RR := (iniM.getD (h00, r00)).2
def hM0 : HH := (iniM.getD (h00, r00)).1
theorem iniA_some : iniA.isSome = true := by decide +kernel
theorem iniM_some : iniM.isSome = true := by decide +kernel
theorem ini_eq {α β : Type} {x : Option (α × β)} (h : x.isSome = true) (d : α × β) : x = some ((x.getD d).1, (x.getD d).2) := by
  cases x with
  | none => cases h
  | some q => rfl
theorem iniA_eq : fX7_init 1 (zrow h00 1) (zrowR r00 1) 1 = some (hA0, RA) := ini_eq (x := iniA) iniA_some (h00, r00)
theorem iniM_eq : fX8_init 1 (zrow h00 1) (zrowR r00 1) 1 = some (hM0, RM) := ini_eq (x := iniM) iniM_some (h00, r00)
def wtc (K ln : Nat → Nat) (M : Nat) (r : RR) (p k : Nat) : Bool := !(decide (K p < 16 ∧ sty (K p) k < 16 ∧ (9 ≤ K p → k < ln p))) || (decide (K (r p k) = sty (K p) k))
def wta (K ln : Nat → Nat) (M : Nat) (r : RR) : Bool := (List.range (M + 1)).all fun p => (List.range 60).all fun k => wtc K ln M r p k
theorem sty_lt {c k : Nat} (h : sty c k < 16) (h9 : c < 9) : k < 60 := by
  have h2 : ∀ c, c < 9 → (((styL[c]?).getD [])).length ≤ 60 := by decide +kernel
  unfold sty at h
  rw [if_pos h9] at h
  rcases Nat.lt_or_ge k ((styL[c]?).getD []).length with q | q
  · exact Nat.lt_of_lt_of_le q (h2 c h9)
  · rw [List.getElem?_eq_none q] at h
    exact absurd (show (20 : Nat) < 16 from h) (by decide)
theorem WT_full {K ln : Nat → Nat} {M : Nat} {r : RR} (hw : wta K ln M r = true) (hK : ∀ p, K p < 16 → 1 ≤ p ∧ p ≤ M) (hl : ∀ p, K p < 16 → ¬ K p < 11 → ln p ≤ 60) : WT K ln (fun p => K p < 16) M r := by
  refine ⟨fun p hp => hK p hp, fun p k hp h16 hlk => ?_⟩
  have hk : k < 60 := by
    rcases Nat.lt_or_ge (K p) 9 with h9 | h9
    · exact sty_lt h16 h9
    · rcases Nat.lt_or_ge (K p) 11 with h11 | h11
      · exfalso
        unfold sty at h16
        rw [if_neg (by omega)] at h16
        rcases (show K p = 9 ∨ K p = 10 by omega) with e | e <;> rw [e] at h16 <;> exact absurd (show (20 : Nat) < 16 from h16) (by decide)
      · exact Nat.lt_of_lt_of_le (hlk h9) (hl p hp (by omega))
  have h1 := List.all_eq_true.mp hw p (List.mem_range.mpr (by have := (hK p hp).2; omega))
  have h2 := List.all_eq_true.mp h1 k (List.mem_range.mpr hk)
  unfold wtc at h2
  rw [decide_eq_true (show K p < 16 ∧ sty (K p) k < 16 ∧ (9 ≤ K p → k < ln p) from ⟨hp, h16, hlk⟩)] at h2
  have h3 : K (r p k) = sty (K p) k := by simpa using h2
  exact ⟨h3, by show K (r p k) < 16; rw [h3]; exact h16⟩
theorem K_rng (L : List (Nat × Nat)) (M : Nat) (hL : L.length = M + 1) (h0 : L[0]? = some (99, 0)) (p : Nat) (h : ((L[p]?).getD (99, 0)).1 < 16) : 1 ≤ p ∧ p ≤ M := by
  rcases Nat.lt_or_ge p L.length with q | q
  · refine ⟨?_, by omega⟩
    rcases Nat.eq_zero_or_pos p with e | e
    · subst e
      rw [h0] at h
      exact absurd (show (99 : Nat) < 16 from h) (by decide)
    · exact e
  · rw [List.getElem?_eq_none q] at h
    exact absurd (show (99 : Nat) < 16 from h) (by decide)
theorem l_rng (L : List (Nat × Nat)) (hL : L.all (fun q => decide (¬ q.1 < 16 ∨ q.1 < 11 ∨ q.2 ≤ 60)) = true) (p : Nat) (h : ((L[p]?).getD (99, 0)).1 < 16) (h11 : ¬ ((L[p]?).getD (99, 0)).1 < 11) : ((L[p]?).getD (99, 0)).2 ≤ 60 := by
  cases hp : L[p]? with
  | none => rw [hp] at h; exact absurd (show (99 : Nat) < 16 from h) (by decide)
  | some q =>
    rw [hp] at h h11
    have h1 := of_decide_eq_true (List.all_eq_true.mp hL q (List.mem_of_getElem? hp))
    simp only [Option.getD_some] at h h11 ⊢
    omega
theorem WT_A : WT KA lnA (fun p => KA p < 16) MA RA := WT_full (by decide +kernel) (fun p h => K_rng kaL MA (by decide +kernel) rfl p h) (fun p h h11 => l_rng kaL (by decide +kernel) p h h11)
theorem WT_M : WT KM lnM (fun p => KM p < 16) MM RM := WT_full (by decide +kernel) (fun p h => K_rng kmL MM (by decide +kernel) rfl p h) (fun p h h11 => l_rng kmL (by decide +kernel) p h h11)
def S_make (Inv : HH → HH → Prop) : Prop := ∀ (hA hM : HH), Inv hA hM → ∀ a1 a2 a3 a4 : Int32, ∃ (v : Int32) (hA' : HH) (hM' : HH), fX7_make hA RA 1 a1 a2 a3 a4 = some (v, hA') ∧ fX8_make hM RM 1 a1 a2 a3 a4 = some (v, hM') ∧ Inv hA' hM'
def S_write (Inv : HH → HH → Prop) : Prop := ∀ (hA hM : HH), Inv hA hM → ∀ a1 a2 a3 : Int32, ∃ (v : Int32) (hA' : HH) (hM' : HH), fX7_write hA RA 1 a1 a2 a3 = some (v, hA') ∧ fX8_write hM RM 1 a1 a2 a3 = some (v, hM') ∧ Inv hA' hM'
def S_move (Inv : HH → HH → Prop) : Prop := ∀ (hA hM : HH), Inv hA hM → ∀ a1 a2 a3 a4 : Int32, ∃ (v : Int32) (hA' : HH) (hM' : HH), fX7_move hA RA 1 a1 a2 a3 a4 = some (v, hA') ∧ fX8_move hM RM 1 a1 a2 a3 a4 = some (v, hM') ∧ Inv hA' hM'
def S_remove (Inv : HH → HH → Prop) : Prop := ∀ (hA hM : HH), Inv hA hM → ∀ a1 a2 : Int32, ∃ (v : Int32) (hA' : HH) (hM' : HH), fX7_remove hA RA 1 a1 a2 = some (v, hA') ∧ fX8_remove hM RM 1 a1 a2 = some (v, hM') ∧ Inv hA' hM'
def S_told (Inv : HH → HH → Prop) : Prop := ∀ (hA hM : HH), Inv hA hM → ∀ a1 a2 a3 : Int32, ∃ (v : Int32) (hA' : HH) (hM' : HH), fX7_told hA RA 1 a1 a2 a3 = some (v, hA') ∧ fX8_told hM RM 1 a1 a2 a3 = some (v, hM') ∧ Inv hA' hM'
def S_find (Inv : HH → HH → Prop) : Prop := ∀ (hA hM : HH), Inv hA hM → ∀ a1 a2 a3 : Int32, ∃ (v : Int32), fX7_find hA RA 1 a1 a2 a3 = some v ∧ fX8_find hM RM 1 a1 a2 a3 = some v ∧ Inv hA hM
def S_taken (Inv : HH → HH → Prop) : Prop := ∀ (hA hM : HH), Inv hA hM → ∀ a1 a2 : Int32, ∃ (v : Int32), fX7_taken hA RA 1 a1 a2 = some v ∧ fX8_taken hM RM 1 a1 a2 = some v ∧ Inv hA hM
def S_latest (Inv : HH → HH → Prop) : Prop := ∀ (hA hM : HH), Inv hA hM → ∀ a1 : Int32, ∃ (v : Int32), fX7_latest hA RA 1 a1 = some v ∧ fX8_latest hM RM 1 a1 = some v ∧ Inv hA hM
def S_feed (Inv : HH → HH → Prop) : Prop := ∀ (hA hM : HH), Inv hA hM → ∀ a1 a2 a3 a4 a5 a6 : Int32, ∃ (v : Int32) (hA' : HH) (hM' : HH), fX7_feed hA RA 1 a1 a2 a3 a4 a5 a6 = some (v, hA') ∧ fX8_feed hM RM 1 a1 a2 a3 a4 a5 a6 = some (v, hM') ∧ Inv hA' hM'
def S_pattern (Inv : HH → HH → Prop) : Prop := ∀ (hA hM : HH), Inv hA hM → ∃ (v : Int32) (hA' : HH) (hM' : HH), fX7_pattern hA RA 1 = some (v, hA') ∧ fX8_pattern hM RM 1 = some (v, hM') ∧ Inv hA' hM'
def S_drop (Inv : HH → HH → Prop) : Prop := ∀ (hA hM : HH), Inv hA hM → ∃ (v : Int32) (hA' : HH) (hM' : HH), fX7_drop hA RA 1 = some (v, hA') ∧ fX8_drop hM RM 1 = some (v, hM') ∧ Inv hA' hM'
def S_matches (Inv : HH → HH → Prop) : Prop := ∀ (hA hM : HH), Inv hA hM → ∀ a1 a2 a3 : Int32, ∃ (v : Int32) (hA' : HH) (hM' : HH), fX7_matches hA RA 1 a1 a2 a3 = some (v, hA') ∧ fX8_matches hM RM 1 a1 a2 a3 = some (v, hM') ∧ Inv hA' hM'
def S_prefer (Inv : HH → HH → Prop) : Prop := ∀ (hA hM : HH), Inv hA hM → ∀ a1 : Int32, ∃ (v : Int32) (hA' : HH) (hM' : HH), fX7_prefer hA RA 1 a1 = some (v, hA') ∧ fX8_prefer hM RM 1 a1 = some (v, hM') ∧ Inv hA' hM'
def S_sync (Inv : HH → HH → Prop) : Prop := ∀ (hA hM : HH), Inv hA hM → ∃ (v : Int32) (hA' : HH) (hM' : HH), fX7_sync hA RA 1 = some (v, hA') ∧ fX8_sync hM RM 1 = some (v, hM') ∧ Inv hA' hM'
def S_target (Inv : HH → HH → Prop) : Prop := ∀ (hA hM : HH), Inv hA hM → ∀ a1 a2 : Int32, ∃ (v : Int32) (hA' : HH) (hM' : HH), fX7_target hA RA 1 a1 a2 = some (v, hA') ∧ fX8_target hM RM 1 a1 a2 = some (v, hM') ∧ Inv hA' hM'
def S_clash (Inv : HH → HH → Prop) : Prop := ∀ (hA hM : HH), Inv hA hM → ∀ a1 a2 : Int32, ∃ (v : Int32) (hA' : HH) (hM' : HH), fX7_clash hA RA 1 a1 a2 = some (v, hA') ∧ fX8_clash hM RM 1 a1 a2 = some (v, hM') ∧ Inv hA' hM'
def S_step (Inv : HH → HH → Prop) : Prop := ∀ (hA hM : HH), Inv hA hM → ∀ a1 a2 a3 : Int32, ∃ (v : Int32) (hA' : HH) (hM' : HH), fX7_step hA RA 1 a1 a2 a3 = some (v, hA') ∧ fX8_step_ hM RM 1 a1 a2 a3 = some (v, hM') ∧ Inv hA' hM'
def S_would (Inv : HH → HH → Prop) : Prop := ∀ (hA hM : HH), Inv hA hM → ∀ a1 : Int32, ∃ (v : Int32) (hA' : HH) (hM' : HH), fX7_would hA RA 1 a1 = some (v, hA') ∧ fX8_would hM RM 1 a1 = some (v, hM') ∧ Inv hA' hM'
def S_spared (Inv : HH → HH → Prop) : Prop := ∀ (hA hM : HH), Inv hA hM → ∀ a1 a2 : Int32, ∃ (v : Int32) (hA' : HH) (hM' : HH), fX7_spared hA RA 1 a1 a2 = some (v, hA') ∧ fX8_spared hM RM 1 a1 a2 = some (v, hM') ∧ Inv hA' hM'
def S_drawn (Inv : HH → HH → Prop) : Prop := ∀ (hA hM : HH), Inv hA hM → ∀ a1 a2 : Int32, ∃ (v : Int32) (hA' : HH) (hM' : HH), fX7_drawn hA RA 1 a1 a2 = some (v, hA') ∧ fX8_drawn hM RM 1 a1 a2 = some (v, hM') ∧ Inv hA' hM'
def S_chance (Inv : HH → HH → Prop) : Prop := ∀ (hA hM : HH), Inv hA hM → ∀ a1 a2 a3 : Int32, ∃ (v : Int32) (hA' : HH) (hM' : HH), fX7_chance hA RA 1 a1 a2 a3 = some (v, hA') ∧ fX8_chance hM RM 1 a1 a2 a3 = some (v, hM') ∧ Inv hA' hM'
def S_tells (Inv : HH → HH → Prop) : Prop := ∀ (hA hM : HH), Inv hA hM → ∀ a1 a2 a3 : Int32, ∃ (v : Int32) (hA' : HH) (hM' : HH), fX7_tells hA RA 1 a1 a2 a3 = some (v, hA') ∧ fX8_tells hM RM 1 a1 a2 a3 = some (v, hM') ∧ Inv hA' hM'
def S_film (Inv : HH → HH → Prop) : Prop := ∀ (hA hM : HH), Inv hA hM → ∀ a1 a2 a3 : Int32, ∃ (v : Int32) (hA' : HH) (hM' : HH), fX7_film hA RA 1 a1 a2 a3 = some (v, hA') ∧ fX8_film hM RM 1 a1 a2 a3 = some (v, hM') ∧ Inv hA' hM'
def S_image (Inv : HH → HH → Prop) : Prop := ∀ (hA hM : HH), Inv hA hM → ∃ (v : Int32) (hA' : HH) (hM' : HH), fX7_image hA RA 1 = some (v, hA') ∧ fX8_image hM RM 1 = some (v, hM') ∧ Inv hA' hM'
def S_back (Inv : HH → HH → Prop) : Prop := ∀ (hA hM : HH), Inv hA hM → ∃ (v : Int32) (hA' : HH) (hM' : HH), fX7_back hA RA 1 = some (v, hA') ∧ fX8_back hM RM 1 = some (v, hM') ∧ Inv hA' hM'
def S_count (Inv : HH → HH → Prop) : Prop := ∀ (hA hM : HH), Inv hA hM → ∀ a1 : Int32, ∃ (v : Int32), fX7_count hA RA 1 a1 = some v ∧ fX8_count hM RM 1 a1 = some v ∧ Inv hA hM
def S_sheet (Inv : HH → HH → Prop) : Prop := ∀ (hA hM : HH), Inv hA hM → ∀ a1 a2 a3 : Int32, ∃ (v : Int32) (hA' : HH) (hM' : HH), fX7_sheet hA RA 1 a1 a2 a3 = some (v, hA') ∧ fX8_sheet hM RM 1 a1 a2 a3 = some (v, hM') ∧ Inv hA' hM'
def S_cell (Inv : HH → HH → Prop) : Prop := ∀ (hA hM : HH), Inv hA hM → ∀ a1 a2 a3 : Int32, ∃ (v : Int32) (hA' : HH) (hM' : HH), fX7_cell hA RA 1 a1 a2 a3 = some (v, hA') ∧ fX8_cell hM RM 1 a1 a2 a3 = some (v, hM') ∧ Inv hA' hM'
def S_copy (Inv : HH → HH → Prop) : Prop := ∀ (hA hM : HH), Inv hA hM → ∀ a1 a2 a3 a4 a5 : Int32, ∃ (v : Int32) (hA' : HH) (hM' : HH), fX7_copy hA RA 1 a1 a2 a3 a4 a5 = some (v, hA') ∧ fX8_copy hM RM 1 a1 a2 a3 a4 a5 = some (v, hM') ∧ Inv hA' hM'
def STEP (Inv : HH → HH → Prop) : Prop := S_make Inv ∧ S_write Inv ∧ S_move Inv ∧ S_remove Inv ∧ S_told Inv ∧ S_find Inv ∧ S_taken Inv ∧ S_latest Inv ∧ S_feed Inv ∧ S_pattern Inv ∧ S_drop Inv ∧ S_matches Inv ∧ S_prefer Inv ∧ S_sync Inv ∧ S_target Inv ∧ S_clash Inv ∧ S_step Inv ∧ S_would Inv ∧ S_spared Inv ∧ S_drawn Inv ∧ S_chance Inv ∧ S_tells Inv ∧ S_film Inv ∧ S_image Inv ∧ S_back Inv ∧ S_count Inv ∧ S_sheet Inv ∧ S_cell Inv ∧ S_copy Inv
def GL (X : XT) (b pc : Nat) (L : List (Nat × Value)) (st : List Value) (hA hM : HH) : Prop := match X with
  | (p, l, e, R, s, m, args, below, meth, c, Q, H0, D, ac) => ∀ (H : Heap) (ls : Array Slot), WD D ac b KA lnA MA (b + 221) hA RA H → WD D ac (b + 128) KM lnM MM (b + 221) hM RM H → va_S (fun q => b < q) H0 H [] → lv_has ls 4 L → W p l e R s m args below meth c H [] 220 5262 Q (F0 m pc ls st)
def LOK (X : XT) (b bs L0 : Nat) (xs : Nat → Int32) : Prop := match X with
  | (p, l, e, R, s, m, args, below, meth, c, Q, H0, D, ac) => s.heap.size = b + 1 ∧ H0 = s.heap ∧ va_X bs L0 xs s s.heap ∧ bs ≤ b
section GLL
variable {X : XT} {b bs L0 pc : Nat} {xs : Nat → Int32} {L : List (Nat × Value)} {st : List Value} {hA hM : HH}
theorem l_iconst {n : Int} {v : Int32} (hX : XOK X RL code 4 1300) (hdg : decode code pc = .ok (.iconst n, 1)) (hv : Int32.ofInt n = v) (kk : GL X b (pc + 1) L (.int v :: st) hA hM) : GL X b pc L (st) hA hM := by
  obtain ⟨p, l, e, R, s, m, args, below, meth, c, Q, H0, D, ac⟩ := X
  obtain ⟨hx, hb, hml, hown, hts, hK, hlk, hd, hdl, hnw⟩ := hX
  intro H ls hWA hWM hS hl
  exact lv_iconst hx hb hdg hv (kk H ls hWA hWM hS hl)
theorem l_bipush {n : Int} {v : Int32} (hX : XOK X RL code 4 1300) (hdg : decode code pc = .ok (.bipush n, 2)) (hv : (Int8.ofInt n).toInt32 = v) (kk : GL X b (pc + 2) L (.int v :: st) hA hM) : GL X b pc L (st) hA hM := by
  obtain ⟨p, l, e, R, s, m, args, below, meth, c, Q, H0, D, ac⟩ := X
  obtain ⟨hx, hb, hml, hown, hts, hK, hlk, hd, hdl, hnw⟩ := hX
  intro H ls hWA hWM hS hl
  exact lv_bipush hx hb hdg hv (kk H ls hWA hWM hS hl)
theorem l_iload_n {k : Fin 4} {i j : Nat} {x : Int32} (hX : XOK X RL code 4 1300) (hdg : decode code pc = .ok (.iload_n k, 1)) (hi : (k : Nat) = i) (hj : L[j]? = some (i, .int x)) (kk : GL X b (pc + 1) L (.int x :: st) hA hM) : GL X b pc L (st) hA hM := by
  obtain ⟨p, l, e, R, s, m, args, below, meth, c, Q, H0, D, ac⟩ := X
  obtain ⟨hx, hb, hml, hown, hts, hK, hlk, hd, hdl, hnw⟩ := hX
  intro H ls hWA hWM hS hl
  exact lv_iload_n hx hb hdg hi (lv_at hl j hj) (kk H ls hWA hWM hS hl)
theorem l_aload_n {k : Fin 4} {i j x : Nat} (hX : XOK X RL code 4 1300) (hdg : decode code pc = .ok (.aload_n k, 1)) (hi : (k : Nat) = i) (hj : L[j]? = some (i, .ref x)) (kk : GL X b (pc + 1) L (.ref x :: st) hA hM) : GL X b pc L (st) hA hM := by
  obtain ⟨p, l, e, R, s, m, args, below, meth, c, Q, H0, D, ac⟩ := X
  obtain ⟨hx, hb, hml, hown, hts, hK, hlk, hd, hdl, hnw⟩ := hX
  intro H ls hWA hWM hS hl
  exact lv_aload_n hx hb hdg hi (lv_at hl j hj) (kk H ls hWA hWM hS hl)
theorem l_iadd {x y v : Int32} (hX : XOK X RL code 4 1300) (hdg : decode code pc = .ok (.iadd, 1)) (hv : x + y = v) (kk : GL X b (pc + 1) L (.int v :: st) hA hM) : GL X b pc L (.int y :: .int x :: st) hA hM := by
  obtain ⟨p, l, e, R, s, m, args, below, meth, c, Q, H0, D, ac⟩ := X
  obtain ⟨hx, hb, hml, hown, hts, hK, hlk, hd, hdl, hnw⟩ := hX
  intro H ls hWA hWM hS hl
  exact lv_iadd hx hb hdg (by rw [hv]; exact kk H ls hWA hWM hS hl)
theorem l_isub {x y : Int32} (hX : XOK X RL code 4 1300) (hdg : decode code pc = .ok (.isub, 1)) (kk : GL X b (pc + 1) L (.int (x - y) :: st) hA hM) : GL X b pc L (.int y :: .int x :: st) hA hM := by
  obtain ⟨p, l, e, R, s, m, args, below, meth, c, Q, H0, D, ac⟩ := X
  obtain ⟨hx, hb, hml, hown, hts, hK, hlk, hd, hdl, hnw⟩ := hX
  intro H ls hWA hWM hS hl
  exact lv_isub hx hb hdg (kk H ls hWA hWM hS hl)
theorem l_iand {x y : Int32} (hX : XOK X RL code 4 1300) (hdg : decode code pc = .ok (.iand, 1)) (kk : GL X b (pc + 1) L (.int (x &&& y) :: st) hA hM) : GL X b pc L (.int y :: .int x :: st) hA hM := by
  obtain ⟨p, l, e, R, s, m, args, below, meth, c, Q, H0, D, ac⟩ := X
  obtain ⟨hx, hb, hml, hown, hts, hK, hlk, hd, hdl, hnw⟩ := hX
  intro H ls hWA hWM hS hl
  exact lv_iand hx hb hdg (kk H ls hWA hWM hS hl)
theorem l_sld {i : Int32} (hX : XOK X RL code 4 1300) (hO : LOK X b bs L0 xs) (hdg : decode code pc = .ok (.iaload, 1)) (hin : vp_in i L0) (kk : GL X b (pc + 1) L (.int (xs i.toNatClampNeg) :: st) hA hM) : GL X b pc L (.int i :: .ref bs :: st) hA hM := by
  obtain ⟨p, l, e, R, s, m, args, below, meth, c, Q, H0, D, ac⟩ := X
  obtain ⟨hx, hb, hml, hown, hts, hK, hlk, hd, hdl, hnw⟩ := hX
  obtain ⟨o1, rfl, o3, o4⟩ := hO
  intro H ls hWA hWM hS hl
  exact va_sld hx hb o3 (by omega) (Nat.not_lt.mpr o4) hS hin hdg (kk H ls hWA hWM hS hl)
theorem l_slen (hX : XOK X RL code 4 1300) (hO : LOK X b bs L0 xs) (hdg : decode code pc = .ok (.arraylength, 1)) (kk : GL X b (pc + 1) L (.int (Int32.ofNat L0) :: st) hA hM) : GL X b pc L (.ref bs :: st) hA hM := by
  obtain ⟨p, l, e, R, s, m, args, below, meth, c, Q, H0, D, ac⟩ := X
  obtain ⟨hx, hb, hml, hown, hts, hK, hlk, hd, hdl, hnw⟩ := hX
  obtain ⟨o1, rfl, o3, o4⟩ := hO
  intro H ls hWA hWM hS hl
  exact va_slen hx hb o3 (by omega) (Nat.not_lt.mpr o4) hS hdg (kk H ls hWA hWM hS hl)
theorem l_tin {dflt lo hi : Int} {offs : Array Int} {len : Nat} {x v : Int32} {off : Int} {tgt : Nat} (hX : XOK X RL code 4 1300) (hdg : decode code pc = .ok (.tableswitch dflt lo hi offs, len)) (hv : x = v) (h1 : ¬ v.toInt < lo) (h2 : ¬ hi < v.toInt) (ho : offs[(v.toInt - lo).toNat]? = some off) (ht : (pc : Int) + off = (tgt : Int)) (kk : GL X b tgt L st hA hM) : GL X b pc L (.int x :: st) hA hM := by
  subst hv
  obtain ⟨p, l, e, R, s, m, args, below, meth, c, Q, H0, D, ac⟩ := X
  obtain ⟨hx, hb, hml, hown, hts, hK, hlk, hd, hdl, hnw⟩ := hX
  intro H ls hWA hWM hS hl
  exact lv_tableIn hx hb hdg h1 h2 ho ht (kk H ls hWA hWM hS hl)
theorem l_tout {dflt lo hi : Int} {offs : Array Int} {len : Nat} {x : Int32} {tgt : Nat} (hX : XOK X RL code 4 1300) (hdg : decode code pc = .ok (.tableswitch dflt lo hi offs, len)) (hh : x.toInt < lo ∨ hi < x.toInt) (ht : (pc : Int) + dflt = (tgt : Int)) (kk : GL X b tgt L st hA hM) : GL X b pc L (.int x :: st) hA hM := by
  obtain ⟨p, l, e, R, s, m, args, below, meth, c, Q, H0, D, ac⟩ := X
  obtain ⟨hx, hb, hml, hown, hts, hK, hlk, hd, hdl, hnw⟩ := hX
  intro H ls hWA hWM hS hl
  exact lv_tableOut hx hb hdg hh ht (kk H ls hWA hWM hS hl)
theorem l_gt {x y : Int32} {off : Int} {tgt : Nat} (hX : XOK X RL code 4 1300) (hdg : decode code pc = .ok (.if_icmp .gt off, 3)) (ht : (pc : Int) + off = (tgt : Int)) (kt : y < x → GL X b tgt L st hA hM) (kf : ¬ y < x → GL X b (pc + 3) L st hA hM) : GL X b pc L (.int y :: .int x :: st) hA hM := by
  obtain ⟨p, l, e, R, s, m, args, below, meth, c, Q, H0, D, ac⟩ := X
  obtain ⟨hx, hb, hml, hown, hts, hK, hlk, hd, hdl, hnw⟩ := hX
  intro H ls hWA hWM hS hl
  exact lv_icmp_gt hx hb hdg ht (fun q => kt q H ls hWA hWM hS hl) (fun q => kf q H ls hWA hWM hS hl)
theorem l_eq {x : Int32} {off : Int} {tgt : Nat} (hX : XOK X RL code 4 1300) (hdg : decode code pc = .ok (.if_icmp .eq off, 3)) (ht : (pc : Int) + off = (tgt : Int)) (kt : GL X b tgt L st hA hM) : GL X b pc L (.int x :: .int x :: st) hA hM := by
  obtain ⟨p, l, e, R, s, m, args, below, meth, c, Q, H0, D, ac⟩ := X
  obtain ⟨hx, hb, hml, hown, hts, hK, hlk, hd, hdl, hnw⟩ := hX
  intro H ls hWA hWM hS hl
  exact lv_icmp_eq hx hb hdg ht (fun _ => kt H ls hWA hWM hS hl) (fun q => absurd rfl q)
theorem l_goto {off : Int} {tgt : Nat} (hX : XOK X RL code 4 1300) (hdg : decode code pc = .ok (.goto off, 3)) (ht : (pc : Int) + off = (tgt : Int)) (kk : GL X b tgt L st hA hM) : GL X b pc L st hA hM := by
  obtain ⟨p, l, e, R, s, m, args, below, meth, c, Q, H0, D, ac⟩ := X
  obtain ⟨hx, hb, hml, hown, hts, hK, hlk, hd, hdl, hnw⟩ := hX
  intro H ls hWA hWM hS hl
  exact lv_goto hx hb hdg ht (kk H ls hWA hWM hS hl)
theorem l_iinc {i j : Nat} {n : Int} {x v : Int32} {L' : List (Nat × Value)} (hX : XOK X RL code 4 1300) (hdg : decode code pc = .ok (.iinc i n, 3)) (hj : L[j]? = some (i, .int x)) (hv : x + Int32.ofInt n = v) (hn : i < 4) (hl' : (i, Value.int v) :: L.filter (fun q => !(q.1 == i) && !(q.1 + 1 == i && q.2.category == 2)) = L') (kk : GL X b (pc + 3) L' st hA hM) : GL X b pc L st hA hM := by
  obtain ⟨p, l, e, R, s, m, args, below, meth, c, Q, H0, D, ac⟩ := X
  obtain ⟨hx, hb, hml, hown, hts, hK, hlk, hd, hdl, hnw⟩ := hX
  intro H ls hWA hWM hS hl
  exact lv_iinc hx hb hdg hl hj hv hn hl' (fun ls' hl2 => kk H ls' hWA hWM hS hl2)
theorem l_sub (ks : List Nat) {L' : List (Nat × Value)} (hl' : lv_pick L ks = L') (kk : GL X b pc L' st hA hM) : GL X b pc L st hA hM := by
  obtain ⟨p, l, e, R, s, m, args, below, meth, c, Q, H0, D, ac⟩ := X
  intro H ls hWA hWM hS hl
  exact kk H ls hWA hWM hS (lv_sub hl ks hl')
/-- a world stays where nothing of it is written -/
theorem WD_kept {D : va_G} {ac : Nat → ClassId} {b N sz : Nat} {K ln : Nat → Nat} {h : HH} {r : RR} {H H1 : Heap} (hW : WD D ac b K ln N sz h r H) (hz : H1.size = sz) (ho : ∀ q, b < q → q ≤ b + N → H1[q]? = H[q]?) : WD D ac b K ln N sz h r H1 := by
  refine ⟨hW.1.kept (fun k q hk => ?_), hW.2.1, hz⟩
  rw [wl_ix] at hk
  by_cases h1 : k < N
  · rw [if_pos h1] at hk
    cases hk
    exact ho _ (by show b < b + (k + 1); omega) (by show b + (k + 1) ≤ b + N; omega)
  · rw [if_neg h1] at hk; cases hk
theorem l_callA {bs L0 : Nat} {xs : Nat → Int32} {As rest : List Value} {v : Int32} {hA' : HH} {index n d0 maxL : Nat} {y : MethodName} {bytes : ByteArray} (hX : XOK X RL code 4 1300) (hI : XI X 600000 7302250) (hO : LOK X b bs L0 xs) (hdg : decode code pc = .ok (.invokevirtual index, 3)) (hC : CT y bytes maxL (some .int) d0 b KA lnA MA MA (b + 221) (.ref (b + 1) :: As) hA RA MA (b + 221) (some (.int v)) hA' RA 0 0) (hd0 : d0 + 1 ≤ 1300) (hmx : maxL ≤ 40)
    (wm : Cond.methodLink RL index y ∈ lw_tbl) (wi : Cond.instanceMethod y ∈ lw_tbl) (ws : Cond.selects RX7 y y ∈ lw_tbl) (wc : Cond.code y bytes maxL (some .int) ∈ lw_tbl) (hy : y.cls = RX7 ∧ y.cls ≠ "java/lang/invoke/MethodHandle" ∧ y.cls ≠ "java/lang/invoke/VarHandle" ∧ (parseMethodDescriptor y.desc).map (fun d => d.parameters.length) = some n) (hn : As.length = n) (hcat : (rest.map fun v => v.category).sum ≤ 8) (hst : st = As.reverse ++ .ref (b + 1) :: rest)
    (kk : GL X b (pc + 3) L (.int v :: rest) hA' hM) : GL X b pc L st hA hM := by
  obtain ⟨p, l, e, R, s, m, args, below, meth, c, Q, H0, D, ac⟩ := X
  obtain ⟨o1, rfl, o3, o4⟩ := hO
  intro H ls hWA hWM hS hl
  refine g_callVI (X := (p, l, e, R, s, m, args, below, meth, c, Q, H, D, ac)) (cs := 220) (sl := 5262) (rest := rest) (stk := .int v :: rest) hX hI hdg hC hd0 hmx wm wi ws wz_X7 wc hy hn (ci := 7) rfl (by decide) (show KA 1 = 7 from rfl) (by decide) (by decide) hcat hst rfl (by decide) (by decide) ?_ H [] ls hWA va_S.rf hl
  intro H1 locs1 ls1 hW1 hS1 hl1
  refine va_forget (fun q hq => ?_) (kk H1 ls1 hW1 (WD_kept hWM hW1.2.2 (fun q h1 h2 => hS1.2.1 q (by have := hWM.2.2; have : MM = 92 := rfl; omega) (fun z => by have := z.2; have : MA = 128 := rfl; omega))) ⟨Nat.le_trans hS.1 hS1.1, fun q h1 h2 => (hS1.2.1 q (Nat.lt_of_lt_of_le h1 hS.1) (fun z => h2 z.1)).trans (hS.2.1 q h1 h2), fun _ h => by cases h⟩ hl1)
  have := (hS1.2.2 q hq).1
  omega
theorem l_callM {bs L0 : Nat} {xs : Nat → Int32} {As rest : List Value} {v : Int32} {hM' : HH} {index n d0 maxL : Nat} {y : MethodName} {bytes : ByteArray} (hX : XOK X RL code 4 1300) (hI : XI X 600000 7302250) (hO : LOK X b bs L0 xs) (hdg : decode code pc = .ok (.invokevirtual index, 3)) (hC : CT y bytes maxL (some .int) d0 (b + 128) KM lnM MM MM (b + 221) (.ref (b + 128 + 1) :: As) hM RM MM (b + 221) (some (.int v)) hM' RM 0 0) (hd0 : d0 + 1 ≤ 1300) (hmx : maxL ≤ 40)
    (wm : Cond.methodLink RL index y ∈ lw_tbl) (wi : Cond.instanceMethod y ∈ lw_tbl) (ws : Cond.selects RX8 y y ∈ lw_tbl) (wc : Cond.code y bytes maxL (some .int) ∈ lw_tbl) (hy : y.cls = RX8 ∧ y.cls ≠ "java/lang/invoke/MethodHandle" ∧ y.cls ≠ "java/lang/invoke/VarHandle" ∧ (parseMethodDescriptor y.desc).map (fun d => d.parameters.length) = some n) (hn : As.length = n) (hcat : (rest.map fun v => v.category).sum ≤ 8) (hst : st = As.reverse ++ .ref (b + 128 + 1) :: rest)
    (kk : GL X b (pc + 3) L (.int v :: rest) hA hM') : GL X b pc L st hA hM := by
  obtain ⟨p, l, e, R, s, m, args, below, meth, c, Q, H0, D, ac⟩ := X
  obtain ⟨o1, rfl, o3, o4⟩ := hO
  intro H ls hWA hWM hS hl
  refine g_callVI (X := (p, l, e, R, s, m, args, below, meth, c, Q, H, D, ac)) (cs := 220) (sl := 5262) (rest := rest) (stk := .int v :: rest) hX hI hdg hC hd0 hmx wm wi ws wz_X8 wc hy hn (ci := 8) rfl (by decide) (show KM 1 = 8 from rfl) (by decide) (by decide) hcat hst rfl (by decide) (by decide) ?_ H [] ls hWM va_S.rf hl
  intro H1 locs1 ls1 hW1 hS1 hl1
  refine va_forget (fun q hq => ?_) (kk H1 ls1 (WD_kept hWA hW1.2.2 (fun q h1 h2 => hS1.2.1 q (by have := hWA.2.2; have : MA = 128 := rfl; omega) (fun z => by have := z.1; have : MA = 128 := rfl; omega))) hW1 ⟨Nat.le_trans hS.1 hS1.1, fun q h1 h2 => (hS1.2.1 q (Nat.lt_of_lt_of_le h1 hS.1) (fun z => h2 (by show b < q; have := z.1; omega))).trans (hS.2.1 q h1 h2), fun _ h => by cases h⟩ hl1)
  have := (hS1.2.2 q hq).1
  omega
end GLL
theorem s_in {i L k : Nat} (h : i + 7 ≤ L) (hL : L ≤ 3584) (hk : k < 7) : vp_in (nI (i + k)) L := vp_in_nI (by omega) (by omega)
set_option maxRecDepth 100000 in
set_option maxHeartbeats 4000000 in
theorem lw_make {X : XT} {b bs L0 : Nat} {xs : Nat → Int32} (hX : XOK X RL code 4 1300) (hI : XI X 600000 7302250) (hO : LOK X b bs L0 xs) (hL : L0 ≤ 3584) {Inv : HH → HH → Prop} (hs : S_make Inv) {i : Nat} (hi7 : i + 7 ≤ L0) {hA hM : HH} (hv : Inv hA hM) (kk : ∀ hA' hM', Inv hA' hM' → GL X b 1193 [(0, .ref bs), (1, .ref (b + 1)), (2, .ref (b + 128 + 1)), (3, .int (nI i))] [] hA' hM') : GL X b 164 [(0, .ref bs), (1, .ref (b + 1)), (2, .ref (b + 128 + 1)), (3, .int (nI i))] [] hA hM := by
  obtain ⟨v, hA', hM', eA, eM, hI2⟩ := hs hA hM hv (xs (nI (i + 1)).toNatClampNeg) (xs (nI (i + 2)).toNatClampNeg) (xs (nI (i + 3)).toNatClampNeg) (xs (nI (i + 4)).toNatClampNeg)
  refine l_aload_n hX dL_law_164 (i := 1) rfl (j := 1) rfl ?_
  refine l_aload_n hX dL_law_165 (i := 0) rfl (j := 0) rfl ?_
  refine l_iload_n hX dL_law_166 (i := 3) rfl (j := 3) rfl ?_
  refine l_iconst (v := nI 1) hX dL_law_167 (by decide) ?_
  refine l_iadd (v := nI (i + 1)) hX dL_law_168 (nI_add i 1) ?_
  refine l_sld hX hO dL_law_169 (s_in hi7 hL (by decide)) ?_
  refine l_aload_n hX dL_law_170 (i := 0) rfl (j := 0) rfl ?_
  refine l_iload_n hX dL_law_171 (i := 3) rfl (j := 3) rfl ?_
  refine l_iconst (v := nI 2) hX dL_law_172 (by decide) ?_
  refine l_iadd (v := nI (i + 2)) hX dL_law_173 (nI_add i 2) ?_
  refine l_sld hX hO dL_law_174 (s_in hi7 hL (by decide)) ?_
  refine l_aload_n hX dL_law_175 (i := 0) rfl (j := 0) rfl ?_
  refine l_iload_n hX dL_law_176 (i := 3) rfl (j := 3) rfl ?_
  refine l_iconst (v := nI 3) hX dL_law_177 (by decide) ?_
  refine l_iadd (v := nI (i + 3)) hX dL_law_178 (nI_add i 3) ?_
  refine l_sld hX hO dL_law_179 (s_in hi7 hL (by decide)) ?_
  refine l_aload_n hX dL_law_180 (i := 0) rfl (j := 0) rfl ?_
  refine l_iload_n hX dL_law_181 (i := 3) rfl (j := 3) rfl ?_
  refine l_iconst (v := nI 4) hX dL_law_182 (by decide) ?_
  refine l_iadd (v := nI (i + 4)) hX dL_law_183 (nI_add i 4) ?_
  refine l_sld hX hO dL_law_184 (s_in hi7 hL (by decide)) ?_
  refine l_callA (As := [.int (xs (nI (i + 1)).toNatClampNeg), .int (xs (nI (i + 2)).toNatClampNeg), .int (xs (nI (i + 3)).toNatClampNeg), .int (xs (nI (i + 4)).toNatClampNeg)]) (rest := []) hX hI hO dL_law_185 (ctX7_make (b := b) (N := MA) (sz := b + 221) (Nat.le_refl _) WT_A 1 (xs (nI (i + 1)).toNatClampNeg) (xs (nI (i + 2)).toNatClampNeg) (xs (nI (i + 3)).toNatClampNeg) (xs (nI (i + 4)).toNatClampNeg) ⟨rfl, show KA 1 < 16 by decide⟩ eA) (by decide) (by decide) wm_L_13 wi_X7_make ws_X7_make wc_X7_make hyX7_make rfl (Nat.le_of_ble_eq_true rfl) rfl ?_
  refine l_aload_n hX dL_law_188 (i := 2) rfl (j := 2) rfl ?_
  refine l_aload_n hX dL_law_189 (i := 0) rfl (j := 0) rfl ?_
  refine l_iload_n hX dL_law_190 (i := 3) rfl (j := 3) rfl ?_
  refine l_iconst (v := nI 1) hX dL_law_191 (by decide) ?_
  refine l_iadd (v := nI (i + 1)) hX dL_law_192 (nI_add i 1) ?_
  refine l_sld hX hO dL_law_193 (s_in hi7 hL (by decide)) ?_
  refine l_aload_n hX dL_law_194 (i := 0) rfl (j := 0) rfl ?_
  refine l_iload_n hX dL_law_195 (i := 3) rfl (j := 3) rfl ?_
  refine l_iconst (v := nI 2) hX dL_law_196 (by decide) ?_
  refine l_iadd (v := nI (i + 2)) hX dL_law_197 (nI_add i 2) ?_
  refine l_sld hX hO dL_law_198 (s_in hi7 hL (by decide)) ?_
  refine l_aload_n hX dL_law_199 (i := 0) rfl (j := 0) rfl ?_
  refine l_iload_n hX dL_law_200 (i := 3) rfl (j := 3) rfl ?_
  refine l_iconst (v := nI 3) hX dL_law_201 (by decide) ?_
  refine l_iadd (v := nI (i + 3)) hX dL_law_202 (nI_add i 3) ?_
  refine l_sld hX hO dL_law_203 (s_in hi7 hL (by decide)) ?_
  refine l_aload_n hX dL_law_204 (i := 0) rfl (j := 0) rfl ?_
  refine l_iload_n hX dL_law_205 (i := 3) rfl (j := 3) rfl ?_
  refine l_iconst (v := nI 4) hX dL_law_206 (by decide) ?_
  refine l_iadd (v := nI (i + 4)) hX dL_law_207 (nI_add i 4) ?_
  refine l_sld hX hO dL_law_208 (s_in hi7 hL (by decide)) ?_
  refine l_callM (As := [.int (xs (nI (i + 1)).toNatClampNeg), .int (xs (nI (i + 2)).toNatClampNeg), .int (xs (nI (i + 3)).toNatClampNeg), .int (xs (nI (i + 4)).toNatClampNeg)]) (rest := [.int v]) hX hI hO dL_law_209 (ctX8_make (b := b + 128) (N := MM) (sz := b + 221) (Nat.le_refl _) WT_M 1 (xs (nI (i + 1)).toNatClampNeg) (xs (nI (i + 2)).toNatClampNeg) (xs (nI (i + 3)).toNatClampNeg) (xs (nI (i + 4)).toNatClampNeg) ⟨rfl, show KM 1 < 16 by decide⟩ eM) (by decide) (by decide) wm_L_17 wi_X8_make ws_X8_make wc_X8_make hyX8_make rfl (Nat.le_of_ble_eq_true rfl) rfl ?_
  refine l_eq (tgt := 1193) hX dL_law_212 (by decide) ?_
  exact kk _ _ hI2
set_option maxRecDepth 100000 in
set_option maxHeartbeats 4000000 in
theorem lw_write {X : XT} {b bs L0 : Nat} {xs : Nat → Int32} (hX : XOK X RL code 4 1300) (hI : XI X 600000 7302250) (hO : LOK X b bs L0 xs) (hL : L0 ≤ 3584) {Inv : HH → HH → Prop} (hs : S_write Inv) {i : Nat} (hi7 : i + 7 ≤ L0) {hA hM : HH} (hv : Inv hA hM) (kk : ∀ hA' hM', Inv hA' hM' → GL X b 1193 [(0, .ref bs), (1, .ref (b + 1)), (2, .ref (b + 128 + 1)), (3, .int (nI i))] [] hA' hM') : GL X b 217 [(0, .ref bs), (1, .ref (b + 1)), (2, .ref (b + 128 + 1)), (3, .int (nI i))] [] hA hM := by
  obtain ⟨v, hA', hM', eA, eM, hI2⟩ := hs hA hM hv (xs (nI (i + 1)).toNatClampNeg) (xs (nI (i + 2)).toNatClampNeg) (xs (nI (i + 3)).toNatClampNeg)
  refine l_aload_n hX dL_law_217 (i := 1) rfl (j := 1) rfl ?_
  refine l_aload_n hX dL_law_218 (i := 0) rfl (j := 0) rfl ?_
  refine l_iload_n hX dL_law_219 (i := 3) rfl (j := 3) rfl ?_
  refine l_iconst (v := nI 1) hX dL_law_220 (by decide) ?_
  refine l_iadd (v := nI (i + 1)) hX dL_law_221 (nI_add i 1) ?_
  refine l_sld hX hO dL_law_222 (s_in hi7 hL (by decide)) ?_
  refine l_aload_n hX dL_law_223 (i := 0) rfl (j := 0) rfl ?_
  refine l_iload_n hX dL_law_224 (i := 3) rfl (j := 3) rfl ?_
  refine l_iconst (v := nI 2) hX dL_law_225 (by decide) ?_
  refine l_iadd (v := nI (i + 2)) hX dL_law_226 (nI_add i 2) ?_
  refine l_sld hX hO dL_law_227 (s_in hi7 hL (by decide)) ?_
  refine l_aload_n hX dL_law_228 (i := 0) rfl (j := 0) rfl ?_
  refine l_iload_n hX dL_law_229 (i := 3) rfl (j := 3) rfl ?_
  refine l_iconst (v := nI 3) hX dL_law_230 (by decide) ?_
  refine l_iadd (v := nI (i + 3)) hX dL_law_231 (nI_add i 3) ?_
  refine l_sld hX hO dL_law_232 (s_in hi7 hL (by decide)) ?_
  refine l_callA (As := [.int (xs (nI (i + 1)).toNatClampNeg), .int (xs (nI (i + 2)).toNatClampNeg), .int (xs (nI (i + 3)).toNatClampNeg)]) (rest := []) hX hI hO dL_law_233 (ctX7_write (b := b) (N := MA) (sz := b + 221) (Nat.le_refl _) WT_A 1 (xs (nI (i + 1)).toNatClampNeg) (xs (nI (i + 2)).toNatClampNeg) (xs (nI (i + 3)).toNatClampNeg) ⟨rfl, show KA 1 < 16 by decide⟩ eA) (by decide) (by decide) wm_L_18 wi_X7_write ws_X7_write wc_X7_write hyX7_write rfl (Nat.le_of_ble_eq_true rfl) rfl ?_
  refine l_aload_n hX dL_law_236 (i := 2) rfl (j := 2) rfl ?_
  refine l_aload_n hX dL_law_237 (i := 0) rfl (j := 0) rfl ?_
  refine l_iload_n hX dL_law_238 (i := 3) rfl (j := 3) rfl ?_
  refine l_iconst (v := nI 1) hX dL_law_239 (by decide) ?_
  refine l_iadd (v := nI (i + 1)) hX dL_law_240 (nI_add i 1) ?_
  refine l_sld hX hO dL_law_241 (s_in hi7 hL (by decide)) ?_
  refine l_aload_n hX dL_law_242 (i := 0) rfl (j := 0) rfl ?_
  refine l_iload_n hX dL_law_243 (i := 3) rfl (j := 3) rfl ?_
  refine l_iconst (v := nI 2) hX dL_law_244 (by decide) ?_
  refine l_iadd (v := nI (i + 2)) hX dL_law_245 (nI_add i 2) ?_
  refine l_sld hX hO dL_law_246 (s_in hi7 hL (by decide)) ?_
  refine l_aload_n hX dL_law_247 (i := 0) rfl (j := 0) rfl ?_
  refine l_iload_n hX dL_law_248 (i := 3) rfl (j := 3) rfl ?_
  refine l_iconst (v := nI 3) hX dL_law_249 (by decide) ?_
  refine l_iadd (v := nI (i + 3)) hX dL_law_250 (nI_add i 3) ?_
  refine l_sld hX hO dL_law_251 (s_in hi7 hL (by decide)) ?_
  refine l_callM (As := [.int (xs (nI (i + 1)).toNatClampNeg), .int (xs (nI (i + 2)).toNatClampNeg), .int (xs (nI (i + 3)).toNatClampNeg)]) (rest := [.int v]) hX hI hO dL_law_252 (ctX8_write (b := b + 128) (N := MM) (sz := b + 221) (Nat.le_refl _) WT_M 1 (xs (nI (i + 1)).toNatClampNeg) (xs (nI (i + 2)).toNatClampNeg) (xs (nI (i + 3)).toNatClampNeg) ⟨rfl, show KM 1 < 16 by decide⟩ eM) (by decide) (by decide) wm_L_22 wi_X8_write ws_X8_write wc_X8_write hyX8_write rfl (Nat.le_of_ble_eq_true rfl) rfl ?_
  refine l_eq (tgt := 1193) hX dL_law_255 (by decide) ?_
  exact kk _ _ hI2
set_option maxRecDepth 100000 in
set_option maxHeartbeats 4000000 in
theorem lw_move {X : XT} {b bs L0 : Nat} {xs : Nat → Int32} (hX : XOK X RL code 4 1300) (hI : XI X 600000 7302250) (hO : LOK X b bs L0 xs) (hL : L0 ≤ 3584) {Inv : HH → HH → Prop} (hs : S_move Inv) {i : Nat} (hi7 : i + 7 ≤ L0) {hA hM : HH} (hv : Inv hA hM) (kk : ∀ hA' hM', Inv hA' hM' → GL X b 1193 [(0, .ref bs), (1, .ref (b + 1)), (2, .ref (b + 128 + 1)), (3, .int (nI i))] [] hA' hM') : GL X b 260 [(0, .ref bs), (1, .ref (b + 1)), (2, .ref (b + 128 + 1)), (3, .int (nI i))] [] hA hM := by
  obtain ⟨v, hA', hM', eA, eM, hI2⟩ := hs hA hM hv (xs (nI (i + 1)).toNatClampNeg) (xs (nI (i + 2)).toNatClampNeg) (xs (nI (i + 3)).toNatClampNeg) (xs (nI (i + 4)).toNatClampNeg)
  refine l_aload_n hX dL_law_260 (i := 1) rfl (j := 1) rfl ?_
  refine l_aload_n hX dL_law_261 (i := 0) rfl (j := 0) rfl ?_
  refine l_iload_n hX dL_law_262 (i := 3) rfl (j := 3) rfl ?_
  refine l_iconst (v := nI 1) hX dL_law_263 (by decide) ?_
  refine l_iadd (v := nI (i + 1)) hX dL_law_264 (nI_add i 1) ?_
  refine l_sld hX hO dL_law_265 (s_in hi7 hL (by decide)) ?_
  refine l_aload_n hX dL_law_266 (i := 0) rfl (j := 0) rfl ?_
  refine l_iload_n hX dL_law_267 (i := 3) rfl (j := 3) rfl ?_
  refine l_iconst (v := nI 2) hX dL_law_268 (by decide) ?_
  refine l_iadd (v := nI (i + 2)) hX dL_law_269 (nI_add i 2) ?_
  refine l_sld hX hO dL_law_270 (s_in hi7 hL (by decide)) ?_
  refine l_aload_n hX dL_law_271 (i := 0) rfl (j := 0) rfl ?_
  refine l_iload_n hX dL_law_272 (i := 3) rfl (j := 3) rfl ?_
  refine l_iconst (v := nI 3) hX dL_law_273 (by decide) ?_
  refine l_iadd (v := nI (i + 3)) hX dL_law_274 (nI_add i 3) ?_
  refine l_sld hX hO dL_law_275 (s_in hi7 hL (by decide)) ?_
  refine l_aload_n hX dL_law_276 (i := 0) rfl (j := 0) rfl ?_
  refine l_iload_n hX dL_law_277 (i := 3) rfl (j := 3) rfl ?_
  refine l_iconst (v := nI 4) hX dL_law_278 (by decide) ?_
  refine l_iadd (v := nI (i + 4)) hX dL_law_279 (nI_add i 4) ?_
  refine l_sld hX hO dL_law_280 (s_in hi7 hL (by decide)) ?_
  refine l_callA (As := [.int (xs (nI (i + 1)).toNatClampNeg), .int (xs (nI (i + 2)).toNatClampNeg), .int (xs (nI (i + 3)).toNatClampNeg), .int (xs (nI (i + 4)).toNatClampNeg)]) (rest := []) hX hI hO dL_law_281 (ctX7_move (b := b) (N := MA) (sz := b + 221) (Nat.le_refl _) WT_A 1 (xs (nI (i + 1)).toNatClampNeg) (xs (nI (i + 2)).toNatClampNeg) (xs (nI (i + 3)).toNatClampNeg) (xs (nI (i + 4)).toNatClampNeg) ⟨rfl, show KA 1 < 16 by decide⟩ eA) (by decide) (by decide) wm_L_23 wi_X7_move ws_X7_move wc_X7_move hyX7_move rfl (Nat.le_of_ble_eq_true rfl) rfl ?_
  refine l_aload_n hX dL_law_284 (i := 2) rfl (j := 2) rfl ?_
  refine l_aload_n hX dL_law_285 (i := 0) rfl (j := 0) rfl ?_
  refine l_iload_n hX dL_law_286 (i := 3) rfl (j := 3) rfl ?_
  refine l_iconst (v := nI 1) hX dL_law_287 (by decide) ?_
  refine l_iadd (v := nI (i + 1)) hX dL_law_288 (nI_add i 1) ?_
  refine l_sld hX hO dL_law_289 (s_in hi7 hL (by decide)) ?_
  refine l_aload_n hX dL_law_290 (i := 0) rfl (j := 0) rfl ?_
  refine l_iload_n hX dL_law_291 (i := 3) rfl (j := 3) rfl ?_
  refine l_iconst (v := nI 2) hX dL_law_292 (by decide) ?_
  refine l_iadd (v := nI (i + 2)) hX dL_law_293 (nI_add i 2) ?_
  refine l_sld hX hO dL_law_294 (s_in hi7 hL (by decide)) ?_
  refine l_aload_n hX dL_law_295 (i := 0) rfl (j := 0) rfl ?_
  refine l_iload_n hX dL_law_296 (i := 3) rfl (j := 3) rfl ?_
  refine l_iconst (v := nI 3) hX dL_law_297 (by decide) ?_
  refine l_iadd (v := nI (i + 3)) hX dL_law_298 (nI_add i 3) ?_
  refine l_sld hX hO dL_law_299 (s_in hi7 hL (by decide)) ?_
  refine l_aload_n hX dL_law_300 (i := 0) rfl (j := 0) rfl ?_
  refine l_iload_n hX dL_law_301 (i := 3) rfl (j := 3) rfl ?_
  refine l_iconst (v := nI 4) hX dL_law_302 (by decide) ?_
  refine l_iadd (v := nI (i + 4)) hX dL_law_303 (nI_add i 4) ?_
  refine l_sld hX hO dL_law_304 (s_in hi7 hL (by decide)) ?_
  refine l_callM (As := [.int (xs (nI (i + 1)).toNatClampNeg), .int (xs (nI (i + 2)).toNatClampNeg), .int (xs (nI (i + 3)).toNatClampNeg), .int (xs (nI (i + 4)).toNatClampNeg)]) (rest := [.int v]) hX hI hO dL_law_305 (ctX8_move (b := b + 128) (N := MM) (sz := b + 221) (Nat.le_refl _) WT_M 1 (xs (nI (i + 1)).toNatClampNeg) (xs (nI (i + 2)).toNatClampNeg) (xs (nI (i + 3)).toNatClampNeg) (xs (nI (i + 4)).toNatClampNeg) ⟨rfl, show KM 1 < 16 by decide⟩ eM) (by decide) (by decide) wm_L_26 wi_X8_move ws_X8_move wc_X8_move hyX8_move rfl (Nat.le_of_ble_eq_true rfl) rfl ?_
  refine l_eq (tgt := 1193) hX dL_law_308 (by decide) ?_
  exact kk _ _ hI2
set_option maxRecDepth 100000 in
set_option maxHeartbeats 4000000 in
theorem lw_remove {X : XT} {b bs L0 : Nat} {xs : Nat → Int32} (hX : XOK X RL code 4 1300) (hI : XI X 600000 7302250) (hO : LOK X b bs L0 xs) (hL : L0 ≤ 3584) {Inv : HH → HH → Prop} (hs : S_remove Inv) {i : Nat} (hi7 : i + 7 ≤ L0) {hA hM : HH} (hv : Inv hA hM) (kk : ∀ hA' hM', Inv hA' hM' → GL X b 1193 [(0, .ref bs), (1, .ref (b + 1)), (2, .ref (b + 128 + 1)), (3, .int (nI i))] [] hA' hM') : GL X b 313 [(0, .ref bs), (1, .ref (b + 1)), (2, .ref (b + 128 + 1)), (3, .int (nI i))] [] hA hM := by
  obtain ⟨v, hA', hM', eA, eM, hI2⟩ := hs hA hM hv (xs (nI (i + 1)).toNatClampNeg) (xs (nI (i + 2)).toNatClampNeg)
  refine l_aload_n hX dL_law_313 (i := 1) rfl (j := 1) rfl ?_
  refine l_aload_n hX dL_law_314 (i := 0) rfl (j := 0) rfl ?_
  refine l_iload_n hX dL_law_315 (i := 3) rfl (j := 3) rfl ?_
  refine l_iconst (v := nI 1) hX dL_law_316 (by decide) ?_
  refine l_iadd (v := nI (i + 1)) hX dL_law_317 (nI_add i 1) ?_
  refine l_sld hX hO dL_law_318 (s_in hi7 hL (by decide)) ?_
  refine l_aload_n hX dL_law_319 (i := 0) rfl (j := 0) rfl ?_
  refine l_iload_n hX dL_law_320 (i := 3) rfl (j := 3) rfl ?_
  refine l_iconst (v := nI 2) hX dL_law_321 (by decide) ?_
  refine l_iadd (v := nI (i + 2)) hX dL_law_322 (nI_add i 2) ?_
  refine l_sld hX hO dL_law_323 (s_in hi7 hL (by decide)) ?_
  refine l_callA (As := [.int (xs (nI (i + 1)).toNatClampNeg), .int (xs (nI (i + 2)).toNatClampNeg)]) (rest := []) hX hI hO dL_law_324 (ctX7_remove (b := b) (N := MA) (sz := b + 221) (Nat.le_refl _) WT_A 1 (xs (nI (i + 1)).toNatClampNeg) (xs (nI (i + 2)).toNatClampNeg) ⟨rfl, show KA 1 < 16 by decide⟩ eA) (by decide) (by decide) wm_L_27 wi_X7_remove ws_X7_remove wc_X7_remove hyX7_remove rfl (Nat.le_of_ble_eq_true rfl) rfl ?_
  refine l_aload_n hX dL_law_327 (i := 2) rfl (j := 2) rfl ?_
  refine l_aload_n hX dL_law_328 (i := 0) rfl (j := 0) rfl ?_
  refine l_iload_n hX dL_law_329 (i := 3) rfl (j := 3) rfl ?_
  refine l_iconst (v := nI 1) hX dL_law_330 (by decide) ?_
  refine l_iadd (v := nI (i + 1)) hX dL_law_331 (nI_add i 1) ?_
  refine l_sld hX hO dL_law_332 (s_in hi7 hL (by decide)) ?_
  refine l_aload_n hX dL_law_333 (i := 0) rfl (j := 0) rfl ?_
  refine l_iload_n hX dL_law_334 (i := 3) rfl (j := 3) rfl ?_
  refine l_iconst (v := nI 2) hX dL_law_335 (by decide) ?_
  refine l_iadd (v := nI (i + 2)) hX dL_law_336 (nI_add i 2) ?_
  refine l_sld hX hO dL_law_337 (s_in hi7 hL (by decide)) ?_
  refine l_callM (As := [.int (xs (nI (i + 1)).toNatClampNeg), .int (xs (nI (i + 2)).toNatClampNeg)]) (rest := [.int v]) hX hI hO dL_law_338 (ctX8_remove (b := b + 128) (N := MM) (sz := b + 221) (Nat.le_refl _) WT_M 1 (xs (nI (i + 1)).toNatClampNeg) (xs (nI (i + 2)).toNatClampNeg) ⟨rfl, show KM 1 < 16 by decide⟩ eM) (by decide) (by decide) wm_L_31 wi_X8_remove ws_X8_remove wc_X8_remove hyX8_remove rfl (Nat.le_of_ble_eq_true rfl) rfl ?_
  refine l_eq (tgt := 1193) hX dL_law_341 (by decide) ?_
  exact kk _ _ hI2
set_option maxRecDepth 100000 in
set_option maxHeartbeats 4000000 in
theorem lw_told {X : XT} {b bs L0 : Nat} {xs : Nat → Int32} (hX : XOK X RL code 4 1300) (hI : XI X 600000 7302250) (hO : LOK X b bs L0 xs) (hL : L0 ≤ 3584) {Inv : HH → HH → Prop} (hs : S_told Inv) {i : Nat} (hi7 : i + 7 ≤ L0) {hA hM : HH} (hv : Inv hA hM) (kk : ∀ hA' hM', Inv hA' hM' → GL X b 1193 [(0, .ref bs), (1, .ref (b + 1)), (2, .ref (b + 128 + 1)), (3, .int (nI i))] [] hA' hM') : GL X b 346 [(0, .ref bs), (1, .ref (b + 1)), (2, .ref (b + 128 + 1)), (3, .int (nI i))] [] hA hM := by
  obtain ⟨v, hA', hM', eA, eM, hI2⟩ := hs hA hM hv (xs (nI (i + 1)).toNatClampNeg) (xs (nI (i + 2)).toNatClampNeg) (xs (nI (i + 3)).toNatClampNeg)
  refine l_aload_n hX dL_law_346 (i := 1) rfl (j := 1) rfl ?_
  refine l_aload_n hX dL_law_347 (i := 0) rfl (j := 0) rfl ?_
  refine l_iload_n hX dL_law_348 (i := 3) rfl (j := 3) rfl ?_
  refine l_iconst (v := nI 1) hX dL_law_349 (by decide) ?_
  refine l_iadd (v := nI (i + 1)) hX dL_law_350 (nI_add i 1) ?_
  refine l_sld hX hO dL_law_351 (s_in hi7 hL (by decide)) ?_
  refine l_aload_n hX dL_law_352 (i := 0) rfl (j := 0) rfl ?_
  refine l_iload_n hX dL_law_353 (i := 3) rfl (j := 3) rfl ?_
  refine l_iconst (v := nI 2) hX dL_law_354 (by decide) ?_
  refine l_iadd (v := nI (i + 2)) hX dL_law_355 (nI_add i 2) ?_
  refine l_sld hX hO dL_law_356 (s_in hi7 hL (by decide)) ?_
  refine l_aload_n hX dL_law_357 (i := 0) rfl (j := 0) rfl ?_
  refine l_iload_n hX dL_law_358 (i := 3) rfl (j := 3) rfl ?_
  refine l_iconst (v := nI 3) hX dL_law_359 (by decide) ?_
  refine l_iadd (v := nI (i + 3)) hX dL_law_360 (nI_add i 3) ?_
  refine l_sld hX hO dL_law_361 (s_in hi7 hL (by decide)) ?_
  refine l_callA (As := [.int (xs (nI (i + 1)).toNatClampNeg), .int (xs (nI (i + 2)).toNatClampNeg), .int (xs (nI (i + 3)).toNatClampNeg)]) (rest := []) hX hI hO dL_law_362 (ctX7_told (b := b) (N := MA) (sz := b + 221) (Nat.le_refl _) WT_A (fun _ h => h) 1 (xs (nI (i + 1)).toNatClampNeg) (xs (nI (i + 2)).toNatClampNeg) (xs (nI (i + 3)).toNatClampNeg) ⟨rfl, show KA 1 < 16 by decide⟩ eA) (by decide) (by decide) wm_L_32 wi_X7_told ws_X7_told wc_X7_told hyX7_told rfl (Nat.le_of_ble_eq_true rfl) rfl ?_
  refine l_aload_n hX dL_law_365 (i := 2) rfl (j := 2) rfl ?_
  refine l_aload_n hX dL_law_366 (i := 0) rfl (j := 0) rfl ?_
  refine l_iload_n hX dL_law_367 (i := 3) rfl (j := 3) rfl ?_
  refine l_iconst (v := nI 1) hX dL_law_368 (by decide) ?_
  refine l_iadd (v := nI (i + 1)) hX dL_law_369 (nI_add i 1) ?_
  refine l_sld hX hO dL_law_370 (s_in hi7 hL (by decide)) ?_
  refine l_aload_n hX dL_law_371 (i := 0) rfl (j := 0) rfl ?_
  refine l_iload_n hX dL_law_372 (i := 3) rfl (j := 3) rfl ?_
  refine l_iconst (v := nI 2) hX dL_law_373 (by decide) ?_
  refine l_iadd (v := nI (i + 2)) hX dL_law_374 (nI_add i 2) ?_
  refine l_sld hX hO dL_law_375 (s_in hi7 hL (by decide)) ?_
  refine l_aload_n hX dL_law_376 (i := 0) rfl (j := 0) rfl ?_
  refine l_iload_n hX dL_law_377 (i := 3) rfl (j := 3) rfl ?_
  refine l_iconst (v := nI 3) hX dL_law_378 (by decide) ?_
  refine l_iadd (v := nI (i + 3)) hX dL_law_379 (nI_add i 3) ?_
  refine l_sld hX hO dL_law_380 (s_in hi7 hL (by decide)) ?_
  refine l_callM (As := [.int (xs (nI (i + 1)).toNatClampNeg), .int (xs (nI (i + 2)).toNatClampNeg), .int (xs (nI (i + 3)).toNatClampNeg)]) (rest := [.int v]) hX hI hO dL_law_381 (ctX8_told (b := b + 128) (N := MM) (sz := b + 221) (Nat.le_refl _) WT_M 1 (xs (nI (i + 1)).toNatClampNeg) (xs (nI (i + 2)).toNatClampNeg) (xs (nI (i + 3)).toNatClampNeg) ⟨rfl, show KM 1 < 16 by decide⟩ eM) (by decide) (by decide) wm_L_35 wi_X8_told ws_X8_told wc_X8_told hyX8_told rfl (Nat.le_of_ble_eq_true rfl) rfl ?_
  refine l_eq (tgt := 1193) hX dL_law_384 (by decide) ?_
  exact kk _ _ hI2
set_option maxRecDepth 100000 in
set_option maxHeartbeats 4000000 in
theorem lw_find {X : XT} {b bs L0 : Nat} {xs : Nat → Int32} (hX : XOK X RL code 4 1300) (hI : XI X 600000 7302250) (hO : LOK X b bs L0 xs) (hL : L0 ≤ 3584) {Inv : HH → HH → Prop} (hs : S_find Inv) {i : Nat} (hi7 : i + 7 ≤ L0) {hA hM : HH} (hv : Inv hA hM) (kk : ∀ hA' hM', Inv hA' hM' → GL X b 1193 [(0, .ref bs), (1, .ref (b + 1)), (2, .ref (b + 128 + 1)), (3, .int (nI i))] [] hA' hM') : GL X b 389 [(0, .ref bs), (1, .ref (b + 1)), (2, .ref (b + 128 + 1)), (3, .int (nI i))] [] hA hM := by
  obtain ⟨v, eA, eM, hI2⟩ := hs hA hM hv (xs (nI (i + 1)).toNatClampNeg) (xs (nI (i + 2)).toNatClampNeg) (xs (nI (i + 3)).toNatClampNeg)
  refine l_aload_n hX dL_law_389 (i := 1) rfl (j := 1) rfl ?_
  refine l_aload_n hX dL_law_390 (i := 0) rfl (j := 0) rfl ?_
  refine l_iload_n hX dL_law_391 (i := 3) rfl (j := 3) rfl ?_
  refine l_iconst (v := nI 1) hX dL_law_392 (by decide) ?_
  refine l_iadd (v := nI (i + 1)) hX dL_law_393 (nI_add i 1) ?_
  refine l_sld hX hO dL_law_394 (s_in hi7 hL (by decide)) ?_
  refine l_aload_n hX dL_law_395 (i := 0) rfl (j := 0) rfl ?_
  refine l_iload_n hX dL_law_396 (i := 3) rfl (j := 3) rfl ?_
  refine l_iconst (v := nI 2) hX dL_law_397 (by decide) ?_
  refine l_iadd (v := nI (i + 2)) hX dL_law_398 (nI_add i 2) ?_
  refine l_sld hX hO dL_law_399 (s_in hi7 hL (by decide)) ?_
  refine l_aload_n hX dL_law_400 (i := 0) rfl (j := 0) rfl ?_
  refine l_iload_n hX dL_law_401 (i := 3) rfl (j := 3) rfl ?_
  refine l_iconst (v := nI 3) hX dL_law_402 (by decide) ?_
  refine l_iadd (v := nI (i + 3)) hX dL_law_403 (nI_add i 3) ?_
  refine l_sld hX hO dL_law_404 (s_in hi7 hL (by decide)) ?_
  refine l_callA (As := [.int (xs (nI (i + 1)).toNatClampNeg), .int (xs (nI (i + 2)).toNatClampNeg), .int (xs (nI (i + 3)).toNatClampNeg)]) (rest := []) hX hI hO dL_law_405 (ctX7_find (b := b) (N := MA) (sz := b + 221) (Nat.le_refl _) WT_A 1 (xs (nI (i + 1)).toNatClampNeg) (xs (nI (i + 2)).toNatClampNeg) (xs (nI (i + 3)).toNatClampNeg) ⟨rfl, show KA 1 < 16 by decide⟩ eA) (by decide) (by decide) wm_L_36 wi_X7_find ws_X7_find wc_X7_find hyX7_find rfl (Nat.le_of_ble_eq_true rfl) rfl ?_
  refine l_aload_n hX dL_law_408 (i := 2) rfl (j := 2) rfl ?_
  refine l_aload_n hX dL_law_409 (i := 0) rfl (j := 0) rfl ?_
  refine l_iload_n hX dL_law_410 (i := 3) rfl (j := 3) rfl ?_
  refine l_iconst (v := nI 1) hX dL_law_411 (by decide) ?_
  refine l_iadd (v := nI (i + 1)) hX dL_law_412 (nI_add i 1) ?_
  refine l_sld hX hO dL_law_413 (s_in hi7 hL (by decide)) ?_
  refine l_aload_n hX dL_law_414 (i := 0) rfl (j := 0) rfl ?_
  refine l_iload_n hX dL_law_415 (i := 3) rfl (j := 3) rfl ?_
  refine l_iconst (v := nI 2) hX dL_law_416 (by decide) ?_
  refine l_iadd (v := nI (i + 2)) hX dL_law_417 (nI_add i 2) ?_
  refine l_sld hX hO dL_law_418 (s_in hi7 hL (by decide)) ?_
  refine l_aload_n hX dL_law_419 (i := 0) rfl (j := 0) rfl ?_
  refine l_iload_n hX dL_law_420 (i := 3) rfl (j := 3) rfl ?_
  refine l_iconst (v := nI 3) hX dL_law_421 (by decide) ?_
  refine l_iadd (v := nI (i + 3)) hX dL_law_422 (nI_add i 3) ?_
  refine l_sld hX hO dL_law_423 (s_in hi7 hL (by decide)) ?_
  refine l_callM (As := [.int (xs (nI (i + 1)).toNatClampNeg), .int (xs (nI (i + 2)).toNatClampNeg), .int (xs (nI (i + 3)).toNatClampNeg)]) (rest := [.int v]) hX hI hO dL_law_424 (ctX8_find (b := b + 128) (N := MM) (sz := b + 221) (Nat.le_refl _) WT_M 1 (xs (nI (i + 1)).toNatClampNeg) (xs (nI (i + 2)).toNatClampNeg) (xs (nI (i + 3)).toNatClampNeg) ⟨rfl, show KM 1 < 16 by decide⟩ eM) (by decide) (by decide) wm_L_39 wi_X8_find ws_X8_find wc_X8_find hyX8_find rfl (Nat.le_of_ble_eq_true rfl) rfl ?_
  refine l_eq (tgt := 1193) hX dL_law_427 (by decide) ?_
  exact kk _ _ hI2
set_option maxRecDepth 100000 in
set_option maxHeartbeats 4000000 in
theorem lw_taken {X : XT} {b bs L0 : Nat} {xs : Nat → Int32} (hX : XOK X RL code 4 1300) (hI : XI X 600000 7302250) (hO : LOK X b bs L0 xs) (hL : L0 ≤ 3584) {Inv : HH → HH → Prop} (hs : S_taken Inv) {i : Nat} (hi7 : i + 7 ≤ L0) {hA hM : HH} (hv : Inv hA hM) (kk : ∀ hA' hM', Inv hA' hM' → GL X b 1193 [(0, .ref bs), (1, .ref (b + 1)), (2, .ref (b + 128 + 1)), (3, .int (nI i))] [] hA' hM') : GL X b 432 [(0, .ref bs), (1, .ref (b + 1)), (2, .ref (b + 128 + 1)), (3, .int (nI i))] [] hA hM := by
  obtain ⟨v, eA, eM, hI2⟩ := hs hA hM hv (xs (nI (i + 1)).toNatClampNeg) (xs (nI (i + 2)).toNatClampNeg)
  refine l_aload_n hX dL_law_432 (i := 1) rfl (j := 1) rfl ?_
  refine l_aload_n hX dL_law_433 (i := 0) rfl (j := 0) rfl ?_
  refine l_iload_n hX dL_law_434 (i := 3) rfl (j := 3) rfl ?_
  refine l_iconst (v := nI 1) hX dL_law_435 (by decide) ?_
  refine l_iadd (v := nI (i + 1)) hX dL_law_436 (nI_add i 1) ?_
  refine l_sld hX hO dL_law_437 (s_in hi7 hL (by decide)) ?_
  refine l_aload_n hX dL_law_438 (i := 0) rfl (j := 0) rfl ?_
  refine l_iload_n hX dL_law_439 (i := 3) rfl (j := 3) rfl ?_
  refine l_iconst (v := nI 2) hX dL_law_440 (by decide) ?_
  refine l_iadd (v := nI (i + 2)) hX dL_law_441 (nI_add i 2) ?_
  refine l_sld hX hO dL_law_442 (s_in hi7 hL (by decide)) ?_
  refine l_callA (As := [.int (xs (nI (i + 1)).toNatClampNeg), .int (xs (nI (i + 2)).toNatClampNeg)]) (rest := []) hX hI hO dL_law_443 (ctX7_taken (b := b) (N := MA) (sz := b + 221) (Nat.le_refl _) WT_A 1 (xs (nI (i + 1)).toNatClampNeg) (xs (nI (i + 2)).toNatClampNeg) ⟨rfl, show KA 1 < 16 by decide⟩ eA) (by decide) (by decide) wm_L_40 wi_X7_taken ws_X7_taken wc_X7_taken hyX7_taken rfl (Nat.le_of_ble_eq_true rfl) rfl ?_
  refine l_aload_n hX dL_law_446 (i := 2) rfl (j := 2) rfl ?_
  refine l_aload_n hX dL_law_447 (i := 0) rfl (j := 0) rfl ?_
  refine l_iload_n hX dL_law_448 (i := 3) rfl (j := 3) rfl ?_
  refine l_iconst (v := nI 1) hX dL_law_449 (by decide) ?_
  refine l_iadd (v := nI (i + 1)) hX dL_law_450 (nI_add i 1) ?_
  refine l_sld hX hO dL_law_451 (s_in hi7 hL (by decide)) ?_
  refine l_aload_n hX dL_law_452 (i := 0) rfl (j := 0) rfl ?_
  refine l_iload_n hX dL_law_453 (i := 3) rfl (j := 3) rfl ?_
  refine l_iconst (v := nI 2) hX dL_law_454 (by decide) ?_
  refine l_iadd (v := nI (i + 2)) hX dL_law_455 (nI_add i 2) ?_
  refine l_sld hX hO dL_law_456 (s_in hi7 hL (by decide)) ?_
  refine l_callM (As := [.int (xs (nI (i + 1)).toNatClampNeg), .int (xs (nI (i + 2)).toNatClampNeg)]) (rest := [.int v]) hX hI hO dL_law_457 (ctX8_taken (b := b + 128) (N := MM) (sz := b + 221) (Nat.le_refl _) WT_M 1 (xs (nI (i + 1)).toNatClampNeg) (xs (nI (i + 2)).toNatClampNeg) ⟨rfl, show KM 1 < 16 by decide⟩ eM) (by decide) (by decide) wm_L_43 wi_X8_taken ws_X8_taken wc_X8_taken hyX8_taken rfl (Nat.le_of_ble_eq_true rfl) rfl ?_
  refine l_eq (tgt := 1193) hX dL_law_460 (by decide) ?_
  exact kk _ _ hI2
set_option maxRecDepth 100000 in
set_option maxHeartbeats 4000000 in
theorem lw_latest {X : XT} {b bs L0 : Nat} {xs : Nat → Int32} (hX : XOK X RL code 4 1300) (hI : XI X 600000 7302250) (hO : LOK X b bs L0 xs) (hL : L0 ≤ 3584) {Inv : HH → HH → Prop} (hs : S_latest Inv) {i : Nat} (hi7 : i + 7 ≤ L0) {hA hM : HH} (hv : Inv hA hM) (kk : ∀ hA' hM', Inv hA' hM' → GL X b 1193 [(0, .ref bs), (1, .ref (b + 1)), (2, .ref (b + 128 + 1)), (3, .int (nI i))] [] hA' hM') : GL X b 465 [(0, .ref bs), (1, .ref (b + 1)), (2, .ref (b + 128 + 1)), (3, .int (nI i))] [] hA hM := by
  obtain ⟨v, eA, eM, hI2⟩ := hs hA hM hv (xs (nI (i + 1)).toNatClampNeg)
  refine l_aload_n hX dL_law_465 (i := 1) rfl (j := 1) rfl ?_
  refine l_aload_n hX dL_law_466 (i := 0) rfl (j := 0) rfl ?_
  refine l_iload_n hX dL_law_467 (i := 3) rfl (j := 3) rfl ?_
  refine l_iconst (v := nI 1) hX dL_law_468 (by decide) ?_
  refine l_iadd (v := nI (i + 1)) hX dL_law_469 (nI_add i 1) ?_
  refine l_sld hX hO dL_law_470 (s_in hi7 hL (by decide)) ?_
  refine l_callA (As := [.int (xs (nI (i + 1)).toNatClampNeg)]) (rest := []) hX hI hO dL_law_471 (ctX7_latest (b := b) (N := MA) (sz := b + 221) (Nat.le_refl _) WT_A 1 (xs (nI (i + 1)).toNatClampNeg) ⟨rfl, show KA 1 < 16 by decide⟩ eA) (by decide) (by decide) wm_L_44 wi_X7_latest ws_X7_latest wc_X7_latest hyX7_latest rfl (Nat.le_of_ble_eq_true rfl) rfl ?_
  refine l_aload_n hX dL_law_474 (i := 2) rfl (j := 2) rfl ?_
  refine l_aload_n hX dL_law_475 (i := 0) rfl (j := 0) rfl ?_
  refine l_iload_n hX dL_law_476 (i := 3) rfl (j := 3) rfl ?_
  refine l_iconst (v := nI 1) hX dL_law_477 (by decide) ?_
  refine l_iadd (v := nI (i + 1)) hX dL_law_478 (nI_add i 1) ?_
  refine l_sld hX hO dL_law_479 (s_in hi7 hL (by decide)) ?_
  refine l_callM (As := [.int (xs (nI (i + 1)).toNatClampNeg)]) (rest := [.int v]) hX hI hO dL_law_480 (ctX8_latest (b := b + 128) (N := MM) (sz := b + 221) (Nat.le_refl _) WT_M 1 (xs (nI (i + 1)).toNatClampNeg) ⟨rfl, show KM 1 < 16 by decide⟩ eM) (by decide) (by decide) wm_L_48 wi_X8_latest ws_X8_latest wc_X8_latest hyX8_latest rfl (Nat.le_of_ble_eq_true rfl) rfl ?_
  refine l_eq (tgt := 1193) hX dL_law_483 (by decide) ?_
  exact kk _ _ hI2
set_option maxRecDepth 100000 in
set_option maxHeartbeats 4000000 in
theorem lw_feed {X : XT} {b bs L0 : Nat} {xs : Nat → Int32} (hX : XOK X RL code 4 1300) (hI : XI X 600000 7302250) (hO : LOK X b bs L0 xs) (hL : L0 ≤ 3584) {Inv : HH → HH → Prop} (hs : S_feed Inv) {i : Nat} (hi7 : i + 7 ≤ L0) {hA hM : HH} (hv : Inv hA hM) (kk : ∀ hA' hM', Inv hA' hM' → GL X b 1193 [(0, .ref bs), (1, .ref (b + 1)), (2, .ref (b + 128 + 1)), (3, .int (nI i))] [] hA' hM') : GL X b 488 [(0, .ref bs), (1, .ref (b + 1)), (2, .ref (b + 128 + 1)), (3, .int (nI i))] [] hA hM := by
  obtain ⟨v, hA', hM', eA, eM, hI2⟩ := hs hA hM hv (xs (nI (i + 1)).toNatClampNeg) (xs (nI (i + 2)).toNatClampNeg) (xs (nI (i + 3)).toNatClampNeg) (xs (nI (i + 4)).toNatClampNeg) (xs (nI (i + 5)).toNatClampNeg) (xs (nI (i + 6)).toNatClampNeg)
  refine l_aload_n hX dL_law_488 (i := 1) rfl (j := 1) rfl ?_
  refine l_aload_n hX dL_law_489 (i := 0) rfl (j := 0) rfl ?_
  refine l_iload_n hX dL_law_490 (i := 3) rfl (j := 3) rfl ?_
  refine l_iconst (v := nI 1) hX dL_law_491 (by decide) ?_
  refine l_iadd (v := nI (i + 1)) hX dL_law_492 (nI_add i 1) ?_
  refine l_sld hX hO dL_law_493 (s_in hi7 hL (by decide)) ?_
  refine l_aload_n hX dL_law_494 (i := 0) rfl (j := 0) rfl ?_
  refine l_iload_n hX dL_law_495 (i := 3) rfl (j := 3) rfl ?_
  refine l_iconst (v := nI 2) hX dL_law_496 (by decide) ?_
  refine l_iadd (v := nI (i + 2)) hX dL_law_497 (nI_add i 2) ?_
  refine l_sld hX hO dL_law_498 (s_in hi7 hL (by decide)) ?_
  refine l_aload_n hX dL_law_499 (i := 0) rfl (j := 0) rfl ?_
  refine l_iload_n hX dL_law_500 (i := 3) rfl (j := 3) rfl ?_
  refine l_iconst (v := nI 3) hX dL_law_501 (by decide) ?_
  refine l_iadd (v := nI (i + 3)) hX dL_law_502 (nI_add i 3) ?_
  refine l_sld hX hO dL_law_503 (s_in hi7 hL (by decide)) ?_
  refine l_aload_n hX dL_law_504 (i := 0) rfl (j := 0) rfl ?_
  refine l_iload_n hX dL_law_505 (i := 3) rfl (j := 3) rfl ?_
  refine l_iconst (v := nI 4) hX dL_law_506 (by decide) ?_
  refine l_iadd (v := nI (i + 4)) hX dL_law_507 (nI_add i 4) ?_
  refine l_sld hX hO dL_law_508 (s_in hi7 hL (by decide)) ?_
  refine l_aload_n hX dL_law_509 (i := 0) rfl (j := 0) rfl ?_
  refine l_iload_n hX dL_law_510 (i := 3) rfl (j := 3) rfl ?_
  refine l_iconst (v := nI 5) hX dL_law_511 (by decide) ?_
  refine l_iadd (v := nI (i + 5)) hX dL_law_512 (nI_add i 5) ?_
  refine l_sld hX hO dL_law_513 (s_in hi7 hL (by decide)) ?_
  refine l_aload_n hX dL_law_514 (i := 0) rfl (j := 0) rfl ?_
  refine l_iload_n hX dL_law_515 (i := 3) rfl (j := 3) rfl ?_
  refine l_bipush (v := nI 6) hX dL_law_516 (by decide) ?_
  refine l_iadd (v := nI (i + 6)) hX dL_law_518 (nI_add i 6) ?_
  refine l_sld hX hO dL_law_519 (s_in hi7 hL (by decide)) ?_
  refine l_callA (As := [.int (xs (nI (i + 1)).toNatClampNeg), .int (xs (nI (i + 2)).toNatClampNeg), .int (xs (nI (i + 3)).toNatClampNeg), .int (xs (nI (i + 4)).toNatClampNeg), .int (xs (nI (i + 5)).toNatClampNeg), .int (xs (nI (i + 6)).toNatClampNeg)]) (rest := []) hX hI hO dL_law_520 (ctX7_feed (b := b) (N := MA) (sz := b + 221) (Nat.le_refl _) WT_A 1 (xs (nI (i + 1)).toNatClampNeg) (xs (nI (i + 2)).toNatClampNeg) (xs (nI (i + 3)).toNatClampNeg) (xs (nI (i + 4)).toNatClampNeg) (xs (nI (i + 5)).toNatClampNeg) (xs (nI (i + 6)).toNatClampNeg) ⟨rfl, show KA 1 < 16 by decide⟩ eA) (by decide) (by decide) wm_L_49 wi_X7_feed ws_X7_feed wc_X7_feed hyX7_feed rfl (Nat.le_of_ble_eq_true rfl) rfl ?_
  refine l_aload_n hX dL_law_523 (i := 2) rfl (j := 2) rfl ?_
  refine l_aload_n hX dL_law_524 (i := 0) rfl (j := 0) rfl ?_
  refine l_iload_n hX dL_law_525 (i := 3) rfl (j := 3) rfl ?_
  refine l_iconst (v := nI 1) hX dL_law_526 (by decide) ?_
  refine l_iadd (v := nI (i + 1)) hX dL_law_527 (nI_add i 1) ?_
  refine l_sld hX hO dL_law_528 (s_in hi7 hL (by decide)) ?_
  refine l_aload_n hX dL_law_529 (i := 0) rfl (j := 0) rfl ?_
  refine l_iload_n hX dL_law_530 (i := 3) rfl (j := 3) rfl ?_
  refine l_iconst (v := nI 2) hX dL_law_531 (by decide) ?_
  refine l_iadd (v := nI (i + 2)) hX dL_law_532 (nI_add i 2) ?_
  refine l_sld hX hO dL_law_533 (s_in hi7 hL (by decide)) ?_
  refine l_aload_n hX dL_law_534 (i := 0) rfl (j := 0) rfl ?_
  refine l_iload_n hX dL_law_535 (i := 3) rfl (j := 3) rfl ?_
  refine l_iconst (v := nI 3) hX dL_law_536 (by decide) ?_
  refine l_iadd (v := nI (i + 3)) hX dL_law_537 (nI_add i 3) ?_
  refine l_sld hX hO dL_law_538 (s_in hi7 hL (by decide)) ?_
  refine l_aload_n hX dL_law_539 (i := 0) rfl (j := 0) rfl ?_
  refine l_iload_n hX dL_law_540 (i := 3) rfl (j := 3) rfl ?_
  refine l_iconst (v := nI 4) hX dL_law_541 (by decide) ?_
  refine l_iadd (v := nI (i + 4)) hX dL_law_542 (nI_add i 4) ?_
  refine l_sld hX hO dL_law_543 (s_in hi7 hL (by decide)) ?_
  refine l_aload_n hX dL_law_544 (i := 0) rfl (j := 0) rfl ?_
  refine l_iload_n hX dL_law_545 (i := 3) rfl (j := 3) rfl ?_
  refine l_iconst (v := nI 5) hX dL_law_546 (by decide) ?_
  refine l_iadd (v := nI (i + 5)) hX dL_law_547 (nI_add i 5) ?_
  refine l_sld hX hO dL_law_548 (s_in hi7 hL (by decide)) ?_
  refine l_aload_n hX dL_law_549 (i := 0) rfl (j := 0) rfl ?_
  refine l_iload_n hX dL_law_550 (i := 3) rfl (j := 3) rfl ?_
  refine l_bipush (v := nI 6) hX dL_law_551 (by decide) ?_
  refine l_iadd (v := nI (i + 6)) hX dL_law_553 (nI_add i 6) ?_
  refine l_sld hX hO dL_law_554 (s_in hi7 hL (by decide)) ?_
  refine l_callM (As := [.int (xs (nI (i + 1)).toNatClampNeg), .int (xs (nI (i + 2)).toNatClampNeg), .int (xs (nI (i + 3)).toNatClampNeg), .int (xs (nI (i + 4)).toNatClampNeg), .int (xs (nI (i + 5)).toNatClampNeg), .int (xs (nI (i + 6)).toNatClampNeg)]) (rest := [.int v]) hX hI hO dL_law_555 (ctX8_feed (b := b + 128) (N := MM) (sz := b + 221) (Nat.le_refl _) WT_M 1 (xs (nI (i + 1)).toNatClampNeg) (xs (nI (i + 2)).toNatClampNeg) (xs (nI (i + 3)).toNatClampNeg) (xs (nI (i + 4)).toNatClampNeg) (xs (nI (i + 5)).toNatClampNeg) (xs (nI (i + 6)).toNatClampNeg) ⟨rfl, show KM 1 < 16 by decide⟩ eM) (by decide) (by decide) wm_L_53 wi_X8_feed ws_X8_feed wc_X8_feed hyX8_feed rfl (Nat.le_of_ble_eq_true rfl) rfl ?_
  refine l_eq (tgt := 1193) hX dL_law_558 (by decide) ?_
  exact kk _ _ hI2
set_option maxRecDepth 100000 in
set_option maxHeartbeats 4000000 in
theorem lw_pattern {X : XT} {b bs L0 : Nat} {xs : Nat → Int32} (hX : XOK X RL code 4 1300) (hI : XI X 600000 7302250) (hO : LOK X b bs L0 xs) (hL : L0 ≤ 3584) {Inv : HH → HH → Prop} (hs : S_pattern Inv) {i : Nat} (hi7 : i + 7 ≤ L0) {hA hM : HH} (hv : Inv hA hM) (kk : ∀ hA' hM', Inv hA' hM' → GL X b 1193 [(0, .ref bs), (1, .ref (b + 1)), (2, .ref (b + 128 + 1)), (3, .int (nI i))] [] hA' hM') : GL X b 563 [(0, .ref bs), (1, .ref (b + 1)), (2, .ref (b + 128 + 1)), (3, .int (nI i))] [] hA hM := by
  obtain ⟨v, hA', hM', eA, eM, hI2⟩ := hs hA hM hv
  refine l_aload_n hX dL_law_563 (i := 1) rfl (j := 1) rfl ?_
  refine l_callA (As := []) (rest := []) hX hI hO dL_law_564 (ctX7_pattern (b := b) (N := MA) (sz := b + 221) (Nat.le_refl _) WT_A 1 ⟨rfl, show KA 1 < 16 by decide⟩ eA) (by decide) (by decide) wm_L_54 wi_X7_pattern ws_X7_pattern wc_X7_pattern hyX7_pattern rfl (Nat.le_of_ble_eq_true rfl) rfl ?_
  refine l_aload_n hX dL_law_567 (i := 2) rfl (j := 2) rfl ?_
  refine l_callM (As := []) (rest := [.int v]) hX hI hO dL_law_568 (ctX8_pattern (b := b + 128) (N := MM) (sz := b + 221) (Nat.le_refl _) WT_M 1 ⟨rfl, show KM 1 < 16 by decide⟩ eM) (by decide) (by decide) wm_L_58 wi_X8_pattern ws_X8_pattern wc_X8_pattern hyX8_pattern rfl (Nat.le_of_ble_eq_true rfl) rfl ?_
  refine l_eq (tgt := 1193) hX dL_law_571 (by decide) ?_
  exact kk _ _ hI2
set_option maxRecDepth 100000 in
set_option maxHeartbeats 4000000 in
theorem lw_drop {X : XT} {b bs L0 : Nat} {xs : Nat → Int32} (hX : XOK X RL code 4 1300) (hI : XI X 600000 7302250) (hO : LOK X b bs L0 xs) (hL : L0 ≤ 3584) {Inv : HH → HH → Prop} (hs : S_drop Inv) {i : Nat} (hi7 : i + 7 ≤ L0) {hA hM : HH} (hv : Inv hA hM) (kk : ∀ hA' hM', Inv hA' hM' → GL X b 1193 [(0, .ref bs), (1, .ref (b + 1)), (2, .ref (b + 128 + 1)), (3, .int (nI i))] [] hA' hM') : GL X b 576 [(0, .ref bs), (1, .ref (b + 1)), (2, .ref (b + 128 + 1)), (3, .int (nI i))] [] hA hM := by
  obtain ⟨v, hA', hM', eA, eM, hI2⟩ := hs hA hM hv
  refine l_aload_n hX dL_law_576 (i := 1) rfl (j := 1) rfl ?_
  refine l_callA (As := []) (rest := []) hX hI hO dL_law_577 (ctX7_drop (b := b) (N := MA) (sz := b + 221) (Nat.le_refl _) WT_A 1 ⟨rfl, show KA 1 < 16 by decide⟩ eA) (by decide) (by decide) wm_L_59 wi_X7_drop ws_X7_drop wc_X7_drop hyX7_drop rfl (Nat.le_of_ble_eq_true rfl) rfl ?_
  refine l_aload_n hX dL_law_580 (i := 2) rfl (j := 2) rfl ?_
  refine l_callM (As := []) (rest := [.int v]) hX hI hO dL_law_581 (ctX8_drop (b := b + 128) (N := MM) (sz := b + 221) (Nat.le_refl _) WT_M 1 ⟨rfl, show KM 1 < 16 by decide⟩ eM) (by decide) (by decide) wm_L_62 wi_X8_drop ws_X8_drop wc_X8_drop hyX8_drop rfl (Nat.le_of_ble_eq_true rfl) rfl ?_
  refine l_eq (tgt := 1193) hX dL_law_584 (by decide) ?_
  exact kk _ _ hI2
set_option maxRecDepth 100000 in
set_option maxHeartbeats 4000000 in
theorem lw_matches {X : XT} {b bs L0 : Nat} {xs : Nat → Int32} (hX : XOK X RL code 4 1300) (hI : XI X 600000 7302250) (hO : LOK X b bs L0 xs) (hL : L0 ≤ 3584) {Inv : HH → HH → Prop} (hs : S_matches Inv) {i : Nat} (hi7 : i + 7 ≤ L0) {hA hM : HH} (hv : Inv hA hM) (kk : ∀ hA' hM', Inv hA' hM' → GL X b 1193 [(0, .ref bs), (1, .ref (b + 1)), (2, .ref (b + 128 + 1)), (3, .int (nI i))] [] hA' hM') : GL X b 589 [(0, .ref bs), (1, .ref (b + 1)), (2, .ref (b + 128 + 1)), (3, .int (nI i))] [] hA hM := by
  obtain ⟨v, hA', hM', eA, eM, hI2⟩ := hs hA hM hv (xs (nI (i + 1)).toNatClampNeg) (xs (nI (i + 2)).toNatClampNeg) (xs (nI (i + 3)).toNatClampNeg)
  refine l_aload_n hX dL_law_589 (i := 1) rfl (j := 1) rfl ?_
  refine l_aload_n hX dL_law_590 (i := 0) rfl (j := 0) rfl ?_
  refine l_iload_n hX dL_law_591 (i := 3) rfl (j := 3) rfl ?_
  refine l_iconst (v := nI 1) hX dL_law_592 (by decide) ?_
  refine l_iadd (v := nI (i + 1)) hX dL_law_593 (nI_add i 1) ?_
  refine l_sld hX hO dL_law_594 (s_in hi7 hL (by decide)) ?_
  refine l_aload_n hX dL_law_595 (i := 0) rfl (j := 0) rfl ?_
  refine l_iload_n hX dL_law_596 (i := 3) rfl (j := 3) rfl ?_
  refine l_iconst (v := nI 2) hX dL_law_597 (by decide) ?_
  refine l_iadd (v := nI (i + 2)) hX dL_law_598 (nI_add i 2) ?_
  refine l_sld hX hO dL_law_599 (s_in hi7 hL (by decide)) ?_
  refine l_aload_n hX dL_law_600 (i := 0) rfl (j := 0) rfl ?_
  refine l_iload_n hX dL_law_601 (i := 3) rfl (j := 3) rfl ?_
  refine l_iconst (v := nI 3) hX dL_law_602 (by decide) ?_
  refine l_iadd (v := nI (i + 3)) hX dL_law_603 (nI_add i 3) ?_
  refine l_sld hX hO dL_law_604 (s_in hi7 hL (by decide)) ?_
  refine l_callA (As := [.int (xs (nI (i + 1)).toNatClampNeg), .int (xs (nI (i + 2)).toNatClampNeg), .int (xs (nI (i + 3)).toNatClampNeg)]) (rest := []) hX hI hO dL_law_605 (ctX7_matches (b := b) (N := MA) (sz := b + 221) (Nat.le_refl _) WT_A 1 (xs (nI (i + 1)).toNatClampNeg) (xs (nI (i + 2)).toNatClampNeg) (xs (nI (i + 3)).toNatClampNeg) ⟨rfl, show KA 1 < 16 by decide⟩ eA) (by decide) (by decide) wm_L_63 wi_X7_matches ws_X7_matches wc_X7_matches hyX7_matches rfl (Nat.le_of_ble_eq_true rfl) rfl ?_
  refine l_aload_n hX dL_law_608 (i := 2) rfl (j := 2) rfl ?_
  refine l_aload_n hX dL_law_609 (i := 0) rfl (j := 0) rfl ?_
  refine l_iload_n hX dL_law_610 (i := 3) rfl (j := 3) rfl ?_
  refine l_iconst (v := nI 1) hX dL_law_611 (by decide) ?_
  refine l_iadd (v := nI (i + 1)) hX dL_law_612 (nI_add i 1) ?_
  refine l_sld hX hO dL_law_613 (s_in hi7 hL (by decide)) ?_
  refine l_aload_n hX dL_law_614 (i := 0) rfl (j := 0) rfl ?_
  refine l_iload_n hX dL_law_615 (i := 3) rfl (j := 3) rfl ?_
  refine l_iconst (v := nI 2) hX dL_law_616 (by decide) ?_
  refine l_iadd (v := nI (i + 2)) hX dL_law_617 (nI_add i 2) ?_
  refine l_sld hX hO dL_law_618 (s_in hi7 hL (by decide)) ?_
  refine l_aload_n hX dL_law_619 (i := 0) rfl (j := 0) rfl ?_
  refine l_iload_n hX dL_law_620 (i := 3) rfl (j := 3) rfl ?_
  refine l_iconst (v := nI 3) hX dL_law_621 (by decide) ?_
  refine l_iadd (v := nI (i + 3)) hX dL_law_622 (nI_add i 3) ?_
  refine l_sld hX hO dL_law_623 (s_in hi7 hL (by decide)) ?_
  refine l_callM (As := [.int (xs (nI (i + 1)).toNatClampNeg), .int (xs (nI (i + 2)).toNatClampNeg), .int (xs (nI (i + 3)).toNatClampNeg)]) (rest := [.int v]) hX hI hO dL_law_624 (ctX8_matches (b := b + 128) (N := MM) (sz := b + 221) (Nat.le_refl _) WT_M 1 (xs (nI (i + 1)).toNatClampNeg) (xs (nI (i + 2)).toNatClampNeg) (xs (nI (i + 3)).toNatClampNeg) ⟨rfl, show KM 1 < 16 by decide⟩ eM) (by decide) (by decide) wm_L_66 wi_X8_matches ws_X8_matches wc_X8_matches hyX8_matches rfl (Nat.le_of_ble_eq_true rfl) rfl ?_
  refine l_eq (tgt := 1193) hX dL_law_627 (by decide) ?_
  exact kk _ _ hI2
set_option maxRecDepth 100000 in
set_option maxHeartbeats 4000000 in
theorem lw_prefer {X : XT} {b bs L0 : Nat} {xs : Nat → Int32} (hX : XOK X RL code 4 1300) (hI : XI X 600000 7302250) (hO : LOK X b bs L0 xs) (hL : L0 ≤ 3584) {Inv : HH → HH → Prop} (hs : S_prefer Inv) {i : Nat} (hi7 : i + 7 ≤ L0) {hA hM : HH} (hv : Inv hA hM) (kk : ∀ hA' hM', Inv hA' hM' → GL X b 1193 [(0, .ref bs), (1, .ref (b + 1)), (2, .ref (b + 128 + 1)), (3, .int (nI i))] [] hA' hM') : GL X b 632 [(0, .ref bs), (1, .ref (b + 1)), (2, .ref (b + 128 + 1)), (3, .int (nI i))] [] hA hM := by
  obtain ⟨v, hA', hM', eA, eM, hI2⟩ := hs hA hM hv (xs (nI (i + 1)).toNatClampNeg)
  refine l_aload_n hX dL_law_632 (i := 1) rfl (j := 1) rfl ?_
  refine l_aload_n hX dL_law_633 (i := 0) rfl (j := 0) rfl ?_
  refine l_iload_n hX dL_law_634 (i := 3) rfl (j := 3) rfl ?_
  refine l_iconst (v := nI 1) hX dL_law_635 (by decide) ?_
  refine l_iadd (v := nI (i + 1)) hX dL_law_636 (nI_add i 1) ?_
  refine l_sld hX hO dL_law_637 (s_in hi7 hL (by decide)) ?_
  refine l_callA (As := [.int (xs (nI (i + 1)).toNatClampNeg)]) (rest := []) hX hI hO dL_law_638 (ctX7_prefer (b := b) (N := MA) (sz := b + 221) (Nat.le_refl _) WT_A 1 (xs (nI (i + 1)).toNatClampNeg) ⟨rfl, show KA 1 < 16 by decide⟩ eA) (by decide) (by decide) wm_L_67 wi_X7_prefer ws_X7_prefer wc_X7_prefer hyX7_prefer rfl (Nat.le_of_ble_eq_true rfl) rfl ?_
  refine l_aload_n hX dL_law_641 (i := 2) rfl (j := 2) rfl ?_
  refine l_aload_n hX dL_law_642 (i := 0) rfl (j := 0) rfl ?_
  refine l_iload_n hX dL_law_643 (i := 3) rfl (j := 3) rfl ?_
  refine l_iconst (v := nI 1) hX dL_law_644 (by decide) ?_
  refine l_iadd (v := nI (i + 1)) hX dL_law_645 (nI_add i 1) ?_
  refine l_sld hX hO dL_law_646 (s_in hi7 hL (by decide)) ?_
  refine l_callM (As := [.int (xs (nI (i + 1)).toNatClampNeg)]) (rest := [.int v]) hX hI hO dL_law_647 (ctX8_prefer (b := b + 128) (N := MM) (sz := b + 221) (Nat.le_refl _) WT_M 1 (xs (nI (i + 1)).toNatClampNeg) ⟨rfl, show KM 1 < 16 by decide⟩ eM) (by decide) (by decide) wm_L_70 wi_X8_prefer ws_X8_prefer wc_X8_prefer hyX8_prefer rfl (Nat.le_of_ble_eq_true rfl) rfl ?_
  refine l_eq (tgt := 1193) hX dL_law_650 (by decide) ?_
  exact kk _ _ hI2
set_option maxRecDepth 100000 in
set_option maxHeartbeats 4000000 in
theorem lw_sync {X : XT} {b bs L0 : Nat} {xs : Nat → Int32} (hX : XOK X RL code 4 1300) (hI : XI X 600000 7302250) (hO : LOK X b bs L0 xs) (hL : L0 ≤ 3584) {Inv : HH → HH → Prop} (hs : S_sync Inv) {i : Nat} (hi7 : i + 7 ≤ L0) {hA hM : HH} (hv : Inv hA hM) (kk : ∀ hA' hM', Inv hA' hM' → GL X b 1193 [(0, .ref bs), (1, .ref (b + 1)), (2, .ref (b + 128 + 1)), (3, .int (nI i))] [] hA' hM') : GL X b 655 [(0, .ref bs), (1, .ref (b + 1)), (2, .ref (b + 128 + 1)), (3, .int (nI i))] [] hA hM := by
  obtain ⟨v, hA', hM', eA, eM, hI2⟩ := hs hA hM hv
  refine l_aload_n hX dL_law_655 (i := 1) rfl (j := 1) rfl ?_
  refine l_callA (As := []) (rest := []) hX hI hO dL_law_656 (ctX7_sync (b := b) (N := MA) (sz := b + 221) (Nat.le_refl _) WT_A (fun _ h => h) 1 ⟨rfl, show KA 1 < 16 by decide⟩ eA) (by decide) (by decide) wm_L_71 wi_X7_sync ws_X7_sync wc_X7_sync hyX7_sync rfl (Nat.le_of_ble_eq_true rfl) rfl ?_
  refine l_aload_n hX dL_law_659 (i := 2) rfl (j := 2) rfl ?_
  refine l_callM (As := []) (rest := [.int v]) hX hI hO dL_law_660 (ctX8_sync (b := b + 128) (N := MM) (sz := b + 221) (Nat.le_refl _) WT_M 1 ⟨rfl, show KM 1 < 16 by decide⟩ eM) (by decide) (by decide) wm_L_74 wi_X8_sync ws_X8_sync wc_X8_sync hyX8_sync rfl (Nat.le_of_ble_eq_true rfl) rfl ?_
  refine l_eq (tgt := 1193) hX dL_law_663 (by decide) ?_
  exact kk _ _ hI2
set_option maxRecDepth 100000 in
set_option maxHeartbeats 4000000 in
theorem lw_target {X : XT} {b bs L0 : Nat} {xs : Nat → Int32} (hX : XOK X RL code 4 1300) (hI : XI X 600000 7302250) (hO : LOK X b bs L0 xs) (hL : L0 ≤ 3584) {Inv : HH → HH → Prop} (hs : S_target Inv) {i : Nat} (hi7 : i + 7 ≤ L0) {hA hM : HH} (hv : Inv hA hM) (kk : ∀ hA' hM', Inv hA' hM' → GL X b 1193 [(0, .ref bs), (1, .ref (b + 1)), (2, .ref (b + 128 + 1)), (3, .int (nI i))] [] hA' hM') : GL X b 668 [(0, .ref bs), (1, .ref (b + 1)), (2, .ref (b + 128 + 1)), (3, .int (nI i))] [] hA hM := by
  obtain ⟨v, hA', hM', eA, eM, hI2⟩ := hs hA hM hv (xs (nI (i + 1)).toNatClampNeg) (xs (nI (i + 2)).toNatClampNeg)
  refine l_aload_n hX dL_law_668 (i := 1) rfl (j := 1) rfl ?_
  refine l_aload_n hX dL_law_669 (i := 0) rfl (j := 0) rfl ?_
  refine l_iload_n hX dL_law_670 (i := 3) rfl (j := 3) rfl ?_
  refine l_iconst (v := nI 1) hX dL_law_671 (by decide) ?_
  refine l_iadd (v := nI (i + 1)) hX dL_law_672 (nI_add i 1) ?_
  refine l_sld hX hO dL_law_673 (s_in hi7 hL (by decide)) ?_
  refine l_aload_n hX dL_law_674 (i := 0) rfl (j := 0) rfl ?_
  refine l_iload_n hX dL_law_675 (i := 3) rfl (j := 3) rfl ?_
  refine l_iconst (v := nI 2) hX dL_law_676 (by decide) ?_
  refine l_iadd (v := nI (i + 2)) hX dL_law_677 (nI_add i 2) ?_
  refine l_sld hX hO dL_law_678 (s_in hi7 hL (by decide)) ?_
  refine l_callA (As := [.int (xs (nI (i + 1)).toNatClampNeg), .int (xs (nI (i + 2)).toNatClampNeg)]) (rest := []) hX hI hO dL_law_679 (ctX7_target (b := b) (N := MA) (sz := b + 221) (Nat.le_refl _) WT_A (fun _ h => h) 1 (xs (nI (i + 1)).toNatClampNeg) (xs (nI (i + 2)).toNatClampNeg) ⟨rfl, show KA 1 < 16 by decide⟩ eA) (by decide) (by decide) wm_L_75 wi_X7_target ws_X7_target wc_X7_target hyX7_target rfl (Nat.le_of_ble_eq_true rfl) rfl ?_
  refine l_aload_n hX dL_law_682 (i := 2) rfl (j := 2) rfl ?_
  refine l_aload_n hX dL_law_683 (i := 0) rfl (j := 0) rfl ?_
  refine l_iload_n hX dL_law_684 (i := 3) rfl (j := 3) rfl ?_
  refine l_iconst (v := nI 1) hX dL_law_685 (by decide) ?_
  refine l_iadd (v := nI (i + 1)) hX dL_law_686 (nI_add i 1) ?_
  refine l_sld hX hO dL_law_687 (s_in hi7 hL (by decide)) ?_
  refine l_aload_n hX dL_law_688 (i := 0) rfl (j := 0) rfl ?_
  refine l_iload_n hX dL_law_689 (i := 3) rfl (j := 3) rfl ?_
  refine l_iconst (v := nI 2) hX dL_law_690 (by decide) ?_
  refine l_iadd (v := nI (i + 2)) hX dL_law_691 (nI_add i 2) ?_
  refine l_sld hX hO dL_law_692 (s_in hi7 hL (by decide)) ?_
  refine l_callM (As := [.int (xs (nI (i + 1)).toNatClampNeg), .int (xs (nI (i + 2)).toNatClampNeg)]) (rest := [.int v]) hX hI hO dL_law_693 (ctX8_target (b := b + 128) (N := MM) (sz := b + 221) (Nat.le_refl _) WT_M 1 (xs (nI (i + 1)).toNatClampNeg) (xs (nI (i + 2)).toNatClampNeg) ⟨rfl, show KM 1 < 16 by decide⟩ eM) (by decide) (by decide) wm_L_78 wi_X8_target ws_X8_target wc_X8_target hyX8_target rfl (Nat.le_of_ble_eq_true rfl) rfl ?_
  refine l_eq (tgt := 1193) hX dL_law_696 (by decide) ?_
  exact kk _ _ hI2
set_option maxRecDepth 100000 in
set_option maxHeartbeats 4000000 in
theorem lw_clash {X : XT} {b bs L0 : Nat} {xs : Nat → Int32} (hX : XOK X RL code 4 1300) (hI : XI X 600000 7302250) (hO : LOK X b bs L0 xs) (hL : L0 ≤ 3584) {Inv : HH → HH → Prop} (hs : S_clash Inv) {i : Nat} (hi7 : i + 7 ≤ L0) {hA hM : HH} (hv : Inv hA hM) (kk : ∀ hA' hM', Inv hA' hM' → GL X b 1193 [(0, .ref bs), (1, .ref (b + 1)), (2, .ref (b + 128 + 1)), (3, .int (nI i))] [] hA' hM') : GL X b 701 [(0, .ref bs), (1, .ref (b + 1)), (2, .ref (b + 128 + 1)), (3, .int (nI i))] [] hA hM := by
  obtain ⟨v, hA', hM', eA, eM, hI2⟩ := hs hA hM hv (xs (nI (i + 1)).toNatClampNeg) (xs (nI (i + 2)).toNatClampNeg)
  refine l_aload_n hX dL_law_701 (i := 1) rfl (j := 1) rfl ?_
  refine l_aload_n hX dL_law_702 (i := 0) rfl (j := 0) rfl ?_
  refine l_iload_n hX dL_law_703 (i := 3) rfl (j := 3) rfl ?_
  refine l_iconst (v := nI 1) hX dL_law_704 (by decide) ?_
  refine l_iadd (v := nI (i + 1)) hX dL_law_705 (nI_add i 1) ?_
  refine l_sld hX hO dL_law_706 (s_in hi7 hL (by decide)) ?_
  refine l_aload_n hX dL_law_707 (i := 0) rfl (j := 0) rfl ?_
  refine l_iload_n hX dL_law_708 (i := 3) rfl (j := 3) rfl ?_
  refine l_iconst (v := nI 2) hX dL_law_709 (by decide) ?_
  refine l_iadd (v := nI (i + 2)) hX dL_law_710 (nI_add i 2) ?_
  refine l_sld hX hO dL_law_711 (s_in hi7 hL (by decide)) ?_
  refine l_callA (As := [.int (xs (nI (i + 1)).toNatClampNeg), .int (xs (nI (i + 2)).toNatClampNeg)]) (rest := []) hX hI hO dL_law_712 (ctX7_clash (b := b) (N := MA) (sz := b + 221) (Nat.le_refl _) WT_A (fun _ h => h) 1 (xs (nI (i + 1)).toNatClampNeg) (xs (nI (i + 2)).toNatClampNeg) ⟨rfl, show KA 1 < 16 by decide⟩ eA) (by decide) (by decide) wm_L_79 wi_X7_clash ws_X7_clash wc_X7_clash hyX7_clash rfl (Nat.le_of_ble_eq_true rfl) rfl ?_
  refine l_aload_n hX dL_law_715 (i := 2) rfl (j := 2) rfl ?_
  refine l_aload_n hX dL_law_716 (i := 0) rfl (j := 0) rfl ?_
  refine l_iload_n hX dL_law_717 (i := 3) rfl (j := 3) rfl ?_
  refine l_iconst (v := nI 1) hX dL_law_718 (by decide) ?_
  refine l_iadd (v := nI (i + 1)) hX dL_law_719 (nI_add i 1) ?_
  refine l_sld hX hO dL_law_720 (s_in hi7 hL (by decide)) ?_
  refine l_aload_n hX dL_law_721 (i := 0) rfl (j := 0) rfl ?_
  refine l_iload_n hX dL_law_722 (i := 3) rfl (j := 3) rfl ?_
  refine l_iconst (v := nI 2) hX dL_law_723 (by decide) ?_
  refine l_iadd (v := nI (i + 2)) hX dL_law_724 (nI_add i 2) ?_
  refine l_sld hX hO dL_law_725 (s_in hi7 hL (by decide)) ?_
  refine l_callM (As := [.int (xs (nI (i + 1)).toNatClampNeg), .int (xs (nI (i + 2)).toNatClampNeg)]) (rest := [.int v]) hX hI hO dL_law_726 (ctX8_clash (b := b + 128) (N := MM) (sz := b + 221) (Nat.le_refl _) WT_M 1 (xs (nI (i + 1)).toNatClampNeg) (xs (nI (i + 2)).toNatClampNeg) ⟨rfl, show KM 1 < 16 by decide⟩ eM) (by decide) (by decide) wm_L_82 wi_X8_clash ws_X8_clash wc_X8_clash hyX8_clash rfl (Nat.le_of_ble_eq_true rfl) rfl ?_
  refine l_eq (tgt := 1193) hX dL_law_729 (by decide) ?_
  exact kk _ _ hI2
set_option maxRecDepth 100000 in
set_option maxHeartbeats 4000000 in
theorem lw_step {X : XT} {b bs L0 : Nat} {xs : Nat → Int32} (hX : XOK X RL code 4 1300) (hI : XI X 600000 7302250) (hO : LOK X b bs L0 xs) (hL : L0 ≤ 3584) {Inv : HH → HH → Prop} (hs : S_step Inv) {i : Nat} (hi7 : i + 7 ≤ L0) {hA hM : HH} (hv : Inv hA hM) (kk : ∀ hA' hM', Inv hA' hM' → GL X b 1193 [(0, .ref bs), (1, .ref (b + 1)), (2, .ref (b + 128 + 1)), (3, .int (nI i))] [] hA' hM') : GL X b 734 [(0, .ref bs), (1, .ref (b + 1)), (2, .ref (b + 128 + 1)), (3, .int (nI i))] [] hA hM := by
  obtain ⟨v, hA', hM', eA, eM, hI2⟩ := hs hA hM hv (xs (nI (i + 1)).toNatClampNeg) (xs (nI (i + 2)).toNatClampNeg) (xs (nI (i + 3)).toNatClampNeg)
  refine l_aload_n hX dL_law_734 (i := 1) rfl (j := 1) rfl ?_
  refine l_aload_n hX dL_law_735 (i := 0) rfl (j := 0) rfl ?_
  refine l_iload_n hX dL_law_736 (i := 3) rfl (j := 3) rfl ?_
  refine l_iconst (v := nI 1) hX dL_law_737 (by decide) ?_
  refine l_iadd (v := nI (i + 1)) hX dL_law_738 (nI_add i 1) ?_
  refine l_sld hX hO dL_law_739 (s_in hi7 hL (by decide)) ?_
  refine l_aload_n hX dL_law_740 (i := 0) rfl (j := 0) rfl ?_
  refine l_iload_n hX dL_law_741 (i := 3) rfl (j := 3) rfl ?_
  refine l_iconst (v := nI 2) hX dL_law_742 (by decide) ?_
  refine l_iadd (v := nI (i + 2)) hX dL_law_743 (nI_add i 2) ?_
  refine l_sld hX hO dL_law_744 (s_in hi7 hL (by decide)) ?_
  refine l_aload_n hX dL_law_745 (i := 0) rfl (j := 0) rfl ?_
  refine l_iload_n hX dL_law_746 (i := 3) rfl (j := 3) rfl ?_
  refine l_iconst (v := nI 3) hX dL_law_747 (by decide) ?_
  refine l_iadd (v := nI (i + 3)) hX dL_law_748 (nI_add i 3) ?_
  refine l_sld hX hO dL_law_749 (s_in hi7 hL (by decide)) ?_
  refine l_callA (As := [.int (xs (nI (i + 1)).toNatClampNeg), .int (xs (nI (i + 2)).toNatClampNeg), .int (xs (nI (i + 3)).toNatClampNeg)]) (rest := []) hX hI hO dL_law_750 (ctX7_step (b := b) (N := MA) (sz := b + 221) (Nat.le_refl _) WT_A (fun _ h => h) 1 (xs (nI (i + 1)).toNatClampNeg) (xs (nI (i + 2)).toNatClampNeg) (xs (nI (i + 3)).toNatClampNeg) ⟨rfl, show KA 1 < 16 by decide⟩ eA) (by decide) (by decide) wm_L_83 wi_X7_step ws_X7_step wc_X7_step hyX7_step rfl (Nat.le_of_ble_eq_true rfl) rfl ?_
  refine l_aload_n hX dL_law_753 (i := 2) rfl (j := 2) rfl ?_
  refine l_aload_n hX dL_law_754 (i := 0) rfl (j := 0) rfl ?_
  refine l_iload_n hX dL_law_755 (i := 3) rfl (j := 3) rfl ?_
  refine l_iconst (v := nI 1) hX dL_law_756 (by decide) ?_
  refine l_iadd (v := nI (i + 1)) hX dL_law_757 (nI_add i 1) ?_
  refine l_sld hX hO dL_law_758 (s_in hi7 hL (by decide)) ?_
  refine l_aload_n hX dL_law_759 (i := 0) rfl (j := 0) rfl ?_
  refine l_iload_n hX dL_law_760 (i := 3) rfl (j := 3) rfl ?_
  refine l_iconst (v := nI 2) hX dL_law_761 (by decide) ?_
  refine l_iadd (v := nI (i + 2)) hX dL_law_762 (nI_add i 2) ?_
  refine l_sld hX hO dL_law_763 (s_in hi7 hL (by decide)) ?_
  refine l_aload_n hX dL_law_764 (i := 0) rfl (j := 0) rfl ?_
  refine l_iload_n hX dL_law_765 (i := 3) rfl (j := 3) rfl ?_
  refine l_iconst (v := nI 3) hX dL_law_766 (by decide) ?_
  refine l_iadd (v := nI (i + 3)) hX dL_law_767 (nI_add i 3) ?_
  refine l_sld hX hO dL_law_768 (s_in hi7 hL (by decide)) ?_
  refine l_callM (As := [.int (xs (nI (i + 1)).toNatClampNeg), .int (xs (nI (i + 2)).toNatClampNeg), .int (xs (nI (i + 3)).toNatClampNeg)]) (rest := [.int v]) hX hI hO dL_law_769 (ctX8_step_ (b := b + 128) (N := MM) (sz := b + 221) (Nat.le_refl _) WT_M 1 (xs (nI (i + 1)).toNatClampNeg) (xs (nI (i + 2)).toNatClampNeg) (xs (nI (i + 3)).toNatClampNeg) ⟨rfl, show KM 1 < 16 by decide⟩ eM) (by decide) (by decide) wm_L_86 wi_X8_step_ ws_X8_step_ wc_X8_step_ hyX8_step_ rfl (Nat.le_of_ble_eq_true rfl) rfl ?_
  refine l_eq (tgt := 1193) hX dL_law_772 (by decide) ?_
  exact kk _ _ hI2
set_option maxRecDepth 100000 in
set_option maxHeartbeats 4000000 in
theorem lw_would {X : XT} {b bs L0 : Nat} {xs : Nat → Int32} (hX : XOK X RL code 4 1300) (hI : XI X 600000 7302250) (hO : LOK X b bs L0 xs) (hL : L0 ≤ 3584) {Inv : HH → HH → Prop} (hs : S_would Inv) {i : Nat} (hi7 : i + 7 ≤ L0) {hA hM : HH} (hv : Inv hA hM) (kk : ∀ hA' hM', Inv hA' hM' → GL X b 1193 [(0, .ref bs), (1, .ref (b + 1)), (2, .ref (b + 128 + 1)), (3, .int (nI i))] [] hA' hM') : GL X b 777 [(0, .ref bs), (1, .ref (b + 1)), (2, .ref (b + 128 + 1)), (3, .int (nI i))] [] hA hM := by
  obtain ⟨v, hA', hM', eA, eM, hI2⟩ := hs hA hM hv (xs (nI (i + 1)).toNatClampNeg)
  refine l_aload_n hX dL_law_777 (i := 1) rfl (j := 1) rfl ?_
  refine l_aload_n hX dL_law_778 (i := 0) rfl (j := 0) rfl ?_
  refine l_iload_n hX dL_law_779 (i := 3) rfl (j := 3) rfl ?_
  refine l_iconst (v := nI 1) hX dL_law_780 (by decide) ?_
  refine l_iadd (v := nI (i + 1)) hX dL_law_781 (nI_add i 1) ?_
  refine l_sld hX hO dL_law_782 (s_in hi7 hL (by decide)) ?_
  refine l_callA (As := [.int (xs (nI (i + 1)).toNatClampNeg)]) (rest := []) hX hI hO dL_law_783 (ctX7_would (b := b) (N := MA) (sz := b + 221) (Nat.le_refl _) WT_A (fun _ h => h) 1 (xs (nI (i + 1)).toNatClampNeg) ⟨rfl, show KA 1 < 16 by decide⟩ eA) (by decide) (by decide) wm_L_87 wi_X7_would ws_X7_would wc_X7_would hyX7_would rfl (Nat.le_of_ble_eq_true rfl) rfl ?_
  refine l_aload_n hX dL_law_786 (i := 2) rfl (j := 2) rfl ?_
  refine l_aload_n hX dL_law_787 (i := 0) rfl (j := 0) rfl ?_
  refine l_iload_n hX dL_law_788 (i := 3) rfl (j := 3) rfl ?_
  refine l_iconst (v := nI 1) hX dL_law_789 (by decide) ?_
  refine l_iadd (v := nI (i + 1)) hX dL_law_790 (nI_add i 1) ?_
  refine l_sld hX hO dL_law_791 (s_in hi7 hL (by decide)) ?_
  refine l_callM (As := [.int (xs (nI (i + 1)).toNatClampNeg)]) (rest := [.int v]) hX hI hO dL_law_792 (ctX8_would (b := b + 128) (N := MM) (sz := b + 221) (Nat.le_refl _) WT_M 1 (xs (nI (i + 1)).toNatClampNeg) ⟨rfl, show KM 1 < 16 by decide⟩ eM) (by decide) (by decide) wm_L_90 wi_X8_would ws_X8_would wc_X8_would hyX8_would rfl (Nat.le_of_ble_eq_true rfl) rfl ?_
  refine l_eq (tgt := 1193) hX dL_law_795 (by decide) ?_
  exact kk _ _ hI2
set_option maxRecDepth 100000 in
set_option maxHeartbeats 4000000 in
theorem lw_spared {X : XT} {b bs L0 : Nat} {xs : Nat → Int32} (hX : XOK X RL code 4 1300) (hI : XI X 600000 7302250) (hO : LOK X b bs L0 xs) (hL : L0 ≤ 3584) {Inv : HH → HH → Prop} (hs : S_spared Inv) {i : Nat} (hi7 : i + 7 ≤ L0) {hA hM : HH} (hv : Inv hA hM) (kk : ∀ hA' hM', Inv hA' hM' → GL X b 1193 [(0, .ref bs), (1, .ref (b + 1)), (2, .ref (b + 128 + 1)), (3, .int (nI i))] [] hA' hM') : GL X b 800 [(0, .ref bs), (1, .ref (b + 1)), (2, .ref (b + 128 + 1)), (3, .int (nI i))] [] hA hM := by
  obtain ⟨v, hA', hM', eA, eM, hI2⟩ := hs hA hM hv (xs (nI (i + 1)).toNatClampNeg) (xs (nI (i + 2)).toNatClampNeg)
  refine l_aload_n hX dL_law_800 (i := 1) rfl (j := 1) rfl ?_
  refine l_aload_n hX dL_law_801 (i := 0) rfl (j := 0) rfl ?_
  refine l_iload_n hX dL_law_802 (i := 3) rfl (j := 3) rfl ?_
  refine l_iconst (v := nI 1) hX dL_law_803 (by decide) ?_
  refine l_iadd (v := nI (i + 1)) hX dL_law_804 (nI_add i 1) ?_
  refine l_sld hX hO dL_law_805 (s_in hi7 hL (by decide)) ?_
  refine l_aload_n hX dL_law_806 (i := 0) rfl (j := 0) rfl ?_
  refine l_iload_n hX dL_law_807 (i := 3) rfl (j := 3) rfl ?_
  refine l_iconst (v := nI 2) hX dL_law_808 (by decide) ?_
  refine l_iadd (v := nI (i + 2)) hX dL_law_809 (nI_add i 2) ?_
  refine l_sld hX hO dL_law_810 (s_in hi7 hL (by decide)) ?_
  refine l_callA (As := [.int (xs (nI (i + 1)).toNatClampNeg), .int (xs (nI (i + 2)).toNatClampNeg)]) (rest := []) hX hI hO dL_law_811 (ctX7_spared (b := b) (N := MA) (sz := b + 221) (Nat.le_refl _) WT_A (fun _ h => h) 1 (xs (nI (i + 1)).toNatClampNeg) (xs (nI (i + 2)).toNatClampNeg) ⟨rfl, show KA 1 < 16 by decide⟩ eA) (by decide) (by decide) wm_L_91 wi_X7_spared ws_X7_spared wc_X7_spared hyX7_spared rfl (Nat.le_of_ble_eq_true rfl) rfl ?_
  refine l_aload_n hX dL_law_814 (i := 2) rfl (j := 2) rfl ?_
  refine l_aload_n hX dL_law_815 (i := 0) rfl (j := 0) rfl ?_
  refine l_iload_n hX dL_law_816 (i := 3) rfl (j := 3) rfl ?_
  refine l_iconst (v := nI 1) hX dL_law_817 (by decide) ?_
  refine l_iadd (v := nI (i + 1)) hX dL_law_818 (nI_add i 1) ?_
  refine l_sld hX hO dL_law_819 (s_in hi7 hL (by decide)) ?_
  refine l_aload_n hX dL_law_820 (i := 0) rfl (j := 0) rfl ?_
  refine l_iload_n hX dL_law_821 (i := 3) rfl (j := 3) rfl ?_
  refine l_iconst (v := nI 2) hX dL_law_822 (by decide) ?_
  refine l_iadd (v := nI (i + 2)) hX dL_law_823 (nI_add i 2) ?_
  refine l_sld hX hO dL_law_824 (s_in hi7 hL (by decide)) ?_
  refine l_callM (As := [.int (xs (nI (i + 1)).toNatClampNeg), .int (xs (nI (i + 2)).toNatClampNeg)]) (rest := [.int v]) hX hI hO dL_law_825 (ctX8_spared (b := b + 128) (N := MM) (sz := b + 221) (Nat.le_refl _) WT_M 1 (xs (nI (i + 1)).toNatClampNeg) (xs (nI (i + 2)).toNatClampNeg) ⟨rfl, show KM 1 < 16 by decide⟩ eM) (by decide) (by decide) wm_L_94 wi_X8_spared ws_X8_spared wc_X8_spared hyX8_spared rfl (Nat.le_of_ble_eq_true rfl) rfl ?_
  refine l_eq (tgt := 1193) hX dL_law_828 (by decide) ?_
  exact kk _ _ hI2
set_option maxRecDepth 100000 in
set_option maxHeartbeats 4000000 in
theorem lw_drawn {X : XT} {b bs L0 : Nat} {xs : Nat → Int32} (hX : XOK X RL code 4 1300) (hI : XI X 600000 7302250) (hO : LOK X b bs L0 xs) (hL : L0 ≤ 3584) {Inv : HH → HH → Prop} (hs : S_drawn Inv) {i : Nat} (hi7 : i + 7 ≤ L0) {hA hM : HH} (hv : Inv hA hM) (kk : ∀ hA' hM', Inv hA' hM' → GL X b 1193 [(0, .ref bs), (1, .ref (b + 1)), (2, .ref (b + 128 + 1)), (3, .int (nI i))] [] hA' hM') : GL X b 833 [(0, .ref bs), (1, .ref (b + 1)), (2, .ref (b + 128 + 1)), (3, .int (nI i))] [] hA hM := by
  obtain ⟨v, hA', hM', eA, eM, hI2⟩ := hs hA hM hv (xs (nI (i + 1)).toNatClampNeg) (xs (nI (i + 2)).toNatClampNeg)
  refine l_aload_n hX dL_law_833 (i := 1) rfl (j := 1) rfl ?_
  refine l_aload_n hX dL_law_834 (i := 0) rfl (j := 0) rfl ?_
  refine l_iload_n hX dL_law_835 (i := 3) rfl (j := 3) rfl ?_
  refine l_iconst (v := nI 1) hX dL_law_836 (by decide) ?_
  refine l_iadd (v := nI (i + 1)) hX dL_law_837 (nI_add i 1) ?_
  refine l_sld hX hO dL_law_838 (s_in hi7 hL (by decide)) ?_
  refine l_aload_n hX dL_law_839 (i := 0) rfl (j := 0) rfl ?_
  refine l_iload_n hX dL_law_840 (i := 3) rfl (j := 3) rfl ?_
  refine l_iconst (v := nI 2) hX dL_law_841 (by decide) ?_
  refine l_iadd (v := nI (i + 2)) hX dL_law_842 (nI_add i 2) ?_
  refine l_sld hX hO dL_law_843 (s_in hi7 hL (by decide)) ?_
  refine l_callA (As := [.int (xs (nI (i + 1)).toNatClampNeg), .int (xs (nI (i + 2)).toNatClampNeg)]) (rest := []) hX hI hO dL_law_844 (ctX7_drawn (b := b) (N := MA) (sz := b + 221) (Nat.le_refl _) WT_A (fun _ h => h) 1 (xs (nI (i + 1)).toNatClampNeg) (xs (nI (i + 2)).toNatClampNeg) ⟨rfl, show KA 1 < 16 by decide⟩ eA) (by decide) (by decide) wm_L_95 wi_X7_drawn ws_X7_drawn wc_X7_drawn hyX7_drawn rfl (Nat.le_of_ble_eq_true rfl) rfl ?_
  refine l_aload_n hX dL_law_847 (i := 2) rfl (j := 2) rfl ?_
  refine l_aload_n hX dL_law_848 (i := 0) rfl (j := 0) rfl ?_
  refine l_iload_n hX dL_law_849 (i := 3) rfl (j := 3) rfl ?_
  refine l_iconst (v := nI 1) hX dL_law_850 (by decide) ?_
  refine l_iadd (v := nI (i + 1)) hX dL_law_851 (nI_add i 1) ?_
  refine l_sld hX hO dL_law_852 (s_in hi7 hL (by decide)) ?_
  refine l_aload_n hX dL_law_853 (i := 0) rfl (j := 0) rfl ?_
  refine l_iload_n hX dL_law_854 (i := 3) rfl (j := 3) rfl ?_
  refine l_iconst (v := nI 2) hX dL_law_855 (by decide) ?_
  refine l_iadd (v := nI (i + 2)) hX dL_law_856 (nI_add i 2) ?_
  refine l_sld hX hO dL_law_857 (s_in hi7 hL (by decide)) ?_
  refine l_callM (As := [.int (xs (nI (i + 1)).toNatClampNeg), .int (xs (nI (i + 2)).toNatClampNeg)]) (rest := [.int v]) hX hI hO dL_law_858 (ctX8_drawn (b := b + 128) (N := MM) (sz := b + 221) (Nat.le_refl _) WT_M 1 (xs (nI (i + 1)).toNatClampNeg) (xs (nI (i + 2)).toNatClampNeg) ⟨rfl, show KM 1 < 16 by decide⟩ eM) (by decide) (by decide) wm_L_98 wi_X8_drawn ws_X8_drawn wc_X8_drawn hyX8_drawn rfl (Nat.le_of_ble_eq_true rfl) rfl ?_
  refine l_eq (tgt := 1193) hX dL_law_861 (by decide) ?_
  exact kk _ _ hI2
set_option maxRecDepth 100000 in
set_option maxHeartbeats 4000000 in
theorem lw_chance {X : XT} {b bs L0 : Nat} {xs : Nat → Int32} (hX : XOK X RL code 4 1300) (hI : XI X 600000 7302250) (hO : LOK X b bs L0 xs) (hL : L0 ≤ 3584) {Inv : HH → HH → Prop} (hs : S_chance Inv) {i : Nat} (hi7 : i + 7 ≤ L0) {hA hM : HH} (hv : Inv hA hM) (kk : ∀ hA' hM', Inv hA' hM' → GL X b 1193 [(0, .ref bs), (1, .ref (b + 1)), (2, .ref (b + 128 + 1)), (3, .int (nI i))] [] hA' hM') : GL X b 866 [(0, .ref bs), (1, .ref (b + 1)), (2, .ref (b + 128 + 1)), (3, .int (nI i))] [] hA hM := by
  obtain ⟨v, hA', hM', eA, eM, hI2⟩ := hs hA hM hv (xs (nI (i + 1)).toNatClampNeg) (xs (nI (i + 2)).toNatClampNeg) (xs (nI (i + 3)).toNatClampNeg)
  refine l_aload_n hX dL_law_866 (i := 1) rfl (j := 1) rfl ?_
  refine l_aload_n hX dL_law_867 (i := 0) rfl (j := 0) rfl ?_
  refine l_iload_n hX dL_law_868 (i := 3) rfl (j := 3) rfl ?_
  refine l_iconst (v := nI 1) hX dL_law_869 (by decide) ?_
  refine l_iadd (v := nI (i + 1)) hX dL_law_870 (nI_add i 1) ?_
  refine l_sld hX hO dL_law_871 (s_in hi7 hL (by decide)) ?_
  refine l_aload_n hX dL_law_872 (i := 0) rfl (j := 0) rfl ?_
  refine l_iload_n hX dL_law_873 (i := 3) rfl (j := 3) rfl ?_
  refine l_iconst (v := nI 2) hX dL_law_874 (by decide) ?_
  refine l_iadd (v := nI (i + 2)) hX dL_law_875 (nI_add i 2) ?_
  refine l_sld hX hO dL_law_876 (s_in hi7 hL (by decide)) ?_
  refine l_aload_n hX dL_law_877 (i := 0) rfl (j := 0) rfl ?_
  refine l_iload_n hX dL_law_878 (i := 3) rfl (j := 3) rfl ?_
  refine l_iconst (v := nI 3) hX dL_law_879 (by decide) ?_
  refine l_iadd (v := nI (i + 3)) hX dL_law_880 (nI_add i 3) ?_
  refine l_sld hX hO dL_law_881 (s_in hi7 hL (by decide)) ?_
  refine l_callA (As := [.int (xs (nI (i + 1)).toNatClampNeg), .int (xs (nI (i + 2)).toNatClampNeg), .int (xs (nI (i + 3)).toNatClampNeg)]) (rest := []) hX hI hO dL_law_882 (ctX7_chance (b := b) (N := MA) (sz := b + 221) (Nat.le_refl _) WT_A (fun _ h => h) 1 (xs (nI (i + 1)).toNatClampNeg) (xs (nI (i + 2)).toNatClampNeg) (xs (nI (i + 3)).toNatClampNeg) ⟨rfl, show KA 1 < 16 by decide⟩ eA) (by decide) (by decide) wm_L_99 wi_X7_chance ws_X7_chance wc_X7_chance hyX7_chance rfl (Nat.le_of_ble_eq_true rfl) rfl ?_
  refine l_aload_n hX dL_law_885 (i := 2) rfl (j := 2) rfl ?_
  refine l_aload_n hX dL_law_886 (i := 0) rfl (j := 0) rfl ?_
  refine l_iload_n hX dL_law_887 (i := 3) rfl (j := 3) rfl ?_
  refine l_iconst (v := nI 1) hX dL_law_888 (by decide) ?_
  refine l_iadd (v := nI (i + 1)) hX dL_law_889 (nI_add i 1) ?_
  refine l_sld hX hO dL_law_890 (s_in hi7 hL (by decide)) ?_
  refine l_aload_n hX dL_law_891 (i := 0) rfl (j := 0) rfl ?_
  refine l_iload_n hX dL_law_892 (i := 3) rfl (j := 3) rfl ?_
  refine l_iconst (v := nI 2) hX dL_law_893 (by decide) ?_
  refine l_iadd (v := nI (i + 2)) hX dL_law_894 (nI_add i 2) ?_
  refine l_sld hX hO dL_law_895 (s_in hi7 hL (by decide)) ?_
  refine l_aload_n hX dL_law_896 (i := 0) rfl (j := 0) rfl ?_
  refine l_iload_n hX dL_law_897 (i := 3) rfl (j := 3) rfl ?_
  refine l_iconst (v := nI 3) hX dL_law_898 (by decide) ?_
  refine l_iadd (v := nI (i + 3)) hX dL_law_899 (nI_add i 3) ?_
  refine l_sld hX hO dL_law_900 (s_in hi7 hL (by decide)) ?_
  refine l_callM (As := [.int (xs (nI (i + 1)).toNatClampNeg), .int (xs (nI (i + 2)).toNatClampNeg), .int (xs (nI (i + 3)).toNatClampNeg)]) (rest := [.int v]) hX hI hO dL_law_901 (ctX8_chance (b := b + 128) (N := MM) (sz := b + 221) (Nat.le_refl _) WT_M 1 (xs (nI (i + 1)).toNatClampNeg) (xs (nI (i + 2)).toNatClampNeg) (xs (nI (i + 3)).toNatClampNeg) ⟨rfl, show KM 1 < 16 by decide⟩ eM) (by decide) (by decide) wm_L_102 wi_X8_chance ws_X8_chance wc_X8_chance hyX8_chance rfl (Nat.le_of_ble_eq_true rfl) rfl ?_
  refine l_eq (tgt := 1193) hX dL_law_904 (by decide) ?_
  exact kk _ _ hI2
set_option maxRecDepth 100000 in
set_option maxHeartbeats 4000000 in
theorem lw_tells {X : XT} {b bs L0 : Nat} {xs : Nat → Int32} (hX : XOK X RL code 4 1300) (hI : XI X 600000 7302250) (hO : LOK X b bs L0 xs) (hL : L0 ≤ 3584) {Inv : HH → HH → Prop} (hs : S_tells Inv) {i : Nat} (hi7 : i + 7 ≤ L0) {hA hM : HH} (hv : Inv hA hM) (kk : ∀ hA' hM', Inv hA' hM' → GL X b 1193 [(0, .ref bs), (1, .ref (b + 1)), (2, .ref (b + 128 + 1)), (3, .int (nI i))] [] hA' hM') : GL X b 909 [(0, .ref bs), (1, .ref (b + 1)), (2, .ref (b + 128 + 1)), (3, .int (nI i))] [] hA hM := by
  obtain ⟨v, hA', hM', eA, eM, hI2⟩ := hs hA hM hv (xs (nI (i + 1)).toNatClampNeg) (xs (nI (i + 2)).toNatClampNeg) (xs (nI (i + 3)).toNatClampNeg)
  refine l_aload_n hX dL_law_909 (i := 1) rfl (j := 1) rfl ?_
  refine l_aload_n hX dL_law_910 (i := 0) rfl (j := 0) rfl ?_
  refine l_iload_n hX dL_law_911 (i := 3) rfl (j := 3) rfl ?_
  refine l_iconst (v := nI 1) hX dL_law_912 (by decide) ?_
  refine l_iadd (v := nI (i + 1)) hX dL_law_913 (nI_add i 1) ?_
  refine l_sld hX hO dL_law_914 (s_in hi7 hL (by decide)) ?_
  refine l_aload_n hX dL_law_915 (i := 0) rfl (j := 0) rfl ?_
  refine l_iload_n hX dL_law_916 (i := 3) rfl (j := 3) rfl ?_
  refine l_iconst (v := nI 2) hX dL_law_917 (by decide) ?_
  refine l_iadd (v := nI (i + 2)) hX dL_law_918 (nI_add i 2) ?_
  refine l_sld hX hO dL_law_919 (s_in hi7 hL (by decide)) ?_
  refine l_aload_n hX dL_law_920 (i := 0) rfl (j := 0) rfl ?_
  refine l_iload_n hX dL_law_921 (i := 3) rfl (j := 3) rfl ?_
  refine l_iconst (v := nI 3) hX dL_law_922 (by decide) ?_
  refine l_iadd (v := nI (i + 3)) hX dL_law_923 (nI_add i 3) ?_
  refine l_sld hX hO dL_law_924 (s_in hi7 hL (by decide)) ?_
  refine l_callA (As := [.int (xs (nI (i + 1)).toNatClampNeg), .int (xs (nI (i + 2)).toNatClampNeg), .int (xs (nI (i + 3)).toNatClampNeg)]) (rest := []) hX hI hO dL_law_925 (ctX7_tells (b := b) (N := MA) (sz := b + 221) (Nat.le_refl _) WT_A (fun _ h => h) 1 (xs (nI (i + 1)).toNatClampNeg) (xs (nI (i + 2)).toNatClampNeg) (xs (nI (i + 3)).toNatClampNeg) ⟨rfl, show KA 1 < 16 by decide⟩ eA) (by decide) (by decide) wm_L_103 wi_X7_tells ws_X7_tells wc_X7_tells hyX7_tells rfl (Nat.le_of_ble_eq_true rfl) rfl ?_
  refine l_aload_n hX dL_law_928 (i := 2) rfl (j := 2) rfl ?_
  refine l_aload_n hX dL_law_929 (i := 0) rfl (j := 0) rfl ?_
  refine l_iload_n hX dL_law_930 (i := 3) rfl (j := 3) rfl ?_
  refine l_iconst (v := nI 1) hX dL_law_931 (by decide) ?_
  refine l_iadd (v := nI (i + 1)) hX dL_law_932 (nI_add i 1) ?_
  refine l_sld hX hO dL_law_933 (s_in hi7 hL (by decide)) ?_
  refine l_aload_n hX dL_law_934 (i := 0) rfl (j := 0) rfl ?_
  refine l_iload_n hX dL_law_935 (i := 3) rfl (j := 3) rfl ?_
  refine l_iconst (v := nI 2) hX dL_law_936 (by decide) ?_
  refine l_iadd (v := nI (i + 2)) hX dL_law_937 (nI_add i 2) ?_
  refine l_sld hX hO dL_law_938 (s_in hi7 hL (by decide)) ?_
  refine l_aload_n hX dL_law_939 (i := 0) rfl (j := 0) rfl ?_
  refine l_iload_n hX dL_law_940 (i := 3) rfl (j := 3) rfl ?_
  refine l_iconst (v := nI 3) hX dL_law_941 (by decide) ?_
  refine l_iadd (v := nI (i + 3)) hX dL_law_942 (nI_add i 3) ?_
  refine l_sld hX hO dL_law_943 (s_in hi7 hL (by decide)) ?_
  refine l_callM (As := [.int (xs (nI (i + 1)).toNatClampNeg), .int (xs (nI (i + 2)).toNatClampNeg), .int (xs (nI (i + 3)).toNatClampNeg)]) (rest := [.int v]) hX hI hO dL_law_944 (ctX8_tells (b := b + 128) (N := MM) (sz := b + 221) (Nat.le_refl _) WT_M 1 (xs (nI (i + 1)).toNatClampNeg) (xs (nI (i + 2)).toNatClampNeg) (xs (nI (i + 3)).toNatClampNeg) ⟨rfl, show KM 1 < 16 by decide⟩ eM) (by decide) (by decide) wm_L_106 wi_X8_tells ws_X8_tells wc_X8_tells hyX8_tells rfl (Nat.le_of_ble_eq_true rfl) rfl ?_
  refine l_eq (tgt := 1193) hX dL_law_947 (by decide) ?_
  exact kk _ _ hI2
set_option maxRecDepth 100000 in
set_option maxHeartbeats 4000000 in
theorem lw_film {X : XT} {b bs L0 : Nat} {xs : Nat → Int32} (hX : XOK X RL code 4 1300) (hI : XI X 600000 7302250) (hO : LOK X b bs L0 xs) (hL : L0 ≤ 3584) {Inv : HH → HH → Prop} (hs : S_film Inv) {i : Nat} (hi7 : i + 7 ≤ L0) {hA hM : HH} (hv : Inv hA hM) (kk : ∀ hA' hM', Inv hA' hM' → GL X b 1193 [(0, .ref bs), (1, .ref (b + 1)), (2, .ref (b + 128 + 1)), (3, .int (nI i))] [] hA' hM') : GL X b 952 [(0, .ref bs), (1, .ref (b + 1)), (2, .ref (b + 128 + 1)), (3, .int (nI i))] [] hA hM := by
  obtain ⟨v, hA', hM', eA, eM, hI2⟩ := hs hA hM hv (xs (nI (i + 1)).toNatClampNeg) (xs (nI (i + 2)).toNatClampNeg) (xs (nI (i + 3)).toNatClampNeg)
  refine l_aload_n hX dL_law_952 (i := 1) rfl (j := 1) rfl ?_
  refine l_aload_n hX dL_law_953 (i := 0) rfl (j := 0) rfl ?_
  refine l_iload_n hX dL_law_954 (i := 3) rfl (j := 3) rfl ?_
  refine l_iconst (v := nI 1) hX dL_law_955 (by decide) ?_
  refine l_iadd (v := nI (i + 1)) hX dL_law_956 (nI_add i 1) ?_
  refine l_sld hX hO dL_law_957 (s_in hi7 hL (by decide)) ?_
  refine l_aload_n hX dL_law_958 (i := 0) rfl (j := 0) rfl ?_
  refine l_iload_n hX dL_law_959 (i := 3) rfl (j := 3) rfl ?_
  refine l_iconst (v := nI 2) hX dL_law_960 (by decide) ?_
  refine l_iadd (v := nI (i + 2)) hX dL_law_961 (nI_add i 2) ?_
  refine l_sld hX hO dL_law_962 (s_in hi7 hL (by decide)) ?_
  refine l_aload_n hX dL_law_963 (i := 0) rfl (j := 0) rfl ?_
  refine l_iload_n hX dL_law_964 (i := 3) rfl (j := 3) rfl ?_
  refine l_iconst (v := nI 3) hX dL_law_965 (by decide) ?_
  refine l_iadd (v := nI (i + 3)) hX dL_law_966 (nI_add i 3) ?_
  refine l_sld hX hO dL_law_967 (s_in hi7 hL (by decide)) ?_
  refine l_callA (As := [.int (xs (nI (i + 1)).toNatClampNeg), .int (xs (nI (i + 2)).toNatClampNeg), .int (xs (nI (i + 3)).toNatClampNeg)]) (rest := []) hX hI hO dL_law_968 (ctX7_film (b := b) (N := MA) (sz := b + 221) (Nat.le_refl _) WT_A 1 (xs (nI (i + 1)).toNatClampNeg) (xs (nI (i + 2)).toNatClampNeg) (xs (nI (i + 3)).toNatClampNeg) ⟨rfl, show KA 1 < 16 by decide⟩ eA) (by decide) (by decide) wm_L_107 wi_X7_film ws_X7_film wc_X7_film hyX7_film rfl (Nat.le_of_ble_eq_true rfl) rfl ?_
  refine l_aload_n hX dL_law_971 (i := 2) rfl (j := 2) rfl ?_
  refine l_aload_n hX dL_law_972 (i := 0) rfl (j := 0) rfl ?_
  refine l_iload_n hX dL_law_973 (i := 3) rfl (j := 3) rfl ?_
  refine l_iconst (v := nI 1) hX dL_law_974 (by decide) ?_
  refine l_iadd (v := nI (i + 1)) hX dL_law_975 (nI_add i 1) ?_
  refine l_sld hX hO dL_law_976 (s_in hi7 hL (by decide)) ?_
  refine l_aload_n hX dL_law_977 (i := 0) rfl (j := 0) rfl ?_
  refine l_iload_n hX dL_law_978 (i := 3) rfl (j := 3) rfl ?_
  refine l_iconst (v := nI 2) hX dL_law_979 (by decide) ?_
  refine l_iadd (v := nI (i + 2)) hX dL_law_980 (nI_add i 2) ?_
  refine l_sld hX hO dL_law_981 (s_in hi7 hL (by decide)) ?_
  refine l_aload_n hX dL_law_982 (i := 0) rfl (j := 0) rfl ?_
  refine l_iload_n hX dL_law_983 (i := 3) rfl (j := 3) rfl ?_
  refine l_iconst (v := nI 3) hX dL_law_984 (by decide) ?_
  refine l_iadd (v := nI (i + 3)) hX dL_law_985 (nI_add i 3) ?_
  refine l_sld hX hO dL_law_986 (s_in hi7 hL (by decide)) ?_
  refine l_callM (As := [.int (xs (nI (i + 1)).toNatClampNeg), .int (xs (nI (i + 2)).toNatClampNeg), .int (xs (nI (i + 3)).toNatClampNeg)]) (rest := [.int v]) hX hI hO dL_law_987 (ctX8_film (b := b + 128) (N := MM) (sz := b + 221) (Nat.le_refl _) WT_M 1 (xs (nI (i + 1)).toNatClampNeg) (xs (nI (i + 2)).toNatClampNeg) (xs (nI (i + 3)).toNatClampNeg) ⟨rfl, show KM 1 < 16 by decide⟩ eM) (by decide) (by decide) wm_L_110 wi_X8_film ws_X8_film wc_X8_film hyX8_film rfl (Nat.le_of_ble_eq_true rfl) rfl ?_
  refine l_eq (tgt := 1193) hX dL_law_990 (by decide) ?_
  exact kk _ _ hI2
set_option maxRecDepth 100000 in
set_option maxHeartbeats 4000000 in
theorem lw_image {X : XT} {b bs L0 : Nat} {xs : Nat → Int32} (hX : XOK X RL code 4 1300) (hI : XI X 600000 7302250) (hO : LOK X b bs L0 xs) (hL : L0 ≤ 3584) {Inv : HH → HH → Prop} (hs : S_image Inv) {i : Nat} (hi7 : i + 7 ≤ L0) {hA hM : HH} (hv : Inv hA hM) (kk : ∀ hA' hM', Inv hA' hM' → GL X b 1193 [(0, .ref bs), (1, .ref (b + 1)), (2, .ref (b + 128 + 1)), (3, .int (nI i))] [] hA' hM') : GL X b 995 [(0, .ref bs), (1, .ref (b + 1)), (2, .ref (b + 128 + 1)), (3, .int (nI i))] [] hA hM := by
  obtain ⟨v, hA', hM', eA, eM, hI2⟩ := hs hA hM hv
  refine l_aload_n hX dL_law_995 (i := 1) rfl (j := 1) rfl ?_
  refine l_callA (As := []) (rest := []) hX hI hO dL_law_996 (ctX7_image (b := b) (N := MA) (sz := b + 221) (Nat.le_refl _) WT_A 1 ⟨rfl, show KA 1 < 16 by decide⟩ eA) (by decide) (by decide) wm_L_111 wi_X7_image ws_X7_image wc_X7_image hyX7_image rfl (Nat.le_of_ble_eq_true rfl) rfl ?_
  refine l_aload_n hX dL_law_999 (i := 2) rfl (j := 2) rfl ?_
  refine l_callM (As := []) (rest := [.int v]) hX hI hO dL_law_1000 (ctX8_image (b := b + 128) (N := MM) (sz := b + 221) (Nat.le_refl _) WT_M 1 ⟨rfl, show KM 1 < 16 by decide⟩ eM) (by decide) (by decide) wm_L_114 wi_X8_image ws_X8_image wc_X8_image hyX8_image rfl (Nat.le_of_ble_eq_true rfl) rfl ?_
  refine l_eq (tgt := 1193) hX dL_law_1003 (by decide) ?_
  exact kk _ _ hI2
set_option maxRecDepth 100000 in
set_option maxHeartbeats 4000000 in
theorem lw_back {X : XT} {b bs L0 : Nat} {xs : Nat → Int32} (hX : XOK X RL code 4 1300) (hI : XI X 600000 7302250) (hO : LOK X b bs L0 xs) (hL : L0 ≤ 3584) {Inv : HH → HH → Prop} (hs : S_back Inv) {i : Nat} (hi7 : i + 7 ≤ L0) {hA hM : HH} (hv : Inv hA hM) (kk : ∀ hA' hM', Inv hA' hM' → GL X b 1193 [(0, .ref bs), (1, .ref (b + 1)), (2, .ref (b + 128 + 1)), (3, .int (nI i))] [] hA' hM') : GL X b 1008 [(0, .ref bs), (1, .ref (b + 1)), (2, .ref (b + 128 + 1)), (3, .int (nI i))] [] hA hM := by
  obtain ⟨v, hA', hM', eA, eM, hI2⟩ := hs hA hM hv
  refine l_aload_n hX dL_law_1008 (i := 1) rfl (j := 1) rfl ?_
  refine l_callA (As := []) (rest := []) hX hI hO dL_law_1009 (ctX7_back (b := b) (N := MA) (sz := b + 221) (Nat.le_refl _) WT_A 1 ⟨rfl, show KA 1 < 16 by decide⟩ eA) (by decide) (by decide) wm_L_115 wi_X7_back ws_X7_back wc_X7_back hyX7_back rfl (Nat.le_of_ble_eq_true rfl) rfl ?_
  refine l_aload_n hX dL_law_1012 (i := 2) rfl (j := 2) rfl ?_
  refine l_callM (As := []) (rest := [.int v]) hX hI hO dL_law_1013 (ctX8_back (b := b + 128) (N := MM) (sz := b + 221) (Nat.le_refl _) WT_M 1 ⟨rfl, show KM 1 < 16 by decide⟩ eM) (by decide) (by decide) wm_L_118 wi_X8_back ws_X8_back wc_X8_back hyX8_back rfl (Nat.le_of_ble_eq_true rfl) rfl ?_
  refine l_eq (tgt := 1193) hX dL_law_1016 (by decide) ?_
  exact kk _ _ hI2
set_option maxRecDepth 100000 in
set_option maxHeartbeats 4000000 in
theorem lw_count {X : XT} {b bs L0 : Nat} {xs : Nat → Int32} (hX : XOK X RL code 4 1300) (hI : XI X 600000 7302250) (hO : LOK X b bs L0 xs) (hL : L0 ≤ 3584) {Inv : HH → HH → Prop} (hs : S_count Inv) {i : Nat} (hi7 : i + 7 ≤ L0) {hA hM : HH} (hv : Inv hA hM) (kk : ∀ hA' hM', Inv hA' hM' → GL X b 1193 [(0, .ref bs), (1, .ref (b + 1)), (2, .ref (b + 128 + 1)), (3, .int (nI i))] [] hA' hM') : GL X b 1021 [(0, .ref bs), (1, .ref (b + 1)), (2, .ref (b + 128 + 1)), (3, .int (nI i))] [] hA hM := by
  obtain ⟨v, eA, eM, hI2⟩ := hs hA hM hv (xs (nI (i + 1)).toNatClampNeg)
  refine l_aload_n hX dL_law_1021 (i := 1) rfl (j := 1) rfl ?_
  refine l_aload_n hX dL_law_1022 (i := 0) rfl (j := 0) rfl ?_
  refine l_iload_n hX dL_law_1023 (i := 3) rfl (j := 3) rfl ?_
  refine l_iconst (v := nI 1) hX dL_law_1024 (by decide) ?_
  refine l_iadd (v := nI (i + 1)) hX dL_law_1025 (nI_add i 1) ?_
  refine l_sld hX hO dL_law_1026 (s_in hi7 hL (by decide)) ?_
  refine l_callA (As := [.int (xs (nI (i + 1)).toNatClampNeg)]) (rest := []) hX hI hO dL_law_1027 (ctX7_count (b := b) (N := MA) (sz := b + 221) (Nat.le_refl _) WT_A 1 (xs (nI (i + 1)).toNatClampNeg) ⟨rfl, show KA 1 < 16 by decide⟩ eA) (by decide) (by decide) wm_L_119 wi_X7_count ws_X7_count wc_X7_count hyX7_count rfl (Nat.le_of_ble_eq_true rfl) rfl ?_
  refine l_aload_n hX dL_law_1030 (i := 2) rfl (j := 2) rfl ?_
  refine l_aload_n hX dL_law_1031 (i := 0) rfl (j := 0) rfl ?_
  refine l_iload_n hX dL_law_1032 (i := 3) rfl (j := 3) rfl ?_
  refine l_iconst (v := nI 1) hX dL_law_1033 (by decide) ?_
  refine l_iadd (v := nI (i + 1)) hX dL_law_1034 (nI_add i 1) ?_
  refine l_sld hX hO dL_law_1035 (s_in hi7 hL (by decide)) ?_
  refine l_callM (As := [.int (xs (nI (i + 1)).toNatClampNeg)]) (rest := [.int v]) hX hI hO dL_law_1036 (ctX8_count (b := b + 128) (N := MM) (sz := b + 221) (Nat.le_refl _) WT_M 1 (xs (nI (i + 1)).toNatClampNeg) ⟨rfl, show KM 1 < 16 by decide⟩ eM) (by decide) (by decide) wm_L_122 wi_X8_count ws_X8_count wc_X8_count hyX8_count rfl (Nat.le_of_ble_eq_true rfl) rfl ?_
  refine l_eq (tgt := 1193) hX dL_law_1039 (by decide) ?_
  exact kk _ _ hI2
set_option maxRecDepth 100000 in
set_option maxHeartbeats 4000000 in
theorem lw_sheet {X : XT} {b bs L0 : Nat} {xs : Nat → Int32} (hX : XOK X RL code 4 1300) (hI : XI X 600000 7302250) (hO : LOK X b bs L0 xs) (hL : L0 ≤ 3584) {Inv : HH → HH → Prop} (hs : S_sheet Inv) {i : Nat} (hi7 : i + 7 ≤ L0) {hA hM : HH} (hv : Inv hA hM) (kk : ∀ hA' hM', Inv hA' hM' → GL X b 1193 [(0, .ref bs), (1, .ref (b + 1)), (2, .ref (b + 128 + 1)), (3, .int (nI i))] [] hA' hM') : GL X b 1044 [(0, .ref bs), (1, .ref (b + 1)), (2, .ref (b + 128 + 1)), (3, .int (nI i))] [] hA hM := by
  obtain ⟨v, hA', hM', eA, eM, hI2⟩ := hs hA hM hv (xs (nI (i + 1)).toNatClampNeg) (xs (nI (i + 2)).toNatClampNeg) (xs (nI (i + 3)).toNatClampNeg)
  refine l_aload_n hX dL_law_1044 (i := 1) rfl (j := 1) rfl ?_
  refine l_aload_n hX dL_law_1045 (i := 0) rfl (j := 0) rfl ?_
  refine l_iload_n hX dL_law_1046 (i := 3) rfl (j := 3) rfl ?_
  refine l_iconst (v := nI 1) hX dL_law_1047 (by decide) ?_
  refine l_iadd (v := nI (i + 1)) hX dL_law_1048 (nI_add i 1) ?_
  refine l_sld hX hO dL_law_1049 (s_in hi7 hL (by decide)) ?_
  refine l_aload_n hX dL_law_1050 (i := 0) rfl (j := 0) rfl ?_
  refine l_iload_n hX dL_law_1051 (i := 3) rfl (j := 3) rfl ?_
  refine l_iconst (v := nI 2) hX dL_law_1052 (by decide) ?_
  refine l_iadd (v := nI (i + 2)) hX dL_law_1053 (nI_add i 2) ?_
  refine l_sld hX hO dL_law_1054 (s_in hi7 hL (by decide)) ?_
  refine l_aload_n hX dL_law_1055 (i := 0) rfl (j := 0) rfl ?_
  refine l_iload_n hX dL_law_1056 (i := 3) rfl (j := 3) rfl ?_
  refine l_iconst (v := nI 3) hX dL_law_1057 (by decide) ?_
  refine l_iadd (v := nI (i + 3)) hX dL_law_1058 (nI_add i 3) ?_
  refine l_sld hX hO dL_law_1059 (s_in hi7 hL (by decide)) ?_
  refine l_callA (As := [.int (xs (nI (i + 1)).toNatClampNeg), .int (xs (nI (i + 2)).toNatClampNeg), .int (xs (nI (i + 3)).toNatClampNeg)]) (rest := []) hX hI hO dL_law_1060 (ctX7_sheet (b := b) (N := MA) (sz := b + 221) (Nat.le_refl _) WT_A 1 (xs (nI (i + 1)).toNatClampNeg) (xs (nI (i + 2)).toNatClampNeg) (xs (nI (i + 3)).toNatClampNeg) ⟨rfl, show KA 1 < 16 by decide⟩ eA) (by decide) (by decide) wm_L_123 wi_X7_sheet ws_X7_sheet wc_X7_sheet hyX7_sheet rfl (Nat.le_of_ble_eq_true rfl) rfl ?_
  refine l_aload_n hX dL_law_1063 (i := 2) rfl (j := 2) rfl ?_
  refine l_aload_n hX dL_law_1064 (i := 0) rfl (j := 0) rfl ?_
  refine l_iload_n hX dL_law_1065 (i := 3) rfl (j := 3) rfl ?_
  refine l_iconst (v := nI 1) hX dL_law_1066 (by decide) ?_
  refine l_iadd (v := nI (i + 1)) hX dL_law_1067 (nI_add i 1) ?_
  refine l_sld hX hO dL_law_1068 (s_in hi7 hL (by decide)) ?_
  refine l_aload_n hX dL_law_1069 (i := 0) rfl (j := 0) rfl ?_
  refine l_iload_n hX dL_law_1070 (i := 3) rfl (j := 3) rfl ?_
  refine l_iconst (v := nI 2) hX dL_law_1071 (by decide) ?_
  refine l_iadd (v := nI (i + 2)) hX dL_law_1072 (nI_add i 2) ?_
  refine l_sld hX hO dL_law_1073 (s_in hi7 hL (by decide)) ?_
  refine l_aload_n hX dL_law_1074 (i := 0) rfl (j := 0) rfl ?_
  refine l_iload_n hX dL_law_1075 (i := 3) rfl (j := 3) rfl ?_
  refine l_iconst (v := nI 3) hX dL_law_1076 (by decide) ?_
  refine l_iadd (v := nI (i + 3)) hX dL_law_1077 (nI_add i 3) ?_
  refine l_sld hX hO dL_law_1078 (s_in hi7 hL (by decide)) ?_
  refine l_callM (As := [.int (xs (nI (i + 1)).toNatClampNeg), .int (xs (nI (i + 2)).toNatClampNeg), .int (xs (nI (i + 3)).toNatClampNeg)]) (rest := [.int v]) hX hI hO dL_law_1079 (ctX8_sheet (b := b + 128) (N := MM) (sz := b + 221) (Nat.le_refl _) WT_M 1 (xs (nI (i + 1)).toNatClampNeg) (xs (nI (i + 2)).toNatClampNeg) (xs (nI (i + 3)).toNatClampNeg) ⟨rfl, show KM 1 < 16 by decide⟩ eM) (by decide) (by decide) wm_L_126 wi_X8_sheet ws_X8_sheet wc_X8_sheet hyX8_sheet rfl (Nat.le_of_ble_eq_true rfl) rfl ?_
  refine l_eq (tgt := 1193) hX dL_law_1082 (by decide) ?_
  exact kk _ _ hI2
set_option maxRecDepth 100000 in
set_option maxHeartbeats 4000000 in
theorem lw_cell {X : XT} {b bs L0 : Nat} {xs : Nat → Int32} (hX : XOK X RL code 4 1300) (hI : XI X 600000 7302250) (hO : LOK X b bs L0 xs) (hL : L0 ≤ 3584) {Inv : HH → HH → Prop} (hs : S_cell Inv) {i : Nat} (hi7 : i + 7 ≤ L0) {hA hM : HH} (hv : Inv hA hM) (kk : ∀ hA' hM', Inv hA' hM' → GL X b 1193 [(0, .ref bs), (1, .ref (b + 1)), (2, .ref (b + 128 + 1)), (3, .int (nI i))] [] hA' hM') : GL X b 1087 [(0, .ref bs), (1, .ref (b + 1)), (2, .ref (b + 128 + 1)), (3, .int (nI i))] [] hA hM := by
  obtain ⟨v, hA', hM', eA, eM, hI2⟩ := hs hA hM hv (xs (nI (i + 1)).toNatClampNeg) (xs (nI (i + 2)).toNatClampNeg) (xs (nI (i + 3)).toNatClampNeg)
  refine l_aload_n hX dL_law_1087 (i := 1) rfl (j := 1) rfl ?_
  refine l_aload_n hX dL_law_1088 (i := 0) rfl (j := 0) rfl ?_
  refine l_iload_n hX dL_law_1089 (i := 3) rfl (j := 3) rfl ?_
  refine l_iconst (v := nI 1) hX dL_law_1090 (by decide) ?_
  refine l_iadd (v := nI (i + 1)) hX dL_law_1091 (nI_add i 1) ?_
  refine l_sld hX hO dL_law_1092 (s_in hi7 hL (by decide)) ?_
  refine l_aload_n hX dL_law_1093 (i := 0) rfl (j := 0) rfl ?_
  refine l_iload_n hX dL_law_1094 (i := 3) rfl (j := 3) rfl ?_
  refine l_iconst (v := nI 2) hX dL_law_1095 (by decide) ?_
  refine l_iadd (v := nI (i + 2)) hX dL_law_1096 (nI_add i 2) ?_
  refine l_sld hX hO dL_law_1097 (s_in hi7 hL (by decide)) ?_
  refine l_aload_n hX dL_law_1098 (i := 0) rfl (j := 0) rfl ?_
  refine l_iload_n hX dL_law_1099 (i := 3) rfl (j := 3) rfl ?_
  refine l_iconst (v := nI 3) hX dL_law_1100 (by decide) ?_
  refine l_iadd (v := nI (i + 3)) hX dL_law_1101 (nI_add i 3) ?_
  refine l_sld hX hO dL_law_1102 (s_in hi7 hL (by decide)) ?_
  refine l_callA (As := [.int (xs (nI (i + 1)).toNatClampNeg), .int (xs (nI (i + 2)).toNatClampNeg), .int (xs (nI (i + 3)).toNatClampNeg)]) (rest := []) hX hI hO dL_law_1103 (ctX7_cell (b := b) (N := MA) (sz := b + 221) (Nat.le_refl _) WT_A 1 (xs (nI (i + 1)).toNatClampNeg) (xs (nI (i + 2)).toNatClampNeg) (xs (nI (i + 3)).toNatClampNeg) ⟨rfl, show KA 1 < 16 by decide⟩ eA) (by decide) (by decide) wm_L_127 wi_X7_cell ws_X7_cell wc_X7_cell hyX7_cell rfl (Nat.le_of_ble_eq_true rfl) rfl ?_
  refine l_aload_n hX dL_law_1106 (i := 2) rfl (j := 2) rfl ?_
  refine l_aload_n hX dL_law_1107 (i := 0) rfl (j := 0) rfl ?_
  refine l_iload_n hX dL_law_1108 (i := 3) rfl (j := 3) rfl ?_
  refine l_iconst (v := nI 1) hX dL_law_1109 (by decide) ?_
  refine l_iadd (v := nI (i + 1)) hX dL_law_1110 (nI_add i 1) ?_
  refine l_sld hX hO dL_law_1111 (s_in hi7 hL (by decide)) ?_
  refine l_aload_n hX dL_law_1112 (i := 0) rfl (j := 0) rfl ?_
  refine l_iload_n hX dL_law_1113 (i := 3) rfl (j := 3) rfl ?_
  refine l_iconst (v := nI 2) hX dL_law_1114 (by decide) ?_
  refine l_iadd (v := nI (i + 2)) hX dL_law_1115 (nI_add i 2) ?_
  refine l_sld hX hO dL_law_1116 (s_in hi7 hL (by decide)) ?_
  refine l_aload_n hX dL_law_1117 (i := 0) rfl (j := 0) rfl ?_
  refine l_iload_n hX dL_law_1118 (i := 3) rfl (j := 3) rfl ?_
  refine l_iconst (v := nI 3) hX dL_law_1119 (by decide) ?_
  refine l_iadd (v := nI (i + 3)) hX dL_law_1120 (nI_add i 3) ?_
  refine l_sld hX hO dL_law_1121 (s_in hi7 hL (by decide)) ?_
  refine l_callM (As := [.int (xs (nI (i + 1)).toNatClampNeg), .int (xs (nI (i + 2)).toNatClampNeg), .int (xs (nI (i + 3)).toNatClampNeg)]) (rest := [.int v]) hX hI hO dL_law_1122 (ctX8_cell (b := b + 128) (N := MM) (sz := b + 221) (Nat.le_refl _) WT_M 1 (xs (nI (i + 1)).toNatClampNeg) (xs (nI (i + 2)).toNatClampNeg) (xs (nI (i + 3)).toNatClampNeg) ⟨rfl, show KM 1 < 16 by decide⟩ eM) (by decide) (by decide) wm_L_130 wi_X8_cell ws_X8_cell wc_X8_cell hyX8_cell rfl (Nat.le_of_ble_eq_true rfl) rfl ?_
  refine l_eq (tgt := 1193) hX dL_law_1125 (by decide) ?_
  exact kk _ _ hI2
set_option maxRecDepth 100000 in
set_option maxHeartbeats 4000000 in
theorem lw_copy {X : XT} {b bs L0 : Nat} {xs : Nat → Int32} (hX : XOK X RL code 4 1300) (hI : XI X 600000 7302250) (hO : LOK X b bs L0 xs) (hL : L0 ≤ 3584) {Inv : HH → HH → Prop} (hs : S_copy Inv) {i : Nat} (hi7 : i + 7 ≤ L0) {hA hM : HH} (hv : Inv hA hM) (kk : ∀ hA' hM', Inv hA' hM' → GL X b 1193 [(0, .ref bs), (1, .ref (b + 1)), (2, .ref (b + 128 + 1)), (3, .int (nI i))] [] hA' hM') : GL X b 1130 [(0, .ref bs), (1, .ref (b + 1)), (2, .ref (b + 128 + 1)), (3, .int (nI i))] [] hA hM := by
  obtain ⟨v, hA', hM', eA, eM, hI2⟩ := hs hA hM hv (xs (nI (i + 1)).toNatClampNeg) (xs (nI (i + 2)).toNatClampNeg) (xs (nI (i + 3)).toNatClampNeg) (xs (nI (i + 4)).toNatClampNeg) (xs (nI (i + 5)).toNatClampNeg)
  refine l_aload_n hX dL_law_1130 (i := 1) rfl (j := 1) rfl ?_
  refine l_aload_n hX dL_law_1131 (i := 0) rfl (j := 0) rfl ?_
  refine l_iload_n hX dL_law_1132 (i := 3) rfl (j := 3) rfl ?_
  refine l_iconst (v := nI 1) hX dL_law_1133 (by decide) ?_
  refine l_iadd (v := nI (i + 1)) hX dL_law_1134 (nI_add i 1) ?_
  refine l_sld hX hO dL_law_1135 (s_in hi7 hL (by decide)) ?_
  refine l_aload_n hX dL_law_1136 (i := 0) rfl (j := 0) rfl ?_
  refine l_iload_n hX dL_law_1137 (i := 3) rfl (j := 3) rfl ?_
  refine l_iconst (v := nI 2) hX dL_law_1138 (by decide) ?_
  refine l_iadd (v := nI (i + 2)) hX dL_law_1139 (nI_add i 2) ?_
  refine l_sld hX hO dL_law_1140 (s_in hi7 hL (by decide)) ?_
  refine l_aload_n hX dL_law_1141 (i := 0) rfl (j := 0) rfl ?_
  refine l_iload_n hX dL_law_1142 (i := 3) rfl (j := 3) rfl ?_
  refine l_iconst (v := nI 3) hX dL_law_1143 (by decide) ?_
  refine l_iadd (v := nI (i + 3)) hX dL_law_1144 (nI_add i 3) ?_
  refine l_sld hX hO dL_law_1145 (s_in hi7 hL (by decide)) ?_
  refine l_aload_n hX dL_law_1146 (i := 0) rfl (j := 0) rfl ?_
  refine l_iload_n hX dL_law_1147 (i := 3) rfl (j := 3) rfl ?_
  refine l_iconst (v := nI 4) hX dL_law_1148 (by decide) ?_
  refine l_iadd (v := nI (i + 4)) hX dL_law_1149 (nI_add i 4) ?_
  refine l_sld hX hO dL_law_1150 (s_in hi7 hL (by decide)) ?_
  refine l_aload_n hX dL_law_1151 (i := 0) rfl (j := 0) rfl ?_
  refine l_iload_n hX dL_law_1152 (i := 3) rfl (j := 3) rfl ?_
  refine l_iconst (v := nI 5) hX dL_law_1153 (by decide) ?_
  refine l_iadd (v := nI (i + 5)) hX dL_law_1154 (nI_add i 5) ?_
  refine l_sld hX hO dL_law_1155 (s_in hi7 hL (by decide)) ?_
  refine l_callA (As := [.int (xs (nI (i + 1)).toNatClampNeg), .int (xs (nI (i + 2)).toNatClampNeg), .int (xs (nI (i + 3)).toNatClampNeg), .int (xs (nI (i + 4)).toNatClampNeg), .int (xs (nI (i + 5)).toNatClampNeg)]) (rest := []) hX hI hO dL_law_1156 (ctX7_copy (b := b) (N := MA) (sz := b + 221) (Nat.le_refl _) WT_A 1 (xs (nI (i + 1)).toNatClampNeg) (xs (nI (i + 2)).toNatClampNeg) (xs (nI (i + 3)).toNatClampNeg) (xs (nI (i + 4)).toNatClampNeg) (xs (nI (i + 5)).toNatClampNeg) ⟨rfl, show KA 1 < 16 by decide⟩ eA) (by decide) (by decide) wm_L_131 wi_X7_copy ws_X7_copy wc_X7_copy hyX7_copy rfl (Nat.le_of_ble_eq_true rfl) rfl ?_
  refine l_aload_n hX dL_law_1159 (i := 2) rfl (j := 2) rfl ?_
  refine l_aload_n hX dL_law_1160 (i := 0) rfl (j := 0) rfl ?_
  refine l_iload_n hX dL_law_1161 (i := 3) rfl (j := 3) rfl ?_
  refine l_iconst (v := nI 1) hX dL_law_1162 (by decide) ?_
  refine l_iadd (v := nI (i + 1)) hX dL_law_1163 (nI_add i 1) ?_
  refine l_sld hX hO dL_law_1164 (s_in hi7 hL (by decide)) ?_
  refine l_aload_n hX dL_law_1165 (i := 0) rfl (j := 0) rfl ?_
  refine l_iload_n hX dL_law_1166 (i := 3) rfl (j := 3) rfl ?_
  refine l_iconst (v := nI 2) hX dL_law_1167 (by decide) ?_
  refine l_iadd (v := nI (i + 2)) hX dL_law_1168 (nI_add i 2) ?_
  refine l_sld hX hO dL_law_1169 (s_in hi7 hL (by decide)) ?_
  refine l_aload_n hX dL_law_1170 (i := 0) rfl (j := 0) rfl ?_
  refine l_iload_n hX dL_law_1171 (i := 3) rfl (j := 3) rfl ?_
  refine l_iconst (v := nI 3) hX dL_law_1172 (by decide) ?_
  refine l_iadd (v := nI (i + 3)) hX dL_law_1173 (nI_add i 3) ?_
  refine l_sld hX hO dL_law_1174 (s_in hi7 hL (by decide)) ?_
  refine l_aload_n hX dL_law_1175 (i := 0) rfl (j := 0) rfl ?_
  refine l_iload_n hX dL_law_1176 (i := 3) rfl (j := 3) rfl ?_
  refine l_iconst (v := nI 4) hX dL_law_1177 (by decide) ?_
  refine l_iadd (v := nI (i + 4)) hX dL_law_1178 (nI_add i 4) ?_
  refine l_sld hX hO dL_law_1179 (s_in hi7 hL (by decide)) ?_
  refine l_aload_n hX dL_law_1180 (i := 0) rfl (j := 0) rfl ?_
  refine l_iload_n hX dL_law_1181 (i := 3) rfl (j := 3) rfl ?_
  refine l_iconst (v := nI 5) hX dL_law_1182 (by decide) ?_
  refine l_iadd (v := nI (i + 5)) hX dL_law_1183 (nI_add i 5) ?_
  refine l_sld hX hO dL_law_1184 (s_in hi7 hL (by decide)) ?_
  refine l_callM (As := [.int (xs (nI (i + 1)).toNatClampNeg), .int (xs (nI (i + 2)).toNatClampNeg), .int (xs (nI (i + 3)).toNatClampNeg), .int (xs (nI (i + 4)).toNatClampNeg), .int (xs (nI (i + 5)).toNatClampNeg)]) (rest := [.int v]) hX hI hO dL_law_1185 (ctX8_copy (b := b + 128) (N := MM) (sz := b + 221) (Nat.le_refl _) WT_M 1 (xs (nI (i + 1)).toNatClampNeg) (xs (nI (i + 2)).toNatClampNeg) (xs (nI (i + 3)).toNatClampNeg) (xs (nI (i + 4)).toNatClampNeg) (xs (nI (i + 5)).toNatClampNeg) ⟨rfl, show KM 1 < 16 by decide⟩ eM) (by decide) (by decide) wm_L_135 wi_X8_copy ws_X8_copy wc_X8_copy hyX8_copy rfl (Nat.le_of_ble_eq_true rfl) rfl ?_
  refine l_eq (tgt := 1193) hX dL_law_1188 (by decide) ?_
  exact kk _ _ hI2
theorem le7 {i L0 : Nat} (hi : i ≤ L0 + 7) (hL : L0 ≤ 3584) (c : ¬ Int32.ofNat L0 - nI 7 < nI i) : i + 7 ≤ L0 := by
  have h1 : (Int32.ofNat L0 - nI 7).toInt = (L0 : Int) - 7 := pk_sub_toInt (a := L0) (b := 7) (by omega) (by omega)
  have h2 : (nI i).toInt = (i : Int) := nI_toInt (by omega)
  rw [Int32.lt_iff_toInt_lt, h1, h2] at c
  omega
set_option maxRecDepth 100000 in
set_option maxHeartbeats 4000000 in
theorem law_turn {X : XT} {b bs L0 : Nat} {xs : Nat → Int32} (hX : XOK X RL code 4 1300) (hI : XI X 600000 7302250) (hO : LOK X b bs L0 xs) (hL : L0 ≤ 3584) {Inv : HH → HH → Prop} (hs : STEP Inv) (hend : ∀ hA hM i, GL X b 1199 [(0, .ref bs), (1, .ref (b + 1)), (2, .ref (b + 128 + 1)), (3, .int (nI i))] [] hA hM) {i : Nat} (hi : i ≤ L0 + 7) {hA hM : HH} (hv : Inv hA hM) (hnext : ∀ hA hM, Inv hA hM → i + 7 ≤ L0 → GL X b 1193 [(0, .ref bs), (1, .ref (b + 1)), (2, .ref (b + 128 + 1)), (3, .int (nI i))] [] hA hM) : GL X b 18 [(0, .ref bs), (1, .ref (b + 1)), (2, .ref (b + 128 + 1)), (3, .int (nI i))] [] hA hM := by
  refine l_iload_n hX dL_law_18 (i := 3) rfl (j := 3) rfl ?_
  refine l_aload_n hX dL_law_19 (i := 0) rfl (j := 0) rfl ?_
  refine l_slen hX hO dL_law_20 ?_
  refine l_bipush (v := nI 7) hX dL_law_21 (by decide) ?_
  refine l_isub hX dL_law_23 ?_
  refine l_gt (tgt := 1199) hX dL_law_24 (by decide) (fun _ => hend hA hM i) (fun c24 => ?_)
  have hi7 : i + 7 ≤ L0 := le7 hi hL c24
  refine l_aload_n hX dL_law_27 (i := 0) rfl (j := 0) rfl ?_
  refine l_iload_n hX dL_law_28 (i := 3) rfl (j := 3) rfl ?_
  refine l_sld hX hO dL_law_29 (s_in (k := 0) hi7 hL (by decide)) ?_
  refine l_bipush (v := nI 31) hX dL_law_30 (by decide) ?_
  refine l_iand hX dL_law_32 ?_
  generalize (xs (nI i).toNatClampNeg) &&& nI 31 = sw
  by_cases c0 : sw = 0
  · refine l_tin (tgt := 164) hX dL_law_33 c0 (by decide) (by decide) rfl (by decide) ?_
    exact lw_make hX hI hO hL hs.1 hi7 hv (fun hA' hM' hI2 => hnext hA' hM' hI2 hi7)
  by_cases c1 : sw = 1
  · refine l_tin (tgt := 217) hX dL_law_33 c1 (by decide) (by decide) rfl (by decide) ?_
    exact lw_write hX hI hO hL hs.2.1 hi7 hv (fun hA' hM' hI2 => hnext hA' hM' hI2 hi7)
  by_cases c2 : sw = 2
  · refine l_tin (tgt := 260) hX dL_law_33 c2 (by decide) (by decide) rfl (by decide) ?_
    exact lw_move hX hI hO hL hs.2.2.1 hi7 hv (fun hA' hM' hI2 => hnext hA' hM' hI2 hi7)
  by_cases c3 : sw = 3
  · refine l_tin (tgt := 313) hX dL_law_33 c3 (by decide) (by decide) rfl (by decide) ?_
    exact lw_remove hX hI hO hL hs.2.2.2.1 hi7 hv (fun hA' hM' hI2 => hnext hA' hM' hI2 hi7)
  by_cases c4 : sw = 4
  · refine l_tin (tgt := 346) hX dL_law_33 c4 (by decide) (by decide) rfl (by decide) ?_
    exact lw_told hX hI hO hL hs.2.2.2.2.1 hi7 hv (fun hA' hM' hI2 => hnext hA' hM' hI2 hi7)
  by_cases c5 : sw = 5
  · refine l_tin (tgt := 389) hX dL_law_33 c5 (by decide) (by decide) rfl (by decide) ?_
    exact lw_find hX hI hO hL hs.2.2.2.2.2.1 hi7 hv (fun hA' hM' hI2 => hnext hA' hM' hI2 hi7)
  by_cases c6 : sw = 6
  · refine l_tin (tgt := 432) hX dL_law_33 c6 (by decide) (by decide) rfl (by decide) ?_
    exact lw_taken hX hI hO hL hs.2.2.2.2.2.2.1 hi7 hv (fun hA' hM' hI2 => hnext hA' hM' hI2 hi7)
  by_cases c7 : sw = 7
  · refine l_tin (tgt := 465) hX dL_law_33 c7 (by decide) (by decide) rfl (by decide) ?_
    exact lw_latest hX hI hO hL hs.2.2.2.2.2.2.2.1 hi7 hv (fun hA' hM' hI2 => hnext hA' hM' hI2 hi7)
  by_cases c8 : sw = 8
  · refine l_tin (tgt := 488) hX dL_law_33 c8 (by decide) (by decide) rfl (by decide) ?_
    exact lw_feed hX hI hO hL hs.2.2.2.2.2.2.2.2.1 hi7 hv (fun hA' hM' hI2 => hnext hA' hM' hI2 hi7)
  by_cases c9 : sw = 9
  · refine l_tin (tgt := 563) hX dL_law_33 c9 (by decide) (by decide) rfl (by decide) ?_
    exact lw_pattern hX hI hO hL hs.2.2.2.2.2.2.2.2.2.1 hi7 hv (fun hA' hM' hI2 => hnext hA' hM' hI2 hi7)
  by_cases c10 : sw = 10
  · refine l_tin (tgt := 576) hX dL_law_33 c10 (by decide) (by decide) rfl (by decide) ?_
    exact lw_drop hX hI hO hL hs.2.2.2.2.2.2.2.2.2.2.1 hi7 hv (fun hA' hM' hI2 => hnext hA' hM' hI2 hi7)
  by_cases c11 : sw = 11
  · refine l_tin (tgt := 589) hX dL_law_33 c11 (by decide) (by decide) rfl (by decide) ?_
    exact lw_matches hX hI hO hL hs.2.2.2.2.2.2.2.2.2.2.2.1 hi7 hv (fun hA' hM' hI2 => hnext hA' hM' hI2 hi7)
  by_cases c12 : sw = 12
  · refine l_tin (tgt := 632) hX dL_law_33 c12 (by decide) (by decide) rfl (by decide) ?_
    exact lw_prefer hX hI hO hL hs.2.2.2.2.2.2.2.2.2.2.2.2.1 hi7 hv (fun hA' hM' hI2 => hnext hA' hM' hI2 hi7)
  by_cases c13 : sw = 13
  · refine l_tin (tgt := 655) hX dL_law_33 c13 (by decide) (by decide) rfl (by decide) ?_
    exact lw_sync hX hI hO hL hs.2.2.2.2.2.2.2.2.2.2.2.2.2.1 hi7 hv (fun hA' hM' hI2 => hnext hA' hM' hI2 hi7)
  by_cases c14 : sw = 14
  · refine l_tin (tgt := 668) hX dL_law_33 c14 (by decide) (by decide) rfl (by decide) ?_
    exact lw_target hX hI hO hL hs.2.2.2.2.2.2.2.2.2.2.2.2.2.2.1 hi7 hv (fun hA' hM' hI2 => hnext hA' hM' hI2 hi7)
  by_cases c15 : sw = 15
  · refine l_tin (tgt := 701) hX dL_law_33 c15 (by decide) (by decide) rfl (by decide) ?_
    exact lw_clash hX hI hO hL hs.2.2.2.2.2.2.2.2.2.2.2.2.2.2.2.1 hi7 hv (fun hA' hM' hI2 => hnext hA' hM' hI2 hi7)
  by_cases c16 : sw = 16
  · refine l_tin (tgt := 734) hX dL_law_33 c16 (by decide) (by decide) rfl (by decide) ?_
    exact lw_step hX hI hO hL hs.2.2.2.2.2.2.2.2.2.2.2.2.2.2.2.2.1 hi7 hv (fun hA' hM' hI2 => hnext hA' hM' hI2 hi7)
  by_cases c17 : sw = 17
  · refine l_tin (tgt := 777) hX dL_law_33 c17 (by decide) (by decide) rfl (by decide) ?_
    exact lw_would hX hI hO hL hs.2.2.2.2.2.2.2.2.2.2.2.2.2.2.2.2.2.1 hi7 hv (fun hA' hM' hI2 => hnext hA' hM' hI2 hi7)
  by_cases c18 : sw = 18
  · refine l_tin (tgt := 800) hX dL_law_33 c18 (by decide) (by decide) rfl (by decide) ?_
    exact lw_spared hX hI hO hL hs.2.2.2.2.2.2.2.2.2.2.2.2.2.2.2.2.2.2.1 hi7 hv (fun hA' hM' hI2 => hnext hA' hM' hI2 hi7)
  by_cases c19 : sw = 19
  · refine l_tin (tgt := 833) hX dL_law_33 c19 (by decide) (by decide) rfl (by decide) ?_
    exact lw_drawn hX hI hO hL hs.2.2.2.2.2.2.2.2.2.2.2.2.2.2.2.2.2.2.2.1 hi7 hv (fun hA' hM' hI2 => hnext hA' hM' hI2 hi7)
  by_cases c20 : sw = 20
  · refine l_tin (tgt := 866) hX dL_law_33 c20 (by decide) (by decide) rfl (by decide) ?_
    exact lw_chance hX hI hO hL hs.2.2.2.2.2.2.2.2.2.2.2.2.2.2.2.2.2.2.2.2.1 hi7 hv (fun hA' hM' hI2 => hnext hA' hM' hI2 hi7)
  by_cases c21 : sw = 21
  · refine l_tin (tgt := 909) hX dL_law_33 c21 (by decide) (by decide) rfl (by decide) ?_
    exact lw_tells hX hI hO hL hs.2.2.2.2.2.2.2.2.2.2.2.2.2.2.2.2.2.2.2.2.2.1 hi7 hv (fun hA' hM' hI2 => hnext hA' hM' hI2 hi7)
  by_cases c22 : sw = 22
  · refine l_tin (tgt := 952) hX dL_law_33 c22 (by decide) (by decide) rfl (by decide) ?_
    exact lw_film hX hI hO hL hs.2.2.2.2.2.2.2.2.2.2.2.2.2.2.2.2.2.2.2.2.2.2.1 hi7 hv (fun hA' hM' hI2 => hnext hA' hM' hI2 hi7)
  by_cases c23 : sw = 23
  · refine l_tin (tgt := 995) hX dL_law_33 c23 (by decide) (by decide) rfl (by decide) ?_
    exact lw_image hX hI hO hL hs.2.2.2.2.2.2.2.2.2.2.2.2.2.2.2.2.2.2.2.2.2.2.2.1 hi7 hv (fun hA' hM' hI2 => hnext hA' hM' hI2 hi7)
  by_cases c24 : sw = 24
  · refine l_tin (tgt := 1008) hX dL_law_33 c24 (by decide) (by decide) rfl (by decide) ?_
    exact lw_back hX hI hO hL hs.2.2.2.2.2.2.2.2.2.2.2.2.2.2.2.2.2.2.2.2.2.2.2.2.1 hi7 hv (fun hA' hM' hI2 => hnext hA' hM' hI2 hi7)
  by_cases c25 : sw = 25
  · refine l_tin (tgt := 1021) hX dL_law_33 c25 (by decide) (by decide) rfl (by decide) ?_
    exact lw_count hX hI hO hL hs.2.2.2.2.2.2.2.2.2.2.2.2.2.2.2.2.2.2.2.2.2.2.2.2.2.1 hi7 hv (fun hA' hM' hI2 => hnext hA' hM' hI2 hi7)
  by_cases c26 : sw = 26
  · refine l_tin (tgt := 1044) hX dL_law_33 c26 (by decide) (by decide) rfl (by decide) ?_
    exact lw_sheet hX hI hO hL hs.2.2.2.2.2.2.2.2.2.2.2.2.2.2.2.2.2.2.2.2.2.2.2.2.2.2.1 hi7 hv (fun hA' hM' hI2 => hnext hA' hM' hI2 hi7)
  by_cases c27 : sw = 27
  · refine l_tin (tgt := 1087) hX dL_law_33 c27 (by decide) (by decide) rfl (by decide) ?_
    exact lw_cell hX hI hO hL hs.2.2.2.2.2.2.2.2.2.2.2.2.2.2.2.2.2.2.2.2.2.2.2.2.2.2.2.1 hi7 hv (fun hA' hM' hI2 => hnext hA' hM' hI2 hi7)
  by_cases c28 : sw = 28
  · refine l_tin (tgt := 1130) hX dL_law_33 c28 (by decide) (by decide) rfl (by decide) ?_
    exact lw_copy hX hI hO hL hs.2.2.2.2.2.2.2.2.2.2.2.2.2.2.2.2.2.2.2.2.2.2.2.2.2.2.2.2 hi7 hv (fun hA' hM' hI2 => hnext hA' hM' hI2 hi7)
  have n0 := lv_neT c0 (a := 0) (by decide)
  have n1 := lv_neT c1 (a := 1) (by decide)
  have n2 := lv_neT c2 (a := 2) (by decide)
  have n3 := lv_neT c3 (a := 3) (by decide)
  have n4 := lv_neT c4 (a := 4) (by decide)
  have n5 := lv_neT c5 (a := 5) (by decide)
  have n6 := lv_neT c6 (a := 6) (by decide)
  have n7 := lv_neT c7 (a := 7) (by decide)
  have n8 := lv_neT c8 (a := 8) (by decide)
  have n9 := lv_neT c9 (a := 9) (by decide)
  have n10 := lv_neT c10 (a := 10) (by decide)
  have n11 := lv_neT c11 (a := 11) (by decide)
  have n12 := lv_neT c12 (a := 12) (by decide)
  have n13 := lv_neT c13 (a := 13) (by decide)
  have n14 := lv_neT c14 (a := 14) (by decide)
  have n15 := lv_neT c15 (a := 15) (by decide)
  have n16 := lv_neT c16 (a := 16) (by decide)
  have n17 := lv_neT c17 (a := 17) (by decide)
  have n18 := lv_neT c18 (a := 18) (by decide)
  have n19 := lv_neT c19 (a := 19) (by decide)
  have n20 := lv_neT c20 (a := 20) (by decide)
  have n21 := lv_neT c21 (a := 21) (by decide)
  have n22 := lv_neT c22 (a := 22) (by decide)
  have n23 := lv_neT c23 (a := 23) (by decide)
  have n24 := lv_neT c24 (a := 24) (by decide)
  have n25 := lv_neT c25 (a := 25) (by decide)
  have n26 := lv_neT c26 (a := 26) (by decide)
  have n27 := lv_neT c27 (a := 27) (by decide)
  have n28 := lv_neT c28 (a := 28) (by decide)
  refine l_tout (tgt := 1193) hX dL_law_33 (by omega) (by decide) ?_
  exact hnext hA hM hv hi7
theorem law_loop {X : XT} {b bs L0 : Nat} {xs : Nat → Int32} (hX : XOK X RL code 4 1300) (hI : XI X 600000 7302250) (hO : LOK X b bs L0 xs) (hL : L0 ≤ 3584) {Inv : HH → HH → Prop} (hs : STEP Inv) (hend : ∀ hA hM i, GL X b 1199 [(0, .ref bs), (1, .ref (b + 1)), (2, .ref (b + 128 + 1)), (3, .int (nI i))] [] hA hM) : ∀ (n i : Nat) (hA hM : HH), Inv hA hM → i ≤ L0 + 7 → L0 + 8 ≤ i + n → GL X b 18 [(0, .ref bs), (1, .ref (b + 1)), (2, .ref (b + 128 + 1)), (3, .int (nI i))] [] hA hM := by
  intro n
  induction n with
  | zero =>
    intro i hA hM hv h1 h2
    omega
  | succ n ih =>
    intro i hA hM hv h1 h2
    refine law_turn hX hI hO hL hs hend h1 hv (fun hA' hM' hI2 hi2 => ?_)
    refine l_iinc (v := nI (i + 7)) (L' := [(3, .int (nI (i + 7))), (0, .ref bs), (1, .ref (b + 1)), (2, .ref (b + 128 + 1))]) (j := 3) hX dL_law_1193 rfl (nI_add i 7) (by decide) rfl ?_
    refine l_goto (tgt := 18) hX dL_law_1196 (by decide) ?_
    exact l_sub [1, 2, 3, 0] rfl (ih (i + 7) hA' hM' hI2 (by omega) (by omega))
