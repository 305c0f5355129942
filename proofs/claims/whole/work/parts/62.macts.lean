/-! the reference's world, and its questions -/
def patM (h : HH) (i : Nat) (x : PT) : Prop := x.1.length ≤ 8 ∧ h 21 i = nI x.1.length ∧ h 20 i = b2i x.2 ∧ ∀ j y, x.1[j]? = some y → h (23 + i) j = y
/-- whether a thing is there is 0 or 1 -/
def bM (h : HH) : Prop := ∀ s, s < 3 → ∀ t, t < 30 → h (4 + s) t = 0 ∨ h (4 + s) t = 1
theorem bM_eq {h h' : HH} (e : ∀ q, 4 ≤ q → q < 7 → h' q = h q) (a : bM h) : bM h' := fun s hs t ht => by rw [e (4 + s) (by omega) (by omega)]; exact a s hs t ht
theorem bM_n {h : HH} {p k : Nat} {x : Int32} (e : p < 4 ∨ 7 ≤ p) (a : bM h) : bM (up h p k x) := bM_eq (fun q _ _ => up_ne (by omega)) a
theorem bM_u {h : HH} {p k : Nat} {x : Int32} (e : x = 0 ∨ x = 1) (a : bM h) : bM (up h p k x) := fun s hs t ht => by
  unfold up
  split
  · exact e
  · exact a s hs t ht
def wM (h : HH) (x : WS) : Prop := match x with
  | (n, F, V, P, pr, c0, c1, c2) => n ≤ 30 ∧ h 1 0 = nI n ∧ (∀ t, t < n → h 2 t = b2i (F t)) ∧ (∀ s, s < 3 → avM h s = V s) ∧ P.length ≤ 6 ∧ h 1 11 = nI P.length ∧ (∀ i y, P[i]? = some y → patM h i y) ∧ h 1 1 = pr ∧ h 1 7 = c0 ∧ h 1 8 = c1 ∧ h 1 9 = c2 ∧ bM h
def allW (x : WS) : Prop := match x with
  | (n, F, V, _) => ∀ s, s < 3 → wfT n F (V s)
theorem allW_N {x : WS} (h : allW x) : allN x := by
  obtain ⟨n, F, V, P, pr, c0, c1, c2⟩ := x
  exact fun s hs t ht => (h s hs t ht).1
/-- what make, write, move, remove leave as it is -/
def frM (h h' : HH) : Prop := (∀ q, 20 ≤ q → h' q = h q) ∧ ∀ j, j ≠ 0 → j ≠ 7 → j ≠ 8 → j ≠ 9 → h' 1 j = h 1 j
theorem frM_trans {h h' h'' : HH} (a : frM h h') (b : frM h' h'') : frM h h'' := ⟨fun q e => (b.1 q e).trans (a.1 q e), fun j e0 e7 e8 e9 => (b.2 j e0 e7 e8 e9).trans (a.2 j e0 e7 e8 e9)⟩
theorem in_m {h : HH} (a lo hi : Int32) : fX8_in h RM a lo hi = some (b2i (!(decide (a < lo)) && !(decide (hi < a)))) := by
  unfold fX8_in fX8_in_b14
  by_cases h1 : a < lo
  · simp [h1, b2i]
  · by_cases h2 : hi < a <;> simp [h1, h2, b2i]
theorem lt_succ {c d a : Int32} (e : d.toInt = c.toInt + 1) : c < a ↔ d ≤ a := by
  rw [Int32.lt_iff_toInt_lt, Int32.le_iff_toInt_le]
  omega
theorem isSide_m {h : HH} (a : Int32) : fX8_isSide h RM a = some (b2i (siB a)) := by
  unfold fX8_isSide siB
  rw [in_m, Option.bind_some, bz_t (b2i_01 _)]
  congr 4
theorem isName_m {h : HH} (a : Int32) : fX8_isName h RM a = some (b2i (naB a)) := by
  unfold fX8_isName naB
  rw [in_m, Option.bind_some, bz_t (b2i_01 _)]
  congr 4
theorem thB_eq {n : Nat} (hn : n ≤ 30) (a : Int32) : (!(decide (a < 0)) && !(decide (nI n - 1 < a))) = thB n a := by
  unfold thB
  by_cases h : a < 0
  · simp [h]
  · congr 2
    refine decide_eq_decide.mpr ?_
    cases n with
    | zero =>
      obtain ⟨j, hj, rfl⟩ := nI_of h
      have e1 : nI 0 - 1 = -1 := by decide
      rw [e1]
      exact ⟨fun _ => nI_le (Nat.zero_le _) hj, fun _ => by rw [Int32.lt_iff_toInt_lt, nI_toInt hj]; have : (-1 : Int32).toInt = -1 := by decide
                                                            omega⟩
    | succ m =>
      rw [nI_pred]
      refine lt_succ ?_
      rw [nI_toInt (show m + 1 < 2 ^ 31 by omega), nI_toInt (show m < 2 ^ 31 by omega)]
      omega
theorem isThing_m {h : HH} {n : Nat} (hn : n ≤ 30) (h0 : h 1 0 = nI n) (a : Int32) : fX8_isThing h RM 1 a = some (b2i (thB n a)) := by
  unfold fX8_isThing
  rw [in_m, Option.bind_some, bz_t (b2i_01 _), h0, thB_eq hn]
theorem isFolderOn_m {h : HH} {n s : Nat} {F : Nat → Bool} (hs : s < 3) (hn : n ≤ 30) (h0 : h 1 0 = nI n) (hF : ∀ t, t < n → h 2 t = b2i (F t)) (hN : inN n (avM h s)) (a : Int32) : fX8_isFolderOn h RM 1 (nI s) a = some (b2i (chB F (avM h s) a)) := by
  unfold fX8_isFolderOn chB
  simp only [fX8_isFolderOn_b33, fX8_isFolderOn_b37]
  by_cases h1 : a = -1
  · simp [h1, b2i]
  · rw [if_neg h1, isThing_m hn h0, Option.bind_some, b2i_if]
    cases ht : thB n a with
    | false =>
      rw [ifF rfl]
      by_cases g : a < 0
      · simp [g, h1, b2i]
      · obtain ⟨j, hj, rfl⟩ := nI_of g
        rw [ix_n hj]
        cases hin : isIn (avM h s) j with
        | false => simp [h1, b2i]
        | true =>
          rw [thB_of (hN j hin) hn] at ht
          cases ht
    | true =>
      obtain ⟨t, htn, rfl⟩ := thB_n hn ht
      rw [if_pos rfl]
      simp only [M_2, M_3, ln_2, ln_3, gd_in hs (show 3 < 2 ^ 31 by decide), ix_n (show s < 2 ^ 31 by omega), R_3 s hs, L_3 s hs, gd_in (show t < 30 by omega) n30, ix_n (show t < 2 ^ 31 by omega), inM_if (show t < 30 by omega), hF t htn, b2i_if]
      have n0 : ¬ nI t < 0 := n_lt0 t (by omega)
      cases hin : isIn (avM h s) t with
      | false => simp [h1, b2i]
      | true => cases F t <;> simp [h1, n0, b2i]
def rfM (h : HH) (a b c : Int32) : HH := up (up (up h 1 7 a) 1 8 b) 1 9 c
theorem rfM_ne {h : HH} {q : Nat} {a b c : Int32} (e : q ≠ 1) : rfM h a b c q = h q := by
  unfold rfM
  rw [up_ne e, up_ne e, up_ne e]
theorem rfM_at {h : HH} {j : Nat} {a b c : Int32} : rfM h a b c 1 j = if j = 9 then c else if j = 8 then b else if j = 7 then a else h 1 j := by
  unfold rfM
  rw [up_at, up_at, up_at]
theorem frM_rf {h : HH} {a b c : Int32} : frM h (rfM h a b c) := ⟨fun q e => rfM_ne (by omega), fun j e0 e7 e8 e9 => by rw [rfM_at, if_neg e9, if_neg e8, if_neg e7]⟩
theorem avM_eq {h h' : HH} {s : Nat} (h1 : h' (4 + s) = h (4 + s)) (h2 : h' (8 + s) = h (8 + s)) (h3 : h' (12 + s) = h (12 + s)) (h4 : h' (16 + s) = h (16 + s)) : avM h' s = avM h s := by
  unfold avM
  rw [h1, h2, h3, h4]
theorem patM_eq {h h' : HH} {i : Nat} {x : PT} (h1 : h' 20 = h 20) (h2 : h' 21 = h 21) (h3 : h' (23 + i) = h (23 + i)) (a : patM h i x) : patM h' i x := by
  unfold patM
  rw [h1, h2, h3]
  exact a
theorem wM_rf {h : HH} {n : Nat} {F : Nat → Bool} {V : Nat → TV} {P : List PT} {pr c0 c1 c2 : Int32} {a b c : Int32} (hw : wM h (n, F, V, P, pr, c0, c1, c2)) : wM (rfM h a b c) (n, F, V, P, pr, a, b, c) := by
  obtain ⟨a1, a2, a3, a4, a5, a6, a7, b1, b2, b3, b4, b5⟩ := hw
  refine ⟨a1, by rw [rfM_at]; exact a2, fun t ht => by rw [rfM_ne (by decide)]; exact a3 t ht, fun s hs => (avM_eq (rfM_ne (by omega)) (rfM_ne (by omega)) (rfM_ne (by omega)) (rfM_ne (by omega))).trans (a4 s hs), a5, by rw [rfM_at]; exact a6, fun i y hi => patM_eq (rfM_ne (by decide)) (rfM_ne (by decide)) (rfM_ne (by omega)) (a7 i y hi), by rw [rfM_at]; exact b1, by rw [rfM_at]; rfl, by rw [rfM_at]; rfl, by rw [rfM_at]; rfl, bM_eq (fun q _ _ => rfM_ne (by omega)) b5⟩
theorem refuses_m {h : HH} {a b c : Int32} : fX8_refuses h RM 1 a b c = some (a, rfM h a b c) := rfl
theorem done_m {h : HH} {v : Int32} : fX8_done h RM 1 v = some (v, rfM h 0 (-1) 0) := rfl
theorem coB_eq (c : Int32) : (!(decide (c < -1)) && !(decide (999 < c))) = coB c := by
  unfold coB
  congr 1
  rw [show (decide (999 < c)) = decide ((1000 : Int32) ≤ c) from decide_eq_decide.mpr (lt_succ (by decide))]
  by_cases h : c < 1000
  · have : ¬ (1000 : Int32) ≤ c := by
      rw [Int32.lt_iff_toInt_lt] at h
      rw [Int32.le_iff_toInt_le]
      omega
    simp [h, this]
  · have : (1000 : Int32) ≤ c := by
      rw [Int32.lt_iff_toInt_lt] at h
      rw [Int32.le_iff_toInt_le]
      omega
    simp [h, this]
theorem vaB_eq (c : Int32) : (!(decide (c < 0)) && !(decide (999 < c))) = vaB c := by
  have := coB_eq c
  unfold coB at this
  unfold vaB
  by_cases h : c < 0
  · simp [h]
  · have h1 : ¬ c < -1 := by
      rw [Int32.lt_iff_toInt_lt] at h ⊢
      have e1 : (-1 : Int32).toInt = -1 := by decide
      have e0 : (0 : Int32).toInt = 0 := by decide
      omega
    simp only [h1, decide_false, Bool.not_false, Bool.true_and] at this
    simp only [h, decide_false, Bool.not_false, Bool.true_and]
    exact this
/-- the places of a thing on a side as they are written -/
theorem stand_m {h : HH} {s t : Nat} (hs : s < 3) (ht : t < 30) (f nm c : Int32) : fX8_stand h RM 1 (nI s) (nI t) f nm c = some (up (up (up (up h (4 + s) t 1) (8 + s) t f) (12 + s) t nm) (16 + s) t c) := by
  unfold fX8_stand
  simp only [M_3, M_4, M_5, M_6, ln_3, ln_7, ln_11, ln_15, gd_in hs (show 3 < 2 ^ 31 by decide), ix_n (show s < 2 ^ 31 by omega), R_3 s hs, R_7 s hs, R_11 s hs, R_15 s hs, L_3 s hs, L_7 s hs, L_11 s hs, L_15 s hs, gd_in ht n30, ix_n (show t < 2 ^ 31 by omega), lt_eq, zn_1]
theorem mx_comm (c : Int32) : mx 0 c = mx c 0 := by
  unfold mx
  by_cases h : c < 0
  · have h2 : ¬ (0 : Int32) < c := by
      rw [Int32.lt_iff_toInt_lt] at h ⊢
      omega
    rw [if_pos h, if_neg h2]
  · rw [if_neg h]
    by_cases h2 : (0 : Int32) < c
    · rw [if_pos h2]
    · rw [if_neg h2]
      apply Int32.toInt_inj.mp
      rw [Int32.lt_iff_toInt_lt] at h h2
      omega
theorem lpF_5 : lpF = 4091 + 1 + 1 + 1 + 1 + 1 := rfl
theorem make_m {h : HH} {x : WS} (hw : wM h x) (hW : allW x) (s f nm c : Int32) : ∃ h', fX8_make h RM 1 s f nm c = some ((mkS x s f nm c).1, h') ∧ wM h' (mkS x s f nm c).2 ∧ frM h h' := by
  have hw0 := hw
  have hN := allW_N hW
  obtain ⟨n, F, V, P, pr, c0, c1, c2⟩ := x
  obtain ⟨a1, a2, a3, a4, a5, a6, a7, b1, b2, b3, b4, b5⟩ := hw
  have bd : ∀ a b c, wM (rfM h a b c) (n, F, V, P, pr, a, b, c) := fun a b c => wM_rf hw0
  have bad : ∃ h', fX8_make_b39 RM 1 s f nm c h = some (-2, h') ∧ wM h' (n, F, V, P, pr, -2, -1, 0) ∧ frM h h' := ⟨_, rfl, bd _ _ _, frM_rf⟩
  have e20 : fX8_make h RM 1 s f nm c = if (siB s && plB n f) = true then fX8_make_b20 RM 1 s f nm c h else fX8_make_b39 RM 1 s f nm c h := by
    unfold fX8_make plB
    simp only [isSide_m, isThing_m a1 a2, Option.bind_some, b2i_if]
    cases siB s <;> by_cases g : f = -1 <;> cases thB n f <;> simp [g]
  rw [e20]
  unfold mkS
  cases hs : siB s with
  | false => simpa [hs] using bad
  | true =>
  cases hp : plB n f with
  | false => simpa [hs, hp] using bad
  | true =>
  rw [if_pos (show (true && true) = true from rfl)]
  unfold fX8_make_b20
  simp only [isName_m, in_m, Option.bind_some, b2i_if, b2i_ifn, coB_eq, hs, hp]
  cases hm : naB nm with
  | false => simpa [hs, hp, hm] using bad
  | true =>
  cases gc : coB c with
  | false => simpa [hs, hp, hm, gc] using bad
  | true =>
  obtain ⟨i, hi, rfl⟩ := siB_n hs
  have u1 := a4 i (by omega)
  simp only [Bool.and_self, if_true, ix_n (show i < 2 ^ 31 by omega)]
  rw [isFolderOn_m (by omega) a1 a2 a3 (by rw [u1]; exact hN i (by omega)), Option.bind_some, b2i_ifn, u1]
  cases hc : chB F (V i) f with
  | false => exact ⟨_, rfl, bd _ _ _, frM_rf⟩
  | true =>
  simp only [if_true, a2]
  by_cases hn : ¬ n < 30
  · rw [if_neg hn, if_neg (fun z => z (by rw [show n = 30 by omega]; rfl))]
    exact ⟨_, rfl, bd _ _ _, frM_rf⟩
  have hn := Classical.not_not.mp hn
  rw [if_pos hn, if_pos (by rw [l30]; exact n_ne (by omega) (by omega) (by omega)), found_m (by omega) a1 a2 (by rw [u1]; exact hN i (by omega)), Option.bind_some, u1]
  cases hf : fnd (fun t => isAtS (V i) t f nm) 0 30 with
  | some t =>
    have ht := fnd_lt hf
    rw [if_neg (oI_ne (by omega))]
    exact ⟨_, rfl, bd _ _ _, frM_rf⟩
  | none =>
    rw [if_pos (show oI none = -1 from rfl)]
    have key : ∀ z : Int32, z = b2i (decide (c = -1)) → ∃ h', fX8_make_b128 RM 1 (nI i) f nm c h (RM 1 2) (nI n) z = some (nI n, h') ∧ wM h' (n + 1, upF F n (decide (c = -1)), upT V i (upV (V i) n (some (f, nm, mx c 0))), P, pr, 0, -1, 0) ∧ frM h h' := by
      intro z hz
      subst hz
      have nf : ∀ s', s' < 3 → V s' n = none := by
        intro s' hs'
        cases e : V s' n with
        | none => rfl
        | some y =>
          have := hN s' hs' n (by unfold isIn; rw [e]; rfl)
          omega
      have R0 : RM 3 0 = 4 := R_3 0 (by decide)
      have R1 : RM 3 1 = 5 := R_3 1 (by decide)
      have R2 : RM 3 2 = 6 := R_3 2 (by decide)
      have L0 : lnM 4 = 30 := L_3 0 (by decide)
      have L1 : lnM 5 = 30 := L_3 1 (by decide)
      have L2 : lnM 6 = 30 := L_3 2 (by decide)
      have loop : ∀ H : HH, H 1 0 = nI n → fX8_make_b132 RM 1 (nI i) f nm c lpF H 0 = fX8_make_b132 RM 1 (nI i) f nm c (4091 + 1 + 1) (up (up (up H 4 n 0) 5 n 0) 6 n 0) 3 := by
        intro H hH
        have x0 : ¬ (3 : Int32) ≤ 0 := by decide
        have x1 : ¬ (3 : Int32) ≤ 0 + 1 := by decide
        have x2 : ¬ (3 : Int32) ≤ 0 + 1 + 1 := by decide
        have y0 : inb 0 3 = true := by decide
        have y1 : inb (0 + 1) 3 = true := by decide
        have y2 : inb (0 + 1 + 1) 3 = true := by decide
        have z0 : ix 0 = 0 := by decide
        have z1 : ix (0 + 1) = 1 := by decide
        have z2 : ix (0 + 1 + 1) = 2 := by decide
        have k1 : up H 4 n 0 1 0 = nI n := by rw [up_ne (by decide), hH]
        have k2 : up (up H 4 n 0) 5 n 0 1 0 = nI n := by rw [up_ne (by decide), k1]
        rw [lpF_5, fX8_make_b132, if_neg x0, M_3, ln_3, gd_t y0, z0, R0, L0, hH, gd_in hn n30, ix_n (by omega), zn_0, lt_eq, fX8_make_b132, if_neg x1, M_3, ln_3, gd_t y1, z1, R1, L1, k1, gd_in hn n30, ix_n (by omega), zn_0, lt_eq, fX8_make_b132, if_neg x2, M_3, ln_3, gd_t y2, z2, R2, L2, k2, gd_in hn n30, ix_n (by omega), zn_0, lt_eq]
        rfl
      unfold fX8_make_b128
      rw [M_2, ln_2, gd_in hn n30, ix_n (by omega), lt_eq, zn_b, loop _ (by rw [up_ne (by decide)]; exact a2)]
      have h3 : (up (up (up (up h 2 n (b2i (decide (c = -1)))) 4 n 0) 5 n 0) 6 n 0) 1 0 = nI n := by rw [up_ne (by decide), up_ne (by decide), up_ne (by decide), up_ne (by decide)]; exact a2
      rw [fX8_make_b132, if_pos (by decide), h3, stand_m (by omega) hn, Option.bind_some, lt_eq]
      have h4 : ∀ H : HH, H 1 0 = nI n → up (up (up (up H (4 + i) n 1) (8 + i) n f) (12 + i) n nm) (16 + i) n (mx 0 c) 1 0 = nI n := by
        intro H hH
        rw [up_ne (by omega), up_ne (by omega), up_ne (by omega), up_ne (by omega), hH]
      rw [h4 _ h3, n_p1, up_same, nI_pred, done_m, bi2_eq, mx_comm]
      refine ⟨_, rfl, wM_rf (c0 := c0) (c1 := c1) (c2 := c2) ?_, frM_trans ⟨fun q hq => ?_, fun j e0 e7 e8 e9 => ?_⟩ frM_rf⟩
      · refine ⟨by omega, up_same, fun t ht => ?_, fun s' hs' => ?_, a5, ?_, fun p y hp => ?_, ?_, ?_, ?_, ?_, bM_n (by omega) (bM_n (by omega) (bM_n (by omega) (bM_n (by omega) (bM_u (Or.inr rfl) (bM_u (Or.inl rfl) (bM_u (Or.inl rfl) (bM_u (Or.inl rfl) (bM_n (by omega) b5))))))))⟩
        · rw [up_ne (by decide), up_ne (by omega), up_ne (by omega), up_ne (by omega), up_ne (by omega), up_ne (by decide), up_ne (by decide), up_ne (by decide), up_at]
          unfold upF
          by_cases et : t = n
          · rw [if_pos et, if_pos et]
          · rw [if_neg et, if_neg et]
            exact a3 t (by omega)
        · have q4 := a4 s' hs'
          have qn := nf s' hs'
          funext t
          have qt := congrFun q4 t
          unfold avM at qt
          unfold avM upT upV
          have ci : i = 0 ∨ i = 1 := by omega
          have cs : s' = 0 ∨ s' = 1 ∨ s' = 2 := by omega
          by_cases et : t = n
          · subst et
            rcases ci with rfl | rfl <;> rcases cs with rfl | rfl | rfl <;> simp [up, hn, qn]
          · rcases ci with rfl | rfl <;> rcases cs with rfl | rfl | rfl <;> simp [up, et] <;> simpa using qt
        · rw [up_at, if_neg (by decide), up_ne (by omega), up_ne (by omega), up_ne (by omega), up_ne (by omega), up_ne (by decide), up_ne (by decide), up_ne (by decide), up_ne (by decide)]
          exact a6
        · refine patM_eq ?_ ?_ ?_ (a7 p y hp)
          · rw [up_ne (by decide), up_ne (by omega), up_ne (by omega), up_ne (by omega), up_ne (by omega), up_ne (by decide), up_ne (by decide), up_ne (by decide), up_ne (by decide)]
          · rw [up_ne (by decide), up_ne (by omega), up_ne (by omega), up_ne (by omega), up_ne (by omega), up_ne (by decide), up_ne (by decide), up_ne (by decide), up_ne (by decide)]
          · rw [up_ne (by omega), up_ne (by omega), up_ne (by omega), up_ne (by omega), up_ne (by omega), up_ne (by omega), up_ne (by omega), up_ne (by omega), up_ne (by omega)]
        all_goals
          rw [up_at, if_neg (by decide), up_ne (by omega), up_ne (by omega), up_ne (by omega), up_ne (by omega), up_ne (by decide), up_ne (by decide), up_ne (by decide), up_ne (by decide)]
          assumption
      · rw [up_ne (by omega), up_ne (by omega), up_ne (by omega), up_ne (by omega), up_ne (by omega), up_ne (by omega), up_ne (by omega), up_ne (by omega), up_ne (by omega)]
      · rw [up_at, if_neg e0, up_ne (by omega), up_ne (by omega), up_ne (by omega), up_ne (by omega), up_ne (by decide), up_ne (by decide), up_ne (by decide), up_ne (by decide)]
    by_cases hcc : c = -1
    · rw [if_neg (fun z => z hcc)]
      exact key 1 (by simp [hcc, b2i])
    · rw [if_pos hcc]
      exact key 0 (by simp [hcc, b2i])
