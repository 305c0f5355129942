def lwN : List Cond := [.methodLinkNest RX6 54 yX1_init RX7, .methodLinkNest RX7 28 yX4_init RX7, .fieldLinkNest RX2 29 "TwoTreesAlike$Merge" "world" "LTwoTreesAlike$World;" RX7, .methodLinkNest RX7 44 yX2_init RX7, .methodLinkNest RX7 55 yX3_init RX7, .methodLinkNest RX6 69 yX7_isSide RX7, .methodLinkNest RX6 75 yX7_isName RX7]
theorem wNn_X6_54 : (.methodLinkNest RX6 54 yX1_init RX7 : Cond) ∈ lwN := List.mem_of_getElem? (i := 0) rfl
theorem wNn_X7_28 : (.methodLinkNest RX7 28 yX4_init RX7 : Cond) ∈ lwN := List.mem_of_getElem? (i := 1) rfl
theorem wNg_X2_29 : (.fieldLinkNest RX2 29 "TwoTreesAlike$Merge" "world" "LTwoTreesAlike$World;" RX7 : Cond) ∈ lwN := List.mem_of_getElem? (i := 2) rfl
theorem wNn_X7_44 : (.methodLinkNest RX7 44 yX2_init RX7 : Cond) ∈ lwN := List.mem_of_getElem? (i := 3) rfl
theorem wNn_X7_55 : (.methodLinkNest RX7 55 yX3_init RX7 : Cond) ∈ lwN := List.mem_of_getElem? (i := 4) rfl
theorem wNn_X6_69 : (.methodLinkNest RX6 69 yX7_isSide RX7 : Cond) ∈ lwN := List.mem_of_getElem? (i := 5) rfl
theorem wNn_X6_75 : (.methodLinkNest RX6 75 yX7_isName RX7 : Cond) ∈ lwN := List.mem_of_getElem? (i := 6) rfl
def styL : List (List Nat) := [[20, 10, 14, 5, 20, 20, 9, 9, 20], [9, 20, 20], [9, 9, 10, 9, 20], [20, 20, 9], [9, 20, 20, 20, 20, 20], [10, 9, 9, 9], [20, 10, 13, 11, 20, 20, 20, 20, 20, 9, 10], [6, 6, 6, 20, 4, 0, 2, 12], [20, 20, 10, 15, 14, 14, 14, 20, 20, 20, 10, 20, 10, 9, 14, 9, 20, 20, 20, 20, 20, 20, 20, 9, 10, 10, 20, 20, 9, 9, 10, 10, 9, 9, 9, 20, 9, 9, 15, 14, 14, 14, 20, 20, 9, 15, 14, 14, 14, 14, 9, 9, 9, 14, 9]]
def nflL : List Nat := [9, 3, 5, 3, 6, 4, 11, 8, 55]

def aty (c : Nat) : Nat := match c with
  | 11 => 1
  | 12 => 3
  | 13 => 5
  | 14 => 9
  | 15 => 10
  | _ => 20
/-- the type of a place's slot: below 16 a reference to a place of that kind -/
def sty (c k : Nat) : Nat := if c < 9 then ((styL[c]?).getD [])[k]?.getD 20 else aty c
def nfl (c : Nat) : Nat := (nflL[c]?).getD 0
def fr_A (b M : Nat) : Nat → Prop := fun q => b < q ∧ q ≤ b + M
def rv (b q : Nat) : Value := if q = 0 then .null else .ref (b + q)
def ro (b q : Nat) : Option Nat := if q = 0 then none else some (b + q)
theorem rv_ro (b q : Nat) : va_rf (ro b q) = rv b q := by unfold ro rv; split <;> rfl
theorem rv_ne {b q : Nat} (h : 1 ≤ q) : rv b q = .ref (b + q) := if_neg (by omega)
def inb (i : Int32) (n : Nat) : Bool := decide (¬ (i < 0 ∨ n ≤ i.toNatClampNeg))
theorem inb_in {i : Int32} {n : Nat} (h : inb i n = true) : vp_in i n := by
  have h2 : ¬ (i < 0 ∨ n ≤ i.toNatClampNeg) := by
    unfold inb at h
    exact of_decide_eq_true h
  exact h2
def ix (i : Int32) : Nat := i.toNatClampNeg
/-- a field's value; Merge.world, the one reference that moves, stands among the numbers -/
def fv (b c : Nat) (h : Nat → Int32) (r : Nat → Nat) (k : Nat) : Value := if c = 0 ∧ k = 0 then rv b (ix (h 0)) else if sty c k < 16 then rv b (r k) else .int (h k)
abbrev HH : Type := Nat → Nat → Int32
abbrev RR : Type := Nat → Nat → Nat
def en (ac : Nat → ClassId) (b : Nat) (K ln : Nat → Nat) (h : HH) (r : RR) (p : Nat) : va_E :=
  if K p < 9 then .inr (K p, (List.range (nfl (K p))).map (fv b (K p) (h p) (r p)))
  else if K p < 11 then .inl (ac (K p), ln p, .inl (h p))
  else .inl (ac (K p), ln p, .inr (.inr (.inr (.inr (fun j => ro b (r p j))))))
def wl (ac : Nat → ClassId) (b : Nat) (K ln : Nat → Nat) (N : Nat) (h : HH) (r : RR) : va_W := (List.range N).map (fun i => (b + (i + 1), en ac b K ln h r (i + 1)))
theorem en_congr {ac : Nat → ClassId} {b : Nat} {K ln : Nat → Nat} {h h' : HH} {r r' : RR} {p : Nat} (e1 : h' p = h p) (e2 : r' p = r p) : en ac b K ln h' r' p = en ac b K ln h r p := by unfold en; rw [e1, e2]
theorem wl_ix {ac : Nat → ClassId} {b : Nat} {K ln : Nat → Nat} {N : Nat} {h : HH} {r : RR} (i : Nat) : (wl ac b K ln N h r)[i]? = if i < N then some (b + (i + 1), en ac b K ln h r (i + 1)) else none := by
  unfold wl
  rw [List.getElem?_map]
  by_cases hi : i < N
  · rw [List.getElem?_range hi, if_pos hi]; rfl
  · rw [if_neg hi, List.getElem?_eq_none (by simp; omega)]; rfl
theorem wl_at {ac : Nat → ClassId} {b : Nat} {K ln : Nat → Nat} {N : Nat} {h : HH} {r : RR} {p : Nat} (h1 : 1 ≤ p) (h2 : p ≤ N) : (wl ac b K ln N h r)[p - 1]? = some (b + p, en ac b K ln h r p) := by
  rw [wl_ix, if_pos (by omega), Nat.sub_add_cancel h1]
theorem wl_len {ac : Nat → ClassId} {b : Nat} {K ln : Nat → Nat} {N : Nat} {h : HH} {r : RR} : (wl ac b K ln N h r).length = N := by simp [wl]
theorem wl_set {ac : Nat → ClassId} {b : Nat} {K ln : Nat → Nat} {N : Nat} {h h' : HH} {r r' : RR} {p : Nat} {e : va_E} (h1 : 1 ≤ p) (h2 : p ≤ N) (hq : ∀ q, q ≠ p → h' q = h q ∧ r' q = r q) (he : e = en ac b K ln h' r' p) : (wl ac b K ln N h r).set (p - 1) (b + p, e) = wl ac b K ln N h' r' := by
  subst he
  apply List.ext_getElem?
  intro i
  by_cases e : i = p - 1
  · subst e
    rw [List.getElem?_set_self (by rw [wl_len]; omega), wl_at h1 h2]
  · rw [List.getElem?_set_ne (Ne.symm e), wl_ix, wl_ix]
    by_cases hi : i < N
    · rw [if_pos hi, if_pos hi, en_congr (hq (i + 1) (by omega)).1 (hq (i + 1) (by omega)).2]
    · rw [if_neg hi, if_neg hi]
theorem wl_D {ac : Nat → ClassId} {b M : Nat} {K ln : Nat → Nat} {N : Nat} {h : HH} {r : RR} (hN : N ≤ M) : va_D (fr_A b M) (wl ac b K ln N h r) := by
  refine ⟨fun i j x y hi hj hxy => ?_, fun k q hk => ?_⟩
  · rw [wl_ix] at hi hj
    by_cases h1 : i < N
    · by_cases h2 : j < N
      · rw [if_pos h1] at hi
        rw [if_pos h2] at hj
        cases hi; cases hj
        simp only at hxy
        omega
      · rw [if_neg h2] at hj; cases hj
    · rw [if_neg h1] at hi; cases hi
  · rw [wl_ix] at hk
    by_cases h1 : k < N
    · rw [if_pos h1] at hk
      cases hk
      exact ⟨by show b < b + (k + 1); omega, by show b + (k + 1) ≤ b + M; omega⟩
    · rw [if_neg h1] at hk; cases hk
def bw (K : Nat → Nat) (h : HH) : Prop := ∀ p i, K p = 10 → h p i = 0 ∨ h p i = 1
def up (h : HH) (p k : Nat) (x : Int32) : HH := fun q j => if q = p ∧ j = k then x else h q j
def upR (r : RR) (p k : Nat) (x : Nat) : RR := fun q j => if q = p ∧ j = k then x else r q j
theorem up_ne {h : HH} {p k : Nat} {x : Int32} {q : Nat} (e : q ≠ p) : up h p k x q = h q := by funext j; simp [up, e]
theorem upR_ne {r : RR} {p k x q : Nat} (e : q ≠ p) : upR r p k x q = r q := by funext j; simp [upR, e]
theorem bw_up {K : Nat → Nat} {h : HH} {p k : Nat} {x : Int32} (hb : bw K h) (hx : K p = 10 → x = 0 ∨ x = 1) : bw K (up h p k x) := by
  intro q j hq
  unfold up
  split
  · rename_i e; rw [e.1] at hq; exact hx hq
  · exact hb q j hq
def WD (D : va_G) (ac : Nat → ClassId) (b : Nat) (K ln : Nat → Nat) (N sz : Nat) (h : HH) (r : RR) (H : Heap) : Prop := va_P D vwCl (wl ac b K ln N h r) H ∧ bw K h ∧ H.size = sz
/-- what the tables say that isn't kept by the plain words: nest mates' links -/
def NWA (U : State) : Prop := ∀ w ∈ lwN, va_Nw w U
theorem NWA.warm {s U : State} (hW : s.WarmedH U.vm) (h : NWA s) : NWA U := by
  intro w hw
  have h1 := h w hw
  simp only [lwN, List.mem_cons, List.not_mem_nil, or_false] at hw
  rcases hw with rfl | rfl | rfl | rfl | rfl | rfl | rfl <;> first | exact va_Nw.warmM hW h1 | exact va_Nw.warmF hW h1
theorem NWA.same {u U : State} (e : u.vm = U.vm) (h : NWA u) : NWA U := by
  intro w hw
  have h1 := h w hw
  simp only [lwN, List.mem_cons, List.not_mem_nil, or_false] at hw
  rcases hw with rfl | rfl | rfl | rfl | rfl | rfl | rfl <;> exact va_Nw.same rfl e h1
def tysX (ac : Nat → ClassId) : List (ClassId × FieldType) := [(ac 9, .int), (ac 10, .boolean), (ac 11, .object RX1), (ac 12, .object RX3), (ac 13, .object RX5), (ac 14, .array .int), (ac 15, .array .boolean)]
/-- the references: each slot that is one holds a place of its type, among those that are there -/
def WT (K ln : Nat → Nat) (ok : Nat → Prop) (N : Nat) (r : RR) : Prop := (∀ p, ok p → 1 ≤ p ∧ p ≤ N) ∧ ∀ p k, ok p → sty (K p) k < 16 → (9 ≤ K p → k < ln p) → K (r p k) = sty (K p) k ∧ ok (r p k)
abbrev XT : Type := Program × Launch × Env × Room × State × MethodId × Array Value × List Frame × Method × Code × (State → Prop) × Heap × va_G × (Nat → ClassId)
def GX (X : XT) (b : Nat) (K ln : Nat → Nat) (M nL cs sl N sz pc : Nat) (L : List (Nat × Value)) (st : List Value) (h : HH) (r : RR) : Prop := match X with
  | (p, l, e, R, s, m, args, below, meth, c, Q, H0, D, ac) => ∀ (H : Heap) (locs : List Loc) (ls : Array Slot), WD D ac b K ln N sz h r H → va_S (fr_A b M) H0 H locs → lv_has ls nL L → W p l e R s m args below meth c H locs cs sl Q (F0 m pc ls st)
def XOK (X : XT) (own : String) (cc : ByteArray) (nL d : Nat) : Prop := match X with
  | (p, l, e, R, s, m, args, below, meth, c, Q, H0, D, ac) => p.tables.exec = Jvm.exec ∧ c.code = cc ∧ c.maxLocals = nL ∧ s.vm.findClass own = some m.cls ∧ (∀ w ∈ lwG, w.before args s = true) ∧ va_K D vwCl (tysX ac) s ∧ meth.locks = false ∧ d ≤ R.frames ∧ 64 * d ≤ R.locals ∧ NWA s
def QQ (D : va_G) (ac : Nat → ClassId) (b : Nat) (K ln : Nat → Nat) (M N sz : Nat) (v : Option Value) (h : HH) (r : RR) : Array Value → State → Outcome → State → Prop := fun _ st o t => o = .returned v ∧ WD D ac b K ln N sz h r t.heap ∧ va_F (fr_A b M) st t
def PP (D : va_G) (ac : Nat → ClassId) (b : Nat) (K ln : Nat → Nat) (N sz : Nat) (h : HH) (r : RR) (as : List Value) : Array Value → State → Prop := va_Pc as (fun U => WD D ac b K ln N sz h r U.heap ∧ va_K D vwCl (tysX ac) U ∧ NWA U)
def XR (X : XT) (b : Nat) (K ln : Nat → Nat) (M : Nat) (ret : Option FieldType) (cs sl N sz : Nat) (v : Option Value) (h : HH) (r : RR) : Prop := match X with
  | (p, l, e, R, s, m, args, below, meth, c, Q, H0, D, ac) => Q = MQ below (QQ D ac b K ln M N sz v h r) args s cs sl (fr_A b M) ∧ H0 = s.heap ∧ meth.sig.returnType = ret
/-- a method's contract -/
def CT (y : MethodName) (cc : ByteArray) (nL : Nat) (ret : Option FieldType) (d b : Nat) (K ln : Nat → Nat) (M N sz : Nat) (as : List Value) (h : HH) (r : RR) (N' sz' : Nat) (v : Option Value) (h' : HH) (r' : RR) (mc ms : Nat) : Prop :=
  ∀ (l : Launch) (D : va_G) (ac : Nat → ClassId), Met l y (.code y cc nL ret :: lwG) ({ frames := d, cells := mc, slots := ms, locals := 64 * d } : Room) (PP D ac b K ln N sz h r as) (QQ D ac b K ln M N' sz' v h' r') mc ms (fr_A b M)
def mx (x y : Int32) : Int32 := if x < y then y else x
def cpok (sp dp n : Int32) (a c : Nat) : Bool := decide (¬ sp < 0 ∧ ¬ dp < 0 ∧ ¬ n < 0 ∧ sp.toNatClampNeg + n.toNatClampNeg ≤ a ∧ dp.toNatClampNeg + n.toNatClampNeg ≤ c)
theorem cpok_spec {sp dp n : Int32} {a c : Nat} (h : cpok sp dp n a c = true) : ¬ sp < 0 ∧ ¬ dp < 0 ∧ ¬ n < 0 ∧ sp.toNatClampNeg + n.toNatClampNeg ≤ a ∧ dp.toNatClampNeg + n.toNatClampNeg ≤ c := of_decide_eq_true h
def cpH (h : HH) (p q a c n : Nat) : HH := fun z j => if z = q then va_cpy (h p) (h q) a c n j else h z j
theorem cpH_ne {h : HH} {p q a c n z : Nat} (e : z ≠ q) : cpH h p q a c n z = h z := by funext j; simp [cpH, e]
theorem bw_cp {K : Nat → Nat} {h : HH} {p q a c n : Nat} (hb : bw K h) (e : K p = K q) : bw K (cpH h p q a c n) := by
  intro z j hz
  unfold cpH
  split
  · rename_i e2
    subst e2
    unfold va_cpy
    split
    · exact hb p _ (e.trans hz)
    · exact hb z _ hz
  · exact hb z j hz
theorem ite_t {α : Type} {c : Prop} [Decidable c] {a b : Option α} {v : α} (h : (if c then a else b) = some v) (hc : c) : a = some v := by rwa [if_pos hc] at h
theorem ite_f {α : Type} {c : Prop} [Decidable c] {a b : Option α} {v : α} (h : (if c then a else b) = some v) (hc : ¬ c) : b = some v := by rwa [if_neg hc] at h
def bi2 {α β γ : Type} (x : Option (α × β)) (f : α → β → Option γ) : Option γ := match x with
  | none => none
  | some q => f q.1 q.2
def bi3 {α β δ γ : Type} (x : Option (α × β × δ)) (f : α → β → δ → Option γ) : Option γ := match x with
  | none => none
  | some q => f q.1 q.2.1 q.2.2
theorem bi2_some {α β γ : Type} {x : Option (α × β)} {f : α → β → Option γ} {v : γ} (h : bi2 x f = some v) : ∃ a b, x = some (a, b) ∧ f a b = some v := by
  cases x with
  | none => cases h
  | some q => exact ⟨q.1, q.2, rfl, h⟩
theorem bi3_some {α β δ γ : Type} {x : Option (α × β × δ)} {f : α → β → δ → Option γ} {v : γ} (h : bi3 x f = some v) : ∃ a b c, x = some (a, b, c) ∧ f a b c = some v := by
  cases x with
  | none => cases h
  | some q => exact ⟨q.1, q.2.1, q.2.2, rfl, h⟩
theorem tyF {K ln : Nat → Nat} {ok : Nat → Prop} {N : Nat} {r : RR} (hW : WT K ln ok N r) {p c k c' : Nat} (t : K p = c ∧ ok p) (h9 : c < 9) (hs : sty c k = c') (h16 : c' < 16) : K (r p k) = c' ∧ ok (r p k) := by
  have h := hW.2 p k t.2 (by rw [t.1, hs]; exact h16) (fun e => by omega)
  rw [t.1, hs] at h
  exact h
theorem tyA {K ln : Nat → Nat} {ok : Nat → Prop} {N : Nat} {r : RR} (hW : WT K ln ok N r) {p c c' : Nat} {i : Int32} (t : K p = c ∧ ok p) (h9 : ¬ c < 9) (hs : aty c = c') (h16 : c' < 16) (hin : inb i (ln p) = true) : K (r p (ix i)) = c' ∧ ok (r p (ix i)) := by
  have hs2 : sty c (ix i) = c' := by unfold sty; rw [if_neg h9]; exact hs
  have h := hW.2 p (ix i) t.2 (by rw [t.1, hs2]; exact h16) (fun _ => Nat.not_le.mp fun q => inb_in hin (Or.inr q))
  rw [t.1, hs2] at h
  exact h
theorem ty1 {K ln : Nat → Nat} {ok : Nat → Prop} {N : Nat} {r : RR} (hW : WT K ln ok N r) {p c : Nat} (t : K p = c ∧ ok p) : K p = c ∧ 1 ≤ p ∧ p ≤ N := ⟨t.1, hW.1 p t.2⟩
theorem WT_up {K ln : Nat → Nat} {ok : Nat → Prop} {N : Nat} {r : RR} (hW : WT K ln ok N r) {p k q c c' : Nat} (tp : K p = c ∧ ok p) (h9 : c < 9) (hs : sty c k = c') (tq : K q = c' ∧ ok q) : WT K ln ok N (upR r p k q) := by
  refine ⟨hW.1, fun z j hz h16 hl => ?_⟩
  unfold upR
  split
  · rename_i e
    obtain ⟨rfl, rfl⟩ := e
    rw [tp.1, hs]
    exact tq
  · exact hW.2 z j hz h16 hl
def bz {α : Type} (x : Int32) (k : Option α) : Option α := if x = 0 ∨ x = 1 then k else none
def zn (x : Int32) : Int32 := vp_nar .boolean x
def gd {α : Type} (c : Bool) (k : Option α) : Option α := if c = true then k else none
theorem gd_some {α : Type} {c : Bool} {k : Option α} {v : α} (h : gd c k = some v) : c = true ∧ k = some v := by
  unfold gd at h
  by_cases hc : c = true
  · rw [if_pos hc] at h; exact ⟨hc, h⟩
  · rw [if_neg hc] at h; cases h
theorem bz_some {α : Type} {x : Int32} {k : Option α} {v : α} (h : bz x k = some v) : (x = 0 ∨ x = 1) ∧ k = some v := by
  unfold bz at h
  by_cases hc : x = 0 ∨ x = 1
  · rw [if_pos hc] at h; exact ⟨hc, h⟩
  · rw [if_neg hc] at h; cases h
theorem bi_some {α β : Type} {x : Option α} {f : α → Option β} {v : β} (h : x.bind f = some v) : ∃ a, x = some a ∧ f a = some v := by
  cases x with
  | none => cases h
  | some a => exact ⟨a, rfl, h⟩
theorem zn_01 (x : Int32) : zn x = 0 ∨ zn x = 1 := by
  obtain ⟨j, hj, e⟩ := pk_andE x (m := 1) 1 (by decide)
  have e2 : zn x = nI j := by rw [← e]; rfl
  rw [e2]
  rcases (show j = 0 ∨ j = 1 by omega) with rfl | rfl
  · exact Or.inl rfl
  · exact Or.inr rfl

section GZ
variable {p : Program} {l : Launch} {e : Env} {R : Room} {s : State} {m : MethodId} {args : Array Value} {below : List Frame} {meth : Method} {c : Code} {H : Heap} {locs : List Loc} {cells slots : Nat} {Q : State → Prop}
variable {cc : ByteArray} {pc : Nat} {ls : Array Slot} {rest : List Value} {D : va_G} {cl : List vw_C} {A : Nat → Prop} {a : Nat} {tys : List (ClassId × FieldType)} {ws : va_W} {H0 : Heap}
/-- as va_put, and the heap's size -/
theorem va_putZ (hexec : p.tables.exec = Jvm.exec) (hb : c.code = cc) {own ref C : String} {T : u_T} {N ci index : Nat} {Ts : List Cond} (hts : ∀ w ∈ Ts, w.before args s = true) (hin : ∀ w ∈ u_ws C T N, w ∈ Ts) (ty0 : Nat → FieldType) (hty : ∀ k, k < N → parseFieldDescriptor (T k).2.2.1 = some (ty0 k)) (hnm : ∀ a, a < N → ∀ b, b < N → a ≠ b → (T a).2.1 ≠ (T b).2.1) (hown : s.vm.findClass own = some m.cls) (hK : va_K D cl tys s) (hP : va_P D cl ws H) (hD : va_D A ws) (hS0 : va_S A H0 H locs) (q0 : Nat) {fs : List Value} (he : ws[q0]? = some (a, .inr (ci, fs))) (hc : cl[ci]? = some (C, T, N)) (k : Nat) (hk : k < N) (hlink : (Cond.fieldLink own index ref (T k).2.1 (T k).2.2.1).before args s = true) (hsame : ∀ x, s.fieldFound? (T k).1 (T k).2.1 (T k).2.2.1 = some x → s.fieldFound? ref (T k).2.1 (T k).2.2.1 = some x) (hfin : (T k).2.2.2 = false) {ty : FieldType} {v : Value} (hd : parseFieldDescriptor (T k).2.2.1 = some ty) (hn : narrow ty v = v) (hfit : fits ty v = true) (hl : k < fs.length)
    (hdg : decode cc pc = .ok (.putfield index, 3)) (kk : ∀ (H1 : Heap) (locs1 : List Loc), H1.size = H.size → va_P D cl (ws.set q0 (a, .inr (ci, fs.set k v))) H1 → va_D A (ws.set q0 (a, .inr (ci, fs.set k v))) → va_S A H0 H1 locs1 → W p l e R s m args below meth c H1 locs1 cells slots Q (F0 m (pc + 3) ls rest)) : W p l e R s m args below meth c H locs cells slots Q (F0 m pc ls (v :: .ref a :: rest)) := by
  have hap := va_apart (own := own) hts hin ty0 hty hnm hK hc
  obtain ⟨r, h1, cell, q1, q2, q3, q4⟩ := hP q0 _ he
  have hr : r = (C, T, N) := Option.some.inj (h1.symm.trans hc)
  subst hr
  obtain ⟨hS, hfc, kC, hkC, hkind⟩ := hK.1 ci _ hc
  obtain ⟨cf, kf, fi, f, hi, hsl⟩ := hS k hk
  have hlay := hts _ (hin _ (u_in_lay hk))
  unfold u_lay at hlay
  rw [if_neg (by rw [hfin]; decide)] at hlay
  have hst := (u_facts hfc hkC (u_lays hts hin hk) hi).1
  have h6 := u_store hfc hkC hkind hlay hi hd hn hfit
  refine W.putK hexec hb (f := f) ⟨hown, hlink, ⟨_, _, _, hsame _ hi⟩, hst⟩ (by rw [q2]; exact h6) q1 q3 (by rw [hsl]; exact k2_hasslot (q4 k hk)) rfl rfl hdg fun H' e1 e2 e3 => ?_
  rw [hsl] at e1 ⊢
  exact kk H' _ e2 (hP.set hD he ⟨_, hc, t_OB.to (V := updV (vp_V fs) k v) ⟨_, e1, q2, q3, t_set q4 hap hk v⟩ (fun j _ => vp_updV_set hl v j)⟩ e3) (hD.set he) (hS0.put e2 e3 (hD.2 q0 _ he))
theorem va_iastZ (hexec : p.tables.exec = Jvm.exec) (hb : c.code = cc) (hK : va_K D cl tys s) (hP : va_P D cl ws H) (hD : va_D A ws) (hS : va_S A H0 H locs) (q0 t0 : Nat) {cA : ClassId} {n : Nat} {f : Nat → Int32} (ha : ws[q0]? = some (a, .inl (cA, n, .inl f))) (ht : tys[t0]? = some (cA, .int)) {i : Int32} {x : Int32} (hin : vp_in i n) (hdg : decode cc pc = .ok (.iastore, 1))
    (kk : ∀ (H1 : Heap) (locs1 : List Loc), H1.size = H.size → va_P D cl (ws.set q0 (a, .inl (cA, n, .inl (upd f i.toNatClampNeg x)))) H1 → va_D A (ws.set q0 (a, .inl (cA, n, .inl (upd f i.toNatClampNeg x)))) → va_S A H0 H1 locs1 → W p l e R s m args below meth c H1 locs1 cells slots Q (F0 m (pc + 1) ls rest)) : W p l e R s m args below meth c H locs cells slots Q (F0 m pc ls (.int x :: .int i :: .ref a :: rest)) := by
  refine W.iast hexec hb (hP q0 _ ha) ((hK.2 t0 _ ht).1 n (fun j => .int (f j))) (fun q => by cases q) (by show ¬ (i < 0 ∨ (arrV _ _ _).slots.size ≤ _); rw [arrV_size]; exact hin) rfl rfl hdg fun H1 e z oq => ?_
  refine kk H1 _ z (hP.set hD ha ?_ oq) (hD.set ha) (hS.put z oq (hD.2 q0 _ ha))
  show H1[a]? = some (vp_cell _ _)
  rw [e]
  rw [vp_cell_i, vp_cell_i, arrV_store]
  congr 2
  funext q
  by_cases hq : q = i.toNatClampNeg
  · subst hq
    simp [updV, upd]
  · simp [updV, upd, hq]
theorem va_zastZ (hexec : p.tables.exec = Jvm.exec) (hb : c.code = cc) (hK : va_K D cl tys s) (hP : va_P D cl ws H) (hD : va_D A ws) (hS : va_S A H0 H locs) (q0 t0 : Nat) {cA : ClassId} {n : Nat} {f : Nat → Int32} (ha : ws[q0]? = some (a, .inl (cA, n, .inl f))) (ht : tys[t0]? = some (cA, .boolean)) {i : Int32} {x : Int32} (hin : vp_in i n) (hdg : decode cc pc = .ok (.bastore, 1))
    (kk : ∀ (H1 : Heap) (locs1 : List Loc), H1.size = H.size → va_P D cl (ws.set q0 (a, .inl (cA, n, .inl (upd f i.toNatClampNeg (vp_nar .boolean x))))) H1 → va_D A (ws.set q0 (a, .inl (cA, n, .inl (upd f i.toNatClampNeg (vp_nar .boolean x))))) → va_S A H0 H1 locs1 → W p l e R s m args below meth c H1 locs1 cells slots Q (F0 m (pc + 1) ls rest)) : W p l e R s m args below meth c H locs cells slots Q (F0 m pc ls (.int x :: .int i :: .ref a :: rest)) := by
  refine W.zast hexec hb (hP q0 _ ha) ((hK.2 t0 _ ht).1 n (fun j => .int (f j))) (fun q => by cases q) (by show ¬ (i < 0 ∨ (arrV _ _ _).slots.size ≤ _); rw [arrV_size]; exact hin) rfl rfl hdg fun H1 e z oq => ?_
  refine kk H1 _ z (hP.set hD ha ?_ oq) (hD.set ha) (hS.put z oq (hD.2 q0 _ ha))
  show H1[a]? = some (vp_cell _ _)
  rw [e]
  rw [vp_cell_i, vp_cell_i, arrV_store]
  congr 2
  funext q
  by_cases hq : q = i.toNatClampNeg
  · subst hq
    simp [updV, upd, vp_nar]
    try rfl
  · simp [updV, upd, hq]
theorem va_copyZ (hexec : p.tables.exec = Jvm.exec) (hb : c.code = cc) (hml : c.maxLocals = ls.size) {own : String} {index : Nat} (hown : s.vm.findClass own = some m.cls) (hlink : (Cond.methodLink own index arraycopyName).before args s = true) (hnat : (Cond.native arraycopyName).before args s = true) (hstat : (Cond.static arraycopyName).before args s = true) (hini : (Cond.initialized "java/lang/System").before args s = true)
    (hK : va_K D cl tys s) (hP : va_P D cl ws H) (hD : va_D A ws) (hS : va_S A H0 H locs) (q0 q1 t0 t1 : Nat) {a0 : Nat} {c0 c1 : ClassId} {n0 n1 : Nat} {f g : Nat → Int32} {ty : FieldType} (ha0 : ws[q0]? = some (a0, .inl (c0, n0, .inl f))) (ha1 : ws[q1]? = some (a, .inl (c1, n1, .inl g))) (ht0 : tys[t0]? = some (c0, ty)) (ht1 : tys[t1]? = some (c1, ty)) (hprim : refKind ty = false)
    {sp dp n : Int32} (h1 : ¬ sp < 0) (h2 : ¬ dp < 0) (h3 : ¬ n < 0) (h4 : sp.toNatClampNeg + n.toNatClampNeg ≤ n0) (h5 : dp.toNatClampNeg + n.toNatClampNeg ≤ n1) (hfit : ∀ i, i < n.toNatClampNeg → fits ty (.int (f (sp.toNatClampNeg + i))) = true)
    (hframes : 1 ≤ R.frames) (hlocals : (rest.map fun v => v.category).sum + (nativeFrameWords "java/lang/System" "arraycopy" 5 + 11) ≤ R.locals) (hdg : decode cc pc = .ok (.invokestatic index, 3))
    (kk : ∀ (H1 : Heap) (locs1 : List Loc), H1.size = H.size → va_P D cl (ws.set q1 (a, .inl (c1, n1, .inl (va_cpy f g sp.toNatClampNeg dp.toNatClampNeg n.toNatClampNeg)))) H1 → va_D A (ws.set q1 (a, .inl (c1, n1, .inl (va_cpy f g sp.toNatClampNeg dp.toNatClampNeg n.toNatClampNeg)))) → va_S A H0 H1 locs1 → W p l e R s m args below meth c H1 locs1 cells slots Q (F0 m (pc + 3) ls rest)) : W p l e R s m args below meth c H locs cells slots Q (F0 m pc ls (.int n :: .int dp :: .ref a :: .int sp :: .ref a0 :: rest)) := by
  have nn : ∀ z : Int32, ¬ z < 0 → z.toInt = (z.toNatClampNeg : Int) := by
    intro z hz
    have hz0 : (0 : Int) ≤ z.toInt := by
      have := Int32.not_lt.mp hz
      simpa using Int32.le_iff_toInt_le.mp this
    show z.toInt = ((z.toInt.toNat : Nat) : Int)
    omega
  intro T hT X
  have hc0 : H[a0]? = some (vp_cell c0 (n0, .inl f)) := hP q0 _ ha0
  have hc1 : H[a]? = some (vp_cell c1 (n1, .inl g)) := hP q1 _ ha1
  obtain ⟨-, k0, hk0, cm0, hkk0⟩ := (hK.2 t0 _ ht0).1 n0 (fun j => .int (f j))
  obtain ⟨-, k1, hk1, cm1, hkk1⟩ := (hK.2 t1 _ ht1).1 n1 (fun j => .int (g j))
  obtain ⟨vm', X', step⟩ := X.arraycopy hexec hown hlink hnat hstat hini (src := a0) (dst := a) (cs := vp_cell c0 (n0, .inl f)) (cd := vp_cell c1 (n1, .inl g)) (srcPos := sp) (destPos := dp) (n := n) (by rw [hT]; exact hc0) (by rw [hT]; exact hc1)
    (fun _ h => by cases h) (fun _ h => by cases h) (fun h => by cases h) (fun h => by cases h) hk0 hk1 hkk0 hkk1 (by simp [hprim]) h1 h2 h3
    (by rw [nn sp h1, nn n h3]; show ¬ _ > ((arrV c0 n0 (fun j => .int (f j))).slots.size : Int); rw [arrV_size]; omega)
    (by rw [nn dp h2, nn n h3]; show ¬ _ > ((arrV c1 n1 (fun j => .int (g j))).slots.size : Int); rw [arrV_size]; omega)
    (fun vm₁ _ i hi => by
      have e : (vp_cell c0 (n0, .inl f)).slots.getD (sp.toNatClampNeg + i) .null = .int (f (sp.toNatClampNeg + i)) := by
        show (arrV c0 n0 (fun j => .int (f j))).slots.getD _ _ = _
        rw [Array.getD_eq_getD_getElem?, arrV_read _ _ (by omega)]
        rfl
      refine ⟨?_, ?_⟩
      · rw [e]
        exact hfit i hi
      · rw [e]
        exact trivial)
    (g := F0 m pc ls (.int n :: .int dp :: .ref a :: .int sp :: .ref a0 :: rest)) rfl (by rw [hml]) (rest := rest) rfl (by rw [hb]; exact hdg) hframes (by show 2 * 0 + _ + _ ≤ _; omega)
  have e1 : copied (vp_cell c0 (n0, .inl f)) (vp_cell c1 (n1, .inl g)) sp dp n = vp_cell c1 (n1, .inl (va_cpy f g sp.toNatClampNeg dp.toNatClampNeg n.toNatClampNeg)) := va_copied (fun z => .int z) c0 c1 f g h4
  rw [e1] at X' step
  have hl : a < H.size := (Array.getElem?_eq_some_iff.mp hc1).1
  have hheap : ((T.setVm vm').setCell a (vp_cell c1 (n1, .inl (va_cpy f g sp.toNatClampNeg dp.toNatClampNeg n.toNatClampNeg)))).heap = H.setIfInBounds a (vp_cell c1 (n1, .inl (va_cpy f g sp.toNatClampNeg dp.toNatClampNeg n.toNatClampNeg))) := by rw [← hT]; rfl
  have oq : ∀ q : Nat, q ≠ a → (H.setIfInBounds a (vp_cell c1 (n1, .inl (va_cpy f g sp.toNatClampNeg dp.toNatClampNeg n.toNatClampNeg))))[q]? = H[q]? := fun q hq => by simp [Array.getElem?_setIfInBounds, Ne.symm hq]
  obtain ⟨t, a1, b1⟩ := kk _ _ (by simp) (hP.set hD ha1 (show (H.setIfInBounds a _)[a]? = some _ by simp [Array.getElem?_setIfInBounds, hl]) oq) (hD.set ha1) ⟨by simp; exact hS.1, fun q g1 g2 => by
      rw [oq q (fun e => g2 (by rw [e]; exact hD.2 q1 _ ha1))]
      exact hS.2.1 q g1 g2, fun q hq => by
      rcases List.mem_append.mp hq with h | h
      · exact hS.2.2 q h
      · obtain ⟨z, -, hz⟩ := List.mem_map.mp h
        rw [← hz]
        exact hD.2 q1 _ ha1⟩ _ hheap X'
  exact ⟨t, step t a1, b1⟩
end GZ
section GR
variable {X : XT} {own : String} {cc : ByteArray} {b : Nat} {K ln : Nat → Nat} {M nL d cs sl N sz pc : Nat} {L : List (Nat × Value)} {st : List Value} {h : HH} {r : RR}
theorem g_iconst (hX : XOK X own cc nL d) {n : Int} {v : Int32} (hdg : decode cc pc = .ok (.iconst n, 1)) (hv : Int32.ofInt n = v) (kk : GX X b K ln M nL cs sl N sz (pc + 1) L (.int v :: st) h r) : GX X b K ln M nL cs sl N sz pc L (st) h r := by
  obtain ⟨p, l, e, R, s, m, args, below, meth, c, Q, H0, D, ac⟩ := X
  obtain ⟨hx, hb, hml, hown, hts, hK, hlk, hd, hdl, hnw⟩ := hX
  intro H locs ls hW hS hl
  exact lv_iconst hx hb hdg hv (kk H locs ls hW hS hl)
theorem g_bipush (hX : XOK X own cc nL d) {n : Int} {v : Int32} (hdg : decode cc pc = .ok (.bipush n, 2)) (hv : (Int8.ofInt n).toInt32 = v) (kk : GX X b K ln M nL cs sl N sz (pc + 2) L (.int v :: st) h r) : GX X b K ln M nL cs sl N sz pc L (st) h r := by
  obtain ⟨p, l, e, R, s, m, args, below, meth, c, Q, H0, D, ac⟩ := X
  obtain ⟨hx, hb, hml, hown, hts, hK, hlk, hd, hdl, hnw⟩ := hX
  intro H locs ls hW hS hl
  exact lv_bipush hx hb hdg hv (kk H locs ls hW hS hl)
theorem g_sipush (hX : XOK X own cc nL d) {n : Int} {v : Int32} (hdg : decode cc pc = .ok (.sipush n, 3)) (hv : (Int16.ofInt n).toInt32 = v) (kk : GX X b K ln M nL cs sl N sz (pc + 3) L (.int v :: st) h r) : GX X b K ln M nL cs sl N sz pc L (st) h r := by
  obtain ⟨p, l, e, R, s, m, args, below, meth, c, Q, H0, D, ac⟩ := X
  obtain ⟨hx, hb, hml, hown, hts, hK, hlk, hd, hdl, hnw⟩ := hX
  intro H locs ls hW hS hl
  exact lv_sipush hx hb hdg hv (kk H locs ls hW hS hl)
theorem g_ldcw (hX : XOK X own cc nL d) {index : Nat} {v : Int32} (hdg : decode cc pc = .ok (.ldc_w index, 3)) (hw : Cond.constant own index v ∈ lw_tbl) (kk : GX X b K ln M nL cs sl N sz (pc + 3) L (.int v :: st) h r) : GX X b K ln M nL cs sl N sz pc L (st) h r := by
  obtain ⟨p, l, e, R, s, m, args, below, meth, c, Q, H0, D, ac⟩ := X
  obtain ⟨hx, hb, hml, hown, hts, hK, hlk, hd, hdl, hnw⟩ := hX
  intro H locs ls hW hS hl
  exact lv_ldcw hx hb hown (hts _ (lw_g hw rfl)) hdg (kk H locs ls hW hS hl)
theorem g_iload_n (hX : XOK X own cc nL d) {k : Fin 4} {i j : Nat} {x : Int32} (hdg : decode cc pc = .ok (.iload_n k, 1)) (hi : (k : Nat) = i) (hj : L[j]? = some (i, .int x)) (kk : GX X b K ln M nL cs sl N sz (pc + 1) L (.int x :: st) h r) : GX X b K ln M nL cs sl N sz pc L (st) h r := by
  obtain ⟨p, l, e, R, s, m, args, below, meth, c, Q, H0, D, ac⟩ := X
  obtain ⟨hx, hb, hml, hown, hts, hK, hlk, hd, hdl, hnw⟩ := hX
  intro H locs ls hW hS hl
  exact lv_iload_n hx hb hdg hi (lv_at hl j hj) (kk H locs ls hW hS hl)
theorem g_iload (hX : XOK X own cc nL d) {i j : Nat} {x : Int32} (hdg : decode cc pc = .ok (.iload i, 2)) (hj : L[j]? = some (i, .int x)) (kk : GX X b K ln M nL cs sl N sz (pc + 2) L (.int x :: st) h r) : GX X b K ln M nL cs sl N sz pc L (st) h r := by
  obtain ⟨p, l, e, R, s, m, args, below, meth, c, Q, H0, D, ac⟩ := X
  obtain ⟨hx, hb, hml, hown, hts, hK, hlk, hd, hdl, hnw⟩ := hX
  intro H locs ls hW hS hl
  exact lv_iload hx hb hdg (lv_at hl j hj) (kk H locs ls hW hS hl)
theorem g_aload_n (hX : XOK X own cc nL d) {k : Fin 4} {i j : Nat} {x : Nat} (hdg : decode cc pc = .ok (.aload_n k, 1)) (hi : (k : Nat) = i) (hj : L[j]? = some (i, .ref x)) (kk : GX X b K ln M nL cs sl N sz (pc + 1) L (.ref x :: st) h r) : GX X b K ln M nL cs sl N sz pc L (st) h r := by
  obtain ⟨p, l, e, R, s, m, args, below, meth, c, Q, H0, D, ac⟩ := X
  obtain ⟨hx, hb, hml, hown, hts, hK, hlk, hd, hdl, hnw⟩ := hX
  intro H locs ls hW hS hl
  exact lv_aload_n hx hb hdg hi (lv_at hl j hj) (kk H locs ls hW hS hl)
theorem g_aload (hX : XOK X own cc nL d) {i j : Nat} {x : Nat} (hdg : decode cc pc = .ok (.aload i, 2)) (hj : L[j]? = some (i, .ref x)) (kk : GX X b K ln M nL cs sl N sz (pc + 2) L (.ref x :: st) h r) : GX X b K ln M nL cs sl N sz pc L (st) h r := by
  obtain ⟨p, l, e, R, s, m, args, below, meth, c, Q, H0, D, ac⟩ := X
  obtain ⟨hx, hb, hml, hown, hts, hK, hlk, hd, hdl, hnw⟩ := hX
  intro H locs ls hW hS hl
  exact lv_aload hx hb hdg (lv_at hl j hj) (kk H locs ls hW hS hl)
theorem g_iadd (hX : XOK X own cc nL d) {x y : Int32} (hdg : decode cc pc = .ok (.iadd, 1)) (kk : GX X b K ln M nL cs sl N sz (pc + 1) L (.int (x + y) :: st) h r) : GX X b K ln M nL cs sl N sz pc L (.int y :: .int x :: st) h r := by
  obtain ⟨p, l, e, R, s, m, args, below, meth, c, Q, H0, D, ac⟩ := X
  obtain ⟨hx, hb, hml, hown, hts, hK, hlk, hd, hdl, hnw⟩ := hX
  intro H locs ls hW hS hl
  exact lv_iadd hx hb hdg (kk H locs ls hW hS hl)
theorem g_isub (hX : XOK X own cc nL d) {x y : Int32} (hdg : decode cc pc = .ok (.isub, 1)) (kk : GX X b K ln M nL cs sl N sz (pc + 1) L (.int (x - y) :: st) h r) : GX X b K ln M nL cs sl N sz pc L (.int y :: .int x :: st) h r := by
  obtain ⟨p, l, e, R, s, m, args, below, meth, c, Q, H0, D, ac⟩ := X
  obtain ⟨hx, hb, hml, hown, hts, hK, hlk, hd, hdl, hnw⟩ := hX
  intro H locs ls hW hS hl
  exact lv_isub hx hb hdg (kk H locs ls hW hS hl)
theorem g_imul (hX : XOK X own cc nL d) {x y : Int32} (hdg : decode cc pc = .ok (.imul, 1)) (kk : GX X b K ln M nL cs sl N sz (pc + 1) L (.int (x * y) :: st) h r) : GX X b K ln M nL cs sl N sz pc L (.int y :: .int x :: st) h r := by
  obtain ⟨p, l, e, R, s, m, args, below, meth, c, Q, H0, D, ac⟩ := X
  obtain ⟨hx, hb, hml, hown, hts, hK, hlk, hd, hdl, hnw⟩ := hX
  intro H locs ls hW hS hl
  exact lv_imul hx hb hdg (kk H locs ls hW hS hl)
theorem g_iand (hX : XOK X own cc nL d) {x y : Int32} (hdg : decode cc pc = .ok (.iand, 1)) (kk : GX X b K ln M nL cs sl N sz (pc + 1) L (.int (x &&& y) :: st) h r) : GX X b K ln M nL cs sl N sz pc L (.int y :: .int x :: st) h r := by
  obtain ⟨p, l, e, R, s, m, args, below, meth, c, Q, H0, D, ac⟩ := X
  obtain ⟨hx, hb, hml, hown, hts, hK, hlk, hd, hdl, hnw⟩ := hX
  intro H locs ls hW hS hl
  exact lv_iand hx hb hdg (kk H locs ls hW hS hl)
theorem g_ior (hX : XOK X own cc nL d) {x y : Int32} (hdg : decode cc pc = .ok (.ior, 1)) (kk : GX X b K ln M nL cs sl N sz (pc + 1) L (.int (x ||| y) :: st) h r) : GX X b K ln M nL cs sl N sz pc L (.int y :: .int x :: st) h r := by
  obtain ⟨p, l, e, R, s, m, args, below, meth, c, Q, H0, D, ac⟩ := X
  obtain ⟨hx, hb, hml, hown, hts, hK, hlk, hd, hdl, hnw⟩ := hX
  intro H locs ls hW hS hl
  exact lv_ior hx hb hdg (kk H locs ls hW hS hl)
theorem g_ishl (hX : XOK X own cc nL d) {x y : Int32} (hdg : decode cc pc = .ok (.ishl, 1)) (kk : GX X b K ln M nL cs sl N sz (pc + 1) L (.int (x <<< (y &&& 31)) :: st) h r) : GX X b K ln M nL cs sl N sz pc L (.int y :: .int x :: st) h r := by
  obtain ⟨p, l, e, R, s, m, args, below, meth, c, Q, H0, D, ac⟩ := X
  obtain ⟨hx, hb, hml, hown, hts, hK, hlk, hd, hdl, hnw⟩ := hX
  intro H locs ls hW hS hl
  exact lv_ishl hx hb hdg (kk H locs ls hW hS hl)
theorem g_idiv (hX : XOK X own cc nL d) {x y : Int32} (hdg : decode cc pc = .ok (.idiv, 1)) (hne : ¬ y = 0) (kk : GX X b K ln M nL cs sl N sz (pc + 1) L (.int (x / y) :: st) h r) : GX X b K ln M nL cs sl N sz pc L (.int y :: .int x :: st) h r := by
  obtain ⟨p, l, e, R, s, m, args, below, meth, c, Q, H0, D, ac⟩ := X
  obtain ⟨hx, hb, hml, hown, hts, hK, hlk, hd, hdl, hnw⟩ := hX
  intro H locs ls hW hS hl
  exact lv_idiv hx hb hdg hne (kk H locs ls hW hS hl)
theorem g_irem (hX : XOK X own cc nL d) {x y : Int32} (hdg : decode cc pc = .ok (.irem, 1)) (hne : ¬ y = 0) (kk : GX X b K ln M nL cs sl N sz (pc + 1) L (.int (x - x / y * y) :: st) h r) : GX X b K ln M nL cs sl N sz pc L (.int y :: .int x :: st) h r := by
  obtain ⟨p, l, e, R, s, m, args, below, meth, c, Q, H0, D, ac⟩ := X
  obtain ⟨hx, hb, hml, hown, hts, hK, hlk, hd, hdl, hnw⟩ := hX
  intro H locs ls hW hS hl
  exact lv_irem hx hb hdg hne (kk H locs ls hW hS hl)
theorem g_iushr (hX : XOK X own cc nL d) {x y : Int32} (hdg : decode cc pc = .ok (.iushr, 1)) (kk : GX X b K ln M nL cs sl N sz (pc + 1) L (.int ((x.toUInt32 >>> (y.toUInt32 &&& Int32.toUInt32 31)).toInt32) :: st) h r) : GX X b K ln M nL cs sl N sz pc L (.int y :: .int x :: st) h r := by
  obtain ⟨p, l, e, R, s, m, args, below, meth, c, Q, H0, D, ac⟩ := X
  obtain ⟨hx, hb, hml, hown, hts, hK, hlk, hd, hdl, hnw⟩ := hX
  intro H locs ls hW hS hl
  exact lv_iushr hx hb hdg rfl (kk H locs ls hW hS hl)
theorem g_i2s (hX : XOK X own cc nL d) {x : Int32} (hdg : decode cc pc = .ok (.i2s, 1)) (kk : GX X b K ln M nL cs sl N sz (pc + 1) L (.int (x.toInt16.toInt32) :: st) h r) : GX X b K ln M nL cs sl N sz pc L (.int x :: st) h r := by
  obtain ⟨p, l, e, R, s, m, args, below, meth, c, Q, H0, D, ac⟩ := X
  obtain ⟨hx, hb, hml, hown, hts, hK, hlk, hd, hdl, hnw⟩ := hX
  intro H locs ls hW hS hl
  exact lv_i2s hx hb hdg rfl (kk H locs ls hW hS hl)
theorem g_dup (hX : XOK X own cc nL d) {v : Value} (hdg : decode cc pc = .ok (.dup, 1)) (hv : v.category = 1) (kk : GX X b K ln M nL cs sl N sz (pc + 1) L (v :: v :: st) h r) : GX X b K ln M nL cs sl N sz pc L (v :: st) h r := by
  obtain ⟨p, l, e, R, s, m, args, below, meth, c, Q, H0, D, ac⟩ := X
  obtain ⟨hx, hb, hml, hown, hts, hK, hlk, hd, hdl, hnw⟩ := hX
  intro H locs ls hW hS hl
  exact lv_dup hx hb hdg hv (kk H locs ls hW hS hl)
theorem g_dup2 (hX : XOK X own cc nL d) {v w : Value} (hdg : decode cc pc = .ok (.dup2, 1)) (hv : v.category = 1) (hw : w.category = 1) (kk : GX X b K ln M nL cs sl N sz (pc + 1) L (v :: w :: v :: w :: st) h r) : GX X b K ln M nL cs sl N sz pc L (v :: w :: st) h r := by
  obtain ⟨p, l, e, R, s, m, args, below, meth, c, Q, H0, D, ac⟩ := X
  obtain ⟨hx, hb, hml, hown, hts, hK, hlk, hd, hdl, hnw⟩ := hX
  intro H locs ls hW hS hl
  exact lv_dup2_11 hx hb hdg hv hw (kk H locs ls hW hS hl)
theorem g_pop (hX : XOK X own cc nL d) {v : Value} (hdg : decode cc pc = .ok (.pop, 1)) (hv : v.category = 1) (kk : GX X b K ln M nL cs sl N sz (pc + 1) L (st) h r) : GX X b K ln M nL cs sl N sz pc L (v :: st) h r := by
  obtain ⟨p, l, e, R, s, m, args, below, meth, c, Q, H0, D, ac⟩ := X
  obtain ⟨hx, hb, hml, hown, hts, hK, hlk, hd, hdl, hnw⟩ := hX
  intro H locs ls hW hS hl
  exact lv_pop hx hb hdg hv (kk H locs ls hW hS hl)
theorem g_goto {off : Int} {tgt : Nat} (hX : XOK X own cc nL d) (hdg : decode cc pc = .ok (.goto off, 3)) (ht : (pc : Int) + off = (tgt : Int)) (kk : GX X b K ln M nL cs sl N sz tgt L st h r) : GX X b K ln M nL cs sl N sz pc L st h r := by
  obtain ⟨p, l, e, R, s, m, args, below, meth, c, Q, H0, D, ac⟩ := X
  obtain ⟨hx, hb, hml, hown, hts, hK, hlk, hd, hdl, hnw⟩ := hX
  intro H locs ls hW hS hl
  exact lv_goto hx hb hdg ht (kk H locs ls hW hS hl)
theorem g_if_eq {x : Int32} {off : Int} {tgt : Nat} (hX : XOK X own cc nL d) (hdg : decode cc pc = .ok (.ifCond .eq off, 3)) (ht : (pc : Int) + off = (tgt : Int)) (kt : x = 0 → GX X b K ln M nL cs sl N sz tgt L st h r) (kf : ¬ x = 0 → GX X b K ln M nL cs sl N sz (pc + 3) L st h r) : GX X b K ln M nL cs sl N sz pc L (.int x :: st) h r := by
  obtain ⟨p, l, e, R, s, m, args, below, meth, c, Q, H0, D, ac⟩ := X
  obtain ⟨hx, hb, hml, hown, hts, hK, hlk, hd, hdl, hnw⟩ := hX
  intro H locs ls hW hS hl
  exact lv_if_eq hx hb hdg ht (fun q => kt q H locs ls hW hS hl) (fun q => kf q H locs ls hW hS hl)
theorem g_icmp_eq {x y : Int32} {off : Int} {tgt : Nat} (hX : XOK X own cc nL d) (hdg : decode cc pc = .ok (.if_icmp .eq off, 3)) (ht : (pc : Int) + off = (tgt : Int)) (kt : x = y → GX X b K ln M nL cs sl N sz tgt L st h r) (kf : ¬ x = y → GX X b K ln M nL cs sl N sz (pc + 3) L st h r) : GX X b K ln M nL cs sl N sz pc L (.int y :: .int x :: st) h r := by
  obtain ⟨p, l, e, R, s, m, args, below, meth, c, Q, H0, D, ac⟩ := X
  obtain ⟨hx, hb, hml, hown, hts, hK, hlk, hd, hdl, hnw⟩ := hX
  intro H locs ls hW hS hl
  exact lv_icmp_eq hx hb hdg ht (fun q => kt q H locs ls hW hS hl) (fun q => kf q H locs ls hW hS hl)
theorem g_if_ne {x : Int32} {off : Int} {tgt : Nat} (hX : XOK X own cc nL d) (hdg : decode cc pc = .ok (.ifCond .ne off, 3)) (ht : (pc : Int) + off = (tgt : Int)) (kt : ¬ x = 0 → GX X b K ln M nL cs sl N sz tgt L st h r) (kf : x = 0 → GX X b K ln M nL cs sl N sz (pc + 3) L st h r) : GX X b K ln M nL cs sl N sz pc L (.int x :: st) h r := by
  obtain ⟨p, l, e, R, s, m, args, below, meth, c, Q, H0, D, ac⟩ := X
  obtain ⟨hx, hb, hml, hown, hts, hK, hlk, hd, hdl, hnw⟩ := hX
  intro H locs ls hW hS hl
  exact lv_if_ne hx hb hdg ht (fun q => kt q H locs ls hW hS hl) (fun q => kf q H locs ls hW hS hl)
theorem g_icmp_ne {x y : Int32} {off : Int} {tgt : Nat} (hX : XOK X own cc nL d) (hdg : decode cc pc = .ok (.if_icmp .ne off, 3)) (ht : (pc : Int) + off = (tgt : Int)) (kt : ¬ x = y → GX X b K ln M nL cs sl N sz tgt L st h r) (kf : x = y → GX X b K ln M nL cs sl N sz (pc + 3) L st h r) : GX X b K ln M nL cs sl N sz pc L (.int y :: .int x :: st) h r := by
  obtain ⟨p, l, e, R, s, m, args, below, meth, c, Q, H0, D, ac⟩ := X
  obtain ⟨hx, hb, hml, hown, hts, hK, hlk, hd, hdl, hnw⟩ := hX
  intro H locs ls hW hS hl
  exact lv_icmp_ne hx hb hdg ht (fun q => kt q H locs ls hW hS hl) (fun q => kf q H locs ls hW hS hl)
theorem g_if_lt {x : Int32} {off : Int} {tgt : Nat} (hX : XOK X own cc nL d) (hdg : decode cc pc = .ok (.ifCond .lt off, 3)) (ht : (pc : Int) + off = (tgt : Int)) (kt : x < 0 → GX X b K ln M nL cs sl N sz tgt L st h r) (kf : ¬ x < 0 → GX X b K ln M nL cs sl N sz (pc + 3) L st h r) : GX X b K ln M nL cs sl N sz pc L (.int x :: st) h r := by
  obtain ⟨p, l, e, R, s, m, args, below, meth, c, Q, H0, D, ac⟩ := X
  obtain ⟨hx, hb, hml, hown, hts, hK, hlk, hd, hdl, hnw⟩ := hX
  intro H locs ls hW hS hl
  exact lv_if_lt hx hb hdg ht (fun q => kt q H locs ls hW hS hl) (fun q => kf q H locs ls hW hS hl)
theorem g_icmp_lt {x y : Int32} {off : Int} {tgt : Nat} (hX : XOK X own cc nL d) (hdg : decode cc pc = .ok (.if_icmp .lt off, 3)) (ht : (pc : Int) + off = (tgt : Int)) (kt : x < y → GX X b K ln M nL cs sl N sz tgt L st h r) (kf : ¬ x < y → GX X b K ln M nL cs sl N sz (pc + 3) L st h r) : GX X b K ln M nL cs sl N sz pc L (.int y :: .int x :: st) h r := by
  obtain ⟨p, l, e, R, s, m, args, below, meth, c, Q, H0, D, ac⟩ := X
  obtain ⟨hx, hb, hml, hown, hts, hK, hlk, hd, hdl, hnw⟩ := hX
  intro H locs ls hW hS hl
  exact lv_icmp_lt hx hb hdg ht (fun q => kt q H locs ls hW hS hl) (fun q => kf q H locs ls hW hS hl)
theorem g_if_ge {x : Int32} {off : Int} {tgt : Nat} (hX : XOK X own cc nL d) (hdg : decode cc pc = .ok (.ifCond .ge off, 3)) (ht : (pc : Int) + off = (tgt : Int)) (kt : 0 ≤ x → GX X b K ln M nL cs sl N sz tgt L st h r) (kf : ¬ 0 ≤ x → GX X b K ln M nL cs sl N sz (pc + 3) L st h r) : GX X b K ln M nL cs sl N sz pc L (.int x :: st) h r := by
  obtain ⟨p, l, e, R, s, m, args, below, meth, c, Q, H0, D, ac⟩ := X
  obtain ⟨hx, hb, hml, hown, hts, hK, hlk, hd, hdl, hnw⟩ := hX
  intro H locs ls hW hS hl
  exact lv_if_ge hx hb hdg ht (fun q => kt q H locs ls hW hS hl) (fun q => kf q H locs ls hW hS hl)
theorem g_icmp_ge {x y : Int32} {off : Int} {tgt : Nat} (hX : XOK X own cc nL d) (hdg : decode cc pc = .ok (.if_icmp .ge off, 3)) (ht : (pc : Int) + off = (tgt : Int)) (kt : y ≤ x → GX X b K ln M nL cs sl N sz tgt L st h r) (kf : ¬ y ≤ x → GX X b K ln M nL cs sl N sz (pc + 3) L st h r) : GX X b K ln M nL cs sl N sz pc L (.int y :: .int x :: st) h r := by
  obtain ⟨p, l, e, R, s, m, args, below, meth, c, Q, H0, D, ac⟩ := X
  obtain ⟨hx, hb, hml, hown, hts, hK, hlk, hd, hdl, hnw⟩ := hX
  intro H locs ls hW hS hl
  exact lv_icmp_ge hx hb hdg ht (fun q => kt q H locs ls hW hS hl) (fun q => kf q H locs ls hW hS hl)
theorem g_if_gt {x : Int32} {off : Int} {tgt : Nat} (hX : XOK X own cc nL d) (hdg : decode cc pc = .ok (.ifCond .gt off, 3)) (ht : (pc : Int) + off = (tgt : Int)) (kt : 0 < x → GX X b K ln M nL cs sl N sz tgt L st h r) (kf : ¬ 0 < x → GX X b K ln M nL cs sl N sz (pc + 3) L st h r) : GX X b K ln M nL cs sl N sz pc L (.int x :: st) h r := by
  obtain ⟨p, l, e, R, s, m, args, below, meth, c, Q, H0, D, ac⟩ := X
  obtain ⟨hx, hb, hml, hown, hts, hK, hlk, hd, hdl, hnw⟩ := hX
  intro H locs ls hW hS hl
  exact lv_if_gt hx hb hdg ht (fun q => kt q H locs ls hW hS hl) (fun q => kf q H locs ls hW hS hl)
theorem g_icmp_gt {x y : Int32} {off : Int} {tgt : Nat} (hX : XOK X own cc nL d) (hdg : decode cc pc = .ok (.if_icmp .gt off, 3)) (ht : (pc : Int) + off = (tgt : Int)) (kt : y < x → GX X b K ln M nL cs sl N sz tgt L st h r) (kf : ¬ y < x → GX X b K ln M nL cs sl N sz (pc + 3) L st h r) : GX X b K ln M nL cs sl N sz pc L (.int y :: .int x :: st) h r := by
  obtain ⟨p, l, e, R, s, m, args, below, meth, c, Q, H0, D, ac⟩ := X
  obtain ⟨hx, hb, hml, hown, hts, hK, hlk, hd, hdl, hnw⟩ := hX
  intro H locs ls hW hS hl
  exact lv_icmp_gt hx hb hdg ht (fun q => kt q H locs ls hW hS hl) (fun q => kf q H locs ls hW hS hl)
theorem g_if_le {x : Int32} {off : Int} {tgt : Nat} (hX : XOK X own cc nL d) (hdg : decode cc pc = .ok (.ifCond .le off, 3)) (ht : (pc : Int) + off = (tgt : Int)) (kt : x ≤ 0 → GX X b K ln M nL cs sl N sz tgt L st h r) (kf : ¬ x ≤ 0 → GX X b K ln M nL cs sl N sz (pc + 3) L st h r) : GX X b K ln M nL cs sl N sz pc L (.int x :: st) h r := by
  obtain ⟨p, l, e, R, s, m, args, below, meth, c, Q, H0, D, ac⟩ := X
  obtain ⟨hx, hb, hml, hown, hts, hK, hlk, hd, hdl, hnw⟩ := hX
  intro H locs ls hW hS hl
  exact lv_if_le hx hb hdg ht (fun q => kt q H locs ls hW hS hl) (fun q => kf q H locs ls hW hS hl)
theorem g_icmp_le {x y : Int32} {off : Int} {tgt : Nat} (hX : XOK X own cc nL d) (hdg : decode cc pc = .ok (.if_icmp .le off, 3)) (ht : (pc : Int) + off = (tgt : Int)) (kt : x ≤ y → GX X b K ln M nL cs sl N sz tgt L st h r) (kf : ¬ x ≤ y → GX X b K ln M nL cs sl N sz (pc + 3) L st h r) : GX X b K ln M nL cs sl N sz pc L (.int y :: .int x :: st) h r := by
  obtain ⟨p, l, e, R, s, m, args, below, meth, c, Q, H0, D, ac⟩ := X
  obtain ⟨hx, hb, hml, hown, hts, hK, hlk, hd, hdl, hnw⟩ := hX
  intro H locs ls hW hS hl
  exact lv_icmp_le hx hb hdg ht (fun q => kt q H locs ls hW hS hl) (fun q => kf q H locs ls hW hS hl)
theorem g_istore_n {k : Fin 4} {i : Nat} {x : Int32} {L' : List (Nat × Value)} (hX : XOK X own cc nL d) (hdg : decode cc pc = .ok (.istore_n k, 1)) (hi : (k : Nat) = i) (hn : i < nL) (hl' : (i, Value.int x) :: L.filter (fun q => !(q.1 == i) && !(q.1 + 1 == i && q.2.category == 2)) = L') (kk : GX X b K ln M nL cs sl N sz (pc + 1) L' st h r) : GX X b K ln M nL cs sl N sz pc L (.int x :: st) h r := by
  obtain ⟨p, l, e, R, s, m, args, below, meth, c, Q, H0, D, ac⟩ := X
  obtain ⟨hx, hb, hml, hown, hts, hK, hlk, hd, hdl, hnw⟩ := hX
  intro H locs ls hW hS hl
  exact lv_istore_n hx hb hdg hi hl hn hl' (fun ls' hl2 => kk H locs ls' hW hS hl2)
theorem g_astore_n {k : Fin 4} {i x : Nat} {L' : List (Nat × Value)} (hX : XOK X own cc nL d) (hdg : decode cc pc = .ok (.astore_n k, 1)) (hi : (k : Nat) = i) (hn : i < nL) (hl' : (i, Value.ref x) :: L.filter (fun q => !(q.1 == i) && !(q.1 + 1 == i && q.2.category == 2)) = L') (kk : GX X b K ln M nL cs sl N sz (pc + 1) L' st h r) : GX X b K ln M nL cs sl N sz pc L (.ref x :: st) h r := by
  obtain ⟨p, l, e, R, s, m, args, below, meth, c, Q, H0, D, ac⟩ := X
  obtain ⟨hx, hb, hml, hown, hts, hK, hlk, hd, hdl, hnw⟩ := hX
  intro H locs ls hW hS hl
  exact lv_astore_n hx hb hdg hi hl hn hl' (fun ls' hl2 => kk H locs ls' hW hS hl2)
theorem g_istore {i : Nat} {x : Int32} {L' : List (Nat × Value)} (hX : XOK X own cc nL d) (hdg : decode cc pc = .ok (.istore i, 2)) (hn : i < nL) (hl' : (i, Value.int x) :: L.filter (fun q => !(q.1 == i) && !(q.1 + 1 == i && q.2.category == 2)) = L') (kk : GX X b K ln M nL cs sl N sz (pc + 2) L' st h r) : GX X b K ln M nL cs sl N sz pc L (.int x :: st) h r := by
  obtain ⟨p, l, e, R, s, m, args, below, meth, c, Q, H0, D, ac⟩ := X
  obtain ⟨hx, hb, hml, hown, hts, hK, hlk, hd, hdl, hnw⟩ := hX
  intro H locs ls hW hS hl
  exact lv_istore hx hb hdg hl hn hl' (fun ls' hl2 => kk H locs ls' hW hS hl2)
theorem g_astore {i x : Nat} {L' : List (Nat × Value)} (hX : XOK X own cc nL d) (hdg : decode cc pc = .ok (.astore i, 2)) (hn : i < nL) (hl' : (i, Value.ref x) :: L.filter (fun q => !(q.1 == i) && !(q.1 + 1 == i && q.2.category == 2)) = L') (kk : GX X b K ln M nL cs sl N sz (pc + 2) L' st h r) : GX X b K ln M nL cs sl N sz pc L (.ref x :: st) h r := by
  obtain ⟨p, l, e, R, s, m, args, below, meth, c, Q, H0, D, ac⟩ := X
  obtain ⟨hx, hb, hml, hown, hts, hK, hlk, hd, hdl, hnw⟩ := hX
  intro H locs ls hW hS hl
  exact lv_astore hx hb hdg hl hn hl' (fun ls' hl2 => kk H locs ls' hW hS hl2)
theorem g_iinc {i j : Nat} {n : Int} {x v : Int32} {L' : List (Nat × Value)} (hX : XOK X own cc nL d) (hdg : decode cc pc = .ok (.iinc i n, 3)) (hj : L[j]? = some (i, .int x)) (hv : x + Int32.ofInt n = v) (hn : i < nL) (hl' : (i, Value.int v) :: L.filter (fun q => !(q.1 == i) && !(q.1 + 1 == i && q.2.category == 2)) = L') (kk : GX X b K ln M nL cs sl N sz (pc + 3) L' st h r) : GX X b K ln M nL cs sl N sz pc L st h r := by
  obtain ⟨p, l, e, R, s, m, args, below, meth, c, Q, H0, D, ac⟩ := X
  obtain ⟨hx, hb, hml, hown, hts, hK, hlk, hd, hdl, hnw⟩ := hX
  intro H locs ls hW hS hl
  exact lv_iinc hx hb hdg hl hj hv hn hl' (fun ls' hl2 => kk H locs ls' hW hS hl2)
/-- fewer locals, in another order -/
theorem g_sub (ks : List Nat) {L' : List (Nat × Value)} (hl' : lv_pick L ks = L') (kk : GX X b K ln M nL cs sl N sz pc L' st h r) : GX X b K ln M nL cs sl N sz pc L st h r := by
  obtain ⟨p, l, e, R, s, m, args, below, meth, c, Q, H0, D, ac⟩ := X
  intro H locs ls hW hS hl
  exact kk H locs ls hW hS (lv_sub hl ks hl')
theorem g_tin {dflt lo hi : Int} {offs : Array Int} {len : Nat} {x v : Int32} {off : Int} {tgt : Nat} (hX : XOK X own cc nL d) (hdg : decode cc pc = .ok (.tableswitch dflt lo hi offs, len)) (hv : x = v) (h1 : ¬ v.toInt < lo) (h2 : ¬ hi < v.toInt) (ho : offs[(v.toInt - lo).toNat]? = some off) (ht : (pc : Int) + off = (tgt : Int)) (kk : GX X b K ln M nL cs sl N sz tgt L st h r) : GX X b K ln M nL cs sl N sz pc L (.int x :: st) h r := by
  subst hv
  obtain ⟨p, l, e, R, s, m, args, below, meth, c, Q, H0, D, ac⟩ := X
  obtain ⟨hx, hb, hml, hown, hts, hK, hlk, hd, hdl, hnw⟩ := hX
  intro H locs ls hW hS hl
  exact lv_tableIn hx hb hdg h1 h2 ho ht (kk H locs ls hW hS hl)
theorem g_tout {dflt lo hi : Int} {offs : Array Int} {len : Nat} {x : Int32} {tgt : Nat} (hX : XOK X own cc nL d) (hdg : decode cc pc = .ok (.tableswitch dflt lo hi offs, len)) (hh : x.toInt < lo ∨ hi < x.toInt) (ht : (pc : Int) + dflt = (tgt : Int)) (kk : GX X b K ln M nL cs sl N sz tgt L st h r) : GX X b K ln M nL cs sl N sz pc L (.int x :: st) h r := by
  obtain ⟨p, l, e, R, s, m, args, below, meth, c, Q, H0, D, ac⟩ := X
  obtain ⟨hx, hb, hml, hown, hts, hK, hlk, hd, hdl, hnw⟩ := hX
  intro H locs ls hW hS hl
  exact lv_tableOut hx hb hdg hh ht (kk H locs ls hW hS hl)
/-! fields -/
theorem en_obj {ac : Nat → ClassId} {p ci : Nat} (hc : K p = ci) (h9 : ci < 9) : en ac b K ln h r p = .inr (ci, (List.range (nfl ci)).map (fv b ci (h p) (r p))) := by
  unfold en; rw [hc, if_pos h9]
theorem en_prim {ac : Nat → ClassId} {p ci : Nat} (hc : K p = ci) (h9 : ¬ ci < 9) (h11 : ci < 11) : en ac b K ln h r p = .inl (ac ci, ln p, .inl (h p)) := by
  unfold en; rw [hc, if_neg h9, if_pos h11]
theorem en_refs {ac : Nat → ClassId} {p ci : Nat} (hc : K p = ci) (h9 : ¬ ci < 11) : en ac b K ln h r p = .inl (ac ci, ln p, .inr (.inr (.inr (.inr (fun j => ro b (r p j)))))) := by
  unfold en; rw [hc, if_neg (by omega), if_neg h9]
theorem fv_at {ci k : Nat} {f : Nat → Int32} {g : Nat → Nat} (hk : k < nfl ci) : ((List.range (nfl ci)).map (fv b ci f g))[k]? = some (fv b ci f g k) := by
  rw [List.getElem?_map, List.getElem?_range hk]; rfl
theorem fv_set {ci k : Nat} {f f' : Nat → Int32} {g g' : Nat → Nat} {v : Value} (hk : k < nfl ci) (hv : v = fv b ci f' g' k) (ho : ∀ j, j ≠ k → f' j = f j ∧ g' j = g j) (h00 : ci = 0 → k ≠ 0 → f' 0 = f 0) : ((List.range (nfl ci)).map (fv b ci f g)).set k v = (List.range (nfl ci)).map (fv b ci f' g') := by
  subst hv
  apply List.ext_getElem?
  intro i
  by_cases e : i = k
  · subst e
    rw [List.getElem?_set_self (by simpa using hk), fv_at hk]
  · rw [List.getElem?_set_ne (Ne.symm e), List.getElem?_map, List.getElem?_map]
    by_cases hi : i < nfl ci
    · rw [List.getElem?_range hi]
      have e1 : fv b ci f' g' i = fv b ci f g i := by
        unfold fv
        by_cases c0 : ci = 0 ∧ i = 0
        · rw [if_pos c0, if_pos c0, h00 c0.1 (fun z => e (c0.2.trans z.symm))]
        · rw [if_neg c0, if_neg c0, (ho i e).1, (ho i e).2]
      simp only [Option.map_some, e1]
    · rw [List.getElem?_eq_none (by simp; omega)]; rfl
theorem g_get {index ci k p : Nat} {ref C : String} {T : u_T} {n : Nat} {v : Value} (hX : XOK X own cc nL d) (hdg : decode cc pc = .ok (.getfield index, 3)) (hin : ∀ w ∈ u_ws C T n, w ∈ lwG) (hc : vwCl[ci]? = some (C, T, n)) (hk : k < n) (hn : n = nfl ci) (hlink : Cond.fieldLink own index ref (T k).2.1 (T k).2.2.1 ∈ lw_tbl) (href : ref = (T k).1) (h9 : ci < 9) (hp : K p = ci) (h1 : 1 ≤ p) (h2 : p ≤ N) (hv : fv b ci (h p) (r p) k = v)
    (kk : GX X b K ln M nL cs sl N sz (pc + 3) L (v :: st) h r) : GX X b K ln M nL cs sl N sz pc L (.ref (b + p) :: st) h r := by
  obtain ⟨p, l, e, R, s, m, args, below, meth, c, Q, H0, D, ac⟩ := X
  obtain ⟨hx, hb, hml, hown, hts, hK, hlk, hd, hdl, hnw⟩ := hX
  intro H locs ls hW hS hl
  subst hn
  exact va_get hx hb hts hin hown hK hW.1 _ ((wl_at h1 h2).trans (by rw [en_obj hp h9])) hc k hk (hts _ (lw_g hlink rfl)) (fun x q => by rw [href]; exact q) ((fv_at hk).trans (by rw [hv])) hdg (kk H locs ls hW hS hl)
theorem g_getN {index ci k p : Nat} {ref C host : String} {T : u_T} {n : Nat} {v : Value} (hX : XOK X own cc nL d) (hdg : decode cc pc = .ok (.getfield index, 3)) (hin : ∀ w ∈ u_ws C T n, w ∈ lwG) (hc : vwCl[ci]? = some (C, T, n)) (hk : k < n) (hn : n = nfl ci) (hlink : Cond.fieldLinkNest own index ref (T k).2.1 (T k).2.2.1 host ∈ lwN) (href : ref = (T k).1) (h9 : ci < 9) (hp : K p = ci) (h1 : 1 ≤ p) (h2 : p ≤ N) (hv : fv b ci (h p) (r p) k = v)
    (kk : GX X b K ln M nL cs sl N sz (pc + 3) L (v :: st) h r) : GX X b K ln M nL cs sl N sz pc L (.ref (b + p) :: st) h r := by
  obtain ⟨p, l, e, R, s, m, args, below, meth, c, Q, H0, D, ac⟩ := X
  obtain ⟨hx, hb, hml, hown, hts, hK, hlk, hd, hdl, hnw⟩ := hX
  intro H locs ls hW hS hl
  subst hn
  exact va_getN hx hb hts hin hown hK hW.1 _ ((wl_at h1 h2).trans (by rw [en_obj hp h9])) hc k hk (va_Nw.use rfl (hnw _ hlink)) (fun x q => by rw [href]; exact q) ((fv_at hk).trans (by rw [hv])) hdg (kk H locs ls hW hS hl)
theorem g_putI {index ci k p : Nat} {ref C : String} {T : u_T} {n : Nat} {ty0 : Nat → FieldType} {ty : FieldType} {x : Int32} (hX : XOK X own cc nL d) (hdg : decode cc pc = .ok (.putfield index, 3)) (hin : ∀ w ∈ u_ws C T n, w ∈ lwG) (hty : ∀ k, k < n → parseFieldDescriptor (T k).2.2.1 = some (ty0 k)) (hnm : ∀ a, a < n → ∀ b, b < n → a ≠ b → (T a).2.1 ≠ (T b).2.1) (hc : vwCl[ci]? = some (C, T, n)) (hk : k < n) (hn : n = nfl ci) (hlink : Cond.fieldLink own index ref (T k).2.1 (T k).2.2.1 ∈ lw_tbl) (href : ref = (T k).1) (hfin : (T k).2.2.2 = false) (hd0 : parseFieldDescriptor (T k).2.2.1 = some ty) (hnr : narrow ty (.int x) = .int x) (hft : fits ty (.int x) = true) (h9 : ci < 9) (hs : ¬ sty ci k < 16) (hk0 : ¬ (ci = 0 ∧ k = 0)) (hp : K p = ci) (h1 : 1 ≤ p) (h2 : p ≤ N) (hM : N ≤ M)
    (kk : GX X b K ln M nL cs sl N sz (pc + 3) L st (up h p k x) r) : GX X b K ln M nL cs sl N sz pc L (.int x :: .ref (b + p) :: st) h r := by
  obtain ⟨p', l, e, R, s, m, args, below, meth, c, Q, H0, D, ac⟩ := X
  obtain ⟨hx, hb, hml, hown, hts, hK, hlk, hd, hdl, hnw⟩ := hX
  intro H locs ls hW hS hl
  subst hn
  have hsz : H.size = sz := hW.2.2
  refine va_putZ hx hb hts hin ty0 hty hnm hown hK hW.1 (wl_D hM) hS (p - 1) ((wl_at h1 h2).trans (by rw [en_obj hp h9])) hc k hk (hts _ (lw_g hlink rfl)) (fun x q => by rw [href]; exact q) hfin hd0 hnr hft (by simpa using hk) hdg (fun H1 locs1 hz hP hD hS1 => ?_)
  refine kk H1 locs1 ls ⟨?_, bw_up hW.2.1 (fun e => by omega), hz.trans hsz⟩ hS1 hl
  rw [← wl_set (h := h) (r := r) h1 h2 (fun q hq => ⟨up_ne hq, rfl⟩) (e := .inr (ci, ((List.range (nfl ci)).map (fv b ci (h p) (r p))).set k (.int x))) ?_]
  · exact hP
  · rw [en_obj hp h9, fv_set (f' := up h p k x p) (g' := r p) hk (by unfold fv; rw [if_neg hk0, if_neg hs]; simp [up]) (fun j hj => ⟨by simp [up, hj], rfl⟩) (fun _ z => by simp [up, Ne.symm z])]
theorem g_putW {index ci k p q : Nat} {ref C : String} {T : u_T} {n : Nat} {ty0 : Nat → FieldType} {ty : FieldType} (hX : XOK X own cc nL d) (hdg : decode cc pc = .ok (.putfield index, 3)) (hin : ∀ w ∈ u_ws C T n, w ∈ lwG) (hty : ∀ k, k < n → parseFieldDescriptor (T k).2.2.1 = some (ty0 k)) (hnm : ∀ a, a < n → ∀ b, b < n → a ≠ b → (T a).2.1 ≠ (T b).2.1) (hc : vwCl[ci]? = some (C, T, n)) (hk : k < n) (hn : n = nfl ci) (hlink : Cond.fieldLink own index ref (T k).2.1 (T k).2.2.1 ∈ lw_tbl) (href : ref = (T k).1) (hfin : (T k).2.2.2 = false) (hd0 : parseFieldDescriptor (T k).2.2.1 = some ty) (hnr : ∀ a, narrow ty (.ref a) = .ref a) (hft : ∀ a, fits ty (.ref a) = true) (hc0 : ci = 0) (hk0 : k = 0) (hp : K p = ci) (h1 : 1 ≤ p) (h2 : p ≤ N) (hq1 : 1 ≤ q) (hq2 : q < 2 ^ 31) (hM : N ≤ M)
    (kk : GX X b K ln M nL cs sl N sz (pc + 3) L st (up h p 0 (nI q)) r) : GX X b K ln M nL cs sl N sz pc L (.ref (b + q) :: .ref (b + p) :: st) h r := by
  obtain ⟨p', l, e, R, s, m, args, below, meth, c, Q, H0, D, ac⟩ := X
  obtain ⟨hx, hb, hml, hown, hts, hK, hlk, hd, hdl, hnw⟩ := hX
  intro H locs ls hW hS hl
  subst hn
  subst hc0
  subst hk0
  have hsz : H.size = sz := hW.2.2
  refine va_putZ hx hb hts hin ty0 hty hnm hown hK hW.1 (wl_D hM) hS (p - 1) ((wl_at h1 h2).trans (by rw [en_obj hp (by decide)])) hc 0 hk (hts _ (lw_g hlink rfl)) (fun x q => by rw [href]; exact q) hfin hd0 (hnr _) (hft _) (by simpa using hk) hdg (fun H1 locs1 hz hP hD hS1 => ?_)
  refine kk H1 locs1 ls ⟨?_, bw_up hW.2.1 (fun e => by omega), hz.trans hsz⟩ hS1 hl
  rw [← wl_set (h := h) (r := r) h1 h2 (fun q hq => ⟨up_ne hq, rfl⟩) (e := .inr (0, ((List.range (nfl 0)).map (fv b 0 (h p) (r p))).set 0 (.ref (b + q)))) ?_]
  · exact hP
  · have e9 : ix (up h p 0 (nI q) p 0) = q := by
      have e8 : up h p 0 (nI q) p 0 = nI q := by simp [up]
      rw [e8]
      exact nI_clamp hq2
    rw [en_obj hp (by decide), fv_set (f' := up h p 0 (nI q) p) (g' := r p) hk (by unfold fv; rw [if_pos ⟨rfl, rfl⟩, e9, rv_ne hq1]) (fun j hj => ⟨by simp [up, hj], rfl⟩) (fun _ z => absurd rfl z)]
theorem g_putR {index ci k p q : Nat} {ref C : String} {T : u_T} {n : Nat} {ty0 : Nat → FieldType} {ty : FieldType} (hX : XOK X own cc nL d) (hdg : decode cc pc = .ok (.putfield index, 3)) (hin : ∀ w ∈ u_ws C T n, w ∈ lwG) (hty : ∀ k, k < n → parseFieldDescriptor (T k).2.2.1 = some (ty0 k)) (hnm : ∀ a, a < n → ∀ b, b < n → a ≠ b → (T a).2.1 ≠ (T b).2.1) (hc : vwCl[ci]? = some (C, T, n)) (hk : k < n) (hn : n = nfl ci) (hlink : Cond.fieldLink own index ref (T k).2.1 (T k).2.2.1 ∈ lw_tbl) (href : ref = (T k).1) (hfin : (T k).2.2.2 = false) (hd0 : parseFieldDescriptor (T k).2.2.1 = some ty) (hnr : ∀ a, narrow ty (.ref a) = .ref a) (hft : ∀ a, fits ty (.ref a) = true) (h9 : ci < 9) (hs : sty ci k < 16) (hk0 : ¬ (ci = 0 ∧ k = 0)) (hp : K p = ci) (h1 : 1 ≤ p) (h2 : p ≤ N) (hq1 : 1 ≤ q) (hM : N ≤ M)
    (kk : GX X b K ln M nL cs sl N sz (pc + 3) L st h (upR r p k q)) : GX X b K ln M nL cs sl N sz pc L (.ref (b + q) :: .ref (b + p) :: st) h r := by
  obtain ⟨p', l, e, R, s, m, args, below, meth, c, Q, H0, D, ac⟩ := X
  obtain ⟨hx, hb, hml, hown, hts, hK, hlk, hd, hdl, hnw⟩ := hX
  intro H locs ls hW hS hl
  subst hn
  have hsz : H.size = sz := hW.2.2
  refine va_putZ hx hb hts hin ty0 hty hnm hown hK hW.1 (wl_D hM) hS (p - 1) ((wl_at h1 h2).trans (by rw [en_obj hp h9])) hc k hk (hts _ (lw_g hlink rfl)) (fun x q => by rw [href]; exact q) hfin hd0 (hnr _) (hft _) (by simpa using hk) hdg (fun H1 locs1 hz hP hD hS1 => ?_)
  refine kk H1 locs1 ls ⟨?_, hW.2.1, hz.trans hsz⟩ hS1 hl
  rw [← wl_set (h := h) (r := r) h1 h2 (fun q hq => ⟨rfl, upR_ne hq⟩) (e := .inr (ci, ((List.range (nfl ci)).map (fv b ci (h p) (r p))).set k (.ref (b + q)))) ?_]
  · exact hP
  · rw [en_obj hp h9, fv_set (f' := h p) (g' := upR r p k q p) hk (by unfold fv; rw [if_neg hk0, if_pos hs]; simp [upR, rv_ne hq1]) (fun j hj => ⟨rfl, by simp [upR, hj]⟩) (fun _ _ => rfl)]
/-! arrays -/
theorem g_iald {p : Nat} {i : Int32} (hX : XOK X own cc nL d) (hdg : decode cc pc = .ok (.iaload, 1)) (hp : K p = 9) (h1 : 1 ≤ p) (h2 : p ≤ N) (hin : inb i (ln p) = true)
    (kk : GX X b K ln M nL cs sl N sz (pc + 1) L (.int (h p (ix i)) :: st) h r) : GX X b K ln M nL cs sl N sz pc L (.int i :: .ref (b + p) :: st) h r := by
  obtain ⟨p', l, e, R, s, m, args, below, meth, c, Q, H0, D, ac⟩ := X
  obtain ⟨hx, hb, hml, hown, hts, hK, hlk, hd, hdl, hnw⟩ := hX
  intro H locs ls hW hS hl
  exact va_iald hx hb hK hW.1 (p - 1) 0 ((wl_at h1 h2).trans (by rw [en_prim hp (by decide) (by decide)])) rfl (inb_in hin) hdg (kk H locs ls hW hS hl)
theorem g_bald {p : Nat} {i : Int32} (hX : XOK X own cc nL d) (hdg : decode cc pc = .ok (.baload, 1)) (hp : K p = 10) (h1 : 1 ≤ p) (h2 : p ≤ N) (hin : inb i (ln p) = true)
    (kk : GX X b K ln M nL cs sl N sz (pc + 1) L (.int (h p (ix i)) :: st) h r) : GX X b K ln M nL cs sl N sz pc L (.int i :: .ref (b + p) :: st) h r := by
  obtain ⟨p', l, e, R, s, m, args, below, meth, c, Q, H0, D, ac⟩ := X
  obtain ⟨hx, hb, hml, hown, hts, hK, hlk, hd, hdl, hnw⟩ := hX
  intro H locs ls hW hS hl
  exact va_zald hx hb hK hW.1 (p - 1) 1 ((wl_at h1 h2).trans (by rw [en_prim hp (by decide) (by decide)])) rfl (inb_in hin) hdg (kk H locs ls hW hS hl)
theorem tys_ref {ac : Nat → ClassId} {ci : Nat} (h1 : ¬ ci < 11) (h2 : ci < 16) : ∃ ty : FieldType, (tysX ac)[ci - 9]? = some (ac ci, ty) ∧ ty.isReference = true := by
  rcases (show ci = 11 ∨ ci = 12 ∨ ci = 13 ∨ ci = 14 ∨ ci = 15 by omega) with rfl | rfl | rfl | rfl | rfl <;> exact ⟨_, rfl, rfl⟩
theorem g_aald {p ci : Nat} {i : Int32} (hX : XOK X own cc nL d) (hdg : decode cc pc = .ok (.aaload, 1)) (hp : K p = ci) (hc1 : ¬ ci < 11) (hc2 : ci < 16) (h1 : 1 ≤ p) (h2 : p ≤ N) (hin : inb i (ln p) = true) (hq : 1 ≤ r p (ix i))
    (kk : GX X b K ln M nL cs sl N sz (pc + 1) L (.ref (b + r p (ix i)) :: st) h r) : GX X b K ln M nL cs sl N sz pc L (.int i :: .ref (b + p) :: st) h r := by
  obtain ⟨p', l, e, R, s, m, args, below, meth, c, Q, H0, D, ac⟩ := X
  obtain ⟨hx, hb, hml, hown, hts, hK, hlk, hd, hdl, hnw⟩ := hX
  intro H locs ls hW hS hl
  obtain ⟨ty, ht, hr⟩ := tys_ref (ac := ac) hc1 hc2
  have hin : vp_in i (ln p) := inb_in hin
  have hlt : i.toNatClampNeg < ln p := Nat.not_le.mp fun q => hin (Or.inr q)
  have hcell := hW.1 (p - 1) _ ((wl_at h1 h2).trans (by rw [en_refs hp hc1]))
  exact W.aald (v := .ref (b + r p (ix i))) (ty := ty) hx hb hcell ((hK.2 _ _ ht).1 (ln p) (fun j => va_rf (ro b (r p j)))) hr (fun q => by cases q) (by show ¬ (i < 0 ∨ (arrV _ _ _).slots.size ≤ _); rw [arrV_size]; exact hin) (by show (arrV _ _ _).slots[_]? = _; rw [arrV_read _ _ hlt, rv_ro, ← rv_ne hq]; rfl) rfl rfl hdg (kk H locs ls hW hS hl)
theorem g_iast {p : Nat} {i x : Int32} (hX : XOK X own cc nL d) (hdg : decode cc pc = .ok (.iastore, 1)) (hp : K p = 9) (h1 : 1 ≤ p) (h2 : p ≤ N) (hM : N ≤ M) (hin : inb i (ln p) = true) {h9 : HH} (he9 : h9 = up h p (ix i) x)
    (kk : GX X b K ln M nL cs sl N sz (pc + 1) L st h9 r) : GX X b K ln M nL cs sl N sz pc L (.int x :: .int i :: .ref (b + p) :: st) h r := by
  obtain ⟨p', l, e, R, s, m, args, below, meth, c, Q, H0, D, ac⟩ := X
  obtain ⟨hx, hb, hml, hown, hts, hK, hlk, hd, hdl, hnw⟩ := hX
  intro H locs ls hW hS hl
  subst he9
  refine va_iastZ hx hb hK hW.1 (wl_D hM) hS (p - 1) 0 ((wl_at h1 h2).trans (by rw [en_prim hp (by decide) (by decide)])) rfl (inb_in hin) hdg (fun H1 locs1 hz hP hD hS1 => ?_)
  refine kk H1 locs1 ls ⟨?_, bw_up hW.2.1 (fun e => by omega), hz.trans hW.2.2⟩ hS1 hl
  rw [← wl_set (h := h) (r := r) h1 h2 (fun q hq => ⟨up_ne hq, rfl⟩) (e := .inl (ac 9, ln p, .inl (upd (h p) i.toNatClampNeg x))) ?_]
  · exact hP
  · rw [en_prim hp (by decide) (by decide)]; congr; funext j; simp [upd, up, ix]
theorem g_bast {p : Nat} {i x : Int32} (hX : XOK X own cc nL d) (hdg : decode cc pc = .ok (.bastore, 1)) (hp : K p = 10) (h1 : 1 ≤ p) (h2 : p ≤ N) (hM : N ≤ M) (hin : inb i (ln p) = true) {h9 : HH} (he9 : h9 = up h p (ix i) (zn x))
    (kk : GX X b K ln M nL cs sl N sz (pc + 1) L st h9 r) : GX X b K ln M nL cs sl N sz pc L (.int x :: .int i :: .ref (b + p) :: st) h r := by
  obtain ⟨p', l, e, R, s, m, args, below, meth, c, Q, H0, D, ac⟩ := X
  obtain ⟨hx, hb, hml, hown, hts, hK, hlk, hd, hdl, hnw⟩ := hX
  intro H locs ls hW hS hl
  subst he9
  refine va_zastZ hx hb hK hW.1 (wl_D hM) hS (p - 1) 1 ((wl_at h1 h2).trans (by rw [en_prim hp (by decide) (by decide)])) rfl (inb_in hin) hdg (fun H1 locs1 hz hP hD hS1 => ?_)
  refine kk H1 locs1 ls ⟨?_, bw_up hW.2.1 (fun _ => zn_01 x), hz.trans hW.2.2⟩ hS1 hl
  rw [← wl_set (h := h) (r := r) h1 h2 (fun q hq => ⟨up_ne hq, rfl⟩) (e := .inl (ac 10, ln p, .inl (upd (h p) i.toNatClampNeg (vp_nar .boolean x)))) ?_]
  · exact hP
  · rw [en_prim hp (by decide) (by decide)]; congr; funext j; simp [upd, up, ix, zn]
theorem g_alen {p ci : Nat} (hX : XOK X own cc nL d) (hdg : decode cc pc = .ok (.arraylength, 1)) (hp : K p = ci) (hc : ci = 9 ∨ ci = 10) (h1 : 1 ≤ p) (h2 : p ≤ N)
    (kk : GX X b K ln M nL cs sl N sz (pc + 1) L (.int (Int32.ofNat (ln p)) :: st) h r) : GX X b K ln M nL cs sl N sz pc L (.ref (b + p) :: st) h r := by
  obtain ⟨p', l, e, R, s, m, args, below, meth, c, Q, H0, D, ac⟩ := X
  obtain ⟨hx, hb, hml, hown, hts, hK, hlk, hd, hdl, hnw⟩ := hX
  intro H locs ls hW hS hl
  rcases hc with rfl | rfl
  · exact va_alen hx hb hK hW.1 (p - 1) 0 ((wl_at h1 h2).trans (by rw [en_prim hp (by decide) (by decide)])) rfl rfl hdg (kk H locs ls hW hS hl)
  · exact va_alen hx hb hK hW.1 (p - 1) 1 ((wl_at h1 h2).trans (by rw [en_prim hp (by decide) (by decide)])) rfl rfl hdg (kk H locs ls hW hS hl)
/-! the ends -/
theorem g_iret {x : Int32} (hX : XOK X own cc nL d) (hdg : decode cc pc = .ok (.ireturn, 1)) (hR : XR X b K ln M (some .int) cs sl N sz (some (.int x)) h r) : GX X b K ln M nL cs sl N sz pc L [.int x] h r := by
  obtain ⟨p, l, e, R, s, m, args, below, meth, c, Q, H0, D, ac⟩ := X
  obtain ⟨hx, hb, hml, hown, hts, hK, hlk, hd, hdl, hnw⟩ := hX
  obtain ⟨rfl, rfl, hr⟩ := hR
  intro H locs ls hW hS hl
  exact W.iret hx hb hr (fun t ht hW2 => ⟨rfl, by rw [ht]; exact hW, hS.F ht⟩) hS.2.2 hdg hlk
theorem g_zret {x : Int32} (hX : XOK X own cc nL d) (hdg : decode cc pc = .ok (.ireturn, 1)) (h01 : x = 0 ∨ x = 1) (hR : XR X b K ln M (some .boolean) cs sl N sz (some (.int x)) h r) : GX X b K ln M nL cs sl N sz pc L [.int x] h r := by
  obtain ⟨p, l, e, R, s, m, args, below, meth, c, Q, H0, D, ac⟩ := X
  obtain ⟨hx, hb, hml, hown, hts, hK, hlk, hd, hdl, hnw⟩ := hX
  obtain ⟨rfl, rfl, hr⟩ := hR
  intro H locs ls hW hS hl
  exact W.zret hx hb hr (by rcases h01 with rfl | rfl <;> rfl) (fun t ht hW2 => ⟨rfl, by rw [ht]; exact hW, hS.F ht⟩) hS.2.2 hdg hlk
theorem g_vret (hX : XOK X own cc nL d) (hdg : decode cc pc = .ok (.return_, 1)) (hR : XR X b K ln M none cs sl N sz none h r) : GX X b K ln M nL cs sl N sz pc L [] h r := by
  obtain ⟨p, l, e, R, s, m, args, below, meth, c, Q, H0, D, ac⟩ := X
  obtain ⟨hx, hb, hml, hown, hts, hK, hlk, hd, hdl, hnw⟩ := hX
  obtain ⟨rfl, rfl, hr⟩ := hR
  intro H locs ls hW hS hl
  exact W.vret hx hb hr (fun t ht hW2 => ⟨rfl, by rw [ht]; exact hW, hS.F ht⟩) hS.2.2 hdg hlk
theorem g_aret {a : Nat} {C : String} (hX : XOK X own cc nL d) (hdg : decode cc pc = .ok (.areturn, 1)) (hR : XR X b K ln M (some (.object C)) cs sl N sz (some (.ref a)) h r) : GX X b K ln M nL cs sl N sz pc L [.ref a] h r := by
  obtain ⟨p, l, e, R, s, m, args, below, meth, c, Q, H0, D, ac⟩ := X
  obtain ⟨hx, hb, hml, hown, hts, hK, hlk, hd, hdl, hnw⟩ := hX
  obtain ⟨rfl, rfl, hr⟩ := hR
  intro H locs ls hW hS hl
  exact W.aret hx hb hr (Or.inl ⟨_, rfl⟩) (Or.inr ⟨_, rfl⟩) (fun t ht hW2 => ⟨rfl, by rw [ht]; exact hW, hS.F ht⟩) hS.2.2 hdg hlk
/-! calls -/
theorem PP_blind {D : va_G} {ac : Nat → ClassId} {as : List Value} : FrameBlind (PP D ac b K ln N sz h r as) := fun a U g mk q => ⟨q.1, q.2.1, va_K.moved (u := U) (U := U.calling g mk a) (Vm.Alike.refl U.vm) q.2.2.1, NWA.same (u := U) (U := U.calling g mk a) rfl q.2.2.2⟩
theorem CT_good {y : MethodName} {bytes : ByteArray} {maxL : Nat} {ret : Option FieldType} (hc : Cond.code y bytes maxL ret ∈ lw_tbl) : GoodIn lwG (.code y bytes maxL ret :: lwG) := by
  intro w hw
  rcases List.mem_cons.mp hw with rfl | hw
  · exact ⟨lw_g hc rfl, Or.inl rfl⟩
  · exact ⟨hw, good_of_word (List.mem_filter.mp hw).2⟩
theorem g_run {rest : List Value} {v : Option Value} {N' sz' mc ms : Nat} {h' : HH} {r' : RR} {p : Program} {l : Launch} {e : Env} {R : Room} {s : State} {m : MethodId} {args : Array Value} {below : List Frame} {meth : Method} {c : Code} {Q : State → Prop} {H0 : Heap} {D : va_G} {ac : Nat → ClassId} {H : Heap} {locs : List Loc} {ls : Array Slot} {a : Array Value}
    (hr : va_Run p l e R s m args below meth c H locs cs sl mc ms (F0 m pc ls st) rest (QQ D ac b K ln M N' sz' v h' r' a) (fr_A b M)) (hS : va_S (fr_A b M) H0 H locs) (hl : lv_has ls nL L)
    (kk : GX (p, l, e, R, s, m, args, below, meth, c, Q, H0, D, ac) b K ln M nL (cs + mc) (sl + ms) N' sz' (pc + 3) L (v.toList ++ rest) h' r') : W p l e R s m args below meth c H locs cs sl Q (F0 m pc ls st) := by
  intro T hT X
  obtain ⟨v', st₀, t, T', L2, h0, X', hL, e1, e2, ⟨hv, hwd, hz, hk⟩, stp⟩ := hr T hT X
  cases hv
  rw [h0] at hz hk
  obtain ⟨t2, a1, b1⟩ := kk T'.heap (locs ++ L2) ls (by rw [e1]; exact hwd) ⟨Nat.le_trans hS.1 (by rw [e1]; exact hz), fun q h1 h2 => by rw [e1, hk q (Nat.lt_of_lt_of_le h1 hS.1) h2]; exact hS.2.1 q h1 h2, fun q hq => by
      rcases List.mem_append.mp hq with h | h
      · exact hS.2.2 q h
      · exact hL q h⟩ hl T' rfl X'
  exact ⟨t2, stp t2 a1, b1⟩
theorem g_callV {As rest stk : List Value} {v : Option Value} {h' : HH} {r' : RR} {C : String} {T : u_T} {index n n9 ci q d0 maxL : Nat} {y : MethodName} {bytes : ByteArray} {ret : Option FieldType} (hX : XOK X own cc nL d) (hdg : decode cc pc = .ok (.invokevirtual index, 3)) (hC : CT y bytes maxL ret d0 b K ln M N sz (.ref (b + q) :: As) h r N sz v h' r' 0 0) (hd0 : d0 + 1 ≤ d) (hmx : maxL ≤ 40)
    (wm : Cond.methodLink own index y ∈ lw_tbl) (wi : Cond.instanceMethod y ∈ lw_tbl) (ws : Cond.selects C y y ∈ lw_tbl) (wz : Cond.initialized C ∈ lw_tbl) (wc : Cond.code y bytes maxL ret ∈ lw_tbl) (hy : y.cls = C ∧ y.cls ≠ "java/lang/invoke/MethodHandle" ∧ y.cls ≠ "java/lang/invoke/VarHandle" ∧ (parseMethodDescriptor y.desc).map (fun d => d.parameters.length) = some n) (hn : As.length = n) (hc : vwCl[ci]? = some (C, T, n9)) (h9 : ci < 9) (hq : K q = ci) (h1 : 1 ≤ q) (h2 : q ≤ N) (hcat : (rest.map fun v => v.category).sum ≤ 8) (hst : st = As.reverse ++ .ref (b + q) :: rest) (hst2 : v.toList ++ rest = stk)
    (kk : GX X b K ln M nL cs sl N sz (pc + 3) L stk h' r') (hcs : cs = 0) (hsl : sl = 0) : GX X b K ln M nL cs sl N sz pc L st h r := by
  obtain ⟨p, l, e, R, s, m, args, below, meth, c, Q, H0, D, ac⟩ := X
  obtain ⟨hx, hb, hml, hown, hts, hK, hlk, hd, hdl, hnw⟩ := hX
  intro H locs ls hW hS hl
  subst hcs; subst hsl; subst hst2
  have hG := CT_good wc
  have hG2 : GoodIn lwG (wsV own index C y (.code y bytes maxL ret :: lwG)) := by
    intro w hw
    rcases List.mem_append.mp hw with hw | hw
    · simp only [List.mem_cons, List.not_mem_nil, or_false] at hw
      rcases hw with rfl | rfl | rfl | rfl
      · exact ⟨lw_g wm rfl, Or.inl rfl⟩
      · exact ⟨lw_g wi rfl, Or.inl rfl⟩
      · exact ⟨lw_g ws rfl, Or.inl rfl⟩
      · exact ⟨lw_g wz rfl, Or.inl rfl⟩
    · exact hG w hw
  have hrun := va_runV (As := As) (rest := rest) (e := e) (g := F0 m pc ls st) (b := b + q) (H := H) (locs := locs) (cells := 0) (slots := 0) (below := below) (meth := meth) ⟨hx, hb, hml, hown, hts⟩ (hC l D ac) (cwV (R := R) n hts hG2 rfl rfl rfl hy ⟨by show d0 + 1 ≤ _; omega, by show 8 + (maxL + 11) + 64 * d0 ≤ _; omega⟩)
    ⟨PP_blind, va_recv hK hW.1 (ci := ci) (q0 := q - 1) hc ((wl_at h1 h2).trans (by rw [en_obj hq h9])), fun U hU hWm => ⟨rfl, by rw [hU]; exact hW, va_K.moved hWm.alike hK, hnw.warm hWm⟩⟩ rfl hn hl.1 hst (by show 2 * 0 + _ ≤ 8; omega) hdg ⟨Nat.zero_le _, Nat.zero_le _⟩
  exact g_run hrun hS hl kk
theorem g_callS {As rest stk : List Value} {v : Option Value} {h' : HH} {r' : RR} {index n d0 maxL : Nat} {y : MethodName} {bytes : ByteArray} {ret : Option FieldType} (hX : XOK X own cc nL d) (hdg : decode cc pc = .ok (.invokestatic index, 3)) (hC : CT y bytes maxL ret d0 b K ln M N sz As h r N sz v h' r' 0 0) (hd0 : d0 + 1 ≤ d) (hmx : maxL ≤ 40)
    (wm : Cond.methodLink own index y ∈ lw_tbl) (wt : Cond.static y ∈ lw_tbl) (wz : Cond.initialized own ∈ lw_tbl) (wc : Cond.code y bytes maxL ret ∈ lw_tbl) (hy : y.cls = own ∧ y.cls ≠ "java/lang/invoke/MethodHandle" ∧ y.cls ≠ "java/lang/invoke/VarHandle" ∧ (parseMethodDescriptor y.desc).map (fun d => d.parameters.length) = some n) (hn : As.length = n) (hcat : (rest.map fun v => v.category).sum ≤ 8) (hst : st = As.reverse ++ rest) (hst2 : v.toList ++ rest = stk)
    (kk : GX X b K ln M nL cs sl N sz (pc + 3) L stk h' r') (hcs : cs = 0) (hsl : sl = 0) : GX X b K ln M nL cs sl N sz pc L st h r := by
  obtain ⟨p, l, e, R, s, m, args, below, meth, c, Q, H0, D, ac⟩ := X
  obtain ⟨hx, hb, hml, hown, hts, hK, hlk, hd, hdl, hnw⟩ := hX
  intro H locs ls hW hS hl
  subst hcs; subst hsl; subst hst2
  have hG := CT_good wc
  have hG2 : GoodIn lwG (wsS own index y (.code y bytes maxL ret :: lwG)) := by
    intro w hw
    rcases List.mem_append.mp hw with hw | hw
    · simp only [List.mem_cons, List.not_mem_nil, or_false] at hw
      rcases hw with rfl | rfl | rfl
      · exact ⟨lw_g wm rfl, Or.inl rfl⟩
      · exact ⟨lw_g wt rfl, Or.inl rfl⟩
      · exact ⟨lw_g wz rfl, Or.inl rfl⟩
    · exact hG w hw
  have hrun := va_runS (As := As) (rest := rest) (e := e) (g := F0 m pc ls st) (H := H) (locs := locs) (cells := 0) (slots := 0) (below := below) (meth := meth) ⟨hx, hb, hml, hown, hts⟩ (hC l D ac) (cwS (R := R) n hts hG2 rfl rfl rfl hy ⟨by show d0 + 1 ≤ _; omega, by show 8 + (maxL + 11) + 64 * d0 ≤ _; omega⟩)
    ⟨PP_blind, fun U hU hWm => ⟨rfl, by rw [hU]; exact hW, va_K.moved hWm.alike hK, hnw.warm hWm⟩⟩ rfl hn hl.1 hst (by show 2 * 0 + _ ≤ 8; omega) hdg ⟨Nat.zero_le _, Nat.zero_le _⟩
  exact g_run hrun hS hl kk
theorem g_callSN {As rest stk : List Value} {v : Option Value} {h' : HH} {r' : RR} {index n d0 maxL : Nat} {y : MethodName} {host : String} {bytes : ByteArray} {ret : Option FieldType} (hX : XOK X own cc nL d) (hdg : decode cc pc = .ok (.invokestatic index, 3)) (hC : CT y bytes maxL ret d0 b K ln M N sz As h r N sz v h' r' 0 0) (hd0 : d0 + 1 ≤ d) (hmx : maxL ≤ 40)
    (wn : Cond.methodLinkNest own index y host ∈ lwN) (wt : Cond.static y ∈ lw_tbl) (wz : Cond.initialized y.cls ∈ lw_tbl) (wc : Cond.code y bytes maxL ret ∈ lw_tbl) (hy : y.cls ≠ "java/lang/invoke/MethodHandle" ∧ y.cls ≠ "java/lang/invoke/VarHandle" ∧ (parseMethodDescriptor y.desc).map (fun d => d.parameters.length) = some n) (hn : As.length = n) (hcat : (rest.map fun v => v.category).sum ≤ 8) (hst : st = As.reverse ++ rest) (hst2 : v.toList ++ rest = stk)
    (kk : GX X b K ln M nL cs sl N sz (pc + 3) L stk h' r') (hcs : cs = 0) (hsl : sl = 0) : GX X b K ln M nL cs sl N sz pc L st h r := by
  obtain ⟨p, l, e, R, s, m, args, below, meth, c, Q, H0, D, ac⟩ := X
  obtain ⟨hx, hb, hml, hown, hts, hK, hlk, hd, hdl, hnw⟩ := hX
  intro H locs ls hW hS hl
  subst hcs; subst hsl; subst hst2
  have hG := CT_good wc
  have hrun := va_runSN (As := As) (rest := rest) (e := e) (g := F0 m pc ls st) (H := H) (locs := locs) (cells := 0) (slots := 0) (below := below) (meth := meth) ⟨hx, hb, hml, hown, hts⟩ (hC l D ac) ⟨va_cnB (R := R) n hts hG rfl rfl rfl (hnw _ wn) (hts _ (lw_g wz rfl)) hy ⟨by show d0 + 1 ≤ _; omega, by show 8 + (maxL + 11) + 64 * d0 ≤ _; omega⟩, hts _ (lw_g wt rfl), trivial⟩
    ⟨PP_blind, fun U hU hWm => ⟨rfl, by rw [hU]; exact hW, va_K.moved hWm.alike hK, hnw.warm hWm⟩⟩ rfl hn hl.1 hst (by show 2 * 0 + _ ≤ 8; omega) hdg ⟨Nat.zero_le _, Nat.zero_le _⟩
  exact g_run hrun hS hl kk
/-! arraycopy, max -/
theorem g_acopy {p q ci index : Nat} {sp dp n : Int32} (hX : XOK X own cc nL d) (hdg : decode cc pc = .ok (.invokestatic index, 3)) (wm : Cond.methodLink own index arraycopyName ∈ lw_tbl) (tp : K p = ci ∧ 1 ≤ p ∧ p ≤ N) (tq : K q = ci ∧ 1 ≤ q ∧ q ≤ N) (hc : ci = 9 ∨ ci = 10) (hM : N ≤ M) (hok : cpok sp dp n (ln p) (ln q) = true) (hd1 : 1 ≤ d) (hcat : (st.map fun v => v.category).sum ≤ 8) {h9 : HH} (he9 : h9 = cpH h p q (ix sp) (ix dp) (ix n))
    (kk : GX X b K ln M nL cs sl N sz (pc + 3) L st h9 r) : GX X b K ln M nL cs sl N sz pc L (.int n :: .int dp :: .ref (b + q) :: .int sp :: .ref (b + p) :: st) h r := by
  obtain ⟨p', l, e, R, s, m, args, below, meth, c, Q, H0, D, ac⟩ := X
  obtain ⟨hx, hb, hml, hown, hts, hK, hlk, hd, hdl, hnw⟩ := hX
  intro H locs ls hW hS hl
  subst he9
  obtain ⟨o1, o2, o3, o4, o5⟩ := cpok_spec hok
  have hlo : (st.map fun v => v.category).sum + (nativeFrameWords "java/lang/System" "arraycopy" 5 + 11) ≤ R.locals := by
    have h9 : nativeFrameWords "java/lang/System" "arraycopy" 5 ≤ 40 := by decide +kernel
    omega
  rcases hc with rfl | rfl
  · refine va_copyZ hx hb (hml.trans hl.1.symm) hown (hts _ (lw_g wm rfl)) (hts _ (lw_g wv_J_arraycopy rfl)) (hts _ (lw_g wt_J_arraycopy rfl)) (hts _ (lw_g wz_J_System rfl)) hK hW.1 (wl_D hM) hS (p - 1) (q - 1) 0 0 ((wl_at tp.2.1 tp.2.2).trans (by rw [en_prim tp.1 (by decide) (by decide)])) ((wl_at tq.2.1 tq.2.2).trans (by rw [en_prim tq.1 (by decide) (by decide)])) rfl rfl rfl o1 o2 o3 o4 o5 (fun i _ => rfl) (by omega) hlo hdg (fun H1 locs1 hz hP hD hS1 => ?_)
    refine kk H1 locs1 ls ⟨?_, bw_cp hW.2.1 (tp.1.trans tq.1.symm), hz.trans hW.2.2⟩ hS1 hl
    rw [← wl_set (h := h) (r := r) tq.2.1 tq.2.2 (fun z hq => ⟨cpH_ne hq, rfl⟩) (e := .inl (ac 9, ln q, .inl (va_cpy (h p) (h q) sp.toNatClampNeg dp.toNatClampNeg n.toNatClampNeg))) ?_]
    · exact hP
    · rw [en_prim tq.1 (by decide) (by decide)]; congr; funext j; simp [cpH, ix]
  · refine va_copyZ hx hb (hml.trans hl.1.symm) hown (hts _ (lw_g wm rfl)) (hts _ (lw_g wv_J_arraycopy rfl)) (hts _ (lw_g wt_J_arraycopy rfl)) (hts _ (lw_g wz_J_System rfl)) hK hW.1 (wl_D hM) hS (p - 1) (q - 1) 1 1 ((wl_at tp.2.1 tp.2.2).trans (by rw [en_prim tp.1 (by decide) (by decide)])) ((wl_at tq.2.1 tq.2.2).trans (by rw [en_prim tq.1 (by decide) (by decide)])) rfl rfl rfl o1 o2 o3 o4 o5 (fun i _ => by rcases hW.2.1 p (sp.toNatClampNeg + i) tp.1 with h | h <;> rw [h] <;> rfl) (by omega) hlo hdg (fun H1 locs1 hz hP hD hS1 => ?_)
    refine kk H1 locs1 ls ⟨?_, bw_cp hW.2.1 (tp.1.trans tq.1.symm), hz.trans hW.2.2⟩ hS1 hl
    rw [← wl_set (h := h) (r := r) tq.2.1 tq.2.2 (fun z hq => ⟨cpH_ne hq, rfl⟩) (e := .inl (ac 10, ln q, .inl (va_cpy (h p) (h q) sp.toNatClampNeg dp.toNatClampNeg n.toNatClampNeg))) ?_]
    · exact hP
    · rw [en_prim tq.1 (by decide) (by decide)]; congr; funext j; simp [cpH, ix]
theorem g_max {x y : Int32} {index : Nat} (hX : XOK X own cc nL d) (hdg : decode cc pc = .ok (.invokestatic index, 3)) (wm : Cond.methodLink own index Lib.Math.max.name ∈ lw_tbl) (hd1 : 1 ≤ d) (hcat : (st.map fun v => v.category).sum ≤ 8) (kk : GX X b K ln M nL cs sl N sz (pc + 3) L (.int (mx x y) :: st) h r) (hcs : cs = 0) (hsl : sl = 0) : GX X b K ln M nL cs sl N sz pc L (.int y :: .int x :: st) h r := by
  subst hcs; subst hsl
  obtain ⟨p', l, e, R, s, m, args, below, meth, c, Q, H0, D, ac⟩ := X
  obtain ⟨hx, hb, hml, hown, hts, hK, hlk, hd, hdl, hnw⟩ := hX
  intro H locs ls hW hS hl
  exact va_mmax hx hb (hml.trans hl.1.symm) hown (hts _ (lw_g wm rfl)) (hts _ (lw_g wt_J_max rfl)) (hts _ (lw_g wz_J_Math rfl)) (hts _ (lw_g wc_J_max rfl)) (by omega) (by omega) (Nat.zero_le _) (Nat.zero_le _) hdg (kk H locs ls hW hS hl)
/-- a method's contract out of the walk of its body -/
theorem CT_of {y : MethodName} {own : String} {cc : ByteArray} {nL d : Nat} {ret : Option FieldType} {as : List Value} {N' sz' mc ms : Nat} {v : Option Value} {h' : HH} {r' : RR} (hy : plainName y.cls = true) (ho : own = y.cls) (hlen : (lg_sl as).length ≤ nL) (hmx : nL ≤ 40) (hnret : True)
    (body : ∀ X : XT, XOK X own cc nL d → XR X b K ln M ret mc ms N' sz' v h' r' → GX X b K ln M nL 0 0 N sz 0 (lv_args 0 as) [] h r) : CT y cc nL ret d b K ln M N sz as h r N' sz' v h' r' mc ms := by
  intro l D ac
  refine Met.ofW (cc := cc) (maxL := nL) (ret := ret) hy rfl ?_
  intro p e s m args below meth c s₁ B hml hv
  obtain ⟨rfl, hW, hK, hnw⟩ := hv
  have hts := atoms_spec (ws := .code y cc nL ret :: lwG) B.pre
  have hl := lv_entry as (n := nL) hlen
  rw [lg_entry_eq]
  subst ho
  exact body (p, l, e, _, s, m, _, below, meth, c, _, s.heap, D, ac) ⟨B.exec, B.bytes, hml, findClass_of_methodNamed B.named, fun w hw => hts w (List.mem_cons_of_mem _ hw), hK, B.notSynchronized, Nat.le_refl _, Nat.le_refl _, hnw⟩ ⟨rfl, rfl, B.returns⟩ s.heap [] _ hW va_S.rf hl
end GR
