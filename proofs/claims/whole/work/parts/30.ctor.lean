/-! the making of objects: a row a making, worlds that grow by a place -/
def AOA (t : FieldType) (U : State) : Prop := (Cond.arrayOver (.array t)).before #[] U = true
theorem AOA.moved {t : FieldType} {u U : State} (hvm : u.vm.Alike U.vm) (h : AOA t u) : AOA t U := by
  have h0 := h
  unfold AOA Cond.before Cond.holds at h
  unfold AOA Cond.before Cond.holds
  simp only [Cond.value, beq_iff_eq] at h ⊢
  cases hc : u.vm.findClass (FieldType.array t).toString with
  | none => simp [hc] at h
  | some comp =>
    simp only [hc, Option.bind_some, Option.bind_eq_some_iff, Option.map_eq_some_iff] at h
    obtain ⟨c, hi, k, hk, hb⟩ := h
    obtain ⟨k', hk', he⟩ := hvm.2.2 _ _ hk
    have e1 := va_idx_bare u.vm comp
    have e2 := va_idx_bare U.vm comp
    have e3 : u.vm.bare = U.vm.bare := by first | exact hvm.bare_eq | exact hvm.bare_eq.symm
    rw [e3] at e1
    have hi2 := e2.symm.trans (e1.trans hi)
    have hkk : k'.kind = k.kind := by rw [he]
    simp only [hvm.findClass, hc, Option.bind_some, Option.bind_eq_some_iff, Option.map_eq_some_iff]
    refine ⟨c, hi2, k', hk', ?_⟩
    rw [hkk]
    exact hb
def AOS (U : State) : Prop := va_AO RX1 U ∧ va_AO RX3 U ∧ va_AO RX5 U ∧ AOA .int U ∧ AOA .boolean U
theorem AOS.moved {u U : State} (hvm : u.vm.Alike U.vm) (h : AOS u) : AOS U := ⟨va_AO.moved hvm h.1, va_AO.moved hvm h.2.1, va_AO.moved hvm h.2.2.1, AOA.moved hvm h.2.2.2.1, AOA.moved hvm h.2.2.2.2⟩
def PPI (D : va_G) (ac : Nat → ClassId) (b : Nat) (K ln : Nat → Nat) (N sz : Nat) (h : HH) (r : RR) (as : List Value) : Array Value → State → Prop := va_Pc as (fun U => WD D ac b K ln N sz h r U.heap ∧ va_K D vwCl (tysX ac) U ∧ NWA U ∧ AOS U)
def CTI (y : MethodName) (cc : ByteArray) (nL d b : Nat) (K ln : Nat → Nat) (M N sz : Nat) (as : List Value) (h : HH) (r : RR) (N' sz' : Nat) (h' : HH) (r' : RR) (mc ms : Nat) : Prop :=
  ∀ (l : Launch) (D : va_G) (ac : Nat → ClassId), Met l y (.code y cc nL none :: lwG) ({ frames := d, cells := mc, slots := ms, locals := 64 * d } : Room) (PPI D ac b K ln N sz h r as) (QQ D ac b K ln M N' sz' none h' r') mc ms (fr_A b M)
def XI (X : XT) (mc ms : Nat) : Prop := match X with
  | (p, l, e, R, s, m, args, below, meth, c, Q, H0, D, ac) => R.cells = mc ∧ R.slots = ms ∧ AOS s
def XN (X : XT) : Prop := match X with
  | (p, l, e, R, s, m, args, below, meth, c, Q, H0, D, ac) => meth.name = "<init>"
def zrow (h : HH) (p : Nat) : HH := fun q k => if q = p then 0 else h q k
def zrowR (r : RR) (p : Nat) : RR := fun q k => if q = p then 0 else r q k
def zrows (h : HH) (N n : Nat) : HH := fun q k => if N < q ∧ q ≤ N + 1 + n then 0 else h q k
def zrowsR (r : RR) (N n : Nat) : RR := fun q k => if q = N + 1 then (if k < n then N + 2 + k else 0) else if N < q ∧ q ≤ N + 1 + n then 0 else r q k
theorem WD_more {D : va_G} {ac : Nat → ClassId} {b N sz k : Nat} {K ln : Nat → Nat} {h h1 : HH} {r r1 : RR} {H H1 : Heap} (hW : WD D ac b K ln N sz h r H) (eh : ∀ q, q ≤ N → h1 q = h q ∧ r1 q = r q) (hb1 : bw K h1) (hz : H1.size = sz + k) (ho : ∀ q, q < H.size → H1[q]? = H[q]?) (hc : ∀ j, j < k → va_at D vwCl (b + (N + j + 1), en ac b K ln h1 r1 (N + j + 1)) H1) : WD D ac b K ln (N + k) (sz + k) h1 r1 H1 := by
  refine ⟨fun j q hq => ?_, hb1, hz⟩
  rw [wl_ix] at hq
  by_cases h1' : j < N + k
  · rw [if_pos h1'] at hq
    cases hq
    by_cases h2 : j < N
    · have h3 := hW.1 j (b + (j + 1), en ac b K ln h r (j + 1)) (by rw [wl_ix, if_pos h2])
      rw [en_congr (eh (j + 1) (by omega)).1 (eh (j + 1) (by omega)).2]
      exact h3.kept (ho _ h3.lt)
    · have h3 := hc (j - N) (by omega)
      rw [show N + (j - N) + 1 = j + 1 by omega] at h3
      exact h3
  · rw [if_neg h1'] at hq; cases hq
theorem bw_zrow {K : Nat → Nat} {h : HH} {p : Nat} (hb : bw K h) : bw K (zrow h p) := by
  intro q i hq
  unfold zrow
  split
  · exact Or.inl rfl
  · exact hb q i hq
theorem bw_zrows {K : Nat → Nat} {h : HH} {N n : Nat} (hb : bw K h) : bw K (zrows h N n) := by
  intro q i hq
  unfold zrows
  split
  · exact Or.inl rfl
  · exact hb q i hq
theorem va_S_up {b M : Nat} {H0 H H1 : Heap} {locs : List Loc} (hS : va_S (fr_A b M) H0 H locs) (hz : H.size ≤ H1.size) (ho : ∀ q, q < H.size → H1[q]? = H[q]?) : va_S (fr_A b M) H0 H1 locs := ⟨Nat.le_trans hS.1 hz, fun q h1 h2 => (ho q (Nat.lt_of_lt_of_le h1 hS.1)).trans (hS.2.1 q h1 h2), hS.2.2⟩
theorem mna_outer (c : ClassId) (N h0 : Nat) : Jvm.Free.Multi.outerC c N h0 N = arrV c N (fun j => va_rf (if j < N then some (h0 + 1 + j) else none)) := by
  have key : ∀ i : Nat, Jvm.Free.Multi.outerC c N h0 i = arrV c N (fun j => va_rf (if j < i then some (h0 + 1 + j) else none)) := by
    intro i
    induction i with
    | zero =>
      show ({ cls := c, slots := Array.replicate N .null, vm := .none } : Cell) = _
      rw [arrV_new]
      refine congrArg (arrV c N) (funext fun j => ?_)
      simp [va_rf]
    | succ i ih =>
      show (Jvm.Free.Multi.outerC c N h0 i).setSlot i (.ref (h0 + 1 + i)) = _
      rw [ih, arrV_store]
      refine congrArg (arrV c N) (funext fun j => ?_)
      by_cases e : j = i
      · subst e
        simp [updV, va_rf]
      · by_cases h : j < i
        · simp [updV, e, h, Nat.lt_succ_of_lt h]
        · simp [updV, e, h, show ¬ j < i + 1 by omega]
  exact key N
section GI
variable {X : XT} {own : String} {cc : ByteArray} {b : Nat} {K ln : Nat → Nat} {M nL d cs sl N sz pc mc ms : Nat} {L : List (Nat × Value)} {st : List Value} {h : HH} {r : RR}
theorem g_oinit {index a : Nat} (hX : XOK X own cc nL d) (hdg : decode cc pc = .ok (.invokespecial index, 3)) (wm : Cond.methodLink own index objectInit ∈ lw_tbl) (hd1 : 1 ≤ d) (hcat : (st.map fun v => v.category).sum ≤ 8) (kk : GX X b K ln M nL cs sl N sz (pc + 3) L st h r) : GX X b K ln M nL cs sl N sz pc L (.ref a :: st) h r := by
  obtain ⟨p, l, e, R, s, m, args, below, meth, c, Q, H0, D, ac⟩ := X
  obtain ⟨hx, hb, hml, hown, hts, hK, hlk, hd, hdl, hnw⟩ := hX
  intro H locs ls hW hS hl
  refine W.objInit hx hb hown (hts _ (lw_g wm rfl)) (hts _ (lw_g wi_objInit rfl)) (hts _ (lw_g wc_J_objInit rfl)) rfl (hl.1.trans hml.symm) rfl hdg (by omega) (by show 2 * 0 + _ + 12 ≤ _; omega) (kk H locs ls hW hS hl)
theorem g_new {index ci n : Nat} {C : String} {T : u_T} {ty0 : Nat → FieldType} {h1 : HH} {r1 : RR} (hX : XOK X own cc nL d) (hI : XI X mc ms) (hdg : decode cc pc = .ok (.new index, 3)) (wl0 : Cond.classLink own index C ∈ lw_tbl) (wx : Cond.instantiable C n ∈ lw_tbl) (wz : Cond.initialized C ∈ lw_tbl) (hin : ∀ w ∈ u_ws C T n, w ∈ lwG) (hty : ∀ k, k < n → parseFieldDescriptor (T k).2.2.1 = some (ty0 k)) (hc : vwCl[ci]? = some (C, T, n)) (hn : n = nfl ci) (h9 : ci < 9) (hdf : ∀ j, j < n → defaultValue (ty0 j) = fv b ci (fun _ => 0) (fun _ => 0) j) (hk : K (N + 1) = ci) (hsz : sz = b + N + 1) (hNM : N + 1 ≤ M) (hcs : cs + 1 ≤ mc) (hsl : sl + n ≤ ms) (he : h1 = zrow h (N + 1)) (hr1 : r1 = zrowR r (N + 1))
    (kk : GX X b K ln M nL (cs + 1) (sl + n) (N + 1) (sz + 1) (pc + 3) L (.ref (b + (N + 1)) :: st) h1 r1) : GX X b K ln M nL cs sl N sz pc L st h r := by
  obtain ⟨p, l, e, R, s, m, args, below, meth, c, Q, H0, D, ac⟩ := X
  obtain ⟨hx, hb, hml, hown, hts, hK, hlk, hd, hdl, hnw⟩ := hX
  obtain ⟨hRc, hRs, hao⟩ := hI
  intro H locs ls hW hS hl
  have hKn := hK.1 ci _ hc
  have hHs : H.size = b + (N + 1) := by rw [hW.2.2, hsz]; omega
  refine W.newcK (h := b + (N + 1)) hx hb hown (hts _ (lw_g wl0 rfl)) (hts _ (lw_g wx rfl)) (hts _ (lw_g wz rfl)) rfl hdg (by omega) (by omega) hKn.2.1 hHs fun H1 kC hkC e1 z1 o1 => ?_
  subst he; subst hr1; subst hn
  refine kk H1 locs ls (WD_more (k := 1) hW (fun q hq => ⟨by funext j; simp [zrow, show q ≠ N + 1 by omega], by funext j; simp [zrowR, show q ≠ N + 1 by omega]⟩) (bw_zrow hW.2.1) (by rw [z1, hsz]; omega) (fun q hq => o1 q (by omega)) (fun j hj => ?_)) (va_S_up hS (by omega) (fun q hq => o1 q (by omega))) hl
  rw [show j = 0 by omega, show N + 0 + 1 = N + 1 by omega, en_obj hk h9]
  refine ⟨_, hc, (u_born ty0 hts hin hKn hkC e1 hty).to (fun j hj => ?_)⟩
  rw [hdf j hj]
  show _ = ((List.range (nfl ci)).map (fv b ci (zrow h (N + 1) (N + 1)) (zrowR r (N + 1) (N + 1)))).getD j .null
  rw [List.getD_eq_getElem?_getD, fv_at hj]
  simp only [Option.getD_some]
  congr 1
  · funext k; simp [zrow]
  · funext k; simp [zrowR]
theorem g_newI {n : Nat} {v : Int32} {h1 : HH} {r1 : RR} (hX : XOK X own cc nL d) (hI : XI X mc ms) (hdg : decode cc pc = .ok (.newarray .int, 2)) (hv : ¬ v < 0) (hvn : v.toNatClampNeg = n) (hk : K (N + 1) = 9 ∧ ln (N + 1) = n) (hn4 : n ≤ 1000) (hsz : sz = b + N + 1) (hNM : N + 1 ≤ M) (hcs : cs + 1 ≤ mc) (hsl : sl + n ≤ ms) (he : h1 = zrow h (N + 1)) (hr1 : r1 = zrowR r (N + 1))
    (kk : GX X b K ln M nL (cs + 1) (sl + n) (N + 1) (sz + 1) (pc + 2) L (.ref (b + (N + 1)) :: st) h1 r1) : GX X b K ln M nL cs sl N sz pc L (.int v :: st) h r := by
  obtain ⟨p, l, e, R, s, m, args, below, meth, c, Q, H0, D, ac⟩ := X
  obtain ⟨hx, hb, hml, hown, hts, hK, hlk, hd, hdl, hnw⟩ := hX
  obtain ⟨hRc, hRs, hao⟩ := hI
  intro H locs ls hW hS hl
  have hHs : H.size = b + (N + 1) := by rw [hW.2.2, hsz]; omega
  refine va_newaK (h := b + (N + 1)) (atype := .int) hx hb (hts _ (lw_g wa_int rfl)) rfl hdg rfl hv hvn (by show n * 4 ≤ _; omega) (by omega) (by omega) hHs fun H1 cA e1 z1 o1 hAr hNm => ?_
  have hcA : cA = ac 9 := Option.some.inj (hNm.symm.trans (hK.2 0 _ rfl).2)
  subst hcA
  subst he; subst hr1
  refine kk H1 locs ls (WD_more (k := 1) hW (fun q hq => ⟨by funext j; simp [zrow, show q ≠ N + 1 by omega], by funext j; simp [zrowR, show q ≠ N + 1 by omega]⟩) (bw_zrow hW.2.1) (by rw [z1, hsz]; omega) (fun q hq => o1 q (by omega)) (fun j hj => ?_)) (va_S_up hS (by omega) (fun q hq => o1 q (by omega))) hl
  rw [show j = 0 by omega, show N + 0 + 1 = N + 1 by omega, en_prim hk.1 (by decide) (by decide)]
  show H1[b + (N + 1)]? = some (vp_cell _ _)
  rw [e1, vp_cell_i, hk.2]
  congr 2
  funext j
  simp [zrow, newarray.typeOf, defaultValue]
theorem g_newZ {n : Nat} {v : Int32} {h1 : HH} {r1 : RR} (hX : XOK X own cc nL d) (hI : XI X mc ms) (hdg : decode cc pc = .ok (.newarray .boolean, 2)) (hv : ¬ v < 0) (hvn : v.toNatClampNeg = n) (hk : K (N + 1) = 10 ∧ ln (N + 1) = n) (hn4 : n ≤ 1000) (hsz : sz = b + N + 1) (hNM : N + 1 ≤ M) (hcs : cs + 1 ≤ mc) (hsl : sl + n ≤ ms) (he : h1 = zrow h (N + 1)) (hr1 : r1 = zrowR r (N + 1))
    (kk : GX X b K ln M nL (cs + 1) (sl + n) (N + 1) (sz + 1) (pc + 2) L (.ref (b + (N + 1)) :: st) h1 r1) : GX X b K ln M nL cs sl N sz pc L (.int v :: st) h r := by
  obtain ⟨p, l, e, R, s, m, args, below, meth, c, Q, H0, D, ac⟩ := X
  obtain ⟨hx, hb, hml, hown, hts, hK, hlk, hd, hdl, hnw⟩ := hX
  obtain ⟨hRc, hRs, hao⟩ := hI
  intro H locs ls hW hS hl
  have hHs : H.size = b + (N + 1) := by rw [hW.2.2, hsz]; omega
  refine va_newaK (h := b + (N + 1)) (atype := .boolean) hx hb (hts _ (lw_g wa_boolean rfl)) rfl hdg rfl hv hvn (by show n * 1 ≤ _; omega) (by omega) (by omega) hHs fun H1 cA e1 z1 o1 hAr hNm => ?_
  have hcA : cA = ac 10 := Option.some.inj (hNm.symm.trans (hK.2 1 _ rfl).2)
  subst hcA
  subst he; subst hr1
  refine kk H1 locs ls (WD_more (k := 1) hW (fun q hq => ⟨by funext j; simp [zrow, show q ≠ N + 1 by omega], by funext j; simp [zrowR, show q ≠ N + 1 by omega]⟩) (bw_zrow hW.2.1) (by rw [z1, hsz]; omega) (fun q hq => o1 q (by omega)) (fun j hj => ?_)) (va_S_up hS (by omega) (fun q hq => o1 q (by omega))) hl
  rw [show j = 0 by omega, show N + 0 + 1 = N + 1 by omega, en_prim hk.1 (by decide) (by decide)]
  show H1[b + (N + 1)]? = some (vp_cell _ _)
  rw [e1, vp_cell_i, hk.2]
  congr 2
  funext j
  simp [zrow, newarray.typeOf, defaultValue]
theorem g_anew {n ci k0 index : Nat} {v : Int32} {C : String} {h1 : HH} {r1 : RR} (hX : XOK X own cc nL d) (hI : XI X mc ms) (hdg : decode cc pc = .ok (.anewarray index, 3)) (wl0 : Cond.classLink own index C ∈ lw_tbl) (hty : ∀ ac, (tysX ac)[k0]? = some (ac ci, .object C)) (hao : ∀ s, AOS s → va_AO C s) (hc11 : ¬ ci < 11) (hv : ¬ v < 0) (hvn : v.toNatClampNeg = n) (hk : K (N + 1) = ci ∧ ln (N + 1) = n) (hn4 : n ≤ 1000) (hsz : sz = b + N + 1) (hNM : N + 1 ≤ M) (hcs : cs + 1 ≤ mc) (hsl : sl + n ≤ ms) (he : h1 = zrow h (N + 1)) (hr1 : r1 = zrowR r (N + 1))
    (kk : GX X b K ln M nL (cs + 1) (sl + n) (N + 1) (sz + 1) (pc + 3) L (.ref (b + (N + 1)) :: st) h1 r1) : GX X b K ln M nL cs sl N sz pc L (.int v :: st) h r := by
  obtain ⟨p, l, e, R, s, m, args, below, meth, c, Q, H0, D, ac⟩ := X
  obtain ⟨hx, hb, hml, hown, hts, hK, hlk, hd, hdl, hnw⟩ := hX
  obtain ⟨hRc, hRs, hao0⟩ := hI
  intro H locs ls hW hS hl
  have hHs : H.size = b + (N + 1) := by rw [hW.2.2, hsz]; omega
  subst hvn
  refine W.anew hx hb hown (hts _ (lw_g wl0 rfl)) (va_AO.use (hao s hao0)) rfl hdg rfl hv (by omega) (by omega) (by omega) fun cA kA comp f1 f2 f3 f4 => ?_
  obtain ⟨kA', comp', -, -, -, f9⟩ := (hK.2 k0 _ (hty ac)).2
  have hcA : cA = ac ci := Option.some.inj (f1.symm.trans f9)
  generalize hH1 : H.push ({ cls := cA, slots := Array.replicate v.toNatClampNeg .null, vm := .none } : Cell) = H1
  have z1 : H1.size = H.size + 1 := by rw [← hH1, Array.size_push]
  have e1 : H1[H.size]? = some (arrV cA v.toNatClampNeg (fun _ => .null)) := by rw [← hH1, Array.getElem?_push_size, ← arrV_new]
  have o1 : ∀ q : Nat, q < H.size → H1[q]? = H[q]? := fun q hq => by rw [← hH1, Array.getElem?_push, if_neg (Nat.ne_of_lt hq)]
  subst hcA
  subst he; subst hr1
  have kk2 := kk H1 locs ls (WD_more (k := 1) hW (fun q hq => ⟨by funext j; simp [zrow, show q ≠ N + 1 by omega], by funext j; simp [zrowR, show q ≠ N + 1 by omega]⟩) (bw_zrow hW.2.1) (by rw [z1, hHs, hsz]; omega) o1 (fun j hj => by
    rw [show j = 0 by omega, show N + 0 + 1 = N + 1 by omega, en_refs hk.1 hc11]
    show H1[b + (N + 1)]? = some (vp_cell _ _)
    rw [← hHs, e1, vp_cell_q, hk.2]
    congr 2
    funext j
    rw [rv_ro]
    simp [zrowR, rv])) (va_S_up hS (by omega) o1) hl
  rw [← hHs] at kk2
  exact kk2
theorem g_mna {n k index ci cj k0 k1 : Nat} {nv kv : Int32} {ty : FieldType} {h1 : HH} {r1 : RR} (hX : XOK X own cc nL d) (hI : XI X mc ms) (hdg : decode cc pc = .ok (.multianewarray index 2, 4)) (wl0 : Cond.classLink own index ("[" ++ (FieldType.array ty).toString) ∈ lw_tbl) (wa : Cond.arrayClass ty ∈ lw_tbl) (hao : ∀ s, AOS s → AOA ty s) (hty0 : ∀ ac, (tysX ac)[k0]? = some (ac ci, .array ty)) (hty1 : ∀ ac, (tysX ac)[k1]? = some (ac cj, ty)) (hra : ∀ s cA, va_RA s cA ty → s.vm.findClass (FieldType.array ty).toString = some cA) (hra2 : ∀ s cA, va_RA s cA (.array ty) → s.vm.findClass ("[" ++ (FieldType.array ty).toString) = some cA) (hcb : componentBytes ty ≤ 4) (hc11 : ¬ ci < 11) (hj9 : ¬ cj < 9) (hj11 : cj < 11) (hn0 : ¬ nv < 0) (hk0 : ¬ kv < 0) (hnv : nv.toNatClampNeg = n) (hkv : kv.toNatClampNeg = k) (hdf : fits ty (defaultValue ty) = true) (hdd : (defaultValue ty).isDefault = true) (hd0 : defaultValue ty = .int 0)
    (hk : K (N + 1) = ci ∧ ln (N + 1) = n ∧ ∀ j, j < n → K (N + 2 + j) = cj ∧ ln (N + 2 + j) = k) (hn4 : n ≤ 1000) (hk4 : k ≤ 1000) (hsz : sz = b + N + 1) (hNM : N + 1 + n ≤ M) (hcs : cs + (1 + n) ≤ mc) (hsl : sl + (n + n * k) ≤ ms) (he : h1 = zrows h N n) (hr1 : r1 = zrowsR r N n)
    (kk : GX X b K ln M nL (cs + 1 + n) (sl + n + n * k) (N + (1 + n)) (sz + (1 + n)) (pc + 4) L (.ref (b + (N + 1)) :: st) h1 r1) : GX X b K ln M nL cs sl N sz pc L (.int kv :: .int nv :: st) h r := by
  obtain ⟨p, l, e, R, s, m, args, below, meth, c, Q, H0, D, ac⟩ := X
  obtain ⟨hx, hb, hml, hown, hts, hK, hlk, hd, hdl, hnw⟩ := hX
  obtain ⟨hRc, hRs, hao0⟩ := hI
  intro H locs ls hW hS hl T hT Xs
  have hHs : H.size = b + (N + 1) := by rw [hW.2.2, hsz]; omega
  subst hnv; subst hkv
  obtain ⟨vm₁, cA, comp, -, fA, fC, hO, -, X', step⟩ := Xs.multianewarray2F hx hown (hts _ (lw_g wl0 rfl)) (show (Cond.arrayOver (.array ty)).before args s = true from hao s hao0) (hts _ (lw_g wa rfl)) (g := F0 m pc ls (.int kv :: .int nv :: st)) rfl (by rw [hb]; exact hdg) rfl hn0 hk0 (by omega) (by
    have := Nat.mul_le_mul (Nat.le_refl kv.toNatClampNeg) hcb
    omega) (by omega) hdf hdd (by omega) (by omega)
  have hcA : cA = ac ci := Option.some.inj (fA.symm.trans (hra2 s _ (hK.2 k0 _ (hty0 ac)).2))
  have hcm : comp = ac cj := Option.some.inj (fC.symm.trans (hra s _ (hK.2 k1 _ (hty1 ac)).2))
  subst hcA
  subst hcm
  generalize hF : Jvm.Free.Multi.fill (T.setVm vm₁) (ac ci) (ac cj) nv.toNatClampNeg kv.toNatClampNeg (defaultValue ty) nv.toNatClampNeg = F at X' step
  have hTh : (T.setVm vm₁).heap = H := hT
  obtain ⟨f1, f2, -, -⟩ := Jvm.Free.Multi.fill_facts (T.setVm vm₁) (ac ci) (ac cj) nv.toNatClampNeg kv.toNatClampNeg (defaultValue ty) nv.toNatClampNeg
  rw [hF, hTh] at f1 f2
  have hold : ∀ x : Nat, x < H.size → F.heap[x]? = H[x]? := fun x hx => by
    have := Jvm.Free.Multi.fill_old (T.setVm vm₁) (ac ci) (ac cj) nv.toNatClampNeg kv.toNatClampNeg (defaultValue ty) (a := x) (by rw [hTh]; exact hx) nv.toNatClampNeg
    rw [hF, hTh] at this
    exact this
  have hrow : ∀ j : Nat, j < nv.toNatClampNeg → F.heap[H.size + 1 + j]? = some (Jvm.Free.Multi.innerC (ac cj) kv.toNatClampNeg (defaultValue ty)) := fun j hj => by
    have := Jvm.Free.Multi.fill_inner (T.setVm vm₁) (ac ci) (ac cj) nv.toNatClampNeg kv.toNatClampNeg (defaultValue ty) nv.toNatClampNeg j hj
    rw [hF, hTh] at this
    exact this
  subst he; subst hr1
  have kk2 := kk F.heap locs ls (WD_more (k := 1 + nv.toNatClampNeg) hW (fun q hq => ⟨by funext j; simp [zrows, show ¬ N < q by omega], by funext j; simp [zrowsR, show q ≠ N + 1 by omega, show ¬ N < q by omega]⟩) (bw_zrows hW.2.1) (by rw [f1, hHs, hsz]; omega) hold (fun j hj => by
    rcases Nat.eq_zero_or_pos j with h0 | h0
    · rw [h0, show N + 0 + 1 = N + 1 by omega, en_refs hk.1 hc11]
      show F.heap[b + (N + 1)]? = some (vp_cell _ _)
      rw [← hHs, f2, vp_cell_q, mna_outer, hk.2.1, hHs]
      congr 2
      funext j
      by_cases hj2 : j < nv.toNatClampNeg
      · simp [zrowsR, hj2, ro, show b + (N + 1) + 1 + j = b + (N + 2 + j) by omega]
      · simp [zrowsR, hj2, ro]
    · obtain ⟨i, rfl⟩ : ∃ i, j = i + 1 := ⟨j - 1, by omega⟩
      have hi := hk.2.2 i (by omega)
      rw [show N + (i + 1) + 1 = N + 2 + i by omega, en_prim hi.1 hj9 hj11]
      show F.heap[b + (N + 2 + i)]? = some (vp_cell _ _)
      rw [show b + (N + 2 + i) = H.size + 1 + i by omega, hrow i (by omega), vp_cell_i, hi.2]
      show some ({ cls := ac cj, slots := Array.replicate kv.toNatClampNeg (defaultValue ty), vm := .none } : Cell) = _
      rw [arrV_new, hd0]
      congr 2
      funext j
      simp [zrows, show N < N + 2 + i by omega, show N + 2 + i ≤ N + 1 + nv.toNatClampNeg by omega])) (va_S_up hS (by omega) hold) hl
  obtain ⟨t, a1, b1⟩ := kk2 F rfl X'
  refine ⟨t, step t ?_, b1⟩
  have e : T.heap.size = b + (N + 1) := by rw [hT, hHs]
  rw [e]
  exact a1
theorem g_putRF {index ci k p q : Nat} {ref C : String} {T : u_T} {n : Nat} {ty0 : Nat → FieldType} {ty : FieldType} {r1 : RR} (hX : XOK X own cc nL d) (hin0 : XN X) (hdg : decode cc pc = .ok (.putfield index, 3)) (hin : ∀ w ∈ u_ws C T n, w ∈ lwG) (hty : ∀ k, k < n → parseFieldDescriptor (T k).2.2.1 = some (ty0 k)) (hnm : ∀ a, a < n → ∀ b, b < n → a ≠ b → (T a).2.1 ≠ (T b).2.1) (hc : vwCl[ci]? = some (C, T, n)) (hk : k < n) (hn : n = nfl ci) (hlink : Cond.fieldLink own index ref (T k).2.1 (T k).2.2.1 ∈ lw_tbl) (href : ref = (T k).1) (hfin : (T k).2.2.2 = true) (hdecl : (T k).1 = own) (hd0 : parseFieldDescriptor (T k).2.2.1 = some ty) (hnr : ∀ a, narrow ty (.ref a) = .ref a) (hft : ∀ a, fits ty (.ref a) = true) (h9 : ci < 9) (hs : sty ci k < 16) (hk0 : ¬ (ci = 0 ∧ k = 0)) (hp : K p = ci) (h1 : 1 ≤ p) (h2 : p ≤ N) (hq1 : 1 ≤ q) (hM : N ≤ M) (he : r1 = upR r p k q)
    (kk : GX X b K ln M nL cs sl N sz (pc + 3) L st h r1) : GX X b K ln M nL cs sl N sz pc L (.ref (b + q) :: .ref (b + p) :: st) h r := by
  obtain ⟨p', l, e, R, s, m, args, below, meth, c, Q, H0, D, ac⟩ := X
  obtain ⟨hx, hb, hml, hown, hts, hK, hlk, hd, hdl, hnw⟩ := hX
  intro H locs ls hW hS hl
  subst hn; subst he
  have hap := va_apart (own := own) hts hin ty0 hty hnm hK hc
  obtain ⟨rr, g1, cell, q1, q2, q3, q4⟩ := hW.1 (p - 1) _ ((wl_at h1 h2).trans (by rw [en_obj hp h9]))
  have hr : rr = (C, T, nfl ci) := Option.some.inj (g1.symm.trans hc)
  subst hr
  obtain ⟨hS0, hfc, kC, hkC, hkind⟩ := hK.1 ci _ hc
  obtain ⟨cf, kf, fi, f, hi, hsl⟩ := hS0 k hk
  have hlay := hts _ (hin _ (u_in_lay hk))
  unfold u_lay at hlay
  rw [if_pos hfin] at hlay
  have hst := (u_facts hfc hkC (u_lays hts hin hk) hi).1
  have hcf : m.cls = cf := by
    obtain ⟨_, _, c', _, _, _, -, -, hf', -, -, -, hown2, -⟩ := Cond.laysFinal_spec hlay
    have e1 : c' = cf := by have := hi.symm.trans hf'; simp at this; exact this.1.symm
    rw [hdecl] at hown2
    rw [← e1]; exact Option.some.inj (hown.symm.trans hown2)
  have h6 := u_fits hfc hkC hkind (Or.inr hlay) hi hd0 (hnr (b + q)) (hft (b + q))
  refine W.putFinK hx hb hown (hts _ (lw_g hlink rfl)) (by rw [href]; exact hi) hst hcf hin0 (by rw [q2]; exact h6) q1 q3 (by rw [hsl]; exact k2_hasslot (q4 k hk)) rfl rfl hdg fun H' e1 e2 e3 => ?_
  rw [hsl] at e1 ⊢
  refine kk H' _ ls ⟨?_, hW.2.1, e2.trans hW.2.2⟩ (va_S.put hS e2 e3 ⟨by show b < b + p; omega, by show b + p ≤ b + M; omega⟩) hl
  rw [← wl_set (h := h) (r := r) h1 h2 (fun q hq => ⟨rfl, upR_ne hq⟩) (e := .inr (ci, ((List.range (nfl ci)).map (fv b ci (h p) (r p))).set k (.ref (b + q)))) ?_]
  · exact hW.1.set (wl_D hM) ((wl_at h1 h2).trans (by rw [en_obj hp h9])) ⟨_, hc, t_OB.to (V := updV (vp_V ((List.range (nfl ci)).map (fv b ci (h p) (r p)))) k (.ref (b + q))) ⟨_, e1, q2, q3, t_set q4 hap hk _⟩ (fun j _ => vp_updV_set (by simpa using hk) _ j)⟩ e3
  · rw [en_obj hp h9, fv_set (f' := h p) (g' := upR r p k q p) hk (by unfold fv; rw [if_neg hk0, if_pos hs]; simp [upR, rv_ne hq1]) (fun j hj => ⟨rfl, by simp [upR, hj]⟩) (fun _ _ => rfl)]
theorem g_astR {p q ci cj k0 n9 : Nat} {i : Int32} {C : String} {T : u_T} {r1 : RR} (hX : XOK X own cc nL d) (hdg : decode cc pc = .ok (.aastore, 1)) (hp : K p = ci) (hc11 : ¬ ci < 11) (h1 : 1 ≤ p) (h2 : p ≤ N) (hq : K q = cj) (h9 : cj < 9) (hq1 : 1 ≤ q) (hq2 : q ≤ N) (hty : ∀ ac, (tysX ac)[k0]? = some (ac ci, .object C)) (hc : vwCl[cj]? = some (C, T, n9)) (hM : N ≤ M) (hin : inb i (ln p) = true) (he : r1 = upR r p (ix i) q)
    (kk : GX X b K ln M nL cs sl N sz (pc + 1) L st h r1) : GX X b K ln M nL cs sl N sz pc L (.ref (b + q) :: .int i :: .ref (b + p) :: st) h r := by
  obtain ⟨p', l, e, R, s, m, args, below, meth, c, Q, H0, D, ac⟩ := X
  obtain ⟨hx, hb, hml, hown, hts, hK, hlk, hd, hdl, hnw⟩ := hX
  intro H locs ls hW hS hl
  subst he
  have hin := inb_in hin
  have hlt : i.toNatClampNeg < ln p := Nat.not_le.mp fun q => hin (Or.inr q)
  have hcell := hW.1 (p - 1) _ ((wl_at h1 h2).trans (by rw [en_refs hp hc11]))
  obtain ⟨r', hr', cellV, g1, g2, g3, -⟩ := hW.1 (q - 1) _ ((wl_at hq1 hq2).trans (by rw [en_obj hq h9]))
  have hcls := (hK.1 cj _ hc).2
  obtain ⟨kA, comp, k1, k2, k3, -⟩ := (hK.2 k0 _ (hty ac)).2
  have hcomp : comp = D.1 cj := Option.some.inj (k3.symm.trans hcls.1)
  subst hcomp
  obtain ⟨kC, hkC, -⟩ := hcls.2
  refine W.aast hx hb hcell (fun q h => by cases h) (fun h => by cases h) k1 k2 rfl hkC ⟨fun z => hin (Or.inl z), by show _ < (arrV _ _ _).slots.size; rw [arrV_size]; exact hlt⟩ g1 (fun q h => by rw [g3] at h; cases h) (by rw [g2]; exact hkC) (by rw [g2]; exact va_assign hcls) rfl rfl hdg fun H1 e z oq => ?_
  refine kk H1 _ ls ⟨?_, hW.2.1, z.trans hW.2.2⟩ (va_S.put hS z oq ⟨by show b < b + p; omega, by show b + p ≤ b + M; omega⟩) hl
  rw [← wl_set (h := h) (r := r) h1 h2 (fun z hz => ⟨rfl, upR_ne hz⟩) (e := .inl (ac ci, ln p, .inr (.inr (.inr (.inr (fun j => ro b (upR r p (ix i) q p j))))))) ?_]
  · refine hW.1.set (wl_D hM) ((wl_at h1 h2).trans (by rw [en_refs hp hc11])) ?_ oq
    show H1[b + p]? = some (vp_cell _ _)
    rw [e, vp_cell_q]
    show some ((arrV (ac ci) (ln p) _).setSlot _ _) = some (arrV (ac ci) (ln p) (fun j => va_rf (ro b (upR r p (ix i) q p j))))
    rw [arrV_store]
    congr 2
    funext j
    by_cases hj : j = i.toNatClampNeg
    · subst hj
      simp [updV, upR, ix, ro, va_rf, show ¬ q = 0 by omega]
    · simp [updV, upR, ix, hj]
  · rw [en_refs hp hc11]
theorem PPI_blind {D : va_G} {ac : Nat → ClassId} {as : List Value} : FrameBlind (PPI D ac b K ln N sz h r as) := fun a U g mk q => ⟨q.1, q.2.1, va_K.moved (u := U) (U := U.calling g mk a) (Vm.Alike.refl U.vm) q.2.2.1, NWA.same (u := U) (U := U.calling g mk a) rfl q.2.2.2.1, AOS.moved (u := U) (U := U.calling g mk a) (Vm.Alike.refl U.vm) q.2.2.2.2⟩
theorem g_callI {As rest : List Value} {h' : HH} {r' : RR} {index n q d0 maxL N' sz' mc' ms' : Nat} {y : MethodName} {bytes : ByteArray} (hX : XOK X own cc nL d) (hI : XI X mc ms) (hdg : decode cc pc = .ok (.invokespecial index, 3)) (hC : CTI y bytes maxL d0 b K ln M N sz (.ref (b + q) :: As) h r N' sz' h' r' mc' ms') (hd0 : d0 + 1 ≤ d) (hmx : maxL ≤ 40)
    (wm : Cond.methodLink own index y ∈ lw_tbl) (wi : Cond.instanceMethod y ∈ lw_tbl) (wz : Cond.initialized y.cls ∈ lw_tbl) (wc : Cond.code y bytes maxL none ∈ lw_tbl) (hy : y.cls ≠ "java/lang/invoke/MethodHandle" ∧ y.cls ≠ "java/lang/invoke/VarHandle" ∧ (parseMethodDescriptor y.desc).map (fun d => d.parameters.length) = some n) (hy1 : y.name = "<init>") (hn : As.length = n) (hcat : (rest.map fun v => v.category).sum ≤ 8) (hst : st = As.reverse ++ .ref (b + q) :: rest) (hcs : cs + mc' ≤ mc) (hsl : sl + ms' ≤ ms)
    (kk : GX X b K ln M nL (cs + mc') (sl + ms') N' sz' (pc + 3) L rest h' r') : GX X b K ln M nL cs sl N sz pc L st h r := by
  obtain ⟨p, l, e, R, s, m, args, below, meth, c, Q, H0, D, ac⟩ := X
  obtain ⟨hx, hb, hml, hown, hts, hK, hlk, hd, hdl, hnw⟩ := hX
  obtain ⟨hRc, hRs, hao0⟩ := hI
  intro H locs ls hW hS hl
  have hrun := va_runI (As := As) (rest := rest) (e := e) (g := F0 m pc ls st) (b := b + q) (H := H) (locs := locs) (cells := cs) (slots := sl) (below := below) (meth := meth) ⟨hx, hb, hml, hown, hts⟩ (hC l D ac) (cwI (R := R) n hts (CT_good wc) rfl rfl rfl (hts _ (lw_g wz rfl)) (hts _ (lw_g wm rfl)) (hts _ (lw_g wi rfl)) hy1 hy ⟨by show d0 + 1 ≤ _; omega, by show 8 + (maxL + 11) + 64 * d0 ≤ _; omega⟩)
    ⟨PPI_blind, fun U hU hWm => ⟨rfl, by rw [hU]; exact hW, va_K.moved hWm.alike hK, hnw.warm hWm, AOS.moved hWm.alike hao0⟩⟩ rfl hn hl.1 hst (by show 2 * 0 + _ ≤ 8; omega) hdg ⟨by omega, by omega⟩
  exact g_run hrun hS hl kk
theorem g_callIN {As rest : List Value} {h' : HH} {r' : RR} {index n q d0 maxL N' sz' mc' ms' : Nat} {y : MethodName} {host : String} {bytes : ByteArray} (hX : XOK X own cc nL d) (hI : XI X mc ms) (hdg : decode cc pc = .ok (.invokespecial index, 3)) (hC : CTI y bytes maxL d0 b K ln M N sz (.ref (b + q) :: As) h r N' sz' h' r' mc' ms') (hd0 : d0 + 1 ≤ d) (hmx : maxL ≤ 40)
    (wn : Cond.methodLinkNest own index y host ∈ lwN) (wi : Cond.instanceMethod y ∈ lw_tbl) (wz : Cond.initialized y.cls ∈ lw_tbl) (wc : Cond.code y bytes maxL none ∈ lw_tbl) (hy : y.cls ≠ "java/lang/invoke/MethodHandle" ∧ y.cls ≠ "java/lang/invoke/VarHandle" ∧ (parseMethodDescriptor y.desc).map (fun d => d.parameters.length) = some n) (hy1 : y.name = "<init>") (hn : As.length = n) (hcat : (rest.map fun v => v.category).sum ≤ 8) (hst : st = As.reverse ++ .ref (b + q) :: rest) (hcs : cs + mc' ≤ mc) (hsl : sl + ms' ≤ ms)
    (kk : GX X b K ln M nL (cs + mc') (sl + ms') N' sz' (pc + 3) L rest h' r') : GX X b K ln M nL cs sl N sz pc L st h r := by
  obtain ⟨p, l, e, R, s, m, args, below, meth, c, Q, H0, D, ac⟩ := X
  obtain ⟨hx, hb, hml, hown, hts, hK, hlk, hd, hdl, hnw⟩ := hX
  obtain ⟨hRc, hRs, hao0⟩ := hI
  intro H locs ls hW hS hl
  have hrun := va_runIN (As := As) (rest := rest) (e := e) (g := F0 m pc ls st) (b := b + q) (H := H) (locs := locs) (cells := cs) (slots := sl) (below := below) (meth := meth) ⟨hx, hb, hml, hown, hts⟩ (hC l D ac) ⟨va_cnB (R := R) n hts (CT_good wc) rfl rfl rfl (hnw _ wn) (hts _ (lw_g wz rfl)) hy ⟨by show d0 + 1 ≤ _; omega, by show 8 + (maxL + 11) + 64 * d0 ≤ _; omega⟩, hy1, hts _ (lw_g wi rfl)⟩
    ⟨PPI_blind, fun U hU hWm => ⟨rfl, by rw [hU]; exact hW, va_K.moved hWm.alike hK, hnw.warm hWm, AOS.moved hWm.alike hao0⟩⟩ rfl hn hl.1 hst (by show 2 * 0 + _ ≤ 8; omega) hdg ⟨by omega, by omega⟩
  exact g_run hrun hS hl kk
/-- a call of a plain method out of a constructor -/
theorem g_callVI {As rest stk : List Value} {v : Option Value} {h' : HH} {r' : RR} {C : String} {T : u_T} {index n n9 ci q d0 maxL : Nat} {y : MethodName} {bytes : ByteArray} {ret : Option FieldType} (hX : XOK X own cc nL d) (hI : XI X mc ms) (hdg : decode cc pc = .ok (.invokevirtual index, 3)) (hC : CT y bytes maxL ret d0 b K ln M N sz (.ref (b + q) :: As) h r N sz v h' r' 0 0) (hd0 : d0 + 1 ≤ d) (hmx : maxL ≤ 40)
    (wm : Cond.methodLink own index y ∈ lw_tbl) (wi : Cond.instanceMethod y ∈ lw_tbl) (ws : Cond.selects C y y ∈ lw_tbl) (wz : Cond.initialized C ∈ lw_tbl) (wc : Cond.code y bytes maxL ret ∈ lw_tbl) (hy : y.cls = C ∧ y.cls ≠ "java/lang/invoke/MethodHandle" ∧ y.cls ≠ "java/lang/invoke/VarHandle" ∧ (parseMethodDescriptor y.desc).map (fun d => d.parameters.length) = some n) (hn : As.length = n) (hc : vwCl[ci]? = some (C, T, n9)) (h9 : ci < 9) (hq : K q = ci) (h1 : 1 ≤ q) (h2 : q ≤ N) (hcat : (rest.map fun v => v.category).sum ≤ 8) (hst : st = As.reverse ++ .ref (b + q) :: rest) (hst2 : v.toList ++ rest = stk) (hcs : cs ≤ mc) (hsl : sl ≤ ms)
    (kk : GX X b K ln M nL cs sl N sz (pc + 3) L stk h' r') : GX X b K ln M nL cs sl N sz pc L st h r := by
  obtain ⟨p, l, e, R, s, m, args, below, meth, c, Q, H0, D, ac⟩ := X
  obtain ⟨hx, hb, hml, hown, hts, hK, hlk, hd, hdl, hnw⟩ := hX
  obtain ⟨hRc, hRs, hao0⟩ := hI
  intro H locs ls hW hS hl
  subst hst2
  have hG := CT_good wc
  have hG2 : GoodIn lwG (wsV own index C y (.code y bytes maxL ret :: lwG)) := by
    intro w hw
    rcases List.mem_append.mp hw with hw | hw
    · simp only [List.mem_cons, List.not_mem_nil, or_false] at hw
      rcases hw with rfl | rfl | rfl | rfl
      · exact ⟨lw_g wm rfl, Or.inl rfl⟩
      · exact ⟨lw_g wi rfl, Or.inl rfl⟩
      · exact ⟨lw_g ws rfl, Or.inl rfl⟩
      · exact ⟨lw_g wz rfl, Or.inl rfl⟩
    · exact hG w hw
  have hrun := va_runV (As := As) (rest := rest) (e := e) (g := F0 m pc ls st) (b := b + q) (H := H) (locs := locs) (cells := cs) (slots := sl) (below := below) (meth := meth) ⟨hx, hb, hml, hown, hts⟩ (hC l D ac) (cwV (R := R) n hts hG2 rfl rfl rfl hy ⟨by show d0 + 1 ≤ _; omega, by show 8 + (maxL + 11) + 64 * d0 ≤ _; omega⟩)
    ⟨PP_blind, va_recv hK hW.1 (ci := ci) (q0 := q - 1) hc ((wl_at h1 h2).trans (by rw [en_obj hq h9])), fun U hU hWm => ⟨rfl, by rw [hU]; exact hW, va_K.moved hWm.alike hK, hnw.warm hWm⟩⟩ rfl hn hl.1 hst (by show 2 * 0 + _ ≤ 8; omega) hdg ⟨by omega, by omega⟩
  exact g_run (mc := 0) (ms := 0) hrun hS hl kk
theorem CTI_of {y : MethodName} {own : String} {cc : ByteArray} {nL d : Nat} {as : List Value} {N' sz' : Nat} {h' : HH} {r' : RR} (hy : plainName y.cls = true) (ho : own = y.cls) (hlen : (lg_sl as).length ≤ nL) (hmx : nL ≤ 40) (hyn : y.name = "<init>")
    (body : ∀ X : XT, XOK X own cc nL d → XI X mc ms → XN X → XR X b K ln M none mc ms N' sz' none h' r' → GX X b K ln M nL 0 0 N sz 0 (lv_args 0 as) [] h r) : CTI y cc nL d b K ln M N sz as h r N' sz' h' r' mc ms := by
  intro l D ac
  refine Met.ofW (cc := cc) (maxL := nL) (ret := none) hy rfl ?_
  intro p e s m args below meth c s₁ B hml hv
  obtain ⟨rfl, hW, hK, hnw, hao⟩ := hv
  have hts := atoms_spec (ws := .code y cc nL none :: lwG) B.pre
  have hl := lv_entry as (n := nL) hlen
  rw [lg_entry_eq]
  subst ho
  exact body (p, l, e, _, s, m, _, below, meth, c, _, s.heap, D, ac) ⟨B.exec, B.bytes, hml, findClass_of_methodNamed B.named, fun w hw => hts w (List.mem_cons_of_mem _ hw), hK, B.notSynchronized, Nat.le_refl _, Nat.le_refl _, hnw⟩ ⟨rfl, rfl, hao⟩ ((name_of_methodNamed B.named B.method).1.trans hyn) ⟨rfl, rfl, B.returns⟩ s.heap [] _ hW va_S.rf hl
/-- the room may be told larger -/
theorem g_wide {cs' sl' : Nat} (h1 : cs ≤ cs') (h2 : sl ≤ sl') (kk : GX X b K ln M nL cs' sl' N sz pc L st h r) : GX X b K ln M nL cs sl N sz pc L st h r := by
  obtain ⟨p, l, e, R, s, m, args, below, meth, c, Q, H0, D, ac⟩ := X
  intro H locs ls hW hS hl
  exact W.widen h1 h2 (kk H locs ls hW hS hl)
end GI
