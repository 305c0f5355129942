theorem ac_prim {ty : FieldType} {args : Array Value} {s : State} (h : (Cond.arrayClass ty).before args s = true) (hra : ∀ c, s.vm.findClass ("[" ++ ty.toString) = some c → va_RA s c ty) : ∃ cA, ArrOfT s cA ty ∧ va_RA s cA ty := by
  obtain ⟨cA, k, comp, h1, h2, h3⟩ := Cond.arrayClass_spec h
  exact ⟨cA, fun n z => ⟨(fun q hq => by cases hq), k, h2, comp, h3⟩, hra cA h1⟩
theorem ac_obj {C : String} {args : Array Value} {s : State} (h : (Cond.arrayOver (.object C)).before args s = true) : ∃ cA, ArrOfT s cA (.object C) ∧ va_RA s cA (.object C) := by
  obtain ⟨comp, cA, k, h1, -, h3, h4, h5⟩ := Cond.arrayOver_spec h
  exact ⟨cA, fun n z => ⟨(fun q hq => by cases hq), k, h3, comp, h4⟩, ⟨k, comp, h3, h4, h1, h5⟩⟩
theorem ac_arr {t : FieldType} {args : Array Value} {s : State} (h : (Cond.arrayOver (.array t)).before args s = true) : ∃ cA, ArrOfT s cA (.array t) ∧ va_RA s cA (.array t) := by
  obtain ⟨comp, cA, k, h1, h3, h4, h5⟩ := Cond.arrayOver_specA h
  exact ⟨cA, fun n z => ⟨(fun q hq => by cases hq), k, h3, comp, h4⟩, h5⟩
theorem NWA_of {args : Array Value} {s : State} (hts : ∀ w ∈ lw_tbl, w.before args s = true) : NWA s := by
  intro w hw
  simp only [lwN, List.mem_cons, List.not_mem_nil, or_false] at hw
  rcases hw with rfl | rfl | rfl | rfl | rfl | rfl | rfl
  · exact va_Nw.of rfl (hts _ wn_X6_54)
  · exact va_Nw.of rfl (hts _ wn_X7_28)
  · exact va_Nw.of rfl (hts _ wg_X2_29)
  · exact va_Nw.of rfl (hts _ wn_X7_44)
  · exact va_Nw.of rfl (hts _ wn_X7_55)
  · exact va_Nw.of rfl (hts _ wn_X6_69)
  · exact va_Nw.of rfl (hts _ wn_X6_75)
theorem AOS_of {args : Array Value} {s : State} (hts : ∀ w ∈ lw_tbl, w.before args s = true) : AOS s := ⟨va_AO.of (hts _ wo_X1), va_AO.of (hts _ wo_X3), va_AO.of (hts _ wo_X5), hts _ wo_int, hts _ wo_boolean⟩
theorem WD_none {D : va_G} {ac : Nat → ClassId} {b sz : Nat} {K ln : Nat → Nat} {H : Heap} (hz : H.size = sz) : WD D ac b K ln 0 sz h00 r00 H := by
  refine ⟨fun k q hk => ?_, fun _ _ _ => Or.inl rfl, hz⟩
  rw [wl_ix, if_neg (by omega)] at hk
  cases hk
set_option maxRecDepth 100000 in
set_option maxHeartbeats 4000000 in
theorem law_start {Inv : HH → HH → Prop} (h0 : Inv hA0 hM0) (hs : STEP Inv) {p : Program} {e : Env} {s : State} {m : MethodId} {below : List Frame} {meth : Method} {c : Code} (l : Launch) {bs L0 : Nat} {xs : Nat → Int32} (hL : L0 ≤ 3584)
    (hx : p.tables.exec = Jvm.exec) (hb : c.code = code) (hr : meth.sig.returnType = ret) (hml : c.maxLocals = 4) (hown : s.vm.findClass RL = some m.cls) (hts : ∀ w ∈ lw_tbl, w.before #[Value.ref bs] s = true) (hXs : va_X bs L0 xs s s.heap) (hbl : bs < s.heap.size) (hlocks : meth.locks = false) {Q : State → Prop}
    (hret : ∀ (H : Heap) (ls : Array Slot), W p l e room_1 s m #[Value.ref bs] below meth c H [] 600000 7302250 Q (F0 m 1200 ls [.int 1])) : W p l e room_1 s m #[Value.ref bs] below meth c s.heap [] 0 0 Q (entryFrame m ([Value.ref bs] : List Value).toArray 4) := by
  obtain ⟨c0, iS0, hK0⟩ := u_known (C := RX0) (T := TX0) (N := 9) hts inX0 (hts _ wx_X0)
  obtain ⟨c1, iS1, hK1⟩ := u_known (C := RX1) (T := TX1) (N := 3) hts inX1 (hts _ wx_X1)
  obtain ⟨c2, iS2, hK2⟩ := u_known (C := RX2) (T := TX2) (N := 5) hts inX2 (hts _ wx_X2)
  obtain ⟨c3, iS3, hK3⟩ := u_known (C := RX3) (T := TX3) (N := 3) hts inX3 (hts _ wx_X3)
  obtain ⟨c4, iS4, hK4⟩ := u_known (C := RX4) (T := TX4) (N := 6) hts inX4 (hts _ wx_X4)
  obtain ⟨c5, iS5, hK5⟩ := u_known (C := RX5) (T := TX5) (N := 4) hts inX5 (hts _ wx_X5)
  obtain ⟨c6, iS6, hK6⟩ := u_known (C := RX6) (T := TX6) (N := 11) hts inX6 (hts _ wx_X6)
  obtain ⟨c7, iS7, hK7⟩ := u_known (C := RX7) (T := TX7) (N := 8) hts inX7 (hts _ wx_X7)
  obtain ⟨c8, iS8, hK8⟩ := u_known (C := RX8) (T := TX8) (N := 55) hts inX8 (hts _ wx_X8)
  obtain ⟨D, hKc⟩ : ∃ D : va_G, ∀ (k : Nat) (q : vw_C), vwCl[k]? = some q → u_Kn s q.1 q.2.1 q.2.2 (D.1 k) (D.2 k) := by
    refine ⟨(fun k => match k with | 0 => c0 | 1 => c1 | 2 => c2 | 3 => c3 | 4 => c4 | 5 => c5 | 6 => c6 | 7 => c7 | _ => c8, fun k => match k with | 0 => iS0 | 1 => iS1 | 2 => iS2 | 3 => iS3 | 4 => iS4 | 5 => iS5 | 6 => iS6 | 7 => iS7 | _ => iS8), ?_⟩
    intro k q hq
    match k, hq with
    | 0, hq => cases hq; exact hK0
    | 1, hq => cases hq; exact hK1
    | 2, hq => cases hq; exact hK2
    | 3, hq => cases hq; exact hK3
    | 4, hq => cases hq; exact hK4
    | 5, hq => cases hq; exact hK5
    | 6, hq => cases hq; exact hK6
    | 7, hq => cases hq; exact hK7
    | 8, hq => cases hq; exact hK8
    | k + 9, hq => simp at hq
  obtain ⟨a9, ha9⟩ := ac_prim (hts _ wa_int) (fun c h => h)
  obtain ⟨a10, ha10⟩ := ac_prim (hts _ wa_boolean) (fun c h => h)
  obtain ⟨a11, ha11⟩ := ac_obj (hts _ wo_X1)
  obtain ⟨a12, ha12⟩ := ac_obj (hts _ wo_X3)
  obtain ⟨a13, ha13⟩ := ac_obj (hts _ wo_X5)
  obtain ⟨a14, ha14⟩ := ac_arr (hts _ wo_int)
  obtain ⟨a15, ha15⟩ := ac_arr (hts _ wo_boolean)
  obtain ⟨ac, hac⟩ : ∃ ac : Nat → ClassId, ∀ (k : Nat) (q : ClassId × FieldType), (tysX ac)[k]? = some q → ArrOfT s q.1 q.2 ∧ va_RA s q.1 q.2 := by
    refine ⟨fun k => match k with | 9 => a9 | 10 => a10 | 11 => a11 | 12 => a12 | 13 => a13 | 14 => a14 | _ => a15, ?_⟩
    intro k q hq
    match k, hq with
    | 0, hq => cases hq; exact ha9
    | 1, hq => cases hq; exact ha10
    | 2, hq => cases hq; exact ha11
    | 3, hq => cases hq; exact ha12
    | 4, hq => cases hq; exact ha13
    | 5, hq => cases hq; exact ha14
    | 6, hq => cases hq; exact ha15
    | k + 7, hq => simp [tysX] at hq
  obtain ⟨b, hbz⟩ : ∃ b, s.heap.size = b + 1 := ⟨s.heap.size - 1, by omega⟩
  have hX : ∀ (Q' : State → Prop) (H0 : Heap), XOK (p, l, e, room_1, s, m, #[Value.ref bs], below, meth, c, Q', H0, D, ac) RL code 4 1300 := fun Q' H0 => ⟨hx, hb, hml, hown, fun w hw => hts w (List.mem_filter.mp hw).1, ⟨hKc, hac⟩, hlocks, Nat.le_of_ble_eq_true rfl, Nat.le_of_ble_eq_true rfl, NWA_of hts⟩
  have hI : ∀ (Q' : State → Prop) (H0 : Heap), XI (p, l, e, room_1, s, m, #[Value.ref bs], below, meth, c, Q', H0, D, ac) 600000 7302250 := fun Q' H0 => ⟨rfl, rfl, AOS_of hts⟩
  have hl := lv_entry ([.ref bs]) (n := 4) (Nat.le_of_ble_eq_true rfl)
  rw [lg_entry_eq]
  generalize (lg_sl ([.ref bs]) ++ List.replicate (4 - (lg_sl ([.ref bs])).length) Slot.unset).toArray = ls at hl ⊢
  have hl : lv_has ls 4 [(0, .ref bs)] := hl
  refine (?_ : GX (p, l, e, room_1, s, m, #[Value.ref bs], below, meth, c, Q, s.heap, D, ac) b KA lnA MA 4 0 0 0 (b + 1) 0 [(0, .ref bs)] [] h00 r00) s.heap [] ls (WD_none hbz) va_S.rf hl
  refine g_new (ci := 7) (hX _ _) (hI _ _) dL_law_0 wl_L_7 wx_X7 wz_X7 inG7 tyX7_ok rfl (by decide) (by decide) (dfX7 b) rfl (by omega) (by decide) (Nat.le_of_ble_eq_true rfl) (Nat.le_of_ble_eq_true rfl) rfl rfl ?_
  refine g_dup (hX _ _) dL_law_3 rfl ?_
  refine g_callI (As := []) (rest := [.ref (b + (0 + 1))]) (hX _ _) (hI _ _) dL_law_4 (ctX7_init (N := 0 + 1) (sz := b + 1 + 1) (0 + 1) ⟨rfl, by decide, by decide⟩ (by omega) iniA_eq) (by decide) (by decide) wm_L_9 wi_X7_init wz_X7 wc_X7_init hiX7_init rfl rfl (Nat.le_of_ble_eq_true rfl) rfl (Nat.le_of_ble_eq_true rfl) (Nat.le_of_ble_eq_true rfl) ?_
  intro H1 locs1 ls1 hW1 hS1 hl1
  refine va_forget (fun q hq => by have := (hS1.2.2 q hq).1; omega) ?_
  have hz1 : H1.size = b + 129 := hW1.2.2.trans (by omega)
  refine (?_ : GX (p, l, e, room_1, s, m, #[Value.ref bs], below, meth, c, Q, H1, D, ac) (b + 128) KM lnM MM 4 128 2704 0 (b + 128 + 1) 7 [(0, .ref bs)] [.ref (b + 1)] h00 r00) H1 [] ls1 (WD_none hz1) va_S.rf hl1
  refine g_astore_n (L' := [(1, .ref (b + 1)), (0, .ref bs)]) (hX _ _) dL_law_7 (i := 1) rfl (by decide) rfl ?_
  refine g_new (ci := 8) (hX _ _) (hI _ _) dL_law_8 wl_L_10 wx_X8 wz_X8 inG8 tyX8_ok rfl (by decide) (by decide) (dfX8 (b + 128)) rfl (by omega) (by decide) (Nat.le_of_ble_eq_true rfl) (Nat.le_of_ble_eq_true rfl) rfl rfl ?_
  refine g_dup (hX _ _) dL_law_11 rfl ?_
  refine g_callI (As := []) (rest := [.ref (b + 128 + (0 + 1))]) (hX _ _) (hI _ _) dL_law_12 (ctX8_init (N := 0 + 1) (sz := b + 128 + 1 + 1) (0 + 1) ⟨rfl, by decide, by decide⟩ (by omega) iniM_eq) (by decide) (by decide) wm_L_12 wi_X8_init wz_X8 wc_X8_init hiX8_init rfl rfl (Nat.le_of_ble_eq_true rfl) rfl (Nat.le_of_ble_eq_true rfl) (Nat.le_of_ble_eq_true rfl) ?_
  refine g_astore_n (L' := [(2, .ref (b + 128 + 1)), (1, .ref (b + 1)), (0, .ref bs)]) (hX _ _) dL_law_15 (i := 2) rfl (by decide) rfl ?_
  refine g_iconst (v := 0) (hX _ _) dL_law_16 (by decide) ?_
  refine g_istore_n (L' := [(3, .int 0), (2, .ref (b + 128 + 1)), (1, .ref (b + 1)), (0, .ref bs)]) (hX _ _) dL_law_17 (i := 3) rfl (by decide) rfl ?_
  intro H2 locs2 ls2 hW2 hS2 hl2
  refine va_forget (fun q hq => by have := (hS2.2.2 q hq).1; omega) ?_
  have hz2 : H2.size = b + 221 := hW2.2.2.trans (by omega)
  have hWA : WD D ac b KA lnA MA (b + 221) hA0 RA H2 := by
    have h9 : WD D ac b KA lnA MA (b + 129) hA0 RA H1 := ⟨hW1.1, hW1.2.1, hz1⟩
    exact ⟨h9.1.kept (fun k q hk => by
      rw [wl_ix] at hk
      by_cases h1 : k < MA
      · rw [if_pos h1] at hk
        cases hk
        have e9 : MA = 128 := rfl
        exact hS2.2.1 _ (by show b + (k + 1) < H1.size; omega) (fun z => by have : b + 128 < b + (k + 1) := z.1; omega)
      · rw [if_neg h1] at hk; cases hk), h9.2.1, hz2⟩
  have hWM : WD D ac (b + 128) KM lnM MM (b + 221) hM0 RM H2 := ⟨hW2.1, hW2.2.1, hz2⟩
  have hSS : va_S (fun q => b < q) s.heap H2 [] := ⟨by omega, fun q g1 g2 => by
    have g2 : ¬ b < q := g2
    rw [hS2.2.1 q (by omega) (fun z => by have : b + 128 < q := z.1; omega)]
    exact hS1.2.1 q g1 (fun z => g2 z.1), fun _ h => by cases h⟩
  have hO : LOK (p, l, e, room_1, s, m, #[Value.ref bs], below, meth, c, Q, s.heap, D, ac) b bs L0 xs := ⟨hbz, rfl, hXs, by omega⟩
  refine law_loop (X := (p, l, e, room_1, s, m, #[Value.ref bs], below, meth, c, Q, s.heap, D, ac)) (hX _ _) (hI _ _) hO hL hs (fun hA hM i => ?_) (L0 + 8) 0 hA0 hM0 h0 (by omega) (by omega) H2 ls2 hWA hWM hSS (lv_sub hl2 [3, 2, 1, 0] rfl)
  refine l_iconst (v := 1) (hX _ _) dL_law_1199 (by decide) ?_
  intro H ls hWA hWM hS hl
  exact W.widen (Nat.le_of_ble_eq_true rfl) (Nat.le_of_ble_eq_true rfl) (hret H ls)
