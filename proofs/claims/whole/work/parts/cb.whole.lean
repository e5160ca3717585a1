/-! The law's body from its entry -/
theorem s_CB {s : State} {args : Array Value} {idx n mc9 ms9 : Nat} {q : qM} (hts : ∀ w ∈ q_TB, w.before args s = true) (w1 : Cond.methodLink "BlockedCarsLaw" idx q.1 ∈ q_TB) (w3 : Cond.initialized q.1.cls ∈ q_TB) (w4 : Cond.code q.1 q.2.1 q.2.2.1 q.2.2.2 ∈ q_TB)
    (hd : q.1.cls ≠ "java/lang/invoke/MethodHandle" ∧ q.1.cls ≠ "java/lang/invoke/VarHandle" ∧ (parseMethodDescriptor q.1.desc).map (fun d => d.parameters.length) = some n) (h150 : q.2.2.1 ≤ 150) : CallB room_1 s args "BlockedCarsLaw" idx q.1 q.2.1 q.2.2.1 q.2.2.2 (q_ws q) (k_rm 10 mc9 ms9) mc9 ms9 n := by
  refine ⟨rfl, rfl, ?_, ?_, ?_, List.mem_cons_self, hts _ w4, hts _ w3, ⟨hd.1, hd.2.1⟩, fun sig h => ?_, hts _ w1⟩
  · show 10 + 1 ≤ 2048
    decide
  · show 8 + (q.2.2.1 + 11) + 200 * 10 ≤ 84000
    omega
  · intro w hw a' U hWm
    have hw : w ∈ q_TB := (List.mem_cons.mp hw).elim (fun e => e ▸ w4) id
    exact word_at hWm (good_of_word (q_TB_good hw).2) (hts w hw)
  · have h2 := hd.2.2
    rw [h] at h2
    exact (Option.some.inj h2).symm
theorem s_dk : w_dk code 0 [(.new 8, 3), (.dup, 1), (.invokespecial 98, 3), (.astore_n 1, 1), (.new 99, 3), (.dup, 1), (.invokespecial 101, 3), (.astore_n 2, 1), (.iconst 1, 1), (.newarray .long, 2), (.astore_n 3, 1), (.iconst 0, 1), (.istore 4, 2)] = true := by decide +kernel
theorem s_df {ci : Nat} {T : u_T} {ty : Nat → FieldType} {D : va_G} {base N : Nat} (hN : (k_fd ci).length = N) (hkf : ∀ j q, (k_fd ci)[j]? = some q → k_kf (ty j) (T j).2.2.2 q = true) : ∀ j, j < N → defaultValue (ty j) = vp_V (((k_fd ci).map k_df).map (k_val D base)) j := by
  intro j hj
  have hq : (k_fd ci)[j]? = some ((k_fd ci)[j]'(by omega)) := List.getElem?_eq_getElem _
  unfold vp_V
  rw [List.getD_eq_getElem?_getD, List.getElem?_map, List.getElem?_map, hq]
  exact k_dfv (hkf j _ hq)
set_option maxHeartbeats 4000000 in
set_option maxRecDepth 100000 in
/-- YOUR PART: from the entry, for every script of at most 4608 ints, the law comes to its end with true -/
theorem whole_start {p : Program} {e : Env} {s : State} {m : MethodId} {below : List Frame} {meth : Method} {c : Code} (l : Launch) (hl9 : l.stackTraces = false) {b L : Nat} {xs : Nat → Int32} (hL : L ≤ 4608) (C0 : lw_At p s m meth c b L xs) : W p l e room_1 s m #[Value.ref b] below meth c s.heap [] 0 0 (lw_Z below #[Value.ref b] s) (entryFrame m ([Value.ref b] : List Value).toArray 7) := by
  obtain ⟨hx, hb, hr, hml, hown, hts0, hX, hbl, hlk, hgv⟩ := C0
  have hts : ∀ w ∈ q_TB, w.before #[Value.ref b] s = true := fun w hw => hts0 w (q_TB_good hw).1
  have hn : narrow_1.before #[Value.ref b] s = true := by
    rw [Cond.before_and, Bool.and_eq_true] at hgv
    exact hgv.2
  obtain ⟨D, hK⟩ := s_D hts
  have hkX := s_X hts0
  have hXW := s_XW hts0 hn
  obtain ⟨adK, adV, hE⟩ := s_E hts0 hn
  have hM1 := k_met (k_core l k_cos k_aws k_oks 3000) (k := 0) (d := 10) (q := (yX10_init, cX10_init, 2, none)) (M := (kc_X10_init, 2, 197, 75706)) (kh := [.inl (9, (k_fd 9).map k_df)]) (kh1 := kA) (as := [.inr (.inr (0, 0))]) k_ok0 rfl rfl (by decide) kA_ev D s.heap.size
  have hM2 := k_met (k_core l k_cos k_aws k_oks 1000) (k := 42) (d := 10) (q := (yX11_init, cX11_init, 1, none)) (M := (kc_X11_init, 1, 482, 125965)) (kh := kB0) (kh1 := kB) (as := [.inr (.inr (0, 198))]) k_ok42 rfl rfl (by decide) kB_ev D s.heap.size
  obtain ⟨d1, hd⟩ := w_dk_c s_dk
  obtain ⟨d2, hd⟩ := w_dk_c hd
  obtain ⟨d3, hd⟩ := w_dk_c hd
  obtain ⟨d4, hd⟩ := w_dk_c hd
  obtain ⟨d5, hd⟩ := w_dk_c hd
  obtain ⟨d6, hd⟩ := w_dk_c hd
  obtain ⟨d7, hd⟩ := w_dk_c hd
  obtain ⟨d8, hd⟩ := w_dk_c hd
  obtain ⟨d9, hd⟩ := w_dk_c hd
  obtain ⟨d10, hd⟩ := w_dk_c hd
  obtain ⟨d11, hd⟩ := w_dk_c hd
  obtain ⟨d12, hd⟩ := w_dk_c hd
  obtain ⟨d13, -⟩ := w_dk_c hd
  have hl := lv_entry ([.ref b]) (n := 7) (Nat.le_of_ble_eq_true rfl)
  rw [lg_entry_eq]
  generalize (lg_sl ([.ref b]) ++ List.replicate (7 - (lg_sl ([.ref b])).length) Slot.unset).toArray = ls at hl ⊢
  have hl : lv_has ls 7 [(0, .ref b)] := hl
  have hA : ∀ q, s.heap.size ≤ q → k_A s.heap.size q := fun q hq => hq
  have hS0 : va_S (k_A s.heap.size) s.heap s.heap [] := va_S.rf
  -- the first object
  obtain ⟨C9, T9, N9, ty9, v1, v2, v3, v4, v5, v6, v7, v8, v9⟩ := k_co9
  have v1 : some (RX10, TX10, 16) = some (C9, T9, N9) := v1
  cases v1
  refine va_new (ci := 9) (D := D) (cl := vwCl) (A := k_A s.heap.size) (ws := k_ws D s.heap.size (fun _ => D.1 0) []) (fs := ((k_fd 9).map k_df).map (k_val D s.heap.size)) hx hb hts v3 ty9 v4 hown (hts _ (q_TB_in (q_mt1 (List.mem_of_getElem? (i := 26) rfl)) rfl)) (hts _ v7) (hts _ v8) hK (fun k q hk => by rw [k_ws_get] at hk; simp at hk) k_D hS0 hA rfl (s_df v2 v9) (by decide) (by decide) d1 (fun q1 H1 hP1 hD1 hS1 => ?_)
  refine W_sz (fun hz1 => ?_)
  obtain rfl : q1 = s.heap.size + 0 := k_next (kh := []) hP1 hD1 (by show H1.size ≤ s.heap.size + 0 + 1; omega)
  have hH1 : k_HH D s.heap.size (k_upd (fun _ => D.1 0) 0 (D.1 0)) s [.inl (9, (k_fd 9).map k_df)] H1 := k_HH_app (kh := []) (c := .inl (9, (k_fd 9).map k_df)) hP1 (fun k ty n w hk => by cases hk) (fun ty n w q => by cases q)
  have hs1 := k_size hH1 hS1 (n0 := 0) (cells := 1) rfl rfl hz1
  refine lv_dup hx hb d2 rfl ?_
  refine k_after (kh1 := kA) (mc9 := 197) (ms9 := 75706) (va_runI (p := p) (l := l) (e := e) (below := below) (meth := meth) (locs := []) (cells := 0 + 1) (slots := 0 + 16) (g := F0 m 4 ls [.ref (s.heap.size + 0), .ref (s.heap.size + 0)]) (As := []) (b := s.heap.size + 0) (rest := [.ref (s.heap.size + 0)]) (Ts := q_TB) ⟨hx, hb, hml, hown, hts⟩ hM1 (bytes := cX10_init) (maxL := 2) (n := 0) ⟨s_CB (q := (yX10_init, cX10_init, 2, none)) hts (q_TB_in (q_mt1 (List.mem_of_getElem? (i := 28) rfl)) rfl) (q_TB_in (q_mt1 (List.mem_of_getElem? (i := 1) rfl)) rfl) (q_TB_in (q_mt1 (List.mem_of_getElem? (i := 30) rfl)) rfl) ⟨by decide, by decide, by decide +kernel⟩ (by decide), rfl, hts _ (q_TB_in (q_mt1 (List.mem_of_getElem? (i := 29) rfl)) rfl)⟩ ⟨k_Pc_blind _, fun U hU hWm => ⟨rfl, va_K.moved hWm.alike hK, hkX.warm hWm, by rw [hU]; exact hs1, _, by rw [hU]; exact hH1.moved hWm.alike⟩⟩ rfl rfl hl.1 rfl (lv_roomN (Nat.le_of_ble_eq_true rfl)) d3 ⟨by decide, by decide⟩) hS1 (fun H2 locs2 cid2 hH2 hS2 => ?_)
  refine lv_astore_n hx hb d4 rfl hl (by decide) rfl (fun ls1 hl1 => ?_)
  have hl1 : lv_has ls1 7 [(1, .ref (s.heap.size + 0)), (0, .ref b)] := hl1
  -- the second
  obtain ⟨C9, T9, N9, ty9, v1, v2, v3, v4, v5, v6, v7, v8, v9⟩ := k_co10
  have v1 : some (RX11, TX11, 53) = some (C9, T9, N9) := v1
  cases v1
  refine va_new (ci := 10) (D := D) (cl := vwCl) (A := k_A s.heap.size) (ws := k_ws D s.heap.size cid2 kA) (fs := ((k_fd 10).map k_df).map (k_val D s.heap.size)) hx hb hts v3 ty9 v4 hown (hts _ (q_TB_in (q_mt6 (List.mem_of_getElem? (i := 78) rfl)) rfl)) (hts _ v7) (hts _ v8) hK hH2.1 k_D hS2 hA rfl (s_df v2 v9) (by decide) (by decide) d5 (fun q1 H3 hP3 hD3 hS3 => ?_)
  refine W_sz (fun hz3 => ?_)
  obtain rfl : q1 = s.heap.size + 198 := by
    have := k_next (kh := kA) hP3 hD3 (by rw [kA_len]; omega)
    rw [kA_len] at this
    exact this
  have hH3 : k_HH D s.heap.size (k_upd cid2 kA.length (D.1 0)) s kB0 H3 := k_HH_app (kh := kA) (c := .inl (10, (k_fd 10).map k_df)) (by rw [kA_len]; exact hP3) hH2.2 (fun ty n w q => by cases q)
  have hkB0 : kB0.length = 199 := by
    unfold kB0
    rw [List.length_append, kA_len]
    rfl
  have hs3 := k_size hH3 hS3 (n0 := 0) (cells := 199) rfl hkB0 (by omega)
  refine lv_dup hx hb d6 rfl ?_
  refine k_after (kh1 := kB) (mc9 := 482) (ms9 := 125965) (va_runI (p := p) (l := l) (e := e) (below := below) (meth := meth) (locs := locs2) (cells := 0 + 1 + 197 + 1) (slots := 0 + 16 + 75706 + 53) (g := F0 m 12 ls1 [.ref (s.heap.size + 198), .ref (s.heap.size + 198)]) (As := []) (b := s.heap.size + 198) (rest := [.ref (s.heap.size + 198)]) (Ts := q_TB) ⟨hx, hb, hml, hown, hts⟩ hM2 (bytes := cX11_init) (maxL := 1) (n := 0) ⟨s_CB (q := (yX11_init, cX11_init, 1, none)) hts (q_TB_in (q_mt6 (List.mem_of_getElem? (i := 80) rfl)) rfl) (q_TB_in (q_mt1 (List.mem_of_getElem? (i := 11) rfl)) rfl) (q_TB_in (q_mt6 (List.mem_of_getElem? (i := 82) rfl)) rfl) ⟨by decide, by decide, by decide +kernel⟩ (by decide), rfl, hts _ (q_TB_in (q_mt6 (List.mem_of_getElem? (i := 81) rfl)) rfl)⟩ ⟨k_Pc_blind _, fun U hU hWm => ⟨rfl, va_K.moved hWm.alike hK, hkX.warm hWm, by rw [hU]; exact hs3, _, by rw [hU]; exact hH3.moved hWm.alike⟩⟩ rfl rfl hl1.1 rfl (lv_roomN (Nat.le_of_ble_eq_true rfl)) d7 ⟨by decide, by decide⟩) hS3 (fun H4 locs4 cid4 hH4 hS4 => ?_)
  refine lv_astore_n hx hb d8 rfl hl1 (by decide) rfl (fun ls2 hl2 => ?_)
  have hl2 : lv_has ls2 7 [(2, .ref (s.heap.size + 198)), (1, .ref (s.heap.size + 0)), (0, .ref b)] := hl2
  -- the long's row
  refine lv_iconst (v := nI 1) hx hb d9 rfl ?_
  refine va_newa (D := D) (cl := vwCl) (tys := []) (A := k_A s.heap.size) (ws := k_ws D s.heap.size cid4 kB) (a0 := (1, .inr (.inl (fun _ => 0)))) (ty := .long) (atype := .long) hx hb (hts _ k_aws.2.2.1) rfl hK hH4.1 k_D hS4 hA (fun cA => by rw [vp_cell_l]; rfl) (nI_pos (by decide)) (nI_clamp (by decide)) (by decide) (by decide) (by decide) d10 (fun q1 cA H5 hK5 hP5 hD5 hS5 => ?_)
  refine W_sz (fun hz5 => ?_)
  obtain rfl : q1 = s.heap.size + 681 := by
    have := k_next (kh := kB) hP5 hD5 (by rw [kB_len]; omega)
    rw [kB_len] at this
    exact this
  have hH5 : k_HH D s.heap.size (k_upd cid4 kB.length cA) s kF H5 := k_HH_app (kh := kB) (c := .inr (2, 1, [])) (by rw [kB_len]; exact hP5) hH4.2 (fun ty n w q => by cases q; exact hK5.2 0 _ rfl)
  refine lv_astore_n hx hb d11 rfl hl2 (by decide) rfl (fun ls3 hl3 => ?_)
  have hl3 : lv_has ls3 7 [(3, .ref (s.heap.size + 681)), (2, .ref (s.heap.size + 198)), (1, .ref (s.heap.size + 0)), (0, .ref b)] := hl3
  refine lv_iconst (v := nI 0) hx hb d12 rfl ?_
  refine lv_istore hx hb d13 hl3 (by decide) rfl (fun ls4 hl4 => ?_)
  have hl4 : lv_has ls4 7 [(4, .int (nI 0)), (3, .ref (s.heap.size + 681)), (2, .ref (s.heap.size + 198)), (1, .ref (s.heap.size + 0)), (0, .ref b)] := hl4
  -- the loop
  generalize hcid : k_upd cid4 kB.length cA = cid5 at hH5
  have hGA : ∀ q, q_A (kG D s.heap.size cid5 (fun f i => if f = 99 then adK i else adV i)) q → l_A s q := by
    rintro q ⟨f, i, hi, rfl⟩
    have hf := k_cnt81 hi
    rw [kG_1 (by omega)]
    exact Nat.le_add_right _ _
  have CM : LM p s m meth c b L xs (kG D s.heap.size cid5 (fun f i => if f = 99 then adK i else adV i)) := ⟨hx, hb, hr, hml, hown, hts, hX, hbl, hlk, k_toW hK hH5, hE _ (fun i => rfl) (fun i => rfl) hGA, hXW, fun f i hi => hGA _ ⟨f, i, hi, rfl⟩, hL⟩
  have hl5 : lv_has ls4 7 (l_lv b (kG D s.heap.size cid5 (fun f i => if f = 99 then adK i else adV i)) (9 * 0)) := by
    have g0 : (kG D s.heap.size cid5 (fun f i => if f = 99 then adK i else adV i)).1 0 0 = s.heap.size + 0 := by
      rw [kG_1 (by decide)]
      rfl
    have g1 : (kG D s.heap.size cid5 (fun f i => if f = 99 then adK i else adV i)).1 40 0 = s.heap.size + 198 := by
      rw [kG_1 (by decide)]
      rfl
    have g2 : (kG D s.heap.size cid5 (fun f i => if f = 99 then adK i else adV i)).1 80 0 = s.heap.size + 681 := by
      rw [kG_1 (by decide)]
      rfl
    unfold l_lv
    rw [g0, g1, g2]
    exact lv_sub hl4 [4, 3, 2, 1, 0] rfl
  exact l_loop CM hl9 (c0 := 682) (s0 := 201741) (by decide) (by decide) 513 0 H5 locs4 ls4 kS 0 a00 0 (by decide) (by decide) (k_toH hH5) hS5 hl5 kBS (by decide) (by decide)
