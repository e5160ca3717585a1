/-! A case with a wrapper -/
def patA (n iW iM : Nat) : List (Instr × Nat) := (.aload_n 1, 1) :: (argsI 1 n ++ ((.aload_n 3, 1) :: (.invokestatic iW, 3) :: (.istore 5, 2) :: (.aload_n 2, 1) :: (argsI 1 n ++ [(.invokevirtual iM, 3), (.istore 6, 2), (.aload_n 2, 1), (.invokevirtual 113, 3), (.iload 5, 2), (.if_icmp .eq 5, 3)])))
def patE : List (Instr × Nat) := [(.iload 5, 2), (.ifCond .ne 15, 3), (.aload_n 3, 1), (.iconst 0, 1), (.laload, 1), (.iload 6, 2), (.i2l, 1), (.lcmp, 1), (.ifCond .eq 5, 3)]
def patG : List (Instr × Nat) := [(.iload 5, 2), (.ifCond .ne 22, 3), (.aload_n 3, 1), (.iconst 0, 1), (.laload, 1), (.iload 6, 2), (.ifCond .eq 7, 3), (.lconst 1, 1), (.goto 4, 3), (.lconst 0, 1), (.lcmp, 1), (.ifCond .eq 5, 3)]
theorem lg_same (x : Int64) : lg_cmp x x = 0 := by
  unfold lg_cmp
  simp
abbrev F80 : Nat → Nat → Prop := fun f _ => f < 40 ∨ f = 80
theorem nF8 {f i : Nat} (h : 40 ≤ f ∧ f ≠ 80) : ¬ F80 f i := fun q => q.elim (fun q => by omega) h.2
theorem RF_fr8 {S S' : qSt} {a : AS} (h : RF S a) (hf : fr F80 S S') : RF S' a := by
  obtain ⟨h1, h2, h3, h4, h5, h6, h7, h8, h9⟩ := h
  have e0 := (hf 40 0 (by decide)).1
  refine ⟨h1.fr hf (fun _ => nF8 (by decide)) (fun _ => nF8 (by decide)) (fun _ => nF8 (by decide)) (fun _ => nF8 (by decide)), h2.fr hf (nF8 (by decide)) (fun _ => nF8 (by decide)), ?_, ⟨?_, h4.2.1.fr hf (nF8 (by decide)), fun j hj => (h4.2.2 j hj).fr hf (nF8 (by decide))⟩, ⟨?_, fun i hi => ?_⟩, ⟨?_, ?_⟩, ?_, ?_, ?_⟩
  · obtain ⟨m, w, o, k1, k2⟩ := h3
    exact ⟨m, w, o, k1.fr9 hf (nF8 (by decide)) (fun _ => nF8 (by decide)), k2⟩
  · rw [e0]; exact h4.1
  · rw [e0]; exact h5.1
  · unfold MI
    rw [(hf 68 i (nF8 (by decide))).1]
    exact h5.2 i hi
  · rw [e0]; exact h6.1
  · rw [(hf 41 0 (by decide)).1]; exact h6.2
  · rw [e0]; exact h7
  · unfold RF8
    rw [e0, (hf 42 0 (by decide)).1]
    exact h8
  · rw [e0]; exact h9
section LQ
variable {p : Program} {l : Launch} {e : Env} {s : State} {m : MethodId} {below : List Frame} {meth : Method} {c : Code} {b L : Nat} {xs : Nat → Int32} {G : qG} {H : Heap} {locs : List Loc} {cells slots : Nat} {arr : Array Slot} {S : qSt} {i : Nat}
theorem l_ld80 (C : LM p s m meth c b L xs G) (hH : q_H G S H) {pc : Nat} {rest : List Value} (hd : decode code pc = .ok (.laload, 1))
    (kk : W p l e room_1 s m #[Value.ref b] below meth c H locs cells slots (lw_Z below #[Value.ref b] s) (F0 m (pc + 1) arr (.long (q_L S 80 0 0) :: rest))) : W p l e room_1 s m #[Value.ref b] below meth c H locs cells slots (lw_Z below #[Value.ref b] s) (F0 m pc arr (.int 0 :: .ref (G.1 80 0) :: rest)) := by
  obtain ⟨hx, hb, hret, hml, hown, hts, hXX, hbl, hlk, hW, hE, hXW, hG, hL⟩ := C
  exact va_lald (D := G.2.2) (ws := [(G.1 80 0, .inl (G.2.1 80 0, q_al 80, .inr (.inl (q_L S 80 0))))]) (tys := [(G.2.1 80 0, .long)]) hx hb (q_arrK hW (by decide) (by decide) rfl) (q_arr2 hH (by decide) rfl) 0 0 rfl rfl (i := 0) (by show vp_in (nI 0) (q_al 80); exact vp_in_nI (by decide) (by decide)) hd kk
set_option maxHeartbeats 2000000 in
theorem l_patA (C : LM p s m meth c b L xs G) (hi : i + 9 ≤ L) {pc n iW iM kM : Nat} {q : qM} {hh : List (Nat × Nat × Nat × Nat)} (hn : n ≤ 8) (hd : w_dk code pc (patA n iW iM) = true)
    (w1 : Cond.methodLink "BlockedCarsLaw" iW q.1 ∈ q_TB) (w2 : Cond.static q.1 ∈ q_TB) (w3 : Cond.codeWith q.1 q.2.1 q.2.2.1 q.2.2.2 hh ∈ q_TB) (w4 : Cond.initialized q.1.cls ∈ q_TB) (hdd : q.1.cls ≠ "java/lang/invoke/MethodHandle" ∧ q.1.cls ≠ "java/lang/invoke/VarHandle" ∧ (parseMethodDescriptor q.1.desc).map (fun d => d.parameters.length) = some (n + 2)) (h150 : q.2.2.1 ≤ 150)
    (hM : q_cpok q_mt "BlockedCarsLaw" (iM, 1, kM, n)) (hMk : q_ckx q_mt 7 (some .int) (44, 0, kM, n + 1, 1, 0, 0, [(0, 40)]) = true) (hT : q_cpok q_mt "BlockedCarsLaw" (113, 1, k_X11_thrown, 0))
    {t B B1 : Nat} {a : AS} {r : SPR} {g : Int32 → Int64} (hwA : q_WM l 62 q hh (.inr (.inr (0, 0)) :: (l_as (argV xs i 1 n) ++ [.inr (.inr (80, 0))])) S (WP S t r g)) (hrA : ∀ S', RF S' a → RA l kM (.inr (.inr (40, 0)) :: l_as (argV xs i 1 n)) S' r) (hI : IV r.2 B1) (hB : B1 ≤ B + 200) (hc2 : spC r.1 ≤ 2)
    (hBS : BS S t a B) (hH : q_H G S H) (hS : va_S (l_A s) s.heap H locs) (hl : lv_has arr 7 (l_lv b G i)) (hc : cells + 1 ≤ 601024) (hsl : slots + 6 ≤ 7293034)
    (kk : ∀ (H1 : Heap) (locs1 : List Loc) (arr1 : Array Slot) (S1 : qSt) (t1 : Nat), q_H G S1 H1 → va_S (l_A s) s.heap H1 locs1 → lv_has arr1 7 (l_lv b G i) → arr1[5]? = some (.val (.int (nI (spC r.1)))) → arr1[6]? = some (.val (.int (spV r.1))) → BS S1 t1 r.2 B1 → t1 ≤ t + 25 → (∀ v, r.1 = .inr v → q_L S1 80 0 0 = g v) →
      W p l e room_1 s m #[Value.ref b] below meth c H1 locs1 (cells + 1) (slots + 6) (lw_Z below #[Value.ref b] s) (F0 m (pc + (szI (patA n iW iM) + 2)) arr1 [])) :
    W p l e room_1 s m #[Value.ref b] below meth c H locs cells slots (lw_Z below #[Value.ref b] s) (F0 m pc arr []) := by
  have C9 := C
  obtain ⟨hx, hb, hret, hml, hown, hts, hXX, hbl, hlk, hW, hE, hXW, hG, hL⟩ := C
  have hsz : szI (patA n iW iM) = 1 + (szI (argsI 1 n) + (1 + (3 + (2 + (1 + (szI (argsI 1 n) + (3 + (2 + (1 + (3 + (2 + 3))))))))))) := by
    have szA : ∀ a b : List (Instr × Nat), szI (a ++ b) = szI a + szI b := by
      intro a b
      induction a with
      | nil => simp [szI]
      | cons x a ih => simp only [List.cons_append, szI, ih]; omega
    unfold patA
    simp only [szI, szA]
  unfold patA at hd
  obtain ⟨d1, hd⟩ := w_dk_c hd
  obtain ⟨hd2, hd⟩ := w_dk_a hd
  obtain ⟨d3, hd⟩ := w_dk_c hd
  obtain ⟨d4, hd⟩ := w_dk_c hd
  obtain ⟨d5, hd⟩ := w_dk_c hd
  obtain ⟨d6, hd⟩ := w_dk_c hd
  obtain ⟨hd7, hd⟩ := w_dk_a hd
  obtain ⟨d8, hd⟩ := w_dk_c hd
  obtain ⟨d9, hd⟩ := w_dk_c hd
  obtain ⟨d10, hd⟩ := w_dk_c hd
  obtain ⟨d11, hd⟩ := w_dk_c hd
  obtain ⟨d12, hd⟩ := w_dk_c hd
  obtain ⟨d13, -⟩ := w_dk_c hd
  refine lv_aload_n hx hb d1 rfl (lv_at hl 1 rfl) ?_
  refine l_args C9 hS (lv_at hl 0 rfl) (lv_at hl 4 rfl) hi n 1 _ _ (by omega) hd2 ?_
  refine lv_aload_n hx hb d3 rfl (lv_at hl 3 rfl) ?_
  have hst : ((((.inr (.inr (0, 0)) :: (l_as (argV xs i 1 n) ++ [.inr (.inr (80, 0))])) : List qV).map (q_cv G)).reverse ++ ([] : List Value)) = .ref (G.1 80 0) :: (((argV xs i 1 n).map Value.int).reverse ++ [.ref (G.1 0 0)]) := by
    rw [List.map_cons, List.map_append, l_as_cv]
    simp [q_cv]
  rw [← hst]
  refine l_wcall C9 w1 w2 w3 w4 hdd h150 ?_ ?_ hwA hH hS hl.1 (rest := []) (Nat.zero_le _) (by omega) (by omega) d4 ?_
  · unfold l_as
    simp [argV_len]
  · refine q_okT (Or.inl (by decide)) ?_
    intro v hv
    rcases List.mem_append.mp hv with h | h
    · exact l_as_ok _ v h
    · cases List.mem_singleton.mp h
      exact Or.inl (by decide)
  intro v1 S1 H1 locs1 hp hH1 hS1
  obtain ⟨e1, ⟨t', ht', hC1⟩, hf1, hgv⟩ := hp
  cases e1
  refine lv_istore hx hb d5 hl (by decide) rfl (fun arr1 hl1 => ?_)
  have hl1 : lv_has arr1 7 ((5, Value.int (nI (spC r.1))) :: l_lv b G i) := hl1
  refine lv_aload_n hx hb d6 rfl (lv_at hl1 3 rfl) ?_
  refine l_args C9 hS1 (lv_at hl1 1 rfl) (lv_at hl1 5 rfl) hi n 1 _ _ (by omega) hd7 ?_
  rw [← l_as_cv (G := G)]
  have hR1 : RF S1 a := RF_fr8 hBS.2.1 hf1
  obtain ⟨dM, hdM, hrA⟩ := hrA S1 hR1
  refine l_call C9 hM hMk (by decide) (by unfold l_as; rw [List.length_map, argV_len]) (l_as_ok _) hrA (by omega) hH1 hS1 hl1.1 (rest := []) (Nat.zero_le _) (by omega) (by omega) d8 ?_
  intro v2 S2 H2 locs2 hp hH2 hS2
  obtain ⟨e2, hth, hR2, hf2⟩ := hp
  cases e2
  refine lv_istore hx hb d9 hl1 (by decide) rfl (fun arr2 hl2 => ?_)
  have hl2 : lv_has arr2 7 ((6, Value.int (spV r.1)) :: (5, Value.int (nI (spC r.1))) :: l_lv b G i) := hl2
  refine lv_aload_n hx hb d10 rfl (lv_at hl2 4 rfl) ?_
  refine l_call C9 hT (by decide +kernel) (by decide) (as := []) rfl (fun _ h => by cases h) (c_mthrown l S2) (by omega) hH2 hS2 hl2.1 (rest := []) (Nat.zero_le _) (by omega) (by omega) d11 ?_
  intro v3 S3 H3 locs3 hp hH3 hS3
  obtain ⟨e3, rfl⟩ := hp
  rw [hth] at e3
  cases e3
  refine lv_iload hx hb d12 (lv_at hl2 1 rfl) ?_
  refine lv_icmp_eq (tgt := pc + (szI (patA n iW iM) + 2)) hx hb d13 ?_ (fun _ => ?_) (fun h => absurd rfl h)
  · rw [hsz]
    push_cast
    omega
  · refine kk H3 locs3 arr2 S3 t' hH3 hS3 (lv_sub hl2 [2, 3, 4, 5, 6] rfl) (lv_at hl2 1 rfl) (lv_at hl2 0 rfl) (BS_r hC1 hR2 hI hf2) ht' (fun v hv => ?_)
    rw [(hf2 80 0 (by show ¬ (40 ≤ 80 ∧ 80 < 80); omega)).2.1]
    exact hgv v hv
theorem l_endE (C : LM p s m meth c b L xs G) {pc : Nat} {off : Int} (hd : w_dk code pc patE = true) (hdg : decode code (pc + 17) = .ok (.goto off, 3)) (htg : ((pc + 17 : Nat) : Int) + off = (2170 : Nat)) {r : SPR} (hc2 : spC r.1 ≤ 2) (hc0 : ∀ k, r.1 = .inl k → 0 < k) (hH : q_H G S H) (hl : lv_has arr 7 (l_lv b G i)) (h5 : arr[5]? = some (.val (.int (nI (spC r.1))))) (h6 : arr[6]? = some (.val (.int (spV r.1)))) (hgv : ∀ v, r.1 = .inr v → q_L S 80 0 0 = gI v)
    (kk : W p l e room_1 s m #[Value.ref b] below meth c H locs cells slots (lw_Z below #[Value.ref b] s) (F0 m 2170 arr [])) : W p l e room_1 s m #[Value.ref b] below meth c H locs cells slots (lw_Z below #[Value.ref b] s) (F0 m pc arr []) := by
  have C9 := C
  obtain ⟨hx, hb, hret, hml, hown, hts, hXX, hbl, hlk, hW, hE, hXW, hG, hL⟩ := C
  unfold patE at hd
  obtain ⟨d1, hd⟩ := w_dk_c hd
  obtain ⟨d2, hd⟩ := w_dk_c hd
  obtain ⟨d3, hd⟩ := w_dk_c hd
  obtain ⟨d4, hd⟩ := w_dk_c hd
  obtain ⟨d5, hd⟩ := w_dk_c hd
  obtain ⟨d6, hd⟩ := w_dk_c hd
  obtain ⟨d7, hd⟩ := w_dk_c hd
  obtain ⟨d8, hd⟩ := w_dk_c hd
  obtain ⟨d9, -⟩ := w_dk_c hd
  have hgo : W p l e room_1 s m #[Value.ref b] below meth c H locs cells slots (lw_Z below #[Value.ref b] s) (F0 m (pc + 17) arr []) := lv_goto hx hb hdg htg kk
  refine lv_iload hx hb d1 h5 ?_
  refine lv_if_ne (tgt := pc + 17) hx hb d2 (by push_cast; omega) (fun _ => hgo) (fun h0 => ?_)
  have hv : ∃ v, r.1 = .inr v := by
    cases hr : r.1 with
    | inr v => exact ⟨v, rfl⟩
    | inl k =>
      rw [hr] at h0 hc2
      have hk := hc0 k hr
      have hk2 : k ≤ 2 := hc2
      have h0 : nI k = 0 := h0
      exact absurd h0 (nI_ne0 hk (by omega))
  obtain ⟨v, hv⟩ := hv
  refine lv_aload_n hx hb d3 rfl (lv_at hl 3 rfl) ?_
  refine lv_iconst (v := 0) hx hb d4 rfl ?_
  refine l_ld80 C9 hH d5 ?_
  refine lv_iload hx hb d6 h6 ?_
  refine lv_i2l hx hb d7 rfl ?_
  refine W.lcmp hx hb d8 ?_
  rw [hgv v hv, hv]
  refine lv_if_eq (tgt := pc + 17) hx hb d9 (by push_cast; omega) (fun _ => hgo) (fun h => absurd (lg_same _) h)
theorem l_endG (C : LM p s m meth c b L xs G) {pc : Nat} {off : Int} (hd : w_dk code pc patG = true) (hdg : decode code (pc + 24) = .ok (.goto off, 3)) (htg : ((pc + 24 : Nat) : Int) + off = (2170 : Nat)) {r : SPR} (hc2 : spC r.1 ≤ 2) (hc0 : ∀ k, r.1 = .inl k → 0 < k) (hH : q_H G S H) (hl : lv_has arr 7 (l_lv b G i)) (h5 : arr[5]? = some (.val (.int (nI (spC r.1))))) (h6 : arr[6]? = some (.val (.int (spV r.1)))) (hgv : ∀ v, r.1 = .inr v → q_L S 80 0 0 = gZ v)
    (kk : W p l e room_1 s m #[Value.ref b] below meth c H locs cells slots (lw_Z below #[Value.ref b] s) (F0 m 2170 arr [])) : W p l e room_1 s m #[Value.ref b] below meth c H locs cells slots (lw_Z below #[Value.ref b] s) (F0 m pc arr []) := by
  have C9 := C
  obtain ⟨hx, hb, hret, hml, hown, hts, hXX, hbl, hlk, hW, hE, hXW, hG, hL⟩ := C
  unfold patG at hd
  obtain ⟨d1, hd⟩ := w_dk_c hd
  obtain ⟨d2, hd⟩ := w_dk_c hd
  obtain ⟨d3, hd⟩ := w_dk_c hd
  obtain ⟨d4, hd⟩ := w_dk_c hd
  obtain ⟨d5, hd⟩ := w_dk_c hd
  obtain ⟨d6, hd⟩ := w_dk_c hd
  obtain ⟨d7, hd⟩ := w_dk_c hd
  obtain ⟨d8, hd⟩ := w_dk_c hd
  obtain ⟨d9, hd⟩ := w_dk_c hd
  obtain ⟨d10, hd⟩ := w_dk_c hd
  obtain ⟨d11, hd⟩ := w_dk_c hd
  obtain ⟨d12, -⟩ := w_dk_c hd
  have hgo : W p l e room_1 s m #[Value.ref b] below meth c H locs cells slots (lw_Z below #[Value.ref b] s) (F0 m (pc + 24) arr []) := lv_goto hx hb hdg htg kk
  refine lv_iload hx hb d1 h5 ?_
  refine lv_if_ne (tgt := pc + 24) hx hb d2 (by push_cast; omega) (fun _ => hgo) (fun h0 => ?_)
  have hv : ∃ v, r.1 = .inr v := by
    cases hr : r.1 with
    | inr v => exact ⟨v, rfl⟩
    | inl k =>
      rw [hr] at h0 hc2
      have hk := hc0 k hr
      have hk2 : k ≤ 2 := hc2
      have h0 : nI k = 0 := h0
      exact absurd h0 (nI_ne0 hk (by omega))
  obtain ⟨v, hv⟩ := hv
  refine lv_aload_n hx hb d3 rfl (lv_at hl 3 rfl) ?_
  refine lv_iconst (v := 0) hx hb d4 rfl ?_
  refine l_ld80 C9 hH d5 ?_
  refine lv_iload hx hb d6 h6 ?_
  rw [hgv v hv, hv]
  refine lv_if_eq (x := v) (tgt := pc + 17) hx hb d7 (by push_cast; omega) (fun hz => ?_) (fun hz => ?_)
  · rw [show gZ v = 0 from if_pos hz]
    refine lv_lconst (v := 0) hx hb d10 rfl ?_
    refine W.lcmp hx hb d11 ?_
    refine lv_if_eq (tgt := pc + 24) hx hb d12 (by push_cast; omega) (fun _ => hgo) (fun h => absurd (lg_same _) h)
  · rw [show gZ v = 1 from if_neg hz]
    refine lv_lconst (v := 1) hx hb d8 rfl ?_
    refine lv_goto (tgt := pc + 18) hx hb d9 (by push_cast; omega) ?_
    refine W.lcmp hx hb d11 ?_
    refine lv_if_eq (tgt := pc + 24) hx hb d12 (by push_cast; omega) (fun _ => hgo) (fun h => absurd (lg_same _) h)
end LQ
