/-! The law's loop -/
section LL
variable {p : Program} {l : Launch} {e : Env} {s : State} {m : MethodId} {below : List Frame} {meth : Method} {c : Code} {b L : Nat} {xs : Nat → Int32} {G : qG} {H : Heap} {locs : List Loc} {cells slots : Nat} {arr : Array Slot} {S : qSt} {i : Nat}
theorem dsw : decode code 40 = .ok (.tableswitch 2130 0 32 #[148, 221, 277, 333, 389, 445, 458, 471, 527, 595, 663, 731, 799, 945, 1001, 1069, 1125, 1181, 1244, 1312, 1392, 1448, 1504, 1596, 1676, 1732, 1788, 1844, 1936, 2054, 2067, 2080, 2105], 148) := by decide +kernel
set_option maxHeartbeats 4000000 in
set_option maxRecDepth 100000 in
theorem l_switch (C : LM p s m meth c b L xs G) (hl9 : l.stackTraces = false) (hi : i + 9 ≤ L) {t B : Nat} {a : AS} (hBS : BS S t a B) (ht : t + 25 < 65536) (hB : B + 200 ≤ 2 ^ 20) (hH : q_H G S H) (hS : va_S (l_A s) s.heap H locs) (hl : lv_has arr 7 (l_lv b G i)) (hc : cells + 1 ≤ 601024) (hsl : slots + 6 ≤ 7293034) (kk : LKK p l e s m below meth c b G i cells slots t B) {k : Nat} (hk : k < 64) : W p l e room_1 s m #[Value.ref b] below meth c H locs cells slots (lw_Z below #[Value.ref b] s) (F0 m 40 arr [.int (nI k)]) := by
  have C9 := C
  obtain ⟨hx, hb, hret, hml, hown, hts, hX, hbl, hlk, hW, hE, hXW, hG, hL⟩ := C
  have C := C9
  by_cases h33 : k < 33
  · match k, h33 with
    | 0, _ => exact lv_tableIn (off := 148) (tgt := 188) hx hb dsw (by decide) (by decide) (by decide +kernel) (by decide) (l_case0 C hl9 hi hBS ht hB hH hS hl hc hsl kk)
    | 1, _ => exact lv_tableIn (off := 221) (tgt := 261) hx hb dsw (by decide) (by decide) (by decide +kernel) (by decide) (l_case1 C hl9 hi hBS ht hB hH hS hl hc hsl kk)
    | 2, _ => exact lv_tableIn (off := 277) (tgt := 317) hx hb dsw (by decide) (by decide) (by decide +kernel) (by decide) (l_case2 C hl9 hi hBS ht hB hH hS hl hc hsl kk)
    | 3, _ => exact lv_tableIn (off := 333) (tgt := 373) hx hb dsw (by decide) (by decide) (by decide +kernel) (by decide) (l_case3 C hl9 hi hBS ht hB hH hS hl hc hsl kk)
    | 4, _ => exact lv_tableIn (off := 389) (tgt := 429) hx hb dsw (by decide) (by decide) (by decide +kernel) (by decide) (l_case4 C hl9 hi hBS ht hB hH hS hl hc hsl kk)
    | 5, _ => exact lv_tableIn (off := 445) (tgt := 485) hx hb dsw (by decide) (by decide) (by decide +kernel) (by decide) (l_case5 C hl9 hi hBS ht hB hH hS hl hc hsl kk)
    | 6, _ => exact lv_tableIn (off := 458) (tgt := 498) hx hb dsw (by decide) (by decide) (by decide +kernel) (by decide) (l_case6 C hl9 hi hBS ht hB hH hS hl hc hsl kk)
    | 7, _ => exact lv_tableIn (off := 471) (tgt := 511) hx hb dsw (by decide) (by decide) (by decide +kernel) (by decide) (l_case7 C hl9 hi hBS ht hB hH hS hl hc hsl kk)
    | 8, _ => exact lv_tableIn (off := 527) (tgt := 567) hx hb dsw (by decide) (by decide) (by decide +kernel) (by decide) (l_case8 C hl9 hi hBS ht hB hH hS hl hc hsl kk)
    | 9, _ => exact lv_tableIn (off := 595) (tgt := 635) hx hb dsw (by decide) (by decide) (by decide +kernel) (by decide) (l_case9 C hl9 hi hBS ht hB hH hS hl hc hsl kk)
    | 10, _ => exact lv_tableIn (off := 663) (tgt := 703) hx hb dsw (by decide) (by decide) (by decide +kernel) (by decide) (l_case10 C hl9 hi hBS ht hB hH hS hl hc hsl kk)
    | 11, _ => exact lv_tableIn (off := 731) (tgt := 771) hx hb dsw (by decide) (by decide) (by decide +kernel) (by decide) (l_case11 C hl9 hi hBS ht hB hH hS hl hc hsl kk)
    | 12, _ => exact lv_tableIn (off := 799) (tgt := 839) hx hb dsw (by decide) (by decide) (by decide +kernel) (by decide) (l_case12 C hl9 hi hBS ht hB hH hS hl hc hsl kk)
    | 13, _ => exact lv_tableIn (off := 945) (tgt := 985) hx hb dsw (by decide) (by decide) (by decide +kernel) (by decide) (l_case13 C hl9 hi hBS ht hB hH hS hl hc hsl kk)
    | 14, _ => exact lv_tableIn (off := 1001) (tgt := 1041) hx hb dsw (by decide) (by decide) (by decide +kernel) (by decide) (l_case14 C hl9 hi hBS ht hB hH hS hl hc hsl kk)
    | 15, _ => exact lv_tableIn (off := 1069) (tgt := 1109) hx hb dsw (by decide) (by decide) (by decide +kernel) (by decide) (l_case15 C hl9 hi hBS ht hB hH hS hl hc hsl kk)
    | 16, _ => exact lv_tableIn (off := 1125) (tgt := 1165) hx hb dsw (by decide) (by decide) (by decide +kernel) (by decide) (l_case16 C hl9 hi hBS ht hB hH hS hl hc hsl kk)
    | 17, _ => exact lv_tableIn (off := 1181) (tgt := 1221) hx hb dsw (by decide) (by decide) (by decide +kernel) (by decide) (l_case17 C hl9 hi hBS ht hB hH hS hl hc hsl kk)
    | 18, _ => exact lv_tableIn (off := 1244) (tgt := 1284) hx hb dsw (by decide) (by decide) (by decide +kernel) (by decide) (l_case18 C hl9 hi hBS ht hB hH hS hl hc hsl kk)
    | 19, _ => exact lv_tableIn (off := 1312) (tgt := 1352) hx hb dsw (by decide) (by decide) (by decide +kernel) (by decide) (l_case19 C hl9 hi hBS ht hB hH hS hl hc hsl kk)
    | 20, _ => exact lv_tableIn (off := 1392) (tgt := 1432) hx hb dsw (by decide) (by decide) (by decide +kernel) (by decide) (l_case20 C hl9 hi hBS ht hB hH hS hl hc hsl kk)
    | 21, _ => exact lv_tableIn (off := 1448) (tgt := 1488) hx hb dsw (by decide) (by decide) (by decide +kernel) (by decide) (l_case21 C hl9 hi hBS ht hB hH hS hl hc hsl kk)
    | 22, _ => exact lv_tableIn (off := 1504) (tgt := 1544) hx hb dsw (by decide) (by decide) (by decide +kernel) (by decide) (l_case22 C hl9 hi hBS ht hB hH hS hl hc hsl kk)
    | 23, _ => exact lv_tableIn (off := 1596) (tgt := 1636) hx hb dsw (by decide) (by decide) (by decide +kernel) (by decide) (l_case23 C hl9 hi hBS ht hB hH hS hl hc hsl kk)
    | 24, _ => exact lv_tableIn (off := 1676) (tgt := 1716) hx hb dsw (by decide) (by decide) (by decide +kernel) (by decide) (l_case24 C hl9 hi hBS ht hB hH hS hl hc hsl kk)
    | 25, _ => exact lv_tableIn (off := 1732) (tgt := 1772) hx hb dsw (by decide) (by decide) (by decide +kernel) (by decide) (l_case25 C hl9 hi hBS ht hB hH hS hl hc hsl kk)
    | 26, _ => exact lv_tableIn (off := 1788) (tgt := 1828) hx hb dsw (by decide) (by decide) (by decide +kernel) (by decide) (l_case26 C hl9 hi hBS ht hB hH hS hl hc hsl kk)
    | 27, _ => exact lv_tableIn (off := 1844) (tgt := 1884) hx hb dsw (by decide) (by decide) (by decide +kernel) (by decide) (l_case27 C hl9 hi hBS ht hB hH hS hl hc hsl kk)
    | 28, _ => exact lv_tableIn (off := 1936) (tgt := 1976) hx hb dsw (by decide) (by decide) (by decide +kernel) (by decide) (l_case28 C hl9 hi hBS ht hB hH hS hl hc hsl kk)
    | 29, _ => exact lv_tableIn (off := 2054) (tgt := 2094) hx hb dsw (by decide) (by decide) (by decide +kernel) (by decide) (l_case29 C hl9 hi hBS ht hB hH hS hl hc hsl kk)
    | 30, _ => exact lv_tableIn (off := 2067) (tgt := 2107) hx hb dsw (by decide) (by decide) (by decide +kernel) (by decide) (l_case30 C hl9 hi hBS ht hB hH hS hl hc hsl kk)
    | 31, _ => exact lv_tableIn (off := 2080) (tgt := 2120) hx hb dsw (by decide) (by decide) (by decide +kernel) (by decide) (l_case31 C hl9 hi hBS ht hB hH hS hl hc hsl kk)
    | 32, _ => exact lv_tableIn (off := 2105) (tgt := 2145) hx hb dsw (by decide) (by decide) (by decide +kernel) (by decide) (l_case32 C hl9 hi hBS ht hB hH hS hl hc hsl kk)
    | k + 33, h => exact absurd h (by omega)
  · refine lv_tableOut (tgt := 2170) hx hb dsw (Or.inr ?_) (by decide) ?_
    · rw [nI_toInt (by omega)]
      omega
    · refine W.widen (k := cells + 1) (n := slots + 6) (by omega) (by omega) ?_
      exact kk H locs arr S t a B hH hS hl hBS (by omega) (by omega)
theorem dw0 : w_dk code 23 [(.iload 4, 2), (.aload_n 0, 1), (.arraylength, 1), (.bipush 9, 2), (.isub, 1), (.if_icmp .gt 2146, 3), (.aload_n 0, 1), (.iload 4, 2), (.iaload, 1), (.bipush 63, 2), (.iand, 1)] = true := by decide +kernel
theorem dw1 : w_dk code 2170 [(.iinc 4 9, 3), (.goto (-2150), 3), (.iconst 1, 1), (.ireturn, 1)] = true := by decide +kernel
set_option maxHeartbeats 4000000 in
theorem l_loop (C : LM p s m meth c b L xs G) (hl9 : l.stackTraces = false) {c0 s0 : Nat} (hc0 : c0 + 600 ≤ 601024) (hs0 : s0 + 3600 ≤ 7293034) : ∀ (n j : Nat) (H : Heap) (locs : List Loc) (arr : Array Slot) (S : qSt) (t : Nat) (a : AS) (B : Nat), j ≤ 512 → 512 - j < n → q_H G S H → va_S (l_A s) s.heap H locs → lv_has arr 7 (l_lv b G (9 * j)) → BS S t a B → t ≤ 25 * j → B ≤ 200 * j →
    W p l e room_1 s m #[Value.ref b] below meth c H locs (c0 + j) (s0 + 6 * j) (lw_Z below #[Value.ref b] s) (F0 m 23 arr []) := by
  have C9 := C
  obtain ⟨hx, hb, hret, hml, hown, hts, hX, hbl, hlk, hW, hE, hXW, hG, hL⟩ := C
  obtain ⟨d1, hd⟩ := w_dk_c dw0
  obtain ⟨d2, hd⟩ := w_dk_c hd
  obtain ⟨d3, hd⟩ := w_dk_c hd
  obtain ⟨d4, hd⟩ := w_dk_c hd
  obtain ⟨d5, hd⟩ := w_dk_c hd
  obtain ⟨d6, hd⟩ := w_dk_c hd
  obtain ⟨d7, hd⟩ := w_dk_c hd
  obtain ⟨d8, hd⟩ := w_dk_c hd
  obtain ⟨d9, hd⟩ := w_dk_c hd
  obtain ⟨d10, hd⟩ := w_dk_c hd
  obtain ⟨d11, -⟩ := w_dk_c hd
  obtain ⟨f1, hd⟩ := w_dk_c dw1
  obtain ⟨f2, hd⟩ := w_dk_c hd
  obtain ⟨f3, hd⟩ := w_dk_c hd
  obtain ⟨f4, -⟩ := w_dk_c hd
  intro n
  induction n with
  | zero => intro j H locs arr S t a B hj hn; omega
  | succ n ih =>
    intro j H locs arr S t a B hj hn hH hS hl hBS ht hB
    refine lv_iload hx hb d1 (lv_at hl 4 rfl) ?_
    refine lv_aload_n hx hb d2 rfl (lv_at hl 0 rfl) ?_
    refine va_slen (A := l_A s) hx hb hX hbl (Nat.not_le.mpr hbl) hS d3 ?_
    refine lv_bipush (v := nI 9) hx hb d4 (by decide) ?_
    refine lv_isub hx hb d5 ?_
    have hsub : (nI L - nI 9).toInt = (L : Int) - 9 := pk_sub_toInt (by omega) (by decide)
    have hgt : nI L - nI 9 < nI (9 * j) ↔ L < 9 * j + 9 := by
      rw [Int32.lt_iff_toInt_lt, hsub, nI_toInt (by omega)]
      omega
    refine lv_icmp_gt (tgt := 2176) hx hb d6 (by decide) (fun h => ?_) (fun h => ?_)
    · refine va_forget (fun q hq => hS.2.2 q hq) ?_
      refine W.widen (k := 601024) (n := 7293034) (by omega) (by omega) ?_
      refine lv_iconst (v := 1) hx hb f3 rfl ?_
      exact lw_ret hx hb hret hlk f4
    · have hi : 9 * j + 9 ≤ L := Nat.not_lt.mp fun q => h (hgt.mpr q)
      refine lv_aload_n hx hb d7 rfl (lv_at hl 0 rfl) ?_
      refine lv_iload hx hb d8 (lv_at hl 4 rfl) ?_
      refine va_sld (A := l_A s) hx hb hX hbl (Nat.not_le.mpr hbl) hS (vp_in_nI (by omega) (by omega)) d9 ?_
      refine lv_bipush (v := 63) hx hb d10 (by decide) ?_
      refine lv_iand hx hb d11 ?_
      obtain ⟨k, hk, ek⟩ := pk_andE (xs (nI (9 * j)).toNatClampNeg) (m := 63) 6 (by decide)
      rw [ek]
      refine l_switch C9 hl9 hi hBS (by omega) (by omega) hH hS hl (by omega) (by omega) ?_ (k := k) (by omega)
      intro H1 locs1 arr1 S1 t1 a1 B1 hH1 hS1 hl1 hBS1 ht1 hB1
      refine lv_iinc (i := 4) (k := 4) (v := nI (9 * (j + 1))) hx hb f1 hl1 rfl ?_ (by decide) rfl (fun arr2 hl2 => ?_)
      · show nI (9 * j) + nI 9 = _
        rw [nI_add]
        rfl
      refine lv_goto (tgt := 23) hx hb f2 (by decide) ?_
      have hl3 : lv_has arr2 7 (l_lv b G (9 * (j + 1))) := lv_sub hl2 [1, 2, 3, 4, 0] rfl
      exact ih (j + 1) H1 locs1 arr2 S1 t1 a1 B1 (by omega) (by omega) hH1 hS1 hl3 hBS1 (by omega) (by omega)
end LL
