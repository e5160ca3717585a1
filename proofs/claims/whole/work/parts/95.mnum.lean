/-! The reference: a stand as a number -/
def o8 : List Nat → Nat
  | [] => 0
  | c :: r => c + 8 * o8 r
theorem o8_app : ∀ (L : List Nat) (c : Nat), o8 (L ++ [c]) = o8 L + c * 2 ^ (3 * L.length)
  | [], c => by simp [o8]
  | x :: L, c => by
    rw [List.cons_append, o8, o8_app L c, o8, List.length_cons, show 3 * (L.length + 1) = 3 * L.length + 3 by omega, Nat.pow_add, Nat.mul_add, ← Nat.mul_assoc, show (2 : Nat) ^ 3 = 8 from rfl, Nat.mul_comm 8 c]
    rw [Nat.mul_assoc, Nat.mul_comm 8 (2 ^ _), ← Nat.add_assoc]
theorem o8_lt : ∀ {L : List Nat}, (∀ c ∈ L, c < 6) → o8 L < 2 ^ (3 * L.length)
  | [], _ => by decide
  | c :: L, h => by
    have ih := o8_lt (L := L) (fun x hx => h x (List.mem_cons_of_mem _ hx))
    have := h c List.mem_cons_self
    rw [List.length_cons, show 3 * (L.length + 1) = 3 * L.length + 3 by omega, Nat.pow_add, o8]
    omega
theorem o8_get : ∀ {L : List Nat}, (∀ c ∈ L, c < 6) → ∀ k, k < L.length → o8 L / 2 ^ (3 * k) % 8 = L.getD k 0
  | [], _, k, h => by simp at h
  | c :: L, h, 0, _ => by
    have := h c List.mem_cons_self
    simp [o8]
    omega
  | c :: L, h, k + 1, hk => by
    have ih := o8_get (L := L) (fun x hx => h x (List.mem_cons_of_mem _ hx)) k (by simpa using hk)
    have := h c List.mem_cons_self
    rw [show 3 * (k + 1) = 3 + 3 * k by omega, Nat.pow_add, ← Nat.div_div_eq_div_mul, o8, show (c + 8 * o8 L) / 2 ^ 3 = o8 L by omega, ih]
    simp
def cw (P : Nat → List Nat) : Nat → List Nat
  | 0 => []
  | j + 1 => cw P j ++ (P j).reverse
def numS (P : Nat → List Nat) : Nat := o8 (cw P 3) + 2 ^ 18 * (P 0).length + 2 ^ 21 * (P 1).length + 2 ^ 24 * tot P
theorem cw_len (P : Nat → List Nat) : (cw P 3).length = tot P := by
  simp only [cw, tot, List.length_append, List.length_reverse, List.length_nil]
  omega
theorem cw_lt {P : Nat → List Nat} (hP : st_ok P) : ∀ j, j ≤ 3 → ∀ c ∈ cw P j, c < 6
  | 0, _, c, h => by cases h
  | j + 1, hj, c, h => by
    rw [cw, List.mem_append] at h
    rcases h with h | h
    · exact cw_lt hP j (by omega) c h
    · exact (st_row hP (show j < 3 by omega)).2 c (List.mem_reverse.mp h)
theorem cw_le (P : Nat → List Nat) {j : Nat} (hj : j < 3) : (cw P j).length + (P j).length ≤ tot P := by
  have : j = 0 ∨ j = 1 ∨ j = 2 := by omega
  rcases this with e | e | e <;> subst e <;> simp only [cw, tot, List.length_append, List.length_reverse, List.length_nil] <;> omega
theorem i_orR {a b k : Nat} (h : a < 2 ^ k) : nI a ||| nI (b * 2 ^ k) = nI (a + 2 ^ k * b) := by
  rw [← i_or h, fa_or, fa_or, Nat.or_comm]
theorem p_tot {Y : YD} (hY : y_ok Y) {P : Nat → List Nat} (hP : p_ok Y P) : tot P ≤ 6 := by
  have h6 := hY.2.1
  have := nd_len (n := Y 1 0) hP.2.2.2 (fun c hc => by
    rcases List.mem_append.mp hc with h | h
    · exact hP.2.2.1 0 c h
    · rcases List.mem_append.mp h with h | h
      · exact hP.2.2.1 1 c h
      · exact hP.2.2.1 2 c h)
  simp only [List.length_append] at this
  unfold tot
  omega
theorem c_masNumber (l : Launch) (S : qSt) {i : Nat} {P : Nat → List Nat} (hP : st_ok P) (ht : tot P ≤ 6) (hR : RW1 S i P) : q_Met q_mt l 1 k_X11_asNumber 1 [.inr (.inr (40, 0)), .inr (.inr (65, i))] S (fun r S' => r = some (.inl (nI (numS P))) ∧ S' = S) := by
  refine q_meth zoX11_asNumber q_fos (Nat.le_of_ble_eq_true rfl) ?_
  intro AT step
  have hI : ∀ (j m k : Nat), j < 3 → AT 1 [some (.inr (.inr (40, 0))), some (.inr (.inr (65, i))), some (.inl (nI (o8 (cw P (j + 1))))), some (.inl (nI (cw P (j + 1)).length)), some (.inl (nI (j + 1))), none] [] S → k + m = (P j).length → AT 2 [some (.inr (.inr (40, 0))), some (.inr (.inr (65, i))), some (.inl (nI (o8 (cw P j ++ (P j).reverse.take k)))), some (.inl (nI ((cw P j).length + k))), some (.inl (nI j)), some (.inl (nI k))] [] S := by
    intro j m
    induction m with
    | zero =>
      intro k hj hx hk
      have h6 := (st_row hP hj).1
      refine step 40 [(1, [true, true, true, true, true, false]), (2, [true, true, true, true, true, true])] 2 _ _ _ ?_
      simp only [q_vcs, q_vcc, q_vl, q_vu, ↓reduceIte, Nat.reduceEqDiff, Bool.false_eq_true, q_isc, q_mk, q_msk, zbX11_asNumber, q_pad, q_ent, q_get, q_put, q_nl, q_w, List.cons_append, List.nil_append, q_aks, q_als, Nat.reduceAdd, Nat.reduceLeDiff, Nat.zero_le, true_and, and_true, Option.some.injEq, Sum.inl.injEq, Sum.inr.injEq, true_or, or_true, and_self, q_sw]
      rw [i_0, i_cl (by omega), (hR j hj).1, nI_leI (by omega) (by omega), nI_1]
      refine ⟨i_in (by omega) (by decide), fun _ => ?_, fun h => absurd (by omega) h⟩
      rw [List.take_of_length_le (by simp; omega), show (cw P j).length + k = (cw P (j + 1)).length by rw [cw, List.length_append, List.length_reverse]; omega]
      exact hx
    | succ m ih =>
      intro k hj hx hk
      have h6 := (st_row hP hj).1
      have hcl := cw_le P hj
      have ih := ih (k + 1) hj hx (by omega)
      have hkl : k < (P j).reverse.length := by simp; omega
      have hwl : wl P j k < 6 := (st_row hP hj).2 _ (rev_getD_mem (by omega))
      have eM : cw P j ++ (P j).reverse.take (k + 1) = (cw P j ++ (P j).reverse.take k) ++ [wl P j k] := by
        rw [List.append_assoc, List.take_succ_eq_append_getElem hkl]
        congr 3
        unfold wl
        rw [List.getD_eq_getElem?_getD, List.getElem?_eq_getElem hkl]
        rfl
      have hMl : (cw P j ++ (P j).reverse.take k).length = (cw P j).length + k := by simp; omega
      have hlt : o8 (cw P j ++ (P j).reverse.take k) < 2 ^ (3 * ((cw P j).length + k)) := by
        rw [← hMl]
        refine o8_lt fun c hc => ?_
        rcases List.mem_append.mp hc with h | h
        · exact cw_lt hP j (by omega) c h
        · exact (st_row hP hj).2 c (List.mem_reverse.mp (List.mem_of_mem_take h))
      have h15 : (2 : Nat) ^ (3 * ((cw P j).length + k)) ≤ 2 ^ 15 := Nat.pow_le_pow_right (by decide) (by omega)
      rw [eM, o8_app, hMl] at ih
      refine step 40 [(1, [true, true, true, true, true, false]), (2, [true, true, true, true, true, true])] 2 _ _ _ ?_
      simp only [q_vcs, q_vcc, q_vl, q_vu, ↓reduceIte, Nat.reduceEqDiff, Bool.false_eq_true, q_isc, q_mk, q_msk, zbX11_asNumber, q_pad, q_ent, q_get, q_put, q_nl, q_w, List.cons_append, List.nil_append, q_aks, q_als, Nat.reduceAdd, Nat.reduceLeDiff, Nat.zero_le, true_and, and_true, Option.some.injEq, Sum.inl.injEq, Sum.inr.injEq, true_or, or_true, and_self, q_sw]
      rw [i_0, i_cl (by omega), (hR j hj).1, nI_leI (by omega) (by omega)]
      refine ⟨i_in (by omega) (by decide), fun h => absurd h (by omega), fun _ => ?_⟩
      refine q_u1 (by decide) (c_mstanding l S hP hR hj (k := k) (by omega)) ?_
      have hb : wl P j k * 2 ^ (3 * ((cw P j).length + k)) < 2 ^ 32 := by
        have := Nat.mul_le_mul (show wl P j k ≤ 6 by omega) h15
        omega
      rw [show (3 : Int32) = nI 3 from rfl, pk_mul, i_shlN hb (by omega), i_orR hlt, nI_1, nI_1, Nat.mul_comm _ (wl P j k)]
      exact ih
  have hO : ∀ (m j : Nat), j + m = 3 → AT 1 [some (.inr (.inr (40, 0))), some (.inr (.inr (65, i))), some (.inl (nI (o8 (cw P j)))), some (.inl (nI (cw P j).length)), some (.inl (nI j)), none] [] S := by
    intro m
    induction m with
    | zero =>
      intro j hj
      have h0 := (hR 0 (by decide)).1
      have h1 := (hR 1 (by decide)).1
      have b0 := hP.1.1
      have b1 := hP.2.1.1
      have hlt := o8_lt (cw_lt hP 3 (Nat.le_refl _))
      rw [cw_len] at hlt
      have h18 : (2 : Nat) ^ (3 * tot P) ≤ 2 ^ 18 := Nat.pow_le_pow_right (by decide) (by omega)
      refine step 40 [(1, [true, true, true, true, true, false]), (2, [true, true, true, true, true, true])] 1 _ _ _ ?_
      simp only [q_vcs, q_vcc, q_vl, q_vu, ↓reduceIte, Nat.reduceEqDiff, Bool.false_eq_true, q_isc, q_mk, q_msk, zbX11_asNumber, q_pad, q_ent, q_get, q_put, q_nl, q_w, List.cons_append, List.nil_append, q_aks, q_als, Nat.reduceAdd, Nat.reduceLeDiff, Nat.zero_le, true_and, and_true, Option.some.injEq, Sum.inl.injEq, Sum.inr.injEq, true_or, or_true, and_self, q_sw]
      rw [show j = 3 by omega, cw_len, show Int32.toNatClampNeg 0 = 0 from rfl, show Int32.toNatClampNeg 1 = 1 from rfl, h0, h1, show (18 : Int32) = nI 18 from rfl, show (21 : Int32) = nI 21 from rfl, show (24 : Int32) = nI 24 from rfl, i_shlN (by omega) (by decide), i_shlN (by omega) (by decide), i_shlN (by omega) (by decide), i_orR (by omega), i_orR (by omega), i_orR (by omega)]
      exact ⟨fun _ => ⟨i_in (k := 0) (by decide) (by decide), i_in (k := 1) (by decide) (by decide), (by first | trivial | rfl | exact ⟨rfl, rfl⟩)⟩, fun h => absurd (by decide) h⟩
    | succ m ih =>
      intro j hj
      have hx := hI j (P j).length 0 (by omega) (ih (j + 1) (by omega)) (by omega)
      rw [List.take_zero, List.append_nil, Nat.add_zero] at hx
      refine step 40 [(1, [true, true, true, true, true, false]), (2, [true, true, true, true, true, true])] 1 _ _ _ ?_
      simp only [q_vcs, q_vcc, q_vl, q_vu, ↓reduceIte, Nat.reduceEqDiff, Bool.false_eq_true, q_isc, q_mk, q_msk, zbX11_asNumber, q_pad, q_ent, q_get, q_put, q_nl, q_w, List.cons_append, List.nil_append, q_aks, q_als, Nat.reduceAdd, Nat.reduceLeDiff, Nat.zero_le, true_and, and_true, Option.some.injEq, Sum.inl.injEq, Sum.inr.injEq, true_or, or_true, and_self, q_sw]
      rw [show (3 : Int32) = nI 3 from rfl, nI_leI (by decide) (by omega)]
      exact ⟨fun h => absurd h (by omega), fun _ => hx⟩
  refine step 40 [(1, [true, true, true, true, true, false]), (2, [true, true, true, true, true, true])] 0 _ _ _ ?_
  simp only [q_vcs, q_vcc, q_vl, q_vu, ↓reduceIte, Nat.reduceEqDiff, Bool.false_eq_true, q_isc, q_mk, q_msk, zbX11_asNumber, q_pad, q_ent, q_get, q_put, q_nl, q_w, List.cons_append, List.nil_append, q_aks, q_als, Nat.reduceAdd, Nat.reduceLeDiff, Nat.zero_le, true_and, and_true, Option.some.injEq, Sum.inl.injEq, Sum.inr.injEq, true_or, or_true, and_self, q_sw]
  exact hO 3 0 rfl
