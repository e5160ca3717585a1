/-! The two kinds of rows in the law's body -/
def argI (k : Nat) : List (Instr × Nat) := [(.aload_n 0, 1), (.iload 4, 2), if k ≤ 5 then (.iconst k, 1) else (.bipush k, 2), (.iadd, 1), (.iaload, 1)]
def argsI : Nat → Nat → List (Instr × Nat)
  | _, 0 => []
  | k, n + 1 => argI k ++ argsI (k + 1) n
def szI : List (Instr × Nat) → Nat
  | [] => 0
  | x :: xs => x.2 + szI xs
def argV (xs : Nat → Int32) (i : Nat) : Nat → Nat → List Int32
  | _, 0 => []
  | k, n + 1 => xs (i + k) :: argV xs i (k + 1) n
theorem w_dk_a {cc : ByteArray} : ∀ {a b : List (Instr × Nat)} {pc : Nat}, w_dk cc pc (a ++ b) = true → w_dk cc pc a = true ∧ w_dk cc (pc + szI a) b = true
  | [], b, pc, h => ⟨rfl, h⟩
  | x :: a, b, pc, h => by
    have h : w_dk cc pc (x :: (a ++ b)) = true := h
    unfold w_dk at h
    rw [Bool.and_eq_true] at h
    obtain ⟨h1, h2⟩ := h
    obtain ⟨h3, h4⟩ := w_dk_a h2
    refine ⟨?_, by rw [show pc + szI (x :: a) = pc + x.2 + szI a from (Nat.add_assoc _ _ _).symm]; exact h4⟩
    unfold w_dk
    rw [Bool.and_eq_true]
    exact ⟨h1, h3⟩
theorem argV_len {xs : Nat → Int32} {i : Nat} : ∀ {n k : Nat}, (argV xs i k n).length = n
  | 0, _ => rfl
  | n + 1, k => congrArg (· + 1) (argV_len (n := n) (k := k + 1))
def l_as (v : List Int32) : List qV := v.map Sum.inl
theorem l_as_ok (v : List Int32) : q_oks (l_as v) := by
  intro w hw
  obtain ⟨x, -, rfl⟩ := List.mem_map.mp hw
  trivial
theorem l_as_cv {G : qG} (v : List Int32) : (l_as v).map (q_cv G) = v.map Value.int := by
  unfold l_as
  rw [List.map_map]
  rfl
section LP
variable {p : Program} {l : Launch} {e : Env} {s : State} {m : MethodId} {below : List Frame} {meth : Method} {c : Code} {b L : Nat} {xs : Nat → Int32} {G : qG} {H : Heap} {locs : List Loc} {cells slots : Nat} {arr : Array Slot} {S : qSt} {i : Nat}
theorem l_args (C : LM p s m meth c b L xs G) (hS : va_S (l_A s) s.heap H locs) (h0 : arr[0]? = some (.val (.ref b))) (h4 : arr[4]? = some (.val (.int (nI i)))) (hi : i + 9 ≤ L) : ∀ (n k pc : Nat) (st : List Value), k + n ≤ 9 → w_dk code pc (argsI k n) = true →
    W p l e room_1 s m #[Value.ref b] below meth c H locs cells slots (lw_Z below #[Value.ref b] s) (F0 m (pc + szI (argsI k n)) arr (((argV xs i k n).map Value.int).reverse ++ st)) → W p l e room_1 s m #[Value.ref b] below meth c H locs cells slots (lw_Z below #[Value.ref b] s) (F0 m pc arr st) := by
  obtain ⟨hx, hb, hret, hml, hown, hts, hX, hbl, hlk, hW, hE, hXW, hG, hL⟩ := C
  intro n
  induction n with
  | zero => intro k pc st hk hd h; exact h
  | succ n ih =>
    intro k pc st hk hd h
    have hd : w_dk code pc (argI k ++ argsI (k + 1) n) = true := hd
    obtain ⟨hd1, hd2⟩ := w_dk_a hd
    have hsz : szI (argI k ++ argsI (k + 1) n) = szI (argI k) + szI (argsI (k + 1) n) := by
      unfold argI
      simp only [List.cons_append, List.nil_append, szI]
      omega
    have hrest := ih (k + 1) (pc + szI (argI k)) (.int (xs (i + k)) :: st) (by omega) hd2 (by
      have h9 : W p l e room_1 s m #[Value.ref b] below meth c H locs cells slots (lw_Z below #[Value.ref b] s) (F0 m (pc + szI (argI k ++ argsI (k + 1) n)) arr (((xs (i + k) :: argV xs i (k + 1) n).map Value.int).reverse ++ st)) := h
      rw [hsz, ← Nat.add_assoc, List.map_cons, List.reverse_cons, List.append_assoc] at h9
      exact h9)
    have hv : nI i + nI k = nI (i + k) := nI_add i k
    have hin : vp_in (nI (i + k)) L := vp_in_nI (by omega) (by omega)
    have hcl : (nI (i + k)).toNatClampNeg = i + k := nI_clamp (by omega)
    unfold argI at hd1 hrest
    obtain ⟨d1, hd1⟩ := w_dk_c hd1
    obtain ⟨d2, hd1⟩ := w_dk_c hd1
    obtain ⟨d3, hd1⟩ := w_dk_c hd1
    obtain ⟨d4, hd1⟩ := w_dk_c hd1
    obtain ⟨d5, -⟩ := w_dk_c hd1
    refine lv_aload_n hx hb d1 rfl h0 ?_
    refine lv_iload hx hb d2 h4 ?_
    by_cases hk5 : k ≤ 5
    · simp only [if_pos hk5, szI] at d3 d4 d5 hrest
      refine lv_iconst (v := nI k) hx hb d3 rfl ?_
      refine lv_iadd hx hb d4 ?_
      rw [hv]
      refine va_sld (A := l_A s) hx hb hX hbl (Nat.not_le.mpr hbl) hS hin d5 ?_
      rw [hcl]
      exact hrest
    · simp only [if_neg hk5, szI] at d3 d4 d5 hrest
      refine lv_bipush (v := nI k) hx hb d3 ?_ ?_
      · have : ∀ k : Nat, k ≤ 9 → (Int8.ofInt (k : Int)).toInt32 = nI k := by decide
        exact this k (by omega)
      refine lv_iadd hx hb d4 ?_
      rw [hv]
      refine va_sld (A := l_A s) hx hb hX hbl (Nat.not_le.mpr hbl) hS hin d5 ?_
      rw [hcl]
      exact hrest
/-- where the case is left -/
def LKK (p : Program) (l : Launch) (e : Env) (s : State) (m : MethodId) (below : List Frame) (meth : Method) (c : Code) (b : Nat) (G : qG) (i cells slots t B : Nat) : Prop := ∀ (H1 : Heap) (locs1 : List Loc) (arr1 : Array Slot) (S1 : qSt) (t1 : Nat) (a1 : AS) (B1 : Nat), q_H G S1 H1 → va_S (l_A s) s.heap H1 locs1 → lv_has arr1 7 (l_lv b G i) → BS S1 t1 a1 B1 → t1 ≤ t + 25 → B1 ≤ B + 200 →
  W p l e room_1 s m #[Value.ref b] below meth c H1 locs1 (cells + 1) (slots + 6) (lw_Z below #[Value.ref b] s) (F0 m 2170 arr1 [])
def patB (n iX iM : Nat) (off : Int) : List (Instr × Nat) := (.aload_n 1, 1) :: (argsI 1 n ++ ((.invokevirtual iX, 3) :: (.aload_n 2, 1) :: (argsI 1 n ++ [(.invokevirtual iM, 3), (.if_icmp .eq off, 3)])))
set_option maxHeartbeats 1000000 in
theorem l_patB (C : LM p s m meth c b L xs G) (hi : i + 9 ≤ L) {pc n iX iM kX kM : Nat} {off : Int} (hn : n ≤ 8) (hd : w_dk code pc (patB n iX iM off) = true) (htg : ((pc + (1 + (szI (argsI 1 n) + (3 + (1 + (szI (argsI 1 n) + 3))))) : Nat) : Int) + off = (2170 : Nat))
    (hX : q_cpok q_mt "BlockedCarsLaw" (iX, 1, kX, n)) (hXk : q_ckx q_mt 7 (some .int) (44, 0, kX, n + 1, 1, 0, 0, [(0, 0)]) = true) (hM : q_cpok q_mt "BlockedCarsLaw" (iM, 1, kM, n)) (hMk : q_ckx q_mt 7 (some .int) (44, 0, kM, n + 1, 1, 0, 0, [(0, 40)]) = true)
    {t B B1 : Nat} {a : AS} {r : SPR} {v : Int32} {nm : Nat → String} (hr : r.1 = .inr v) (hcA : CA l kX (.inr (.inr (0, 0)) :: l_as (argV xs i 1 n)) S t nm r) (hrA : ∀ S', RF S' a → RA l kM (.inr (.inr (40, 0)) :: l_as (argV xs i 1 n)) S' r) (hI : IV r.2 B1) (hB : B1 ≤ B + 200)
    (hBS : BS S t a B) (hH : q_H G S H) (hS : va_S (l_A s) s.heap H locs) (hl : lv_has arr 7 (l_lv b G i)) (hc : cells + 1 ≤ 601024) (hsl : slots + 6 ≤ 7293034) (kk : LKK p l e s m below meth c b G i cells slots t B) :
    W p l e room_1 s m #[Value.ref b] below meth c H locs cells slots (lw_Z below #[Value.ref b] s) (F0 m pc arr []) := by
  have C9 := C
  obtain ⟨hx, hb, hret, hml, hown, hts, hXX, hbl, hlk, hW, hE, hXW, hG, hL⟩ := C
  unfold patB at hd
  obtain ⟨d1, hd⟩ := w_dk_c hd
  obtain ⟨hd2, hd⟩ := w_dk_a hd
  obtain ⟨d3, hd⟩ := w_dk_c hd
  obtain ⟨d4, hd⟩ := w_dk_c hd
  obtain ⟨hd5, hd⟩ := w_dk_a hd
  obtain ⟨d6, hd⟩ := w_dk_c hd
  obtain ⟨d7, -⟩ := w_dk_c hd
  refine lv_aload_n hx hb d1 rfl (lv_at hl 1 rfl) ?_
  refine l_args C9 hS (lv_at hl 0 rfl) (lv_at hl 4 rfl) hi n 1 _ _ (by omega) hd2 ?_
  rw [← l_as_cv (G := G)]
  obtain ⟨dX, hdX, hcA⟩ := hcA
  rw [hr] at hcA
  refine l_call C9 hX hXk (by decide) (by unfold l_as; rw [List.length_map, argV_len]) (l_as_ok _) hcA (by omega) hH hS hl.1 (rest := []) (Nat.zero_le _) (by omega) (by omega) d3 ?_
  intro v1 S1 H1 locs1 hp hH1 hS1
  obtain ⟨e1, ⟨t', ht', hC1⟩, hf1⟩ := hp
  cases e1
  refine lv_aload_n hx hb d4 rfl (lv_at hl 2 rfl) ?_
  refine l_args C9 hS1 (lv_at hl 0 rfl) (lv_at hl 4 rfl) hi n 1 _ _ (by omega) hd5 ?_
  rw [← l_as_cv (G := G)]
  obtain ⟨dM, hdM, hrA⟩ := hrA S1 (RF_fr hBS.2.1 hf1)
  refine l_call C9 hM hMk (by decide) (by unfold l_as; rw [List.length_map, argV_len]) (l_as_ok _) hrA (by omega) hH1 hS1 hl.1 (rest := [.int v]) (Nat.le_of_ble_eq_true rfl) (by omega) (by omega) d6 ?_
  intro v2 S2 H2 locs2 hp hH2 hS2
  obtain ⟨e2, hth, hR2, hf2⟩ := hp
  rw [hr] at e2
  cases e2
  refine lv_icmp_eq (x := v) (y := v) (tgt := 2170) hx hb d7 ?_ (fun _ => ?_) (fun h => absurd rfl h)
  · simp only [Nat.add_assoc] at htg ⊢
    exact htg
  · refine W.widen (k := cells + 1) (n := slots + 6) (by omega) (by omega) ?_
    exact kk H2 locs2 arr S2 t' r.2 B1 hH2 hS2 hl (BS_r hC1 hR2 hI hf2) ht' hB
end LP
