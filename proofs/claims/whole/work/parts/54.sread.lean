/-! the tape: take, open, feed; Spots.read -/
def TP (S : qSt) (T : Nat → Nat) (h : Nat) : Prop := h ≤ 600 ∧ q_I S 1 0 1 = nI h ∧ ∀ k, k < 600 → T k < 256 ∧ q_I S 2 0 k = b8 (T k)
abbrev Ft : Nat → Nat → Prop := fun f _ => f = 1 ∨ f = 2
theorem TP.fr {F : Nat → Nat → Prop} {S S' : qSt} {T : Nat → Nat} {h : Nat} (hT : TP S T h) (hf : fr F S S') (h1 : ¬ F 1 0) (h2 : ¬ F 2 0) : TP S' T h := by
  unfold TP at *
  rw [(hf 1 0 h1).1, (hf 2 0 h2).1]
  exact hT
theorem RS.tp {S : qSt} {T : Nat → Nat} {n : Nat} {s : PS} (h : RS S T n s) : TP S T 0 := by
  cases s with
  | inl a => exact ⟨by decide, h.2.1.1, h.2.2⟩
  | inr q =>
    obtain ⟨a, h⟩ := h
    exact ⟨by decide, h.2.1.1, h.2.2⟩
/-- the byte of a number that lies s bits up -/
def byt (v : Int32) (s : Nat) : Nat := v.toBitVec.toNat / 2 ^ s % 256
theorem byt_lt (v : Int32) (s : Nat) : byt v s < 256 := Nat.mod_lt _ (by decide)
theorem bt_nI (n i : Nat) : bt (nI n) i = (decide (i < 32) && n.testBit i) := by
  show (BitVec.ofNat 32 n).getLsbD i = _
  rw [BitVec.getLsbD_ofNat]
theorem i_byt (v : Int32) {s : Nat} (hs : s ≤ 24) : (v >>> (nI s &&& 31)) &&& 255 = nI (byt v s) := by
  refine b_ext fun i hi => ?_
  rw [b_and, b_255, b_sshr s (by omega) v hi, bt_nI]
  have e : byt v s = v.toBitVec.toNat / 2 ^ s % 2 ^ 8 := rfl
  rw [e, Nat.testBit_mod_two_pow, Nat.testBit_div_two_pow]
  by_cases h : i < 8
  · rw [if_pos (by omega)]
    simp [h, hi]
    unfold bt
    rw [BitVec.getLsbD, Nat.add_comm]
  · simp [h]
theorem i_byt8 (v : Int32) {s : Nat} (hs : s ≤ 24) : (v >>> (nI s &&& 31)).toInt8.toInt32 = b8 (byt v s) := by
  unfold b8
  rw [← i_byt v hs, fa_byte_low]
def fdT (T : Nat → Nat) (h : Nat) (v : Int32) (j : Nat) : Nat → Nat := fun k => if h ≤ k ∧ k < h + j then byt v (24 - 8 * (k - h)) else T k
def sft (j : Nat) : Int32 := 24 - nI (8 * j)
theorem sft_tab : ∀ j, j < 4 → sft j = nI (24 - 8 * j) ∧ sft j + -8 = sft (j + 1) := by decide
theorem c_take (l : Launch) (S : qSt) {T : Nat → Nat} {h : Nat} (v : Int32) (hT : TP S T h) (hh : h + 4 ≤ 600) : q_Met q_mt l 0 k_X4_take 0 [.inr (.inr (1, 0)), .inl v] S (fun _ S' => TP S' (fdT T h v 4) (h + 4) ∧ (∀ j, j ≠ 1 → q_I S' 1 0 j = q_I S 1 0 j) ∧ fr Ft S S') := by
  refine q_meth zoX4_take q_fos (Nat.le_of_ble_eq_true rfl) ?_
  intro AT step
  have hL : ∀ (m j : Nat) (S1 : qSt), j + m = 4 → TP S1 (fdT T h v j) (h + j) → (∀ j, j ≠ 1 → q_I S1 1 0 j = q_I S 1 0 j) → fr Ft S S1 → AT 1 [some (.inr (.inr (1, 0))), some (.inl v), some (.inl (sft j))] [] S1 := by
    intro m
    induction m with
    | zero =>
      intro j S1 hj hT1 hs hf
      have e : j = 4 := by omega
      subst e
      refine step 40 [(1, [true, true, true])] 1 _ _ _ ?_
      simp only [q_vcs, q_vcc, q_vl, q_vu, ↓reduceIte, Nat.reduceEqDiff, Bool.false_eq_true, q_isc, q_mk, q_msk, zbX4_take, q_pad, q_ent, q_get, q_put, q_nl, q_w, List.cons_append, List.nil_append, q_aks, q_als, Nat.reduceAdd, Nat.reduceLeDiff, Nat.zero_le, true_and, and_true, Option.some.injEq, Sum.inl.injEq, Sum.inr.injEq, true_or, or_true, and_self, q_sw]
      refine ⟨fun _ => ⟨hT1, hs, hf⟩, fun h => absurd (by decide) h⟩
    | succ m ih =>
      intro j S1 hj hT1 hs hf
      obtain ⟨t1, t2⟩ := sft_tab j (by omega)
      refine step 40 [(1, [true, true, true])] 1 _ _ _ ?_
      simp only [q_vcs, q_vcc, q_vl, q_vu, ↓reduceIte, Nat.reduceEqDiff, Bool.false_eq_true, q_isc, q_mk, q_msk, zbX4_take, q_pad, q_ent, q_get, q_put, q_nl, q_w, List.cons_append, List.nil_append, q_aks, q_als, Nat.reduceAdd, Nat.reduceLeDiff, Nat.zero_le, true_and, and_true, Option.some.injEq, Sum.inl.injEq, Sum.inr.injEq, true_or, or_true, and_self, q_sw]
      rw [t2]
      rw [t1, hT1.2.1, i_600, nI_leI (by decide) (by omega), i_cl (by omega), i_byt8 v (by omega)]
      refine ⟨fun h => absurd h (nI_pos (by omega)), fun _ => ⟨by decide, fun h => absurd h (by omega), fun _ => ⟨i_in (by omega) (by decide), ?_⟩⟩⟩
      have hb : ∀ q, q < 256 → (b8 q).toInt8.toInt32 = b8 q := by decide +kernel
      have e1 : q_I (q_wI S1 2 0 (h + j) (b8 (byt v (24 - 8 * j)))) 1 0 1 = nI (h + j) := hT1.2.1
      rw [hb _ (byt_lt v _), e1, nI_1]
      refine ih (j + 1) _ (by omega) ⟨by omega, rfl, fun k hk => ?_⟩ (fun i hi => ?_) (fr.wI (fr.wI hf (Or.inr rfl)) (Or.inl rfl))
      · rw [q_I_wI, if_neg (by omega), q_I_wI]
        unfold fdT
        by_cases e : k = h + j
        · subst e
          simp only [true_and, if_true]
          rw [if_pos (by omega)]
          refine ⟨byt_lt v _, ?_⟩
          rw [show h + j - h = j by omega]
        · have := hT1.2.2 k hk
          unfold fdT at this
          rw [if_neg (show ¬ (2 = 2 ∧ 0 = 0 ∧ k = h + j) by omega)]
          by_cases e2 : h ≤ k ∧ k < h + j
          · rw [if_pos (by omega)]
            rw [if_pos e2] at this
            exact this
          · rw [if_neg (by omega)]
            rw [if_neg e2] at this
            exact this
      · rw [q_I_wI, if_neg (by omega), q_I_wI, if_neg (by omega)]
        exact hs i hi
  refine step 40 [(1, [true, true, true])] 0 _ _ _ ?_
  simp only [q_vcs, q_vcc, q_vl, q_vu, ↓reduceIte, Nat.reduceEqDiff, Bool.false_eq_true, q_isc, q_mk, q_msk, zbX4_take, q_pad, q_ent, q_get, q_put, q_nl, q_w, List.cons_append, List.nil_append, q_aks, q_als, Nat.reduceAdd, Nat.reduceLeDiff, Nat.zero_le, true_and, and_true, Option.some.injEq, Sum.inl.injEq, Sum.inr.injEq, true_or, or_true, and_self, q_sw]
  have e : fdT T h v 0 = T := by
    funext k
    unfold fdT
    rw [if_neg (by omega)]
  refine hL 4 0 S rfl ?_ (fun _ _ => rfl) fr.rf
  rw [e]
  exact hT
theorem c_open (l : Launch) (S : qSt) {T : Nat → Nat} {h n : Nat} (hT : TP S T h) (hn : n ≤ h) : q_Met q_mt l 1 k_X4_open 0 [.inr (.inr (1, 0)), .inl (nI n)] S (fun _ S' => RD S' T n 0 none ∧ fr Fr1 S S') := by
  refine q_meth zoX4_open q_fos (Nat.le_of_ble_eq_true rfl) ?_
  intro AT step
  have h6 := hT.1
  refine step 20 [] 0 _ _ _ ?_
  simp only [q_vcs, q_vcc, q_vl, q_vu, ↓reduceIte, Nat.reduceEqDiff, Bool.false_eq_true, q_isc, q_mk, q_msk, zbX4_open, q_pad, q_ent, q_get, q_put, q_nl, q_w, List.cons_append, List.nil_append, q_aks, q_als, Nat.reduceAdd, Nat.reduceLeDiff, Nat.zero_le, true_and, and_true, Option.some.injEq, Sum.inl.injEq, Sum.inr.injEq, true_or, or_true, and_self, q_sw]
  rw [hT.2.1, i_min (a := n) (b := h) (by omega) (by omega), Nat.min_eq_left hn]
  refine ⟨by decide, ⟨⟨by omega, by omega, fun q hq => by cases hq⟩, ⟨rfl, rfl, rfl, rfl, rfl⟩, ?_⟩, fr1w (fr1w (fr1w (fr1w (fr1w fr.rf))))⟩
  exact hT.2.2
def fd5 (T : Nat → Nat) (h : Nat) (a b c d e : Int32) : Nat → Nat := fdT (fdT (fdT (fdT (fdT T h a 4) (h + 4) b 4) (h + 8) c 4) (h + 12) d 4) (h + 16) e 4
theorem c_feed (l : Launch) (S : qSt) {T : Nat → Nat} {h : Nat} (a b c d e : Int32) (hT : TP S T h) (hh : h + 20 ≤ 600) : q_Met q_mt l 1 k_X10_feed 1 [.inr (.inr (0, 0)), .inl a, .inl b, .inl c, .inl d, .inl e] S (fun r S' => r = some (.inl (nI (h + 20))) ∧ TP S' (fd5 T h a b c d e) (h + 20) ∧ (∀ j, j ≠ 1 → q_I S' 1 0 j = q_I S 1 0 j) ∧ fr Ft S S') := by
  refine q_meth zoX10_feed q_fos (Nat.le_of_ble_eq_true rfl) ?_
  intro AT step
  refine step 20 [] 0 _ _ _ ?_
  simp only [q_vcs, q_vcc, q_vl, q_vu, ↓reduceIte, Nat.reduceEqDiff, Bool.false_eq_true, q_isc, q_mk, q_msk, zbX10_feed, q_pad, q_ent, q_get, q_put, q_nl, q_w, List.cons_append, List.nil_append, q_aks, q_als, Nat.reduceAdd, Nat.reduceLeDiff, Nat.zero_le, true_and, and_true, Option.some.injEq, Sum.inl.injEq, Sum.inr.injEq, true_or, or_true, and_self, q_sw]
  rw [hT.2.1, show (20 : Int32) = nI 20 from rfl, nI_add, show (600 : Int32) = nI 600 from rfl, nI_leI (by omega) (by decide)]
  refine ⟨fun _ => ?_, fun h => absurd hh h⟩
  refine ⟨_, _, (by decide : 0 < 1), c_take l S a hT (by omega), fun S1 h1 => ?_⟩
  refine ⟨_, _, (by decide : 0 < 1), c_take l S1 b h1.1 (by omega), fun S2 h2 => ?_⟩
  refine ⟨_, _, (by decide : 0 < 1), c_take l S2 c h2.1 (by omega), fun S3 h3 => ?_⟩
  refine ⟨_, _, (by decide : 0 < 1), c_take l S3 d h3.1 (by omega), fun S4 h4 => ?_⟩
  refine ⟨_, _, (by decide : 0 < 1), c_take l S4 e h4.1 (by omega), fun S5 h5 => ?_⟩
  refine ⟨h5.1.2.1, h5.1, fun j hj => ?_, (((h1.2.2.tr h2.2.2).tr h3.2.2).tr h4.2.2).tr h5.2.2⟩
  rw [h5.2.1 j hj, h4.2.1 j hj, h3.2.1 j hj, h2.2.1 j hj, h1.2.1 j hj]
theorem c_feedN (l : Launch) (S : qSt) {T : Nat → Nat} {h : Nat} (a b c d e : Int32) (hT : TP S T h) (hh : ¬ h + 20 ≤ 600) : q_Met q_mt l 1 k_X10_feed 1 [.inr (.inr (0, 0)), .inl a, .inl b, .inl c, .inl d, .inl e] S (fun r S' => r = some (.inl (-1)) ∧ S' = S) := by
  refine q_meth zoX10_feed q_fos (Nat.le_of_ble_eq_true rfl) ?_
  intro AT step
  have h6 := hT.1
  refine step 20 [] 0 _ _ _ ?_
  simp only [q_vcs, q_vcc, q_vl, q_vu, ↓reduceIte, Nat.reduceEqDiff, Bool.false_eq_true, q_isc, q_mk, q_msk, zbX10_feed, q_pad, q_ent, q_get, q_put, q_nl, q_w, List.cons_append, List.nil_append, q_aks, q_als, Nat.reduceAdd, Nat.reduceLeDiff, Nat.zero_le, true_and, and_true, Option.some.injEq, Sum.inl.injEq, Sum.inr.injEq, true_or, or_true, and_self, q_sw]
  rw [hT.2.1, show (20 : Int32) = nI 20 from rfl, nI_add, show (600 : Int32) = nI 600 from rfl, nI_leI (by omega) (by decide)]
  exact ⟨fun h => absurd h hh, fun _ => (by first | trivial | rfl | exact ⟨rfl, rfl⟩)⟩
/-! Spots.read -/
def pbl (T : Nat → Nat) (n : Nat) : PS → PS
  | .inl a => .inl (tx T n isb a)
  | .inr q => .inr q
theorem c_rskip (l : Launch) (S : qSt) {T : Nat → Nat} {n : Nat} {s : PS} (hR : RS S T n s) : q_Met q_mt l 0 k_X4_skipBlanks 0 [.inr (.inr (1, 0))] S (fun _ S' => RQ S S' T n (pbl T n s) ∧ ∃ f, f ≤ 600 ∧ q_I S' 1 0 3 = nI f ∧ ∀ a, s = .inl a → f = tx T n isb a) := by
  cases s with
  | inl a =>
    refine q_Met.post (c_skipBlanks l S hR) fun r S' h1 => ⟨h1, tx T n isb a, ?_, h1.1.2.1.2.2.1, fun b hb => by cases hb; rfl⟩
    have := h1.1.1
    omega
  | inr q =>
    obtain ⟨a, hR⟩ := hR
    refine q_Met.post (c_skipBlanks l S hR) fun r S' h1 => ⟨⟨⟨_, h1.1⟩, h1.2⟩, tx T n isb a, ?_, h1.1.2.1.2.2.1, fun b hb => by cases hb⟩
    have := h1.1.1
    omega
theorem nmA_b (T : Nat → Nat) (n a : Nat) : nmA T n (tx T n isb a) = nmA T n a := by unfold nmA; rw [tx_tx]
theorem nmN_b (T : Nat → Nat) (n a : Nat) : nmN T n (tx T n isb a) = nmN T n a := by unfold nmN; rw [nmA_b, tx_tx]
theorem nmE_b (T : Nat → Nat) (n a lo h : Nat) (e : Option (Nat × Nat)) : nmE T n (tx T n isb a) lo h e = nmE T n a lo h e := by unfold nmE; rw [nmA_b, nmN_b, tx_tx]
theorem pnm_b (T : Nat → Nat) (n lo h : Nat) (s : PS) : pnm T n lo h (pbl T n s) = pnm T n lo h s := by
  cases s with
  | inr q => rfl
  | inl a =>
    show pnm T n lo h (.inl (tx T n isb a)) = _
    cases hE : nmE T n a lo h none with
    | none => rw [pnm_ok hE, pnm_ok (by rw [nmE_b]; exact hE), nmA_b]
    | some q => rw [pnm_no hE, pnm_no (by rw [nmE_b]; exact hE)]
theorem pvl_b (T : Nat → Nat) (n : Nat) (s : PS) : pvl T n (pbl T n s) = pvl T n s := by
  cases s with
  | inr q => rfl
  | inl a => exact nmN_b T n a
/-- where a place is told twice -/
def pdb (T : Nat → Nat) (n : Nat) (ln p : Nat) (s1 s2 : PS) : PS := match s1, s2 with
  | .inl b, .inl c => if ln.testBit p then .inr (2, tx T n isb b) else .inl c
  | _, s => s
def sp1 (T : Nat → Nat) (n : Nat) (Y : YD) (a : Nat) : PS := pnm T n 0 (Y 0 0) (.inl a)
def sp2 (T : Nat → Nat) (n : Nat) (Y : YD) (a : Nat) : PS := pnm T n 0 (plc Y (nmN T n a)) (sp1 T n Y a)
def spp (T : Nat → Nat) (n : Nat) (Y : YD) (a : Nat) : Nat := 4 * nmN T n a + pvl T n (sp1 T n Y a)
def sp3 (T : Nat → Nat) (n : Nat) (Y : YD) (a ln : Nat) : PS := pdb T n ln (spp T n Y a) (sp1 T n Y a) (sp2 T n Y a)
/-- a row of the spots' text: the place told, oil or not -/
def spl (T : Nat → Nat) (n : Nat) (Y : YD) (a ln : Nat) : PS := psg T n 59 (pnm T n 0 2 (sp3 T n Y a ln))
def spo (T : Nat → Nat) (n : Nat) (Y : YD) (a ln : Nat) : Nat := pvl T n (sp3 T n Y a ln)
def srl (T : Nat → Nat) (n : Nat) (Y : YD) : Nat → Nat → Nat → Nat → PS × Nat × Nat
  | 0, a, ln, oi => (.inl a, ln, oi)
  | f + 1, a, ln, oi => if n ≤ tx T n isb a then (.inl (tx T n isb a), ln, oi) else match spl T n Y (tx T n isb a) ln with
    | .inl b => srl T n Y f b (ln ||| 2 ^ spp T n Y (tx T n isb a)) (oi ||| spo T n Y (tx T n isb a) ln * 2 ^ spp T n Y (tx T n isb a))
    | .inr q => (.inr q, ln, oi)
abbrev Fsp (i : Nat) : Nat → Nat → Prop := fun f j => f = 1 ∨ (f = 16 ∧ j = i)
theorem LR.r1 {S S' : qSt} {i ln oi : Nat} (h : LR S i ln oi) (hf : fr Fr1 S S') : LR S' i ln oi := by
  unfold LR at *
  rw [(hf 16 i (fun q => by cases q)).1]
  exact h
theorem c_sreadLine (l : Launch) (S : qSt) {T : Nat → Nat} {n i y a ln oi : Nat} {Y : YD} (hY : y_ok Y) (hYR : YR S y Y) (hR : RD S T n a none) (hLR : LR S i ln oi) : q_Met q_mt l 3 k_X6_readLine 0 [.inr (.inr (16, i)), .inr (.inr (1, 0)), .inr (.inr (3, y))] S (fun _ S' => RS S' T n (spl T n Y a ln) ∧ (∃ ln' oi', LR S' i ln' oi' ∧ ((spl T n Y a ln).isLeft = true → ln' = ln ||| 2 ^ spp T n Y a ∧ oi' = oi ||| spo T n Y a ln * 2 ^ spp T n Y a)) ∧ fr (Fsp i) S S') := by
  refine q_meth zoX6_readLine q_fos (Nat.le_of_ble_eq_true rfl) ?_
  intro AT step
  have hs := hY.1
  have at1 : ∀ (S4 : qSt) (s : PS) (v1 f p : Nat), p < 12 → RS S4 T n s → LR S4 i ln oi → fr Fr1 S S4 → psg T n 59 (pnm T n 0 2 s) = spl T n Y a ln → (s.isLeft = true → s = sp3 T n Y a ln ∧ p = spp T n Y a) → AT 1 [some (.inr (.inr (16, i))), some (.inr (.inr (1, 0))), some (.inr (.inr (3, y))), some (.inl (nI v1)), some (.inl (nI f)), some (.inl (nI p)), none] [] S4 := by
    intro S4 s v1 f p hp hR4 hL4 hf4 he hok
    refine step 20 [] 1 _ _ _ ?_
    simp only [q_vcs, q_vcc, q_vl, q_vu, ↓reduceIte, Nat.reduceEqDiff, Bool.false_eq_true, q_isc, q_mk, q_msk, zbX6_readLine, q_pad, q_ent, q_get, q_put, q_nl, q_w, List.cons_append, List.nil_append, q_aks, q_als, Nat.reduceAdd, Nat.reduceLeDiff, Nat.zero_le, true_and, and_true, Option.some.injEq, Sum.inl.injEq, Sum.inr.injEq, true_or, or_true, and_self, q_sw]
    refine ⟨_, _, (by decide : 2 < 3), c_rnum l S4 (lo := 0) (h := 2) hR4 rfl (by decide) (by decide) (by decide), fun v S5 h => ?_⟩
    obtain ⟨w, hv, b1, b2, b3, b4⟩ := h
    cases hv
    refine ⟨_, _, (by decide : 1 < 3), c_rsign l S5 (c := 59) b4.1 (by decide), fun S6 h6 => ?_⟩
    have hL6 := (hL4.r1 b4.2.2).r1 h6.2.2
    have e1 : q_I (q_wI S6 16 i 0 (nI (ln ||| 2 ^ p))) 16 i 1 = nI oi := by rw [q_I_wI, if_neg (by omega)]; exact hL6.2.1
    have hw : w < 2 := by omega
    have hp12 : (2 : Nat) ^ p < 2 ^ 12 := Nat.pow_lt_pow_right (by decide) hp
    have hwp : w * 2 ^ p < 2 ^ 12 := by
      have : w * 2 ^ p ≤ 1 * 2 ^ p := Nat.mul_le_mul_right _ (by omega)
      omega
    rw [hL6.1, i_1sh p (by omega), fa_or, e1, i_shlN (by omega) (by omega), fa_or]
    have hf6 : fr (fun f j => f = 16 ∧ j = i) S6 (q_wI (q_wI S6 16 i 0 (nI (ln ||| 2 ^ p))) 16 i 1 (nI (oi ||| w * 2 ^ p))) := fr.wI (fr.wI fr.rf ⟨rfl, rfl⟩) ⟨rfl, rfl⟩
    rw [← he]
    refine ⟨h6.1.fr hf6 (by omega) (by omega), ⟨ln ||| 2 ^ p, oi ||| w * 2 ^ p, ⟨?_, ?_, ?_, ?_⟩, fun hl => ?_⟩, (((hf4.tr b4.2.2).tr h6.2.2).mn fun f j h => Or.inl h).tr (hf6.mn fun f j h => Or.inr h)⟩
    · rw [q_I_wI, if_neg (by omega), q_I_wI, if_pos ⟨rfl, rfl, rfl⟩]
    · rw [q_I_wI, if_pos ⟨rfl, rfl, rfl⟩]
    · exact Nat.or_lt_two_pow (n := 12) hL6.2.2.1 hp12
    · exact Nat.or_lt_two_pow (n := 12) hL6.2.2.2 hwp
    · have hl1 : (pnm T n 0 2 s).isLeft = true := by
        cases h : pnm T n 0 2 s with
        | inl a => rfl
        | inr q => rw [h] at hl; cases hl
      have hl2 : s.isLeft = true := by
        cases s with
        | inl a => rfl
        | inr q => cases hl1
      obtain ⟨k1, k2⟩ := hok hl2
      rw [k2, (b3 hl1).1]
      unfold spo
      rw [k1]
      exact ⟨rfl, rfl⟩
  refine step 20 [(1, [true, true, true, true, true, true, false])] 0 _ _ _ ?_
  simp only [q_vcs, q_vcc, q_vl, q_vu, ↓reduceIte, Nat.reduceEqDiff, Bool.false_eq_true, q_isc, q_mk, q_msk, zbX6_readLine, q_pad, q_ent, q_get, q_put, q_nl, q_w, List.cons_append, List.nil_append, q_aks, q_als, Nat.reduceAdd, Nat.reduceLeDiff, Nat.zero_le, true_and, and_true, Option.some.injEq, Sum.inl.injEq, Sum.inr.injEq, true_or, or_true, and_self, q_sw]
  rw [hYR.1]
  refine ⟨_, _, (by decide : 2 < 3), c_rnum l S (lo := 0) (h := Y 0 0) (s := .inl a) hR rfl rfl (by decide) (by omega), fun v S1 h => ?_⟩
  obtain ⟨w1, hv, a1, a2, a3, a4⟩ := h
  cases hv
  refine ⟨_, _, (by decide : 0 < 3), c_rskip l S1 a4.1, fun S2 h2 => ?_⟩
  obtain ⟨b1, f, b2, b3, b4⟩ := h2
  rw [b3]
  have hf2 := a4.2.2.tr b1.2.2
  refine q_u1 (by decide) (c_placesOf l S2 hY (yr_r1 hYR hf2) (k := w1) (by omega)) ?_
  have hpl := plc_le hY w1
  refine ⟨_, _, (by decide : 2 < 3), c_rnum l S2 (lo := 0) (h := plc Y w1) b1.1 rfl rfl (by decide) (by omega), fun v S3 h => ?_⟩
  obtain ⟨w2, hv, d1, d2, d3, d4⟩ := h
  cases hv
  rw [pnm_b, pvl_b] at d3
  rw [pnm_b] at d4
  have hf3 := hf2.tr d4.2.2
  have hL3 := hLR.r1 hf3
  have hp12 : w1 * 4 + w2 < 12 := by omega
  have hlt := hL3.2.2.1
  rw [hL3.1, show (4 : Int32) = nI 4 from rfl, pk_mul, nI_add, i_bit (by omega) (by omega), i_bit0]
  change RQ S S1 T n (sp1 T n Y a) at a4
  change (sp1 T n Y a).isLeft = true → _ at a3
  change (pnm T n 0 (plc Y w1) (sp1 T n Y a)).isLeft = true → _ at d3
  change RQ S2 S3 T n (pnm T n 0 (plc Y w1) (sp1 T n Y a)) at d4
  change ∀ x, sp1 T n Y a = .inl x → _ at b4
  cases h1 : sp1 T n Y a with
  | inr q =>
    rw [h1] at d4
    have e3 : sp3 T n Y a ln = .inr q := by unfold sp3 sp2; rw [h1]; rfl
    refine ⟨fun _ => at1 S3 (.inr q) w1 f _ hp12 d4.1 hL3 hf3 (by unfold spl; rw [e3]) (fun h => by cases h), fun _ => ?_⟩
    refine ⟨_, _, (by decide : 0 < 3), c_rfail l S3 (k := 2) d4.1 (by decide) b2, fun S4 h4 => ?_⟩
    exact at1 S4 (.inr q) w1 f _ hp12 h4.1 (hL3.r1 h4.2.2) (hf3.tr h4.2.2) (by unfold spl; rw [e3]) (fun h => by cases h)
  | inl b =>
    have e1 : w1 = nmN T n a := (a3 (by rw [h1]; rfl)).1
    have ef : f = tx T n isb b := b4 b h1
    rw [h1, e1] at d4
    rw [h1, e1] at d3
    have e2 : sp2 T n Y a = pnm T n 0 (plc Y (nmN T n a)) (.inl b) := by unfold sp2; rw [h1]
    rw [← e2] at d3 d4
    cases h2 : sp2 T n Y a with
    | inr q =>
      rw [h2] at d4
      have e3 : sp3 T n Y a ln = .inr q := by unfold sp3; rw [h1, h2]; rfl
      refine ⟨fun _ => at1 S3 (.inr q) w1 f _ hp12 d4.1 hL3 hf3 (by unfold spl; rw [e3]) (fun h => by cases h), fun _ => ?_⟩
      refine ⟨_, _, (by decide : 0 < 3), c_rfail l S3 (k := 2) d4.1 (by decide) b2, fun S4 h4 => ?_⟩
      exact at1 S4 (.inr q) w1 f _ hp12 h4.1 (hL3.r1 h4.2.2) (hf3.tr h4.2.2) (by unfold spl; rw [e3]) (fun h => by cases h)
    | inl c =>
      have e4 : w2 = nmN T n b := by
        rw [(d3 (by rw [h2]; rfl)).1]
        show pvl T n (sp1 T n Y a) = _
        rw [h1]
        rfl
      have ep : w1 * 4 + w2 = spp T n Y a := by
        unfold spp
        rw [h1, e1, e4, Nat.mul_comm]
        rfl
      rw [h2] at d4
      refine ⟨fun hb => ?_, fun hb => ?_⟩
      · have e3 : sp3 T n Y a ln = .inl c := by
          unfold sp3
          rw [h1, h2, ← ep]
          show (if ln.testBit _ then _ else _) = _
          rw [hb]
          rfl
        exact at1 S3 (.inl c) w1 f _ hp12 d4.1 hL3 hf3 (by unfold spl; rw [e3]) (fun _ => ⟨e3.symm, ep⟩)
      · have e3 : sp3 T n Y a ln = .inr (2, f) := by
          unfold sp3
          rw [h1, h2, ← ep, ef]
          show (if ln.testBit _ then _ else _) = _
          rw [ts_nf hb]
          rfl
        refine ⟨_, _, (by decide : 0 < 3), c_rfail l S3 (k := 2) d4.1 (by decide) b2, fun S4 h4 => ?_⟩
        exact at1 S4 (.inr (2, f)) w1 f _ hp12 h4.1 (hL3.r1 h4.2.2) (hf3.tr h4.2.2) (by unfold spl; rw [e3]) (fun h => by cases h)
theorem c_sclear (l : Launch) (S : qSt) {i : Nat} : q_Met q_mt l 0 k_X6_clear 0 [.inr (.inr (16, i))] S (fun _ S' => LR S' i 0 0 ∧ fr (fun f j => f = 16 ∧ j = i) S S') := by
  refine q_meth zoX6_clear q_fos (Nat.le_of_ble_eq_true rfl) ?_
  intro AT step
  refine step 20 [] 0 _ _ _ ?_
  simp only [q_vcs, q_vcc, q_vl, q_vu, ↓reduceIte, Nat.reduceEqDiff, Bool.false_eq_true, q_isc, q_mk, q_msk, zbX6_clear, q_pad, q_ent, q_get, q_put, q_nl, q_w, List.cons_append, List.nil_append, q_aks, q_als, Nat.reduceAdd, Nat.reduceLeDiff, Nat.zero_le, true_and, and_true, Option.some.injEq, Sum.inl.injEq, Sum.inr.injEq, true_or, or_true, and_self, q_sw]
  refine ⟨⟨?_, ?_, by decide, by decide⟩, fr.wI (fr.wI fr.rf ⟨rfl, rfl⟩) ⟨rfl, rfl⟩⟩
  · rw [q_I_wI, if_neg (by omega), q_I_wI, if_pos ⟨rfl, rfl, rfl⟩]; rfl
  · rw [q_I_wI, if_pos ⟨rfl, rfl, rfl⟩]; rfl
theorem pnm_lt {T : Nat → Nat} {n lo h : Nat} {s : PS} {b : Nat} (hh : pnm T n lo h s = .inl b) : ∃ a, s = .inl a ∧ a < b ∧ (a ≤ n → b ≤ n) := by
  cases s with
  | inr q => cases hh
  | inl a =>
    cases hE : nmE T n a lo h none with
    | some q => rw [pnm_no hE] at hh; cases hh
    | none =>
      rw [pnm_ok hE] at hh
      cases hh
      have h1 := (nmE_none hE).2.2
      have h2 := tx_ge T n isb a
      exact ⟨a, rfl, by omega, fun h => tx_le (tx_le h)⟩
theorem psg_lt {T : Nat → Nat} {n c : Nat} {s : PS} {b : Nat} (hh : psg T n c s = .inl b) : ∃ a, s = .inl a ∧ a < b ∧ (a ≤ n → b ≤ n) := by
  cases s with
  | inr q => cases hh
  | inl a =>
    by_cases h : hr T n (tx T n isb a) = some c
    · rw [psg_ok h] at hh
      cases hh
      have h2 := tx_ge T n isb a
      have h3 := (hr_some h).1
      exact ⟨a, rfl, by omega, fun _ => by omega⟩
    · rw [psg_no h] at hh; cases hh
theorem spl_lt {T : Nat → Nat} {n a ln b : Nat} {Y : YD} (h : spl T n Y a ln = .inl b) : a < b := by
  unfold spl at h
  obtain ⟨a1, h1, h2, -⟩ := psg_lt h
  obtain ⟨a2, h3, h4, -⟩ := pnm_lt h1
  unfold sp3 pdb at h3
  cases g1 : sp1 T n Y a with
  | inr q =>
    rw [g1] at h3
    have : sp2 T n Y a = .inr q := by unfold sp2; rw [g1]; rfl
    rw [this] at h3
    cases h3
  | inl a3 =>
    rw [g1] at h3
    obtain ⟨x, e, h5, -⟩ := pnm_lt (show pnm T n 0 (Y 0 0) (.inl a) = .inl a3 from g1)
    cases e
    cases g2 : sp2 T n Y a with
    | inr q => rw [g2] at h3; cases h3
    | inl a4 =>
      rw [g2] at h3
      have h6 : pnm T n 0 (plc Y (nmN T n a)) (.inl a3) = .inl a4 := by
        have := g2
        unfold sp2 at this
        rw [g1] at this
        exact this
      obtain ⟨y, e, h7, -⟩ := pnm_lt h6
      cases e
      dsimp only at h3
      split at h3
      · cases h3
      · cases h3; omega
theorem c_sread (l : Launch) (S : qSt) {T : Nat → Nat} {n i y : Nat} {Y : YD} (hY : y_ok Y) (hYR : YR S y Y) (hR : RD S T n 0 none) (hn : n ≤ 60) : q_Met q_mt l 4 k_X6_read 0 [.inr (.inr (16, i)), .inr (.inr (1, 0)), .inr (.inr (3, y))] S (fun _ S' => RS S' T n (srl T n Y 61 0 0 0).1 ∧ (∃ ln' oi', LR S' i ln' oi' ∧ ((srl T n Y 61 0 0 0).1.isLeft = true → ln' = (srl T n Y 61 0 0 0).2.1 ∧ oi' = (srl T n Y 61 0 0 0).2.2)) ∧ fr (Fsp i) S S') := by
  refine q_meth zoX6_read q_fos (Nat.le_of_ble_eq_true rfl) ?_
  intro AT step
  have yr : ∀ {S1 : qSt}, fr (Fsp i) S S1 → YR S1 y Y := fun hf => hYR.fr hf (fun f h1 h2 h => by omega)
  have hL : ∀ (f k a ln oi : Nat) (S2 : qSt), k + f = 61 → k ≤ a → RD S2 T n a none → LR S2 i ln oi → fr (Fsp i) S S2 → srl T n Y f a ln oi = srl T n Y 61 0 0 0 → AT 1 [some (.inr (.inr (16, i))), some (.inr (.inr (1, 0))), some (.inr (.inr (3, y))), some (.inl (nI k))] [] S2 := by
    intro f
    induction f with
    | zero => intro k a ln oi S2 h1 h2 hR2; have := hR2.1; omega
    | succ f ih =>
      intro k a ln oi S2 h1 h2 hR2 hL2 hf2 he
      have hn2 := hR2.1
      refine step 40 [(1, [true, true, true, true])] 1 _ _ _ ?_
      simp only [q_vcs, q_vcc, q_vl, q_vu, ↓reduceIte, Nat.reduceEqDiff, Bool.false_eq_true, q_isc, q_mk, q_msk, zbX6_read, q_pad, q_ent, q_get, q_put, q_nl, q_w, List.cons_append, List.nil_append, q_aks, q_als, Nat.reduceAdd, Nat.reduceLeDiff, Nat.zero_le, true_and, and_true, Option.some.injEq, Sum.inl.injEq, Sum.inr.injEq, true_or, or_true, and_self, q_sw]
      rw [show (60 : Int32) = nI 60 from rfl, nI_leI (by decide) (by omega)]
      refine ⟨fun h => ?_, fun h60 => q_u1 (by decide) (c_sound l S2 (s := .inl a) hR2) ⟨fun h => absurd h (show ¬ (1 : Int32) = 0 by decide), fun _ => ?_⟩⟩
      · have ea : a = n := by omega
        have et : tx T n isb a = a := tx_f (by unfold tb; simp; omega)
        rw [← he, srl, if_pos (by omega), et]
        exact ⟨hR2, ⟨ln, oi, hL2, fun _ => ⟨rfl, rfl⟩⟩, hf2⟩
      refine ⟨_, _, (by decide : 1 < 4), c_isAtEnd l S2 hR2, fun v S3 h => ?_⟩
      obtain ⟨hv, h3⟩ := h
      cases hv
      have hf3 : fr (Fsp i) S S3 := hf2.tr (h3.2.2.mn fun f j h => Or.inl h)
      have hL3 := hL2.r1 h3.2.2
      rw [bI_0]
      by_cases hend : n ≤ tx T n isb a
      · refine ⟨fun _ => ?_, fun h => absurd h (by simp [hend])⟩
        rw [← he, srl, if_pos hend]
        exact ⟨h3.1, ⟨ln, oi, hL3, fun _ => ⟨rfl, rfl⟩⟩, hf3⟩
      · refine ⟨fun h => absurd (by simp [hend]) h, fun _ => ?_⟩
        refine ⟨_, _, (by decide : 3 < 4), c_sreadLine l S3 hY (yr hf3) h3.1 hL3, fun S4 h4 => ?_⟩
        obtain ⟨g1, ⟨ln2, oi2, g3, g4⟩, g5⟩ := h4
        rw [srl, if_neg hend] at he
        rw [nI_1]
        cases hc : spl T n Y (tx T n isb a) ln with
        | inl b =>
          rw [hc] at he g1 g4
          dsimp only at he
          obtain ⟨e1, e2⟩ := g4 rfl
          have hlt := spl_lt hc
          have hge := tx_ge T n isb a
          rw [← e1, ← e2] at he
          exact ih (k + 1) b ln2 oi2 S4 (by omega) (by omega) g1 g3 (hf3.tr g5) he
        | inr q =>
          rw [hc] at he g1
          dsimp only at he
          have fin : RS S4 T n (srl T n Y 61 0 0 0).1 ∧ (∃ ln' oi', LR S4 i ln' oi' ∧ ((srl T n Y 61 0 0 0).1.isLeft = true → ln' = (srl T n Y 61 0 0 0).2.1 ∧ oi' = (srl T n Y 61 0 0 0).2.2)) ∧ fr (Fsp i) S S4 := by
            rw [← he]
            exact ⟨g1, ⟨ln2, oi2, g3, fun h => by cases h⟩, hf3.tr g5⟩
          refine step 40 [(1, [true, true, true, true])] 1 _ _ _ ?_
          simp only [q_vcs, q_vcc, q_vl, q_vu, ↓reduceIte, Nat.reduceEqDiff, Bool.false_eq_true, q_isc, q_mk, q_msk, zbX6_read, q_pad, q_ent, q_get, q_put, q_nl, q_w, List.cons_append, List.nil_append, q_aks, q_als, Nat.reduceAdd, Nat.reduceLeDiff, Nat.zero_le, true_and, and_true, Option.some.injEq, Sum.inl.injEq, Sum.inr.injEq, true_or, or_true, and_self, q_sw]
          refine ⟨fun _ => fin, fun _ => q_u1 (by decide) (c_sound l S4 (s := .inr q) g1) ⟨fun _ => fin, fun h => absurd rfl h⟩⟩
  refine step 40 [(1, [true, true, true, true])] 0 _ _ _ ?_
  simp only [q_vcs, q_vcc, q_vl, q_vu, ↓reduceIte, Nat.reduceEqDiff, Bool.false_eq_true, q_isc, q_mk, q_msk, zbX6_read, q_pad, q_ent, q_get, q_put, q_nl, q_w, List.cons_append, List.nil_append, q_aks, q_als, Nat.reduceAdd, Nat.reduceLeDiff, Nat.zero_le, true_and, and_true, Option.some.injEq, Sum.inl.injEq, Sum.inr.injEq, true_or, or_true, and_self, q_sw]
  refine ⟨_, _, (by decide : 0 < 4), c_sclear l S, fun S1 h1 => ?_⟩
  exact hL 61 0 0 0 0 S1 rfl (by decide) (hR.fr h1.2 (by omega) (by omega)) h1.1 (h1.2.mn fun f j h => Or.inr h) rfl
