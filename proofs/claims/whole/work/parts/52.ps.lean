/-! reading on till the first fault -/
abbrev PS : Type := Nat ⊕ (Nat × Nat)
def RS (S : qSt) (T : Nat → Nat) (n : Nat) (s : PS) : Prop := match s with
  | .inl a => RD S T n a none
  | .inr q => ∃ a, RD S T n a (some q)
def RQ (S S' : qSt) (T : Nat → Nat) (n : Nat) (s : PS) : Prop := RS S' T n s ∧ q_I S' 1 0 4 = q_I S 1 0 4 ∧ fr Fr1 S S'
theorem RQ.tr {S S1 S2 : qSt} {T : Nat → Nat} {n : Nat} {s s' : PS} (h : RQ S S1 T n s) (h2 : RQ S1 S2 T n s') : RQ S S2 T n s' := ⟨h2.1, h2.2.1.trans h.2.1, h.2.2.tr h2.2.2⟩
theorem RS.fr {F : Nat → Nat → Prop} {S S' : qSt} {T : Nat → Nat} {n : Nat} {s : PS} (h : RS S T n s) (hf : fr F S S') (h1 : ¬ F 1 0) (h2 : ¬ F 2 0) : RS S' T n s := by
  cases s with
  | inl a => exact RD.fr h hf h1 h2
  | inr q =>
    obtain ⟨a, h⟩ := h
    exact ⟨a, RD.fr h hf h1 h2⟩
def pnm (T : Nat → Nat) (n lo h : Nat) : PS → PS
  | .inl a => match nmE T n a lo h none with
    | none => .inl (nmA T n a)
    | some q => .inr q
  | .inr q => .inr q
def pvl (T : Nat → Nat) (n : Nat) : PS → Nat
  | .inl a => nmN T n a
  | .inr _ => 0
def psg (T : Nat → Nat) (n c : Nat) : PS → PS
  | .inl a => if hr T n (tx T n isb a) = some c then .inl (tx T n isb a + 1) else .inr (1, tx T n isb a)
  | .inr q => .inr q
theorem fal_some (q : Nat × Nat) (k p : Nat) : fal (some q) k p = some q := rfl
theorem nmE_some (T : Nat → Nat) (n a lo h : Nat) (q : Nat × Nat) : nmE T n a lo h (some q) = some q := by
  unfold nmE
  simp [fal_some]
theorem nmE_none {T : Nat → Nat} {n a lo h : Nat} (hh : nmE T n a lo h none = none) : lo ≤ nmN T n a ∧ nmN T n a < h ∧ tx T n isb a < nmA T n a := by
  unfold nmE fal at hh
  split at hh
  · cases hh
  · split at hh
    · rename_i h1 h2
      have : tx T n isb a ≤ nmA T n a := tx_ge _ _ _ _
      exact ⟨h2.1, h2.2, by omega⟩
    · cases hh
theorem pnm_ok {T : Nat → Nat} {n a lo h : Nat} (hh : nmE T n a lo h none = none) : pnm T n lo h (.inl a) = .inl (nmA T n a) := by
  show (match nmE T n a lo h none with | none => (.inl (nmA T n a) : PS) | some q => .inr q) = _
  rw [hh]
theorem pnm_no {T : Nat → Nat} {n a lo h : Nat} {q : Nat × Nat} (hh : nmE T n a lo h none = some q) : pnm T n lo h (.inl a) = .inr q := by
  show (match nmE T n a lo h none with | none => (.inl (nmA T n a) : PS) | some q => .inr q) = _
  rw [hh]
theorem psg_ok {T : Nat → Nat} {n a c : Nat} (h : hr T n (tx T n isb a) = some c) : psg T n c (.inl a) = .inl (tx T n isb a + 1) := if_pos h
theorem psg_no {T : Nat → Nat} {n a c : Nat} (h : ¬ hr T n (tx T n isb a) = some c) : psg T n c (.inl a) = .inr (1, tx T n isb a) := if_neg h
theorem c_rnum (l : Launch) (S : qSt) {T : Nat → Nat} {n lo h : Nat} {s : PS} {lo9 hi9 : Int32} (hR : RS S T n s) (hl9 : lo9 = nI lo) (hh9 : hi9 = nI h - 1) (hlo : lo < 2 ^ 10) (hh : h < 2 ^ 10) : q_Met q_mt l 2 k_X4_readNumber 1 [.inr (.inr (1, 0)), .inl lo9, .inl hi9] S (fun r S' => ∃ v, r = some (.inl (nI v)) ∧ lo ≤ v ∧ v ≤ max lo (h - 1) ∧ ((pnm T n lo h s).isLeft = true → v = pvl T n s ∧ v < h) ∧ RQ S S' T n (pnm T n lo h s)) := by
  subst hl9 hh9
  cases s with
  | inl a =>
    refine q_Met.post (c_readNumber l S hR (by omega) (by omega)) fun r S' h1 => ⟨_, h1.1, ?_, ?_, fun h2 => ?_, ?_⟩
    · unfold nmV; omega
    · unfold nmV; omega
    · cases hE : nmE T n a lo h none with
      | some q => rw [pnm_no hE] at h2; cases h2
      | none =>
        have := nmE_none hE
        show nmV T n a lo h = nmN T n a ∧ _
        unfold nmV
        omega
    · have h3 := h1.2
      cases hE : nmE T n a lo h none with
      | none => rw [hE] at h3; rw [pnm_ok hE]; exact h3
      | some q => rw [hE] at h3; rw [pnm_no hE]; exact ⟨⟨_, h3.1⟩, h3.2⟩
  | inr q =>
    obtain ⟨a, hR⟩ := hR
    refine q_Met.post (c_readNumber l S hR (by omega) (by omega)) fun r S' h1 => ⟨_, h1.1, ?_, ?_, (fun h2 => by cases h2), ?_⟩
    · unfold nmV; omega
    · unfold nmV; omega
    · have h3 := h1.2
      rw [nmE_some] at h3
      exact ⟨⟨_, h3.1⟩, h3.2⟩
theorem c_rsign (l : Launch) (S : qSt) {T : Nat → Nat} {n c : Nat} {s : PS} (hR : RS S T n s) (hc : c < 256) : q_Met q_mt l 1 k_X4_readSign 0 [.inr (.inr (1, 0)), .inl (nI c)] S (fun _ S' => RQ S S' T n (psg T n c s)) := by
  cases s with
  | inl a =>
    refine q_Met.post (c_readSign l S hR hc) fun r S' h1 => ?_
    unfold sgn at h1
    by_cases h : hr T n (tx T n isb a) = some c
    · rw [if_pos h] at h1; rw [psg_ok h]; exact h1
    · rw [if_neg h] at h1; rw [psg_no h]; exact ⟨⟨_, h1.1⟩, h1.2⟩
  | inr q =>
    obtain ⟨a, hR⟩ := hR
    refine q_Met.post (c_readSign l S hR hc) fun r S' h1 => ?_
    unfold sgn at h1
    split at h1
    · exact ⟨⟨_, h1.1⟩, h1.2⟩
    · exact ⟨⟨_, h1.1⟩, h1.2⟩
theorem c_sound (l : Launch) (S : qSt) {T : Nat → Nat} {n : Nat} {s : PS} (hR : RS S T n s) : q_Met q_mt l 0 k_X4_isSound 1 [.inr (.inr (1, 0))] S (fun r S' => r = some (.inl (bI s.isLeft)) ∧ S' = S) := by
  cases s with
  | inl a => exact c_isSound l S hR
  | inr q =>
    obtain ⟨a, hR⟩ := hR
    exact c_isSound l S hR
/-- a fault is told -/
def pfl (k p : Nat) : PS → PS
  | .inl _ => .inr (k, p)
  | .inr q => .inr q
theorem c_rfail (l : Launch) (S : qSt) {T : Nat → Nat} {n k p : Nat} {s : PS} (hR : RS S T n s) (hk : 1 ≤ k ∧ k ≤ 3) (hp : p ≤ 600) : q_Met q_mt l 0 k_X4_fail 0 [.inr (.inr (1, 0)), .inl (nI k), .inl (nI p)] S (fun _ S' => RQ S S' T n (pfl k p s)) := by
  cases s with
  | inl a => exact q_Met.post (c_fail l S hR hk hp) fun r S' h1 => ⟨⟨_, h1.1⟩, h1.2⟩
  | inr q =>
    obtain ⟨a, hR⟩ := hR
    exact q_Met.post (c_fail l S hR hk hp) fun r S' h1 => ⟨⟨_, h1.1⟩, h1.2⟩
/-! Yard: its text -/
def yln (Y : YD) (v : Nat) : YD := fun f i => if f = 0 ∧ i = 0 then Y 0 0 + 1 else if f = 3 ∧ i = Y 0 0 then v else Y f i
def ycr (Y : YD) (a b c : Nat) : YD := fun f i => if f = 1 ∧ i = 0 then Y 1 0 + 1 else if i = Y 1 0 then (if f = 4 then a else if f = 5 then b else if f = 6 then c else if f = 7 then 2 ^ Y 1 0 else Y f i) else Y f i
def yky (Y : YD) (o m : Nat) : YD := fun f i => if f = 7 ∧ i = o then Y 7 o ||| 2 ^ m else Y f i
def ycs (Y : YD) (v : Nat) : YD := fun f i => if f = 2 ∧ i = 0 then v else Y f i
theorem yln_ok {Y : YD} (h : y_ok Y) {v : Nat} (h3 : Y 0 0 < 3) (hv : 1 ≤ v ∧ v ≤ 4) : y_ok (yln Y v) := by
  obtain ⟨h1, h2, h4, h5, h6⟩ := h
  refine ⟨by simp [yln]; omega, by simp [yln]; omega, by simp [yln]; omega, fun k hk => ?_, fun c hc => ?_⟩
  · simp [yln] at hk ⊢
    split
    · exact hv
    · exact h5 k (by omega)
  · simp [yln] at hc ⊢
    exact h6 c hc
theorem ycr_ok {Y : YD} (h : y_ok Y) {a b c : Nat} (h3 : Y 1 0 < 6) (ha : 1 ≤ a ∧ a ≤ 2) (hb : b ≤ 99) (hc : c ≤ 9) : y_ok (ycr Y a b c) := by
  obtain ⟨h1, h2, h4, h5, h6⟩ := h
  refine ⟨by simp [ycr]; exact h1, by simp [ycr]; omega, by simp [ycr]; exact h4, fun k hk => ?_, fun k hk => ?_⟩
  · have e0 : ycr Y a b c 0 0 = Y 0 0 := by simp [ycr]
    have e3 : ycr Y a b c 3 k = Y 3 k := by simp [ycr]
    rw [e0] at hk
    rw [e3]
    exact h5 k hk
  · have e1 : ycr Y a b c 1 0 = Y 1 0 + 1 := by simp [ycr]
    rw [e1] at hk
    by_cases e : k = Y 1 0
    · subst e
      have hp : (2 : Nat) ^ Y 1 0 ≤ 2 ^ 5 := Nat.pow_le_pow_right (by decide) (by omega)
      simp [ycr]
      omega
    · have := h6 k (by omega)
      simp [ycr, e]
      omega
theorem yky_ok {Y : YD} (h : y_ok Y) {o m : Nat} (ho : o < Y 1 0) (hm : m < 6) : y_ok (yky Y o m) := by
  obtain ⟨h1, h2, h4, h5, h6⟩ := h
  refine ⟨by simp [yky]; omega, by simp [yky]; omega, by simp [yky]; omega, fun k hk => ?_, fun k hk => ?_⟩
  · simp [yky] at hk ⊢
    exact h5 k hk
  · simp [yky] at hk
    have := h6 k hk
    have hp : (2 : Nat) ^ m < 2 ^ 6 := Nat.pow_lt_pow_right (by decide) hm
    refine ⟨by simp [yky]; omega, by simp [yky]; omega, by simp [yky]; omega, by simp [yky]; omega, ?_⟩
    simp only [yky]
    split
    · have h7 := (h6 o ho).2.2.2.2
      exact Nat.or_lt_two_pow (n := 6) h7 hp
    · exact this.2.2.2.2
theorem ycs_ok {Y : YD} (h : y_ok Y) {v : Nat} (hv : v ≤ 40) : y_ok (ycs Y v) := by
  obtain ⟨h1, h2, h4, h5, h6⟩ := h
  refine ⟨by simp [ycs]; omega, by simp [ycs]; omega, by simp [ycs]; omega, fun k hk => ?_, fun k hk => ?_⟩
  · simp [ycs] at hk ⊢
    exact h5 k hk
  · simp [ycs] at hk ⊢
    exact h6 k hk
def ykd (T : Nat → Nat) (b c : Nat) : Nat := if seg T b c = sw 3 then 1 else if seg T b c = sw 4 then 2 else if seg T b c = sw 5 then 3 else if seg T b c = sw 6 then 4 else 0
def ytm (k kd : Nat) (Y : YD) : Bool := decide (60 ≤ k ∨ kd = 1 ∧ 3 ≤ Y 0 0 ∨ kd = 2 ∧ 6 ≤ Y 1 0)
def ybd (T : Nat → Nat) (n c : Nat) (Y : YD) (kd : Nat) : PS × YD := match kd with
  | 1 => (pnm T n 1 5 (.inl c), yln Y (nmN T n c))
  | 2 => (pnm T n 0 10 (pnm T n 0 100 (pnm T n 1 3 (.inl c))), ycr Y (nmN T n c) (pvl T n (pnm T n 1 3 (.inl c))) (pvl T n (pnm T n 0 100 (pnm T n 1 3 (.inl c)))))
  | 3 => (pnm T n 0 (Y 1 0) (pnm T n 0 (Y 1 0) (.inl c)), yky Y (nmN T n c) (pvl T n (pnm T n 0 (Y 1 0) (.inl c))))
  | _ => (pnm T n 0 41 (.inl c), ycs Y (nmN T n c))
/-- a clause, k told before it -/
def ycl (T : Nat → Nat) (n k a : Nat) (Y : YD) : PS × YD :=
  if ykd T (tx T n isb a) (tx T n isl (tx T n isb a)) = 0 then (.inr (1, tx T n isb a), Y)
  else if ytm k (ykd T (tx T n isb a) (tx T n isl (tx T n isb a))) Y then (.inr (3, tx T n isb a), Y)
  else (psg T n 59 (ybd T n (tx T n isl (tx T n isb a)) Y (ykd T (tx T n isb a) (tx T n isl (tx T n isb a)))).1, (ybd T n (tx T n isl (tx T n isb a)) Y (ykd T (tx T n isb a) (tx T n isl (tx T n isb a)))).2)
def yrl (T : Nat → Nat) (n : Nat) : Nat → Nat → Nat → YD → PS × YD
  | 0, _, a, Y => (.inl a, Y)
  | f + 1, k, a, Y => if n ≤ tx T n isb a then (.inl (tx T n isb a), Y) else match ycl T n k (tx T n isb a) Y with
    | (.inl b, Y') => yrl T n f (k + 1) b Y'
    | (.inr q, Y') => (.inr q, Y')
def Y0 : YD := fun f _ => if f = 2 then 5 else 0
theorem Y0_ok : y_ok Y0 := ⟨by decide, by decide, by decide, fun k h => by simp [Y0] at h, fun k h => by simp [Y0] at h⟩
abbrev Fy (y : Nat) : Nat → Nat → Prop := fun f i => f = 1 ∨ (i = y ∧ 3 ≤ f ∧ f ≤ 11)
theorem Fr1_y {y : Nat} {S S' : qSt} (h : fr Fr1 S S') : fr (Fy y) S S' := h.mn fun f i h => Or.inl h
theorem yr_r1 {S S' : qSt} {y : Nat} {Y : YD} (h : YR S y Y) (hf : fr Fr1 S S') : YR S' y Y := h.fr hf (fun f h1 h2 h => by have : f = 1 := h; omega)
theorem c_yreadLane (l : Launch) (S : qSt) {T : Nat → Nat} {n y : Nat} {s : PS} {Y : YD} (hY : y_ok Y) (hR : RS S T n s) (hYR : YR S y Y) (h3 : Y 0 0 < 3) : q_Met q_mt l 3 k_X9_readLane 0 [.inr (.inr (3, y)), .inr (.inr (1, 0))] S (fun _ S' => RS S' T n (pnm T n 1 5 s) ∧ (∃ Y', y_ok Y' ∧ YR S' y Y' ∧ ((pnm T n 1 5 s).isLeft = true → Y' = yln Y (pvl T n s))) ∧ fr (Fy y) S S') := by
  refine q_meth zoX9_readLane q_fos (Nat.le_of_ble_eq_true rfl) ?_
  intro AT step
  refine step 20 [] 0 _ _ _ ?_
  simp only [q_vcs, q_vcc, q_vl, q_vu, ↓reduceIte, Nat.reduceEqDiff, Bool.false_eq_true, q_isc, q_mk, q_msk, zbX9_readLane, q_pad, q_ent, q_get, q_put, q_nl, q_w, List.cons_append, List.nil_append, q_aks, q_als, Nat.reduceAdd, Nat.reduceLeDiff, Nat.zero_le, true_and, and_true, Option.some.injEq, Sum.inl.injEq, Sum.inr.injEq, true_or, or_true, and_self, q_sw]
  refine ⟨_, _, (by decide : 2 < 3), c_rnum l S (lo := 1) (h := 5) hR rfl (by decide) (by decide) (by decide), fun v S1 h1 => ?_⟩
  obtain ⟨w, hv, k1, k2, k3, k4⟩ := h1
  cases hv
  refine q_u1 (by decide) (c_sound l S1 k4.1) ?_
  have hY1 := yr_r1 hYR k4.2.2
  rw [bI_0]
  cases hp : (pnm T n 1 5 s).isLeft with
  | false => exact ⟨fun _ => ⟨k4.1, ⟨Y, hY, hY1, fun h => by cases h⟩, Fr1_y k4.2.2⟩, fun h => absurd rfl h⟩
  | true =>
    have k3 := (k3 hp).1
    have e0 := hY1.1
    rw [e0, show (3 : Int32) = nI 3 from rfl, nI_leI (by omega) (by omega), i_cl (by omega)]
    refine ⟨fun h => (by cases h), fun _ => ⟨fun h => absurd h (by omega), fun _ => ⟨i_in (by omega) (by decide), ?_⟩⟩⟩
    have e1 : q_I (q_wI S1 4 y (Y 0 0) (nI w)) 3 y 0 = nI (Y 0 0) := e0
    rw [e1, nI_1]
    refine ⟨?_, ⟨yln Y w, yln_ok hY h3 ⟨k1, by omega⟩, ?_, fun _ => by rw [k3]⟩, fr.wI (fr.wI (Fr1_y k4.2.2) (Or.inr ⟨rfl, by decide, by decide⟩)) (Or.inr ⟨rfl, by decide, by decide⟩)⟩
    · exact k4.1.fr (F := fun f i => f = 3 ∨ f = 4) (fr.wI (fr.wI fr.rf (Or.inr rfl)) (Or.inl rfl)) (by omega) (by omega)
    · obtain ⟨g1, g2, g3, g4, g5⟩ := hY1
      refine ⟨?_, by simp [q_I_wI, yln]; exact g2, by simp [q_I_wI, yln]; exact g3, fun k hk => ?_, fun c hc => ?_⟩
      · rw [q_I_wI, if_pos ⟨rfl, rfl, rfl⟩]
        simp [yln]
      · rw [q_I_wI, if_neg (by omega), q_I_wI]
        simp [yln] at hk ⊢
        split
        · rfl
        · exact g4 k (by omega)
      · simp [yln] at hc ⊢
        exact g5 c hc
