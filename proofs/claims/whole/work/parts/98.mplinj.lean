/-! A stand's place in the table is its own -/
theorem lrk_lt : ∀ L : List Nat, lrk L < fcc L.length
  | [] => by decide
  | c :: r => by
    have ih := lrk_lt r
    have h := List.countP_le_length (p := fun x => decide (x < c)) (l := r)
    have := Nat.mul_le_mul_right (fcc r.length) h
    rw [lrk, List.length_cons, fcc, Nat.mul_add, Nat.mul_one, Nat.mul_comm (fcc r.length)]
    omega
theorem dm_u {n x y a b : Nat} (h : x * n + a = y * n + b) (ha : a < n) (hb : b < n) : x = y ∧ a = b := by
  have h0 : 0 < n := by omega
  have e1 : (x * n + a) / n = x := by rw [Nat.mul_comm, Nat.mul_add_div h0, Nat.div_eq_of_lt ha, Nat.add_zero]
  have e2 : (y * n + b) / n = y := by rw [Nat.mul_comm, Nat.mul_add_div h0, Nat.div_eq_of_lt hb, Nat.add_zero]
  have : x = y := by rw [← e1, ← e2, h]
  subst this
  exact ⟨rfl, by omega⟩
theorem cnt_less {X : List Nat} {c d : Nat} (hc : c ∈ X) (h : c < d) : X.countP (fun x => decide (x < c)) < X.countP (fun x => decide (x < d)) := by
  induction X with
  | nil => cases hc
  | cons x X ih =>
    have hm : X.countP (fun x => decide (x < c)) ≤ X.countP (fun x => decide (x < d)) := List.countP_mono_left (fun y _ hy => by
      rw [decide_eq_true_eq] at hy ⊢
      omega)
    rw [List.countP_cons, List.countP_cons]
    by_cases e : c = x
    · subst e
      rw [if_neg (by rw [decide_eq_true_eq]; omega), if_pos (by rw [decide_eq_true_eq]; exact h)]
      omega
    · have hi := ih (by rcases List.mem_cons.mp hc with q | q; exact absurd q e; exact q)
      by_cases e1 : x < c
      · rw [if_pos (by rw [decide_eq_true_eq]; exact e1), if_pos (by rw [decide_eq_true_eq]; omega)]
        omega
      · rw [if_neg (by rw [decide_eq_true_eq]; exact e1)]
        omega
theorem lrk_inj : ∀ {L M : List Nat}, L.Perm M → lrk L = lrk M → L = M
  | [], M, hp, _ => (List.nil_perm.mp hp).symm
  | c :: r, M, hp, h => by
    cases M with
    | nil => exact absurd hp.length_eq (by simp)
    | cons d t =>
      have hl : r.length = t.length := by have := hp.length_eq; simpa using this
      have h1 := lrk_lt r
      have h2 := lrk_lt t
      rw [lrk, lrk, ← hl] at h
      rw [← hl] at h2
      obtain ⟨e1, e2⟩ := dm_u h h1 h2
      have c1 : (c :: r).countP (fun x => decide (x < c)) = r.countP (fun x => decide (x < c)) := by
        rw [List.countP_cons, if_neg (by rw [decide_eq_true_eq]; omega), Nat.add_zero]
      have c2 : (d :: t).countP (fun x => decide (x < d)) = t.countP (fun x => decide (x < d)) := by
        rw [List.countP_cons, if_neg (by rw [decide_eq_true_eq]; omega), Nat.add_zero]
      have c3 : (d :: t).countP (fun x => decide (x < d)) = (c :: r).countP (fun x => decide (x < d)) := (hp.countP_eq _).symm
      have c4 : (c :: r).countP (fun x => decide (x < c)) = (d :: t).countP (fun x => decide (x < c)) := hp.countP_eq _
      have : c = d := by
        rcases Nat.lt_trichotomy c d with q | q | q
        · have := cnt_less (X := c :: r) List.mem_cons_self q
          omega
        · exact q
        · have := cnt_less (X := d :: t) List.mem_cons_self q
          omega
      subst this
      rw [lrk_inj (List.Perm.cons_inv hp) e2]
theorem bsf_mono : ∀ {a b : Nat}, a ≤ b → bsf a ≤ bsf b := by
  intro a b h
  induction b with
  | zero => rw [show a = 0 by omega]; exact Nat.le_refl _
  | succ b ih =>
    by_cases e : a = b + 1
    · rw [e]; exact Nat.le_refl _
    · have := ih (by omega)
      rw [bsf]
      omega
theorem plof_rg {P : Nat → List Nat} {k : Nat} (hk : tot P = k + 1) : bsf k < plof P ∧ plof P ≤ bsf (k + 1) := by
  have hl := lrk_lt (cw P 3)
  rw [cw_len, hk] at hl
  have h0 : (P 0).length + (P 1).length ≤ k + 1 := by unfold tot at hk; omega
  unfold plof
  rw [if_neg (by omega), hk, Nat.add_sub_cancel, bsf]
  refine ⟨by omega, ?_⟩
  have a1 : lrk (cw P 3) * (k + 1 + 1) + (P 0).length + 1 ≤ fcc (k + 1) * (k + 1 + 1) := by
    have := Nat.mul_le_mul_right (k + 1 + 1) (show lrk (cw P 3) + 1 ≤ fcc (k + 1) from hl)
    rw [Nat.succ_mul] at this
    omega
  have a2 := Nat.mul_le_mul_right (k + 1 + 1) a1
  rw [Nat.succ_mul] at a2
  omega
theorem plof_lt {P : Nat → List Nat} (h : tot P ≤ 6) : plof P < 40319 := by
  rcases Nat.eq_zero_or_pos (tot P) with e | e
  · unfold plof; rw [if_pos e]; decide
  · obtain ⟨k, hk⟩ : ∃ k, tot P = k + 1 := ⟨tot P - 1, by omega⟩
    have h1 := (plof_rg hk).2
    have h2 : bsf (k + 1) ≤ bsf 6 := bsf_mono (by omega)
    have h3 : bsf 6 = 40318 := by decide
    omega
theorem plof_inj {P Q : Nat → List Nat} (hp : tot P = tot Q → (cw P 3).Perm (cw Q 3)) (h : plof P = plof Q) : P 0 = Q 0 ∧ P 1 = Q 1 ∧ P 2 = Q 2 := by
  have ht : tot P = tot Q := by
    rcases Nat.eq_zero_or_pos (tot P) with e | e
    · rcases Nat.eq_zero_or_pos (tot Q) with e' | e'
      · omega
      · obtain ⟨k, hk⟩ : ∃ k, tot Q = k + 1 := ⟨tot Q - 1, by omega⟩
        have := (plof_rg hk).1
        have z : plof P = 0 := by unfold plof; rw [if_pos e]
        omega
    · obtain ⟨k, hk⟩ : ∃ k, tot P = k + 1 := ⟨tot P - 1, by omega⟩
      have a := plof_rg hk
      rcases Nat.eq_zero_or_pos (tot Q) with e' | e'
      · have z : plof Q = 0 := by unfold plof; rw [if_pos e']
        omega
      · obtain ⟨j, hj⟩ : ∃ j, tot Q = j + 1 := ⟨tot Q - 1, by omega⟩
        have b := plof_rg hj
        rcases Nat.lt_trichotomy k j with q | q | q
        · have := bsf_mono (show k + 1 ≤ j by omega); omega
        · omega
        · have := bsf_mono (show j + 1 ≤ k by omega); omega
  have key : cw P 3 = cw Q 3 ∧ (P 0).length = (Q 0).length ∧ (P 1).length = (Q 1).length := by
    by_cases e : tot P = 0
    · have l1 : cw P 3 = [] := List.eq_nil_of_length_eq_zero (by rw [cw_len]; exact e)
      have l2 : cw Q 3 = [] := List.eq_nil_of_length_eq_zero (by rw [cw_len]; omega)
      refine ⟨by rw [l1, l2], ?_, ?_⟩
      · unfold tot at e ht; omega
      · unfold tot at e ht; omega
    · have b1 : (P 0).length < tot P + 1 ∧ (P 1).length < tot P + 1 := by unfold tot; omega
      have b2 : (Q 0).length < tot P + 1 ∧ (Q 1).length < tot P + 1 := by rw [ht]; unfold tot; omega
      unfold plof at h
      rw [if_neg e, if_neg (by omega), ← ht] at h
      obtain ⟨x1, x2⟩ := dm_u (n := tot P + 1) (x := lrk (cw P 3) * (tot P + 1) + (P 0).length) (y := lrk (cw Q 3) * (tot P + 1) + (Q 0).length) (a := (P 1).length) (b := (Q 1).length) (by omega) b1.2 b2.2
      obtain ⟨y1, y2⟩ := dm_u x1 b1.1 b2.1
      exact ⟨lrk_inj (hp ht) y1, y2, x2⟩
  obtain ⟨k1, k2, k3⟩ := key
  simp only [cw, List.nil_append] at k1
  obtain ⟨m1, m2⟩ := List.append_inj k1 (by simp; omega)
  obtain ⟨n1, n2⟩ := List.append_inj m1 (by simp; omega)
  exact ⟨List.reverse_inj.mp n1, List.reverse_inj.mp n2, List.reverse_inj.mp m2⟩
