/-! The search: how many stands there can be; what is left to do at least -/
theorem perm_sub : ∀ {A B : List Nat}, A.Nodup → (∀ x ∈ A, x ∈ B) → B.length ≤ A.length → A.Perm B
  | [], B, _, _, h => by
    have : B = [] := List.eq_nil_of_length_eq_zero (by simpa using h)
    rw [this]
  | a :: A, B, hd, hs, hl => by
    have ha : a ∈ B := hs a List.mem_cons_self
    have hn := List.nodup_cons.mp hd
    have hp := List.perm_cons_erase ha
    have hlen := hp.length_eq
    rw [List.length_cons] at hlen hl
    have ih := perm_sub (A := A) (B := B.erase a) hn.2 (fun x hx => (List.mem_erase_of_ne (show x ≠ a from fun e => hn.1 (by rw [← e]; exact hx))).mpr (hs x (List.mem_cons_of_mem _ hx))) (by omega)
    exact (List.Perm.cons a ih).trans hp.symm
theorem cw_mem {P : Nat → List Nat} {x : Nat} : x ∈ cw P 3 ↔ inn P x := by
  simp only [cw, List.nil_append, List.mem_append, List.mem_reverse]
  constructor
  · intro h
    rcases h with (h | h) | h
    · exact inn_mem (k := 0) (by decide) h
    · exact inn_mem (k := 1) (by decide) h
    · exact inn_mem (k := 2) (by decide) h
  · intro h
    have := inn_isin.mpr h
    unfold isin at this
    rw [decide_eq_true_eq] at this
    rcases this with h | h | h
    · exact Or.inl (Or.inl h)
    · exact Or.inl (Or.inr h)
    · exact Or.inr h
theorem nd_rev {r : List Nat} (h : r.Nodup) : r.reverse.Nodup := (List.reverse_perm r).nodup_iff.mpr h
theorem cw_nd {Y : YD} {P : Nat → List Nat} (hP : p_ok Y P) : (cw P 3).Nodup := by
  obtain ⟨h0, h1, h2, d1, d2, d3⟩ := nd3.mp hP.2.2.2
  simp only [cw, List.nil_append]
  refine List.nodup_append.mpr ⟨List.nodup_append.mpr ⟨nd_rev h0, nd_rev h1, fun a ha b hb e => ?_⟩, nd_rev h2, fun a ha b hb e => ?_⟩
  · subst e
    exact d1 a ⟨List.mem_reverse.mp ha, List.mem_reverse.mp hb⟩
  · subst e
    rcases List.mem_append.mp ha with q | q
    · exact d2 a ⟨List.mem_reverse.mp q, List.mem_reverse.mp hb⟩
    · exact d3 a ⟨List.mem_reverse.mp q, List.mem_reverse.mp hb⟩
/-- as many cars in: the same cars -/
theorem RSx_perm {Y : YD} {w : Nat} {g : Option Nat} {R P Q : Nat → List Nat} (hP : RSx Y w g R P) (hQ : RSx Y w g R Q) (ht : tot P = tot Q) : (cw P 3).Perm (cw Q 3) := by
  have sub : (∀ x, inn P x → inn Q x) ∨ (∀ x, inn Q x → inn P x) := by
    by_cases e : ∀ x, inn P x → inn Q x
    · exact Or.inl e
    · refine Or.inr fun y hy => ?_
      obtain ⟨x, hx⟩ := Classical.not_forall.mp e
      obtain ⟨hx1, hx2⟩ := Classical.not_imp.mp hx
      have hne : x ≠ y := fun q => hx2 (q ▸ hy)
      rcases (soon_ok Y).2.2 x y hne with q | q
      · exact hP.2.2.2.2.1 x y q hx1 (hQ.2.2.2.1 y hy)
      · exact absurd (hQ.2.2.2.2.1 y x q hy (hP.2.2.2.1 x hx1)) hx2
  rcases sub with h | h
  · exact perm_sub (cw_nd hP.1) (fun x hx => cw_mem.mpr (h x (cw_mem.mp hx))) (by rw [cw_len, cw_len]; omega)
  · exact (perm_sub (cw_nd hQ.1) (fun x hx => cw_mem.mpr (h x (cw_mem.mp hx))) (by rw [cw_len, cw_len]; omega)).symm
theorem p_ext {Y : YD} (hY : y_ok Y) {P Q : Nat → List Nat} (hP : p_ok Y P) (hQ : p_ok Y Q) (h : P 0 = Q 0 ∧ P 1 = Q 1 ∧ P 2 = Q 2) : P = Q := by
  have h3 := hY.1
  funext k
  by_cases e : k < 3
  · have : k = 0 ∨ k = 1 ∨ k = 2 := by omega
    rcases this with q | q | q <;> subst q
    · exact h.1
    · exact h.2.1
    · exact h.2.2
  · rw [hP.2.1 k (by omega), hQ.2.1 k (by omega)]
theorem p_es {Y : YD} (hY : y_ok Y) {P Q : Nat → List Nat} (hP : p_ok Y P) (hQ : p_ok Y Q) (h : es P = es Q) : P = Q := p_ext hY hP hQ ⟨es_row_inj hP.1 hQ.1 h (by decide), es_row_inj hP.1 hQ.1 h (by decide), es_row_inj hP.1 hQ.1 h (by decide)⟩
theorem plof_u {Y : YD} (hY : y_ok Y) {w : Nat} {g : Option Nat} {R P Q : Nat → List Nat} (hP : RSx Y w g R P) (hQ : RSx Y w g R Q) (h : plof P = plof Q) : P = Q := p_ext hY hP.1 hQ.1 (plof_inj (RSx_perm hP hQ) h)
/-- a stand's number, below 19690 -/
def ofs : Nat → Nat
  | 0 => 0
  | 1 => 25
  | 2 => 50
  | 3 => 100
  | 4 => 250
  | 5 => 850
  | 6 => 3850
  | _ => 19690
def ccs (t : Nat) : Nat := if t = 6 then 22 else 25
def ixp (t a b : Nat) : Nat := if t = 6 ∧ 19 < 5 * a + b then 5 * a + b - 1 else 5 * a + b
def pcl (P : Nat → List Nat) : Nat := ofs (tot P) + (lrk (cw P 3) * ccs (tot P) + ixp (tot P) (P 1).length (P 2).length)
theorem ofs_mono : ∀ a, a < 8 → ∀ b, b < 8 → a ≤ b → ofs a ≤ ofs b := by decide
theorem ofs_step : ∀ t, t < 7 → ofs t + fcc t * ccs t = ofs (t + 1) := by decide
theorem ixp_lt {t a b : Nat} (ha : a ≤ 4) (hb : b ≤ 4) (h : a + b ≤ t) : ixp t a b < ccs t := by
  unfold ixp ccs
  by_cases e : t = 6
  · subst e
    rw [if_pos rfl]
    by_cases q : 19 < 5 * a + b
    · rw [if_pos ⟨rfl, q⟩]; omega
    · rw [if_neg (fun z => q z.2)]; omega
  · rw [if_neg e, if_neg (fun z => e z.1)]
    omega
theorem ixp_inj {t a b c d : Nat} (ha : a ≤ 4) (hb : b ≤ 4) (hc : c ≤ 4) (hd : d ≤ 4) (h1 : a + b ≤ t) (h2 : c + d ≤ t) (h : ixp t a b = ixp t c d) : a = c ∧ b = d := by
  unfold ixp at h
  by_cases e : t = 6
  · subst e
    by_cases q : 19 < 5 * a + b
    · rw [if_pos ⟨rfl, q⟩] at h
      by_cases r : 19 < 5 * c + d
      · rw [if_pos ⟨rfl, r⟩] at h; omega
      · rw [if_neg (fun z => r z.2)] at h; omega
    · rw [if_neg (fun z => q z.2)] at h
      by_cases r : 19 < 5 * c + d
      · rw [if_pos ⟨rfl, r⟩] at h; omega
      · rw [if_neg (fun z => r z.2)] at h; omega
  · rw [if_neg (fun z => e z.1), if_neg (fun z => e z.1)] at h
    omega
theorem len_usd {Y : YD} (hY : y_ok Y) : ∀ {r : List Nat}, (∀ c ∈ r, c < Y 1 0) → r.length ≤ usd Y r
  | [], _ => Nat.zero_le _
  | c :: r, h => by
    have ih := len_usd hY (r := r) (fun x hx => h x (List.mem_cons_of_mem _ hx))
    have hc := h c List.mem_cons_self
    have := (hY.2.2.2.2 c hc).1
    rw [usd, List.length_cons, lgt, if_pos hc]
    omega
theorem RSx_len {Y : YD} (hY : y_ok Y) {w : Nat} {g : Option Nat} {R P : Nat → List Nat} (hP : RSx Y w g R P) : (P 1).length ≤ 4 ∧ (P 2).length ≤ 4 := by
  have a1 := len_usd hY (r := P 1) (fun c hc => hP.1.2.2.1 1 c hc)
  have a2 := len_usd hY (r := P 2) (fun c hc => hP.1.2.2.1 2 c hc)
  have b1 := hP.2.1 1 (by decide)
  have b2 := hP.2.1 2 (by decide)
  have c1 := plc_le hY 1
  have c2 := plc_le hY 2
  rw [if_neg (by decide)] at b1 b2
  omega
theorem pcl_rg {Y : YD} (hY : y_ok Y) {w : Nat} {g : Option Nat} {R P : Nat → List Nat} (hP : RSx Y w g R P) : ofs (tot P) ≤ pcl P ∧ pcl P < ofs (tot P + 1) := by
  have ht := p_tot hY hP.1
  have hl := RSx_len hY hP
  have hr := lrk_lt (cw P 3)
  rw [cw_len] at hr
  have hi := ixp_lt (t := tot P) hl.1 hl.2 (by unfold tot; omega)
  have := ofs_step (tot P) (by omega)
  have h2 := Nat.mul_le_mul_right (ccs (tot P)) (show lrk (cw P 3) + 1 ≤ fcc (tot P) from hr)
  rw [Nat.succ_mul] at h2
  unfold pcl
  omega
theorem pcl_lt {Y : YD} (hY : y_ok Y) {w : Nat} {g : Option Nat} {R P : Nat → List Nat} (hP : RSx Y w g R P) : pcl P < 19690 := by
  have ht := p_tot hY hP.1
  have := (pcl_rg hY hP).2
  have := ofs_mono (tot P + 1) (by omega) 7 (by decide) (by omega)
  have : ofs 7 = 19690 := rfl
  omega
theorem pcl_u {Y : YD} (hY : y_ok Y) {w : Nat} {g : Option Nat} {R P Q : Nat → List Nat} (hP : RSx Y w g R P) (hQ : RSx Y w g R Q) (h : pcl P = pcl Q) : P = Q := by
  have tp := p_tot hY hP.1
  have tq := p_tot hY hQ.1
  have rp := pcl_rg hY hP
  have rq := pcl_rg hY hQ
  have ht : tot P = tot Q := by
    rcases Nat.lt_trichotomy (tot P) (tot Q) with q | q | q
    · have := ofs_mono (tot P + 1) (by omega) (tot Q) (by omega) (by omega); omega
    · exact q
    · have := ofs_mono (tot Q + 1) (by omega) (tot P) (by omega) (by omega); omega
  have lp := RSx_len hY hP
  have lq := RSx_len hY hQ
  have sp1 : (P 1).length + (P 2).length ≤ tot P := by unfold tot; omega
  have sq1 : (Q 1).length + (Q 2).length ≤ tot P := by rw [ht]; unfold tot; omega
  unfold pcl at h
  rw [← ht] at h
  obtain ⟨e1, e2⟩ := dm_u (n := ccs (tot P)) (x := lrk (cw P 3)) (y := lrk (cw Q 3)) (a := ixp (tot P) (P 1).length (P 2).length) (b := ixp (tot P) (Q 1).length (Q 2).length) (by omega) (ixp_lt lp.1 lp.2 sp1) (ixp_lt lq.1 lq.2 sq1)
  have k1 := lrk_inj (RSx_perm hP hQ ht) e1
  obtain ⟨k2, k3⟩ := ixp_inj lp.1 lp.2 lq.1 lq.2 sp1 sq1 e2
  have k4 : (P 0).length = (Q 0).length := by unfold tot at ht; omega
  simp only [cw, List.nil_append] at k1
  obtain ⟨m1, m2⟩ := List.append_inj k1 (by simp; omega)
  obtain ⟨n1, n2⟩ := List.append_inj m1 (by simp; omega)
  exact p_ext hY hP.1 hQ.1 ⟨List.reverse_inj.mp n1, List.reverse_inj.mp n2, List.reverse_inj.mp m2⟩
