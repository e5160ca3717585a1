/-! The search: what is left to do at least, move by move -/
theorem bks_sp {Y : YD} {b : Nat} {P : Nat → List Nat} {k : Nat} {r : List Nat} (hk : k < 3) : bks Y b (sp P k r) + bk Y b (P k) = bks Y b P + bk Y b r := by
  have : k = 0 ∨ k = 1 ∨ k = 2 := by omega
  rcases this with e | e | e <;> subst e <;> simp [bks, sp] <;> omega
theorem bks_out {Y : YD} {P : Nat → List Nat} (hP : p_ok Y P) {k c : Nat} (hk : k < 3) (hc : (P k).head? = some c) (hf : fst9 Y P c) : bks Y 1 (sp P k (P k).tail) = bks Y 1 P := by
  have hs := bks_sp (Y := Y) (b := 1) (P := P) (k := k) (r := (P k).tail) hk
  have hd := p_nd hP hk
  cases hr : P k with
  | nil => rw [hr] at hc; cases hc
  | cons x t =>
    rw [hr] at hc hs hd
    cases hc
    rw [List.tail_cons, bk] at hs
    have h0 : t.countP (fun y => soon Y y c) = 0 := by
      rw [List.countP_eq_zero]
      intro y hy
      have hyc : y ≠ c := fun e => (List.nodup_cons.mp hd).1 (e ▸ hy)
      have := hf.2 y (inn_mem hk (by rw [hr]; exact List.mem_cons_of_mem _ hy)) hyc
      rw [soon_asym this]
      decide
    rw [h0] at hs
    rw [List.tail_cons]
    omega
theorem bks_lo {Y : YD} {P : Nat → List Nat} (hP : p_ok Y P) : bks Y 1 (lo Y P) = bks Y 1 P :=
  (lo_ind (Y := Y) (fun Q => bks Y 1 Q = bks Y 1 P) (fun Q k c hQ hk hc hf hi => (bks_out hQ hk hc hf).trans hi) hP rfl).2.1
theorem bks_mv {Y : YD} {P : Nat → List Nat} {a b f : Nat} (ha : a < 3) (hb : b < 3) (hf : (P a).head? = some f) : bks Y 1 P ≤ bks Y 1 (mvc P a b f) + 1 := by
  have h1 := bks_sp (Y := Y) (b := 1) (P := P) (k := a) (r := (P a).tail) ha
  have h2 := bks_sp (Y := Y) (b := 1) (P := sp P a (P a).tail) (k := b) (r := f :: sp P a (P a).tail b) hb
  unfold mvc
  cases hr : P a with
  | nil => rw [hr] at hf; cases hf
  | cons x t =>
    rw [hr, List.tail_cons] at h1 h2
    rw [bk] at h1
    rw [bk] at h2
    rw [List.tail_cons]
    omega
theorem ahd_eq {P : Nat → List Nat} {c k : Nat} (h : lnof P c = some k) : ahd P c = (P k).takeWhile (fun x => decide (x ≠ c)) := by
  unfold ahd
  rw [h]
theorem ahd_no {P : Nat → List Nat} {c : Nat} (h : lnof P c = none) : ahd P c = [] := by
  unfold ahd
  rw [h]
theorem ahd_nd {Y : YD} {P : Nat → List Nat} (hP : p_ok Y P) (c : Nat) : (ahd P c).Nodup := by
  cases h : lnof P c with
  | none => rw [ahd_no h]; exact List.nodup_nil
  | some k =>
    rw [ahd_eq h]
    exact List.Sublist.nodup (List.takeWhile_sublist _) (p_nd hP (lnof_lt h).1)
theorem lst_some {Y : YD} {P : Nat → List Nat} (hP : p_ok Y P) (c : Nat) : lst9 Y P (some c) = (ahd P c).length := pcn_bo (ahd_nd hP c) (ahd_lt hP.1 c)
theorem ahd_mv {Y : YD} (hY : y_ok Y) {P : Nat → List Nat} (hP : p_ok Y P) {a b f : Nat} (ha : a < 3) (hb : b < Y 0 0) (hab : a ≠ b) (hf : (P a).head? = some f) (c : Nat) : (ahd P c).length ≤ (ahd (mvc P a b f) c).length + 1 := by
  have h3 := hY.1
  have hQ := (p_mv hY hP ha hb hf).1
  cases h : lnof P c with
  | none => rw [ahd_no h]; exact Nat.zero_le _
  | some k =>
    obtain ⟨hk, hm⟩ := lnof_lt h
    rw [ahd_eq h]
    by_cases ka : k = a
    · subst ka
      cases hr : P k with
      | nil => rw [hr] at hm; cases hm
      | cons x t =>
        rw [hr] at hm
        rw [List.takeWhile_cons]
        by_cases e : x = c
        · rw [if_neg (by simp [e])]; exact Nat.zero_le _
        · rw [if_pos (by simp [e])]
          have hmt : c ∈ t := by
            rcases List.mem_cons.mp hm with q | q
            · exact absurd q.symm e
            · exact q
          have hl : lnof (mvc P k b f) c = some k := (lnof_iff hQ hk).mpr (by rw [mvc_a hab, hr]; exact hmt)
          rw [ahd_eq hl, mvc_a hab, hr, List.tail_cons, List.length_cons]
          exact Nat.le_refl _
    · by_cases kb : k = b
      · subst kb
        have hfc : f ≠ c := fun e => ka (p_uni hP hk ha hm (e ▸ List.mem_of_mem_head? hf))
        have hl : lnof (mvc P a k f) c = some k := (lnof_iff hQ hk).mpr (by rw [mvc_b hab]; exact List.mem_cons_of_mem _ hm)
        rw [ahd_eq hl, mvc_b hab, List.takeWhile_cons, if_pos (by simp [hfc]), List.length_cons]
        omega
      · have hl : lnof (mvc P a b f) c = some k := (lnof_iff hQ hk).mpr (by rw [mvc_o ka kb]; exact hm)
        rw [ahd_eq hl, mvc_o ka kb]
        exact Nat.le_succ _
theorem lst_mv {Y : YD} (hY : y_ok Y) {w : Nat} {g : Option Nat} {R P Q : Nat → List Nat} {x : Nat} (h : RSx Y w g R P) (hm : mvE Y w g P x Q) : lst9 Y P g ≤ lst9 Y Q g + 1 := by
  have h3 := hY.1
  have hQ := (RSx_mv hY h hm).1
  obtain ⟨a, b, f, ha, hb, hab, hf, hr, hx, e⟩ := hm
  have hp := (p_mv hY h.1 (show a < 3 by omega) hb hf).1
  cases g with
  | none =>
    have e : Q = lo Y (mvc P a b f) := e
    subst e
    show bks Y 1 P ≤ bks Y 1 (lo Y (mvc P a b f)) + 1
    rw [bks_lo hp]
    exact bks_mv (by omega) (by omega) hf
  | some c =>
    have e : Q = mvc P a b f := e
    subst e
    rw [lst_some h.1, lst_some hQ]
    exact ahd_mv hY h.1 (by omega) hb hab hf c
theorem nxt_ex {Y : YD} {P : Nat → List Nat} (hP : p_ok Y P) (h : es P ≠ 0) : ∃ c, nxt Y P = some c := by
  cases e : nxt Y P with
  | some c => exact ⟨c, rfl⟩
  | none =>
    refine absurd ((es_0 hP.1).mpr (Nat.eq_of_testBit_eq fun i => ?_)) h
    rw [bs_bit, Nat.zero_testBit]
    cases q : isin P i with
    | false => rfl
    | true =>
      unfold nxt at e
      rw [List.find?_eq_none] at e
      exact absurd q (e i ((ord_mem (soon_ok Y)).mpr (inn_lt hP (inn_isin.mp q))))
theorem bk_le_bks {Y : YD} {b : Nat} {P : Nat → List Nat} {k : Nat} (hk : k < 3) : bk Y b (P k) ≤ bks Y b P := by
  have : k = 0 ∨ k = 1 ∨ k = 2 := by omega
  rcases this with e | e | e <;> subst e <;> unfold bks <;> omega
theorem lst_1 {Y : YD} {w : Nat} {g : Option Nat} {R P : Nat → List Nat} (h : RSx Y w g R P) (hn : ¬ rch P g = true) : 1 ≤ lst9 Y P g := by
  cases g with
  | none =>
    have he : es P ≠ 0 := fun e => hn (by unfold rch; rw [decide_eq_true_eq]; exact e)
    obtain ⟨c, hc⟩ := nxt_ex h.1 he
    have hf := (nxt_fst h.1).mp hc
    obtain ⟨k, hk⟩ := inn_ex hf.1
    obtain ⟨hk3, hm⟩ := lnof_lt hk
    have hh := h.2.2.1 rfl c k hf hk
    have hb := bk_le_bks (Y := Y) (b := 1) (P := P) hk3
    show 1 ≤ bks Y 1 P
    cases hr : P k with
    | nil => rw [hr] at hm; cases hm
    | cons x t =>
      rw [hr] at hh hm hb
      have hxc : x ≠ c := fun e => hh (by rw [e]; rfl)
      have hct : c ∈ t := by
        rcases List.mem_cons.mp hm with q | q
        · exact absurd q.symm hxc
        · exact q
      have hs := hf.2 x (inn_mem hk3 (by rw [hr]; exact List.mem_cons_self)) hxc
      have hp : 0 < t.countP (fun y => soon Y y x) := List.countP_pos_iff.mpr ⟨c, hct, hs⟩
      rw [bk] at hb
      omega
  | some c =>
    rw [lst_some h.1]
    refine Nat.lt_of_not_le fun q => hn ?_
    have : ahd P c = [] := List.eq_nil_of_length_eq_zero (by omega)
    unfold rch
    dsimp only
    rw [this, decide_eq_true_eq]
    rfl
theorem lst_0 {Y : YD} (hY : y_ok Y) {w : Nat} {g : Option Nat} {R P : Nat → List Nat} (h : RSx Y w g R P) (hn : rch P g = true) : lst9 Y P g = 0 := by
  cases g with
  | none =>
    unfold rch at hn
    rw [decide_eq_true_eq] at hn
    have : P = nil3 := p_es hY h.1 (p_nil Y) (hn.trans es_nil.symm)
    rw [this]
    rfl
  | some c =>
    unfold rch at hn
    rw [decide_eq_true_eq] at hn
    unfold lst9
    dsimp only
    rw [hn]
    decide
theorem lst_le {Y : YD} {P : Nat → List Nat} (hP : p_ok Y P) (g : Option Nat) : lst9 Y P g ≤ 18 := by
  have a0 := hP.1.1.1
  have a1 := hP.1.2.1.1
  have a2 := hP.1.2.2.1
  cases g with
  | none =>
    have b0 := bk_le Y 1 (P 0)
    have b1 := bk_le Y 1 (P 1)
    have b2 := bk_le Y 1 (P 2)
    show bks Y 1 P ≤ 18
    unfold bks
    omega
  | some c =>
    have := fa_cnt_le (fun i => (bo (ahd P c)).testBit i) 12
    show pcn _ ≤ 18
    unfold pcn
    omega
