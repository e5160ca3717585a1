/-! orders of cars: ranks, and lists by rank; bits of predicates -/
/-- a strict order in which any two differ -/
def so_ok (R : Nat → Nat → Bool) : Prop := (∀ a, R a a = false) ∧ (∀ a b c, R a b = true → R b c = true → R a c = true) ∧ ∀ a b, a ≠ b → R a b = true ∨ R b a = true
def rk (R : Nat → Nat → Bool) (n c : Nat) : Nat := fa_cnt (fun x => R x c) n
def lvc (R : Nat → Nat → Bool) (n i : Nat) : Nat := fa_first (fun c => decide (rk R n c = i)) n
theorem cnt_lt {p q : Nat → Bool} : ∀ {n : Nat}, (∀ k, k < n → p k = true → q k = true) → ∀ {j : Nat}, j < n → p j = false → q j = true → fa_cnt p n < fa_cnt q n
  | 0, _, j, hj, _, _ => absurd hj (Nat.not_lt_zero j)
  | n + 1, h, j, hj, h1, h2 => by
    have le : ∀ m, m ≤ n + 1 → fa_cnt p m ≤ fa_cnt q m := by
      intro m
      induction m with
      | zero => intro _; exact Nat.le_refl 0
      | succ m ih =>
        intro hm
        have := ih (by omega)
        have hm' := h m (by omega)
        cases e : p m with
        | false => rw [fa_cnt_no e]; rw [fa_cnt]; omega
        | true => rw [fa_cnt_yes e, fa_cnt_yes (hm' e)]; omega
    rcases Nat.lt_or_ge j n with q9 | q9
    · have ih := cnt_lt (n := n) (fun k hk => h k (by omega)) q9 h1 h2
      have hn := h n (by omega)
      cases e : p n with
      | false => rw [fa_cnt_no e]; rw [fa_cnt]; omega
      | true => rw [fa_cnt_yes e, fa_cnt_yes (hn e)]; omega
    · have : j = n := by omega
      subst this
      have := le j (by omega)
      rw [fa_cnt_no h1, fa_cnt_yes h2]
      omega
theorem rk_mono {R : Nat → Nat → Bool} (h : so_ok R) {n a b : Nat} (ha : a < n) (hab : R a b = true) : rk R n a < rk R n b :=
  cnt_lt (fun k _ hk => h.2.1 k a b hk hab) ha (h.1 a) hab
theorem rk_lt {R : Nat → Nat → Bool} (h : so_ok R) {n c : Nat} (hc : c < n) : rk R n c < n := by
  have h1 : fa_cnt (fun x => R x c) n < fa_cnt (fun _ => true) n := cnt_lt (fun _ _ _ => rfl) hc (h.1 c) rfl
  have h2 : ∀ n, fa_cnt (fun _ => true) n = n := by
    intro n
    induction n with
    | zero => rfl
    | succ n ih => rw [fa_cnt_yes rfl, ih]
  rw [h2] at h1
  exact h1
theorem rk_inj {R : Nat → Nat → Bool} (h : so_ok R) {n a b : Nat} (ha : a < n) (hb : b < n) (e : rk R n a = rk R n b) : a = b := by
  refine Classical.byContradiction fun hne => ?_
  rcases h.2.2 a b hne with q | q
  · have := rk_mono h ha q; omega
  · have := rk_mono h hb q; omega
theorem lvc_spec {R : Nat → Nat → Bool} (h : so_ok R) {n i : Nat} (hi : i < n) : lvc R n i < n ∧ rk R n (lvc R n i) = i := by
  obtain ⟨c, hc, e⟩ := fb_onto (f := rk R n) (fun c hc => rk_lt h hc) (fun a b hab hb e => by have := rk_inj h (by omega) hb e; omega) hi
  have hlt : lvc R n i < n := by
    refine Classical.byContradiction fun hge => ?_
    have := fa_first_no (fun c => decide (rk R n c = i)) n c (by unfold lvc at hge; omega)
    simp [e] at this
  have := fa_first_yes (fun c => decide (rk R n c = i)) n hlt
  exact ⟨hlt, of_decide_eq_true this⟩
theorem lvc_rk {R : Nat → Nat → Bool} (h : so_ok R) {n c : Nat} (hc : c < n) : lvc R n (rk R n c) = c := by
  have := lvc_spec h (rk_lt h hc)
  exact rk_inj h this.1 hc this.2
def ordL (R : Nat → Nat → Bool) (n : Nat) : List Nat := (List.range n).map (lvc R n)
theorem ord_mem {R : Nat → Nat → Bool} (h : so_ok R) {n c : Nat} : c ∈ ordL R n ↔ c < n := by
  unfold ordL
  rw [List.mem_map]
  constructor
  · rintro ⟨i, hi, rfl⟩
    exact (lvc_spec h (List.mem_range.mp hi)).1
  · intro hc
    exact ⟨rk R n c, List.mem_range.mpr (rk_lt h hc), lvc_rk h hc⟩
/-- bits of a predicate -/
def bpr (p : Nat → Bool) : Nat → Nat
  | 0 => 0
  | n + 1 => bpr p n ||| (if p n then 2 ^ n else 0)
theorem tb_pow (k i : Nat) : (2 ^ k).testBit i = decide (k = i) := by
  rw [Nat.testBit_two_pow]
theorem bpr_bit (p : Nat → Bool) (i : Nat) : ∀ n, (bpr p n).testBit i = (decide (i < n) && p i)
  | 0 => by simp [bpr]
  | n + 1 => by
    rw [bpr, Nat.testBit_or, bpr_bit p i n]
    by_cases e : i = n
    · subst e
      cases h : p i <;> simp [tb_pow]
    · have : (if p n then 2 ^ n else 0).testBit i = false := by
        split
        · rw [tb_pow]; simp [Ne.symm e]
        · simp
      rw [this, Bool.or_false]
      congr 1
      exact decide_eq_decide.mpr (by omega)
theorem bpr_lt (p : Nat → Bool) : ∀ n, bpr p n < 2 ^ n
  | 0 => by simp [bpr]
  | n + 1 => by
    rw [bpr]
    have h1 := bpr_lt p n
    have h2 : (if p n then 2 ^ n else 0) < 2 ^ (n + 1) := by
      split
      · exact Nat.pow_lt_pow_right (by decide) (by omega)
      · exact Nat.two_pow_pos _
    exact Nat.or_lt_two_pow (Nat.lt_of_lt_of_le h1 (Nat.pow_le_pow_right (by decide) (by omega))) h2
theorem cnt_more (p : Nat → Bool) (n : Nat) : ∀ m, (∀ k, n ≤ k → k < n + m → p k = false) → fa_cnt p (n + m) = fa_cnt p n
  | 0, _ => rfl
  | m + 1, h => by
    rw [← Nat.add_assoc, fa_cnt_no (h (n + m) (by omega) (by omega))]
    exact cnt_more p n m (fun k h1 h2 => h k h1 (by omega))
theorem pcn_bpr (p : Nat → Bool) {n : Nat} (hn : n ≤ 12) : pcn (bpr p n) = fa_cnt p n := by
  unfold pcn
  have e : 12 = n + (12 - n) := by omega
  rw [e, cnt_more _ n (12 - n) (fun k h1 h2 => by rw [bpr_bit]; simp; omega)]
  exact fa_cnt_cong (fun k hk => by rw [bpr_bit]; simp [hk])
theorem bo_bit (i : Nat) : ∀ r : List Nat, (bo r).testBit i = decide (i ∈ r)
  | [] => by simp [bo]
  | c :: r => by
    rw [bo, Nat.testBit_or, bo_bit i r, tb_pow, ← Bool.decide_or]
    exact decide_eq_decide.mpr (by rw [List.mem_cons]; constructor <;> rintro (h | h) <;> simp [h])
theorem cnt_or {p q : Nat → Bool} : ∀ {n : Nat}, (∀ k, k < n → ¬ (p k = true ∧ q k = true)) → fa_cnt (fun k => p k || q k) n = fa_cnt p n + fa_cnt q n
  | 0, _ => rfl
  | n + 1, h => by
    have ih := cnt_or (p := p) (q := q) (n := n) (fun k hk => h k (by omega))
    have hn := h n (by omega)
    simp only [fa_cnt, ih]
    rcases Bool.eq_false_or_eq_true (p n) with e1 | e1 <;> rcases Bool.eq_false_or_eq_true (q n) with e2 | e2
    · exact absurd ⟨e1, e2⟩ hn
    · simp [e1, e2]; omega
    · simp [e1, e2]; omega
    · simp [e1, e2]
theorem cnt_one (c : Nat) (b : Bool) : ∀ {n : Nat}, c < n → fa_cnt (fun k => decide (k = c) && b) n = if b then 1 else 0
  | 0, h => absurd h (Nat.not_lt_zero c)
  | n + 1, h => by
    rw [fa_cnt]
    by_cases e : c = n
    · subst e
      have : fa_cnt (fun k => decide (k = c) && b) c = 0 := by
        have := fa_cnt_cong (p := fun k => decide (k = c) && b) (q := fun _ => false) (n := c) (fun k hk => by simp; omega)
        rw [this]
        clear this
        clear h
        induction c with
        | zero => rfl
        | succ c ih => rw [fa_cnt_no rfl, ih]
      rw [this]
      simp
    · rw [cnt_one c b (by omega)]
      have : (decide (n = c) && b) = false := by simp [Ne.symm e]
      rw [this]
      simp
theorem cnt_list {p : Nat → Bool} {n : Nat} : ∀ {r : List Nat}, r.Nodup → (∀ c ∈ r, c < n) → fa_cnt (fun i => decide (i ∈ r) && p i) n = r.countP p
  | [], _, hn0 => by
    have : fa_cnt (fun i => decide (i ∈ ([] : List Nat)) && p i) n = 0 := by
      clear hn0
      induction n with
      | zero => rfl
      | succ n ih => rw [fa_cnt_no (by simp), ih]
    rw [this]
    rfl
  | c :: r, hd, hn => by
    have hd' := List.nodup_cons.mp hd
    have ih := cnt_list (p := p) (n := n) (r := r) hd'.2 (fun x hx => hn x (List.mem_cons_of_mem _ hx))
    have e : fa_cnt (fun i => decide (i ∈ c :: r) && p i) n = fa_cnt (fun i => (decide (i = c) && p c) || (decide (i ∈ r) && p i)) n := fa_cnt_cong (fun k _ => by
      by_cases h : k = c
      · subst h
        simp
      · simp [h])
    rw [e, cnt_or (fun k _ hk => ?_), cnt_one c (p c) (hn c List.mem_cons_self), ih, List.countP_cons]
    · omega
    · simp only [Bool.and_eq_true, decide_eq_true_eq] at hk
      obtain ⟨⟨rfl, -⟩, h2, -⟩ := hk
      exact hd'.1 h2
theorem pcn_and {r : List Nat} {p : Nat → Bool} {n : Nat} (hd : r.Nodup) (hr : ∀ c ∈ r, c < n) (hn : n ≤ 12) : pcn (bo r &&& bpr p n) = r.countP p := by
  unfold pcn
  rw [← cnt_list (n := 12) hd (fun c hc => by have := hr c hc; omega)]
  refine fa_cnt_cong (fun k _ => ?_)
  rw [Nat.testBit_and, bo_bit, bpr_bit]
  by_cases h : k ∈ r
  · have := hr k h
    simp [h, this]
  · simp [h]
/-- who leaves sooner, who comes home sooner -/
def soon (Y : YD) (a b : Nat) : Bool := decide (Y 5 a < Y 5 b ∨ Y 5 a = Y 5 b ∧ a < b)
def homs (Y : YD) (a b : Nat) : Bool := decide (Y 5 b < Y 5 a ∨ Y 5 a = Y 5 b ∧ a < b)
theorem soon_ok (Y : YD) : so_ok (soon Y) := by
  refine ⟨fun a => by simp [soon], fun a b c h1 h2 => ?_, fun a b h => ?_⟩ <;> simp only [soon, decide_eq_true_eq] at *
  · omega
  · omega
theorem homs_ok (Y : YD) : so_ok (homs Y) := by
  refine ⟨fun a => by simp [homs], fun a b c h1 h2 => ?_, fun a b h => ?_⟩ <;> simp only [homs, decide_eq_true_eq] at *
  · omega
  · omega
