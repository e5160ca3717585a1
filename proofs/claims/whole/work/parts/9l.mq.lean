/-! The reference's search: its rows -/
abbrev FqR : Nat → Nat → Prop := fun f i => f = 69 ∨ f = 70 ∨ f = 71 ∨ (f = 65 ∧ (i = 2 ∨ i = 3)) ∨ f = 40
def KQ (S S' : qSt) : Prop := fr FqR S S' ∧ ∀ j, j ≠ 46 → q_I S' 40 0 j = q_I S 40 0 j
theorem KQ.rf {S : qSt} : KQ S S := ⟨fr.rf, fun _ _ => rfl⟩
theorem KQ.tr {S S1 S2 : qSt} (h : KQ S S1) (h2 : KQ S1 S2) : KQ S S2 := ⟨h.1.tr h2.1, fun j hj => (h2.2 j hj).trans (h.2 j hj)⟩
theorem KQ.my {S S1 : qSt} {Y : YD} (h : KQ S S1) (hM : MY S Y) : MY S1 Y := hM.fr h.1 (fun i q => by rcases q with q | q | q | q | q <;> omega) (fun i q => by rcases q with q | q | q | q | q <;> omega) (fun i q => by rcases q with q | q | q | q | q <;> omega) (fun i q => by rcases q with q | q | q | q | q <;> omega)
theorem KQ.m {S S1 S2 : qSt} {i : Nat} (h : KQ S S1) (hi : i = 2 ∨ i = 3) (hf : fr (Fm i) S1 S2) : KQ S S2 := by
  refine h.tr ⟨hf.mn (fun f k q => Or.inr (Or.inr (Or.inr (Or.inl ⟨q.1, by rw [q.2]; exact hi⟩)))), fun j _ => ?_⟩
  rw [(hf 40 0 (fun q => by have := q.1; omega)).1]
theorem KQ.w {S S1 : qSt} {f j : Nat} {z : Int32} (h : KQ S S1) (hf : f = 69 ∨ f = 70 ∨ f = 71) : KQ S (q_wI S1 f 0 j z) := by
  refine h.tr ⟨fr.wI fr.rf (by rcases hf with q | q | q <;> subst q <;> simp [FqR]), fun k _ => ?_⟩
  rw [q_I_wI, if_neg (fun q => by have := q.1; omega)]
theorem KQ.f {S S1 : qSt} {z : Int32} (h : KQ S S1) : KQ S (q_wI S1 40 0 46 z) := by
  refine h.tr ⟨fr.wI fr.rf (Or.inr (Or.inr (Or.inr (Or.inr rfl)))), fun k hk => ?_⟩
  rw [q_I_wI, if_neg (fun q => hk q.2.2)]
def MQu (S : qSt) (tl : Nat) (q : Nat → Nat → List Nat) (d m : Nat → Nat) : Prop := tl ≤ 40319 ∧ (∀ i, i < tl → q_I S 69 0 i = nI (numS (q i)) ∧ q_I S 70 0 (plof (q i)) = nI (d i) ∧ (0 < d i → q_I S 71 0 (plof (q i)) = nI (m i) ∧ m i < 128) ∧ d i ≤ i) ∧ ∀ p, p < 40500 → (∀ i, i < tl → plof (q i) ≠ p) → q_I S 70 0 p = -1
theorem MQu.cg {S S' : qSt} {tl : Nat} {q : Nat → Nat → List Nat} {d m : Nat → Nat} (h : MQu S tl q d m) (h1 : q_I S' 69 0 = q_I S 69 0) (h2 : q_I S' 70 0 = q_I S 70 0) (h3 : q_I S' 71 0 = q_I S 71 0) : MQu S' tl q d m := by
  unfold MQu
  rw [h1, h2, h3]
  exact h
theorem MQu.m {S S' : qSt} {tl i : Nat} {q : Nat → Nat → List Nat} {d m : Nat → Nat} (h : MQu S tl q d m) (hf : fr (Fm i) S S') : MQu S' tl q d m := h.cg (hf 69 0 (fun q => by have := q.1; omega)).1 (hf 70 0 (fun q => by have := q.1; omega)).1 (hf 71 0 (fun q => by have := q.1; omega)).1
theorem MQu.f {S : qSt} {tl : Nat} {q : Nat → Nat → List Nat} {d m : Nat → Nat} {z : Int32} (h : MQu S tl q d m) : MQu (q_wI S 40 0 46 z) tl q d m := h.cg rfl rfl rfl
theorem MQu_push {S : qSt} {tl hd b : Nat} {q : Nat → Nat → List Nat} {d m : Nat → Nat} {v : Nat → List Nat} (h : MQu S tl q d m) (hn : ∀ i, i < tl → plof (q i) ≠ plof v) (hh : hd < tl) (hb : b < 128) (ht : tl + 1 ≤ 40319) : MQu (q_wI (q_wI (q_wI S 70 0 (plof v) (nI (d hd + 1))) 71 0 (plof v) (nI b)) 69 0 tl (nI (numS v))) (tl + 1) (up q tl v) (up d tl (d hd + 1)) (up m tl b) := by
  obtain ⟨a1, a2, a3⟩ := h
  have hdh := (a2 hd hh).2.2.2
  refine ⟨ht, fun i hi => ?_, fun p hp hpn => ?_⟩
  · by_cases e : i = tl
    · rw [e, up_eq, up_eq, up_eq]
      refine ⟨?_, ?_, fun _ => ⟨?_, hb⟩, by omega⟩
      · rw [q_I_wI, if_pos ⟨rfl, rfl, rfl⟩]
      · rw [q_I_wI, if_neg (by omega), q_I_wI, if_neg (by omega), q_I_wI, if_pos ⟨rfl, rfl, rfl⟩]
      · rw [q_I_wI, if_neg (by omega), q_I_wI, if_pos ⟨rfl, rfl, rfl⟩]
    · rw [up_ne e, up_ne e, up_ne e]
      have hi' : i < tl := by omega
      have hne := hn i hi'
      obtain ⟨b1, b2, b3, b4⟩ := a2 i hi'
      refine ⟨?_, ?_, fun z => ⟨?_, (b3 z).2⟩, b4⟩
      · rw [q_I_wI, if_neg (fun q => e q.2.2), q_I_wI, if_neg (by omega), q_I_wI, if_neg (by omega)]; exact b1
      · rw [q_I_wI, if_neg (by omega), q_I_wI, if_neg (by omega), q_I_wI, if_neg (fun q => hne q.2.2)]; exact b2
      · rw [q_I_wI, if_neg (by omega), q_I_wI, if_neg (fun q => hne q.2.2), q_I_wI, if_neg (by omega)]; exact (b3 z).1
  · have h1 := hpn tl (by omega)
    rw [up_eq] at h1
    rw [q_I_wI, if_neg (by omega), q_I_wI, if_neg (by omega), q_I_wI, if_neg (fun q => h1 q.2.2.symm)]
    refine a3 p hp (fun i hi => ?_)
    have := hpn i (by omega)
    rwa [up_ne (by omega)] at this
theorem MQu_low {S : qSt} {tl j0 b : Nat} {q : Nat → Nat → List Nat} {d m : Nat → Nat} (h : MQu S tl q d m) (hi : ∀ i, i < tl → plof (q i) = plof (q j0) → i = j0) (hb : b < 128) : MQu (q_wI S 71 0 (plof (q j0)) (nI b)) tl q d (up m j0 b) := by
  obtain ⟨a1, a2, a3⟩ := h
  refine ⟨a1, fun i hi' => ?_, fun p hp hpn => ?_⟩
  · obtain ⟨b1, b2, b3, b4⟩ := a2 i hi'
    refine ⟨?_, ?_, fun z => ?_, b4⟩
    · rw [q_I_wI, if_neg (by omega)]; exact b1
    · rw [q_I_wI, if_neg (by omega)]; exact b2
    · by_cases e : i = j0
      · rw [e, up_eq, q_I_wI, if_pos ⟨rfl, rfl, rfl⟩]
        exact ⟨rfl, hb⟩
      · rw [up_ne e, q_I_wI, if_neg (fun q => e (hi i hi' q.2.2))]
        exact b3 z
  · rw [q_I_wI, if_neg (by omega)]
    exact a3 p hp hpn
theorem RW1_cp {S S' : qSt} {i k : Nat} {P : Nat → List Nat} (hP : st_ok P) (h : RW1 S i P) (hc : ∀ j, j < 29 → q_I S' 65 k j = q_I S 65 i j) : RW1 S' k P := fun l hl => by
  have h6 := (st_row hP hl).1
  refine ⟨by rw [hc l (by omega)]; exact (h l hl).1, fun j hj => ?_⟩
  rw [hc (3 + 6 * l + j) (by omega)]
  exact (h l hl).2 j hj
