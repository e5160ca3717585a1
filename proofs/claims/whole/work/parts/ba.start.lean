/-! The class behind its constructor -/
theorem CL_start {S : qSt} (hI : ∀ f i j, f < 40 → f ≠ 12 → f ≠ 13 → q_I S f i j = if f = 3 ∧ j = 2 then 5 else if f = 1 ∧ i = 0 ∧ j = 6 then -1 else 0) (hL : ∀ r, q_L S 26 r 0 = 0) (hM : q_M S 0 0 1 = 0 ∧ q_M S 0 0 2 = 1 ∧ q_M S 0 0 3 = 0 ∧ q_M S 0 0 4 = 1 ∧ q_M S 0 0 5 = 0 ∧ q_M S 0 0 6 = 1) (hd : LC S 0 (defc.map tkI)) : CL S 0 a00 := by
  obtain ⟨m1, m2, m3, m4, m5, m6⟩ := hM
  have z : ∀ f i j, f < 40 → f ≠ 12 → f ≠ 13 → ¬ (f = 3 ∧ j = 2) → ¬ (f = 1 ∧ i = 0 ∧ j = 6) → q_I S f i j = 0 := fun f i j a b c d e => by rw [hI f i j a b c, if_neg d, if_neg e]
  refine ⟨⟨by rw [m1]; decide, by rw [m2]; decide, by rw [m1, m2]; decide, ?_⟩, ⟨by rw [m3]; decide, by rw [m4]; decide, by rw [m3, m4]; decide, ?_⟩, ⟨by rw [m5]; decide, by rw [m6]; decide, by rw [m5, m6]; decide, ?_⟩, ⟨?_, by decide, fun i hi => ?_⟩, ⟨?_, fun i hi => absurd hi (Nat.not_lt_zero _)⟩, ⟨by decide, ?_, fun k hk => ⟨by show 0 < 256; decide, ?_⟩⟩, ?_, ⟨?_, ?_, ?_⟩, ⟨?_, by decide, fun _ => 0, fun s hs => ⟨?_, by show 0 < 2 ^ 31; decide, by show 0 / 32768 ≤ 0; decide⟩⟩⟩
  · rw [m1]
    refine ⟨⟨?_, ?_, ?_, fun k hk => absurd hk (Nat.not_lt_zero _), fun k hk => absurd hk (Nat.not_lt_zero _)⟩, fun i hi => absurd hi (Nat.not_lt_zero _)⟩
    · rw [z 3 0 0 (by decide) (by decide) (by decide) (by decide) (by decide)]; rfl
    · rw [z 3 0 1 (by decide) (by decide) (by decide) (by decide) (by decide)]; rfl
    · rw [hI 3 0 2 (by decide) (by decide) (by decide), if_pos ⟨rfl, rfl⟩]; rfl
  · rw [m3]; exact hd
  · rw [m5]
    exact ⟨by rw [z 16 0 0 (by decide) (by decide) (by decide) (by decide) (by decide)]; rfl, by rw [z 16 0 1 (by decide) (by decide) (by decide) (by decide) (by decide)]; rfl, by decide, by decide⟩
  · rw [z 24 0 1 (by decide) (by decide) (by decide) (by decide) (by decide)]; rfl
  · refine ⟨?_, ?_, fun c hc => ?_⟩
    · rw [hL]; rfl
    · rw [z 26 _ 1 (by decide) (by decide) (by decide) (by omega) (by omega)]; rfl
    · rw [z 27 _ c (by decide) (by decide) (by decide) (by omega) (by omega)]; rfl
  · rw [z 0 0 12 (by decide) (by decide) (by decide) (by decide) (by decide)]; rfl
  · rw [z 1 0 1 (by decide) (by decide) (by decide) (by decide) (by decide)]; rfl
  · rw [z 2 0 k (by decide) (by decide) (by decide) (by omega) (by omega)]; rfl
  · rw [hI 1 0 6 (by decide) (by decide) (by decide), if_neg (by decide), if_pos ⟨rfl, rfl, rfl⟩]; rfl
  · rw [z 0 0 13 (by decide) (by decide) (by decide) (by decide) (by decide)]; rfl
  · rw [z 0 0 14 (by decide) (by decide) (by decide) (by decide) (by decide)]; rfl
  · rw [z 0 0 15 (by decide) (by decide) (by decide) (by decide) (by decide)]; rfl
  · rw [z 29 0 4 (by decide) (by decide) (by decide) (by decide) (by decide)]; rfl
  · rw [z 32 0 s (by decide) (by decide) (by decide) (by omega) (by omega)]; rfl
