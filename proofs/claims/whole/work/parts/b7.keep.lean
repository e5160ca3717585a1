/-! What every operation keeps of the abstract state -/
theorem stp_m {Y : YD} {cd : List Tok} {k a b c : Nat} {V V' : PV} (h : stp Y cd k a b c V = some V') (x : Nat) : V'.2.2 x ≤ V.2.2 x + 1 := by
  unfold stp at h
  split at h
  · split at h
    · cases h
    · cases h; exact Nat.le_succ _
  · split at h
    · cases h
    · split at h
      · cases h
      · cases h
        dsimp only
        split
        · rename_i e; rw [e]; exact Nat.le_refl _
        · exact Nat.le_succ _
  · split at h
    · cases h
    · cases h; exact Nat.le_succ _
  · split at h <;> first | (cases h; done) | (cases h; exact Nat.le_succ _) | skip
def wiv (Y : YD) (B : Nat) (s : WS) : Prop := wgd Y s ∧ fits9 Y s.2.2.2.1 ∧ ∀ c, c < 6 → s.2.2.2.2.2 c ≤ B + s.1
theorem wiv_stf {Y : YD} (hY : y_ok Y) {cd : List Tok} {B k a b c : Nat} (ho : sok Y k a b c) {s : WS} (h : wiv Y B s) : wiv Y B (stf Y cd k a b c s) := by
  refine ⟨wgd_stf hY ho h.1, ?_⟩
  unfold stf
  split
  · exact h.2
  · cases hs : stp Y cd k a b c s.2.2.2 with
    | none => exact ⟨h.2.1, fun c hc => by have := h.2.2 c hc; show s.2.2.2.2.2 c ≤ B + (s.1 + 1); omega⟩
    | some V => exact ⟨fits_stp h.2.1 hs, fun c hc => by have := h.2.2 c hc; have := stp_m hs c; show V.2.2 c ≤ B + (s.1 + 1); omega⟩
theorem wiv_itr {Y : YD} {B : Nat} {X : WF} (hX : ∀ s, wiv Y B s → wiv Y B (X s)) : ∀ N s, wiv Y B s → wiv Y B (itr X N s)
  | 0, _, h => h
  | N + 1, s, h => wiv_itr hX N (X s) (hX s h)
theorem wiv_agf {Y : YD} {B N : Nat} {X : WF} (hX : ∀ s, wiv Y B s → wiv Y B (X s)) {s : WS} (h : wiv Y B s) : wiv Y B (agf N X s) := by
  unfold agf
  split
  · exact h
  · refine wiv_itr hX N _ ⟨⟨by show s.1 + 1 ≤ 200; omega, h.1.2⟩, h.2.1, fun c hc => ?_⟩
    have := h.2.2 c hc
    show s.2.2.2.2.2 c ≤ B + (s.1 + 1)
    omega
theorem wiv_sbd {T : Nat → Nat} {n : Nat} {Y : YD} (hY : y_ok Y) {cd : List Tok} {e k B : Nat} (hl : (sbd T n Y cd e k).1.isLeft = true) {s : WS} (h : wiv Y B s) : wiv Y B ((sbd T n Y cd e k).2 s) := by
  match k with
  | 0 =>
    have a1 := pnm_v (show (pnm T n 0 (Y 0 0) (pnm T n 0 (Y 1 0) (.inl e))).isLeft = true from hl)
    have a2 := pnm_v a1.1
    exact wiv_stf hY ⟨fun _ => a2.2.2, fun _ => a1.2.2, fun q => by cases q⟩ h
  | 1 =>
    have a1 := pnm_v (show (pnm T n 0 (Y 0 0) (pnm T n 0 (Y 0 0) (pnm T n 0 (Y 1 0) (.inl e)))).isLeft = true from hl)
    have a2 := pnm_v a1.1
    have a3 := pnm_v a2.1
    exact wiv_stf hY ⟨fun _ => a3.2.2, fun _ => a2.2.2, fun _ => a1.2.2⟩ h
  | 2 =>
    have a1 := pnm_v (show (pnm T n 0 (Y 0 0) (.inl e)).isLeft = true from hl)
    exact wiv_stf hY ⟨fun q => by omega, fun _ => a1.2.2, fun q => by cases q⟩ h
  | m + 3 => exact wiv_stf hY ⟨fun q => by omega, fun q => by omega, fun q => by omega⟩ h
theorem wp_wiv {T : Nat → Nat} {n : Nat} {Y : YD} (hY : y_ok Y) {cd : List Tok} {B : Nat} : ∀ (f m o a b : Nat) (X : WF), wp T n Y cd f m o a = some (.inl b, X) → ∀ s, wiv Y B s → wiv Y B (X s) := by
  intro f
  induction f with
  | zero => intro m o a b X h; cases h
  | succ f ih =>
    intro m o a b X h s hs
    cases m with
    | zero =>
      by_cases he : sen T n o (tx T n isb a) = true
      · rw [wp_0e he] at h
        cases h
        exact hs
      · rw [wp_0s he] at h
        obtain ⟨b1, X1, e1, h2⟩ := andW_inl h
        obtain ⟨b2, X2, e2, h3⟩ := andW_inl h2
        obtain ⟨b3, X3, e3, h4⟩ := andW_inl h3
        cases h4
        exact ih _ _ _ _ _ e3 _ (ih _ _ _ _ _ e1 _ hs)
    | succ m =>
      have h : (match skd T (tx T n isb a) (tx T n isl (tx T n isb a)) with
        | none => some (.inr (1, tx T n isb a), id)
        | some k => if k = 4 then (if 6 ≤ o then some (.inr (3, tx T n isb a), id) else andW (some (psg T n 91 (pnm T n 0 31 (.inl (tx T n isl (tx T n isb a)))), id)) (fun b2 _ => andW (wp T n Y cd f 0 (o + 1) b2) (fun b3 X => some (psg T n 93 (.inl b3), agf (nmN T n (tx T n isl (tx T n isb a))) X)))) else some (sbd T n Y cd (tx T n isl (tx T n isb a)) k) : WR) = some (.inl b, X) := by
        rw [← h, wp]
        · rfl
        · intro q; omega
      split at h
      · cases h
      · rename_i k hk
        split at h
        · split at h
          · cases h
          · obtain ⟨b1, X1, e1, h2⟩ := andW_inl h
            obtain ⟨b2, X2, e2, h3⟩ := andW_inl h2
            have h3 : (psg T n 93 (.inl b2), agf (nmN T n (tx T n isl (tx T n isb a))) X2) = ((.inl b : PS), X) := Option.some.inj h3
            have hX : agf (nmN T n (tx T n isl (tx T n isb a))) X2 = X := congrArg Prod.snd h3
            rw [← hX]
            exact wiv_agf (fun s hs => ih _ _ _ _ _ e2 s hs) hs
        · have h : sbd T n Y cd (tx T n isl (tx T n isb a)) k = (.inl b, X) := Option.some.inj h
          have h1 := wiv_sbd (T := T) (n := n) (cd := cd) (e := tx T n isl (tx T n isb a)) (k := k) hY (by rw [h]; rfl) hs
          rw [h] at h1
          exact h1
theorem yrl_ok {T : Nat → Nat} {n : Nat} : ∀ (f k a : Nat) (Y : YD), y_ok Y → (yrl T n f k a Y).1.isLeft = true → y_ok (yrl T n f k a Y).2 := by
  intro f
  induction f with
  | zero => intro k a Y h _; exact h
  | succ f ih =>
    intro k a Y h hl
    rw [yrl] at hl ⊢
    split
    · exact h
    · rename_i hn
      rw [if_neg hn] at hl
      have hy := ycl_ok (T := T) (n := n) (k := k) (a := tx T n isb a) h
      cases hc : ycl T n k (tx T n isb a) Y with
      | mk s Y' =>
        rw [hc] at hl hy
        cases s with
        | inl b => exact ih _ _ _ (hy rfl) hl
        | inr q => cases hl
def IV (a : AS) (B : Nat) : Prop := OKA a B ∧ aH a 0 = V0 ∧ ∀ i, i < aNi a → (aIm a i).2 0 = V0
theorem IV.mono {a : AS} {B B' : Nat} (h : IV a B) (hB : B ≤ B') (hB2 : B' ≤ 2 ^ 20) : IV a B' := ⟨h.1.mono hB hB2, h.2⟩
theorem IV_I {a : AS} {B : Nat} {c : Prop} {r : SPR} (h : IV a B) (hr : c → IV r.2 B) : IV (spI a c r).2 B := by
  by_cases e : c
  · rw [spI_2 e]; exact hr e
  · rw [spI_1 e]; exact h
theorem IV_K {a : AS} {B : Nat} {x : Int32} {c : Prop} {r : SPR} (h : IV a B) (hr : IV r.2 B) : IV (spK a x c r).2 B := by
  by_cases e : isCr a x
  · by_cases e2 : c
    · rw [spK_3 e e2]; exact hr
    · rw [spK_2 e e2]; exact h
  · rw [spK_1 e]; exact h
theorem IV_L {a : AS} {B : Nat} {x : Int32} {c : Prop} {r : SPR} (h : IV a B) (hr : IV r.2 B) : IV (spL a x c r).2 B := by
  by_cases e : isLn a x
  · by_cases e2 : c
    · rw [spL_3 e e2]; exact hr
    · rw [spL_2 e e2]; exact h
  · rw [spL_1 e]; exact h
theorem IV_tx {a : AS} {B : Nat} {T : Nat → Nat} {hd : Nat} {fp : Option Nat} (h : IV a B) (hh : hd ≤ 600) : IV (aTx a T hd fp) B := ⟨⟨h.1.1, h.1.2.1, h.1.2.2.1, h.1.2.2.2.1, h.1.2.2.2.2.1, h.1.2.2.2.2.2.1, hh, h.1.2.2.2.2.2.2.2⟩, h.2⟩
theorem IV_feed {a : AS} {B : Nat} (h : IV a B) (x1 x2 x3 x4 x5 : Int32) : IV (sp_feed a x1 x2 x3 x4 x5).2 B := by
  unfold sp_feed
  split
  · rename_i e; exact IV_tx h e
  · exact h
theorem GV_0 {Y : YD} {B : Nat} : GV Y B V0 := ⟨p_nil Y, fits_nil Y, fun _ _ => Nat.zero_le _⟩
theorem IV_yard {a : AS} {B : Nat} (h : IV a B) (x : Int32) : IV (sp_yard a x).2 B := by
  refine IV_I h (fun _ => ?_)
  unfold sp_yard1
  split
  · rename_i b hb
    refine ⟨⟨yrl_ok _ _ _ _ Y0_ok (by rw [hb]; rfl), defc_wf, Nat.zero_le _, fun j hj => ?_, Nat.zero_le _, fun i hi => absurd hi (Nat.not_lt_zero _), Nat.zero_le _, h.1.2.2.2.2.2.2.2⟩, h.2.1, fun i hi => absurd hi (Nat.not_lt_zero _)⟩
    have hj0 : j = 0 := Nat.le_zero.mp hj
    subst hj0
    show GV _ B (aH a 0)
    rw [h.2.1]
    exact GV_0
  · exact IV_tx h (Nat.zero_le _)
theorem IV_law {a : AS} {B : Nat} (h : IV a B) (x : Int32) : IV (sp_law a x).2 B := by
  refine IV_I h (fun hc => ?_)
  obtain ⟨n, hn, rfl⟩ := i_rng (m := (min (aHd a) 150)) (by omega) hc.1 hc.2
  rw [i_cl (by omega)]
  obtain ⟨f, hlp⟩ := lpA_ex (aT a) n
  unfold sp_law1
  split
  · rename_i b hb
    cases hx : (lpA (aT a) n).1 with
    | inr q => rw [hx] at hb; cases hb
    | inl b1 =>
      have hw : lwf (lpA (aT a) n).2 := lp_lwf (T := aT a) (n := n) (f := f) (b := b1) (by omega) (by rw [hlp, ← hx])
      exact ⟨⟨h.1.1, hw, h.1.2.2.1, h.1.2.2.2.1, h.1.2.2.2.2.1, h.1.2.2.2.2.2.1, Nat.zero_le _, h.1.2.2.2.2.2.2.2⟩, h.2⟩
  · exact IV_tx h (Nat.zero_le _)
theorem IV_spots {a : AS} {B : Nat} (h : IV a B) (x : Int32) : IV (sp_spots a x).2 B := by
  refine IV_I h (fun _ => ?_)
  unfold sp_spots1
  split
  · exact ⟨⟨h.1.1, h.1.2.1, h.1.2.2.1, h.1.2.2.2.1, h.1.2.2.2.2.1, h.1.2.2.2.2.2.1, Nat.zero_le _, h.1.2.2.2.2.2.2.2⟩, h.2⟩
  · exact IV_tx h (Nat.zero_le _)
theorem IV_work {a : AS} {B : Nat} (h : IV a B) (hB : B + 200 ≤ 2 ^ 20) (x : Int32) : IV (sp_work a x).2 (B + 200) := by
  have h' := h.mono (Nat.le_add_right B 200) hB
  refine IV_I h' (fun _ => ?_)
  generalize x.toNatClampNeg = n
  unfold sp_work1
  split
  · exact IV_tx h' (Nat.zero_le _)
  · rename_i hw
    split
    · rename_i b hb
      obtain ⟨f, hwp⟩ := wpA_ex (aT a) n (aY a) (aC a)
      have gv := h.1.v
      have hX := wp_wiv (T := aT a) (n := n) (cd := aC a) (B := B) h.1.1 f 0 0 0 b (wpA (aT a) n (aY a) (aC a)).2 (by rw [hwp, ← hb]) (0, 0, 0, aV a) ⟨⟨Nat.zero_le _, gv.1⟩, gv.2.1, fun c hc => gv.2.2 c hc⟩
      generalize (wpA (aT a) n (aY a) (aC a)).2 (0, 0, 0, aV a) = X at hX ⊢
      have h16 := h.1.2.2.1
      refine ⟨⟨h.1.1, h.1.2.1, show aW a + 1 ≤ 16 by omega, fun j hj => ?_, h'.1.2.2.2.2.1, h'.1.2.2.2.2.2.1, Nat.zero_le _, hB⟩, ?_, h.2.2⟩
      · show GV (aY a) (B + 200) (if j = aW a + 1 then X.2.2.2 else aH a j)
        by_cases e : j = aW a + 1
        · rw [if_pos e]
          exact ⟨hX.1.2, hX.2.1, fun c hc => by have := hX.2.2 c hc; have := hX.1.1; omega⟩
        · rw [if_neg e]
          exact h'.1.2.2.2.1 j (by have hj : j ≤ aW a + 1 := hj; omega)
      · show (if 0 = aW a + 1 then X.2.2.2 else aH a 0) = V0
        rw [if_neg (by omega)]
        exact h.2.1
    · exact IV_tx h' (Nat.zero_le _)
theorem IV_undo {a : AS} {B : Nat} (h : IV a B) : IV (sp_undo a).2 B := by
  unfold sp_undo
  split
  · exact h
  · have h16 := h.1.2.2.1
    exact ⟨⟨h.1.1, h.1.2.1, show aW a - 1 ≤ 16 by omega, fun j hj => h.1.2.2.2.1 j (by have hj : j ≤ aW a - 1 := hj; omega), h.1.2.2.2.2.1, h.1.2.2.2.2.2.1, h.1.2.2.2.2.2.2.1, h.1.2.2.2.2.2.2.2⟩, h.2⟩
theorem IV_image {a : AS} {B : Nat} (h : IV a B) : IV (sp_image a).2 B := by
  unfold sp_image
  split
  · exact h
  · have h3 := h.1.2.2.2.2.1
    refine ⟨⟨h.1.1, h.1.2.1, h.1.2.2.1, h.1.2.2.2.1, show aNi a + 1 ≤ 3 by omega, fun i hi => ?_, h.1.2.2.2.2.2.2.1, h.1.2.2.2.2.2.2.2⟩, h.2.1, fun i hi => ?_⟩
    · have hi : i < aNi a + 1 := hi
      show (if i = aNi a then (aW a, aH a) else aIm a i).1 ≤ 16 ∧ ∀ j, j ≤ (if i = aNi a then (aW a, aH a) else aIm a i).1 → GV (aY a) B ((if i = aNi a then (aW a, aH a) else aIm a i).2 j)
      by_cases e : i = aNi a
      · rw [if_pos e]; exact ⟨h.1.2.2.1, h.1.2.2.2.1⟩
      · rw [if_neg e]; exact h.1.2.2.2.2.2.1 i (by omega)
    · have hi : i < aNi a + 1 := hi
      show (if i = aNi a then (aW a, aH a) else aIm a i).2 0 = V0
      by_cases e : i = aNi a
      · rw [if_pos e]; exact h.2.1
      · rw [if_neg e]; exact h.2.2 i (by omega)
theorem IV_rest {a : AS} {B : Nat} (h : IV a B) : IV (sp_rest a).2 B := by
  unfold sp_rest
  split
  · exact h
  · have h3 := h.1.2.2.2.2.1
    obtain ⟨o1, o2⟩ := h.1.2.2.2.2.2.1 (aNi a - 1) (by omega)
    exact ⟨⟨h.1.1, h.1.2.1, o1, o2, show aNi a - 1 ≤ 3 by omega, fun i hi => h.1.2.2.2.2.2.1 i (by have hi : i < aNi a - 1 := hi; omega), h.1.2.2.2.2.2.2.1, h.1.2.2.2.2.2.2.2⟩, h.2.2 (aNi a - 1) (by omega), fun i hi => h.2.2 i (by have hi : i < aNi a - 1 := hi; omega)⟩
