/-! What both sides hold -/
/-- yard, law, lines, oil, works, positions, images, what they hold, tape, its bytes, the fault's place, steps refused, refused calls by their two kinds -/
abbrev AS : Type := YD × List Tok × Nat × Nat × Nat × (Nat → PV) × Nat × (Nat → Nat × (Nat → PV)) × (Nat → Nat) × Nat × Option Nat × Nat × Nat × Nat
abbrev aY (a : AS) : YD := a.1
abbrev aC (a : AS) : List Tok := a.2.1
abbrev aLn (a : AS) : Nat := a.2.2.1
abbrev aOi (a : AS) : Nat := a.2.2.2.1
abbrev aW (a : AS) : Nat := a.2.2.2.2.1
abbrev aH (a : AS) : Nat → PV := a.2.2.2.2.2.1
abbrev aNi (a : AS) : Nat := a.2.2.2.2.2.2.1
abbrev aIm (a : AS) : Nat → Nat × (Nat → PV) := a.2.2.2.2.2.2.2.1
abbrev aT (a : AS) : Nat → Nat := a.2.2.2.2.2.2.2.2.1
abbrev aHd (a : AS) : Nat := a.2.2.2.2.2.2.2.2.2.1
abbrev aFp (a : AS) : Option Nat := a.2.2.2.2.2.2.2.2.2.2.1
abbrev aRs (a : AS) : Nat := a.2.2.2.2.2.2.2.2.2.2.2.1
abbrev aRn (a : AS) : Nat := a.2.2.2.2.2.2.2.2.2.2.2.2.1
abbrev aRi (a : AS) : Nat := a.2.2.2.2.2.2.2.2.2.2.2.2.2
/-- now -/
abbrev aV (a : AS) : PV := aH a (aW a)
def mkA (Y : YD) (cd : List Tok) (ln oi w : Nat) (h : Nat → PV) (ni : Nat) (im : Nat → Nat × (Nat → PV)) (T : Nat → Nat) (hd : Nat) (fp : Option Nat) (rs rn ri : Nat) : AS := (Y, cd, ln, oi, w, h, ni, im, T, hd, fp, rs, rn, ri)
def aXi (a : AS) : AS := mkA (aY a) (aC a) (aLn a) (aOi a) (aW a) (aH a) (aNi a) (aIm a) (aT a) (aHd a) (aFp a) (aRs a) (aRn a) (aRi a + 1)
def aXn (a : AS) : AS := mkA (aY a) (aC a) (aLn a) (aOi a) (aW a) (aH a) (aNi a) (aIm a) (aT a) (aHd a) (aFp a) (aRs a) (aRn a + 1) (aRi a)
abbrev Fcl : Nat → Nat → Prop := fun f _ => f < 40
abbrev Frf : Nat → Nat → Prop := fun f _ => 40 ≤ f ∧ f < 80
def CL1 (S : qSt) (Y : YD) : Prop := q_M S 0 0 1 < 2 ∧ q_M S 0 0 2 < 2 ∧ q_M S 0 0 1 ≠ q_M S 0 0 2 ∧ YO S (q_M S 0 0 1) Y
def CL2 (S : qSt) (cd : List Tok) : Prop := q_M S 0 0 3 < 2 ∧ q_M S 0 0 4 < 2 ∧ q_M S 0 0 3 ≠ q_M S 0 0 4 ∧ LC S (q_M S 0 0 3) (cd.map tkI)
def CL3 (S : qSt) (ln oi : Nat) : Prop := q_M S 0 0 5 < 2 ∧ q_M S 0 0 6 < 2 ∧ q_M S 0 0 5 ≠ q_M S 0 0 6 ∧ LR S (q_M S 0 0 5) ln oi
def CL5 (S : qSt) (ni : Nat) (im : Nat → Nat × (Nat → PV)) : Prop := q_I S 0 0 12 = nI ni ∧ ∀ i, i < ni → HR S (1 + i) (im i).1 (im i).2
def CL8 (S : qSt) (rs rn ri : Nat) : Prop := q_I S 0 0 13 = nI rs ∧ q_I S 0 0 14 = nI rn ∧ q_I S 0 0 15 = nI ri
def CL (S : qSt) (t : Nat) (a : AS) : Prop := CL1 S (aY a) ∧ CL2 S (aC a) ∧ CL3 S (aLn a) (aOi a) ∧ HR S 0 (aW a) (aH a) ∧ CL5 S (aNi a) (aIm a) ∧ TP S (aT a) (aHd a) ∧ q_I S 1 0 6 = oI (aFp a) ∧ CL8 S (aRs a) (aRn a) (aRi a) ∧ TS S t
def RVf (f : Nat → Int32) (V : PV) : Prop := (∀ l, l < 3 → f l = nI (V.1 l).length ∧ ∀ k, k < (V.1 l).length → f (3 + 6 * l + k) = nI ((V.1 l).reverse.getD k 0)) ∧ (∀ c, c < 6 → f (21 + c) = nI (V.2.2 c)) ∧ f 27 = nI V.2.1 ∧ f 28 = nI (fb_sm V.2.2 6)
theorem RVf_RV {S : qSt} {i : Nat} {V : PV} : RV S i V ↔ RVf (q_I S 65 i) V := Iff.rfl
def MI (S : qSt) (i w : Nat) (h : Nat → PV) : Prop := q_I S 68 i 0 = nI w ∧ RVf (fun k => q_I S 68 i (1 + k)) (h w) ∧ ∀ j, j < w → RVf (fun k => q_I S 68 i (30 + 29 * j + k)) (h j)
def RF3 (S : qSt) (ln oi : Nat) : Prop := ∃ m w o, MSP S m w o ∧ SPM m w o ln oi ∧ m = pcn ln
def RF4 (S : qSt) (w : Nat) (h : Nat → PV) : Prop := q_I S 40 0 34 = nI w ∧ RV S 0 (h w) ∧ ∀ j, j < w → RV S (4 + j) (h j)
def RF5 (S : qSt) (ni : Nat) (im : Nat → Nat × (Nat → PV)) : Prop := q_I S 40 0 36 = nI ni ∧ ∀ i, i < ni → MI S i (im i).1 (im i).2
def RF6 (S : qSt) (T : Nat → Nat) (hd : Nat) : Prop := q_I S 40 0 1 = nI hd ∧ ∀ k, k < 600 → T k < 256 ∧ q_I S 41 0 k = nI (T k)
def RF8 (S : qSt) (rs rn ri : Nat) : Prop := q_I S 40 0 35 = nI rs ∧ q_I S 42 0 0 = nI rn ∧ q_I S 42 0 1 = nI ri
def RF (S : qSt) (a : AS) : Prop := MY S (aY a) ∧ MLW S (aC a) ∧ RF3 S (aLn a) (aOi a) ∧ RF4 S (aW a) (aH a) ∧ RF5 S (aNi a) (aIm a) ∧ RF6 S (aT a) (aHd a) ∧ q_I S 40 0 3 = oI (aFp a) ∧ RF8 S (aRs a) (aRn a) (aRi a) ∧ q_I S 40 0 47 = nI 0
def GV (Y : YD) (B : Nat) (V : PV) : Prop := p_ok Y V.1 ∧ fits9 Y V.1 ∧ ∀ c, c < 6 → V.2.2 c ≤ B
def OKA (a : AS) (B : Nat) : Prop := y_ok (aY a) ∧ lwf (aC a) ∧ aW a ≤ 16 ∧ (∀ j, j ≤ aW a → GV (aY a) B (aH a j)) ∧ aNi a ≤ 3 ∧ (∀ i, i < aNi a → (aIm a i).1 ≤ 16 ∧ ∀ j, j ≤ (aIm a i).1 → GV (aY a) B ((aIm a i).2 j)) ∧ aHd a ≤ 600 ∧ B ≤ 2 ^ 20
theorem GV.mono {Y : YD} {B B' : Nat} {V : PV} (h : GV Y B V) (hB : B ≤ B') : GV Y B' V := ⟨h.1, h.2.1, fun c hc => Nat.le_trans (h.2.2 c hc) hB⟩
theorem OKA.mono {a : AS} {B B' : Nat} (h : OKA a B) (hB : B ≤ B') (hB2 : B' ≤ 2 ^ 20) : OKA a B' := ⟨h.1, h.2.1, h.2.2.1, fun j hj => (h.2.2.2.1 j hj).mono hB, h.2.2.2.2.1, fun i hi => ⟨(h.2.2.2.2.2.1 i hi).1, fun j hj => ((h.2.2.2.2.2.1 i hi).2 j hj).mono hB⟩, h.2.2.2.2.2.2.1, hB2⟩
theorem OKA.v {a : AS} {B : Nat} (h : OKA a B) : GV (aY a) B (aV a) := h.2.2.2.1 (aW a) (Nat.le_refl _)
theorem OKA.xi {a : AS} {B : Nat} (h : OKA a B) : OKA (aXi a) B := h
theorem OKA.xn {a : AS} {B : Nat} (h : OKA a B) : OKA (aXn a) B := h
theorem TS.fr {F : Nat → Nat → Prop} {S S' : qSt} {t : Nat} (h : TS S t) (hf : fr F S S') (h1 : ¬ F 29 0) (h2 : ¬ F 32 0) : TS S' t := by
  obtain ⟨a, b, v, c⟩ := h
  refine ⟨by rw [(hf 29 0 h1).1]; exact a, b, v, fun s hs => ?_⟩
  rw [(hf 32 0 h2).1]
  exact c s hs
theorem LR.fr9 {F : Nat → Nat → Prop} {S S' : qSt} {i ln oi : Nat} (h : LR S i ln oi) (hf : fr F S S') (h1 : ¬ F 16 i) : LR S' i ln oi := by
  unfold LR at *
  rw [(hf 16 i h1).1]
  exact h
/-- what the reference changes is not the class's -/
theorem CL_fr {S S' : qSt} {t : Nat} {a : AS} (h : CL S t a) (hf : fr (fun f _ => 40 ≤ f) S S') : CL S' t a := by
  obtain ⟨h1, h2, h3, h4, h5, h6, h7, h8, h9⟩ := h
  have e0 := hf 0 0 (by omega)
  refine ⟨?_, ?_, ?_, h4.fr hf (by omega) (fun i _ => ⟨by omega, by omega⟩), ⟨?_, fun i hi => (h5.2 i hi).fr hf (by omega) (fun i _ => ⟨by omega, by omega⟩)⟩, h6.fr hf (by omega) (by omega), ?_, ?_, h9.fr hf (by omega) (by omega)⟩
  · unfold CL1
    rw [e0.2.2]
    exact ⟨h1.1, h1.2.1, h1.2.2.1, h1.2.2.2.fr hf (fun f _ _ q => by omega)⟩
  · unfold CL2
    rw [e0.2.2]
    exact ⟨h2.1, h2.2.1, h2.2.2.1, LC.fr h2.2.2.2 hf (by omega) (by omega)⟩
  · unfold CL3
    rw [e0.2.2]
    exact ⟨h3.1, h3.2.1, h3.2.2.1, h3.2.2.2.fr9 hf (by omega)⟩
  · rw [e0.1]; exact h5.1
  · rw [(hf 1 0 (by omega)).1]; exact h7
  · unfold CL8
    rw [e0.1]
    exact h8
theorem MSP.fr9 {F : Nat → Nat → Prop} {S S' : qSt} {m : Nat} {w o : Nat → Nat} (h : MSP S m w o) (hf : fr F S S') (h1 : ¬ F 40 0) (h2 : ∀ i, ¬ F 58 i) : MSP S' m w o := by
  obtain ⟨a, b, c⟩ := h
  refine ⟨by rw [(hf 40 0 h1).1]; exact a, b, fun z hz => ?_⟩
  rw [(hf 58 z (h2 z)).1]
  exact c z hz
theorem nF {f i : Nat} (h : 40 ≤ f) : ¬ Fcl f i := Nat.not_lt.mpr h
theorem RF_fr {S S' : qSt} {a : AS} (h : RF S a) (hf : fr Fcl S S') : RF S' a := by
  obtain ⟨h1, h2, h3, h4, h5, h6, h7, h8, h9⟩ := h
  have e0 := (hf 40 0 (by decide)).1
  refine ⟨h1.fr hf (fun _ => nF (by decide)) (fun _ => nF (by decide)) (fun _ => nF (by decide)) (fun _ => nF (by decide)), h2.fr hf (nF (by decide)) (fun _ => nF (by decide)), ?_, ⟨?_, h4.2.1.fr hf (nF (by decide)), fun j hj => (h4.2.2 j hj).fr hf (nF (by decide))⟩, ⟨?_, fun i hi => ?_⟩, ⟨?_, ?_⟩, ?_, ?_, ?_⟩
  · obtain ⟨m, w, o, k1, k2⟩ := h3
    exact ⟨m, w, o, k1.fr9 hf (nF (by decide)) (fun _ => nF (by decide)), k2⟩
  · rw [e0]; exact h4.1
  · rw [e0]; exact h5.1
  · unfold MI
    rw [(hf 68 i (nF (by decide))).1]
    exact h5.2 i hi
  · rw [e0]; exact h6.1
  · rw [(hf 41 0 (by decide)).1]; exact h6.2
  · rw [e0]; exact h7
  · unfold RF8
    rw [e0, (hf 42 0 (by decide)).1]
    exact h8
  · rw [e0]; exact h9
