/-! Questions change nothing but the counts -/
theorem IV_sp_told {a : AS} {B : Nat} (h : IV a B) (x : Int32) : IV (sp_told a x).2 B := by
  unfold sp_told
  split <;> exact h
theorem IV_sp_lane {a : AS} {B : Nat} (h : IV a B) (x y : Int32) : IV (sp_lane a x y).2 B := IV_L h h
theorem IV_sp_on {a : AS} {B : Nat} (h : IV a B) (x y : Int32) : IV (sp_on a x y).2 B := IV_L h h
theorem IV_sp_car {a : AS} {B : Nat} (h : IV a B) (x y : Int32) : IV (sp_car a x y).2 B := IV_K h h
theorem IV_sp_ahead {a : AS} {B : Nat} (h : IV a B) (x : Int32) : IV (sp_ahead a x).2 B := IV_K h h
theorem IV_sp_goes {a : AS} {B : Nat} (h : IV a B) (x : Int32) : IV (sp_goes a x).2 B := IV_K h h
theorem IV_sp_secs {a : AS} {B : Nat} (h : IV a B) (x y : Int32) : IV (sp_secs a x y).2 B := IV_K h h
theorem IV_sp_frees {a : AS} {B : Nat} (h : IV a B) (x y : Int32) : IV (sp_frees a x y).2 B := IV_K h h
theorem IV_sp_corn {a : AS} {B : Nat} (h : IV a B) (x : Int32) : IV (sp_corn a x).2 B := IV_K h h
theorem IV_sp_sure {a : AS} {B : Nat} (h : IV a B) (x q y : Int32) : IV (sp_sure a x q y).2 B := IV_K h h
theorem IV_sp_pays {a : AS} {B : Nat} (h : IV a B) (x u n : Int32) : IV (sp_pays a x u n).2 B := IV_K h h
theorem IV_sp_morn {a : AS} {B : Nat} (h : IV a B) (y : Int32) : IV (sp_morn a y).2 B := IV_I h (fun _ => h)
theorem IV_sp_next {a : AS} {B : Nat} (h : IV a B) (y : Int32) : IV (sp_next a y).2 B := IV_I h (fun _ => h)
theorem IV_sp_leaks {a : AS} {B : Nat} (h : IV a B) (y : Int32) : IV (sp_leaks a y).2 B := IV_I h (fun _ => h)
theorem IV_sp_look {a : AS} {B : Nat} (h : IV a B) (y : Int32) : IV (sp_look a y).2 B := IV_I h (fun _ => h)
theorem IV_sp_even {a : AS} {B : Nat} (h : IV a B) (x y : Int32) : IV (sp_even a x y).2 B := IV_I h (fun _ => h)
theorem IV_sp_days {a : AS} {B : Nat} (h : IV a B) (x m q y : Int32) : IV (sp_days a x m q y).2 B := IV_I h (fun _ => h)
theorem IV_sp_would {a : AS} {B : Nat} (h : IV a B) (x1 x2 x3 x4 x5 x6 x7 x8 : Int32) : IV (sp_would a x1 x2 x3 x4 x5 x6 x7 x8).2 B := IV_I h (fun _ => h)
theorem IV_sp_most {a : AS} {B : Nat} (h : IV a B) (y : Int32) : IV (sp_most a y).2 B := IV_I h (fun _ => h)
theorem IV_sp_spare {a : AS} {B : Nat} (h : IV a B) (y : Int32) : IV (sp_spare a y).2 B := IV_I h (fun _ => h)
theorem IV_sp_fronts {a : AS} {B : Nat} (h : IV a B) (k v w y : Int32) : IV (sp_fronts a k v w y).2 B := IV_I h (fun _ => h)
theorem IV_sp_span {a : AS} {B : Nat} (h : IV a B) (x z m q y c : Int32) : IV (sp_span a x z m q y c).2 B := IV_I h (fun _ => h)
theorem IV_sp_stat {a : AS} {B : Nat} (h : IV a B) (x : Int32) : IV (sp_stat a x).2 B := h
theorem IV_sp_cnt {a : AS} {B : Nat} (h : IV a B) (x : Int32) : IV (sp_cnt a x).2 B := h
theorem IV_sp_fault {a : AS} {B : Nat} (h : IV a B) : IV (sp_fault a).2 B := h
/-- both objects in one store -/
def BS (S : qSt) (t : Nat) (a : AS) (B : Nat) : Prop := CL S t a ∧ RF S a ∧ IV a B
theorem BS_c {S S1 : qSt} {t t1 : Nat} {a a1 : AS} {B : Nat} (h : BS S t a B) (hC : CL S1 t1 a1) (hf : fr Fcl S S1) : CL S1 t1 a1 ∧ RF S1 a ∧ IV a B := ⟨hC, RF_fr h.2.1 hf, h.2.2⟩
theorem BS_r {S1 S2 : qSt} {t1 : Nat} {a1 : AS} {B1 : Nat} (hC : CL S1 t1 a1) (hR : RF S2 a1) (hI : IV a1 B1) (hf : fr Frf S1 S2) : BS S2 t1 a1 B1 := ⟨CL_fr hC (hf.mn (fun f _ z => z.1)), hR, hI⟩
