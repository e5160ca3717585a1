section QX
variable {mt : Nat → Option qM} {p : Program} {l : Launch} {e : Env} {R : Room} {s : State} {m : MethodId} {args : Array Value} {below : List Frame} {meth : Method} {c : Code} {Q : State → Prop} {G : qG} {cc : ByteArray} {nL : Nat} {own : String} {d : Nat}
variable {pc : Nat} {ls : qLs} {st : List qV} {S : qSt} {K : qK} {B : List Nat} {ret : Option FieldType} {rt : Nat} {post : Option qV → qSt → Prop} {mc ms : Nat}
theorem q_if_mono {a : Nat} {x y : Int32} {A A' B B' : Prop} (h1 : A → A') (h2 : B → B') (h : q_if a x y A B) : q_if a x y A' B' := by
  unfold q_if at *
  split at h <;> exact ⟨fun q => h1 (h.1 q), fun q => h2 (h.2 q)⟩
theorem q_sw_mono {x : Int32} {J J' : Nat → Prop} {a : Nat} (hJ : ∀ b, J b → J' b) : ∀ {w : List (Int32 × Nat)}, q_sw x J a w → q_sw x J' a w
  | [], h => hJ a h
  | (k, b) :: r, h => ⟨fun q => hJ b (h.1 q), fun q => q_sw_mono hJ (h.2 q)⟩
theorem q_call_mono {mt : Nat → Option qM} {l : Launch} {d k rt : Nat} {as : List qV} {S : qSt} {K K' : List qV → qSt → Prop} (hK : ∀ v S, K v S → K' v S) (h : q_call mt l d k rt as S K) : q_call mt l d k rt as S K' := by
  unfold q_call at *
  match rt, h with
  | 0, ⟨d', post, h1, h2, h3⟩ => exact ⟨d', post, h1, h2, fun S' q => hK _ _ (h3 S' q)⟩
  | 1, ⟨d', post, h1, h2, h3⟩ => exact ⟨d', post, h1, h2, fun x S' q => hK _ _ (h3 x S' q)⟩
  | 2, ⟨d', post, h1, h2, h3⟩ => exact ⟨d', post, h1, h2, fun x S' q => hK _ _ (h3 x S' q)⟩
  | n + 3, ⟨d', post, h1, h2, h3⟩ => exact ⟨d', post, h1, h2, fun x S' q => hK _ _ (h3 x S' q)⟩
theorem q_ldI_mono {o : Option qV} {k k' : qV → Prop} (hk : ∀ v, k v → k' v) (h : q_ldI o k) : q_ldI o k' := by
  rcases o with _ | (x | x | x) <;> first | exact h.elim | exact hk _ h
theorem q_ldL_mono {o : Option qV} {k k' : qV → Prop} (hk : ∀ v, k v → k' v) (h : q_ldL o k) : q_ldL o k' := by
  rcases o with _ | (x | x | x) <;> first | exact h.elim | exact hk _ h
theorem q_ldR_mono {o : Option qV} {k k' : qV → Prop} (hk : ∀ v, k v → k' v) (h : q_ldR o k) : q_ldR o k' := by
  rcases o with _ | (x | x | x) <;> first | exact h.elim | exact hk _ h
theorem q_inc_mono {o : Option qV} {z : Int32} {k k' : qV → Prop} (hk : ∀ v, k v → k' v) (h : q_inc o z k) : q_inc o z k' := by
  rcases o with _ | (x | x | x) <;> first | exact h.elim | exact hk _ h
set_option maxHeartbeats 4000000 in
theorem q_mono {mt : Nat → Option qM} {l : Launch} {d rt : Nat} {J J' : Nat → qLs → List qV → qSt → Prop} {RET : Option qV → qSt → Prop} {o : qO} {ls : qLs} {st : List qV} {S : qSt} {k k' : qLs → List qV → qSt → Prop} (hJ : ∀ b ls st S, J b ls st S → J' b ls st S) (hk : ∀ ls st S, k ls st S → k' ls st S)
    (h : q_op mt l d rt J RET o ls st S k) : q_op mt l d rt J' RET o ls st S k' := by
  unfold q_op at *
  split at h
  all_goals first
    | exact hk _ _ _ h
    | exact q_ldI_mono (fun _ q => hk _ _ _ q) h
    | exact q_ldL_mono (fun _ q => hk _ _ _ q) h
    | exact q_ldR_mono (fun _ q => hk _ _ _ q) h
    | exact q_inc_mono (fun _ q => hk _ _ _ q) h
    | exact hJ _ _ _ _ h
    | exact ⟨h.1, h.2.1, q_call_mono (fun _ _ q => hk _ _ _ q) h.2.2⟩
    | exact h
    | skip
  all_goals split at h
  all_goals first
    | exact h.elim
    | exact hk _ _ _ h
    | exact hJ _ _ _ _ h
    | exact ⟨h.1, hk _ _ _ h.2⟩
    | exact ⟨h.1, h.2.1, hk _ _ _ h.2.2⟩
    | exact q_if_mono (hJ _ _ _ _) (hk _ _ _) h
    | exact q_sw_mono (fun _ q => hJ _ _ _ _ q) h
    | exact ⟨h.1, h.2.1, h.2.2.1, q_call_mono (fun _ _ q => hk _ _ _ q) h.2.2.2⟩
    | exact ⟨h.1, h.2.1, h.2.2.1, h.2.2.2.1, h.2.2.2.2.1, h.2.2.2.2.2.1, h.2.2.2.2.2.2.1, h.2.2.2.2.2.2.2.1, hk _ _ _ h.2.2.2.2.2.2.2.2⟩
    | (obtain ⟨h1, h2, d', v, h3, h4, h5⟩ := h; exact ⟨h1, h2, d', v, h3, h4, hk _ _ _ h5⟩)
    | exact h
    | skip
  all_goals obtain ⟨h0, h⟩ := h
  all_goals refine ⟨h0, ?_⟩
  all_goals split at h
  all_goals first
    | exact h.elim
    | exact hk _ _ _ h
theorem q_step (Z : q_Sx mt p l e R s m args below meth c Q G cc nL own d K ret rt post mc ms) {t a b dd : Nat} {z : Int32} {zl : Int64} {w : List (Int32 × Nat)} {i : Instr} {len : Nat} (hd : decode cc pc = .ok (i, len)) (he : (i, len) ∈ q_exp K B len (t, pc, a, b, dd, z, zl, w)) (hc : q_ckx mt nL ret (t, pc, a, b, dd, z, zl, w) = true) (hrt : q_rtok rt ret = true)
    (h : q_op mt l d rt (fun b ls st S => q_At p l e R s m args below meth c Q G nL (q_bp B b) ls st S) post (t, pc, a, b, dd, z, zl, w) ls st S (fun ls st S => q_At p l e R s m args below meth c Q G nL (pc + len) ls st S)) (ht : t ≠ 50) : q_At p l e R s m args below meth c Q G nL pc ls st S := by
  match t, he, hc, h, ht with
  | 0, he, hc, h, ht => exact q_s0 Z hd he hc hrt h
  | 1, he, hc, h, ht => exact q_s1 Z hd he hc hrt h
  | 2, he, hc, h, ht => exact q_s2 Z hd he hc hrt h
  | 3, he, hc, h, ht => exact q_s3 Z hd he hc hrt h
  | 4, he, hc, h, ht => exact q_s4 Z hd he hc hrt h
  | 5, he, hc, h, ht => exact q_s5 Z hd he hc hrt h
  | 6, he, hc, h, ht => exact q_s6 Z hd he hc hrt h
  | 7, he, hc, h, ht => exact q_s7 Z hd he hc hrt h
  | 8, he, hc, h, ht => exact q_s8 Z hd he hc hrt h
  | 9, he, hc, h, ht => exact q_s9 Z hd he hc hrt h
  | 10, he, hc, h, ht => exact q_s10 Z hd he hc hrt h
  | 11, he, hc, h, ht => exact q_s11 Z hd he hc hrt h
  | 12, he, hc, h, ht => exact q_s12 Z hd he hc hrt h
  | 13, he, hc, h, ht => exact q_s13 Z hd he hc hrt h
  | 14, he, hc, h, ht => exact q_s14 Z hd he hc hrt h
  | 15, he, hc, h, ht => exact q_s15 Z hd he hc hrt h
  | 16, he, hc, h, ht => exact q_s16 Z hd he hc hrt h
  | 17, he, hc, h, ht => exact q_s17 Z hd he hc hrt h
  | 18, he, hc, h, ht => exact q_s18 Z hd he hc hrt h
  | 19, he, hc, h, ht => exact q_s19 Z hd he hc hrt h
  | 20, he, hc, h, ht => exact q_s20 Z hd he hc hrt h
  | 21, he, hc, h, ht => exact q_s21 Z hd he hc hrt h
  | 22, he, hc, h, ht => exact q_s22 Z hd he hc hrt h
  | 23, he, hc, h, ht => exact q_s23 Z hd he hc hrt h
  | 24, he, hc, h, ht => exact q_s24 Z hd he hc hrt h
  | 25, he, hc, h, ht => exact q_s25 Z hd he hc hrt h
  | 26, he, hc, h, ht => exact q_s26 Z hd he hc hrt h
  | 27, he, hc, h, ht => exact q_s27 Z hd he hc hrt h
  | 28, he, hc, h, ht => exact q_s28 Z hd he hc hrt h
  | 29, he, hc, h, ht => exact q_s29 Z hd he hc hrt h
  | 30, he, hc, h, ht => exact q_s30 Z hd he hc hrt h
  | 31, he, hc, h, ht => exact q_s31 Z hd he hc hrt h
  | 32, he, hc, h, ht => exact q_s32 Z hd he hc hrt h
  | 33, he, hc, h, ht => exact q_s33 Z hd he hc hrt h
  | 34, he, hc, h, ht => exact q_s34 Z hd he hc hrt h
  | 35, he, hc, h, ht => exact q_s35 Z hd he hc hrt h
  | 36, he, hc, h, ht => exact q_s36 Z hd he hc hrt h
  | 37, he, hc, h, ht => exact q_s37 Z hd he hc hrt h
  | 38, he, hc, h, ht => exact q_s38 Z hd he hc hrt h
  | 39, he, hc, h, ht => exact q_s39 Z hd he hc hrt h
  | 40, he, hc, h, ht => exact q_s40 Z hd he hc hrt h
  | 41, he, hc, h, ht => exact q_s41 Z hd he hc hrt h
  | 42, he, hc, h, ht => exact q_s42 Z hd he hc hrt h
  | 43, he, hc, h, ht => exact q_s43 Z hd he hc hrt h
  | 44, he, hc, h, ht => exact q_s44 Z hd he hc hrt h
  | 45, he, hc, h, ht => exact q_s45 Z hd he hc hrt h
  | 46, he, hc, h, ht => exact q_s46 Z hd he hc hrt h
  | 47, he, hc, h, ht => exact q_s47 Z hd he hc hrt h
  | 48, he, hc, h, ht => exact q_s48 Z hd he hc hrt h
  | 49, he, hc, h, ht => exact q_s49 Z hd he hc hrt h
  | 51, he, hc, h, ht => exact q_s51 Z hd he hc hrt h
  | 52, he, hc, h, ht => exact q_s52 Z hd he hc hrt h
  | 54, he, hc, h, ht => exact q_s54 Z hd he hc hrt h
  | 55, he, hc, h, ht => exact q_s55 Z hd he hc hrt h
  | 56, he, hc, h, ht => exact q_s56 Z hd he hc hrt h
  | 57, he, hc, h, ht => exact q_s57 Z hd he hc hrt h
  | 58, he, hc, h, ht => exact q_s58 Z hd he hc hrt h
  | 59, he, hc, h, ht => exact q_s59 Z hd he hc hrt h
  | 60, he, hc, h, ht => exact q_s60 Z hd he hc hrt h
  | 61, he, hc, h, ht => exact q_s61 Z hd he hc hrt h
  | 62, he, hc, h, ht => exact q_s62 Z hd he hc hrt h
  | 63, he, hc, h, ht => exact q_s63 Z hd he hc hrt h
  | 64, he, hc, h, ht => exact q_s64 Z hd he hc hrt h
  | 65, he, hc, h, ht => exact q_s65 Z hd he hc hrt h
  | 66, he, hc, h, ht => exact q_s66 Z hd he hc hrt h
  | 50, he, hc, h, ht => exact absurd rfl ht
  | 53, he, hc, h, ht => cases he
  | n + 67, he, hc, h, ht => cases he
theorem q_block (Z : q_Sx mt p l e R s m args below meth c Q G cc nL own d K ret rt post mc ms) (hrt : q_rtok rt ret = true) : ∀ {os : List qO} {pc : Nat} {ls : qLs} {st : List qV} {S : qSt}, q_ckb mt cc K B nL ret pc os = true →
    q_run mt l d rt (fun b ls st S => q_At p l e R s m args below meth c Q G nL (q_bp B b) ls st S) post os ls st S → q_At p l e R s m args below meth c Q G nL pc ls st S
  | [], pc, ls, st, S, hc, h => h.elim
  | (t, pc', a, b, dd, z, zl, w) :: os, pc, ls, st, S, hc, h => by
    unfold q_ckb at hc
    by_cases ht : t = 50
    · subst ht
      rw [if_pos rfl] at hc
      have hc : q_bp B a = pc := of_decide_eq_true hc
      subst hc
      exact h
    · rw [if_neg (show ¬ (t, pc', a, b, dd, z, zl, w).1 = 50 from ht)] at hc
      cases hd : decode cc pc with
      | error er => rw [hd] at hc; cases hc
      | ok q =>
        obtain ⟨i, len⟩ := q
        rw [hd] at hc
        simp only [Bool.and_eq_true, List.any_eq_true, decide_eq_true_eq] at hc
        obtain ⟨h1, ⟨x, hx1, hx2⟩, h3, h4⟩ := hc
        subst hx2
        subst h1
        refine q_step Z hd hx1 h3 hrt (t := t) (a := a) (b := b) (dd := dd) (z := z) (zl := zl) (w := w) ?_ ht
        have key : ∀ (k k' : qLs → List qV → qSt → Prop), (∀ ls st S, k ls st S → k' ls st S) → q_op mt l d rt (fun b ls st S => q_At p l e R s m args below meth c Q G nL (q_bp B b) ls st S) post (t, pc', a, b, dd, z, zl, w) ls st S k → q_op mt l d rt (fun b ls st S => q_At p l e R s m args below meth c Q G nL (q_bp B b) ls st S) post (t, pc', a, b, dd, z, zl, w) ls st S k' := fun k k' hkk => q_mono (fun _ _ _ _ h => h) hkk
        exact key _ _ (fun ls st S hr => q_block Z hrt h4 hr) h
end QX
