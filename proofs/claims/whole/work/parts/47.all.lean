/-! ===== open by all ===== -/
theorem and4 (a0 a1 a2 a3 b0 b1 b2 b3 : Bool) : ∀ m, m < 5 → msk_ (b5_ a0 a1 a2 a3 false) m 0 0 &&& msk_ (b5_ b0 b1 b2 b3 false) m 0 0 = msk_ (b5_ (a0 && b0) (a1 && b1) (a2 && b2) (a3 && b3) false) m 0 0 := by
  cases a0 <;> cases a1 <;> cases a2 <;> cases a3 <;> cases b0 <;> cases b1 <;> cases b2 <;> cases b3 <;> decide +kernel
theorem b4_p {p : Nat → Bool} {k : Nat} (hk : k < 4) : p k = b5_ (p 0) (p 1) (p 2) (p 3) false k := by
  rcases (show k = 0 ∨ k = 1 ∨ k = 2 ∨ k = 3 by omega) with rfl | rfl | rfl | rfl <;> rfl
theorem msk_and {p q : Nat → Bool} {m : Nat} (hm : m ≤ 4) : msk_ p m 0 0 &&& msk_ q m 0 0 = msk_ (fun k => p k && q k) m 0 0 := by
  rw [msk_c (p := p) (q := b5_ (p 0) (p 1) (p 2) (p 3) false) m 0 0 (fun k _ h => b4_p (by omega)), msk_c (p := q) (q := b5_ (q 0) (q 1) (q 2) (q 3) false) m 0 0 (fun k _ h => b4_p (by omega)), msk_c (p := fun k => p k && q k) (q := b5_ (p 0 && q 0) (p 1 && q 1) (p 2 && q 2) (p 3 && q 3) false) m 0 0 (fun k _ h => b4_p (p := fun k => p k && q k) (by omega))]
  exact and4 _ _ _ _ _ _ _ _ m (by omega)
theorem full_ : ∀ m, m < 5 → ((1 : Int32) <<< (nI m &&& 31)) - 1 = msk_ (fun _ => true) m 0 0 := by decide +kernel
theorem oa30 {o i : Nat} {D : od_} {KK : hh_ → Option hh_} (ho : o = 39 ∨ o = 64) (K : oK_ D) (hi : i < d_m D) : ∀ (d s m : Nat) (h : hh_) (p : Nat → Bool), s + d = d_t D → oC_ o h D → h.1 21 i = msk_ p (d_p D) 0 0 → ff_X3_openByAll_30 o (nI i) KK (m + d + 1) (nI s) h = KK (hh_sI h 21 i (msk_ (fun y => p y && all_ (fun s => all_ (su_ D s i y 9) 4 0) d s) (d_p D) 0 0)) := by
  have m5 := K.1
  have t4 := K.2.1
  have p4 := K.2.2.1
  intro d
  induction d with
  | zero =>
    intro s m h p e C ex
    rw [ff_X3_openByAll_30, show Int32.toNatClampNeg 1 = 1 from rfl, C.2.1, if_pos (nI_le (by omega) (by omega)), sI_self]
    rw [ex]
    exact msk_c _ _ _ (fun k _ _ => by rw [all_, Bool.and_true])
  | succ d ih =>
    intro s m h p e C ex
    rw [show m + (d + 1) + 1 = (m + d + 1) + 1 by omega, ff_X3_openByAll_30, show Int32.toNatClampNeg 1 = 1 from rfl, C.2.1, if_neg (nI_ge (by omega) (by omega)), gd_n (by omega) (by decide), sps_C K C (by omega) hi e4_9, Option.bind_some, nI_clamp (by omega), ex, nI_1]
    unfold sms_
    rw [msk_and p4, ih (s + 1) m (hh_sI h 21 i (msk_ (fun k => p k && all_ (su_ D s i k 9) 4 0) (d_p D) 0 0)) (fun k => p k && all_ (su_ D s i k 9) 4 0) (by omega) (C.fr K (fun c x u => sI_ne (by omega))) sI_eq, sI_sI]
    refine congrArg KK (congrArg (hh_sI h 21 i) (msk_c _ _ _ (fun k _ _ => ?_)))
    rw [Bool.and_assoc]
    rfl
theorem my_a {D : od_} {w : Nat → Bool} {i : Nat} (hw : ∀ s, w s = true) : mym_ D w i = msk_ (fun y => true && all_ (fun s => all_ (su_ D s i y 9) 4 0) (d_t D) 0) (d_p D) 0 0 := by
  unfold mym_
  refine msk_c _ _ _ (fun p _ _ => ?_)
  rw [Bool.true_and]
  refine congrArg (fun f => all_ f (d_t D) 0) (funext fun s => ?_)
  unfold ok_p
  rw [hw, Bool.not_true, Bool.false_or]
theorem oa_C {o : Nat} {D : od_} {w : Nat → Bool} (ho : o = 39 ∨ o = 64) (K : oK_ D) (hw : ∀ s, w s = true) : ∀ (d i m : Nat) (h : hh_), i + d = d_m D → oC_ o h D → ff_X3_openByAll_2 o (m + d + 1) (nI i) h = some (fg_ h 21 0 i (d_m D) (mym_ D w)) := by
  have m5 := K.1
  have t4 := K.2.1
  have p4 := K.2.2.1
  obtain ⟨q, hq⟩ := fu_ (d_t D) (by omega)
  intro d
  induction d with
  | zero =>
    intro i m h e C
    have e : i = d_m D := by omega
    subst e
    rw [ff_X3_openByAll_2, show Int32.toNatClampNeg 0 = 0 from rfl, C.1, if_pos (nI_le (by omega) (by omega)), fg_0]
  | succ d ih =>
    intro i m h e C
    have C' : ∀ v, oC_ o (hh_sI h 21 i v) D := fun v => C.fr K (fun c x u => sI_ne (by omega))
    rw [show m + (d + 1) + 1 = (m + d + 1) + 1 by omega, ff_X3_openByAll_2, show Int32.toNatClampNeg 0 = 0 from rfl, C.1, if_neg (nI_ge (by omega) (by omega)), gd_n (by omega) (by decide), nI_clamp (by omega), show Int32.toNatClampNeg 2 = 2 from rfl, C.2.2.1, full_ _ (by omega), hq]
    refine (oa30 ho K (by omega) (d_t D) 0 q _ (fun _ => true) (by omega) (C' _) sI_eq).trans ?_
    rw [sI_sI, ← my_a (i := i) hw, nI_1, ih (i + 1) m (hh_sI h 21 i (mym_ D w i)) (by omega) (C' _)]
    have v := fg_s (h := h) (k := 21) (b := 0) (a := i) (n := d_m D) (g := mym_ D w) (by omega)
    rw [Nat.zero_add] at v
    rw [v]
