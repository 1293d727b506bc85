/-! ===== which POSTS are open to a HEAD ===== -/
theorem ob_C {o t : Nat} {D : od_} (ho : o = 39 ∨ o = 64) (K : oK_ D) (ht : t < d_t D) : ∀ (d i m : Nat) (h : hh_), i + d = d_m D → oC_ o h D → ff_X3_openByOne_2 o (nI t) (m + d + 1) (nI i) h = some (fg_ h 21 0 i (d_m D) (fun i => sms_ D t i 9)) := by
  have m5 := K.1
  intro d
  induction d with
  | zero =>
    intro i m h e C
    have e : i = d_m D := by omega
    subst e
    rw [ff_X3_openByOne_2, show Int32.toNatClampNeg 0 = 0 from rfl, C.1, if_pos (nI_le (by omega) (by omega)), fg_0]
  | succ d ih =>
    intro i m h e C
    rw [show m + (d + 1) + 1 = (m + d + 1) + 1 by omega, ff_X3_openByOne_2, show Int32.toNatClampNeg 0 = 0 from rfl, C.1, if_neg (nI_ge (by omega) (by omega)), sps_C K C ht (by omega) e4_9, Option.bind_some, gd_n (by omega) (by decide), nI_clamp (by omega), nI_1, ih (i + 1) m (hh_sI h 21 i (sms_ D t i 9)) (by omega) (C.fr K (fun c x q => sI_ne (by omega)))]
    have w := fg_s (h := h) (k := 21) (b := 0) (a := i) (n := d_m D) (g := fun i => sms_ D t i 9) (by omega)
    rw [Nat.zero_add] at w
    rw [w]
