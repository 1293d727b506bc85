/-! ===== the reference: which POSTS a HEAD may take ===== -/
/-- x1 names the THUMBS that w takes -/
def nm_ (D : od_) (x1 : Int32) (w : Nat → Bool) : Prop := (x1 = -9 ∧ ∀ t, w t = true) ∨ ∃ t, t < d_t D ∧ x1 = nI t ∧ ∀ s, w s = decide (s = t)
def ok_p (D : od_) (w : Nat → Bool) (i p s : Nat) : Bool := !w s || all_ (su_ D s i p 9) 4 0
theorem st2_2 {D : od_} {t i p : Nat} : (st2_ D t i p = 2) ↔ all_ (su_ D t i p 9) 4 0 = true := by
  unfold st2_
  cases all_ (su_ D t i p 9) 4 0 <;> cases all_ (ly_ D t i p) 4 0 <;> decide
theorem lm33 {x1 : Int32} {w : Nat → Bool} {i p : Nat} {h : hh_} {D : od_} {KK : Int32 → Option hh_} (K : oK_ D) (M : oM_ h D) (W : nm_ D x1 w) (hi : i < d_m D) (hp : p < d_p D) : ∀ (d s m : Nat) (b : Bool), s + d = d_t D → ff_X8_layMay_33 x1 (nI i) (nI p) h KK (m + d + 1) (bI_ b) (nI s) = KK (bI_ (b && all_ (ok_p D w i p) d s)) := by
  have t4 := K.2.1
  intro d
  induction d with
  | zero =>
    intro s m b e
    rw [ff_X8_layMay_33, M.2.1, if_pos (nI_le (by omega) (by omega)), all_, Bool.and_true]
  | succ d ih =>
    intro s m b e
    have hs : s < d_t D := by omega
    have i0 := ih (s + 1) m false (by omega)
    have i1 := ih (s + 1) m true (by omega)
    rw [Bool.false_and] at i0
    rw [Bool.true_and] at i1
    have i0' : ff_X8_layMay_33 x1 (nI i) (nI p) h KK (m + d + 1) 0 (nI (s + 1)) = KK (bI_ false) := i0
    have i1' : ff_X8_layMay_33 x1 (nI i) (nI p) h KK (m + d + 1) 1 (nI (s + 1)) = KK (bI_ (all_ (ok_p D w i p) d (s + 1))) := i1
    rw [show m + (d + 1) + 1 = (m + d + 1) + 1 by omega, ff_X8_layMay_33, M.2.1, if_neg (nI_ge (by omega) (by omega)), nI_1, i0', i1', all_]
    unfold ff_X8_layMay_59
    rw [sv_M K M hs hi hp, Option.bind_some]
    cases b with
    | false => rw [if_pos (show bI_ false = 0 from rfl), Bool.false_and]
    | true =>
      rw [if_neg (show ¬ bI_ true = 0 by decide), Bool.true_and]
      have ask : w s = true → (if st2_ D s i p = 2 then KK (bI_ (all_ (ok_p D w i p) d (s + 1))) else KK (bI_ false)) = KK (bI_ (ok_p D w i p s && all_ (ok_p D w i p) d (s + 1))) := by
        intro ws
        have e5 : ok_p D w i p s = all_ (su_ D s i p 9) 4 0 := by unfold ok_p; rw [ws, Bool.not_true, Bool.false_or]
        rw [e5]
        by_cases q : all_ (su_ D s i p 9) 4 0 = true
        · rw [if_pos (st2_2.mpr q), q, Bool.true_and]
        · rw [if_neg (fun v => q (st2_2.mp v)), Bool.eq_false_iff.mpr q, Bool.false_and]
      rcases W with ⟨e1, e2⟩ | ⟨t, ht, e1, e2⟩
      · rw [if_pos e1]
        exact ask (e2 s)
      · have e9 : ¬ x1 = -9 := by
          rw [e1]
          intro v
          have v2 := congrArg Int32.toInt v
          rw [nI_toInt (by omega), show (-9 : Int32).toInt = -9 from rfl] at v2
          omega
        rw [if_neg e9, e1]
        by_cases q : s = t
        · rw [if_pos (by rw [q])]
          exact ask (by rw [e2, decide_eq_true q])
        · rw [if_neg (fun v => q ((nI_eq (by omega) (by omega)).mp v))]
          have e5 : ok_p D w i p s = true := by unfold ok_p; rw [e2, decide_eq_false q, Bool.not_false, Bool.true_or]
          rw [e5, Bool.true_and]
/-- what a HEAD may take, as a mask -/
def mym_ (D : od_) (w : Nat → Bool) (i : Nat) : Int32 := msk_ (fun p => all_ (ok_p D w i p) (d_t D) 0) (d_p D) 0 0
theorem lm19 {x1 : Int32} {w : Nat → Bool} {i : Nat} {D : od_} {KK : hh_ → Option hh_} (K : oK_ D) (W : nm_ D x1 w) (hi : i < d_m D) : ∀ (d p m : Nat) (h : hh_) (x : Int32), p + d = d_p D → oM_ h D → h.1 111 i = x → ff_X8_layMay_19 x1 (nI i) KK (m + d + 1) (nI p) h = KK (hh_sI h 111 i (msk_ (fun p => all_ (ok_p D w i p) (d_t D) 0) d p x)) := by
  have m5 := K.1
  have t4 := K.2.1
  have p4 := K.2.2.1
  obtain ⟨q, hq⟩ := fu_ (d_t D) (by omega)
  intro d
  induction d with
  | zero =>
    intro p m h x e M ex
    rw [ff_X8_layMay_19, M.2.2.1, if_pos (nI_le (by omega) (by omega)), msk_, sI_self ex]
  | succ d ih =>
    intro p m h x e M ex
    rw [show m + (d + 1) + 1 = (m + d + 1) + 1 by omega, ff_X8_layMay_19, M.2.2.1, if_neg (nI_ge (by omega) (by omega)), hq]
    refine (lm33 K M W hi (by omega) (d_t D) 0 q true (by omega)).trans ?_
    have M' : ∀ v, oM_ (hh_sI h 111 i v) D := fun v => M.fr (fun c j u => sI_ne (by omega))
    rw [Bool.true_and, gd_n (by omega) (by decide), nI_clamp (by omega), ex, or_0, nI_1, ih _ _ _ _ (by omega) (M' _) sI_eq, ih _ _ _ _ (by omega) (M' _) sI_eq, sI_sI, sI_sI, msk_]
    cases all_ (ok_p D w i p) (d_t D) 0 <;> rfl
theorem lm2 {x1 : Int32} {w : Nat → Bool} {D : od_} (K : oK_ D) (W : nm_ D x1 w) : ∀ (d i m : Nat) (h : hh_), i + d = d_m D → oM_ h D → ff_X8_layMay_2 x1 (m + d + 1) (nI i) h = some (fg_ h 111 0 i (d_m D) (mym_ D w)) := by
  have m5 := K.1
  have p4 := K.2.2.1
  obtain ⟨q, hq⟩ := fu_ (d_p D) (by omega)
  intro d
  induction d with
  | zero =>
    intro i m h e M
    have e : i = d_m D := by omega
    subst e
    rw [ff_X8_layMay_2, M.1, if_pos (nI_le (by omega) (by omega)), fg_0]
  | succ d ih =>
    intro i m h e M
    have M' : ∀ v, oM_ (hh_sI h 111 i v) D := fun v => M.fr (fun c j u => sI_ne (by omega))
    rw [show m + (d + 1) + 1 = (m + d + 1) + 1 by omega, ff_X8_layMay_2, M.1, if_neg (nI_ge (by omega) (by omega)), gd_n (by omega) (by decide), nI_clamp (by omega), hq]
    refine (lm19 K W (by omega) (d_p D) 0 q _ 0 (by omega) (M' 0) sI_eq).trans ?_
    rw [sI_sI, nI_1, ih (i + 1) m _ (by omega) (M' _)]
    have v := fg_s (h := h) (k := 111) (b := 0) (a := i) (n := d_m D) (g := mym_ D w) (by omega)
    rw [Nat.zero_add] at v
    exact congrArg some v
