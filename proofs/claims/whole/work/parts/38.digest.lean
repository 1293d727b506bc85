/-! ===== digest ===== -/
def mx64_ (g : Nat → Int32) : Nat → Nat → Int64 → Int64
  | 0, _, x => x
  | d + 1, j, x => mx64_ g d (j + 1) (31 * x + Int32.toInt64 (g j))
def mo64_ (G : Nat → Nat → Int32) (w : Nat) : Nat → Nat → Int64 → Int64
  | 0, _, x => x
  | d + 1, i, x => mo64_ G w d (i + 1) (mx64_ (G i) w 0 x)
theorem mx_a {g : Nat → Int32} : ∀ (d e j : Nat) (x : Int64), mx64_ g (d + e) j x = mx64_ g e (j + d) (mx64_ g d j x) := by
  intro d
  induction d with
  | zero => intro e j x; rw [Nat.zero_add]; rfl
  | succ d ih =>
    intro e j x
    rw [show d + 1 + e = (d + e) + 1 by omega, mx64_, ih, mx64_, show j + 1 + d = j + (d + 1) by omega]
theorem mx_c {g g' : Nat → Int32} : ∀ (d j j' : Nat) (x : Int64), (∀ i, i < d → g (j + i) = g' (j' + i)) → mx64_ g d j x = mx64_ g' d j' x := by
  intro d
  induction d with
  | zero => intro j j' x _; rfl
  | succ d ih =>
    intro j j' x e
    have e0 := e 0 (by omega)
    rw [Nat.add_zero, Nat.add_zero] at e0
    rw [mx64_, mx64_, e0]
    exact ih _ _ _ (fun i hi => by rw [show j + 1 + i = j + (i + 1) by omega, show j' + 1 + i = j' + (i + 1) by omega]; exact e (i + 1) (by omega))
theorem mx_lin {g : Nat → Int32} {G : Nat → Nat → Int32} {w N : Nat} (e : ∀ i, i < N → ∀ j, j < w → g (w * i + j) = G i j) : ∀ (d i : Nat) (x : Int64), i + d = N → mx64_ g (w * d) (w * i) x = mo64_ G w d i x := by
  intro d
  induction d with
  | zero => intro i x _; rfl
  | succ d ih =>
    intro i x q
    rw [Nat.mul_succ, Nat.add_comm (w * d) w, mx_a, mo64_, ← Nat.mul_succ, ih (i + 1) _ (by omega), mx_c w (w * i) 0 x (g' := G i) (fun y hy => by rw [Nat.zero_add]; exact e i (by omega) y hy)]
def hL_ (h : hh_) (v : Int64) : hh_ := hh_sL h 98 30 v
theorem hL_m {h : hh_} {v : Int64} {a : Int32} : ff_X8_mix a (hL_ h v) = hL_ h (31 * v + Int32.toInt64 a) := by
  unfold ff_X8_mix hL_
  rw [sL_eq]
  refine hh_ext (fun _ _ => rfl) (fun k j => ?_) rfl
  by_cases e : k = 98
  · subst e
    by_cases e2 : j = 30
    · subst e2
      rw [sL_eq, sL_eq]
    · rw [sL_nj e2, sL_nj e2, sL_nj e2]
  · rw [sL_ne e, sL_ne e, sL_ne e]
def gH_ (D : od_) (i j : Nat) : Int32 := nI (if j = 5 then bt_ D i else d_H D i j)
def gT_ (D : od_) (i j : Nat) : Int32 := nI (d_T D i j)
def gP_ (D : od_) (i j : Nat) : Int32 := nI (d_P D i j)
def gR_ (h : hh_) (r : Nat) (x : Int64) : Int64 := mx64_ (fun i => h.1 (4 + r) i) (Int32.toNatClampNeg (h.1 10 r)) 0 (31 * x + Int32.toInt64 (h.1 10 r))
def gX_ (h : hh_) (r : Nat) (x : Int64) : Int64 := mx64_ (fun i => h.1 (13 + r) i) (Int32.toNatClampNeg (h.1 17 r)) 0 (31 * x + Int32.toInt64 (h.1 17 r))
def f64_ (f : Nat → Int64 → Int64) : Nat → Nat → Int64 → Int64
  | 0, _, x => x
  | d + 1, j, x => f64_ f d (j + 1) (f j x)
/-! the class -/
theorem dC6 {h : hh_} {KK : Int64 → Option Int64} {g : Nat → Int32} (e : ∀ c, c < 9 → ff_X7_count (nI c) h = some (g c)) : ∀ (d j m : Nat) (x : Int64), j + d = 9 → ff_X7_digest_6 h KK (m + d + 1) x (nI j) = KK (mx64_ g d j x) := by
  intro d
  induction d with
  | zero =>
    intro j m x q
    have q : j = 9 := by omega
    subst q
    rw [ff_X7_digest_6, if_pos (by decide)]; rfl
  | succ d ih =>
    intro j m x q
    rw [show m + (d + 1) + 1 = (m + d + 1) + 1 by omega, ff_X7_digest_6, if_neg (show ¬ (8 : Int32) < nI j from nI_nlt (a := 8) (by omega) (by omega)), e j (by omega), Option.bind_some, nI_1, ih _ _ _ (by omega)]; rfl
theorem dC15 {o i : Nat} {h : hh_} {D : od_} {KK : Int64 → Option Int64} (K : oK_ D) (C : oC_ o h D) (hi : i < d_m D) : ∀ (d j m : Nat) (x : Int64), j + d = 6 → ff_X2_mix_15 o (nI i) h KK (m + d + 1) x (nI j) = KK (mx64_ (gH_ D i) d j x) := by
  intro d
  induction d with
  | zero =>
    intro j m x q
    have q : j = 6 := by omega
    subst q
    rw [ff_X2_mix_15, if_pos (by decide)]; rfl
  | succ d ih =>
    intro j m x q
    rw [show m + (d + 1) + 1 = (m + d + 1) + 1 by omega, ff_X2_mix_15, if_neg (show ¬ (5 : Int32) < nI j from nI_nlt (a := 5) (by omega) (by omega)), oh_C K C hi (by omega), Option.bind_some, nI_1, ih _ _ _ (by omega)]; rfl
theorem dC2 {o : Nat} {h : hh_} {D : od_} {KK : Int64 → Option Int64} (K : oK_ D) (C : oC_ o h D) : ∀ (d i m : Nat) (x : Int64), i + d = d_m D → ff_X2_mix_2 o h KK (m + d + 1) x (nI i) = KK (mo64_ (gH_ D) 6 d i x) := by
  have m5 := K.1
  obtain ⟨k, hk⟩ := fu_ 6 (by decide)
  intro d
  induction d with
  | zero =>
    intro i m x q
    rw [ff_X2_mix_2, show Int32.toNatClampNeg 0 = 0 from rfl, C.1, if_pos (nI_le (by omega) (by omega))]; rfl
  | succ d ih =>
    intro i m x q
    rw [show m + (d + 1) + 1 = (m + d + 1) + 1 by omega, ff_X2_mix_2, show Int32.toNatClampNeg 0 = 0 from rfl, C.1, if_neg (nI_ge (by omega) (by omega)), hk]
    refine (dC15 K C (by omega) 6 0 k x rfl).trans ?_
    rw [nI_1, ih _ _ _ (by omega), mo64_]
theorem dC63 {o i : Nat} {h : hh_} {D : od_} {KK : Int64 → Option Int64} (K : oK_ D) (C : oC_ o h D) (hi : i < d_t D) : ∀ (d j m : Nat) (x : Int64), j + d = 3 → ff_X2_mix_63 o (nI i) h KK (m + d + 1) x (nI j) = KK (mx64_ (gT_ D i) d j x) := by
  have t4 := K.2.1
  intro d
  induction d with
  | zero =>
    intro j m x q
    have q : j = 3 := by omega
    subst q
    rw [ff_X2_mix_63, if_pos (by decide)]; rfl
  | succ d ih =>
    intro j m x q
    rw [show m + (d + 1) + 1 = (m + d + 1) + 1 by omega, ff_X2_mix_63, if_neg (show ¬ (2 : Int32) < nI j from nI_nlt (a := 2) (by omega) (by omega)), gd_n (by omega) (by decide), gd_n (by omega) (by decide), nI_clamp (show i < 2 ^ 31 by omega), nI_clamp (show j < 2 ^ 31 by omega), C.2.2.2.2.1 i hi j (by omega), nI_1, ih _ _ _ (by omega)]; rfl
theorem dC50 {o : Nat} {h : hh_} {D : od_} {KK : Int64 → Option Int64} (K : oK_ D) (C : oC_ o h D) : ∀ (d i m : Nat) (x : Int64), i + d = d_t D → ff_X2_mix_50 o h KK (m + d + 1) x (nI i) = KK (mo64_ (gT_ D) 3 d i x) := by
  have t4 := K.2.1
  obtain ⟨k, hk⟩ := fu_ 3 (by decide)
  intro d
  induction d with
  | zero =>
    intro i m x q
    rw [ff_X2_mix_50, show Int32.toNatClampNeg 1 = 1 from rfl, C.2.1, if_pos (nI_le (by omega) (by omega))]; rfl
  | succ d ih =>
    intro i m x q
    rw [show m + (d + 1) + 1 = (m + d + 1) + 1 by omega, ff_X2_mix_50, show Int32.toNatClampNeg 1 = 1 from rfl, C.2.1, if_neg (nI_ge (by omega) (by omega)), hk]
    refine (dC63 K C (by omega) 3 0 k x rfl).trans ?_
    rw [nI_1, ih _ _ _ (by omega), mo64_]
theorem dC113 {o i : Nat} {h : hh_} {D : od_} {KK : Int64 → Option Int64} (K : oK_ D) (C : oC_ o h D) (hi : i < d_p D) : ∀ (d j m : Nat) (x : Int64), j + d = 5 → ff_X2_mix_113 o (nI i) h KK (m + d + 1) x (nI j) = KK (mx64_ (gP_ D i) d j x) := by
  have p4 := K.2.2.1
  intro d
  induction d with
  | zero =>
    intro j m x q
    have q : j = 5 := by omega
    subst q
    rw [ff_X2_mix_113, if_pos (by decide)]; rfl
  | succ d ih =>
    intro j m x q
    rw [show m + (d + 1) + 1 = (m + d + 1) + 1 by omega, ff_X2_mix_113, if_neg (show ¬ (4 : Int32) < nI j from nI_nlt (a := 4) (by omega) (by omega)), gd_n (by omega) (by decide), gd_n (by omega) (by decide), nI_clamp (show i < 2 ^ 31 by omega), nI_clamp (show j < 2 ^ 31 by omega), C.2.2.2.2.2 i hi j (by omega), nI_1, ih _ _ _ (by omega)]; rfl
theorem dC100 {o : Nat} {h : hh_} {D : od_} (K : oK_ D) (C : oC_ o h D) : ∀ (d i m : Nat) (x : Int64), i + d = d_p D → ff_X2_mix_100 o h (m + d + 1) x (nI i) = some (mo64_ (gP_ D) 5 d i x) := by
  have p4 := K.2.2.1
  obtain ⟨k, hk⟩ := fu_ 5 (by decide)
  intro d
  induction d with
  | zero =>
    intro i m x q
    rw [ff_X2_mix_100, show Int32.toNatClampNeg 2 = 2 from rfl, C.2.2.1, if_pos (nI_le (by omega) (by omega))]; rfl
  | succ d ih =>
    intro i m x q
    rw [show m + (d + 1) + 1 = (m + d + 1) + 1 by omega, ff_X2_mix_100, show Int32.toNatClampNeg 2 = 2 from rfl, C.2.2.1, if_neg (nI_ge (by omega) (by omega)), hk]
    refine (dC113 K C (by omega) 5 0 k x rfl).trans ?_
    rw [nI_1, ih _ _ _ (by omega), mo64_]
def dgo_ (D : od_) (x : Int64) : Int64 := mo64_ (gP_ D) 5 (d_p D) 0 (mo64_ (gT_ D) 3 (d_t D) 0 (mo64_ (gH_ D) 6 (d_m D) 0 x))
theorem dCo {o : Nat} {h : hh_} {D : od_} (K : oK_ D) (C : oC_ o h D) (x : Int64) : ff_X2_mix o x h = some (dgo_ D x) := by
  have m5 := K.1
  have t4 := K.2.1
  have p4 := K.2.2.1
  obtain ⟨k1, hk1⟩ := fu_ (d_m D) (by omega)
  obtain ⟨k2, hk2⟩ := fu_ (d_t D) (by omega)
  obtain ⟨k3, hk3⟩ := fu_ (d_p D) (by omega)
  have w1 := dC2 (KK := fun u4 => ff_X2_mix_50 o h (fun u8 => ff_X2_mix_100 o h FU_ u8 0) FU_ u4 0) K C _ 0 k1 x (Nat.zero_add _)
  have w2 := dC50 (KK := fun u8 => ff_X2_mix_100 o h FU_ u8 0) K C _ 0 k2 (mo64_ (gH_ D) 6 (d_m D) 0 x) (Nat.zero_add _)
  have w3 := dC100 K C _ 0 k3 (mo64_ (gT_ D) 3 (d_t D) 0 (mo64_ (gH_ D) 6 (d_m D) 0 x)) (Nat.zero_add _)
  rw [← hk1] at w1
  rw [← hk2] at w2
  rw [← hk3] at w3
  exact w1.trans (w2.trans w3)
/-- sizes -/
theorem szR {h : hh_} {r : Nat} (hr : r < 6) (Q : rw_ h 10 4 100 101 40 r) : ∃ n, n ≤ 40 ∧ Int32.toNatClampNeg (h.1 10 r) = n ∧ (∀ i, i ≤ n → (h.1 10 r ≤ nI i ↔ i = n)) ∧ (∀ i, i ≤ n → (h.1 100 r ≤ nI i ↔ i = n)) ∧ (if 0 ≤ h.1 100 r then h.1 100 r else -1) = h.1 10 r ∧ ∀ i, i < n → h.1 (4 + r) i = h.1 101 (40 * r + i) := by
  rcases Q with ⟨a, b⟩ | ⟨n, hn, a, b, c⟩
  · refine ⟨0, by omega, by rw [a]; rfl, fun i hi => ?_, fun i hi => ?_, by rw [a, b]; rfl, fun i hi => by omega⟩
    · have : i = 0 := by omega
      subst this
      rw [a]
      exact ⟨fun _ => rfl, fun _ => by decide⟩
    · have : i = 0 := by omega
      subst this
      rw [b]
      exact ⟨fun _ => rfl, fun _ => by decide⟩
  · refine ⟨n, hn, by rw [a]; exact nI_clamp (by omega), fun i hi => ?_, fun i hi => ?_, by rw [a, b, if_pos (nI_pos' (by omega))], c⟩
    · rw [a, nI_leI (by omega) (by omega)]; omega
    · rw [b, nI_leI (by omega) (by omega)]; omega
theorem szX {h : hh_} {r : Nat} (hr : r < 4) (Q : rw_ h 17 13 103 104 80 r) : ∃ n, n ≤ 80 ∧ Int32.toNatClampNeg (h.1 17 r) = n ∧ (∀ i, i ≤ n → (h.1 17 r ≤ nI i ↔ i = n)) ∧ (∀ i, i ≤ n → (h.1 103 r ≤ nI i ↔ i = n)) ∧ (if 0 ≤ h.1 103 r then h.1 103 r else -1) = h.1 17 r ∧ ∀ i, i < n → h.1 (13 + r) i = h.1 104 (80 * r + i) := by
  rcases Q with ⟨a, b⟩ | ⟨n, hn, a, b, c⟩
  · refine ⟨0, by omega, by rw [a]; rfl, fun i hi => ?_, fun i hi => ?_, by rw [a, b]; rfl, fun i hi => by omega⟩
    · have : i = 0 := by omega
      subst this
      rw [a]
      exact ⟨fun _ => rfl, fun _ => by decide⟩
    · have : i = 0 := by omega
      subst this
      rw [b]
      exact ⟨fun _ => rfl, fun _ => by decide⟩
  · refine ⟨n, hn, by rw [a]; exact nI_clamp (by omega), fun i hi => ?_, fun i hi => ?_, by rw [a, b, if_pos (nI_pos' (by omega))], c⟩
    · rw [a, nI_leI (by omega) (by omega)]; omega
    · rw [b, nI_leI (by omega) (by omega)]; omega
theorem dCr28 {h : hh_} {r n : Nat} {KK : Int64 → Option Int64} (hr : r < 6) (hn : n ≤ 40) (e : ∀ i, i ≤ n → (h.1 10 r ≤ nI i ↔ i = n)) : ∀ (d i m : Nat) (x : Int64), i + d = n → ff_X5r_mix_28 (nI r) h KK (m + d + 1) x (nI i) = KK (mx64_ (fun i => h.1 (4 + r) i) d i x) := by
  intro d
  induction d with
  | zero =>
    intro i m x q
    rw [ff_X5r_mix_28, gd_n hr (by decide), nI_clamp (by omega), if_pos ((e i (by omega)).mpr (by omega))]; rfl
  | succ d ih =>
    intro i m x q
    rw [show m + (d + 1) + 1 = (m + d + 1) + 1 by omega, ff_X5r_mix_28, gd_n hr (by decide), nI_clamp (show r < 2 ^ 31 by omega), if_neg (fun w => by have := (e i (by omega)).mp w; omega), gd_n (by omega) (by decide), nI_clamp (by omega), nI_1, ih _ _ _ (by omega)]; rfl
theorem dCr {h : hh_} (R : iR_ h) : ∀ (d r m : Nat) (x : Int64), r + d = 6 → ff_X5r_mix_2 h (m + d + 1) x (nI r) = some (f64_ (gR_ h) d r x) := by
  intro d
  induction d with
  | zero =>
    intro r m x q
    have q : r = 6 := by omega
    subst q
    rw [ff_X5r_mix_2, if_pos (by decide)]; rfl
  | succ d ih =>
    intro r m x q
    obtain ⟨n, hn, e1, e2, e3, e4, e5⟩ := szR (by omega) (R r (by omega))
    obtain ⟨k, hk⟩ := fu_ n (by omega)
    rw [show m + (d + 1) + 1 = (m + d + 1) + 1 by omega, ff_X5r_mix_2, if_neg (show ¬ (6 : Int32) ≤ nI r from nI_ge (b := 6) (by omega) (by omega)), gd_n (by omega) (by decide), nI_clamp (by omega), hk]
    refine (dCr28 (by omega) hn e2 n 0 k _ (by omega)).trans ?_
    rw [nI_1, ih _ _ _ (by omega), f64_]
    unfold gR_
    rw [e1]
theorem dCx28 {h : hh_} {r n : Nat} {KK : Int64 → Option Int64} (hr : r < 4) (hn : n ≤ 80) (e : ∀ i, i ≤ n → (h.1 17 r ≤ nI i ↔ i = n)) : ∀ (d i m : Nat) (x : Int64), i + d = n → ff_X5t_mix_28 (nI r) h KK (m + d + 1) x (nI i) = KK (mx64_ (fun i => h.1 (13 + r) i) d i x) := by
  intro d
  induction d with
  | zero =>
    intro i m x q
    rw [ff_X5t_mix_28, gd_n hr (by decide), nI_clamp (by omega), if_pos ((e i (by omega)).mpr (by omega))]; rfl
  | succ d ih =>
    intro i m x q
    rw [show m + (d + 1) + 1 = (m + d + 1) + 1 by omega, ff_X5t_mix_28, gd_n hr (by decide), nI_clamp (show r < 2 ^ 31 by omega), if_neg (fun w => by have := (e i (by omega)).mp w; omega), gd_n (by omega) (by decide), nI_clamp (by omega), nI_1, ih _ _ _ (by omega)]; rfl
theorem dCx {h : hh_} (X : iX_ h) : ∀ (d r m : Nat) (x : Int64), r + d = 4 → ff_X5t_mix_2 h (m + d + 1) x (nI r) = some (f64_ (gX_ h) d r x) := by
  intro d
  induction d with
  | zero =>
    intro r m x q
    have q : r = 4 := by omega
    subst q
    rw [ff_X5t_mix_2, if_pos (by decide)]; rfl
  | succ d ih =>
    intro r m x q
    obtain ⟨n, hn, e1, e2, e3, e4, e5⟩ := szX (by omega) (X r (by omega))
    obtain ⟨k, hk⟩ := fu_ n (by omega)
    rw [show m + (d + 1) + 1 = (m + d + 1) + 1 by omega, ff_X5t_mix_2, if_neg (show ¬ (4 : Int32) ≤ nI r from nI_ge (b := 4) (by omega) (by omega)), gd_n (by omega) (by decide), nI_clamp (by omega), hk]
    refine (dCx28 (by omega) hn e2 n 0 k _ (by omega)).trans ?_
    rw [nI_1, ih _ _ _ (by omega), f64_]
    unfold gX_
    rw [e1]
def dge_ (h : hh_) (x : Int64) : Int64 := f64_ (gX_ h) 4 0 (f64_ (gR_ h) 6 0 (mx64_ (fun k => h.1 (89 + 3 * k) 2) 3 0 x))
theorem dC42 {h : hh_} (R : iR_ h) (X : iX_ h) : ∀ (d j m : Nat) (x : Int64), j + d = 3 → ff_X7_digest_42 h (m + d + 1) x (nI j) = some (f64_ (gX_ h) 4 0 (f64_ (gR_ h) 6 0 (mx64_ (fun k => h.1 (89 + 3 * k) 2) d j x))) := by
  obtain ⟨k1, hk1⟩ := fu_ 6 (by decide)
  obtain ⟨k2, hk2⟩ := fu_ 4 (by decide)
  intro d
  induction d with
  | zero =>
    intro j m x q
    have q : j = 3 := by omega
    subst q
    have w1 := dCr R 6 0 k1 x rfl
    have w2 := dCx X 4 0 k2 (f64_ (gR_ h) 6 0 x) rfl
    rw [← hk1] at w1
    rw [← hk2] at w2
    rw [ff_X7_digest_42, if_pos (by decide)]
    unfold ff_X5r_mix ff_X5t_mix
    rw [show (0 : Int32) = nI 0 from rfl, w1, Option.bind_some, w2]; rfl
  | succ d ih =>
    intro j m x q
    rw [show m + (d + 1) + 1 = (m + d + 1) + 1 by omega, ff_X7_digest_42, if_neg (show ¬ (3 : Int32) ≤ nI j from nI_ge (b := 3) (by omega) (by omega)), gd_n (by omega) (by decide), nI_clamp (by omega), nI_1, ih _ _ _ (by omega)]; rfl
