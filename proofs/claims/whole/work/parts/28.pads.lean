/-! ===== pads, all, finds, posts ===== -/
theorem sI_sI {h : hh_} {a i : Nat} {v w : Int32} : hh_sI (hh_sI h a i v) a i w = hh_sI h a i w := by
  refine hh_ext (fun k x => ?_) (fun _ _ => rfl) rfl
  by_cases e : k = a
  · subst e
    rw [sI_if, sI_if, sI_if]
    by_cases e2 : x = i
    · rw [if_pos e2, if_pos e2]
    · rw [if_neg e2, if_neg e2, if_neg e2]
  · rw [sI_ne e, sI_ne e, sI_ne e]
theorem sI_self {h : hh_} {a i : Nat} {v : Int32} (e : h.1 a i = v) : hh_sI h a i v = h := by
  refine hh_ext (fun k x => ?_) (fun _ _ => rfl) rfl
  by_cases e1 : k = a
  · subst e1
    rw [sI_if]
    by_cases e2 : x = i
    · rw [if_pos e2, e2, e]
    · rw [if_neg e2]
  · rw [sI_ne e1]
/-- a BUMP changed -/
def up_ (D : od_) (i j v : Nat) : od_ := (D.1, D.2.1, D.2.2.1, fun a b => if a = i ∧ b = j then v else d_H D a b, D.2.2.2.2)
theorem up_H {D : od_} {i j v : Nat} (a b : Nat) : d_H (up_ D i j v) a b = if a = i ∧ b = j then v else d_H D a b := rfl
theorem up_K {D : od_} (K : oK_ D) {i j v : Nat} (hj : j < 4) (hv : v ≤ 5) : oK_ (up_ D i j v) := by
  refine ⟨K.1, K.2.1, K.2.2.1, K.2.2.2.1, fun a ha => ⟨fun b hb => ?_, ?_⟩, K.2.2.2.2.2.1, K.2.2.2.2.2.2⟩
  · rw [up_H]
    by_cases e : a = i ∧ b = j
    · rw [if_pos e]; exact hv
    · rw [if_neg e]; exact (K.2.2.2.2.1 a ha).1 b hb
  · rw [up_H, if_neg (by omega)]
    exact (K.2.2.2.2.1 a ha).2
theorem up_M {h : hh_} {D : od_} (M : oM_ h D) {i j v : Nat} (hj : j < 5) : oM_ (hh_sI h 105 (5 * i + j) (nI v)) (up_ D i j v) := by
  refine ⟨?_, ?_, ?_, fun a ha b hb => ?_, fun t ht b hb => ?_, fun p hp b hb => ?_⟩
  · rw [sI_ne (by decide)]; exact M.1
  · rw [sI_ne (by decide)]; exact M.2.1
  · rw [sI_ne (by decide)]; exact M.2.2.1
  · rw [up_H]
    by_cases e : a = i ∧ b = j
    · rw [if_pos e, e.1, e.2, sI_eq]
    · rw [if_neg e, sI_nj (by omega)]
      exact M.2.2.2.1 a ha b hb
  · rw [sI_ne (by decide)]; exact M.2.2.2.2.1 t ht b hb
  · rw [sI_ne (by decide)]; exact M.2.2.2.2.2 p hp b hb
theorem up_fe {D : od_} {i j b x : Nat} (hb : d_H D i j = b) (hj : j < 4) : fe_ (up_ D i j (b + x)) i j 0 = fe_ D i j x := by
  unfold fe_
  rw [up_H, up_H, if_neg (show ¬ (i = i ∧ 4 = j) by omega), if_pos (show i = i ∧ j = j from ⟨rfl, rfl⟩), hb]
  rfl
theorem up_ls {D : od_} {t i j b x : Nat} (hb : d_H D i j = b) (hj : j < 4) : lst_ (up_ D i j (b + x)) t i j 0 = lst_ D t i j x := by
  unfold lst_ mid_
  rw [up_fe hb hj]
  rfl
theorem up_ms {D : od_} {t i j b x : Nat} (hb : d_H D i j = b) (hj : j < 4) : mst_ (up_ D i j (b + x)) t i j 0 = mst_ D t i j x := by
  unfold mst_ mid_
  rw [up_fe hb hj]
  rfl
/-- the first that will do -/
def fw_ (p : Nat → Bool) : Nat → Nat → Option Nat
  | 0, _ => none
  | d + 1, x => if p x = true then some x else fw_ p d (x + 1)
def oI_ : Option Nat → Int32
  | none => -9
  | some x => nI x
theorem fw_b {p : Nat → Bool} : ∀ (d x v : Nat), fw_ p d x = some v → v < x + d := by
  intro d
  induction d with
  | zero => intro x v e; exact absurd e (by rw [fw_]; exact fun q => nomatch q)
  | succ d ih =>
    intro x v e
    rw [fw_] at e
    by_cases q : p x = true
    · rw [if_pos q] at e
      injection e with e
      omega
    · rw [if_neg q] at e
      have := ih _ _ e
      omega
def pd_ (D : od_) (t i p j x : Nat) : Bool := decide (d_P D p j ≤ lst_ D t i j x)
/-- PADS needed at a place -/
def pn_ (D : od_) (t i p j : Nat) : Option Nat := fw_ (pd_ D t i p j) (6 - d_H D i j) 0
theorem fp_C {o t i p j : Nat} {h : hh_} {D : od_} (K : oK_ D) (C : oC_ o h D) (ht : t < d_t D) (hi : i < d_m D) (hp : p < d_p D) (hj : j < 4) : ∀ (d x m : Nat), d_H D i j + x + d = 6 → ff_X2_fewestPads_3 o (nI t) (nI i) (nI p) (nI j) h (m + d + 1) (nI x) = some (oI_ (fw_ (pd_ D t i p j) d x)) := by
  have k1 := K.1
  have k3 := K.2.2.1
  have l3 := (K.2.2.2.2.2.2 p hp).1 j hj
  have l5 := (K.2.2.2.2.1 i hi).1 j hj
  intro d
  induction d with
  | zero =>
    intro x m e
    rw [ff_X2_fewestPads_3, gd_n (by omega) (by decide), gd_n (by omega) (by decide), nI_clamp (by omega), nI_clamp (by omega), C.2.2.2.1 i hi j (by omega), nI_add, if_pos (show (5 : Int32) < nI (d_H D i j + x) from nI_lt (a := 5) (by omega) (by omega))]; rfl
  | succ d ih =>
    intro x m e
    have l1 := lst_le K (t := t) (x := x) hi hj
    rw [show m + (d + 1) + 1 = (m + d + 1) + 1 by omega, ff_X2_fewestPads_3, gd_n (by omega) (by decide), gd_n (by omega) (by decide), nI_clamp (show i < 2 ^ 31 by omega), nI_clamp (show j < 2 ^ 31 by omega), C.2.2.2.1 i hi j (by omega), nI_add, if_neg (show ¬ (5 : Int32) < nI (d_H D i j + x) from nI_nlt (a := 5) (by omega) (by omega)), ls_C K C ht hi hj (by omega), Option.bind_some, gd_n (by omega) (by decide), nI_clamp (show p < 2 ^ 31 by omega), C.2.2.2.2.2 p hp j (by omega), nI_1, ih _ _ (by omega), fw_]
    unfold pd_
    by_cases e3 : lst_ D t i j x < d_P D p j
    · rw [if_pos (nI_lt e3 (by omega)), decide_eq_false (by omega), if_neg (by decide)]
    · rw [if_neg (nI_nlt (by omega) (by omega)), decide_eq_true (p := d_P D p j ≤ lst_ D t i j x) (by omega), if_pos rfl]; rfl
theorem fpn_C {o t i p j : Nat} {h : hh_} {D : od_} (K : oK_ D) (C : oC_ o h D) (ht : t < d_t D) (hi : i < d_m D) (hp : p < d_p D) (hj : j < 4) : ff_X2_fewestPads o (nI t) (nI i) (nI p) (nI j) h = some (oI_ (pn_ D t i p j)) := by
  have l5 := (K.2.2.2.2.1 i hi).1 j hj
  unfold ff_X2_fewestPads
  obtain ⟨q, hq⟩ := fu_ (6 - d_H D i j) (by omega)
  rw [hq]
  exact fp_C K C ht hi hp hj _ 0 q (by omega)
theorem fp_M {t i p j : Nat} {h : hh_} {D : od_} (K : oK_ D) (M : oM_ h D) (ht : t < d_t D) (hi : i < d_m D) (hp : p < d_p D) (hj : j < 4) : ∀ (e m : Nat) (h' : hh_), d_H D i j + e ≤ 5 → (∀ v, hh_sI h' 105 (5 * i + j) v = hh_sI h 105 (5 * i + j) v) → ff_X8_padsAt_16 (nI t) (nI i) (nI p) (nI j) (nI (d_H D i j)) (m + e + 1 + 1) (oI_ (fw_ (pd_ D t i p j) (5 - d_H D i j - e) (e + 1))) (nI (d_H D i j + e)) h' = some (oI_ (pn_ D t i p j), h) := by
  have k1 := K.1
  have k3 := K.2.2.1
  have l3 := (K.2.2.2.2.2.2 p hp).1 j hj
  have l5 := (K.2.2.2.2.1 i hi).1 j hj
  have cH := M.2.2.2.1 i hi j (by omega)
  have stp : ∀ (e m : Nat) (h' : hh_), d_H D i j + e ≤ 5 → (∀ v, hh_sI h' 105 (5 * i + j) v = hh_sI h 105 (5 * i + j) v) → ff_X8_padsAt_16 (nI t) (nI i) (nI p) (nI j) (nI (d_H D i j)) (m + 1) (oI_ (fw_ (pd_ D t i p j) (5 - d_H D i j - e) (e + 1))) (nI (d_H D i j + e)) h' = ff_X8_padsAt_16 (nI t) (nI i) (nI p) (nI j) (nI (d_H D i j)) m (oI_ (fw_ (pd_ D t i p j) (6 - d_H D i j - e) e)) (nI (d_H D i j + e) + (-1)) (hh_sI h 105 (5 * i + j) (nI (d_H D i j + e))) := by
    intro e m h' he hh
    have K' := up_K K (i := i) (j := j) (v := d_H D i j + e) hj he
    have M' := up_M M (i := i) (j := j) (v := d_H D i j + e) (by omega)
    have l1 := lst_le K (t := t) (x := e) hi hj
    rw [ff_X8_padsAt_16, if_neg (nI_nlt (by omega) (by omega)), show (5 : Int32) = nI 5 from rfl, pk_mul, nI_add, gd_n (by omega) (by decide), nI_clamp (by omega), hh, ls_M K' M' ht hi hj, Option.bind_some, nd_M K' M' hp (by omega), Option.bind_some, up_ls rfl hj, show d_P (up_ D i j (d_H D i j + e)) p j = d_P D p j from rfl, show 6 - d_H D i j - e = (5 - d_H D i j - e) + 1 by omega, fw_]
    unfold pd_
    by_cases e3 : lst_ D t i j e < d_P D p j
    · rw [if_pos (nI_lt e3 (show d_P D p j < 2 ^ 31 by omega)), decide_eq_false (by omega), if_neg (by decide)]
    · rw [if_neg (nI_nlt (show d_P D p j ≤ _ by omega) (by omega)), decide_eq_true (p := d_P D p j ≤ lst_ D t i j e) (by omega), if_pos rfl, pk_sub (by omega), show d_H D i j + e - d_H D i j = e by omega]; rfl
  intro e
  induction e with
  | zero =>
    intro m h' he hh
    rw [stp 0 (m + 0 + 1) h' he hh, ff_X8_padsAt_16, if_pos, show (5 : Int32) = nI 5 from rfl, pk_mul, nI_add, gd_n (by omega) (by decide), nI_clamp (by omega), sI_sI, sI_self cH]
    · rfl
    · rw [Int32.lt_iff_toInt_lt, Nat.add_zero]
      by_cases e0 : d_H D i j = 0
      · rw [e0]; decide
      · obtain ⟨y, hy⟩ : ∃ y, d_H D i j = y + 1 := ⟨d_H D i j - 1, by omega⟩
        rw [hy, pk_m1, nI_toInt (by omega), nI_toInt (by omega)]
        omega
  | succ e ih =>
    intro m h' he hh
    rw [show m + (e + 1) + 1 + 1 = (m + e + 1 + 1) + 1 by omega, stp (e + 1) (m + e + 1 + 1) h' he hh, show d_H D i j + (e + 1) = (d_H D i j + e) + 1 by omega, pk_m1, show 6 - d_H D i j - (e + 1) = 5 - d_H D i j - e by omega]
    exact ih m _ (by omega) (fun v => sI_sI)
theorem fpn_M {t i p j : Nat} {h : hh_} {D : od_} (K : oK_ D) (M : oM_ h D) (ht : t < d_t D) (hi : i < d_m D) (hp : p < d_p D) (hj : j < 4) : ff_X8_padsAt (nI t) (nI i) (nI p) (nI j) h = some (oI_ (pn_ D t i p j), h) := by
  have l5 := (K.2.2.2.2.1 i hi).1 j hj
  unfold ff_X8_padsAt
  rw [bu_M K M hi (by omega), Option.bind_some]
  obtain ⟨q, hq⟩ := fu_ (5 - d_H D i j + 1) (by omega)
  have w := fp_M K M ht hi hp hj (5 - d_H D i j) q h (by omega) (fun v => rfl)
  rw [show 5 - d_H D i j - (5 - d_H D i j) = 0 by omega, show d_H D i j + (5 - d_H D i j) = 5 by omega] at w
  rw [hq]
  exact w
theorem pn_b {D : od_} {t i p j v : Nat} (e : pn_ D t i p j = some v) : v < 6 := by
  have := fw_b _ _ _ e
  omega
theorem oI_9 {x : Option Nat} (hx : ∀ v, x = some v → v < 100) : oI_ x = -9 ↔ x = none := by
  cases x with
  | none => exact ⟨fun _ => rfl, fun _ => rfl⟩
  | some v =>
    refine ⟨fun q => ?_, fun q => nomatch q⟩
    have := hx v rfl
    have q2 := congrArg Int32.toInt (show nI v = -9 from q)
    rw [nI_toInt (by omega), show (-9 : Int32).toInt = -9 from rfl] at q2
    omega
/-! all -/
def mxo_ (f : Nat → Option Nat) : Nat → Nat → Nat → Option Nat
  | 0, _, x => some x
  | d + 1, t, x => match f t with
    | none => none
    | some v => mxo_ f d (t + 1) (max x v)
def smo_ (f : Nat → Option Nat) : Nat → Nat → Nat → Option Nat
  | 0, _, x => some x
  | d + 1, t, x => match f t with
    | none => none
    | some v => smo_ f d (t + 1) (x + v)
theorem al_C1 {i p j : Nat} {x3 : Int32} {h : hh_} {D : od_} {KK : Int32 → Option Int32} (B : bo_ h.2.2.1 = true) (K : oK_ D) (C : oC_ h.2.2.1 h D) (hi : i < d_m D) (hp : p < d_p D) (hj : j < 4) : ∀ (d t m x : Nat), t + d = d_t D → x < 100 → ff_X7_all_58 (nI i) (nI p) x3 (nI j) h KK (m + d + 1) (nI x) (nI t) = match mxo_ (fun t => pn_ D t i p j) d t x with
    | none => some (-9)
    | some v => KK (nI v) := by
  have k2 := K.2.1
  intro d
  induction d with
  | zero =>
    intro t m x e hx
    rw [ff_X7_all_58, gd_t B, show Int32.toNatClampNeg 1 = 1 from rfl, C.2.1, if_pos (nI_le (by omega) (by omega))]; rfl
  | succ d ih =>
    intro t m x e hx
    rw [show m + (d + 1) + 1 = (m + d + 1) + 1 by omega, ff_X7_all_58, gd_t B, show Int32.toNatClampNeg 1 = 1 from rfl, C.2.1, if_neg (nI_ge (by omega) (by omega)), fpn_C K C (by omega) hi hp hj, Option.bind_some, mxo_]
    cases e2 : pn_ D t i p j with
    | none => rw [if_pos (show oI_ none = -9 from rfl)]
    | some v =>
      have b := pn_b e2
      rw [if_neg (fun q => nomatch (oI_9 (x := some v) (fun w hw => by injection hw; omega)).mp q), show oI_ (some v) = nI v from rfl, mx_i (by omega) (by omega), nI_1]
      exact ih _ _ _ (by omega) (by omega)
theorem al_M1 {i p j : Nat} {x3 : Int32} {h : hh_} {D : od_} {KK : Int32 → hh_ → Option (Int32 × hh_)} (K : oK_ D) (M : oM_ h D) (hi : i < d_m D) (hp : p < d_p D) (hj : j < 4) : ∀ (d t m x : Nat), t + d = d_t D → x < 100 → ff_X8_all_45 (nI i) (nI p) x3 (nI j) KK (m + d + 1) (nI x) (nI t) h = match mxo_ (fun t => pn_ D t i p j) d t x with
    | none => some (-9, h)
    | some v => KK (nI v) h := by
  have k2 := K.2.1
  intro d
  induction d with
  | zero =>
    intro t m x e hx
    rw [ff_X8_all_45, M.2.1, if_pos (nI_le (by omega) (by omega))]; rfl
  | succ d ih =>
    intro t m x e hx
    rw [show m + (d + 1) + 1 = (m + d + 1) + 1 by omega, ff_X8_all_45, M.2.1, if_neg (nI_ge (by omega) (by omega)), fpn_M K M (by omega) hi hp hj, Option.bind_some, mxo_]
    dsimp only
    cases e2 : pn_ D t i p j with
    | none => rw [if_pos (show oI_ none = -9 from rfl)]
    | some v =>
      have b := pn_b e2
      rw [if_neg (fun q => nomatch (oI_9 (x := some v) (fun w hw => by injection hw; omega)).mp q), show oI_ (some v) = nI v from rfl, gr_i (by omega) (by omega), nI_1]
      exact ih _ _ _ (by omega) (by omega)
def am_ (D : od_) (i p j : Nat) : Option Nat := mxo_ (fun t => pn_ D t i p j) (d_t D) 0 0
theorem al_C2 {i p : Nat} {h : hh_} {D : od_} (B : bo_ h.2.2.1 = true) (K : oK_ D) (C : oC_ h.2.2.1 h D) (hi : i < d_m D) (hp : p < d_p D) : ∀ (d j m x : Nat), j + d = 4 → ff_X7_all_46 (nI i) (nI p) h (m + d + 1) (nI x) (nI j) = some (oI_ (smo_ (am_ D i p) d j x)) := by
  have k2 := K.2.1
  obtain ⟨q, hq⟩ := fu_ (d_t D) (by omega)
  intro d
  induction d with
  | zero =>
    intro j m x e
    have e : j = 4 := by omega
    subst e
    rw [ff_X7_all_46, if_pos (by decide)]; rfl
  | succ d ih =>
    intro j m x e
    have hj : j < 4 := by omega
    rw [show m + (d + 1) + 1 = (m + d + 1) + 1 by omega, ff_X7_all_46, if_neg (show ¬ (4 : Int32) ≤ nI j from nI_ge (b := 4) hj (by omega)), hq]
    refine (al_C1 B K C hi hp hj _ 0 q 0 (by omega) (by omega)).trans ?_
    rw [smo_, show mxo_ (fun t => pn_ D t i p j) (d_t D) 0 0 = am_ D i p j from rfl]
    cases e2 : am_ D i p j with
    | none => rfl
    | some v =>
      dsimp only
      rw [nI_add, nI_1]
      exact ih _ _ _ (by omega)
theorem al_M2 {i p : Nat} {h : hh_} {D : od_} (K : oK_ D) (M : oM_ h D) (hi : i < d_m D) (hp : p < d_p D) : ∀ (d j m x : Nat), j + d = 4 → ff_X8_all_33 (nI i) (nI p) (m + d + 1) (nI x) (nI j) h = some (oI_ (smo_ (am_ D i p) d j x), h) := by
  have k2 := K.2.1
  obtain ⟨q, hq⟩ := fu_ (d_t D) (by omega)
  intro d
  induction d with
  | zero =>
    intro j m x e
    have e : j = 4 := by omega
    subst e
    rw [ff_X8_all_33, if_pos (by decide)]; rfl
  | succ d ih =>
    intro j m x e
    have hj : j < 4 := by omega
    rw [show m + (d + 1) + 1 = (m + d + 1) + 1 by omega, ff_X8_all_33, if_neg (show ¬ (4 : Int32) ≤ nI j from nI_ge (b := 4) hj (by omega)), hq]
    refine (al_M1 K M hi hp hj _ 0 q 0 (by omega) (by omega)).trans ?_
    rw [smo_, show mxo_ (fun t => pn_ D t i p j) (d_t D) 0 0 = am_ D i p j from rfl]
    cases e2 : am_ D i p j with
    | none => rfl
    | some v =>
      dsimp only
      rw [nI_add, nI_1]
      exact ih _ _ _ (by omega)
/-- 31: all -/
theorem st_31 : sp_31 inv_ := by
  intro h a1 a2 H
  obtain ⟨hn, D, F, ds, n, K, C, M, -⟩ := H.2.2.2
  have k1 := K.2.1
  have B := H.2.2.2.nwB
  unfold ff_X7_all ff_X8_all
  rcases hs_0 a1 K C M with ⟨i, hi, rfl, c1, m1⟩ | ⟨c1, m1⟩
  · rcases hs_2 a2 K C M with ⟨p, hp, rfl, c2, m2⟩ | ⟨c2, m2⟩
    · by_cases e0 : d_t D = 0
      · refine ⟨-4, h, ?_, ?_, H⟩
        · rw [gd_t B, c1, Option.bind_some, if_neg n10, c2, Option.bind_some, if_neg n10, show Int32.toNatClampNeg 1 = 1 from rfl, C.2.1, e0, if_pos (show nI 0 = 0 from rfl)]
        · rw [m1, if_neg n10, m2, if_neg n10, M.2.1, e0, if_pos (show nI 0 = 0 from rfl)]
      · obtain ⟨q, hq⟩ := fu_ 4 (by decide)
        refine ⟨oI_ (smo_ (am_ D i p) 4 0 0), h, ?_, ?_, H⟩
        · rw [gd_t B, c1, Option.bind_some, if_neg n10, c2, Option.bind_some, if_neg n10, show Int32.toNatClampNeg 1 = 1 from rfl, C.2.1, if_neg (nI_ne0 (by omega) (by omega)), hq]
          exact al_C2 B K C hi hp 4 0 q 0 rfl
        · rw [m1, if_neg n10, m2, if_neg n10, M.2.1, if_neg (nI_ne0 (by omega) (by omega)), hq]
          exact al_M2 K M hi hp 4 0 q 0 rfl
    · exact ⟨-1, h, by rw [gd_t B, c1, Option.bind_some, if_neg n10, c2, Option.bind_some, if_pos rfl], by rw [m1, if_neg n10, m2, if_pos rfl], H⟩
  · exact ⟨-1, h, by rw [gd_t B, c1, Option.bind_some, if_pos rfl], by rw [m1, if_pos rfl], H⟩
/-! finds -/
theorem mo_mono (k w f : Nat) : mo_ k w f ≤ mo_ k w (f + 1) := by
  unfold mo_
  repeat' split
  all_goals omega
theorem fe_s {D : od_} {i j x : Nat} : fe_ D i j (x + 1) = fe_ D i j x + 1 ∨ fe_ D i j (x + 1) = fe_ D i j x := by
  unfold fe_
  by_cases e : d_H D i 4 ≤ 1
  · rw [if_pos e, if_pos e]; omega
  · rw [if_neg e, if_neg e]; omega
theorem mid_s {D : od_} {t i j x : Nat} : mid_ D t i j x ≤ mid_ D t i j (x + 1) := by
  unfold mid_
  rcases fe_s (D := D) (i := i) (j := j) (x := x) with q | q
  · rw [q]; exact mo_mono _ _ _
  · rw [q]; exact Nat.le_refl _
def fd_ (D : od_) (t0 i j t : Nat) : Bool := decide (t ≠ t0) && decide (mst_ D t i j 0 < lst_ D t i j 1)
theorem fd_C {t0 i j : Nat} {h : hh_} {D : od_} (B : bo_ h.2.2.1 = true) (K : oK_ D) (C : oC_ h.2.2.1 h D) (h0 : t0 < d_t D) (hi : i < d_m D) (hj : j < 4) : ∀ (d t m : Nat), t + d = d_t D → ff_X7_finds_54 (nI t0) (nI i) (nI j) h (m + d + 1) (nI t) = some (oI_ (fw_ (fd_ D t0 i j) d t)) := by
  have k2 := K.2.1
  have l5 := (K.2.2.2.2.1 i hi).1 j hj
  intro d
  induction d with
  | zero =>
    intro t m e
    rw [ff_X7_finds_54, gd_t B, show Int32.toNatClampNeg 1 = 1 from rfl, C.2.1, if_pos (nI_le (by omega) (by omega))]; rfl
  | succ d ih =>
    intro t m e
    have ht : t < d_t D := by omega
    have l1 := lst_le K (t := t) (x := 1) hi hj
    have l2 := mst_le K (x := 0) ht hi hj
    have l1' : ff_X2_least h.2.2.1 (nI t) (nI i) (nI j) 1 h = some (nI (lst_ D t i j 1)) := ls_C K C ht hi hj (x := 1) (by omega)
    rw [show m + (d + 1) + 1 = (m + d + 1) + 1 by omega, ff_X7_finds_54, gd_t B, show Int32.toNatClampNeg 1 = 1 from rfl, C.2.1, if_neg (nI_ge (by omega) (by omega)), fw_, nI_1, ih _ _ (by omega)]
    unfold fd_
    by_cases e2 : t = t0
    · rw [if_pos (by rw [e2]), decide_eq_false (by omega), Bool.false_and, if_neg (by decide)]
    · rw [if_neg (fun q => e2 ((nI_eq (by omega) (by omega)).mp q)), l1', Option.bind_some, ms_C0 K C ht hi hj, Option.bind_some, decide_eq_true e2, Bool.true_and]
      by_cases e3 : lst_ D t i j 1 ≤ mst_ D t i j 0
      · rw [if_pos (nI_le e3 (by omega)), decide_eq_false (by omega), if_neg (by decide)]
      · rw [if_neg (nI_ge (by omega) (by omega)), decide_eq_true (p := mst_ D t i j 0 < lst_ D t i j 1) (by omega), if_pos rfl]; rfl
theorem fd_M {t0 i j : Nat} {h : hh_} {D : od_} (K : oK_ D) (M : oM_ h D) (h0 : t0 < d_t D) (hi : i < d_m D) (hj : j < 4) (hb : d_H D i j < 5) : ∀ (t m : Nat), t < d_t D → ff_X8_finds_50 (nI t0) (nI i) (nI j) (m + t + 1 + 1) (oI_ (fw_ (fd_ D t0 i j) (d_t D - (t + 1)) (t + 1))) (nI t) h = some (oI_ (fw_ (fd_ D t0 i j) (d_t D) 0), h) := by
  have k1 := K.1
  have k2 := K.2.1
  have cH := M.2.2.2.1 i hi j (by omega)
  have K' := up_K K (i := i) (j := j) (v := d_H D i j + 1) hj hb
  have M' := up_M M (i := i) (j := j) (v := d_H D i j + 1) (by omega)
  have stp : ∀ (t m : Nat), t < d_t D → ff_X8_finds_50 (nI t0) (nI i) (nI j) (m + 1) (oI_ (fw_ (fd_ D t0 i j) (d_t D - (t + 1)) (t + 1))) (nI t) h = ff_X8_finds_50 (nI t0) (nI i) (nI j) m (oI_ (fw_ (fd_ D t0 i j) (d_t D - t) t)) (nI t + (-1)) h := by
    intro t m ht
    have l1 := lst_le K (t := t) (x := 1) hi hj
    have l2 := mst_le K (x := 0) ht hi hj
    have l3 := mst_le K (x := 1) ht hi hj
    have l4 := lst_le K (t := t) (x := 0) hi hj
    have mo : lst_ D t i j 0 ≤ mst_ D t i j 1 := by
      have : mid_ D t i j 0 ≤ mid_ D t i j 1 := mid_s
      unfold lst_ mst_
      omega
    have bk : hh_sI (hh_sI h 105 (5 * i + j) (nI (d_H D i j + 1))) 105 (5 * i + j) ((hh_sI h 105 (5 * i + j) (nI (d_H D i j + 1))).1 105 (5 * i + j) - 1) = h := by
      rw [sI_sI, sI_eq, nI_pred, sI_self cH]
    rw [ff_X8_finds_50, if_neg (nI_pos (by omega)), ms_M K M ht hi hj, Option.bind_some, ls_M K M ht hi hj, Option.bind_some, show (5 : Int32) = nI 5 from rfl, pk_mul, nI_add, gd_n (by omega) (by decide), nI_clamp (by omega), cH, nI_1, ls_M K' M' ht hi hj, Option.bind_some, ms_M K' M' ht hi hj, Option.bind_some, up_ls rfl hj, up_ms rfl hj, if_pos (nI_le mo (by omega))]
    unfold ff_X8_finds_115 ff_X8_finds_120
    dsimp only
    rw [show (5 : Int32) = nI 5 from rfl, pk_mul, nI_add]
    simp only [gd_n (show 5 * i + j < 25 by omega) (show 25 < 2 ^ 31 by decide)]
    rw [nI_clamp (show 5 * i + j < 2 ^ 31 by omega), bk, show d_t D - t = (d_t D - (t + 1)) + 1 by omega, fw_]
    by_cases e2 : t = t0
    · have e5 : fd_ D t0 i j t = false := by unfold fd_; rw [decide_eq_false (by omega), Bool.false_and]
      rw [e5, if_neg (show ¬ false = true by decide), if_pos (show nI t = nI t0 by rw [e2]), if_pos (show nI t = nI t0 by rw [e2])]
      split <;> rfl
    · rw [if_neg (fun q => e2 ((nI_eq (by omega) (by omega)).mp q)), if_neg (fun q => e2 ((nI_eq (by omega) (by omega)).mp q)), if_neg n10, if_pos trivial]
      by_cases e3 : mst_ D t i j 0 < lst_ D t i j 1
      · have e5 : fd_ D t0 i j t = true := by unfold fd_; rw [decide_eq_true e2, decide_eq_true e3]; rfl
        rw [if_pos (nI_lt e3 (by omega)), e5, if_pos rfl]; rfl
      · have e5 : fd_ D t0 i j t = false := by unfold fd_; rw [decide_eq_false e3, Bool.and_false]
        rw [if_neg (nI_nlt (by omega) (by omega)), e5, if_neg (show ¬ false = true by decide)]
  intro t
  induction t with
  | zero =>
    intro m ht
    rw [stp 0 (m + 0 + 1) ht, ff_X8_finds_50, if_pos (by decide)]
    rfl
  | succ t ih =>
    intro m ht
    rw [show m + (t + 1) + 1 + 1 = (m + t + 1 + 1) + 1 by omega, stp (t + 1) (m + t + 1 + 1) ht, pk_m1]
    exact ih m (by omega)
/-- 32: finds -/
theorem st_32 : sp_32 inv_ := by
  intro h a1 a2 a3 H
  obtain ⟨hn, D, F, ds, n, K, C, M, -⟩ := H.2.2.2
  have k0 := K.1
  have k1 := K.2.1
  have B := H.2.2.2.nwB
  unfold ff_X7_finds ff_X8_finds
  rcases hs_1 a1 K C M with ⟨t, ht, rfl, c1, m1⟩ | ⟨c1, m1⟩
  · rcases hs_0 a2 K C M with ⟨i, hi, rfl, c2, m2⟩ | ⟨c2, m2⟩
    · rcases pl_ a3 with ⟨j, hj, rfl, c3, m3⟩ | ⟨c3, m3⟩
      · have l5 := (K.2.2.2.2.1 i hi).1 j hj
        by_cases e : d_H D i j < 5
        · obtain ⟨q, hq⟩ := fu_ (d_t D) (by omega)
          refine ⟨oI_ (fw_ (fd_ D t i j) (d_t D) 0), h, ?_, ?_, H⟩
          · rw [gd_t B, c1, Option.bind_some, if_neg n10, c2, Option.bind_some, if_neg n10, c3, if_neg n10, gd_n (by omega) (by decide), gd_n (by omega) (by decide), nI_clamp (by omega), nI_clamp (by omega), C.2.2.2.1 i hi j (by omega), if_pos (show nI (d_H D i j) < 5 from nI_lt (b := 5) e (by omega)), hq]
            exact fd_C B K C ht hi hj _ 0 q (by omega)
          · rw [m1, if_neg n10, m2, if_neg n10, m3, if_neg n10, bu_M K M hi (by omega), Option.bind_some, if_neg (show ¬ nI (d_H D i j) = 5 from fun w => by have := (nI_eq (b := 5) (by omega) (by omega)).mp w; omega), M.2.1, hq]
            obtain ⟨y, hy⟩ : ∃ y, d_t D = y + 1 := ⟨d_t D - 1, by omega⟩
            have w := fd_M K M ht hi hj e y q (by omega)
            rw [show d_t D - (y + 1) = 0 by omega] at w
            rw [hy] at w ⊢
            rw [nI_pred]
            exact w
        · refine ⟨-4, h, ?_, ?_, H⟩
          · rw [gd_t B, c1, Option.bind_some, if_neg n10, c2, Option.bind_some, if_neg n10, c3, if_neg n10, gd_n (by omega) (by decide), gd_n (by omega) (by decide), nI_clamp (by omega), nI_clamp (by omega), C.2.2.2.1 i hi j (by omega), if_neg (show ¬ nI (d_H D i j) < 5 from nI_nlt (b := 5) (by omega) (by omega))]
          · rw [m1, if_neg n10, m2, if_neg n10, m3, if_neg n10, bu_M K M hi (by omega), Option.bind_some, if_pos (show nI (d_H D i j) = 5 from by rw [show d_H D i j = 5 by omega]; rfl)]
      · exact ⟨-1, h, by rw [gd_t B, c1, Option.bind_some, if_neg n10, c2, Option.bind_some, if_neg n10, c3, if_pos rfl], by rw [m1, if_neg n10, m2, if_neg n10, m3, if_pos rfl], H⟩
    · exact ⟨-1, h, by rw [gd_t B, c1, Option.bind_some, if_neg n10, c2, Option.bind_some, if_pos rfl], by rw [m1, if_neg n10, m2, if_pos rfl], H⟩
  · exact ⟨-1, h, by rw [gd_t B, c1, Option.bind_some, if_pos rfl], by rw [m1, if_pos rfl], H⟩
/-! posts -/
theorem sp_C {o t i q : Nat} {a4 : Int32} {h : hh_} {D : od_} (K : oK_ D) (C : oC_ o h D) (ht : t < d_t D) (hi : i < d_m D) (e4 : ∀ j, j < 4 → (nI j = a4 ↔ j = q)) : ∀ (d p m : Nat) (x : Int32), p + d = d_p D → ff_X2_surePosts_6 o (nI t) (nI i) a4 h (m + d + 1) x (nI p) = some (msk_ (fun p => all_ (su_ D t i p q) 4 0) d p x) := by
  have k1 := K.2.2.1
  obtain ⟨k, hk⟩ := fu_ 4 (by decide)
  intro d
  induction d with
  | zero =>
    intro p m x e
    rw [ff_X2_surePosts_6, show Int32.toNatClampNeg 2 = 2 from rfl, C.2.2.1, if_pos (nI_le (by omega) (by omega))]; rfl
  | succ d ih =>
    intro p m x e
    have e5 : ff_X2_isSure o (nI t) (nI i) (nI p) a4 h = some (bI_ (all_ (su_ D t i p q) 4 0)) := by
      unfold ff_X2_isSure
      rw [hk]
      exact sur_C K C ht hi (by omega) e4 4 0 k rfl
    rw [show m + (d + 1) + 1 = (m + d + 1) + 1 by omega, ff_X2_surePosts_6, show Int32.toNatClampNeg 2 = 2 from rfl, C.2.2.1, if_neg (nI_ge (by omega) (by omega)), e5, Option.bind_some, nI_1, ih _ _ _ (by omega), ih _ _ _ (by omega), msk_]
    cases all_ (su_ D t i p q) 4 0 <;> rfl
def sms_ (D : od_) (t i q : Nat) : Int32 := msk_ (fun p => all_ (su_ D t i p q) 4 0) (d_p D) 0 0
theorem sps_C {o t i q : Nat} {a4 : Int32} {h : hh_} {D : od_} (K : oK_ D) (C : oC_ o h D) (ht : t < d_t D) (hi : i < d_m D) (e4 : ∀ j, j < 4 → (nI j = a4 ↔ j = q)) : ff_X2_surePosts o (nI t) (nI i) a4 h = some (sms_ D t i q) := by
  have k1 := K.2.2.1
  unfold ff_X2_surePosts
  obtain ⟨k, hk⟩ := fu_ (d_p D) (by omega)
  rw [hk]
  exact sp_C K C ht hi e4 _ 0 k 0 (by omega)
theorem ps_C {t i : Nat} {h : hh_} {D : od_} (H : iO_ h) (K : oK_ D) (C : oC_ h.2.2.1 h D) (ht : t < d_t D) (hi : i < d_m D) : ∀ (d p m : Nat) (x : Int32), p + d = d_p D → ff_X7_posts_31 (nI t) (nI i) h (m + d + 1) x (nI p) = some (anC_ 1 (sms_ D t i 9) (msk_ (fun p => all_ (ly_ D t i p) 4 0) d p x) h) := by
  have k1 := K.2.2.1
  have B := H.nwB
  intro d
  induction d with
  | zero =>
    intro p m x e
    have C' : oC_ h.2.2.1 (ff_X6_tell x h).2 D := C.fr K (fun c j q => sI_ne (by have := H.nw; omega))
    rw [ff_X7_posts_31, gd_t B, show Int32.toNatClampNeg 2 = 2 from rfl, C.2.2.1, if_pos (nI_le (by omega) (by omega)), show (ff_X6_tell x h).2.2.2.1 = h.2.2.1 from rfl, gd_t B, sps_C K C' ht hi e4_9]; rfl
  | succ d ih =>
    intro p m x e
    rw [show m + (d + 1) + 1 = (m + d + 1) + 1 by omega, ff_X7_posts_31, gd_t B, show Int32.toNatClampNeg 2 = 2 from rfl, C.2.2.1, if_neg (nI_ge (by omega) (by omega)), lu_C K C ht hi (by omega), Option.bind_some, nI_1, ih _ _ _ (by omega), ih _ _ _ (by omega), msk_]
    cases all_ (ly_ D t i p) 4 0 <;> rfl
theorem al_imp {p q : Nat → Bool} (h : ∀ j, p j = true → q j = true) : ∀ d j, all_ p d j = true → all_ q d j = true := by
  intro d
  induction d with
  | zero => intro j _; rfl
  | succ d ih =>
    intro j e
    rw [all_, Bool.and_eq_true] at e ⊢
    exact ⟨h j e.1, ih _ e.2⟩
theorem su_ly {D : od_} {t i p : Nat} : all_ (su_ D t i p 9) 4 0 = true → all_ (ly_ D t i p) 4 0 = true := by
  intro e
  have h0 : ∀ j, j < 4 → su_ D t i p 9 j = true → ly_ D t i p j = true := by
    intro j hj q
    unfold su_ at q
    unfold ly_
    rw [if_neg (by omega)] at q
    have q := of_decide_eq_true q
    have := lemx_ (D := D) (t := t) (i := i) (j := j) (x := 0)
    exact decide_eq_true (by omega)
  simp only [all_, Bool.and_eq_true] at e ⊢
  exact ⟨h0 0 (by decide) e.1, h0 1 (by decide) e.2.1, h0 2 (by decide) e.2.2.1, h0 3 (by decide) e.2.2.2.1, trivial⟩
theorem ps_M {t i : Nat} {h : hh_} {D : od_} (K : oK_ D) (M : oM_ h D) (ht : t < d_t D) (hi : i < d_m D) : ∀ (d p m : Nat) (x y : Int32), p + d = d_p D → ff_X8_posts_26 (nI t) (nI i) h (m + d + 1) y x (nI p) = some (anM_ 1 (msk_ (fun p => all_ (su_ D t i p 9) 4 0) d p y) (msk_ (fun p => all_ (ly_ D t i p) 4 0) d p x) h) := by
  have k1 := K.2.2.1
  intro d
  induction d with
  | zero =>
    intro p m x y e
    rw [ff_X8_posts_26, M.2.2.1, if_pos (nI_le (by omega) (by omega))]; rfl
  | succ d ih =>
    intro p m x y e
    have e6 := su_ly (D := D) (t := t) (i := i) (p := p)
    rw [show m + (d + 1) + 1 = (m + d + 1) + 1 by omega, ff_X8_posts_26, M.2.2.1, if_neg (nI_ge (by omega) (by omega)), sv_M K M ht hi (by omega), Option.bind_some, msk_, msk_]
    unfold ff_X8_posts_56
    rw [sv_M K M ht hi (by omega), Option.bind_some, Option.bind_some, nI_1, or_0, or_0]
    dsimp only
    rw [ih _ _ _ _ (by omega), ih _ _ _ _ (by omega), ih _ _ _ _ (by omega), ih _ _ _ _ (by omega)]
    unfold st2_
    cases e7 : all_ (su_ D t i p 9) 4 0
    · cases all_ (ly_ D t i p) 4 0 <;> rfl
    · rw [e6 e7]; rfl
/-- 33: posts -/
theorem st_33 : sp_33 inv_ := by
  intro h a1 a2 H
  obtain ⟨hn, D, F, ds, n, K, C, M, -⟩ := H.2.2.2
  have k1 := K.2.2.1
  have B := H.2.2.2.nwB
  rcases hs_1 a1 K C M with ⟨t, ht, rfl, c1, m1⟩ | ⟨c1, m1⟩
  · rcases hs_0 a2 K C M with ⟨i, hi, rfl, c2, m2⟩ | ⟨c2, m2⟩
    · obtain ⟨k, hk⟩ := fu_ (d_p D) (by omega)
      refine rd_ H 1 (sms_ D t i 9) (msk_ (fun p => all_ (ly_ D t i p) 4 0) (d_p D) 0 0) (by decide) ?_ (fun h' S => ?_)
      · unfold ff_X7_posts
        rw [gd_t B, c1, Option.bind_some, if_neg n10, c2, Option.bind_some, if_neg n10, hk]
        exact ps_C H.2.2.2 K C ht hi _ 0 k 0 (by omega)
      · unfold ff_X8_posts
        rw [S.iT (D := D) m1, if_neg n10, S.iH m2, if_neg n10, hk]
        exact ps_M K (S.oM M) ht hi _ 0 k 0 0 (by omega)
    · refine rd_ H 0 (-1) 0 (by decide) ?_ (fun h' S => ?_)
      · unfold ff_X7_posts
        rw [gd_t B, c1, Option.bind_some, if_neg n10, c2, Option.bind_some, if_pos rfl]; rfl
      · unfold ff_X8_posts
        rw [S.iT (D := D) m1, if_neg n10, S.iH m2, if_pos rfl]; rfl
  · refine rd_ H 0 (-1) 0 (by decide) ?_ (fun h' S => ?_)
    · unfold ff_X7_posts
      rw [gd_t B, c1, Option.bind_some, if_pos rfl]; rfl
    · unfold ff_X8_posts
      rw [S.iT (D := D) m1, if_pos rfl]; rfl
