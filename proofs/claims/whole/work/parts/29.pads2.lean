/-! ===== pads ===== -/
/-- places b + a .. b + n - 1 of a cell are g a .. g (n - 1) -/
def fg_ (h : hh_) (k b a n : Nat) (g : Nat → Int32) : hh_ := (fun c j => if c = k ∧ b + a ≤ j ∧ j < b + n then g (j - b) else h.1 c j, h.2)
theorem fg_0 {h : hh_} {k b n : Nat} {g : Nat → Int32} : fg_ h k b n n g = h := by
  refine hh_ext (fun c j => ?_) (fun _ _ => rfl) rfl
  show (if c = k ∧ b + n ≤ j ∧ j < b + n then _ else h.1 c j) = _
  rw [if_neg (by omega)]
theorem fg_s {h : hh_} {k b a n : Nat} {g : Nat → Int32} (ha : a < n) : fg_ (hh_sI h k (b + a) (g a)) k b (a + 1) n g = fg_ h k b a n g := by
  refine hh_ext (fun c j => ?_) (fun _ _ => rfl) rfl
  show (if c = k ∧ b + (a + 1) ≤ j ∧ j < b + n then g (j - b) else (hh_sI h k (b + a) (g a)).1 c j) = (if c = k ∧ b + a ≤ j ∧ j < b + n then g (j - b) else h.1 c j)
  by_cases e : c = k
  · subst e
    by_cases e2 : j = b + a
    · subst e2
      rw [if_neg (by omega), if_pos (by omega), sI_eq, show b + a - b = a by omega]
    · rw [sI_nj e2]
      by_cases e3 : b + (a + 1) ≤ j ∧ j < b + n
      · rw [if_pos ⟨rfl, e3⟩, if_pos (by omega)]
      · rw [if_neg (fun q => e3 q.2), if_neg (by omega)]
  · rw [if_neg (fun q => e q.1), if_neg (fun q => e q.1), sI_ne e]
theorem fg_ne {h : hh_} {k b a n c j : Nat} {g : Nat → Int32} (e : c ≠ k) : (fg_ h k b a n g).1 c j = h.1 c j := by
  show (if c = k ∧ b + a ≤ j ∧ j < b + n then _ else h.1 c j) = _
  rw [if_neg (fun q => e q.1)]
theorem fg_in {h : hh_} {k b a n j : Nat} {g : Nat → Int32} (h1 : a ≤ j) (h2 : j < n) : (fg_ h k b a n g).1 k (b + j) = g j := by
  show (if k = k ∧ b + a ≤ b + j ∧ b + j < b + n then g (b + j - b) else h.1 k (b + j)) = _
  rw [if_pos (by omega), show b + j - b = j by omega]
theorem fg_out {h : hh_} {k b a n c j : Nat} {g : Nat → Int32} (h1 : j < b + a ∨ b + n ≤ j) : (fg_ h k b a n g).1 c j = h.1 c j := by
  show (if c = k ∧ b + a ≤ j ∧ j < b + n then _ else h.1 c j) = _
  rw [if_neg (by omega)]
theorem pd_C1 {t i p : Nat} {x4 : Int32} {h : hh_} {D : od_} {KK : Int32 → Option (Int32 × hh_)} (B : bo_ h.2.2.1 = true) (K : oK_ D) (C : oC_ h.2.2.1 h D) (ht : t < d_t D) (hi : i < d_m D) (hp : p < d_p D) : ∀ (d j m x : Nat), j + d = 4 → ff_X7_pads_56 (nI t) (nI i) (nI p) x4 h KK (m + d + 1) (nI x) (nI j) = match smo_ (pn_ D t i p) d j x with
    | none => some (-9, h)
    | some v => KK (nI v) := by
  intro d
  induction d with
  | zero =>
    intro j m x e
    have e : j = 4 := by omega
    subst e
    rw [ff_X7_pads_56, if_pos (by decide)]; rfl
  | succ d ih =>
    intro j m x e
    have hj : j < 4 := by omega
    rw [show m + (d + 1) + 1 = (m + d + 1) + 1 by omega, ff_X7_pads_56, if_neg (show ¬ (4 : Int32) ≤ nI j from nI_ge (b := 4) hj (by omega)), gd_t B, fpn_C K C ht hi hp hj, Option.bind_some, smo_]
    cases e2 : pn_ D t i p j with
    | none => rw [if_pos (show oI_ none = -9 from rfl)]
    | some v =>
      have b := pn_b e2
      rw [if_neg (fun q => nomatch (oI_9 (x := some v) (fun w hw => by injection hw; omega)).mp q), show oI_ (some v) = nI v from rfl, nI_add, nI_1]
      exact ih _ _ _ (by omega)
theorem pd_M1 {t i p : Nat} {x4 : Int32} {h : hh_} {D : od_} {KK : Int32 → hh_ → Option (Int32 × hh_)} (K : oK_ D) (M : oM_ h D) (ht : t < d_t D) (hi : i < d_m D) (hp : p < d_p D) : ∀ (d j m x : Nat), j + d = 4 → ff_X8_pads_40 (nI t) (nI i) (nI p) x4 KK (m + d + 1) (nI x) (nI j) h = match smo_ (pn_ D t i p) d j x with
    | none => some (-9, h)
    | some v => KK (nI v) h := by
  intro d
  induction d with
  | zero =>
    intro j m x e
    have e : j = 4 := by omega
    subst e
    rw [ff_X8_pads_40, if_pos (by decide)]; rfl
  | succ d ih =>
    intro j m x e
    have hj : j < 4 := by omega
    rw [show m + (d + 1) + 1 = (m + d + 1) + 1 by omega, ff_X8_pads_40, if_neg (show ¬ (4 : Int32) ≤ nI j from nI_ge (b := 4) hj (by omega)), fpn_M K M ht hi hp hj, Option.bind_some, smo_]
    dsimp only
    cases e2 : pn_ D t i p j with
    | none => rw [if_pos (show oI_ none = -9 from rfl)]
    | some v =>
      have b := pn_b e2
      rw [if_neg (fun q => nomatch (oI_9 (x := some v) (fun w hw => by injection hw; omega)).mp q), show oI_ (some v) = nI v from rfl, nI_add, nI_1]
      exact ih _ _ _ (by omega)
theorem pd_C2 {o t i p r : Nat} {v : Int32} {D : od_} (ho : o = 39 ∨ o = 64) (K : oK_ D) (ht : t < d_t D) (hi : i < d_m D) (hp : p < d_p D) (hr : r < 6) : ∀ (d j m : Nat) (h : hh_), j + d = 4 → h.2.2.1 = o → oC_ o h D → ff_X7_pads_113 (nI t) (nI i) (nI p) (nI r) v (m + d + 1) (nI j) h = some (v, fg_ h (4 + r) 0 j 4 (fun j => oI_ (pn_ D t i p j))) := by
  have B : bo_ o = true := by rcases ho with rfl | rfl <;> rfl
  intro d
  induction d with
  | zero =>
    intro j m h e eo C
    have e : j = 4 := by omega
    subst e
    rw [ff_X7_pads_113, if_pos (by decide), fg_0]
  | succ d ih =>
    intro j m h e eo C
    have hj : j < 4 := by omega
    rw [show m + (d + 1) + 1 = (m + d + 1) + 1 by omega, ff_X7_pads_113, if_neg (show ¬ (4 : Int32) ≤ nI j from nI_ge (b := 4) hj (by omega)), gd_n hr (by decide), eo, gd_t B, fpn_C K C ht hi hp hj, Option.bind_some, gd_n (by omega) (by decide), nI_clamp (show r < 2 ^ 31 by omega), nI_clamp (show j < 2 ^ 31 by omega), nI_1, ih (j + 1) m (hh_sI h (4 + r) j (oI_ (pn_ D t i p j))) (by omega) eo (C.fr K (fun c x q => sI_ne (by omega)))]
    refine congrArg (fun z => some (v, z)) ?_
    have w := fg_s (h := h) (k := 4 + r) (b := 0) (a := j) (n := 4) (g := fun j => oI_ (pn_ D t i p j)) hj
    rw [Nat.zero_add] at w
    exact w
theorem pd_M2 {t i p r : Nat} {v : Int32} {D : od_} (K : oK_ D) (ht : t < d_t D) (hi : i < d_m D) (hp : p < d_p D) (hr : r < 6) : ∀ (d j m : Nat) (h : hh_), j + d = 4 → oM_ h D → ff_X8_pads_91 (nI t) (nI i) (nI p) (nI r) v (m + d + 1) (nI j) h = some (v, fg_ h 101 (40 * r) j 4 (fun j => oI_ (pn_ D t i p j))) := by
  intro d
  induction d with
  | zero =>
    intro j m h e M
    have e : j = 4 := by omega
    subst e
    rw [ff_X8_pads_91, if_pos (by decide), fg_0]
  | succ d ih =>
    intro j m h e M
    have hj : j < 4 := by omega
    rw [show m + (d + 1) + 1 = (m + d + 1) + 1 by omega, ff_X8_pads_91, if_neg (show ¬ (4 : Int32) ≤ nI j from nI_ge (b := 4) hj (by omega)), fpn_M K M ht hi hp hj, Option.bind_some]
    dsimp only
    rw [sr_ h hr (by omega), Option.bind_some, nI_1, ih (j + 1) m _ (by omega) (M.fr (fun c x q => sI_ne (by omega)))]
    exact congrArg (fun z => some (v, z)) (fg_s (h := h) (k := 101) (b := 40 * r) (a := j) (n := 4) (g := fun j => oI_ (pn_ D t i p j)) hj)
/-- 30: pads -/
theorem st_30 : sp_30 inv_ := by
  intro h a1 a2 a3 a4 H
  obtain ⟨hn, D, F, ds, n, K, C, M, -⟩ := H.2.2.2
  have B := H.2.2.2.nwB
  have nw := H.2.2.2.nw
  obtain ⟨k, hk⟩ := fu_ 4 (by decide)
  rcases hs_1 a1 K C M with ⟨t, ht, rfl, c1, m1⟩ | ⟨c1, m1⟩
  · rcases hs_0 a2 K C M with ⟨i, hi, rfl, c2, m2⟩ | ⟨c2, m2⟩
    · rcases hs_2 a3 K C M with ⟨p, hp, rfl, c3, m3⟩ | ⟨c3, m3⟩
      · rcases al_r a4 h with ⟨r, hr, rfl, c4, m4⟩ | ⟨c4, m4⟩
        · have eC : ff_X7_pads (nI t) (nI i) (nI p) (nI r) h = match smo_ (pn_ D t i p) 4 0 0 with
              | none => some (-9, h)
              | some v => some (nI v, fg_ (fi_ (hh_sI h 10 r (nI 4)) (4 + r) 0 4 0) (4 + r) 0 0 4 (fun j => oI_ (pn_ D t i p j))) := by
            unfold ff_X7_pads
            rw [gd_t B, c1, Option.bind_some, if_neg n10, c2, Option.bind_some, if_neg n10, c3, Option.bind_some, if_neg n10, c4, if_neg n10, hk]
            refine (pd_C1 B K C ht hi hp 4 0 k 0 rfl).trans ?_
            cases e2 : smo_ (pn_ D t i p) 4 0 0 with
            | none => rfl
            | some v =>
              dsimp only
              rw [show (4 : Int32) = nI 4 from rfl, rn_C hr (by decide), Option.bind_some]
              exact pd_C2 nw K ht hi hp hr 4 0 k _ rfl rfl (C.fr K (fun c x q => by rw [fi_ne (by omega), sI_ne (by omega)]))
          have eM : ∀ h', oM_ h' D → ff_X8_isThumb (nI t) h' = 1 → ff_X8_isHead (nI i) h' = 1 → ff_X8_isPost (nI p) h' = 1 → ff_X8_pads (nI t) (nI i) (nI p) (nI r) h' = match smo_ (pn_ D t i p) 4 0 0 with
              | none => some (-9, h')
              | some v => some (nI v, fg_ (fi_ (hh_sI h' 100 r (nI 4)) 101 (40 * r) (40 * r + 40) 0) 101 (40 * r) 0 4 (fun j => oI_ (pn_ D t i p j))) := by
            intro h' M' q1 q2 q3
            unfold ff_X8_pads
            rw [q1, if_neg n10, q2, if_neg n10, q3, if_neg n10, m4, if_neg n10, hk]
            refine (pd_M1 K M' ht hi hp 4 0 k 0 rfl).trans ?_
            cases e2 : smo_ (pn_ D t i p) 4 0 0 with
            | none => rfl
            | some v =>
              dsimp only
              rw [show (4 : Int32) = nI 4 from rfl, mr_M hr (by decide), Option.bind_some]
              exact pd_M2 K ht hi hp hr 4 0 k _ rfl (M'.fr (fun c x q => by rw [fi_ne (by omega), sI_ne (by omega)]))
          cases e2 : smo_ (pn_ D t i p) 4 0 0 with
          | none =>
            rw [e2] at eC eM
            exact ⟨-9, h, h, eC, eM h M m1 m2 m3, H⟩
          | some v =>
            rw [e2] at eC eM
            have M' : oM_ (fg_ (fi_ (hh_sI h 10 r (nI 4)) (4 + r) 0 4 0) (4 + r) 0 0 4 (fun j => oI_ (pn_ D t i p j))) D := M.fr (fun c x q => by rw [fg_ne (by omega), fi_ne (by omega), sI_ne (by omega)])
            refine ⟨nI v, _, _, eC, eM _ M' ?_ ?_ ?_, ?_⟩
            · unfold ff_X8_isThumb at m1 ⊢; rw [M'.2.1]; rw [M.2.1] at m1; exact m1
            · unfold ff_X8_isHead at m2 ⊢; rw [M'.1]; rw [M.1] at m2; exact m2
            · unfold ff_X8_isPost at m3 ⊢; rw [M'.2.2.1]; rw [M.2.2.1] at m3; exact m3
            · refine inv_rows H (fun k j q => ?_) rfl (iR_new H.2.1 hr (n := 4) (by decide) ?_ ?_ (fun x hx => ?_) (fun s q => ?_) (fun s q => ?_) (fun s x q q2 => ?_) (fun j q => ?_))
              · rw [fg_ne (by omega), fi_ne (by omega), sI_ne (by omega), fg_ne (by omega), fi_ne (by omega), sI_ne (by omega)]
              · rw [fg_ne (by decide), fi_ne (by decide), sI_ne (by decide), fg_ne (by omega), fi_ne (by omega), sI_eq]
              · rw [fg_ne (by decide), fi_ne (by decide), sI_eq]
              · have w := fg_in (h := fi_ (hh_sI h 10 r (nI 4)) (4 + r) 0 4 0) (k := 4 + r) (b := 0) (a := 0) (n := 4) (j := x) (g := fun j => oI_ (pn_ D t i p j)) (by omega) hx
                rw [Nat.zero_add] at w
                rw [fg_in (by omega) hx, fg_ne (by omega), fi_ne (by omega), sI_ne (by omega)]
                exact w
              · rw [fg_ne (by decide), fi_ne (by decide), sI_ne (by decide), fg_ne (by omega), fi_ne (by omega), sI_nj q]
              · rw [fg_ne (by decide), fi_ne (by decide), sI_nj q, fg_ne (by omega), fi_ne (by omega), sI_ne (by decide)]
              · rw [fg_ne (by omega), fi_ne (by omega), sI_ne (by omega), fg_ne (by omega), fi_ne (by omega), sI_ne (by omega)]
              · rw [fg_out (by omega), fi_out q, sI_ne (by decide), fg_ne (by omega), fi_ne (by omega), sI_ne (by decide)]
        · refine rd_ H 0 (-1) 0 (by decide) ?_ (fun h' S => ?_)
          · unfold ff_X7_pads
            rw [gd_t B, c1, Option.bind_some, if_neg n10, c2, Option.bind_some, if_neg n10, c3, Option.bind_some, if_neg n10, c4, if_pos rfl]; rfl
          · unfold ff_X8_pads
            rw [S.iT (D := D) m1, if_neg n10, S.iH m2, if_neg n10, S.iP m3, if_neg n10, m4, if_pos rfl]; rfl
      · refine rd_ H 0 (-1) 0 (by decide) ?_ (fun h' S => ?_)
        · unfold ff_X7_pads
          rw [gd_t B, c1, Option.bind_some, if_neg n10, c2, Option.bind_some, if_neg n10, c3, Option.bind_some, if_pos rfl]; rfl
        · unfold ff_X8_pads
          rw [S.iT (D := D) m1, if_neg n10, S.iH m2, if_neg n10, S.iP m3, if_pos rfl]; rfl
    · refine rd_ H 0 (-1) 0 (by decide) ?_ (fun h' S => ?_)
      · unfold ff_X7_pads
        rw [gd_t B, c1, Option.bind_some, if_neg n10, c2, Option.bind_some, if_pos rfl]; rfl
      · unfold ff_X8_pads
        rw [S.iT (D := D) m1, if_neg n10, S.iH m2, if_pos rfl]; rfl
  · refine rd_ H 0 (-1) 0 (by decide) ?_ (fun h' S => ?_)
    · unfold ff_X7_pads
      rw [gd_t B, c1, Option.bind_some, if_pos rfl]; rfl
    · unfold ff_X8_pads
      rw [S.iT (D := D) m1, if_pos rfl]; rfl
