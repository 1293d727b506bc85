/-! ===== odds: both ===== -/
theorem tf_C49 {X Y : Nat} {h : hh_} (hX : X < 2 ^ 63) (hY : Y < 2 ^ 49) (h0 : 0 < Y) : ff_X6_tellFraction (lN X) (lN Y) h = some (1, fC_ (X / Nat.gcd X Y) (Y / Nat.gcd X Y) h) := by
  have g0 : 0 < Nat.gcd X Y := Nat.gcd_pos_of_pos_right _ h0
  have g1 : Nat.gcd X Y ≤ Y := Nat.gcd_le_right _ h0
  unfold ff_X6_tellFraction ff_X6_commonDivisor
  obtain ⟨k, hk⟩ := fu_ (2 * 49) (by decide)
  rw [hk, show (0 : Int32) = nI 0 from rfl, gcd_C 49 Y X 0 k hY hX (by omega) (by decide), Option.bind_some]
  rw [if_neg (show ¬ lg_cmp (lN (Nat.gcd X Y)) 0 = nI 0 from fun q => by have := (cmp0 (by omega)).mp q; omega), gd_t (bm_n (by omega) (by omega)), pk_lDiv hX g0 (by omega), pk_lDiv (by omega) g0 (by omega)]
  rfl
theorem S_b {D : od_} (K : oK_ D) {t k : Nat} (ht : t < d_t D) : S_ D t k ≤ 625 := by
  have := pr_le (f := sd_ D t k) (B := 5) (fun j hj => sd_le K ht) 4 0 1 1 rfl (Nat.le_refl _)
  unfold S_
  omega
theorem pp_le {p : Nat → Bool} {S : Nat → Nat} {B : Nat} (hB : 0 < B) (hS : ∀ k, S k ≤ B) : ∀ (d k x : Nat), pp_ p S d k x ≤ x * B ^ d := by
  intro d
  induction d with
  | zero => intro k x; rw [pp_, Nat.pow_zero, Nat.mul_one]; exact Nat.le_refl _
  | succ d ih =>
    intro k x
    rw [pp_, Nat.pow_succ, Nat.mul_comm (B ^ d) B, ← Nat.mul_assoc]
    by_cases e : p k = true
    · rw [if_pos e]
      exact Nat.le_trans (ih _ _) (Nat.mul_le_mul_right _ (Nat.mul_le_mul_left _ (hS k)))
    · rw [if_neg e]
      exact Nat.le_trans (ih _ _) (Nat.mul_le_mul_right _ (Nat.le_mul_of_pos_right _ hB))
theorem wC_b {D : od_} (K : oK_ D) {t : Nat} {R : Nat → Nat} (ht : t < d_t D) (i : Nat) : wC_ D t R i ≤ 625 ^ 5 := by
  unfold wC_
  by_cases e : fi2_ D t R i = true
  · rw [if_pos e]
    have w := pp_le (p := fun k => fi2_ D t R k && !decide (k = i)) (B := 625) (by decide) (fun k => S_b K (k := k) ht) (d_m D) 0 1
    rw [Nat.one_mul] at w
    exact Nat.le_trans w (Nat.pow_le_pow_right (by decide) K.1)
  · rw [if_neg e]; exact Nat.zero_le _
theorem wM_b {D : od_} {t : Nat} {R : Nat → Nat} (i : Nat) : wM_ D t R i ≤ 60 ^ 4 := by
  unfold wM_
  have w := pr_le (f := fun j => 60 / sd_ D t i j) (B := 60) (fun j hj => Nat.div_le_self _ _) 4 0 (if fi2_ D t R i = true then 1 else 0) 1 rfl (by split <;> omega)
  rw [Nat.one_mul] at w
  exact w
theorem sN_b {f : Nat → Nat} {B : Nat} (hf : ∀ i, f i ≤ B) : ∀ (d k x : Nat), sN_ f d k x ≤ x + d * B := by
  intro d
  induction d with
  | zero => intro k x; rw [sN_]; omega
  | succ d ih =>
    intro k x
    have h1 := ih (k + 1) (x + f k)
    have h2 := hf k
    rw [sN_, Nat.succ_mul]
    omega
theorem sN_ge {f : Nat → Nat} : ∀ (d k x : Nat), x ≤ sN_ f d k x := by
  intro d
  induction d with
  | zero => intro k x; exact Nat.le_refl _
  | succ d ih =>
    intro k x
    have := ih (k + 1) (x + f k)
    rw [sN_]
    omega
theorem sN_i {f : Nat → Nat} {i : Nat} : ∀ (d k x : Nat), k ≤ i → i < k + d → f i ≤ sN_ f d k x := by
  intro d
  induction d with
  | zero => intro k x h1 h2; omega
  | succ d ih =>
    intro k x h1 h2
    rw [sN_]
    by_cases e : k = i
    · subst e
      have := sN_ge (f := f) d (k + 1) (x + f k)
      omega
    · exact ih _ _ (by omega) (by omega)
theorem sN_r {f g : Nat → Nat} {P Q N : Nat} (e : ∀ i, i < N → f i * Q = g i * P) : ∀ (d k x y : Nat), k + d = N → x * Q = y * P → sN_ f d k x * Q = sN_ g d k y * P := by
  intro d
  induction d with
  | zero => intro k x y _ h; exact h
  | succ d ih =>
    intro k x y q h
    rw [sN_, sN_]
    exact ih _ _ _ (by omega) (by rw [Nat.add_mul, Nat.add_mul, h, e k (by omega)])
theorem w_rel {D : od_} (K : oK_ D) {t : Nat} {R : Nat → Nat} (ht : t < d_t D) : ∀ i, i < d_m D → wC_ D t R i * 60 ^ 4 = wM_ D t R i * pp_ (fi2_ D t R) (S_ D t) (d_m D) 0 1 := by
  intro i hi
  unfold wC_ wM_
  by_cases e : fi2_ D t R i = true
  · rw [if_pos e, if_pos e]
    have h1 := pp_o (S := S_ D t) e (d_m D) 0 1 (Nat.zero_le _) (by omega)
    have h2 := pr_m (f := fun j => 60 / sd_ D t i j) (g := sd_ D t i) (B := 60) (fun j => by rw [Nat.mul_comm]; exact d60 _ (by have := sd_le K (i := i) (j := j) ht; omega) sd_pos) 4 0 1 1
    rw [Nat.one_mul] at h2
    rw [← h2, ← h1, show pr_ (sd_ D t i) 4 0 1 = S_ D t i from rfl]
    rw [Nat.mul_left_comm]
  · rw [if_neg e, if_neg e, pr_x, Nat.zero_mul, Nat.zero_mul, Nat.zero_mul]
/-- 25: odds -/
theorem st_25 : sp_25 inv_ := by
  intro h a1 a2 a3 H
  obtain ⟨hn, D, F, ds, n, K, C, M, -⟩ := H.2.2.2
  have m5 := K.1
  have B := H.2.2.2.nwB
  rcases hs_1 a1 K C M with ⟨t, ht, rfl, c1, m1⟩ | ⟨c1, m1⟩
  · rcases hs_0 a2 K C M with ⟨i, hi, rfl, c2, m2⟩ | ⟨c2, m2⟩
    · rcases al_r a3 h with ⟨r, hr, rfl, c3, m3⟩ | ⟨c3, m3⟩
      · rcases fo_ hr (H.2.1 r hr) with ⟨f, hf, hf0, w1, w2⟩ | ⟨R, Q, w1, w2⟩
        · refine rd_ H (f + 2) 0 0 (by omega) ?_ (fun h' S => ?_)
          · unfold ff_X7_odds
            rw [gd_t B, c1, Option.bind_some, if_neg n10, c2, Option.bind_some, if_neg n10, c3, if_neg n10, w1, Option.bind_some, if_neg (nI_ne0 (by omega) (by omega)), rfC hf]; rfl
          · unfold ff_X8_odds
            rw [S.iT (D := D) m1, if_neg n10, S.iH m2, if_neg n10, w2 h' S]; rfl
        · obtain ⟨k, hk⟩ := fu_ (d_m D) (by omega)
          have eM : ∀ h', sm_ h h' → ff_X8_odds (nI t) (nI i) (nI r) h' = if lg_cmp (lN (sN_ (wM_ D t R) (d_m D) 0 0)) 0 = 0 then some (-3, mre_ 4 h') else (ff_X8_part (lN (wM_ D t R i)) (lN (sN_ (wM_ D t R) (d_m D) 0 0)) h').bind fun v8 => some (v8.1, v8.2) := by
            intro h' S
            unfold ff_X8_odds
            rw [S.iT (D := D) m1, if_neg n10, S.iH m2, if_neg n10, w2 h' S, Option.bind_some]
            dsimp only
            rw [if_pos (show (0 : Int32) ≤ 0 by decide), hk]
            refine (od_M K (S.oM M) ht hr (S.rR hr Q) (d_m D) 0 k 0 (by omega)).trans ?_
            rw [wt_M K (S.oM M) ht hi hr (S.rR hr Q), Option.bind_some, show ((ff_X8_meet (4 : Int32) h').bind fun v9 => some (v9.1, v9.2)) = some (-3, mre_ 4 h') from rfM (f := 4) (by decide)]
          have bM := sN_b (f := wM_ D t R) (fun i => wM_b i) (d_m D) 0 0
          have bM2 : d_m D * 60 ^ 4 ≤ 5 * 60 ^ 4 := Nat.mul_le_mul_right _ m5
          by_cases ex : ∃ y, y < d_m D ∧ fi2_ D t R y = true
          · obtain ⟨y, hy, fy⟩ := ex
            have hm0 : ¬ hm_ D R t = 0 := by
              intro w
              have hb : ((hm_ D R t >>> (nI y &&& 31)) &&& 1) = bI_ (fi2_ D t R y) := bit_ m5 hy
              rw [w, fy] at hb
              rcases (show y = 0 ∨ y = 1 ∨ y = 2 ∨ y = 3 ∨ y = 4 by omega) with rfl | rfl | rfl | rfl | rfl <;> exact absurd hb (by decide)
            have pos1 : 0 < wC_ D t R y := by
              unfold wC_
              rw [if_pos fy]
              exact pp_pos (fun k => pr_pos (fun j => sd_pos) 4 0 1 (by decide)) _ _ _ (by decide)
            have relY := w_rel (R := R) K ht y hy
            have P0 : 0 < pp_ (fi2_ D t R) (S_ D t) (d_m D) 0 1 := pp_pos (fun k => pr_pos (fun j => sd_pos) 4 0 1 (by decide)) _ _ _ (by decide)
            have pos2 : 0 < wM_ D t R y := by
              rcases Nat.eq_zero_or_pos (wM_ D t R y) with q | q
              · rw [q, Nat.zero_mul] at relY
                have : 0 < wC_ D t R y * 60 ^ 4 := Nat.mul_pos pos1 (by decide)
                omega
              · exact q
            have tC := sN_i (f := wC_ D t R) (i := y) (d_m D) 0 0 (Nat.zero_le _) (by omega)
            have tM := sN_i (f := wM_ D t R) (i := y) (d_m D) 0 0 (Nat.zero_le _) (by omega)
            have bC := sN_b (f := wC_ D t R) (fun i => wC_b K ht i) (d_m D) 0 0
            have bC2 : d_m D * 625 ^ 5 ≤ 5 * 625 ^ 5 := Nat.mul_le_mul_right _ m5
            have bCi := wC_b (R := R) K ht i
            have bMi := wM_b (D := D) (t := t) (R := R) i
            have rel1 := w_rel (R := R) K ht i hi
            have rel2 := sN_r (w_rel (R := R) K ht) (d_m D) 0 0 0 (by omega) (by rw [Nat.zero_mul, Nat.zero_mul])
            refine rdF_ H (wC_ D t R i / Nat.gcd (wC_ D t R i) (sN_ (wC_ D t R) (d_m D) 0 0)) (sN_ (wC_ D t R) (d_m D) 0 0 / Nat.gcd (wC_ D t R i) (sN_ (wC_ D t R) (d_m D) 0 0)) ?_ (fun h' S => ?_)
            · unfold ff_X7_odds
              rw [gd_t B, c1, Option.bind_some, if_neg n10, c2, Option.bind_some, if_neg n10, c3, if_neg n10, w1, Option.bind_some, if_pos rfl, gd_n hr (by decide), nI_clamp (by omega), hb_C K C ht hr Q, Option.bind_some, if_neg hm0, hk]
              refine (od_C B K C ht hi (d_m D) 0 k 0 (by omega)).trans ?_
              rw [tf_C49 (by omega) (by omega) (by omega)]; rfl
            · rw [eM h' S, if_neg (fun w => by have := (cmp0 (by omega)).mp w; omega), tf_M (by omega) (by omega) (by omega), fr_eq P0 (by decide) rel1 rel2, fr_eq2 P0 (by decide) rel1 rel2]; rfl
          · have al : ∀ y, y < d_m D → fi2_ D t R y = false := fun y hy => Bool.eq_false_iff.mpr (fun w => ex ⟨y, hy, w⟩)
            have hm0 : hm_ D R t = 0 := msk_0 _ _ _ (fun y _ hy => al y (by omega))
            have t0 : sN_ (wM_ D t R) (d_m D) 0 0 = 0 := by
              have w := sN_r (f := wM_ D t R) (g := fun _ => 0) (P := 1) (Q := 1) (N := d_m D) (fun y hy => by
                unfold wM_
                rw [al y hy, if_neg (by decide), pr_x, Nat.zero_mul]) (d_m D) 0 0 0 (by omega) rfl
              have z : ∀ d k, sN_ (fun _ => 0) d k 0 = 0 := by
                intro d
                induction d with
                | zero => intro k; rfl
                | succ d ih => intro k; rw [sN_]; exact ih _
              rw [z, Nat.mul_one, Nat.mul_one] at w
              exact w
            refine rd_ H 6 0 0 (by decide) ?_ (fun h' S => ?_)
            · unfold ff_X7_odds
              rw [gd_t B, c1, Option.bind_some, if_neg n10, c2, Option.bind_some, if_neg n10, c3, if_neg n10, w1, Option.bind_some, if_pos rfl, gd_n hr (by decide), nI_clamp (by omega), hb_C K C ht hr Q, Option.bind_some, if_pos hm0]
              exact rfC (f := 4) (by decide)
            · rw [eM h' S, t0, if_pos ((cmp0 (by decide)).mpr rfl)]; rfl
      · refine rd_ H 0 (-1) 0 (by decide) ?_ (fun h' S => ?_)
        · unfold ff_X7_odds
          rw [gd_t B, c1, Option.bind_some, if_neg n10, c2, Option.bind_some, if_neg n10, c3, if_pos rfl]; rfl
        · unfold ff_X8_odds ff_X8_askedReading
          rw [S.iT (D := D) m1, if_neg n10, S.iH m2, if_neg n10, ar_b m3]; rfl
    · refine rd_ H 0 (-1) 0 (by decide) ?_ (fun h' S => ?_)
      · unfold ff_X7_odds
        rw [gd_t B, c1, Option.bind_some, if_neg n10, c2, Option.bind_some, if_pos rfl]; rfl
      · unfold ff_X8_odds
        rw [S.iT (D := D) m1, if_neg n10, S.iH m2, if_pos rfl]; rfl
  · refine rd_ H 0 (-1) 0 (by decide) ?_ (fun h' S => ?_)
    · unfold ff_X7_odds
      rw [gd_t B, c1, Option.bind_some, if_pos rfl]; rfl
    · unfold ff_X8_odds
      rw [S.iT (D := D) m1, if_pos rfl]; rfl
