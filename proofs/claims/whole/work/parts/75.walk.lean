theorem ss_X8_tells_33 {Z : zz_} (C : cx_ Z mt_X8_tells 3) {r9 : Int32} {h9 : hh_} {x1 : Int32} {h : hh_} {K33_67 : Option (Int32 × hh_)} (Q : rq_ Z (some (.int r9)) h9) (hK33_67 : K33_67 = some (r9, h9) → xx_ Z 67 [some (.ref 98), some (.int x1), none, none, none, none, none, none, none] [] h) : ∀ (n9 : Nat) (x3 : Int32), ff_X8_tells_33 x1 h K33_67 n9 x3 = some (r9, h9) → xx_ Z 33 [some (.ref 98), some (.int x1), none, some (.int x3), none, none, none, none, none] [] h := by
  intro n9
  induction n9 with
  | zero =>
    intro x3 hf
    exact absurd hf (by rw [ff_X8_tells_33]; exact nofun)
  | succ n9 ih =>
    intro x3 hf
    rw [ff_X8_tells_33] at hf
    refine xx_iload_n C (dd_X8_tells.at 21 rfl) rfl ?_
    refine xx_aload_n C (dd_X8_tells.at 22 rfl) rfl (Nat.le_of_ble_eq_true rfl) ?_
    refine xx_getI (j := 10) C ck_7 (lb_ rfl) lf_RX8_141 sh_k98 rfl (dd_X8_tells.at 23 rfl) ?_
    rcases ifo_ hf with ⟨hc, hf⟩ | ⟨hc, hf⟩
    · refine xx_icmp_ge_t (tgt := 67) C (dd_X8_tells.at 24 rfl) (by decide) hc ?_
      exact xx_mask [true, true, false, false, false, false, false, false, false] (hK33_67  hf)
    · refine xx_icmp_ge_f (tgt := 67) C (dd_X8_tells.at 24 rfl) (by decide) hc ?_
      refine xx_aload_n C (dd_X8_tells.at 25 rfl) rfl (Nat.le_of_ble_eq_true rfl) ?_
      refine xx_iload_n C (dd_X8_tells.at 26 rfl) rfl ?_
      refine xx_iload_n C (dd_X8_tells.at 27 rfl) rfl ?_
      obtain ⟨v4, e5, hf⟩ := bdo_ hf
      refine xx_callVi C (ss_X8_rowAt e5) (dd_X8_tells.at 28 rfl) ck_7 rfl sh_k98 kk_X8_rowAt ki_X8_rowAt lm_RX8_94 (lb_ rfl) rfl rfl (lb_ rfl) ?_
      refine xx_iconst C (dd_X8_tells.at 29 rfl) ic_0 ?_
      refine xx_iconst C (dd_X8_tells.at 30 rfl) ic_1 ?_
      refine xx_callSi C (ss_X8_in rfl) (dd_X8_tells.at 31 rfl) kk_X8_in ks_X8_in lm_RX8_72 (lb_ rfl) rfl rfl (lb_ rfl) ?_
      rcases ifo_ hf with ⟨hc, hf⟩ | ⟨hc, hf⟩
      · refine xx_if_ne_f (tgt := 61) C (dd_X8_tells.at 32 rfl) (by decide) (not_not_intro hc) ?_
        refine xx_aload_n C (dd_X8_tells.at 33 rfl) rfl (Nat.le_of_ble_eq_true rfl) ?_
        refine xx_iconst C (dd_X8_tells.at 34 rfl) ic_3 ?_
        obtain ⟨v6, e7, hf⟩ := bdo_ hf
        refine xx_callVi C (ss_X8_meet (pz_ e7)) (dd_X8_tells.at 35 rfl) ck_7 rfl sh_k98 kk_X8_meet ki_X8_meet lm_RX8_80 (lb_ rfl) rfl rfl (lb_ rfl) ?_
        exact xx_ireturn C (rt_iwp hf Q) (dd_X8_tells.at 36 rfl) rfl
      · refine xx_if_ne_t (tgt := 61) C (dd_X8_tells.at 32 rfl) (by decide) hc ?_
        refine xx_iinc (v := _ + (1 : Int32)) (lv' := [_, _, _, _, _, _, _, _, _]) C (dd_X8_tells.at 37 rfl) (lb_ rfl) rfl (by rw [ic_1]) rfl ?_
        refine xx_goto (tgt := 33) C (dd_X8_tells.at 38 rfl) (by decide) ?_
        exact xx_mask [true, true, false, true, false, false, false, false, false] (ih _ hf)
theorem ss_X8_tells_122 {Z : zz_} (C : cx_ Z mt_X8_tells 3) {r9 : Int32} {h9 : hh_} {x1 : Int32} {x3 : Int32} {x4 : Int32} {x5 : Int32} {x6 : Int32} {h : hh_} {K122_123 : Int32 → Option (Int32 × hh_)} (Q : rq_ Z (some (.int r9)) h9) (hK122_123 : ∀ (w0 : Int32), K122_123 w0 = some (r9, h9) → xx_ Z 123 [some (.ref 98), some (.int x1), none, some (.int x3), some (.int x4), some (.int x5), some (.int x6), none, none] [.int w0] h) (hf : ff_X8_tells_122 x1 x3 x4 x5 x6 h K122_123 = some (r9, h9)) : xx_ Z 122 [some (.ref 98), some (.int x1), none, some (.int x3), some (.int x4), some (.int x5), some (.int x6), none, none] [] h := by
  unfold ff_X8_tells_122 at hf
  refine xx_iconst C (dd_X8_tells.at 68 rfl) ic_0 ?_
  exact xx_mask [true, true, false, true, true, true, true, false, false] (hK122_123 _ hf)
theorem ss_X8_tells_151 {Z : zz_} (C : cx_ Z mt_X8_tells 3) {r9 : Int32} {h9 : hh_} {x1 : Int32} {x3 : Int32} {x5 : Int32} {x6 : Int32} {x7 : Int32} {y0 : Int32} {h : hh_} {K151_152 : Int32 → Int32 → Option (Int32 × hh_)} (Q : rq_ Z (some (.int r9)) h9) (hK151_152 : ∀ (w0 : Int32) (w1 : Int32), K151_152 w0 w1 = some (r9, h9) → xx_ Z 152 [some (.ref 98), some (.int x1), none, some (.int x3), none, some (.int x5), some (.int x6), some (.int x7), none] [.int w1, .int w0] h) (hf : ff_X8_tells_151 x1 x3 x5 x6 x7 y0 h K151_152 = some (r9, h9)) : xx_ Z 151 [some (.ref 98), some (.int x1), none, some (.int x3), none, some (.int x5), some (.int x6), some (.int x7), none] [.int y0] h := by
  unfold ff_X8_tells_151 at hf
  refine xx_iconst C (dd_X8_tells.at 82 rfl) ic_0 ?_
  exact xx_mask [true, true, false, true, false, true, true, true, false] (hK151_152 _ _ hf)
theorem ss_X8_tells_158 {Z : zz_} (C : cx_ Z mt_X8_tells 3) {r9 : Int32} {h9 : hh_} {x1 : Int32} {x4 : Int32} {x5 : Int32} {x6 : Int32} {x7 : Int32} {h : hh_} {K158_207 : Int32 → Option (Int32 × hh_)} (Q : rq_ Z (some (.int r9)) h9) (hK158_207 : ∀ (z3 : Int32), K158_207 z3 = some (r9, h9) → xx_ Z 207 [some (.ref 98), some (.int x1), none, some (.int z3), some (.int x4), some (.int x5), some (.int x6), none, none] [] h) : ∀ (n9 : Nat) (x3 : Int32) (x8 : Int32), ff_X8_tells_158 x1 x4 x5 x6 x7 h K158_207 n9 x3 x8 = some (r9, h9) → xx_ Z 158 [some (.ref 98), some (.int x1), none, some (.int x3), some (.int x4), some (.int x5), some (.int x6), some (.int x7), some (.int x8)] [] h := by
  intro n9
  induction n9 with
  | zero =>
    intro x3 x8 hf
    exact absurd hf (by rw [ff_X8_tells_158]; exact nofun)
  | succ n9 ih =>
    intro x3 x8 hf
    rw [ff_X8_tells_158] at hf
    refine xx_iload C (dd_X8_tells.at 87 rfl) rfl ?_
    refine xx_iconst C (dd_X8_tells.at 88 rfl) ic_4 ?_
    rcases ifo_ hf with ⟨hc, hf⟩ | ⟨hc, hf⟩
    · refine xx_icmp_ge_t (tgt := 207) C (dd_X8_tells.at 89 rfl) (by decide) hc ?_
      exact xx_mask [true, true, false, true, true, true, true, false, false] (hK158_207 _ hf)
    · refine xx_icmp_ge_f (tgt := 207) C (dd_X8_tells.at 89 rfl) (by decide) hc ?_
      refine xx_iload_n C (dd_X8_tells.at 90 rfl) rfl ?_
      refine xx_iload C (dd_X8_tells.at 91 rfl) rfl ?_
      rcases ifo_ hf with ⟨hc, hf⟩ | ⟨hc, hf⟩
      · refine xx_if_eq_t (tgt := 198) C (dd_X8_tells.at 92 rfl) (by decide) hc ?_
        refine xx_iconst C (dd_X8_tells.at 108 rfl) ic_m1 ?_
        refine xx_iand C (dd_X8_tells.at 109 rfl) ?_
        refine xx_istore_n (lv' := [_, _, _, _, _, _, _, _, _]) C (dd_X8_tells.at 110 rfl) (lb_ rfl) rfl ?_
        refine xx_iinc (v := _ + (1 : Int32)) (lv' := [_, _, _, _, _, _, _, _, _]) C (dd_X8_tells.at 111 rfl) (lb_ rfl) rfl (by rw [ic_1]) rfl ?_
        refine xx_goto (tgt := 158) C (dd_X8_tells.at 112 rfl) (by decide) ?_
        exact xx_mask [true, true, false, true, true, true, true, true, true] (ih _ _ hf)
      · refine xx_if_eq_f (tgt := 198) C (dd_X8_tells.at 92 rfl) (by decide) hc ?_
        refine xx_aload_n C (dd_X8_tells.at 93 rfl) rfl (Nat.le_of_ble_eq_true rfl) ?_
        refine xx_iload C (dd_X8_tells.at 94 rfl) rfl ?_
        refine xx_iload C (dd_X8_tells.at 95 rfl) rfl ?_
        obtain ⟨v13, e14, hf⟩ := bdo_ hf
        refine xx_callVi C (ss_X8_bump e14) (dd_X8_tells.at 96 rfl) ck_7 rfl sh_k98 kk_X8_bump ki_X8_bump lm_RX8_153 (lb_ rfl) rfl rfl (lb_ rfl) ?_
        refine xx_aload_n C (dd_X8_tells.at 97 rfl) rfl (Nat.le_of_ble_eq_true rfl) ?_
        refine xx_iload C (dd_X8_tells.at 98 rfl) rfl ?_
        refine xx_iload C (dd_X8_tells.at 99 rfl) rfl ?_
        obtain ⟨v15, e16, hf⟩ := bdo_ hf
        refine xx_callVi C (ss_X8_bump e16) (dd_X8_tells.at 100 rfl) ck_7 rfl sh_k98 kk_X8_bump ki_X8_bump lm_RX8_153 (lb_ rfl) rfl rfl (lb_ rfl) ?_
        rcases ifo_ hf with ⟨hc, hf⟩ | ⟨hc, hf⟩
        · refine xx_icmp_gt_t (tgt := 198) C (dd_X8_tells.at 101 rfl) (by decide) hc ?_
          refine xx_iconst C (dd_X8_tells.at 108 rfl) ic_m1 ?_
          refine xx_iand C (dd_X8_tells.at 109 rfl) ?_
          refine xx_istore_n (lv' := [_, _, _, _, _, _, _, _, _]) C (dd_X8_tells.at 110 rfl) (lb_ rfl) rfl ?_
          refine xx_iinc (v := _ + (1 : Int32)) (lv' := [_, _, _, _, _, _, _, _, _]) C (dd_X8_tells.at 111 rfl) (lb_ rfl) rfl (by rw [ic_1]) rfl ?_
          refine xx_goto (tgt := 158) C (dd_X8_tells.at 112 rfl) (by decide) ?_
          exact xx_mask [true, true, false, true, true, true, true, true, true] (ih _ _ hf)
        · refine xx_icmp_gt_f (tgt := 198) C (dd_X8_tells.at 101 rfl) (by decide) hc ?_
          refine xx_iconst C (dd_X8_tells.at 102 rfl) ic_1 ?_
          refine xx_iload C (dd_X8_tells.at 103 rfl) rfl ?_
          refine xx_ishl C (dd_X8_tells.at 104 rfl) ?_
          refine xx_iconst C (dd_X8_tells.at 105 rfl) ic_m1 ?_
          refine xx_ixor C (dd_X8_tells.at 106 rfl) ?_
          refine xx_goto (tgt := 199) C (dd_X8_tells.at 107 rfl) (by decide) ?_
          refine xx_iand C (dd_X8_tells.at 109 rfl) ?_
          refine xx_istore_n (lv' := [_, _, _, _, _, _, _, _, _]) C (dd_X8_tells.at 110 rfl) (lb_ rfl) rfl ?_
          refine xx_iinc (v := _ + (1 : Int32)) (lv' := [_, _, _, _, _, _, _, _, _]) C (dd_X8_tells.at 111 rfl) (lb_ rfl) rfl (by rw [ic_1]) rfl ?_
          refine xx_goto (tgt := 158) C (dd_X8_tells.at 112 rfl) (by decide) ?_
          exact xx_mask [true, true, false, true, true, true, true, true, true] (ih _ _ hf)
theorem ss_X8_tells_152 {Z : zz_} (C : cx_ Z mt_X8_tells 3) {r9 : Int32} {h9 : hh_} {x1 : Int32} {x3 : Int32} {x5 : Int32} {x6 : Int32} {x7 : Int32} {y0 : Int32} {y1 : Int32} {h : hh_} {K152_88 : Int32 → Int32 → Int32 → Option (Int32 × hh_)} (Q : rq_ Z (some (.int r9)) h9) (hK152_88 : ∀ (z3 : Int32) (z4 : Int32) (z6 : Int32), K152_88 z3 z4 z6 = some (r9, h9) → xx_ Z 88 [some (.ref 98), some (.int x1), none, some (.int z3), some (.int z4), some (.int x5), some (.int z6), none, none] [] h) (hf : ff_X8_tells_152 x1 x3 x5 x6 x7 y0 y1 h K152_88 = some (r9, h9)) : xx_ Z 152 [some (.ref 98), some (.int x1), none, some (.int x3), none, some (.int x5), some (.int x6), some (.int x7), none] [.int y1, .int y0] h := by
  unfold ff_X8_tells_152 at hf
  refine xx_iadd C (dd_X8_tells.at 83 rfl) ?_
  refine xx_istore (lv' := [_, _, _, _, _, _, _, _, _]) C (dd_X8_tells.at 84 rfl) (lb_ rfl) rfl ?_
  refine xx_iconst C (dd_X8_tells.at 85 rfl) ic_0 ?_
  refine xx_istore (lv' := [_, _, _, _, _, _, _, _, _]) C (dd_X8_tells.at 86 rfl) (lb_ rfl) rfl ?_
  refine xx_mask [true, true, false, true, true, true, true, true, true] (ss_X8_tells_158 C Q (fun u17 hf => ?_) _ _ _ hf)
  refine xx_iinc (v := _ + (1 : Int32)) (lv' := [_, _, _, _, _, _, _, _, _]) C (dd_X8_tells.at 113 rfl) (lb_ rfl) rfl (by rw [ic_1]) rfl ?_
  refine xx_goto (tgt := 88) C (dd_X8_tells.at 114 rfl) (by decide) ?_
  exact xx_mask [true, true, false, true, true, true, true, false, false] (hK152_88 _ _ _ hf)
theorem ss_X8_tells_123 {Z : zz_} (C : cx_ Z mt_X8_tells 3) {r9 : Int32} {h9 : hh_} {x1 : Int32} {x3 : Int32} {x4 : Int32} {x5 : Int32} {x6 : Int32} {y0 : Int32} {h : hh_} {K123_88 : Int32 → Int32 → Int32 → Option (Int32 × hh_)} (Q : rq_ Z (some (.int r9)) h9) (hK123_88 : ∀ (z3 : Int32) (z4 : Int32) (z6 : Int32), K123_88 z3 z4 z6 = some (r9, h9) → xx_ Z 88 [some (.ref 98), some (.int x1), none, some (.int z3), some (.int z4), some (.int x5), some (.int z6), none, none] [] h) (hf : ff_X8_tells_123 x1 x3 x4 x5 x6 y0 h K123_88 = some (r9, h9)) : xx_ Z 123 [some (.ref 98), some (.int x1), none, some (.int x3), some (.int x4), some (.int x5), some (.int x6), none, none] [.int y0] h := by
  unfold ff_X8_tells_123 at hf
  refine xx_istore (lv' := [_, _, _, _, _, _, _, _, _]) C (dd_X8_tells.at 69 rfl) (lb_ rfl) rfl ?_
  refine xx_iload C (dd_X8_tells.at 70 rfl) rfl ?_
  refine xx_iload C (dd_X8_tells.at 71 rfl) rfl ?_
  rcases ifo_ hf with ⟨hc, hf⟩ | ⟨hc, hf⟩
  · refine xx_if_eq_t (tgt := 151) C (dd_X8_tells.at 72 rfl) (by decide) hc ?_
    refine xx_mask [true, true, false, true, false, true, true, true, false] (ss_X8_tells_151 C Q (fun q11 q12 hf => ?_) hf)
    exact xx_mask [true, true, false, true, false, true, true, true, false] (ss_X8_tells_152 C Q hK123_88 hf)
  · refine xx_if_eq_f (tgt := 151) C (dd_X8_tells.at 72 rfl) (by decide) hc ?_
    refine xx_aload_n C (dd_X8_tells.at 73 rfl) rfl (Nat.le_of_ble_eq_true rfl) ?_
    refine xx_iload C (dd_X8_tells.at 74 rfl) rfl ?_
    obtain ⟨v18, e19, hf⟩ := bdo_ hf
    refine xx_callVi C (ss_X8_bumps e19) (dd_X8_tells.at 75 rfl) ck_7 rfl sh_k98 kk_X8_bumps ki_X8_bumps lm_RX8_156 (lb_ rfl) rfl rfl (lb_ rfl) ?_
    refine xx_aload_n C (dd_X8_tells.at 76 rfl) rfl (Nat.le_of_ble_eq_true rfl) ?_
    refine xx_iload C (dd_X8_tells.at 77 rfl) rfl ?_
    obtain ⟨v20, e21, hf⟩ := bdo_ hf
    refine xx_callVi C (ss_X8_bumps e21) (dd_X8_tells.at 78 rfl) ck_7 rfl sh_k98 kk_X8_bumps ki_X8_bumps lm_RX8_156 (lb_ rfl) rfl rfl (lb_ rfl) ?_
    rcases ifo_ hf with ⟨hc, hf⟩ | ⟨hc, hf⟩
    · refine xx_icmp_le_t (tgt := 151) C (dd_X8_tells.at 79 rfl) (by decide) hc ?_
      refine xx_mask [true, true, false, true, false, true, true, true, false] (ss_X8_tells_151 C Q (fun q22 q23 hf => ?_) hf)
      exact xx_mask [true, true, false, true, false, true, true, true, false] (ss_X8_tells_152 C Q hK123_88 hf)
    · refine xx_icmp_le_f (tgt := 151) C (dd_X8_tells.at 79 rfl) (by decide) hc ?_
      refine xx_iconst C (dd_X8_tells.at 80 rfl) ic_1 ?_
      refine xx_goto (tgt := 152) C (dd_X8_tells.at 81 rfl) (by decide) ?_
      exact xx_mask [true, true, false, true, false, true, true, true, false] (ss_X8_tells_152 C Q hK123_88 hf)
theorem ss_X8_tells_88 {Z : zz_} (C : cx_ Z mt_X8_tells 3) {r9 : Int32} {h9 : hh_} {x1 : Int32} {x5 : Int32} {h : hh_} {K88_213 : Int32 → Int32 → Option (Int32 × hh_)} (Q : rq_ Z (some (.int r9)) h9) (hK88_213 : ∀ (z3 : Int32) (z4 : Int32), K88_213 z3 z4 = some (r9, h9) → xx_ Z 213 [some (.ref 98), some (.int x1), none, some (.int z3), some (.int z4), some (.int x5), none, none, none] [] h) : ∀ (n9 : Nat) (x3 : Int32) (x4 : Int32) (x6 : Int32), ff_X8_tells_88 x1 x5 h K88_213 n9 x3 x4 x6 = some (r9, h9) → xx_ Z 88 [some (.ref 98), some (.int x1), none, some (.int x3), some (.int x4), some (.int x5), some (.int x6), none, none] [] h := by
  intro n9
  induction n9 with
  | zero =>
    intro x3 x4 x6 hf
    exact absurd hf (by rw [ff_X8_tells_88]; exact nofun)
  | succ n9 ih =>
    intro x3 x4 x6 hf
    rw [ff_X8_tells_88] at hf
    refine xx_iload C (dd_X8_tells.at 51 rfl) rfl ?_
    refine xx_aload_n C (dd_X8_tells.at 52 rfl) rfl (Nat.le_of_ble_eq_true rfl) ?_
    refine xx_getI (j := 10) C ck_7 (lb_ rfl) lf_RX8_141 sh_k98 rfl (dd_X8_tells.at 53 rfl) ?_
    rcases ifo_ hf with ⟨hc, hf⟩ | ⟨hc, hf⟩
    · refine xx_icmp_ge_t (tgt := 213) C (dd_X8_tells.at 54 rfl) (by decide) hc ?_
      exact xx_mask [true, true, false, true, true, true, false, false, false] (hK88_213 _ _ hf)
    · refine xx_icmp_ge_f (tgt := 213) C (dd_X8_tells.at 54 rfl) (by decide) hc ?_
      refine xx_aload_n C (dd_X8_tells.at 55 rfl) rfl (Nat.le_of_ble_eq_true rfl) ?_
      refine xx_iload_n C (dd_X8_tells.at 56 rfl) rfl ?_
      refine xx_iload C (dd_X8_tells.at 57 rfl) rfl ?_
      obtain ⟨v8, e9, hf⟩ := bdo_ hf
      refine xx_callVi C (ss_X8_rowAt e9) (dd_X8_tells.at 58 rfl) ck_7 rfl sh_k98 kk_X8_rowAt ki_X8_rowAt lm_RX8_94 (lb_ rfl) rfl rfl (lb_ rfl) ?_
      refine xx_iconst C (dd_X8_tells.at 59 rfl) ic_1 ?_
      rcases ifo_ hf with ⟨hc, hf⟩ | ⟨hc, hf⟩
      · refine xx_icmp_ne_f (tgt := 122) C (dd_X8_tells.at 60 rfl) (by decide) (not_not_intro hc) ?_
        refine xx_aload_n C (dd_X8_tells.at 61 rfl) rfl (Nat.le_of_ble_eq_true rfl) ?_
        refine xx_iload_n C (dd_X8_tells.at 62 rfl) rfl ?_
        refine xx_iload C (dd_X8_tells.at 63 rfl) rfl ?_
        obtain ⟨v24, e25, hf⟩ := bdo_ hf
        refine xx_callVi C (ss_X8_rowAt e25) (dd_X8_tells.at 64 rfl) ck_7 rfl sh_k98 kk_X8_rowAt ki_X8_rowAt lm_RX8_94 (lb_ rfl) rfl rfl (lb_ rfl) ?_
        rcases ifo_ hf with ⟨hc, hf⟩ | ⟨hc, hf⟩
        · refine xx_if_ne_f (tgt := 122) C (dd_X8_tells.at 65 rfl) (by decide) (not_not_intro hc) ?_
          refine xx_iconst C (dd_X8_tells.at 66 rfl) ic_1 ?_
          refine xx_goto (tgt := 123) C (dd_X8_tells.at 67 rfl) (by decide) ?_
          exact xx_mask [true, true, false, true, true, true, true, false, false] (ss_X8_tells_123 C Q (fun _ _ _ hf => ih _ _ _ hf) hf)
        · refine xx_if_ne_t (tgt := 122) C (dd_X8_tells.at 65 rfl) (by decide) hc ?_
          refine xx_mask [true, true, false, true, true, true, true, false, false] (ss_X8_tells_122 C Q (fun q26 hf => ?_) hf)
          exact xx_mask [true, true, false, true, true, true, true, false, false] (ss_X8_tells_123 C Q (fun _ _ _ hf => ih _ _ _ hf) hf)
      · refine xx_icmp_ne_t (tgt := 122) C (dd_X8_tells.at 60 rfl) (by decide) hc ?_
        refine xx_mask [true, true, false, true, true, true, true, false, false] (ss_X8_tells_122 C Q (fun q10 hf => ?_) hf)
        exact xx_mask [true, true, false, true, true, true, true, false, false] (ss_X8_tells_123 C Q (fun _ _ _ hf => ih _ _ _ hf) hf)
theorem ss_X8_tells_76 {Z : zz_} (C : cx_ Z mt_X8_tells 3) {r9 : Int32} {h9 : hh_} {x1 : Int32} {h : hh_}  (Q : rq_ Z (some (.int r9)) h9) : ∀ (n9 : Nat) (x3 : Int32) (x4 : Int32) (x5 : Int32), ff_X8_tells_76 x1 h n9 x3 x4 x5 = some (r9, h9) → xx_ Z 76 [some (.ref 98), some (.int x1), none, some (.int x3), some (.int x4), some (.int x5), none, none, none] [] h := by
  intro n9
  induction n9 with
  | zero =>
    intro x3 x4 x5 hf
    exact absurd hf (by rw [ff_X8_tells_76]; exact nofun)
  | succ n9 ih =>
    intro x3 x4 x5 hf
    rw [ff_X8_tells_76] at hf
    refine xx_iload C (dd_X8_tells.at 45 rfl) rfl ?_
    refine xx_aload_n C (dd_X8_tells.at 46 rfl) rfl (Nat.le_of_ble_eq_true rfl) ?_
    refine xx_getI (j := 10) C ck_7 (lb_ rfl) lf_RX8_141 sh_k98 rfl (dd_X8_tells.at 47 rfl) ?_
    rcases ifo_ hf with ⟨hc, hf⟩ | ⟨hc, hf⟩
    · refine xx_icmp_ge_t (tgt := 219) C (dd_X8_tells.at 48 rfl) (by decide) hc ?_
      refine xx_aload_n C (dd_X8_tells.at 117 rfl) rfl (Nat.le_of_ble_eq_true rfl) ?_
      refine xx_iload C (dd_X8_tells.at 118 rfl) rfl ?_
      refine xx_iload_n C (dd_X8_tells.at 119 rfl) rfl ?_
      refine xx_callVi C (ss_X8_ask pe_) (dd_X8_tells.at 120 rfl) ck_7 rfl sh_k98 kk_X8_ask ki_X8_ask lm_RX8_98 (lb_ rfl) rfl rfl (lb_ rfl) ?_
      exact xx_ireturn C (rt_iwp hf Q) (dd_X8_tells.at 121 rfl) rfl
    · refine xx_icmp_ge_f (tgt := 219) C (dd_X8_tells.at 48 rfl) (by decide) hc ?_
      refine xx_iconst C (dd_X8_tells.at 49 rfl) ic_0 ?_
      refine xx_istore (lv' := [_, _, _, _, _, _, _, _, _]) C (dd_X8_tells.at 50 rfl) (lb_ rfl) rfl ?_
      refine xx_mask [true, true, false, true, true, true, true, false, false] (ss_X8_tells_88 C Q (fun u27 u28 hf => ?_) _ _ _ _ hf)
      refine xx_iinc (v := _ + (1 : Int32)) (lv' := [_, _, _, _, _, _, _, _, _]) C (dd_X8_tells.at 115 rfl) (lb_ rfl) rfl (by rw [ic_1]) rfl ?_
      refine xx_goto (tgt := 76) C (dd_X8_tells.at 116 rfl) (by decide) ?_
      exact xx_mask [true, true, false, true, true, true, false, false, false] (ih _ _ _ hf)
theorem ss_X8_tells {l : Launch} {G : gt_} {a1 : Int32} {h : hh_} {r9 : Int32} {h9 : hh_}  (hf : ff_X8_tells a1 h = some (r9, h9)) : ok_ l G 3 mt_X8_tells [.ref 98, .int a1] h (some (.int r9)) h9 := by
  refine ok_of pn_RX8 (lb_ rfl) (fun Z _ _ C Q => ?_)
  show xx_ Z 0 [some (.ref 98), some (.int a1), none, none, none, none, none, none, none] [] h
  unfold ff_X8_tells at hf
  refine xx_aload_n C (dd_X8_tells.at 0 rfl) rfl (Nat.le_of_ble_eq_true rfl) ?_
  refine xx_iload_n C (dd_X8_tells.at 1 rfl) rfl ?_
  obtain ⟨v1, e2, hf⟩ := bdo_ hf
  refine xx_callVi C (ss_X8_askedRow (pz_ e2)) (dd_X8_tells.at 2 rfl) ck_7 rfl sh_k98 kk_X8_askedRow ki_X8_askedRow lm_RX8_91 (lb_ rfl) rfl rfl (lb_ rfl) ?_
  refine xx_istore_n (lv' := [_, _, _, _, _, _, _, _, _]) C (dd_X8_tells.at 3 rfl) (lb_ rfl) rfl ?_
  refine xx_iload_n C (dd_X8_tells.at 4 rfl) rfl ?_
  rcases ifo_ hf with ⟨hc, hf⟩ | ⟨hc, hf⟩
  · refine xx_if_ge_t (tgt := 12) C (dd_X8_tells.at 5 rfl) (by decide) hc ?_
    refine xx_aload_n C (dd_X8_tells.at 8 rfl) rfl (Nat.le_of_ble_eq_true rfl) ?_
    refine xx_getR (j := 5) (r := 100) C ck_7 (lb_ rfl) lf_RX8_17 sh_k98 rfl (lb_ rfl) rfl (dd_X8_tells.at 9 rfl) ?_
    refine xx_iload_n C (dd_X8_tells.at 10 rfl) rfl ?_
    obtain ⟨g3, hf⟩ := gd_ok hf
    refine xx_iaload C (dd_X8_tells.at 11 rfl) sh_k100 (bi_ok g3) ?_
    refine xx_aload_n C (dd_X8_tells.at 12 rfl) rfl (Nat.le_of_ble_eq_true rfl) ?_
    refine xx_getI (j := 10) C ck_7 (lb_ rfl) lf_RX8_141 sh_k98 rfl (dd_X8_tells.at 13 rfl) ?_
    rcases ifo_ hf with ⟨hc, hf⟩ | ⟨hc, hf⟩
    · refine xx_icmp_eq_t (tgt := 31) C (dd_X8_tells.at 14 rfl) (by decide) hc ?_
      refine xx_iconst C (dd_X8_tells.at 19 rfl) ic_0 ?_
      refine xx_istore_n (lv' := [_, _, _, _, _, _, _, _, _]) C (dd_X8_tells.at 20 rfl) (lb_ rfl) rfl ?_
      refine xx_mask [true, true, false, true, false, false, false, false, false] (ss_X8_tells_33 C Q (fun hf => ?_) _ _ hf)
      refine xx_bipush C (dd_X8_tells.at 39 rfl) bq_15 ?_
      refine xx_istore_n (lv' := [_, _, _, _, _, _, _, _, _]) C (dd_X8_tells.at 40 rfl) (lb_ rfl) rfl ?_
      refine xx_iconst C (dd_X8_tells.at 41 rfl) ic_0 ?_
      refine xx_istore (lv' := [_, _, _, _, _, _, _, _, _]) C (dd_X8_tells.at 42 rfl) (lb_ rfl) rfl ?_
      refine xx_iconst C (dd_X8_tells.at 43 rfl) ic_0 ?_
      refine xx_istore (lv' := [_, _, _, _, _, _, _, _, _]) C (dd_X8_tells.at 44 rfl) (lb_ rfl) rfl ?_
      exact xx_mask [true, true, false, true, true, true, false, false, false] (ss_X8_tells_76 C Q _ _ _ _ hf)
    · refine xx_icmp_eq_f (tgt := 31) C (dd_X8_tells.at 14 rfl) (by decide) hc ?_
      refine xx_aload_n C (dd_X8_tells.at 15 rfl) rfl (Nat.le_of_ble_eq_true rfl) ?_
      refine xx_iconst C (dd_X8_tells.at 16 rfl) ic_5 ?_
      obtain ⟨v29, e30, hf⟩ := bdo_ hf
      refine xx_callVi C (ss_X8_meet (pz_ e30)) (dd_X8_tells.at 17 rfl) ck_7 rfl sh_k98 kk_X8_meet ki_X8_meet lm_RX8_80 (lb_ rfl) rfl rfl (lb_ rfl) ?_
      exact xx_ireturn C (rt_iwp hf Q) (dd_X8_tells.at 18 rfl) rfl
  · refine xx_if_ge_f (tgt := 12) C (dd_X8_tells.at 5 rfl) (by decide) hc ?_
    refine xx_iload_n C (dd_X8_tells.at 6 rfl) rfl ?_
    exact xx_ireturn C (rt_iwp hf Q) (dd_X8_tells.at 7 rfl) rfl
theorem ss_X8_isAlone_20 {Z : zz_} (C : cx_ Z mt_X8_isAlone 4) {r9 : Int32} {x1 : Int32} {x2 : Int32} {x3 : Int32} {x4 : Int32} {h : hh_} {K20_75 : Int32 → Option (Int32)} (Q : rq_ Z (some (.int r9)) h) (hK20_75 : ∀ (z5 : Int32), K20_75 z5 = some r9 → xx_ Z 75 [some (.ref 98), some (.int x1), some (.int x2), some (.int x3), some (.int x4), some (.int z5), none] [] h) : ∀ (n9 : Nat) (x5 : Int32) (x6 : Int32), ff_X8_isAlone_20 x1 x2 x3 x4 h K20_75 n9 x5 x6 = some r9 → xx_ Z 20 [some (.ref 98), some (.int x1), some (.int x2), some (.int x3), some (.int x4), some (.int x5), some (.int x6)] [] h := by
  intro n9
  induction n9 with
  | zero =>
    intro x5 x6 hf
    exact absurd hf (by rw [ff_X8_isAlone_20]; exact nofun)
  | succ n9 ih =>
    intro x5 x6 hf
    rw [ff_X8_isAlone_20] at hf
    refine xx_iload C (dd_X8_isAlone.at 12 rfl) rfl ?_
    refine xx_iconst C (dd_X8_isAlone.at 13 rfl) ic_4 ?_
    rcases ifo_ hf with ⟨hc, hf⟩ | ⟨hc, hf⟩
    · refine xx_icmp_ge_t (tgt := 75) C (dd_X8_isAlone.at 14 rfl) (by decide) hc ?_
      exact xx_mask [true, true, true, true, true, true, false] (hK20_75 _ hf)
    · refine xx_icmp_ge_f (tgt := 75) C (dd_X8_isAlone.at 14 rfl) (by decide) hc ?_
      refine xx_iload C (dd_X8_isAlone.at 15 rfl) rfl ?_
      rcases ifo_ hf with ⟨hc, hf⟩ | ⟨hc, hf⟩
      · refine xx_if_eq_t (tgt := 66) C (dd_X8_isAlone.at 16 rfl) (by decide) hc ?_
        refine xx_iconst C (dd_X8_isAlone.at 35 rfl) ic_0 ?_
        refine xx_istore (lv' := [_, _, _, _, _, _, _]) C (dd_X8_isAlone.at 36 rfl) (lb_ rfl) rfl ?_
        refine xx_iinc (v := _ + (1 : Int32)) (lv' := [_, _, _, _, _, _, _]) C (dd_X8_isAlone.at 37 rfl) (lb_ rfl) rfl (by rw [ic_1]) rfl ?_
        refine xx_goto (tgt := 20) C (dd_X8_isAlone.at 38 rfl) (by decide) ?_
        exact xx_mask [true, true, true, true, true, true, true] (ih _ _ hf)
      · refine xx_if_eq_f (tgt := 66) C (dd_X8_isAlone.at 16 rfl) (by decide) hc ?_
        refine xx_aload_n C (dd_X8_isAlone.at 17 rfl) rfl (Nat.le_of_ble_eq_true rfl) ?_
        refine xx_getR (j := 29) (r := 114) C ck_7 (lb_ rfl) lf_RX8_59 sh_k98 rfl (lb_ rfl) rfl (dd_X8_isAlone.at 18 rfl) ?_
        refine xx_iload C (dd_X8_isAlone.at 19 rfl) rfl ?_
        obtain ⟨g2, hf⟩ := gd_ok hf
        refine xx_iaload C (dd_X8_isAlone.at 20 rfl) sh_k114 (bi_ok g2) ?_
        refine xx_aload_n C (dd_X8_isAlone.at 21 rfl) rfl (Nat.le_of_ble_eq_true rfl) ?_
        refine xx_iload_n C (dd_X8_isAlone.at 22 rfl) rfl ?_
        refine xx_iload C (dd_X8_isAlone.at 23 rfl) rfl ?_
        refine xx_iload C (dd_X8_isAlone.at 24 rfl) rfl ?_
        obtain ⟨v3, e4, hf⟩ := bdo_ hf
        refine xx_callVi C (ss_X8_least e4) (dd_X8_isAlone.at 25 rfl) ck_7 rfl sh_k98 kk_X8_least ki_X8_least lm_RX8_188 (lb_ rfl) rfl rfl (lb_ rfl) ?_
        refine xx_aload_n C (dd_X8_isAlone.at 26 rfl) rfl (Nat.le_of_ble_eq_true rfl) ?_
        refine xx_iload_n C (dd_X8_isAlone.at 27 rfl) rfl ?_
        refine xx_iload C (dd_X8_isAlone.at 28 rfl) rfl ?_
        refine xx_iload C (dd_X8_isAlone.at 29 rfl) rfl ?_
        obtain ⟨v5, e6, hf⟩ := bdo_ hf
        refine xx_callVi C (ss_X8_most e6) (dd_X8_isAlone.at 30 rfl) ck_7 rfl sh_k98 kk_X8_most ki_X8_most lm_RX8_191 (lb_ rfl) rfl rfl (lb_ rfl) ?_
        refine xx_callSi C (ss_X8_in rfl) (dd_X8_isAlone.at 31 rfl) kk_X8_in ks_X8_in lm_RX8_72 (lb_ rfl) rfl rfl (lb_ rfl) ?_
        rcases ifo_ hf with ⟨hc, hf⟩ | ⟨hc, hf⟩
        · refine xx_if_eq_t (tgt := 66) C (dd_X8_isAlone.at 32 rfl) (by decide) hc ?_
          refine xx_iconst C (dd_X8_isAlone.at 35 rfl) ic_0 ?_
          refine xx_istore (lv' := [_, _, _, _, _, _, _]) C (dd_X8_isAlone.at 36 rfl) (lb_ rfl) rfl ?_
          refine xx_iinc (v := _ + (1 : Int32)) (lv' := [_, _, _, _, _, _, _]) C (dd_X8_isAlone.at 37 rfl) (lb_ rfl) rfl (by rw [ic_1]) rfl ?_
          refine xx_goto (tgt := 20) C (dd_X8_isAlone.at 38 rfl) (by decide) ?_
          exact xx_mask [true, true, true, true, true, true, true] (ih _ _ hf)
        · refine xx_if_eq_f (tgt := 66) C (dd_X8_isAlone.at 32 rfl) (by decide) hc ?_
          refine xx_iconst C (dd_X8_isAlone.at 33 rfl) ic_1 ?_
          refine xx_goto (tgt := 67) C (dd_X8_isAlone.at 34 rfl) (by decide) ?_
          refine xx_istore (lv' := [_, _, _, _, _, _, _]) C (dd_X8_isAlone.at 36 rfl) (lb_ rfl) rfl ?_
          refine xx_iinc (v := _ + (1 : Int32)) (lv' := [_, _, _, _, _, _, _]) C (dd_X8_isAlone.at 37 rfl) (lb_ rfl) rfl (by rw [ic_1]) rfl ?_
          refine xx_goto (tgt := 20) C (dd_X8_isAlone.at 38 rfl) (by decide) ?_
          exact xx_mask [true, true, true, true, true, true, true] (ih _ _ hf)
theorem ss_X8_isAlone_5 {Z : zz_} (C : cx_ Z mt_X8_isAlone 4) {r9 : Int32} {x1 : Int32} {x2 : Int32} {h : hh_}  (Q : rq_ Z (some (.int r9)) h) : ∀ (n9 : Nat) (x3 : Int32) (x4 : Int32), ff_X8_isAlone_5 x1 x2 h n9 x3 x4 = some r9 → xx_ Z 5 [some (.ref 98), some (.int x1), some (.int x2), some (.int x3), some (.int x4), none, none] [] h := by
  intro n9
  induction n9 with
  | zero =>
    intro x3 x4 hf
    exact absurd hf (by rw [ff_X8_isAlone_5]; exact nofun)
  | succ n9 ih =>
    intro x3 x4 hf
    rw [ff_X8_isAlone_5] at hf
    refine xx_iload C (dd_X8_isAlone.at 4 rfl) rfl ?_
    refine xx_aload_n C (dd_X8_isAlone.at 5 rfl) rfl (Nat.le_of_ble_eq_true rfl) ?_
    refine xx_getI (j := 10) C ck_7 (lb_ rfl) lf_RX8_141 sh_k98 rfl (dd_X8_isAlone.at 6 rfl) ?_
    rcases ifo_ hf with ⟨hc, hf⟩ | ⟨hc, hf⟩
    · refine xx_icmp_ge_t (tgt := 107) C (dd_X8_isAlone.at 7 rfl) (by decide) hc ?_
      refine xx_iload_n C (dd_X8_isAlone.at 55 rfl) rfl ?_
      obtain ⟨g1, hf⟩ := gd_ok hf
      exact xx_zreturn C (rt_ip hf Q) (dd_X8_isAlone.at 56 rfl) rfl (bz_ok g1)
    · refine xx_icmp_ge_f (tgt := 107) C (dd_X8_isAlone.at 7 rfl) (by decide) hc ?_
      refine xx_iconst C (dd_X8_isAlone.at 8 rfl) ic_1 ?_
      refine xx_istore (lv' := [_, _, _, _, _, _, _]) C (dd_X8_isAlone.at 9 rfl) (lb_ rfl) rfl ?_
      refine xx_iconst C (dd_X8_isAlone.at 10 rfl) ic_0 ?_
      refine xx_istore (lv' := [_, _, _, _, _, _, _]) C (dd_X8_isAlone.at 11 rfl) (lb_ rfl) rfl ?_
      refine xx_mask [true, true, true, true, true, true, true] (ss_X8_isAlone_20 C Q (fun u7 hf => ?_) _ _ _ hf)
      refine xx_iload_n C (dd_X8_isAlone.at 39 rfl) rfl ?_
      rcases ifo_ hf with ⟨hc, hf⟩ | ⟨hc, hf⟩
      · refine xx_if_eq_t (tgt := 99) C (dd_X8_isAlone.at 40 rfl) (by decide) hc ?_
        refine xx_iconst C (dd_X8_isAlone.at 51 rfl) ic_0 ?_
        refine xx_istore_n (lv' := [_, _, _, _, _, _, _]) C (dd_X8_isAlone.at 52 rfl) (lb_ rfl) rfl ?_
        refine xx_iinc (v := _ + (1 : Int32)) (lv' := [_, _, _, _, _, _, _]) C (dd_X8_isAlone.at 53 rfl) (lb_ rfl) rfl (by rw [ic_1]) rfl ?_
        refine xx_goto (tgt := 5) C (dd_X8_isAlone.at 54 rfl) (by decide) ?_
        exact xx_mask [true, true, true, true, true, false, false] (ih _ _ hf)
      · refine xx_if_eq_f (tgt := 99) C (dd_X8_isAlone.at 40 rfl) (by decide) hc ?_
        refine xx_iload C (dd_X8_isAlone.at 41 rfl) rfl ?_
        refine xx_iload C (dd_X8_isAlone.at 42 rfl) rfl ?_
        refine xx_iload_n C (dd_X8_isAlone.at 43 rfl) rfl ?_
        rcases ifo_ hf with ⟨hc, hf⟩ | ⟨hc, hf⟩
        · refine xx_icmp_ne_f (tgt := 91) C (dd_X8_isAlone.at 44 rfl) (by decide) (not_not_intro hc) ?_
          refine xx_iconst C (dd_X8_isAlone.at 45 rfl) ic_1 ?_
          refine xx_goto (tgt := 92) C (dd_X8_isAlone.at 46 rfl) (by decide) ?_
          rcases ifo_ hf with ⟨hc, hf⟩ | ⟨hc, hf⟩
          · refine xx_icmp_ne_f (tgt := 99) C (dd_X8_isAlone.at 48 rfl) (by decide) (not_not_intro hc) ?_
            refine xx_iconst C (dd_X8_isAlone.at 49 rfl) ic_1 ?_
            refine xx_goto (tgt := 100) C (dd_X8_isAlone.at 50 rfl) (by decide) ?_
            refine xx_istore_n (lv' := [_, _, _, _, _, _, _]) C (dd_X8_isAlone.at 52 rfl) (lb_ rfl) rfl ?_
            refine xx_iinc (v := _ + (1 : Int32)) (lv' := [_, _, _, _, _, _, _]) C (dd_X8_isAlone.at 53 rfl) (lb_ rfl) rfl (by rw [ic_1]) rfl ?_
            refine xx_goto (tgt := 5) C (dd_X8_isAlone.at 54 rfl) (by decide) ?_
            exact xx_mask [true, true, true, true, true, false, false] (ih _ _ hf)
          · refine xx_icmp_ne_t (tgt := 99) C (dd_X8_isAlone.at 48 rfl) (by decide) hc ?_
            refine xx_iconst C (dd_X8_isAlone.at 51 rfl) ic_0 ?_
            refine xx_istore_n (lv' := [_, _, _, _, _, _, _]) C (dd_X8_isAlone.at 52 rfl) (lb_ rfl) rfl ?_
            refine xx_iinc (v := _ + (1 : Int32)) (lv' := [_, _, _, _, _, _, _]) C (dd_X8_isAlone.at 53 rfl) (lb_ rfl) rfl (by rw [ic_1]) rfl ?_
            refine xx_goto (tgt := 5) C (dd_X8_isAlone.at 54 rfl) (by decide) ?_
            exact xx_mask [true, true, true, true, true, false, false] (ih _ _ hf)
        · refine xx_icmp_ne_t (tgt := 91) C (dd_X8_isAlone.at 44 rfl) (by decide) hc ?_
          refine xx_iconst C (dd_X8_isAlone.at 47 rfl) ic_0 ?_
          rcases ifo_ hf with ⟨hc, hf⟩ | ⟨hc, hf⟩
          · refine xx_icmp_ne_f (tgt := 99) C (dd_X8_isAlone.at 48 rfl) (by decide) (not_not_intro hc) ?_
            refine xx_iconst C (dd_X8_isAlone.at 49 rfl) ic_1 ?_
            refine xx_goto (tgt := 100) C (dd_X8_isAlone.at 50 rfl) (by decide) ?_
            refine xx_istore_n (lv' := [_, _, _, _, _, _, _]) C (dd_X8_isAlone.at 52 rfl) (lb_ rfl) rfl ?_
            refine xx_iinc (v := _ + (1 : Int32)) (lv' := [_, _, _, _, _, _, _]) C (dd_X8_isAlone.at 53 rfl) (lb_ rfl) rfl (by rw [ic_1]) rfl ?_
            refine xx_goto (tgt := 5) C (dd_X8_isAlone.at 54 rfl) (by decide) ?_
            exact xx_mask [true, true, true, true, true, false, false] (ih _ _ hf)
          · refine xx_icmp_ne_t (tgt := 99) C (dd_X8_isAlone.at 48 rfl) (by decide) hc ?_
            refine xx_iconst C (dd_X8_isAlone.at 51 rfl) ic_0 ?_
            refine xx_istore_n (lv' := [_, _, _, _, _, _, _]) C (dd_X8_isAlone.at 52 rfl) (lb_ rfl) rfl ?_
            refine xx_iinc (v := _ + (1 : Int32)) (lv' := [_, _, _, _, _, _, _]) C (dd_X8_isAlone.at 53 rfl) (lb_ rfl) rfl (by rw [ic_1]) rfl ?_
            refine xx_goto (tgt := 5) C (dd_X8_isAlone.at 54 rfl) (by decide) ?_
            exact xx_mask [true, true, true, true, true, false, false] (ih _ _ hf)
theorem ss_X8_isAlone {l : Launch} {G : gt_} {a1 : Int32} {a2 : Int32} {h : hh_} {r9 : Int32}  (hf : ff_X8_isAlone a1 a2 h = some r9) : ok_ l G 4 mt_X8_isAlone [.ref 98, .int a1, .int a2] h (some (.int r9)) h := by
  refine ok_of pn_RX8 (lb_ rfl) (fun Z _ _ C Q => ?_)
  show xx_ Z 0 [some (.ref 98), some (.int a1), some (.int a2), none, none, none, none] [] h
  unfold ff_X8_isAlone at hf
  refine xx_iconst C (dd_X8_isAlone.at 0 rfl) ic_1 ?_
  refine xx_istore_n (lv' := [_, _, _, _, _, _, _]) C (dd_X8_isAlone.at 1 rfl) (lb_ rfl) rfl ?_
  refine xx_iconst C (dd_X8_isAlone.at 2 rfl) ic_0 ?_
  refine xx_istore (lv' := [_, _, _, _, _, _, _]) C (dd_X8_isAlone.at 3 rfl) (lb_ rfl) rfl ?_
  exact xx_mask [true, true, true, true, true, false, false] (ss_X8_isAlone_5 C Q _ _ _ hf)
theorem ss_X8_lots_72 {Z : zz_} (C : cx_ Z mt_X8_lots 5) {r9 : Int32} {h9 : hh_} {x1 : Int32} {x2 : Int32} {x6 : Int32} {x7 : Int32} {x8 : Int32} {K72_127 : Int64 → hh_ → Option (Int32 × hh_)} (Q : rq_ Z (some (.int r9)) h9) (hK72_127 : ∀ (z4 : Int64) (h8 : hh_), K72_127 z4 h8 = some (r9, h9) → xx_ Z 127 [some (.ref 98), some (.int x1), some (.int x2), none, some (.long z4), none, some (.int x6), some (.int x7), some (.int x8), none] [] h8) : ∀ (n9 : Nat) (x4 : Int64) (x9 : Int32) (h : hh_), ff_X8_lots_72 x1 x2 x6 x7 x8 K72_127 n9 x4 x9 h = some (r9, h9) → xx_ Z 72 [some (.ref 98), some (.int x1), some (.int x2), none, some (.long x4), none, some (.int x6), some (.int x7), some (.int x8), some (.int x9)] [] h := by
  intro n9
  induction n9 with
  | zero =>
    intro x4 x9 h hf
    exact absurd hf (by rw [ff_X8_lots_72]; exact nofun)
  | succ n9 ih =>
    intro x4 x9 h hf
    rw [ff_X8_lots_72] at hf
    refine xx_iload C (dd_X8_lots.at 41 rfl) rfl ?_
    refine xx_iconst C (dd_X8_lots.at 42 rfl) ic_4 ?_
    rcases ifo_ hf with ⟨hc, hf⟩ | ⟨hc, hf⟩
    · refine xx_icmp_ge_t (tgt := 127) C (dd_X8_lots.at 43 rfl) (by decide) hc ?_
      exact xx_mask [true, true, true, false, true, false, true, true, true, false] (hK72_127 _ _ hf)
    · refine xx_icmp_ge_f (tgt := 127) C (dd_X8_lots.at 43 rfl) (by decide) hc ?_
      refine xx_ldc2 C (dd_X8_lots.at 44 rfl) lc_RX8_275 ?_
      refine xx_lload C (dd_X8_lots.at 45 rfl) rfl ?_
      refine xx_lmul C (dd_X8_lots.at 46 rfl) ?_
      refine xx_ldc2 C (dd_X8_lots.at 47 rfl) lc_RX8_277 ?_
      refine xx_lrem C (dd_X8_lots.at 48 rfl) (by decide) ?_
      refine xx_lstore (lv' := [_, _, _, _, _, _, _, _, _, _]) C (dd_X8_lots.at 49 rfl) (lb_ rfl) rfl ?_
      refine xx_aload_n C (dd_X8_lots.at 50 rfl) rfl (Nat.le_of_ble_eq_true rfl) ?_
      refine xx_getR (j := 29) (r := 114) C ck_7 (lb_ rfl) lf_RX8_59 sh_k98 rfl (lb_ rfl) rfl (dd_X8_lots.at 51 rfl) ?_
      refine xx_iload C (dd_X8_lots.at 52 rfl) rfl ?_
      refine xx_aload_n C (dd_X8_lots.at 53 rfl) rfl (Nat.le_of_ble_eq_true rfl) ?_
      refine xx_iload_n C (dd_X8_lots.at 54 rfl) rfl ?_
      refine xx_iload C (dd_X8_lots.at 55 rfl) rfl ?_
      refine xx_iload C (dd_X8_lots.at 56 rfl) rfl ?_
      obtain ⟨v2, e3, hf⟩ := bdo_ hf
      refine xx_callVi C (ss_X8_least e3) (dd_X8_lots.at 57 rfl) ck_7 rfl sh_k98 kk_X8_least ki_X8_least lm_RX8_188 (lb_ rfl) rfl rfl (lb_ rfl) ?_
      refine xx_lload C (dd_X8_lots.at 58 rfl) rfl ?_
      refine xx_aload_n C (dd_X8_lots.at 59 rfl) rfl (Nat.le_of_ble_eq_true rfl) ?_
      refine xx_iload_n C (dd_X8_lots.at 60 rfl) rfl ?_
      refine xx_iload C (dd_X8_lots.at 61 rfl) rfl ?_
      refine xx_iload C (dd_X8_lots.at 62 rfl) rfl ?_
      obtain ⟨v4, e5, hf⟩ := bdo_ hf
      refine xx_callVi C (ss_X8_spread e5) (dd_X8_lots.at 63 rfl) ck_7 rfl sh_k98 kk_X8_spread ki_X8_spread lm_RX8_223 (lb_ rfl) rfl rfl (lb_ rfl) ?_
      refine xx_i2l C (dd_X8_lots.at 64 rfl) ?_
      obtain ⟨g6, hf⟩ := gd_ok hf
      refine xx_lrem C (dd_X8_lots.at 65 rfl) (bm_ok g6) ?_
      refine xx_l2i C (dd_X8_lots.at 66 rfl) ?_
      refine xx_iadd C (dd_X8_lots.at 67 rfl) ?_
      obtain ⟨g7, hf⟩ := gd_ok hf
      refine xx_iastore C (dd_X8_lots.at 68 rfl) sh_k114 (bi_ok g7) ?_
      refine xx_iinc (v := _ + (1 : Int32)) (lv' := [_, _, _, _, _, _, _, _, _, _]) C (dd_X8_lots.at 69 rfl) (lb_ rfl) rfl (by rw [ic_1]) rfl ?_
      refine xx_goto (tgt := 72) C (dd_X8_lots.at 70 rfl) (by decide) ?_
      exact xx_mask [true, true, true, false, true, false, true, true, true, true] (ih _ _ _ hf)
theorem ss_X8_lots_40 {Z : zz_} (C : cx_ Z mt_X8_lots 5) {r9 : Int32} {h9 : hh_} {x1 : Int32} {x2 : Int32}  (Q : rq_ Z (some (.int r9)) h9) : ∀ (n9 : Nat) (x4 : Int64) (x6 : Int32) (x7 : Int32) (h : hh_), ff_X8_lots_40 x1 x2 n9 x4 x6 x7 h = some (r9, h9) → xx_ Z 40 [some (.ref 98), some (.int x1), some (.int x2), none, some (.long x4), none, some (.int x6), some (.int x7), none, none] [] h := by
  intro n9
  induction n9 with
  | zero =>
    intro x4 x6 x7 h hf
    exact absurd hf (by rw [ff_X8_lots_40]; exact nofun)
  | succ n9 ih =>
    intro x4 x6 x7 h hf
    rw [ff_X8_lots_40] at hf
    refine xx_iload C (dd_X8_lots.at 23 rfl) rfl ?_
    refine xx_iload_n C (dd_X8_lots.at 24 rfl) rfl ?_
    rcases ifo_ hf with ⟨hc, hf⟩ | ⟨hc, hf⟩
    · refine xx_icmp_ge_t (tgt := 153) C (dd_X8_lots.at 25 rfl) (by decide) hc ?_
      refine xx_iload C (dd_X8_lots.at 84 rfl) rfl ?_
      exact xx_ireturn C (rt_iwp hf Q) (dd_X8_lots.at 85 rfl) rfl
    · refine xx_icmp_ge_f (tgt := 153) C (dd_X8_lots.at 25 rfl) (by decide) hc ?_
      refine xx_ldc2 C (dd_X8_lots.at 26 rfl) lc_RX8_275 ?_
      refine xx_lload C (dd_X8_lots.at 27 rfl) rfl ?_
      refine xx_lmul C (dd_X8_lots.at 28 rfl) ?_
      refine xx_ldc2 C (dd_X8_lots.at 29 rfl) lc_RX8_277 ?_
      refine xx_lrem C (dd_X8_lots.at 30 rfl) (by decide) ?_
      refine xx_lstore (lv' := [_, _, _, _, _, _, _, _, _, _]) C (dd_X8_lots.at 31 rfl) (lb_ rfl) rfl ?_
      refine xx_lload C (dd_X8_lots.at 32 rfl) rfl ?_
      refine xx_aload_n C (dd_X8_lots.at 33 rfl) rfl (Nat.le_of_ble_eq_true rfl) ?_
      refine xx_getI (j := 10) C ck_7 (lb_ rfl) lf_RX8_141 sh_k98 rfl (dd_X8_lots.at 34 rfl) ?_
      refine xx_i2l C (dd_X8_lots.at 35 rfl) ?_
      obtain ⟨g1, hf⟩ := gd_ok hf
      refine xx_lrem C (dd_X8_lots.at 36 rfl) (bm_ok g1) ?_
      refine xx_l2i C (dd_X8_lots.at 37 rfl) ?_
      refine xx_istore (lv' := [_, _, _, _, _, _, _, _, _, _]) C (dd_X8_lots.at 38 rfl) (lb_ rfl) rfl ?_
      refine xx_iconst C (dd_X8_lots.at 39 rfl) ic_0 ?_
      refine xx_istore (lv' := [_, _, _, _, _, _, _, _, _, _]) C (dd_X8_lots.at 40 rfl) (lb_ rfl) rfl ?_
      refine xx_mask [true, true, true, false, true, false, true, true, true, true] (ss_X8_lots_72 C Q (fun u8 k9 hf => ?_) _ _ _ _ hf)
      refine xx_iload C (dd_X8_lots.at 71 rfl) rfl ?_
      refine xx_aload_n C (dd_X8_lots.at 72 rfl) rfl (Nat.le_of_ble_eq_true rfl) ?_
      refine xx_iload_n C (dd_X8_lots.at 73 rfl) rfl ?_
      refine xx_iload C (dd_X8_lots.at 74 rfl) rfl ?_
      obtain ⟨v10, e11, hf⟩ := bdo_ hf
      refine xx_callVi C (ss_X8_isAlone e11) (dd_X8_lots.at 75 rfl) ck_7 rfl sh_k98 kk_X8_isAlone ki_X8_isAlone lm_RX8_279 (lb_ rfl) rfl rfl (lb_ rfl) ?_
      rcases ifo_ hf with ⟨hc, hf⟩ | ⟨hc, hf⟩
      · refine xx_if_eq_t (tgt := 143) C (dd_X8_lots.at 76 rfl) (by decide) hc ?_
        refine xx_iconst C (dd_X8_lots.at 79 rfl) ic_0 ?_
        refine xx_iadd C (dd_X8_lots.at 80 rfl) ?_
        refine xx_istore (lv' := [_, _, _, _, _, _, _, _, _, _]) C (dd_X8_lots.at 81 rfl) (lb_ rfl) rfl ?_
        refine xx_iinc (v := _ + (1 : Int32)) (lv' := [_, _, _, _, _, _, _, _, _, _]) C (dd_X8_lots.at 82 rfl) (lb_ rfl) rfl (by rw [ic_1]) rfl ?_
        refine xx_goto (tgt := 40) C (dd_X8_lots.at 83 rfl) (by decide) ?_
        exact xx_mask [true, true, true, false, true, false, true, true, false, false] (ih _ _ _ _ hf)
      · refine xx_if_eq_f (tgt := 143) C (dd_X8_lots.at 76 rfl) (by decide) hc ?_
        refine xx_iconst C (dd_X8_lots.at 77 rfl) ic_1 ?_
        refine xx_goto (tgt := 144) C (dd_X8_lots.at 78 rfl) (by decide) ?_
        refine xx_iadd C (dd_X8_lots.at 80 rfl) ?_
        refine xx_istore (lv' := [_, _, _, _, _, _, _, _, _, _]) C (dd_X8_lots.at 81 rfl) (lb_ rfl) rfl ?_
        refine xx_iinc (v := _ + (1 : Int32)) (lv' := [_, _, _, _, _, _, _, _, _, _]) C (dd_X8_lots.at 82 rfl) (lb_ rfl) rfl (by rw [ic_1]) rfl ?_
        refine xx_goto (tgt := 40) C (dd_X8_lots.at 83 rfl) (by decide) ?_
        exact xx_mask [true, true, true, false, true, false, true, true, false, false] (ih _ _ _ _ hf)
theorem ss_X8_lots {l : Launch} {G : gt_} {a1 : Int32} {a2 : Int32} {a3 : Int32} {h : hh_} {r9 : Int32} {h9 : hh_}  (hf : ff_X8_lots a1 a2 a3 h = some (r9, h9)) : ok_ l G 5 mt_X8_lots [.ref 98, .int a1, .int a2, .int a3] h (some (.int r9)) h9 := by
  refine ok_of pn_RX8 (lb_ rfl) (fun Z _ _ C Q => ?_)
  show xx_ Z 0 [some (.ref 98), some (.int a1), some (.int a2), some (.int a3), none, none, none, none, none, none] [] h
  unfold ff_X8_lots at hf
  refine xx_aload_n C (dd_X8_lots.at 0 rfl) rfl (Nat.le_of_ble_eq_true rfl) ?_
  refine xx_iload_n C (dd_X8_lots.at 1 rfl) rfl ?_
  refine xx_callVi C (ss_X8_isThumb rfl) (dd_X8_lots.at 2 rfl) ck_7 rfl sh_k98 kk_X8_isThumb ki_X8_isThumb lm_RX8_165 (lb_ rfl) rfl rfl (lb_ rfl) ?_
  rcases ifo_ hf with ⟨hc, hf⟩ | ⟨hc, hf⟩
  · refine xx_if_eq_t (tgt := 28) C (dd_X8_lots.at 3 rfl) (by decide) hc ?_
    refine xx_iconst C (dd_X8_lots.at 14 rfl) ic_m1 ?_
    exact xx_ireturn C (rt_iwp hf Q) (dd_X8_lots.at 15 rfl) rfl
  · refine xx_if_eq_f (tgt := 28) C (dd_X8_lots.at 3 rfl) (by decide) hc ?_
    refine xx_iload_n C (dd_X8_lots.at 4 rfl) rfl ?_
    refine xx_iconst C (dd_X8_lots.at 5 rfl) ic_1 ?_
    refine xx_iconst C (dd_X8_lots.at 6 rfl) ic_5 ?_
    refine xx_callSi C (ss_X8_in rfl) (dd_X8_lots.at 7 rfl) kk_X8_in ks_X8_in lm_RX8_72 (lb_ rfl) rfl rfl (lb_ rfl) ?_
    rcases ifo_ hf with ⟨hc, hf⟩ | ⟨hc, hf⟩
    · refine xx_if_eq_t (tgt := 28) C (dd_X8_lots.at 8 rfl) (by decide) hc ?_
      refine xx_iconst C (dd_X8_lots.at 14 rfl) ic_m1 ?_
      exact xx_ireturn C (rt_iwp hf Q) (dd_X8_lots.at 15 rfl) rfl
    · refine xx_if_eq_f (tgt := 28) C (dd_X8_lots.at 8 rfl) (by decide) hc ?_
      refine xx_iload_n C (dd_X8_lots.at 9 rfl) rfl ?_
      refine xx_iconst C (dd_X8_lots.at 10 rfl) ic_1 ?_
      refine xx_ldcw C (dd_X8_lots.at 11 rfl) lc_RX8_274 ?_
      refine xx_callSi C (ss_X8_in rfl) (dd_X8_lots.at 12 rfl) kk_X8_in ks_X8_in lm_RX8_72 (lb_ rfl) rfl rfl (lb_ rfl) ?_
      rcases ifo_ hf with ⟨hc, hf⟩ | ⟨hc, hf⟩
      · refine xx_if_ne_f (tgt := 30) C (dd_X8_lots.at 13 rfl) (by decide) (not_not_intro hc) ?_
        refine xx_iconst C (dd_X8_lots.at 14 rfl) ic_m1 ?_
        exact xx_ireturn C (rt_iwp hf Q) (dd_X8_lots.at 15 rfl) rfl
      · refine xx_if_ne_t (tgt := 30) C (dd_X8_lots.at 13 rfl) (by decide) hc ?_
        refine xx_iload_n C (dd_X8_lots.at 16 rfl) rfl ?_
        refine xx_i2l C (dd_X8_lots.at 17 rfl) ?_
        refine xx_lstore (lv' := [_, _, _, _, _, _, _, _, _, _]) C (dd_X8_lots.at 18 rfl) (lb_ rfl) rfl ?_
        refine xx_iconst C (dd_X8_lots.at 19 rfl) ic_0 ?_
        refine xx_istore (lv' := [_, _, _, _, _, _, _, _, _, _]) C (dd_X8_lots.at 20 rfl) (lb_ rfl) rfl ?_
        refine xx_iconst C (dd_X8_lots.at 21 rfl) ic_0 ?_
        refine xx_istore (lv' := [_, _, _, _, _, _, _, _, _, _]) C (dd_X8_lots.at 22 rfl) (lb_ rfl) rfl ?_
        exact xx_mask [true, true, true, false, true, false, true, true, false, false] (ss_X8_lots_40 C Q _ _ _ _ _ hf)
theorem ss_X8_asked {l : Launch} {G : gt_} {h : hh_} {r9 : Int32}  (hf : ff_X8_asked h = r9) : ok_ l G 0 mt_X8_asked [.ref 98] h (some (.int r9)) h := by
  refine ok_of pn_RX8 (lb_ rfl) (fun Z _ _ C Q => ?_)
  show xx_ Z 0 [some (.ref 98)] [] h
  unfold ff_X8_asked at hf
  refine xx_aload_n C (dd_X8_asked.at 0 rfl) rfl (Nat.le_of_ble_eq_true rfl) ?_
  refine xx_getI (j := 2) C ck_7 (lb_ rfl) lf_RX8_66 sh_k98 rfl (dd_X8_asked.at 1 rfl) ?_
  exact xx_ireturn C (rt_i hf Q) (dd_X8_asked.at 2 rfl) rfl
theorem ss_X8_upper {l : Launch} {G : gt_} {h : hh_} {r9 : Int64}  (hf : ff_X8_upper h = r9) : ok_ l G 0 mt_X8_upper [.ref 98] h (some (.long r9)) h := by
  refine ok_of pn_RX8 (lb_ rfl) (fun Z _ _ C Q => ?_)
  show xx_ Z 0 [some (.ref 98)] [] h
  unfold ff_X8_upper at hf
  refine xx_aload_n C (dd_X8_upper.at 0 rfl) rfl (Nat.le_of_ble_eq_true rfl) ?_
  refine xx_getL (j := 3) C ck_7 (lb_ rfl) lf_RX8_69 sh_k98 rfl (dd_X8_upper.at 1 rfl) ?_
  exact xx_lreturn C (rt_l hf Q) (dd_X8_upper.at 2 rfl) rfl
theorem ss_X8_lower {l : Launch} {G : gt_} {h : hh_} {r9 : Int64}  (hf : ff_X8_lower h = r9) : ok_ l G 0 mt_X8_lower [.ref 98] h (some (.long r9)) h := by
  refine ok_of pn_RX8 (lb_ rfl) (fun Z _ _ C Q => ?_)
  show xx_ Z 0 [some (.ref 98)] [] h
  unfold ff_X8_lower at hf
  refine xx_aload_n C (dd_X8_lower.at 0 rfl) rfl (Nat.le_of_ble_eq_true rfl) ?_
  refine xx_getL (j := 4) C ck_7 (lb_ rfl) lf_RX8_13 sh_k98 rfl (dd_X8_lower.at 1 rfl) ?_
  exact xx_lreturn C (rt_l hf Q) (dd_X8_lower.at 2 rfl) rfl
theorem ss_X8_tellsOf_99 {Z : zz_} (C : cx_ Z mt_X8_tellsOf 2) {r9 : Int32} {x1 : Int32} {x3 : Int32} {x4 : Int32} {y0 : Int32} {h : hh_} {K99_127 : Int32 → Option (Int32)} {K99_132 : Int32 → Int32 → Option (Int32)} (Q : rq_ Z (some (.int r9)) h) (hK99_127 : ∀ (w0 : Int32), K99_127 w0 = some r9 → xx_ Z 127 [some (.ref 98), some (.int x1), none, some (.int x3), some (.int x4)] [.int w0] h) (hK99_132 : ∀ (w0 : Int32) (w1 : Int32), K99_132 w0 w1 = some r9 → xx_ Z 132 [some (.ref 98), some (.int x1), none, some (.int x3), some (.int x4)] [.int w1, .int w0] h) (hf : ff_X8_tellsOf_99 x1 x3 x4 y0 h K99_127 K99_132 = some r9) : xx_ Z 99 [some (.ref 98), some (.int x1), none, some (.int x3), some (.int x4)] [.int y0] h := by
  unfold ff_X8_tellsOf_99 at hf
  refine xx_iload_n C (dd_X8_tellsOf.at 53 rfl) rfl ?_
  refine xx_bipush C (dd_X8_tellsOf.at 54 rfl) bq_8 ?_
  rcases ifo_ hf with ⟨hc, hf⟩ | ⟨hc, hf⟩
  · refine xx_icmp_ne_f (tgt := 131) C (dd_X8_tellsOf.at 55 rfl) (by decide) (not_not_intro hc) ?_
    refine xx_iload C (dd_X8_tellsOf.at 56 rfl) rfl ?_
    refine xx_iconst C (dd_X8_tellsOf.at 57 rfl) ic_3 ?_
    rcases ifo_ hf with ⟨hc, hf⟩ | ⟨hc, hf⟩
    · refine xx_icmp_ge_t (tgt := 131) C (dd_X8_tellsOf.at 58 rfl) (by decide) hc ?_
      refine xx_iconst C (dd_X8_tellsOf.at 69 rfl) ic_0 ?_
      exact xx_mask [true, true, false, true, true] (hK99_132 _ _ hf)
    · refine xx_icmp_ge_f (tgt := 131) C (dd_X8_tellsOf.at 58 rfl) (by decide) hc ?_
      refine xx_aload_n C (dd_X8_tellsOf.at 59 rfl) rfl (Nat.le_of_ble_eq_true rfl) ?_
      refine xx_getR (j := 23) (r := 110) C ck_7 (lb_ rfl) lf_RX8_47 sh_k98 rfl (lb_ rfl) rfl (dd_X8_tellsOf.at 60 rfl) ?_
      refine xx_sipush C (dd_X8_tellsOf.at 61 rfl) sq_1030 ?_
      refine xx_iload C (dd_X8_tellsOf.at 62 rfl) rfl ?_
      refine xx_imul C (dd_X8_tellsOf.at 63 rfl) ?_
      obtain ⟨g1, hf⟩ := gd_ok hf
      refine xx_iaload C (dd_X8_tellsOf.at 64 rfl) sh_k110 (bi_ok g1) ?_
      refine xx_bipush C (dd_X8_tellsOf.at 65 rfl) bq_m9 ?_
      rcases ifo_ hf with ⟨hc, hf⟩ | ⟨hc, hf⟩
      · refine xx_icmp_eq_t (tgt := 131) C (dd_X8_tellsOf.at 66 rfl) (by decide) hc ?_
        refine xx_iconst C (dd_X8_tellsOf.at 69 rfl) ic_0 ?_
        exact xx_mask [true, true, false, true, true] (hK99_132 _ _ hf)
      · refine xx_icmp_eq_f (tgt := 131) C (dd_X8_tellsOf.at 66 rfl) (by decide) hc ?_
        exact xx_mask [true, true, false, true, true] (hK99_127 _ hf)
  · refine xx_icmp_ne_t (tgt := 131) C (dd_X8_tellsOf.at 55 rfl) (by decide) hc ?_
    refine xx_iconst C (dd_X8_tellsOf.at 69 rfl) ic_0 ?_
    exact xx_mask [true, true, false, true, true] (hK99_132 _ _ hf)
theorem ss_X8_tellsOf_77 {Z : zz_} (C : cx_ Z mt_X8_tellsOf 2) {r9 : Int32} {x1 : Int32} {x3 : Int32} {x4 : Int32} {y0 : Int32} {h : hh_} {K77_127 : Int32 → Option (Int32)} {K77_132 : Int32 → Int32 → Option (Int32)} (Q : rq_ Z (some (.int r9)) h) (hK77_127 : ∀ (w0 : Int32), K77_127 w0 = some r9 → xx_ Z 127 [some (.ref 98), some (.int x1), none, some (.int x3), some (.int x4)] [.int w0] h) (hK77_132 : ∀ (w0 : Int32) (w1 : Int32), K77_132 w0 w1 = some r9 → xx_ Z 132 [some (.ref 98), some (.int x1), none, some (.int x3), some (.int x4)] [.int w1, .int w0] h) (hf : ff_X8_tellsOf_77 x1 x3 x4 y0 h K77_127 K77_132 = some r9) : xx_ Z 77 [some (.ref 98), some (.int x1), none, some (.int x3), some (.int x4)] [.int y0] h := by
  unfold ff_X8_tellsOf_77 at hf
  refine xx_iload_n C (dd_X8_tellsOf.at 42 rfl) rfl ?_
  refine xx_bipush C (dd_X8_tellsOf.at 43 rfl) bq_7 ?_
  rcases ifo_ hf with ⟨hc, hf⟩ | ⟨hc, hf⟩
  · refine xx_icmp_ne_f (tgt := 99) C (dd_X8_tellsOf.at 44 rfl) (by decide) (not_not_intro hc) ?_
    refine xx_iload C (dd_X8_tellsOf.at 45 rfl) rfl ?_
    refine xx_iconst C (dd_X8_tellsOf.at 46 rfl) ic_4 ?_
    rcases ifo_ hf with ⟨hc, hf⟩ | ⟨hc, hf⟩
    · refine xx_icmp_ge_t (tgt := 99) C (dd_X8_tellsOf.at 47 rfl) (by decide) hc ?_
      exact xx_mask [true, true, false, true, true] (ss_X8_tellsOf_99 C Q hK77_127 hK77_132 hf)
    · refine xx_icmp_ge_f (tgt := 99) C (dd_X8_tellsOf.at 47 rfl) (by decide) hc ?_
      refine xx_aload_n C (dd_X8_tellsOf.at 48 rfl) rfl (Nat.le_of_ble_eq_true rfl) ?_
      refine xx_getR (j := 8) (r := 103) C ck_7 (lb_ rfl) lf_RX8_26 sh_k98 rfl (lb_ rfl) rfl (dd_X8_tellsOf.at 49 rfl) ?_
      refine xx_iload C (dd_X8_tellsOf.at 50 rfl) rfl ?_
      obtain ⟨g2, hf⟩ := gd_ok hf
      refine xx_iaload C (dd_X8_tellsOf.at 51 rfl) sh_k103 (bi_ok g2) ?_
      rcases ifo_ hf with ⟨hc, hf⟩ | ⟨hc, hf⟩
      · refine xx_if_ge_t (tgt := 127) C (dd_X8_tellsOf.at 52 rfl) (by decide) hc ?_
        exact xx_mask [true, true, false, true, true] (hK77_127 _ hf)
      · refine xx_if_ge_f (tgt := 127) C (dd_X8_tellsOf.at 52 rfl) (by decide) hc ?_
        exact xx_mask [true, true, false, true, true] (ss_X8_tellsOf_99 C Q hK77_127 hK77_132 hf)
  · refine xx_icmp_ne_t (tgt := 99) C (dd_X8_tellsOf.at 44 rfl) (by decide) hc ?_
    exact xx_mask [true, true, false, true, true] (ss_X8_tellsOf_99 C Q hK77_127 hK77_132 hf)
theorem ss_X8_tellsOf_61 {Z : zz_} (C : cx_ Z mt_X8_tellsOf 2) {r9 : Int32} {x1 : Int32} {x3 : Int32} {x4 : Int32} {y0 : Int32} {h : hh_} {K61_127 : Int32 → Option (Int32)} {K61_132 : Int32 → Int32 → Option (Int32)} (Q : rq_ Z (some (.int r9)) h) (hK61_127 : ∀ (w0 : Int32), K61_127 w0 = some r9 → xx_ Z 127 [some (.ref 98), some (.int x1), none, some (.int x3), some (.int x4)] [.int w0] h) (hK61_132 : ∀ (w0 : Int32) (w1 : Int32), K61_132 w0 w1 = some r9 → xx_ Z 132 [some (.ref 98), some (.int x1), none, some (.int x3), some (.int x4)] [.int w1, .int w0] h) (hf : ff_X8_tellsOf_61 x1 x3 x4 y0 h K61_127 K61_132 = some r9) : xx_ Z 61 [some (.ref 98), some (.int x1), none, some (.int x3), some (.int x4)] [.int y0] h := by
  unfold ff_X8_tellsOf_61 at hf
  refine xx_iload_n C (dd_X8_tellsOf.at 34 rfl) rfl ?_
  refine xx_bipush C (dd_X8_tellsOf.at 35 rfl) bq_6 ?_
  rcases ifo_ hf with ⟨hc, hf⟩ | ⟨hc, hf⟩
  · refine xx_icmp_ne_f (tgt := 77) C (dd_X8_tellsOf.at 36 rfl) (by decide) (not_not_intro hc) ?_
    refine xx_aload_n C (dd_X8_tellsOf.at 37 rfl) rfl (Nat.le_of_ble_eq_true rfl) ?_
    refine xx_getR (j := 5) (r := 100) C ck_7 (lb_ rfl) lf_RX8_17 sh_k98 rfl (lb_ rfl) rfl (dd_X8_tellsOf.at 38 rfl) ?_
    refine xx_iload C (dd_X8_tellsOf.at 39 rfl) rfl ?_
    obtain ⟨g3, hf⟩ := gd_ok hf
    refine xx_iaload C (dd_X8_tellsOf.at 40 rfl) sh_k100 (bi_ok g3) ?_
    rcases ifo_ hf with ⟨hc, hf⟩ | ⟨hc, hf⟩
    · refine xx_if_ge_t (tgt := 127) C (dd_X8_tellsOf.at 41 rfl) (by decide) hc ?_
      exact xx_mask [true, true, false, true, true] (hK61_127 _ hf)
    · refine xx_if_ge_f (tgt := 127) C (dd_X8_tellsOf.at 41 rfl) (by decide) hc ?_
      exact xx_mask [true, true, false, true, true] (ss_X8_tellsOf_77 C Q hK61_127 hK61_132 hf)
  · refine xx_icmp_ne_t (tgt := 77) C (dd_X8_tellsOf.at 36 rfl) (by decide) hc ?_
    exact xx_mask [true, true, false, true, true] (ss_X8_tellsOf_77 C Q hK61_127 hK61_132 hf)
theorem ss_X8_tellsOf_34 {Z : zz_} (C : cx_ Z mt_X8_tellsOf 2) {r9 : Int32} {x1 : Int32} {x2 : Int32} {x4 : Int32} {y0 : Int32} {y1 : Int32} {h : hh_} {K34_7 : Int32 → Int32 → Int32 → Option (Int32)} (Q : rq_ Z (some (.int r9)) h) (hK34_7 : ∀ (z2 : Int32) (z3 : Int32) (z4 : Int32), K34_7 z2 z3 z4 = some r9 → xx_ Z 7 [some (.ref 98), some (.int x1), some (.int z2), some (.int z3), some (.int z4)] [] h) (hf : ff_X8_tellsOf_34 x1 x2 x4 y0 y1 h K34_7 = some r9) : xx_ Z 34 [some (.ref 98), some (.int x1), some (.int x2), none, some (.int x4)] [.int y1, .int y0] h := by
  unfold ff_X8_tellsOf_34 at hf
  refine xx_iadd C (dd_X8_tellsOf.at 19 rfl) ?_
  refine xx_istore_n (lv' := [_, _, _, _, _]) C (dd_X8_tellsOf.at 20 rfl) (lb_ rfl) rfl ?_
  refine xx_iload_n C (dd_X8_tellsOf.at 21 rfl) rfl ?_
  refine xx_iload_n C (dd_X8_tellsOf.at 22 rfl) rfl ?_
  refine xx_iconst C (dd_X8_tellsOf.at 23 rfl) ic_5 ?_
  rcases ifo_ hf with ⟨hc, hf⟩ | ⟨hc, hf⟩
  · refine xx_icmp_ne_f (tgt := 61) C (dd_X8_tellsOf.at 24 rfl) (by decide) (not_not_intro hc) ?_
    refine xx_iload C (dd_X8_tellsOf.at 25 rfl) rfl ?_
    refine xx_aload_n C (dd_X8_tellsOf.at 26 rfl) rfl (Nat.le_of_ble_eq_true rfl) ?_
    refine xx_getI (j := 11) C ck_7 (lb_ rfl) lf_RX8_144 sh_k98 rfl (dd_X8_tellsOf.at 27 rfl) ?_
    rcases ifo_ hf with ⟨hc, hf⟩ | ⟨hc, hf⟩
    · refine xx_icmp_ge_t (tgt := 61) C (dd_X8_tellsOf.at 28 rfl) (by decide) hc ?_
      refine xx_mask [true, true, false, true, true] (ss_X8_tellsOf_61 C Q (fun q7 hf => ?_) (fun q8 q9 hf => ?_) hf)
      · refine xx_iconst C (dd_X8_tellsOf.at 67 rfl) ic_1 ?_
        refine xx_goto (tgt := 132) C (dd_X8_tellsOf.at 68 rfl) (by decide) ?_
        refine xx_iadd C (dd_X8_tellsOf.at 70 rfl) ?_
        refine xx_istore_n (lv' := [_, _, _, _, _]) C (dd_X8_tellsOf.at 71 rfl) (lb_ rfl) rfl ?_
        refine xx_iinc (v := _ + (1 : Int32)) (lv' := [_, _, _, _, _]) C (dd_X8_tellsOf.at 72 rfl) (lb_ rfl) rfl (by rw [ic_1]) rfl ?_
        refine xx_goto (tgt := 7) C (dd_X8_tellsOf.at 73 rfl) (by decide) ?_
        exact xx_mask [true, true, true, true, true] (hK34_7 _ _ _ hf)
      · refine xx_iadd C (dd_X8_tellsOf.at 70 rfl) ?_
        refine xx_istore_n (lv' := [_, _, _, _, _]) C (dd_X8_tellsOf.at 71 rfl) (lb_ rfl) rfl ?_
        refine xx_iinc (v := _ + (1 : Int32)) (lv' := [_, _, _, _, _]) C (dd_X8_tellsOf.at 72 rfl) (lb_ rfl) rfl (by rw [ic_1]) rfl ?_
        refine xx_goto (tgt := 7) C (dd_X8_tellsOf.at 73 rfl) (by decide) ?_
        exact xx_mask [true, true, true, true, true] (hK34_7 _ _ _ hf)
    · refine xx_icmp_ge_f (tgt := 61) C (dd_X8_tellsOf.at 28 rfl) (by decide) hc ?_
      refine xx_aload_n C (dd_X8_tellsOf.at 29 rfl) rfl (Nat.le_of_ble_eq_true rfl) ?_
      refine xx_iload C (dd_X8_tellsOf.at 30 rfl) rfl ?_
      refine xx_iconst C (dd_X8_tellsOf.at 31 rfl) ic_3 ?_
      obtain ⟨v10, e11, hf⟩ := bdo_ hf
      refine xx_callVi C (ss_X8_isA e11) (dd_X8_tellsOf.at 32 rfl) ck_7 rfl sh_k98 kk_X8_isA ki_X8_isA lm_RX8_194 (lb_ rfl) rfl rfl (lb_ rfl) ?_
      rcases ifo_ hf with ⟨hc, hf⟩ | ⟨hc, hf⟩
      · refine xx_if_ne_f (tgt := 127) C (dd_X8_tellsOf.at 33 rfl) (by decide) (not_not_intro hc) ?_
        refine xx_mask [true, true, false, true, true] (ss_X8_tellsOf_61 C Q (fun q12 hf => ?_) (fun q13 q14 hf => ?_) hf)
        · refine xx_iconst C (dd_X8_tellsOf.at 67 rfl) ic_1 ?_
          refine xx_goto (tgt := 132) C (dd_X8_tellsOf.at 68 rfl) (by decide) ?_
          refine xx_iadd C (dd_X8_tellsOf.at 70 rfl) ?_
          refine xx_istore_n (lv' := [_, _, _, _, _]) C (dd_X8_tellsOf.at 71 rfl) (lb_ rfl) rfl ?_
          refine xx_iinc (v := _ + (1 : Int32)) (lv' := [_, _, _, _, _]) C (dd_X8_tellsOf.at 72 rfl) (lb_ rfl) rfl (by rw [ic_1]) rfl ?_
          refine xx_goto (tgt := 7) C (dd_X8_tellsOf.at 73 rfl) (by decide) ?_
          exact xx_mask [true, true, true, true, true] (hK34_7 _ _ _ hf)
        · refine xx_iadd C (dd_X8_tellsOf.at 70 rfl) ?_
          refine xx_istore_n (lv' := [_, _, _, _, _]) C (dd_X8_tellsOf.at 71 rfl) (lb_ rfl) rfl ?_
          refine xx_iinc (v := _ + (1 : Int32)) (lv' := [_, _, _, _, _]) C (dd_X8_tellsOf.at 72 rfl) (lb_ rfl) rfl (by rw [ic_1]) rfl ?_
          refine xx_goto (tgt := 7) C (dd_X8_tellsOf.at 73 rfl) (by decide) ?_
          exact xx_mask [true, true, true, true, true] (hK34_7 _ _ _ hf)
      · refine xx_if_ne_t (tgt := 127) C (dd_X8_tellsOf.at 33 rfl) (by decide) hc ?_
        refine xx_iconst C (dd_X8_tellsOf.at 67 rfl) ic_1 ?_
        refine xx_goto (tgt := 132) C (dd_X8_tellsOf.at 68 rfl) (by decide) ?_
        refine xx_iadd C (dd_X8_tellsOf.at 70 rfl) ?_
        refine xx_istore_n (lv' := [_, _, _, _, _]) C (dd_X8_tellsOf.at 71 rfl) (lb_ rfl) rfl ?_
        refine xx_iinc (v := _ + (1 : Int32)) (lv' := [_, _, _, _, _]) C (dd_X8_tellsOf.at 72 rfl) (lb_ rfl) rfl (by rw [ic_1]) rfl ?_
        refine xx_goto (tgt := 7) C (dd_X8_tellsOf.at 73 rfl) (by decide) ?_
        exact xx_mask [true, true, true, true, true] (hK34_7 _ _ _ hf)
  · refine xx_icmp_ne_t (tgt := 61) C (dd_X8_tellsOf.at 24 rfl) (by decide) hc ?_
    refine xx_mask [true, true, false, true, true] (ss_X8_tellsOf_61 C Q (fun q4 hf => ?_) (fun q5 q6 hf => ?_) hf)
    · refine xx_iconst C (dd_X8_tellsOf.at 67 rfl) ic_1 ?_
      refine xx_goto (tgt := 132) C (dd_X8_tellsOf.at 68 rfl) (by decide) ?_
      refine xx_iadd C (dd_X8_tellsOf.at 70 rfl) ?_
      refine xx_istore_n (lv' := [_, _, _, _, _]) C (dd_X8_tellsOf.at 71 rfl) (lb_ rfl) rfl ?_
      refine xx_iinc (v := _ + (1 : Int32)) (lv' := [_, _, _, _, _]) C (dd_X8_tellsOf.at 72 rfl) (lb_ rfl) rfl (by rw [ic_1]) rfl ?_
      refine xx_goto (tgt := 7) C (dd_X8_tellsOf.at 73 rfl) (by decide) ?_
      exact xx_mask [true, true, true, true, true] (hK34_7 _ _ _ hf)
    · refine xx_iadd C (dd_X8_tellsOf.at 70 rfl) ?_
      refine xx_istore_n (lv' := [_, _, _, _, _]) C (dd_X8_tellsOf.at 71 rfl) (lb_ rfl) rfl ?_
      refine xx_iinc (v := _ + (1 : Int32)) (lv' := [_, _, _, _, _]) C (dd_X8_tellsOf.at 72 rfl) (lb_ rfl) rfl (by rw [ic_1]) rfl ?_
      refine xx_goto (tgt := 7) C (dd_X8_tellsOf.at 73 rfl) (by decide) ?_
      exact xx_mask [true, true, true, true, true] (hK34_7 _ _ _ hf)
theorem ss_X8_tellsOf_7 {Z : zz_} (C : cx_ Z mt_X8_tellsOf 2) {r9 : Int32} {x1 : Int32} {h : hh_} {K7_140 : Int32 → Int32 → Option (Int32)} (Q : rq_ Z (some (.int r9)) h) (hK7_140 : ∀ (z2 : Int32) (z3 : Int32), K7_140 z2 z3 = some r9 → xx_ Z 140 [some (.ref 98), some (.int x1), some (.int z2), some (.int z3), none] [] h) : ∀ (n9 : Nat) (x2 : Int32) (x3 : Int32) (x4 : Int32), ff_X8_tellsOf_7 x1 h K7_140 n9 x2 x3 x4 = some r9 → xx_ Z 7 [some (.ref 98), some (.int x1), some (.int x2), some (.int x3), some (.int x4)] [] h := by
  intro n9
  induction n9 with
  | zero =>
    intro x2 x3 x4 hf
    exact absurd hf (by rw [ff_X8_tellsOf_7]; exact nofun)
  | succ n9 ih =>
    intro x2 x3 x4 hf
    rw [ff_X8_tellsOf_7] at hf
    refine xx_iload C (dd_X8_tellsOf.at 6 rfl) rfl ?_
    refine xx_bipush C (dd_X8_tellsOf.at 7 rfl) bq_6 ?_
    rcases ifo_ hf with ⟨hc, hf⟩ | ⟨hc, hf⟩
    · refine xx_icmp_ge_t (tgt := 140) C (dd_X8_tellsOf.at 8 rfl) (by decide) hc ?_
      exact xx_mask [true, true, true, true, false] (hK7_140 _ _ hf)
    · refine xx_icmp_ge_f (tgt := 140) C (dd_X8_tellsOf.at 8 rfl) (by decide) hc ?_
      refine xx_iload_n C (dd_X8_tellsOf.at 9 rfl) rfl ?_
      refine xx_iload C (dd_X8_tellsOf.at 10 rfl) rfl ?_
      refine xx_aload_n C (dd_X8_tellsOf.at 11 rfl) rfl (Nat.le_of_ble_eq_true rfl) ?_
      refine xx_getI (j := 10) C ck_7 (lb_ rfl) lf_RX8_141 sh_k98 rfl (dd_X8_tellsOf.at 12 rfl) ?_
      rcases ifo_ hf with ⟨hc, hf⟩ | ⟨hc, hf⟩
      · refine xx_icmp_ge_t (tgt := 33) C (dd_X8_tellsOf.at 13 rfl) (by decide) hc ?_
        refine xx_iconst C (dd_X8_tellsOf.at 18 rfl) ic_0 ?_
        exact xx_mask [true, true, true, false, true] (ss_X8_tellsOf_34 C Q (fun _ _ _ hf => ih _ _ _ hf) hf)
      · refine xx_icmp_ge_f (tgt := 33) C (dd_X8_tellsOf.at 13 rfl) (by decide) hc ?_
        refine xx_aload_n C (dd_X8_tellsOf.at 14 rfl) rfl (Nat.le_of_ble_eq_true rfl) ?_
        refine xx_iload C (dd_X8_tellsOf.at 15 rfl) rfl ?_
        obtain ⟨v15, e16, hf⟩ := bdo_ hf
        refine xx_callVi C (ss_X8_bumps e16) (dd_X8_tellsOf.at 16 rfl) ck_7 rfl sh_k98 kk_X8_bumps ki_X8_bumps lm_RX8_156 (lb_ rfl) rfl rfl (lb_ rfl) ?_
        refine xx_goto (tgt := 34) C (dd_X8_tellsOf.at 17 rfl) (by decide) ?_
        exact xx_mask [true, true, true, false, true] (ss_X8_tellsOf_34 C Q (fun _ _ _ hf => ih _ _ _ hf) hf)
theorem ss_X8_tellsOf {l : Launch} {G : gt_} {a1 : Int32} {h : hh_} {r9 : Int32}  (hf : ff_X8_tellsOf a1 h = some r9) : ok_ l G 2 mt_X8_tellsOf [.ref 98, .int a1] h (some (.int r9)) h := by
  refine ok_of pn_RX8 (lb_ rfl) (fun Z _ _ C Q => ?_)
  show xx_ Z 0 [some (.ref 98), some (.int a1), none, none, none] [] h
  unfold ff_X8_tellsOf at hf
  refine xx_iconst C (dd_X8_tellsOf.at 0 rfl) ic_0 ?_
  refine xx_istore_n (lv' := [_, _, _, _, _]) C (dd_X8_tellsOf.at 1 rfl) (lb_ rfl) rfl ?_
  refine xx_iconst C (dd_X8_tellsOf.at 2 rfl) ic_0 ?_
  refine xx_istore_n (lv' := [_, _, _, _, _]) C (dd_X8_tellsOf.at 3 rfl) (lb_ rfl) rfl ?_
  refine xx_iconst C (dd_X8_tellsOf.at 4 rfl) ic_0 ?_
  refine xx_istore (lv' := [_, _, _, _, _]) C (dd_X8_tellsOf.at 5 rfl) (lb_ rfl) rfl ?_
  refine xx_mask [true, true, true, true, true] (ss_X8_tellsOf_7 C Q (fun u17 u18 hf => ?_) _ _ _ _ hf)
  refine xx_iload_n C (dd_X8_tellsOf.at 74 rfl) rfl ?_
  rcases ifo_ hf with ⟨hc0, hf⟩ | ⟨hc0, hf⟩
  · refine xx_tabIn (off := 35) (tgt := 176) C (dd_X8_tellsOf.at 75 rfl) (by rw [hc0]; decide) (by rw [hc0]; decide) (by rw [hc0]; decide) (by decide) ?_
    refine xx_aload_n C (dd_X8_tellsOf.at 76 rfl) rfl (Nat.le_of_ble_eq_true rfl) ?_
    refine xx_getI (j := 10) C ck_7 (lb_ rfl) lf_RX8_141 sh_k98 rfl (dd_X8_tellsOf.at 77 rfl) ?_
    exact xx_ireturn C (rt_ip hf Q) (dd_X8_tellsOf.at 78 rfl) rfl
  · rcases ifo_ hf with ⟨hc1, hf⟩ | ⟨hc1, hf⟩
    · refine xx_tabIn (off := 40) (tgt := 181) C (dd_X8_tellsOf.at 75 rfl) (by rw [hc1]; decide) (by rw [hc1]; decide) (by rw [hc1]; decide) (by decide) ?_
      refine xx_aload_n C (dd_X8_tellsOf.at 79 rfl) rfl (Nat.le_of_ble_eq_true rfl) ?_
      refine xx_getI (j := 11) C ck_7 (lb_ rfl) lf_RX8_144 sh_k98 rfl (dd_X8_tellsOf.at 80 rfl) ?_
      exact xx_ireturn C (rt_ip hf Q) (dd_X8_tellsOf.at 81 rfl) rfl
    · rcases ifo_ hf with ⟨hc2, hf⟩ | ⟨hc2, hf⟩
      · refine xx_tabIn (off := 45) (tgt := 186) C (dd_X8_tellsOf.at 75 rfl) (by rw [hc2]; decide) (by rw [hc2]; decide) (by rw [hc2]; decide) (by decide) ?_
        refine xx_aload_n C (dd_X8_tellsOf.at 82 rfl) rfl (Nat.le_of_ble_eq_true rfl) ?_
        refine xx_getI (j := 12) C ck_7 (lb_ rfl) lf_RX8_147 sh_k98 rfl (dd_X8_tellsOf.at 83 rfl) ?_
        exact xx_ireturn C (rt_ip hf Q) (dd_X8_tellsOf.at 84 rfl) rfl
      · rcases ifo_ hf with ⟨hc3, hf⟩ | ⟨hc3, hf⟩
        · refine xx_tabIn (off := 50) (tgt := 191) C (dd_X8_tellsOf.at 75 rfl) (by rw [hc3]; decide) (by rw [hc3]; decide) (by rw [hc3]; decide) (by decide) ?_
          refine xx_aload_n C (dd_X8_tellsOf.at 85 rfl) rfl (Nat.le_of_ble_eq_true rfl) ?_
          refine xx_getI (j := 21) C ck_7 (lb_ rfl) lf_RX8_150 sh_k98 rfl (dd_X8_tellsOf.at 86 rfl) ?_
          exact xx_ireturn C (rt_ip hf Q) (dd_X8_tellsOf.at 87 rfl) rfl
        · rcases ifo_ hf with ⟨hc4, hf⟩ | ⟨hc4, hf⟩
          · refine xx_tabIn (off := 55) (tgt := 196) C (dd_X8_tellsOf.at 75 rfl) (by rw [hc4]; decide) (by rw [hc4]; decide) (by rw [hc4]; decide) (by decide) ?_
            refine xx_iload_n C (dd_X8_tellsOf.at 88 rfl) rfl ?_
            exact xx_ireturn C (rt_ip hf Q) (dd_X8_tellsOf.at 89 rfl) rfl
          · refine xx_tabOut (tgt := 198) C (dd_X8_tellsOf.at 75 rfl) (tab_out (n := 5) (fun k9 hk9 => by match k9, hk9 with | 0, _ => exact hc0 | 1, _ => exact hc1 | 2, _ => exact hc2 | 3, _ => exact hc3 | 4, _ => exact hc4 | k9 + 5, hk9 => exact absurd hk9 (by omega)) rfl) (by decide) ?_
            refine xx_iload_n C (dd_X8_tellsOf.at 90 rfl) rfl ?_
            exact xx_ireturn C (rt_ip hf Q) (dd_X8_tellsOf.at 91 rfl) rfl
theorem ss_X8_count {l : Launch} {G : gt_} {a1 : Int32} {h : hh_} {r9 : Int32}  (hf : ff_X8_count a1 h = some r9) : ok_ l G 3 mt_X8_count [.ref 98, .int a1] h (some (.int r9)) h := by
  refine ok_of pn_RX8 (lb_ rfl) (fun Z _ _ C Q => ?_)
  show xx_ Z 0 [some (.ref 98), some (.int a1)] [] h
  unfold ff_X8_count at hf
  refine xx_iload_n C (dd_X8_count.at 0 rfl) rfl ?_
  refine xx_iconst C (dd_X8_count.at 1 rfl) ic_0 ?_
  refine xx_bipush C (dd_X8_count.at 2 rfl) bq_8 ?_
  refine xx_callSi C (ss_X8_in rfl) (dd_X8_count.at 3 rfl) kk_X8_in ks_X8_in lm_RX8_72 (lb_ rfl) rfl rfl (lb_ rfl) ?_
  rcases ifo_ hf with ⟨hc, hf⟩ | ⟨hc, hf⟩
  · refine xx_if_eq_t (tgt := 18) C (dd_X8_count.at 4 rfl) (by decide) hc ?_
    refine xx_iconst C (dd_X8_count.at 9 rfl) ic_m1 ?_
    exact xx_ireturn C (rt_ip hf Q) (dd_X8_count.at 10 rfl) rfl
  · refine xx_if_eq_f (tgt := 18) C (dd_X8_count.at 4 rfl) (by decide) hc ?_
    refine xx_aload_n C (dd_X8_count.at 5 rfl) rfl (Nat.le_of_ble_eq_true rfl) ?_
    refine xx_iload_n C (dd_X8_count.at 6 rfl) rfl ?_
    obtain ⟨v1, e2, hf⟩ := bdo_ hf
    refine xx_callVi C (ss_X8_tellsOf e2) (dd_X8_count.at 7 rfl) ck_7 rfl sh_k98 kk_X8_tellsOf ki_X8_tellsOf lm_RX8_282 (lb_ rfl) rfl rfl (lb_ rfl) ?_
    refine xx_goto (tgt := 19) C (dd_X8_count.at 8 rfl) (by decide) ?_
    exact xx_ireturn C (rt_ip hf Q) (dd_X8_count.at 10 rfl) rfl
theorem ss_X8_finding {l : Launch} {G : gt_} {h : hh_} {r9 : Int32}  (hf : ff_X8_finding h = r9) : ok_ l G 0 mt_X8_finding [.ref 98] h (some (.int r9)) h := by
  refine ok_of pn_RX8 (lb_ rfl) (fun Z _ _ C Q => ?_)
  show xx_ Z 0 [some (.ref 98)] [] h
  unfold ff_X8_finding at hf
  refine xx_aload_n C (dd_X8_finding.at 0 rfl) rfl (Nat.le_of_ble_eq_true rfl) ?_
  refine xx_getI (j := 0) C ck_7 (lb_ rfl) lf_RX8_62 sh_k98 rfl (dd_X8_finding.at 1 rfl) ?_
  exact xx_ireturn C (rt_i hf Q) (dd_X8_finding.at 2 rfl) rfl
theorem ss_X8_findings {l : Launch} {G : gt_} {a1 : Int32} {h : hh_} {r9 : Int32}  (hf : ff_X8_findings a1 h = some r9) : ok_ l G 1 mt_X8_findings [.ref 98, .int a1] h (some (.int r9)) h := by
  refine ok_of pn_RX8 (lb_ rfl) (fun Z _ _ C Q => ?_)
  show xx_ Z 0 [some (.ref 98), some (.int a1)] [] h
  unfold ff_X8_findings at hf
  refine xx_iload_n C (dd_X8_findings.at 0 rfl) rfl ?_
  refine xx_iconst C (dd_X8_findings.at 1 rfl) ic_1 ?_
  refine xx_iconst C (dd_X8_findings.at 2 rfl) ic_5 ?_
  refine xx_callSi C (ss_X8_in rfl) (dd_X8_findings.at 3 rfl) kk_X8_in ks_X8_in lm_RX8_72 (lb_ rfl) rfl rfl (lb_ rfl) ?_
  rcases ifo_ hf with ⟨hc, hf⟩ | ⟨hc, hf⟩
  · refine xx_if_eq_t (tgt := 18) C (dd_X8_findings.at 4 rfl) (by decide) hc ?_
    refine xx_iconst C (dd_X8_findings.at 10 rfl) ic_m1 ?_
    exact xx_ireturn C (rt_ip hf Q) (dd_X8_findings.at 11 rfl) rfl
  · refine xx_if_eq_f (tgt := 18) C (dd_X8_findings.at 4 rfl) (by decide) hc ?_
    refine xx_aload_n C (dd_X8_findings.at 5 rfl) rfl (Nat.le_of_ble_eq_true rfl) ?_
    refine xx_getR (j := 1) (r := 99) C ck_7 (lb_ rfl) lf_RX8_7 sh_k98 rfl (lb_ rfl) rfl (dd_X8_findings.at 6 rfl) ?_
    refine xx_iload_n C (dd_X8_findings.at 7 rfl) rfl ?_
    obtain ⟨g1, hf⟩ := gd_ok hf
    refine xx_iaload C (dd_X8_findings.at 8 rfl) sh_k99 (bi_ok g1) ?_
    refine xx_goto (tgt := 19) C (dd_X8_findings.at 9 rfl) (by decide) ?_
    exact xx_ireturn C (rt_ip hf Q) (dd_X8_findings.at 11 rfl) rfl
theorem ss_X8_mix {l : Launch} {G : gt_} {a1 : Int32} {h : hh_} {h9 : hh_}  (hf : ff_X8_mix a1 h = h9) : ok_ l G 0 mt_X8_mix [.ref 98, .int a1] h none h9 := by
  refine ok_of pn_RX8 (lb_ rfl) (fun Z _ _ C Q => ?_)
  show xx_ Z 0 [some (.ref 98), some (.int a1)] [] h
  unfold ff_X8_mix at hf
  refine xx_aload_n C (dd_X8_mix.at 0 rfl) rfl (Nat.le_of_ble_eq_true rfl) ?_
  refine xx_ldc2 C (dd_X8_mix.at 1 rfl) lc_RX8_285 ?_
  refine xx_aload_n C (dd_X8_mix.at 2 rfl) rfl (Nat.le_of_ble_eq_true rfl) ?_
  refine xx_getL (j := 30) C ck_7 (lb_ rfl) lf_RX8_287 sh_k98 rfl (dd_X8_mix.at 3 rfl) ?_
  refine xx_lmul C (dd_X8_mix.at 4 rfl) ?_
  refine xx_iload_n C (dd_X8_mix.at 5 rfl) rfl ?_
  refine xx_i2l C (dd_X8_mix.at 6 rfl) ?_
  refine xx_ladd C (dd_X8_mix.at 7 rfl) ?_
  refine xx_putL (j := 30) C ck_7 (lb_ rfl) lf_RX8_287 rfl rfl sh_k98 rfl (dd_X8_mix.at 8 rfl) ?_
  exact xx_return C (rt_vw hf Q) (dd_X8_mix.at 9 rfl) rfl
