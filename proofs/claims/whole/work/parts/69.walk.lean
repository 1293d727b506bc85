theorem ss_X8_copy_104 {Z : zz_} (C : cx_ Z mt_X8_copy 2) {r9 : Int32} {h9 : hh_} {x1 : Int32} {x2 : Int32} {x3 : Int32} {x4 : Int32} {x5 : Int32} {K104_133 : hh_ → Option (Int32 × hh_)} (Q : rq_ Z (some (.int r9)) h9) (hK104_133 : ∀ (h8 : hh_), K104_133 h8 = some (r9, h9) → xx_ Z 133 [some (.ref 98), none, none, some (.int x3), some (.int x4), some (.int x5), none] [] h8) : ∀ (n9 : Nat) (x6 : Int32) (h : hh_), ff_X8_copy_104 x1 x2 x3 x4 x5 K104_133 n9 x6 h = some (r9, h9) → xx_ Z 104 [some (.ref 98), some (.int x1), some (.int x2), some (.int x3), some (.int x4), some (.int x5), some (.int x6)] [] h := by
  intro n9
  induction n9 with
  | zero =>
    intro x6 h hf
    exact absurd hf (by rw [ff_X8_copy_104]; exact nofun)
  | succ n9 ih =>
    intro x6 h hf
    rw [ff_X8_copy_104] at hf
    refine xx_iload C (dd_X8_copy.at 62 rfl) rfl ?_
    refine xx_iload C (dd_X8_copy.at 63 rfl) rfl ?_
    rcases ifo_ hf with ⟨hc, hf⟩ | ⟨hc, hf⟩
    · refine xx_icmp_ge_t (tgt := 133) C (dd_X8_copy.at 64 rfl) (by decide) hc ?_
      exact xx_mask [true, false, false, true, true, true, false] (hK104_133 _ hf)
    · refine xx_icmp_ge_f (tgt := 133) C (dd_X8_copy.at 64 rfl) (by decide) hc ?_
      refine xx_aload_n C (dd_X8_copy.at 65 rfl) rfl (Nat.le_of_ble_eq_true rfl) ?_
      refine xx_getR (j := 7) (r := 102) C ck_7 (lb_ rfl) lf_RX8_23 sh_k98 rfl (lb_ rfl) rfl (dd_X8_copy.at 66 rfl) ?_
      refine xx_iload C (dd_X8_copy.at 67 rfl) rfl ?_
      refine xx_aload_n C (dd_X8_copy.at 68 rfl) rfl (Nat.le_of_ble_eq_true rfl) ?_
      refine xx_iload_n C (dd_X8_copy.at 69 rfl) rfl ?_
      refine xx_iload_n C (dd_X8_copy.at 70 rfl) rfl ?_
      refine xx_iload C (dd_X8_copy.at 71 rfl) rfl ?_
      refine xx_iadd C (dd_X8_copy.at 72 rfl) ?_
      obtain ⟨v11, e12, hf⟩ := bdo_ hf
      refine xx_callVi C (ss_X8_rowAt e12) (dd_X8_copy.at 73 rfl) ck_7 rfl sh_k98 kk_X8_rowAt ki_X8_rowAt lm_RX8_94 (lb_ rfl) rfl rfl (lb_ rfl) ?_
      obtain ⟨g13, hf⟩ := gd_ok hf
      refine xx_iastore C (dd_X8_copy.at 74 rfl) sh_k102 (bi_ok g13) ?_
      refine xx_iinc (v := _ + (1 : Int32)) (lv' := [_, _, _, _, _, _, _]) C (dd_X8_copy.at 75 rfl) (lb_ rfl) rfl (by rw [ic_1]) rfl ?_
      refine xx_goto (tgt := 104) C (dd_X8_copy.at 76 rfl) (by decide) ?_
      exact xx_mask [true, true, true, true, true, true, true] (ih _ _ hf)
theorem ss_X8_copy_136 {Z : zz_} (C : cx_ Z mt_X8_copy 2) {r9 : Int32} {h9 : hh_} {x3 : Int32} {x4 : Int32} {x5 : Int32}  (Q : rq_ Z (some (.int r9)) h9) : ∀ (n9 : Nat) (x6 : Int32) (h : hh_), ff_X8_copy_136 x3 x4 x5 n9 x6 h = some (r9, h9) → xx_ Z 136 [some (.ref 98), none, none, some (.int x3), some (.int x4), some (.int x5), some (.int x6)] [] h := by
  intro n9
  induction n9 with
  | zero =>
    intro x6 h hf
    exact absurd hf (by rw [ff_X8_copy_136]; exact nofun)
  | succ n9 ih =>
    intro x6 h hf
    rw [ff_X8_copy_136] at hf
    refine xx_iload C (dd_X8_copy.at 79 rfl) rfl ?_
    refine xx_iload C (dd_X8_copy.at 80 rfl) rfl ?_
    rcases ifo_ hf with ⟨hc, hf⟩ | ⟨hc, hf⟩
    · refine xx_icmp_ge_t (tgt := 166) C (dd_X8_copy.at 81 rfl) (by decide) hc ?_
      refine xx_iconst C (dd_X8_copy.at 94 rfl) ic_1 ?_
      exact xx_ireturn C (rt_iwp hf Q) (dd_X8_copy.at 95 rfl) rfl
    · refine xx_icmp_ge_f (tgt := 166) C (dd_X8_copy.at 81 rfl) (by decide) hc ?_
      refine xx_aload_n C (dd_X8_copy.at 82 rfl) rfl (Nat.le_of_ble_eq_true rfl) ?_
      refine xx_iload_n C (dd_X8_copy.at 83 rfl) rfl ?_
      refine xx_iload C (dd_X8_copy.at 84 rfl) rfl ?_
      refine xx_iload C (dd_X8_copy.at 85 rfl) rfl ?_
      refine xx_iadd C (dd_X8_copy.at 86 rfl) ?_
      refine xx_aload_n C (dd_X8_copy.at 87 rfl) rfl (Nat.le_of_ble_eq_true rfl) ?_
      refine xx_getR (j := 7) (r := 102) C ck_7 (lb_ rfl) lf_RX8_23 sh_k98 rfl (lb_ rfl) rfl (dd_X8_copy.at 88 rfl) ?_
      refine xx_iload C (dd_X8_copy.at 89 rfl) rfl ?_
      obtain ⟨g15, hf⟩ := gd_ok hf
      refine xx_iaload C (dd_X8_copy.at 90 rfl) sh_k102 (bi_ok g15) ?_
      obtain ⟨v16, e17, hf⟩ := bdo_ hf
      refine xx_callVv C (ss_X8_setRow e17) (dd_X8_copy.at 91 rfl) ck_7 rfl sh_k98 kk_X8_setRow ki_X8_setRow lm_RX8_87 (lb_ rfl) rfl rfl (lb_ rfl) ?_
      refine xx_iinc (v := _ + (1 : Int32)) (lv' := [_, _, _, _, _, _, _]) C (dd_X8_copy.at 92 rfl) (lb_ rfl) rfl (by rw [ic_1]) rfl ?_
      refine xx_goto (tgt := 136) C (dd_X8_copy.at 93 rfl) (by decide) ?_
      exact xx_mask [true, false, false, true, true, true, true] (ih _ _ hf)
theorem ss_X8_copy {l : Launch} {G : gt_} {a1 : Int32} {a2 : Int32} {a3 : Int32} {a4 : Int32} {a5 : Int32} {h : hh_} {r9 : Int32} {h9 : hh_}  (hf : ff_X8_copy a1 a2 a3 a4 a5 h = some (r9, h9)) : ok_ l G 2 mt_X8_copy [.ref 98, .int a1, .int a2, .int a3, .int a4, .int a5] h (some (.int r9)) h9 := by
  refine ok_of pn_RX8 (lb_ rfl) (fun Z _ _ C Q => ?_)
  show xx_ Z 0 [some (.ref 98), some (.int a1), some (.int a2), some (.int a3), some (.int a4), some (.int a5), none] [] h
  unfold ff_X8_copy at hf
  refine xx_iload_n C (dd_X8_copy.at 0 rfl) rfl ?_
  refine xx_callSi C (ss_X8_isRow rfl) (dd_X8_copy.at 1 rfl) kk_X8_isRow ks_X8_isRow lm_RX8_76 (lb_ rfl) rfl rfl (lb_ rfl) ?_
  rcases ifo_ hf with ⟨hc, hf⟩ | ⟨hc, hf⟩
  · refine xx_if_eq_t (tgt := 14) C (dd_X8_copy.at 2 rfl) (by decide) hc ?_
    refine xx_iconst C (dd_X8_copy.at 6 rfl) ic_m1 ?_
    exact xx_ireturn C (rt_iwp hf Q) (dd_X8_copy.at 7 rfl) rfl
  · refine xx_if_eq_f (tgt := 14) C (dd_X8_copy.at 2 rfl) (by decide) hc ?_
    refine xx_iload_n C (dd_X8_copy.at 3 rfl) rfl ?_
    refine xx_callSi C (ss_X8_isRow rfl) (dd_X8_copy.at 4 rfl) kk_X8_isRow ks_X8_isRow lm_RX8_76 (lb_ rfl) rfl rfl (lb_ rfl) ?_
    rcases ifo_ hf with ⟨hc, hf⟩ | ⟨hc, hf⟩
    · refine xx_if_ne_f (tgt := 16) C (dd_X8_copy.at 5 rfl) (by decide) (not_not_intro hc) ?_
      refine xx_iconst C (dd_X8_copy.at 6 rfl) ic_m1 ?_
      exact xx_ireturn C (rt_iwp hf Q) (dd_X8_copy.at 7 rfl) rfl
    · refine xx_if_ne_t (tgt := 16) C (dd_X8_copy.at 5 rfl) (by decide) hc ?_
      refine xx_iload C (dd_X8_copy.at 8 rfl) rfl ?_
      rcases ifo_ hf with ⟨hc, hf⟩ | ⟨hc, hf⟩
      · refine xx_if_ge_t (tgt := 27) C (dd_X8_copy.at 9 rfl) (by decide) hc ?_
        refine xx_aload_n C (dd_X8_copy.at 14 rfl) rfl (Nat.le_of_ble_eq_true rfl) ?_
        refine xx_getR (j := 5) (r := 100) C ck_7 (lb_ rfl) lf_RX8_17 sh_k98 rfl (lb_ rfl) rfl (dd_X8_copy.at 15 rfl) ?_
        refine xx_iload_n C (dd_X8_copy.at 16 rfl) rfl ?_
        obtain ⟨g1, hf⟩ := gd_ok hf
        refine xx_iaload C (dd_X8_copy.at 17 rfl) sh_k100 (bi_ok g1) ?_
        rcases ifo_ hf with ⟨hc, hf⟩ | ⟨hc, hf⟩
        · refine xx_if_lt_t (tgt := 45) C (dd_X8_copy.at 18 rfl) (by decide) hc ?_
          refine xx_aload_n C (dd_X8_copy.at 24 rfl) rfl (Nat.le_of_ble_eq_true rfl) ?_
          refine xx_iconst C (dd_X8_copy.at 25 rfl) ic_1 ?_
          obtain ⟨v2, e3, hf⟩ := bdo_ hf
          refine xx_callVi C (ss_X8_meet (pz_ e3)) (dd_X8_copy.at 26 rfl) ck_7 rfl sh_k98 kk_X8_meet ki_X8_meet lm_RX8_80 (lb_ rfl) rfl rfl (lb_ rfl) ?_
          exact xx_ireturn C (rt_iwp hf Q) (dd_X8_copy.at 27 rfl) rfl
        · refine xx_if_lt_f (tgt := 45) C (dd_X8_copy.at 18 rfl) (by decide) hc ?_
          refine xx_aload_n C (dd_X8_copy.at 19 rfl) rfl (Nat.le_of_ble_eq_true rfl) ?_
          refine xx_getR (j := 5) (r := 100) C ck_7 (lb_ rfl) lf_RX8_17 sh_k98 rfl (lb_ rfl) rfl (dd_X8_copy.at 20 rfl) ?_
          refine xx_iload_n C (dd_X8_copy.at 21 rfl) rfl ?_
          obtain ⟨g4, hf⟩ := gd_ok hf
          refine xx_iaload C (dd_X8_copy.at 22 rfl) sh_k100 (bi_ok g4) ?_
          rcases ifo_ hf with ⟨hc, hf⟩ | ⟨hc, hf⟩
          · refine xx_if_ge_t (tgt := 51) C (dd_X8_copy.at 23 rfl) (by decide) hc ?_
            refine xx_iload_n C (dd_X8_copy.at 28 rfl) rfl ?_
            rcases ifo_ hf with ⟨hc, hf⟩ | ⟨hc, hf⟩
            · refine xx_if_lt_t (tgt := 95) C (dd_X8_copy.at 29 rfl) (by decide) hc ?_
              refine xx_aload_n C (dd_X8_copy.at 56 rfl) rfl (Nat.le_of_ble_eq_true rfl) ?_
              refine xx_iconst C (dd_X8_copy.at 57 rfl) ic_2 ?_
              obtain ⟨v5, e6, hf⟩ := bdo_ hf
              refine xx_callVi C (ss_X8_meet (pz_ e6)) (dd_X8_copy.at 58 rfl) ck_7 rfl sh_k98 kk_X8_meet ki_X8_meet lm_RX8_80 (lb_ rfl) rfl rfl (lb_ rfl) ?_
              exact xx_ireturn C (rt_iwp hf Q) (dd_X8_copy.at 59 rfl) rfl
            · refine xx_if_lt_f (tgt := 95) C (dd_X8_copy.at 29 rfl) (by decide) hc ?_
              refine xx_iload C (dd_X8_copy.at 30 rfl) rfl ?_
              rcases ifo_ hf with ⟨hc, hf⟩ | ⟨hc, hf⟩
              · refine xx_if_lt_t (tgt := 95) C (dd_X8_copy.at 31 rfl) (by decide) hc ?_
                refine xx_aload_n C (dd_X8_copy.at 56 rfl) rfl (Nat.le_of_ble_eq_true rfl) ?_
                refine xx_iconst C (dd_X8_copy.at 57 rfl) ic_2 ?_
                obtain ⟨v7, e8, hf⟩ := bdo_ hf
                refine xx_callVi C (ss_X8_meet (pz_ e8)) (dd_X8_copy.at 58 rfl) ck_7 rfl sh_k98 kk_X8_meet ki_X8_meet lm_RX8_80 (lb_ rfl) rfl rfl (lb_ rfl) ?_
                exact xx_ireturn C (rt_iwp hf Q) (dd_X8_copy.at 59 rfl) rfl
              · refine xx_if_lt_f (tgt := 95) C (dd_X8_copy.at 31 rfl) (by decide) hc ?_
                refine xx_iload_n C (dd_X8_copy.at 32 rfl) rfl ?_
                refine xx_i2l C (dd_X8_copy.at 33 rfl) ?_
                refine xx_iload C (dd_X8_copy.at 34 rfl) rfl ?_
                refine xx_i2l C (dd_X8_copy.at 35 rfl) ?_
                refine xx_ladd C (dd_X8_copy.at 36 rfl) ?_
                refine xx_aload_n C (dd_X8_copy.at 37 rfl) rfl (Nat.le_of_ble_eq_true rfl) ?_
                refine xx_getR (j := 5) (r := 100) C ck_7 (lb_ rfl) lf_RX8_17 sh_k98 rfl (lb_ rfl) rfl (dd_X8_copy.at 38 rfl) ?_
                refine xx_iload_n C (dd_X8_copy.at 39 rfl) rfl ?_
                refine xx_iaload C (dd_X8_copy.at 40 rfl) sh_k100 (bi_ok g1) ?_
                refine xx_i2l C (dd_X8_copy.at 41 rfl) ?_
                refine xx_lcmp C (dd_X8_copy.at 42 rfl) ?_
                rcases ifo_ hf with ⟨hc, hf⟩ | ⟨hc, hf⟩
                · refine xx_if_gt_t (tgt := 95) C (dd_X8_copy.at 43 rfl) (by decide) hc ?_
                  refine xx_aload_n C (dd_X8_copy.at 56 rfl) rfl (Nat.le_of_ble_eq_true rfl) ?_
                  refine xx_iconst C (dd_X8_copy.at 57 rfl) ic_2 ?_
                  obtain ⟨v9, e10, hf⟩ := bdo_ hf
                  refine xx_callVi C (ss_X8_meet (pz_ e10)) (dd_X8_copy.at 58 rfl) ck_7 rfl sh_k98 kk_X8_meet ki_X8_meet lm_RX8_80 (lb_ rfl) rfl rfl (lb_ rfl) ?_
                  exact xx_ireturn C (rt_iwp hf Q) (dd_X8_copy.at 59 rfl) rfl
                · refine xx_if_gt_f (tgt := 95) C (dd_X8_copy.at 43 rfl) (by decide) hc ?_
                  refine xx_iload C (dd_X8_copy.at 44 rfl) rfl ?_
                  refine xx_i2l C (dd_X8_copy.at 45 rfl) ?_
                  refine xx_iload C (dd_X8_copy.at 46 rfl) rfl ?_
                  refine xx_i2l C (dd_X8_copy.at 47 rfl) ?_
                  refine xx_ladd C (dd_X8_copy.at 48 rfl) ?_
                  refine xx_aload_n C (dd_X8_copy.at 49 rfl) rfl (Nat.le_of_ble_eq_true rfl) ?_
                  refine xx_getR (j := 5) (r := 100) C ck_7 (lb_ rfl) lf_RX8_17 sh_k98 rfl (lb_ rfl) rfl (dd_X8_copy.at 50 rfl) ?_
                  refine xx_iload_n C (dd_X8_copy.at 51 rfl) rfl ?_
                  refine xx_iaload C (dd_X8_copy.at 52 rfl) sh_k100 (bi_ok g4) ?_
                  refine xx_i2l C (dd_X8_copy.at 53 rfl) ?_
                  refine xx_lcmp C (dd_X8_copy.at 54 rfl) ?_
                  rcases ifo_ hf with ⟨hc, hf⟩ | ⟨hc, hf⟩
                  · refine xx_if_le_t (tgt := 101) C (dd_X8_copy.at 55 rfl) (by decide) hc ?_
                    refine xx_iconst C (dd_X8_copy.at 60 rfl) ic_0 ?_
                    refine xx_istore (lv' := [_, _, _, _, _, _, _]) C (dd_X8_copy.at 61 rfl) (lb_ rfl) rfl ?_
                    refine xx_mask [true, true, true, true, true, true, true] (ss_X8_copy_104 C Q (fun k14 hf => ?_) _ _ _ hf)
                    refine xx_iconst C (dd_X8_copy.at 77 rfl) ic_0 ?_
                    refine xx_istore (lv' := [_, _, _, _, _, _, _]) C (dd_X8_copy.at 78 rfl) (lb_ rfl) rfl ?_
                    exact xx_mask [true, false, false, true, true, true, true] (ss_X8_copy_136 C Q _ _ _ hf)
                  · refine xx_if_le_f (tgt := 101) C (dd_X8_copy.at 55 rfl) (by decide) hc ?_
                    refine xx_aload_n C (dd_X8_copy.at 56 rfl) rfl (Nat.le_of_ble_eq_true rfl) ?_
                    refine xx_iconst C (dd_X8_copy.at 57 rfl) ic_2 ?_
                    obtain ⟨v18, e19, hf⟩ := bdo_ hf
                    refine xx_callVi C (ss_X8_meet (pz_ e19)) (dd_X8_copy.at 58 rfl) ck_7 rfl sh_k98 kk_X8_meet ki_X8_meet lm_RX8_80 (lb_ rfl) rfl rfl (lb_ rfl) ?_
                    exact xx_ireturn C (rt_iwp hf Q) (dd_X8_copy.at 59 rfl) rfl
          · refine xx_if_ge_f (tgt := 51) C (dd_X8_copy.at 23 rfl) (by decide) hc ?_
            refine xx_aload_n C (dd_X8_copy.at 24 rfl) rfl (Nat.le_of_ble_eq_true rfl) ?_
            refine xx_iconst C (dd_X8_copy.at 25 rfl) ic_1 ?_
            obtain ⟨v20, e21, hf⟩ := bdo_ hf
            refine xx_callVi C (ss_X8_meet (pz_ e21)) (dd_X8_copy.at 26 rfl) ck_7 rfl sh_k98 kk_X8_meet ki_X8_meet lm_RX8_80 (lb_ rfl) rfl rfl (lb_ rfl) ?_
            exact xx_ireturn C (rt_iwp hf Q) (dd_X8_copy.at 27 rfl) rfl
      · refine xx_if_ge_f (tgt := 27) C (dd_X8_copy.at 9 rfl) (by decide) hc ?_
        refine xx_aload_n C (dd_X8_copy.at 10 rfl) rfl (Nat.le_of_ble_eq_true rfl) ?_
        refine xx_iconst C (dd_X8_copy.at 11 rfl) ic_5 ?_
        obtain ⟨v22, e23, hf⟩ := bdo_ hf
        refine xx_callVi C (ss_X8_meet (pz_ e23)) (dd_X8_copy.at 12 rfl) ck_7 rfl sh_k98 kk_X8_meet ki_X8_meet lm_RX8_80 (lb_ rfl) rfl rfl (lb_ rfl) ?_
        exact xx_ireturn C (rt_iwp hf Q) (dd_X8_copy.at 13 rfl) rfl
theorem ss_X8_mean_17 {Z : zz_} (C : cx_ Z mt_X8_mean 3) {r9 : Int32} {h9 : hh_} {x1 : Int32} {h : hh_} {K17_45 : Int64 → Option (Int32 × hh_)} (Q : rq_ Z (some (.int r9)) h9) (hK17_45 : ∀ (z3 : Int64), K17_45 z3 = some (r9, h9) → xx_ Z 45 [some (.ref 98), some (.int x1), none, some (.long z3), none, none] [] h) : ∀ (n9 : Nat) (x3 : Int64) (x5 : Int32), ff_X8_mean_17 x1 h K17_45 n9 x3 x5 = some (r9, h9) → xx_ Z 17 [some (.ref 98), some (.int x1), none, some (.long x3), none, some (.int x5)] [] h := by
  intro n9
  induction n9 with
  | zero =>
    intro x3 x5 hf
    exact absurd hf (by rw [ff_X8_mean_17]; exact nofun)
  | succ n9 ih =>
    intro x3 x5 hf
    rw [ff_X8_mean_17] at hf
    refine xx_iload C (dd_X8_mean.at 12 rfl) rfl ?_
    refine xx_aload_n C (dd_X8_mean.at 13 rfl) rfl (Nat.le_of_ble_eq_true rfl) ?_
    refine xx_getR (j := 5) (r := 100) C ck_7 (lb_ rfl) lf_RX8_17 sh_k98 rfl (lb_ rfl) rfl (dd_X8_mean.at 14 rfl) ?_
    refine xx_iload_n C (dd_X8_mean.at 15 rfl) rfl ?_
    obtain ⟨g3, hf⟩ := gd_ok hf
    refine xx_iaload C (dd_X8_mean.at 16 rfl) sh_k100 (bi_ok g3) ?_
    rcases ifo_ hf with ⟨hc, hf⟩ | ⟨hc, hf⟩
    · refine xx_icmp_ge_t (tgt := 45) C (dd_X8_mean.at 17 rfl) (by decide) hc ?_
      exact xx_mask [true, true, false, true, false, false] (hK17_45 _ hf)
    · refine xx_icmp_ge_f (tgt := 45) C (dd_X8_mean.at 17 rfl) (by decide) hc ?_
      refine xx_lload_n C (dd_X8_mean.at 18 rfl) rfl ?_
      refine xx_aload_n C (dd_X8_mean.at 19 rfl) rfl (Nat.le_of_ble_eq_true rfl) ?_
      refine xx_iload_n C (dd_X8_mean.at 20 rfl) rfl ?_
      refine xx_iload C (dd_X8_mean.at 21 rfl) rfl ?_
      obtain ⟨v4, e5, hf⟩ := bdo_ hf
      refine xx_callVi C (ss_X8_rowAt e5) (dd_X8_mean.at 22 rfl) ck_7 rfl sh_k98 kk_X8_rowAt ki_X8_rowAt lm_RX8_94 (lb_ rfl) rfl rfl (lb_ rfl) ?_
      refine xx_i2l C (dd_X8_mean.at 23 rfl) ?_
      refine xx_ladd C (dd_X8_mean.at 24 rfl) ?_
      refine xx_lstore_n (lv' := [_, _, _, _, _, _]) C (dd_X8_mean.at 25 rfl) (lb_ rfl) rfl ?_
      refine xx_iinc (v := _ + (1 : Int32)) (lv' := [_, _, _, _, _, _]) C (dd_X8_mean.at 26 rfl) (lb_ rfl) rfl (by rw [ic_1]) rfl ?_
      refine xx_goto (tgt := 17) C (dd_X8_mean.at 27 rfl) (by decide) ?_
      exact xx_mask [true, true, false, true, false, true] (ih _ _ hf)
theorem ss_X8_mean {l : Launch} {G : gt_} {a1 : Int32} {h : hh_} {r9 : Int32} {h9 : hh_}  (hf : ff_X8_mean a1 h = some (r9, h9)) : ok_ l G 3 mt_X8_mean [.ref 98, .int a1] h (some (.int r9)) h9 := by
  refine ok_of pn_RX8 (lb_ rfl) (fun Z _ _ C Q => ?_)
  show xx_ Z 0 [some (.ref 98), some (.int a1), none, none, none, none] [] h
  unfold ff_X8_mean at hf
  refine xx_aload_n C (dd_X8_mean.at 0 rfl) rfl (Nat.le_of_ble_eq_true rfl) ?_
  refine xx_iload_n C (dd_X8_mean.at 1 rfl) rfl ?_
  obtain ⟨v1, e2, hf⟩ := bdo_ hf
  refine xx_callVi C (ss_X8_askedRow (pz_ e2)) (dd_X8_mean.at 2 rfl) ck_7 rfl sh_k98 kk_X8_askedRow ki_X8_askedRow lm_RX8_91 (lb_ rfl) rfl rfl (lb_ rfl) ?_
  refine xx_istore_n (lv' := [_, _, _, _, _, _]) C (dd_X8_mean.at 3 rfl) (lb_ rfl) rfl ?_
  refine xx_iload_n C (dd_X8_mean.at 4 rfl) rfl ?_
  rcases ifo_ hf with ⟨hc, hf⟩ | ⟨hc, hf⟩
  · refine xx_if_ge_t (tgt := 12) C (dd_X8_mean.at 5 rfl) (by decide) hc ?_
    refine xx_lconst (v := 0) C (dd_X8_mean.at 8 rfl) rfl ?_
    refine xx_lstore_n (lv' := [_, _, _, _, _, _]) C (dd_X8_mean.at 9 rfl) (lb_ rfl) rfl ?_
    refine xx_iconst C (dd_X8_mean.at 10 rfl) ic_0 ?_
    refine xx_istore (lv' := [_, _, _, _, _, _]) C (dd_X8_mean.at 11 rfl) (lb_ rfl) rfl ?_
    refine xx_mask [true, true, false, true, false, true] (ss_X8_mean_17 C Q (fun u6 hf => ?_) _ _ _ hf)
    refine xx_aload_n C (dd_X8_mean.at 28 rfl) rfl (Nat.le_of_ble_eq_true rfl) ?_
    refine xx_getR (j := 5) (r := 100) C ck_7 (lb_ rfl) lf_RX8_17 sh_k98 rfl (lb_ rfl) rfl (dd_X8_mean.at 29 rfl) ?_
    refine xx_iload_n C (dd_X8_mean.at 30 rfl) rfl ?_
    obtain ⟨g7, hf⟩ := gd_ok hf
    refine xx_iaload C (dd_X8_mean.at 31 rfl) sh_k100 (bi_ok g7) ?_
    rcases ifo_ hf with ⟨hc, hf⟩ | ⟨hc, hf⟩
    · refine xx_if_ne_f (tgt := 62) C (dd_X8_mean.at 32 rfl) (by decide) (not_not_intro hc) ?_
      refine xx_aload_n C (dd_X8_mean.at 33 rfl) rfl (Nat.le_of_ble_eq_true rfl) ?_
      refine xx_iconst C (dd_X8_mean.at 34 rfl) ic_4 ?_
      obtain ⟨v9, e10, hf⟩ := bdo_ hf
      refine xx_callVi C (ss_X8_meet (pz_ e10)) (dd_X8_mean.at 35 rfl) ck_7 rfl sh_k98 kk_X8_meet ki_X8_meet lm_RX8_80 (lb_ rfl) rfl rfl (lb_ rfl) ?_
      refine xx_goto (tgt := 77) C (dd_X8_mean.at 36 rfl) (by decide) ?_
      exact xx_ireturn C (rt_iwp hf Q) (dd_X8_mean.at 48 rfl) rfl
    · refine xx_if_ne_t (tgt := 62) C (dd_X8_mean.at 32 rfl) (by decide) hc ?_
      refine xx_aload_n C (dd_X8_mean.at 37 rfl) rfl (Nat.le_of_ble_eq_true rfl) ?_
      refine xx_lload_n C (dd_X8_mean.at 38 rfl) rfl ?_
      refine xx_aload_n C (dd_X8_mean.at 39 rfl) rfl (Nat.le_of_ble_eq_true rfl) ?_
      refine xx_getR (j := 5) (r := 100) C ck_7 (lb_ rfl) lf_RX8_17 sh_k98 rfl (lb_ rfl) rfl (dd_X8_mean.at 40 rfl) ?_
      refine xx_iload_n C (dd_X8_mean.at 41 rfl) rfl ?_
      refine xx_iaload C (dd_X8_mean.at 42 rfl) sh_k100 (bi_ok g7) ?_
      refine xx_i2l C (dd_X8_mean.at 43 rfl) ?_
      obtain ⟨g8, hf⟩ := gd_ok hf
      refine xx_ldiv C (dd_X8_mean.at 44 rfl) (bm_ok g8) ?_
      refine xx_l2i C (dd_X8_mean.at 45 rfl) ?_
      refine xx_iconst C (dd_X8_mean.at 46 rfl) ic_1 ?_
      refine xx_callVi C (ss_X8_ask pe_) (dd_X8_mean.at 47 rfl) ck_7 rfl sh_k98 kk_X8_ask ki_X8_ask lm_RX8_98 (lb_ rfl) rfl rfl (lb_ rfl) ?_
      exact xx_ireturn C (rt_iwp hf Q) (dd_X8_mean.at 48 rfl) rfl
  · refine xx_if_ge_f (tgt := 12) C (dd_X8_mean.at 5 rfl) (by decide) hc ?_
    refine xx_iload_n C (dd_X8_mean.at 6 rfl) rfl ?_
    exact xx_ireturn C (rt_iwp hf Q) (dd_X8_mean.at 7 rfl) rfl
theorem ss_X8_text_34 {Z : zz_} (C : cx_ Z mt_X8_text 2) {r9 : Int32} {h9 : hh_} {x1 : Int32} {x2 : Int32}  (Q : rq_ Z (some (.int r9)) h9) : ∀ (n9 : Nat) (x3 : Int32) (h : hh_), ff_X8_text_34 x1 x2 n9 x3 h = some (r9, h9) → xx_ Z 34 [some (.ref 98), some (.int x1), some (.int x2), some (.int x3)] [] h := by
  intro n9
  induction n9 with
  | zero =>
    intro x3 h hf
    exact absurd hf (by rw [ff_X8_text_34]; exact nofun)
  | succ n9 ih =>
    intro x3 h hf
    rw [ff_X8_text_34] at hf
    refine xx_iload_n C (dd_X8_text.at 21 rfl) rfl ?_
    refine xx_bipush C (dd_X8_text.at 22 rfl) bq_80 ?_
    rcases ifo_ hf with ⟨hc, hf⟩ | ⟨hc, hf⟩
    · refine xx_icmp_ge_t (tgt := 59) C (dd_X8_text.at 23 rfl) (by decide) hc ?_
      refine xx_iload_n C (dd_X8_text.at 35 rfl) rfl ?_
      exact xx_ireturn C (rt_iwp hf Q) (dd_X8_text.at 36 rfl) rfl
    · refine xx_icmp_ge_f (tgt := 59) C (dd_X8_text.at 23 rfl) (by decide) hc ?_
      refine xx_aload_n C (dd_X8_text.at 24 rfl) rfl (Nat.le_of_ble_eq_true rfl) ?_
      refine xx_getR (j := 9) (r := 104) C ck_7 (lb_ rfl) lf_RX8_29 sh_k98 rfl (lb_ rfl) rfl (dd_X8_text.at 25 rfl) ?_
      refine xx_bipush C (dd_X8_text.at 26 rfl) bq_80 ?_
      refine xx_iload_n C (dd_X8_text.at 27 rfl) rfl ?_
      refine xx_imul C (dd_X8_text.at 28 rfl) ?_
      refine xx_iload_n C (dd_X8_text.at 29 rfl) rfl ?_
      refine xx_iadd C (dd_X8_text.at 30 rfl) ?_
      refine xx_bipush C (dd_X8_text.at 31 rfl) bq_32 ?_
      obtain ⟨g2, hf⟩ := gd_ok hf
      refine xx_iastore C (dd_X8_text.at 32 rfl) sh_k104 (bi_ok g2) ?_
      refine xx_iinc (v := _ + (1 : Int32)) (lv' := [_, _, _, _]) C (dd_X8_text.at 33 rfl) (lb_ rfl) rfl (by rw [ic_1]) rfl ?_
      refine xx_goto (tgt := 34) C (dd_X8_text.at 34 rfl) (by decide) ?_
      exact xx_mask [true, true, true, true] (ih _ _ hf)
theorem ss_X8_text {l : Launch} {G : gt_} {a1 : Int32} {a2 : Int32} {h : hh_} {r9 : Int32} {h9 : hh_}  (hf : ff_X8_text a1 a2 h = some (r9, h9)) : ok_ l G 2 mt_X8_text [.ref 98, .int a1, .int a2] h (some (.int r9)) h9 := by
  refine ok_of pn_RX8 (lb_ rfl) (fun Z _ _ C Q => ?_)
  show xx_ Z 0 [some (.ref 98), some (.int a1), some (.int a2), none] [] h
  unfold ff_X8_text at hf
  refine xx_iload_n C (dd_X8_text.at 0 rfl) rfl ?_
  refine xx_callSi C (ss_X8_isText rfl) (dd_X8_text.at 1 rfl) kk_X8_isText ks_X8_isText lm_RX8_84 (lb_ rfl) rfl rfl (lb_ rfl) ?_
  rcases ifo_ hf with ⟨hc, hf⟩ | ⟨hc, hf⟩
  · refine xx_if_eq_t (tgt := 13) C (dd_X8_text.at 2 rfl) (by decide) hc ?_
    refine xx_iconst C (dd_X8_text.at 6 rfl) ic_m1 ?_
    exact xx_ireturn C (rt_iwp hf Q) (dd_X8_text.at 7 rfl) rfl
  · refine xx_if_eq_f (tgt := 13) C (dd_X8_text.at 2 rfl) (by decide) hc ?_
    refine xx_iload_n C (dd_X8_text.at 3 rfl) rfl ?_
    refine xx_bipush C (dd_X8_text.at 4 rfl) bq_80 ?_
    rcases ifo_ hf with ⟨hc, hf⟩ | ⟨hc, hf⟩
    · refine xx_icmp_le_t (tgt := 15) C (dd_X8_text.at 5 rfl) (by decide) hc ?_
      refine xx_iload_n C (dd_X8_text.at 8 rfl) rfl ?_
      rcases ifo_ hf with ⟨hc, hf⟩ | ⟨hc, hf⟩
      · refine xx_if_ge_t (tgt := 25) C (dd_X8_text.at 9 rfl) (by decide) hc ?_
        refine xx_aload_n C (dd_X8_text.at 14 rfl) rfl (Nat.le_of_ble_eq_true rfl) ?_
        refine xx_getR (j := 8) (r := 103) C ck_7 (lb_ rfl) lf_RX8_26 sh_k98 rfl (lb_ rfl) rfl (dd_X8_text.at 15 rfl) ?_
        refine xx_iload_n C (dd_X8_text.at 16 rfl) rfl ?_
        refine xx_iload_n C (dd_X8_text.at 17 rfl) rfl ?_
        obtain ⟨g1, hf⟩ := gd_ok hf
        refine xx_iastore C (dd_X8_text.at 18 rfl) sh_k103 (bi_ok g1) ?_
        refine xx_iconst C (dd_X8_text.at 19 rfl) ic_0 ?_
        refine xx_istore_n (lv' := [_, _, _, _]) C (dd_X8_text.at 20 rfl) (lb_ rfl) rfl ?_
        exact xx_mask [true, true, true, true] (ss_X8_text_34 C Q _ _ _ hf)
      · refine xx_if_ge_f (tgt := 25) C (dd_X8_text.at 9 rfl) (by decide) hc ?_
        refine xx_aload_n C (dd_X8_text.at 10 rfl) rfl (Nat.le_of_ble_eq_true rfl) ?_
        refine xx_iconst C (dd_X8_text.at 11 rfl) ic_5 ?_
        obtain ⟨v3, e4, hf⟩ := bdo_ hf
        refine xx_callVi C (ss_X8_meet (pz_ e4)) (dd_X8_text.at 12 rfl) ck_7 rfl sh_k98 kk_X8_meet ki_X8_meet lm_RX8_80 (lb_ rfl) rfl rfl (lb_ rfl) ?_
        exact xx_ireturn C (rt_iwp hf Q) (dd_X8_text.at 13 rfl) rfl
    · refine xx_icmp_le_f (tgt := 15) C (dd_X8_text.at 5 rfl) (by decide) hc ?_
      refine xx_iconst C (dd_X8_text.at 6 rfl) ic_m1 ?_
      exact xx_ireturn C (rt_iwp hf Q) (dd_X8_text.at 7 rfl) rfl
theorem ss_X8_put {l : Launch} {G : gt_} {a1 : Int32} {a2 : Int32} {a3 : Int32} {h : hh_} {r9 : Int32} {h9 : hh_}  (hf : ff_X8_put a1 a2 a3 h = some (r9, h9)) : ok_ l G 3 mt_X8_put [.ref 98, .int a1, .int a2, .int a3] h (some (.int r9)) h9 := by
  refine ok_of pn_RX8 (lb_ rfl) (fun Z _ _ C Q => ?_)
  show xx_ Z 0 [some (.ref 98), some (.int a1), some (.int a2), some (.int a3), none, none] [] h
  unfold ff_X8_put at hf
  refine xx_aload_n C (dd_X8_put.at 0 rfl) rfl (Nat.le_of_ble_eq_true rfl) ?_
  refine xx_iload_n C (dd_X8_put.at 1 rfl) rfl ?_
  obtain ⟨v1, e2, hf⟩ := bdo_ hf
  refine xx_callVi C (ss_X8_askedText (pz_ e2)) (dd_X8_put.at 2 rfl) ck_7 rfl sh_k98 kk_X8_askedText ki_X8_askedText lm_RX8_104 (lb_ rfl) rfl rfl (lb_ rfl) ?_
  refine xx_istore (lv' := [_, _, _, _, _, _]) C (dd_X8_put.at 3 rfl) (lb_ rfl) rfl ?_
  refine xx_iload C (dd_X8_put.at 4 rfl) rfl ?_
  rcases ifo_ hf with ⟨hc, hf⟩ | ⟨hc, hf⟩
  · refine xx_if_ge_t (tgt := 15) C (dd_X8_put.at 5 rfl) (by decide) hc ?_
    refine xx_iload_n C (dd_X8_put.at 8 rfl) rfl ?_
    refine xx_iconst C (dd_X8_put.at 9 rfl) ic_0 ?_
    refine xx_aload_n C (dd_X8_put.at 10 rfl) rfl (Nat.le_of_ble_eq_true rfl) ?_
    refine xx_getR (j := 8) (r := 103) C ck_7 (lb_ rfl) lf_RX8_26 sh_k98 rfl (lb_ rfl) rfl (dd_X8_put.at 11 rfl) ?_
    refine xx_iload_n C (dd_X8_put.at 12 rfl) rfl ?_
    obtain ⟨g3, hf⟩ := gd_ok hf
    refine xx_iaload C (dd_X8_put.at 13 rfl) sh_k103 (bi_ok g3) ?_
    refine xx_iconst C (dd_X8_put.at 14 rfl) ic_1 ?_
    refine xx_isub C (dd_X8_put.at 15 rfl) ?_
    refine xx_callSi C (ss_X8_in rfl) (dd_X8_put.at 16 rfl) kk_X8_in ks_X8_in lm_RX8_72 (lb_ rfl) rfl rfl (lb_ rfl) ?_
    rcases ifo_ hf with ⟨hc, hf⟩ | ⟨hc, hf⟩
    · refine xx_if_ne_f (tgt := 37) C (dd_X8_put.at 17 rfl) (by decide) (not_not_intro hc) ?_
      refine xx_aload_n C (dd_X8_put.at 18 rfl) rfl (Nat.le_of_ble_eq_true rfl) ?_
      refine xx_iconst C (dd_X8_put.at 19 rfl) ic_2 ?_
      obtain ⟨v5, e6, hf⟩ := bdo_ hf
      refine xx_callVi C (ss_X8_meet (pz_ e6)) (dd_X8_put.at 20 rfl) ck_7 rfl sh_k98 kk_X8_meet ki_X8_meet lm_RX8_80 (lb_ rfl) rfl rfl (lb_ rfl) ?_
      exact xx_ireturn C (rt_iwp hf Q) (dd_X8_put.at 21 rfl) rfl
    · refine xx_if_ne_t (tgt := 37) C (dd_X8_put.at 17 rfl) (by decide) hc ?_
      refine xx_aload_n C (dd_X8_put.at 22 rfl) rfl (Nat.le_of_ble_eq_true rfl) ?_
      refine xx_getR (j := 9) (r := 104) C ck_7 (lb_ rfl) lf_RX8_29 sh_k98 rfl (lb_ rfl) rfl (dd_X8_put.at 23 rfl) ?_
      refine xx_bipush C (dd_X8_put.at 24 rfl) bq_80 ?_
      refine xx_iload_n C (dd_X8_put.at 25 rfl) rfl ?_
      refine xx_imul C (dd_X8_put.at 26 rfl) ?_
      refine xx_iload_n C (dd_X8_put.at 27 rfl) rfl ?_
      refine xx_iadd C (dd_X8_put.at 28 rfl) ?_
      obtain ⟨g4, hf⟩ := gd_ok hf
      refine xx_iaload C (dd_X8_put.at 29 rfl) sh_k104 (bi_ok g4) ?_
      refine xx_istore (lv' := [_, _, _, _, _, _]) C (dd_X8_put.at 30 rfl) (lb_ rfl) rfl ?_
      refine xx_aload_n C (dd_X8_put.at 31 rfl) rfl (Nat.le_of_ble_eq_true rfl) ?_
      refine xx_getR (j := 9) (r := 104) C ck_7 (lb_ rfl) lf_RX8_29 sh_k98 rfl (lb_ rfl) rfl (dd_X8_put.at 32 rfl) ?_
      refine xx_bipush C (dd_X8_put.at 33 rfl) bq_80 ?_
      refine xx_iload_n C (dd_X8_put.at 34 rfl) rfl ?_
      refine xx_imul C (dd_X8_put.at 35 rfl) ?_
      refine xx_iload_n C (dd_X8_put.at 36 rfl) rfl ?_
      refine xx_iadd C (dd_X8_put.at 37 rfl) ?_
      refine xx_iload_n C (dd_X8_put.at 38 rfl) rfl ?_
      refine xx_i2b C (dd_X8_put.at 39 rfl) ?_
      refine xx_iastore C (dd_X8_put.at 40 rfl) sh_k104 (bi_ok g4) ?_
      refine xx_iload C (dd_X8_put.at 41 rfl) rfl ?_
      refine xx_sipush C (dd_X8_put.at 42 rfl) sq_1000 ?_
      refine xx_iadd C (dd_X8_put.at 43 rfl) ?_
      exact xx_ireturn C (rt_iwp hf Q) (dd_X8_put.at 44 rfl) rfl
  · refine xx_if_ge_f (tgt := 15) C (dd_X8_put.at 5 rfl) (by decide) hc ?_
    refine xx_iload C (dd_X8_put.at 6 rfl) rfl ?_
    exact xx_ireturn C (rt_iwp hf Q) (dd_X8_put.at 7 rfl) rfl
theorem ss_X8_here {l : Launch} {G : gt_} {a1 : Int32} {h : hh_} {r9 : Int32}  (hf : ff_X8_here a1 h = some r9) : ok_ l G 0 mt_X8_here [.ref 98, .int a1] h (some (.int r9)) h := by
  refine ok_of pn_RX8 (lb_ rfl) (fun Z _ _ C Q => ?_)
  show xx_ Z 0 [some (.ref 98), some (.int a1)] [] h
  unfold ff_X8_here at hf
  refine xx_aload_n C (dd_X8_here.at 0 rfl) rfl (Nat.le_of_ble_eq_true rfl) ?_
  refine xx_getI (j := 16) C ck_7 (lb_ rfl) lf_RX8_107 sh_k98 rfl (dd_X8_here.at 1 rfl) ?_
  refine xx_aload_n C (dd_X8_here.at 2 rfl) rfl (Nat.le_of_ble_eq_true rfl) ?_
  refine xx_getR (j := 8) (r := 103) C ck_7 (lb_ rfl) lf_RX8_26 sh_k98 rfl (lb_ rfl) rfl (dd_X8_here.at 3 rfl) ?_
  refine xx_iload_n C (dd_X8_here.at 4 rfl) rfl ?_
  obtain ⟨g1, hf⟩ := gd_ok hf
  refine xx_iaload C (dd_X8_here.at 5 rfl) sh_k103 (bi_ok g1) ?_
  rcases ifo_ hf with ⟨hc, hf⟩ | ⟨hc, hf⟩
  · refine xx_icmp_ge_t (tgt := 30) C (dd_X8_here.at 6 rfl) (by decide) hc ?_
    refine xx_bipush C (dd_X8_here.at 17 rfl) bq_m9 ?_
    exact xx_ireturn C (rt_ip hf Q) (dd_X8_here.at 18 rfl) rfl
  · refine xx_icmp_ge_f (tgt := 30) C (dd_X8_here.at 6 rfl) (by decide) hc ?_
    refine xx_aload_n C (dd_X8_here.at 7 rfl) rfl (Nat.le_of_ble_eq_true rfl) ?_
    refine xx_getR (j := 9) (r := 104) C ck_7 (lb_ rfl) lf_RX8_29 sh_k98 rfl (lb_ rfl) rfl (dd_X8_here.at 8 rfl) ?_
    refine xx_bipush C (dd_X8_here.at 9 rfl) bq_80 ?_
    refine xx_iload_n C (dd_X8_here.at 10 rfl) rfl ?_
    refine xx_imul C (dd_X8_here.at 11 rfl) ?_
    refine xx_aload_n C (dd_X8_here.at 12 rfl) rfl (Nat.le_of_ble_eq_true rfl) ?_
    refine xx_getI (j := 16) C ck_7 (lb_ rfl) lf_RX8_107 sh_k98 rfl (dd_X8_here.at 13 rfl) ?_
    refine xx_iadd C (dd_X8_here.at 14 rfl) ?_
    obtain ⟨g2, hf⟩ := gd_ok hf
    refine xx_iaload C (dd_X8_here.at 15 rfl) sh_k104 (bi_ok g2) ?_
    refine xx_goto (tgt := 32) C (dd_X8_here.at 16 rfl) (by decide) ?_
    exact xx_ireturn C (rt_ip hf Q) (dd_X8_here.at 18 rfl) rfl
theorem ss_X8_figure {l : Launch} {G : gt_} {a1 : Int32} {a2 : Int32} {a3 : Int32} {a4 : Int32} {h : hh_} {r9 : Int32} {h9 : hh_}  (hf : ff_X8_figure a1 a2 a3 a4 h = some (r9, h9)) : ok_ l G 1 mt_X8_figure [.ref 98, .int a1, .int a2, .int a3, .int a4] h (some (.int r9)) h9 := by
  refine ok_of pn_RX8 (lb_ rfl) (fun Z _ _ C Q => ?_)
  show xx_ Z 0 [some (.ref 98), some (.int a1), some (.int a2), some (.int a3), some (.int a4), none] [] h
  unfold ff_X8_figure at hf
  refine xx_aload_n C (dd_X8_figure.at 0 rfl) rfl (Nat.le_of_ble_eq_true rfl) ?_
  refine xx_iload_n C (dd_X8_figure.at 1 rfl) rfl ?_
  obtain ⟨v1, e2, hf⟩ := bdo_ hf
  refine xx_callVi C (ss_X8_here e2) (dd_X8_figure.at 2 rfl) ck_7 rfl sh_k98 kk_X8_here ki_X8_here lm_RX8_110 (lb_ rfl) rfl rfl (lb_ rfl) ?_
  refine xx_bipush C (dd_X8_figure.at 3 rfl) bq_48 ?_
  refine xx_isub C (dd_X8_figure.at 4 rfl) ?_
  refine xx_istore (lv' := [_, _, _, _, _, _]) C (dd_X8_figure.at 5 rfl) (lb_ rfl) rfl ?_
  refine xx_iload C (dd_X8_figure.at 6 rfl) rfl ?_
  refine xx_iload_n C (dd_X8_figure.at 7 rfl) rfl ?_
  refine xx_iload C (dd_X8_figure.at 8 rfl) rfl ?_
  refine xx_callSi C (ss_X8_in rfl) (dd_X8_figure.at 9 rfl) kk_X8_in ks_X8_in lm_RX8_72 (lb_ rfl) rfl rfl (lb_ rfl) ?_
  rcases ifo_ hf with ⟨hc, hf⟩ | ⟨hc, hf⟩
  · refine xx_if_ne_f (tgt := 23) C (dd_X8_figure.at 10 rfl) (by decide) (not_not_intro hc) ?_
    refine xx_iconst C (dd_X8_figure.at 11 rfl) ic_0 ?_
    exact xx_zreturn C (rt_iwp hf Q) (dd_X8_figure.at 12 rfl) rfl zb_0
  · refine xx_if_ne_t (tgt := 23) C (dd_X8_figure.at 10 rfl) (by decide) hc ?_
    refine xx_aload_n C (dd_X8_figure.at 13 rfl) rfl (Nat.le_of_ble_eq_true rfl) ?_
    refine xx_getR (j := 20) (r := 108) C ck_7 (lb_ rfl) lf_RX8_41 sh_k98 rfl (lb_ rfl) rfl (dd_X8_figure.at 14 rfl) ?_
    refine xx_iload_n C (dd_X8_figure.at 15 rfl) rfl ?_
    refine xx_iload C (dd_X8_figure.at 16 rfl) rfl ?_
    obtain ⟨g3, hf⟩ := gd_ok hf
    refine xx_iastore C (dd_X8_figure.at 17 rfl) sh_k108 (bi_ok g3) ?_
    refine xx_aload_n C (dd_X8_figure.at 18 rfl) rfl (Nat.le_of_ble_eq_true rfl) ?_
    refine xx_dup C (dd_X8_figure.at 19 rfl) rfl ?_
    refine xx_getI (j := 16) C ck_7 (lb_ rfl) lf_RX8_107 sh_k98 rfl (dd_X8_figure.at 20 rfl) ?_
    refine xx_iconst C (dd_X8_figure.at 21 rfl) ic_1 ?_
    refine xx_iadd C (dd_X8_figure.at 22 rfl) ?_
    refine xx_putI (j := 16) C ck_7 (lb_ rfl) lf_RX8_107 rfl rfl sh_k98 rfl (dd_X8_figure.at 23 rfl) ?_
    refine xx_iconst C (dd_X8_figure.at 24 rfl) ic_1 ?_
    exact xx_zreturn C (rt_iwp hf Q) (dd_X8_figure.at 25 rfl) rfl zb_1
theorem ss_X8_kindOf {l : Launch} {G : gt_} {a0 : Int32} {h : hh_} {r9 : Int32}  (hf : ff_X8_kindOf a0 = r9) : ok_ l G 0 mt_X8_kindOf [.int a0] h (some (.int r9)) h := by
  refine ok_of pn_RX8 (lb_ rfl) (fun Z _ _ C Q => ?_)
  show xx_ Z 0 [some (.int a0)] [] h
  unfold ff_X8_kindOf at hf
  refine xx_iload_n C (dd_X8_kindOf.at 0 rfl) rfl ?_
  refine xx_bipush C (dd_X8_kindOf.at 1 rfl) bq_116 ?_
  rcases ifo_ hf with ⟨hc, hf⟩ | ⟨hc, hf⟩
  · refine xx_icmp_ne_f (tgt := 10) C (dd_X8_kindOf.at 2 rfl) (by decide) (not_not_intro hc) ?_
    refine xx_iconst C (dd_X8_kindOf.at 3 rfl) ic_0 ?_
    refine xx_goto (tgt := 62) C (dd_X8_kindOf.at 4 rfl) (by decide) ?_
    exact xx_ireturn C (rt_i hf Q) (dd_X8_kindOf.at 31 rfl) rfl
  · refine xx_icmp_ne_t (tgt := 10) C (dd_X8_kindOf.at 2 rfl) (by decide) hc ?_
    refine xx_iload_n C (dd_X8_kindOf.at 5 rfl) rfl ?_
    refine xx_bipush C (dd_X8_kindOf.at 6 rfl) bq_118 ?_
    rcases ifo_ hf with ⟨hc, hf⟩ | ⟨hc, hf⟩
    · refine xx_icmp_ne_f (tgt := 20) C (dd_X8_kindOf.at 7 rfl) (by decide) (not_not_intro hc) ?_
      refine xx_iconst C (dd_X8_kindOf.at 8 rfl) ic_1 ?_
      refine xx_goto (tgt := 62) C (dd_X8_kindOf.at 9 rfl) (by decide) ?_
      exact xx_ireturn C (rt_i hf Q) (dd_X8_kindOf.at 31 rfl) rfl
    · refine xx_icmp_ne_t (tgt := 20) C (dd_X8_kindOf.at 7 rfl) (by decide) hc ?_
      refine xx_iload_n C (dd_X8_kindOf.at 10 rfl) rfl ?_
      refine xx_bipush C (dd_X8_kindOf.at 11 rfl) bq_108 ?_
      rcases ifo_ hf with ⟨hc, hf⟩ | ⟨hc, hf⟩
      · refine xx_icmp_ne_f (tgt := 30) C (dd_X8_kindOf.at 12 rfl) (by decide) (not_not_intro hc) ?_
        refine xx_iconst C (dd_X8_kindOf.at 13 rfl) ic_2 ?_
        refine xx_goto (tgt := 62) C (dd_X8_kindOf.at 14 rfl) (by decide) ?_
        exact xx_ireturn C (rt_i hf Q) (dd_X8_kindOf.at 31 rfl) rfl
      · refine xx_icmp_ne_t (tgt := 30) C (dd_X8_kindOf.at 12 rfl) (by decide) hc ?_
        refine xx_iload_n C (dd_X8_kindOf.at 15 rfl) rfl ?_
        refine xx_bipush C (dd_X8_kindOf.at 16 rfl) bq_119 ?_
        rcases ifo_ hf with ⟨hc, hf⟩ | ⟨hc, hf⟩
        · refine xx_icmp_ne_f (tgt := 40) C (dd_X8_kindOf.at 17 rfl) (by decide) (not_not_intro hc) ?_
          refine xx_iconst C (dd_X8_kindOf.at 18 rfl) ic_3 ?_
          refine xx_goto (tgt := 62) C (dd_X8_kindOf.at 19 rfl) (by decide) ?_
          exact xx_ireturn C (rt_i hf Q) (dd_X8_kindOf.at 31 rfl) rfl
        · refine xx_icmp_ne_t (tgt := 40) C (dd_X8_kindOf.at 17 rfl) (by decide) hc ?_
          refine xx_iload_n C (dd_X8_kindOf.at 20 rfl) rfl ?_
          refine xx_bipush C (dd_X8_kindOf.at 21 rfl) bq_99 ?_
          rcases ifo_ hf with ⟨hc, hf⟩ | ⟨hc, hf⟩
          · refine xx_icmp_ne_f (tgt := 50) C (dd_X8_kindOf.at 22 rfl) (by decide) (not_not_intro hc) ?_
            refine xx_iconst C (dd_X8_kindOf.at 23 rfl) ic_4 ?_
            refine xx_goto (tgt := 62) C (dd_X8_kindOf.at 24 rfl) (by decide) ?_
            exact xx_ireturn C (rt_i hf Q) (dd_X8_kindOf.at 31 rfl) rfl
          · refine xx_icmp_ne_t (tgt := 50) C (dd_X8_kindOf.at 22 rfl) (by decide) hc ?_
            refine xx_iload_n C (dd_X8_kindOf.at 25 rfl) rfl ?_
            refine xx_bipush C (dd_X8_kindOf.at 26 rfl) bq_100 ?_
            rcases ifo_ hf with ⟨hc, hf⟩ | ⟨hc, hf⟩
            · refine xx_icmp_ne_f (tgt := 60) C (dd_X8_kindOf.at 27 rfl) (by decide) (not_not_intro hc) ?_
              refine xx_iconst C (dd_X8_kindOf.at 28 rfl) ic_5 ?_
              refine xx_goto (tgt := 62) C (dd_X8_kindOf.at 29 rfl) (by decide) ?_
              exact xx_ireturn C (rt_i hf Q) (dd_X8_kindOf.at 31 rfl) rfl
            · refine xx_icmp_ne_t (tgt := 60) C (dd_X8_kindOf.at 27 rfl) (by decide) hc ?_
              refine xx_bipush C (dd_X8_kindOf.at 30 rfl) bq_m9 ?_
              exact xx_ireturn C (rt_i hf Q) (dd_X8_kindOf.at 31 rfl) rfl
theorem ss_X8_readsHead_36 {Z : zz_} (C : cx_ Z mt_X8_readsHead 2) {r9 : Int32} {h9 : hh_} {x1 : Int32} {K36_76 : Int32 → hh_ → Option (Int32 × hh_)} (Q : rq_ Z (some (.int r9)) h9) (hK36_76 : ∀ (z2 : Int32) (h8 : hh_), K36_76 z2 h8 = some (r9, h9) → xx_ Z 76 [some (.ref 98), none, some (.int z2), none] [] h8) : ∀ (n9 : Nat) (x2 : Int32) (x3 : Int32) (h : hh_), ff_X8_readsHead_36 x1 K36_76 n9 x2 x3 h = some (r9, h9) → xx_ Z 36 [some (.ref 98), some (.int x1), some (.int x2), some (.int x3)] [] h := by
  intro n9
  induction n9 with
  | zero =>
    intro x2 x3 h hf
    exact absurd hf (by rw [ff_X8_readsHead_36]; exact nofun)
  | succ n9 ih =>
    intro x2 x3 h hf
    rw [ff_X8_readsHead_36] at hf
    refine xx_iload_n C (dd_X8_readsHead.at 22 rfl) rfl ?_
    refine xx_iconst C (dd_X8_readsHead.at 23 rfl) ic_5 ?_
    rcases ifo_ hf with ⟨hc, hf⟩ | ⟨hc, hf⟩
    · refine xx_icmp_ge_t (tgt := 76) C (dd_X8_readsHead.at 24 rfl) (by decide) hc ?_
      exact xx_mask [true, false, true, false] (hK36_76 _ _ hf)
    · refine xx_icmp_ge_f (tgt := 76) C (dd_X8_readsHead.at 24 rfl) (by decide) hc ?_
      refine xx_iload_n C (dd_X8_readsHead.at 25 rfl) rfl ?_
      rcases ifo_ hf with ⟨hc, hf⟩ | ⟨hc, hf⟩
      · refine xx_if_eq_t (tgt := 76) C (dd_X8_readsHead.at 26 rfl) (by decide) hc ?_
        exact xx_mask [true, false, true, false] (hK36_76 _ _ hf)
      · refine xx_if_eq_f (tgt := 76) C (dd_X8_readsHead.at 26 rfl) (by decide) hc ?_
        refine xx_aload_n C (dd_X8_readsHead.at 27 rfl) rfl (Nat.le_of_ble_eq_true rfl) ?_
        refine xx_iload_n C (dd_X8_readsHead.at 28 rfl) rfl ?_
        refine xx_iconst C (dd_X8_readsHead.at 29 rfl) ic_5 ?_
        refine xx_aload_n C (dd_X8_readsHead.at 30 rfl) rfl (Nat.le_of_ble_eq_true rfl) ?_
        refine xx_getI (j := 17) C ck_7 (lb_ rfl) lf_RX8_113 sh_k98 rfl (dd_X8_readsHead.at 31 rfl) ?_
        refine xx_imul C (dd_X8_readsHead.at 32 rfl) ?_
        refine xx_iload_n C (dd_X8_readsHead.at 33 rfl) rfl ?_
        refine xx_iadd C (dd_X8_readsHead.at 34 rfl) ?_
        refine xx_iconst C (dd_X8_readsHead.at 35 rfl) ic_0 ?_
        refine xx_iload_n C (dd_X8_readsHead.at 36 rfl) rfl ?_
        refine xx_iconst C (dd_X8_readsHead.at 37 rfl) ic_4 ?_
        rcases ifo_ hf with ⟨hc, hf⟩ | ⟨hc, hf⟩
        · refine xx_icmp_ge_t (tgt := 65) C (dd_X8_readsHead.at 38 rfl) (by decide) hc ?_
          refine xx_iconst C (dd_X8_readsHead.at 41 rfl) ic_3 ?_
          obtain ⟨v1, e2, hf⟩ := bdo_ hf
          refine xx_callVi C (ss_X8_figure (pz_ e2)) (dd_X8_readsHead.at 42 rfl) ck_7 rfl sh_k98 kk_X8_figure ki_X8_figure lm_RX8_122 (lb_ rfl) rfl rfl (lb_ rfl) ?_
          refine xx_istore_n (lv' := [_, _, _, _]) C (dd_X8_readsHead.at 43 rfl) (lb_ rfl) rfl ?_
          refine xx_iinc (v := _ + (1 : Int32)) (lv' := [_, _, _, _]) C (dd_X8_readsHead.at 44 rfl) (lb_ rfl) rfl (by rw [ic_1]) rfl ?_
          refine xx_goto (tgt := 36) C (dd_X8_readsHead.at 45 rfl) (by decide) ?_
          exact xx_mask [true, true, true, true] (ih _ _ _ hf)
        · refine xx_icmp_ge_f (tgt := 65) C (dd_X8_readsHead.at 38 rfl) (by decide) hc ?_
          refine xx_iconst C (dd_X8_readsHead.at 39 rfl) ic_5 ?_
          refine xx_goto (tgt := 66) C (dd_X8_readsHead.at 40 rfl) (by decide) ?_
          obtain ⟨v3, e4, hf⟩ := bdo_ hf
          refine xx_callVi C (ss_X8_figure (pz_ e4)) (dd_X8_readsHead.at 42 rfl) ck_7 rfl sh_k98 kk_X8_figure ki_X8_figure lm_RX8_122 (lb_ rfl) rfl rfl (lb_ rfl) ?_
          refine xx_istore_n (lv' := [_, _, _, _]) C (dd_X8_readsHead.at 43 rfl) (lb_ rfl) rfl ?_
          refine xx_iinc (v := _ + (1 : Int32)) (lv' := [_, _, _, _]) C (dd_X8_readsHead.at 44 rfl) (lb_ rfl) rfl (by rw [ic_1]) rfl ?_
          refine xx_goto (tgt := 36) C (dd_X8_readsHead.at 45 rfl) (by decide) ?_
          exact xx_mask [true, true, true, true] (ih _ _ _ hf)
theorem ss_X8_readsHead_76 {Z : zz_} (C : cx_ Z mt_X8_readsHead 2) {r9 : Int32} {h9 : hh_} {x2 : Int32} {h : hh_}  (Q : rq_ Z (some (.int r9)) h9) (hf : ff_X8_readsHead_76 x2 h = some (r9, h9)) : xx_ Z 76 [some (.ref 98), none, some (.int x2), none] [] h := by
  unfold ff_X8_readsHead_76 at hf
  refine xx_aload_n C (dd_X8_readsHead.at 46 rfl) rfl (Nat.le_of_ble_eq_true rfl) ?_
  refine xx_dup C (dd_X8_readsHead.at 47 rfl) rfl ?_
  refine xx_getI (j := 17) C ck_7 (lb_ rfl) lf_RX8_113 sh_k98 rfl (dd_X8_readsHead.at 48 rfl) ?_
  refine xx_iload_n C (dd_X8_readsHead.at 49 rfl) rfl ?_
  rcases ifo_ hf with ⟨hc, hf⟩ | ⟨hc, hf⟩
  · refine xx_if_eq_t (tgt := 89) C (dd_X8_readsHead.at 50 rfl) (by decide) hc ?_
    refine xx_iconst C (dd_X8_readsHead.at 53 rfl) ic_0 ?_
    refine xx_iadd C (dd_X8_readsHead.at 54 rfl) ?_
    refine xx_putI (j := 17) C ck_7 (lb_ rfl) lf_RX8_113 rfl rfl sh_k98 rfl (dd_X8_readsHead.at 55 rfl) ?_
    refine xx_iload_n C (dd_X8_readsHead.at 56 rfl) rfl ?_
    obtain ⟨g7, hf⟩ := gd_ok hf
    exact xx_zreturn C (rt_iwp hf Q) (dd_X8_readsHead.at 57 rfl) rfl (bz_ok g7)
  · refine xx_if_eq_f (tgt := 89) C (dd_X8_readsHead.at 50 rfl) (by decide) hc ?_
    refine xx_iconst C (dd_X8_readsHead.at 51 rfl) ic_1 ?_
    refine xx_goto (tgt := 90) C (dd_X8_readsHead.at 52 rfl) (by decide) ?_
    refine xx_iadd C (dd_X8_readsHead.at 54 rfl) ?_
    refine xx_putI (j := 17) C ck_7 (lb_ rfl) lf_RX8_113 rfl rfl sh_k98 rfl (dd_X8_readsHead.at 55 rfl) ?_
    refine xx_iload_n C (dd_X8_readsHead.at 56 rfl) rfl ?_
    obtain ⟨g8, hf⟩ := gd_ok hf
    exact xx_zreturn C (rt_iwp hf Q) (dd_X8_readsHead.at 57 rfl) rfl (bz_ok g8)
theorem ss_X8_readsHead {l : Launch} {G : gt_} {a1 : Int32} {h : hh_} {r9 : Int32} {h9 : hh_}  (hf : ff_X8_readsHead a1 h = some (r9, h9)) : ok_ l G 2 mt_X8_readsHead [.ref 98, .int a1] h (some (.int r9)) h9 := by
  refine ok_of pn_RX8 (lb_ rfl) (fun Z _ _ C Q => ?_)
  show xx_ Z 0 [some (.ref 98), some (.int a1), none, none] [] h
  unfold ff_X8_readsHead at hf
  refine xx_aload_n C (dd_X8_readsHead.at 0 rfl) rfl (Nat.le_of_ble_eq_true rfl) ?_
  refine xx_getI (j := 17) C ck_7 (lb_ rfl) lf_RX8_113 sh_k98 rfl (dd_X8_readsHead.at 1 rfl) ?_
  refine xx_iconst C (dd_X8_readsHead.at 2 rfl) ic_5 ?_
  rcases ifo_ hf with ⟨hc, hf⟩ | ⟨hc, hf⟩
  · refine xx_icmp_eq_t (tgt := 20) C (dd_X8_readsHead.at 3 rfl) (by decide) hc ?_
    refine xx_iconst C (dd_X8_readsHead.at 10 rfl) ic_0 ?_
    exact xx_zreturn C (rt_iwp hf Q) (dd_X8_readsHead.at 11 rfl) rfl zb_0
  · refine xx_icmp_eq_f (tgt := 20) C (dd_X8_readsHead.at 3 rfl) (by decide) hc ?_
    refine xx_aload_n C (dd_X8_readsHead.at 4 rfl) rfl (Nat.le_of_ble_eq_true rfl) ?_
    refine xx_getI (j := 18) C ck_7 (lb_ rfl) lf_RX8_116 sh_k98 rfl (dd_X8_readsHead.at 5 rfl) ?_
    refine xx_aload_n C (dd_X8_readsHead.at 6 rfl) rfl (Nat.le_of_ble_eq_true rfl) ?_
    refine xx_getI (j := 19) C ck_7 (lb_ rfl) lf_RX8_119 sh_k98 rfl (dd_X8_readsHead.at 7 rfl) ?_
    refine xx_iadd C (dd_X8_readsHead.at 8 rfl) ?_
    rcases ifo_ hf with ⟨hc, hf⟩ | ⟨hc, hf⟩
    · refine xx_if_le_t (tgt := 22) C (dd_X8_readsHead.at 9 rfl) (by decide) hc ?_
      refine xx_aload_n C (dd_X8_readsHead.at 12 rfl) rfl (Nat.le_of_ble_eq_true rfl) ?_
      refine xx_dup C (dd_X8_readsHead.at 13 rfl) rfl ?_
      refine xx_getI (j := 16) C ck_7 (lb_ rfl) lf_RX8_107 sh_k98 rfl (dd_X8_readsHead.at 14 rfl) ?_
      refine xx_iconst C (dd_X8_readsHead.at 15 rfl) ic_1 ?_
      refine xx_iadd C (dd_X8_readsHead.at 16 rfl) ?_
      refine xx_putI (j := 16) C ck_7 (lb_ rfl) lf_RX8_107 rfl rfl sh_k98 rfl (dd_X8_readsHead.at 17 rfl) ?_
      refine xx_iconst C (dd_X8_readsHead.at 18 rfl) ic_1 ?_
      refine xx_istore_n (lv' := [_, _, _, _]) C (dd_X8_readsHead.at 19 rfl) (lb_ rfl) rfl ?_
      refine xx_iconst C (dd_X8_readsHead.at 20 rfl) ic_0 ?_
      refine xx_istore_n (lv' := [_, _, _, _]) C (dd_X8_readsHead.at 21 rfl) (lb_ rfl) rfl ?_
      refine xx_mask [true, true, true, true] (ss_X8_readsHead_36 C Q (fun u5 k6 hf => ?_) _ _ _ _ hf)
      exact xx_mask [true, false, true, false] (ss_X8_readsHead_76 C Q hf)
    · refine xx_if_le_f (tgt := 22) C (dd_X8_readsHead.at 9 rfl) (by decide) hc ?_
      refine xx_iconst C (dd_X8_readsHead.at 10 rfl) ic_0 ?_
      exact xx_zreturn C (rt_iwp hf Q) (dd_X8_readsHead.at 11 rfl) rfl zb_0
theorem ss_X8_readsThumb_96 {Z : zz_} (C : cx_ Z mt_X8_readsThumb 2) {r9 : Int32} {h9 : hh_} {h : hh_} {K96_97 : Int32 → Option (Int32 × hh_)} (Q : rq_ Z (some (.int r9)) h9) (hK96_97 : ∀ (w0 : Int32), K96_97 w0 = some (r9, h9) → xx_ Z 97 [some (.ref 98), none, none, none, none] [.int w0] h) (hf : ff_X8_readsThumb_96 h K96_97 = some (r9, h9)) : xx_ Z 96 [some (.ref 98), none, none, none, none] [] h := by
  unfold ff_X8_readsThumb_96 at hf
  refine xx_iconst C (dd_X8_readsThumb.at 58 rfl) ic_0 ?_
  exact xx_mask [true, false, false, false, false] (hK96_97 _ hf)
theorem ss_X8_readsThumb_97 {Z : zz_} (C : cx_ Z mt_X8_readsThumb 2) {r9 : Int32} {h9 : hh_} {y0 : Int32} {h : hh_}  (Q : rq_ Z (some (.int r9)) h9) (hf : ff_X8_readsThumb_97 y0 h = some (r9, h9)) : xx_ Z 97 [some (.ref 98), none, none, none, none] [.int y0] h := by
  unfold ff_X8_readsThumb_97 at hf
  refine xx_istore (lv' := [_, _, _, _, _]) C (dd_X8_readsThumb.at 59 rfl) (lb_ rfl) rfl ?_
  refine xx_aload_n C (dd_X8_readsThumb.at 60 rfl) rfl (Nat.le_of_ble_eq_true rfl) ?_
  refine xx_dup C (dd_X8_readsThumb.at 61 rfl) rfl ?_
  refine xx_getI (j := 18) C ck_7 (lb_ rfl) lf_RX8_116 sh_k98 rfl (dd_X8_readsThumb.at 62 rfl) ?_
  refine xx_iload C (dd_X8_readsThumb.at 63 rfl) rfl ?_
  rcases ifo_ hf with ⟨hc, hf⟩ | ⟨hc, hf⟩
  · refine xx_if_eq_t (tgt := 113) C (dd_X8_readsThumb.at 64 rfl) (by decide) hc ?_
    refine xx_iconst C (dd_X8_readsThumb.at 67 rfl) ic_0 ?_
    refine xx_iadd C (dd_X8_readsThumb.at 68 rfl) ?_
    refine xx_putI (j := 18) C ck_7 (lb_ rfl) lf_RX8_116 rfl rfl sh_k98 rfl (dd_X8_readsThumb.at 69 rfl) ?_
    refine xx_iload C (dd_X8_readsThumb.at 70 rfl) rfl ?_
    obtain ⟨g7, hf⟩ := gd_ok hf
    exact xx_zreturn C (rt_iwp hf Q) (dd_X8_readsThumb.at 71 rfl) rfl (bz_ok g7)
  · refine xx_if_eq_f (tgt := 113) C (dd_X8_readsThumb.at 64 rfl) (by decide) hc ?_
    refine xx_iconst C (dd_X8_readsThumb.at 65 rfl) ic_1 ?_
    refine xx_goto (tgt := 114) C (dd_X8_readsThumb.at 66 rfl) (by decide) ?_
    refine xx_iadd C (dd_X8_readsThumb.at 68 rfl) ?_
    refine xx_putI (j := 18) C ck_7 (lb_ rfl) lf_RX8_116 rfl rfl sh_k98 rfl (dd_X8_readsThumb.at 69 rfl) ?_
    refine xx_iload C (dd_X8_readsThumb.at 70 rfl) rfl ?_
    obtain ⟨g8, hf⟩ := gd_ok hf
    exact xx_zreturn C (rt_iwp hf Q) (dd_X8_readsThumb.at 71 rfl) rfl (bz_ok g8)
theorem ss_X8_readsThumb {l : Launch} {G : gt_} {a1 : Int32} {h : hh_} {r9 : Int32} {h9 : hh_}  (hf : ff_X8_readsThumb a1 h = some (r9, h9)) : ok_ l G 2 mt_X8_readsThumb [.ref 98, .int a1] h (some (.int r9)) h9 := by
  refine ok_of pn_RX8 (lb_ rfl) (fun Z _ _ C Q => ?_)
  show xx_ Z 0 [some (.ref 98), some (.int a1), none, none, none] [] h
  unfold ff_X8_readsThumb at hf
  refine xx_aload_n C (dd_X8_readsThumb.at 0 rfl) rfl (Nat.le_of_ble_eq_true rfl) ?_
  refine xx_iload_n C (dd_X8_readsThumb.at 1 rfl) rfl ?_
  obtain ⟨v1, e2, hf⟩ := bdo_ hf
  refine xx_callVi C (ss_X8_here e2) (dd_X8_readsThumb.at 2 rfl) ck_7 rfl sh_k98 kk_X8_here ki_X8_here lm_RX8_110 (lb_ rfl) rfl rfl (lb_ rfl) ?_
  refine xx_callSi C (ss_X8_kindOf rfl) (dd_X8_readsThumb.at 3 rfl) kk_X8_kindOf ks_X8_kindOf lm_RX8_126 (lb_ rfl) rfl rfl (lb_ rfl) ?_
  refine xx_istore_n (lv' := [_, _, _, _, _]) C (dd_X8_readsThumb.at 4 rfl) (lb_ rfl) rfl ?_
  refine xx_iload_n C (dd_X8_readsThumb.at 5 rfl) rfl ?_
  refine xx_bipush C (dd_X8_readsThumb.at 6 rfl) bq_m9 ?_
  rcases ifo_ hf with ⟨hc, hf⟩ | ⟨hc, hf⟩
  · refine xx_icmp_eq_t (tgt := 37) C (dd_X8_readsThumb.at 7 rfl) (by decide) hc ?_
    refine xx_iconst C (dd_X8_readsThumb.at 18 rfl) ic_0 ?_
    exact xx_zreturn C (rt_iwp hf Q) (dd_X8_readsThumb.at 19 rfl) rfl zb_0
  · refine xx_icmp_eq_f (tgt := 37) C (dd_X8_readsThumb.at 7 rfl) (by decide) hc ?_
    refine xx_aload_n C (dd_X8_readsThumb.at 8 rfl) rfl (Nat.le_of_ble_eq_true rfl) ?_
    refine xx_getI (j := 17) C ck_7 (lb_ rfl) lf_RX8_113 sh_k98 rfl (dd_X8_readsThumb.at 9 rfl) ?_
    rcases ifo_ hf with ⟨hc, hf⟩ | ⟨hc, hf⟩
    · refine xx_if_eq_t (tgt := 37) C (dd_X8_readsThumb.at 10 rfl) (by decide) hc ?_
      refine xx_iconst C (dd_X8_readsThumb.at 18 rfl) ic_0 ?_
      exact xx_zreturn C (rt_iwp hf Q) (dd_X8_readsThumb.at 19 rfl) rfl zb_0
    · refine xx_if_eq_f (tgt := 37) C (dd_X8_readsThumb.at 10 rfl) (by decide) hc ?_
      refine xx_aload_n C (dd_X8_readsThumb.at 11 rfl) rfl (Nat.le_of_ble_eq_true rfl) ?_
      refine xx_getI (j := 18) C ck_7 (lb_ rfl) lf_RX8_116 sh_k98 rfl (dd_X8_readsThumb.at 12 rfl) ?_
      refine xx_iconst C (dd_X8_readsThumb.at 13 rfl) ic_4 ?_
      rcases ifo_ hf with ⟨hc, hf⟩ | ⟨hc, hf⟩
      · refine xx_icmp_eq_t (tgt := 37) C (dd_X8_readsThumb.at 14 rfl) (by decide) hc ?_
        refine xx_iconst C (dd_X8_readsThumb.at 18 rfl) ic_0 ?_
        exact xx_zreturn C (rt_iwp hf Q) (dd_X8_readsThumb.at 19 rfl) rfl zb_0
      · refine xx_icmp_eq_f (tgt := 37) C (dd_X8_readsThumb.at 14 rfl) (by decide) hc ?_
        refine xx_aload_n C (dd_X8_readsThumb.at 15 rfl) rfl (Nat.le_of_ble_eq_true rfl) ?_
        refine xx_getI (j := 19) C ck_7 (lb_ rfl) lf_RX8_119 sh_k98 rfl (dd_X8_readsThumb.at 16 rfl) ?_
        rcases ifo_ hf with ⟨hc, hf⟩ | ⟨hc, hf⟩
        · refine xx_if_le_t (tgt := 39) C (dd_X8_readsThumb.at 17 rfl) (by decide) hc ?_
          refine xx_aload_n C (dd_X8_readsThumb.at 20 rfl) rfl (Nat.le_of_ble_eq_true rfl) ?_
          refine xx_dup C (dd_X8_readsThumb.at 21 rfl) rfl ?_
          refine xx_getI (j := 16) C ck_7 (lb_ rfl) lf_RX8_107 sh_k98 rfl (dd_X8_readsThumb.at 22 rfl) ?_
          refine xx_iconst C (dd_X8_readsThumb.at 23 rfl) ic_1 ?_
          refine xx_iadd C (dd_X8_readsThumb.at 24 rfl) ?_
          refine xx_putI (j := 16) C ck_7 (lb_ rfl) lf_RX8_107 rfl rfl sh_k98 rfl (dd_X8_readsThumb.at 25 rfl) ?_
          refine xx_bipush C (dd_X8_readsThumb.at 26 rfl) bq_25 ?_
          refine xx_iconst C (dd_X8_readsThumb.at 27 rfl) ic_3 ?_
          refine xx_aload_n C (dd_X8_readsThumb.at 28 rfl) rfl (Nat.le_of_ble_eq_true rfl) ?_
          refine xx_getI (j := 18) C ck_7 (lb_ rfl) lf_RX8_116 sh_k98 rfl (dd_X8_readsThumb.at 29 rfl) ?_
          refine xx_imul C (dd_X8_readsThumb.at 30 rfl) ?_
          refine xx_iadd C (dd_X8_readsThumb.at 31 rfl) ?_
          refine xx_istore_n (lv' := [_, _, _, _, _]) C (dd_X8_readsThumb.at 32 rfl) (lb_ rfl) rfl ?_
          refine xx_aload_n C (dd_X8_readsThumb.at 33 rfl) rfl (Nat.le_of_ble_eq_true rfl) ?_
          refine xx_getR (j := 20) (r := 108) C ck_7 (lb_ rfl) lf_RX8_41 sh_k98 rfl (lb_ rfl) rfl (dd_X8_readsThumb.at 34 rfl) ?_
          refine xx_iload_n C (dd_X8_readsThumb.at 35 rfl) rfl ?_
          refine xx_iload_n C (dd_X8_readsThumb.at 36 rfl) rfl ?_
          obtain ⟨g3, hf⟩ := gd_ok hf
          refine xx_iastore C (dd_X8_readsThumb.at 37 rfl) sh_k108 (bi_ok g3) ?_
          refine xx_aload_n C (dd_X8_readsThumb.at 38 rfl) rfl (Nat.le_of_ble_eq_true rfl) ?_
          refine xx_iload_n C (dd_X8_readsThumb.at 39 rfl) rfl ?_
          refine xx_iload_n C (dd_X8_readsThumb.at 40 rfl) rfl ?_
          refine xx_iconst C (dd_X8_readsThumb.at 41 rfl) ic_1 ?_
          refine xx_iadd C (dd_X8_readsThumb.at 42 rfl) ?_
          refine xx_iconst C (dd_X8_readsThumb.at 43 rfl) ic_0 ?_
          refine xx_iconst C (dd_X8_readsThumb.at 44 rfl) ic_2 ?_
          obtain ⟨v4, e5, hf⟩ := bdo_ hf
          refine xx_callVi C (ss_X8_figure (pz_ e5)) (dd_X8_readsThumb.at 45 rfl) ck_7 rfl sh_k98 kk_X8_figure ki_X8_figure lm_RX8_122 (lb_ rfl) rfl rfl (lb_ rfl) ?_
          rcases ifo_ hf with ⟨hc, hf⟩ | ⟨hc, hf⟩
          · refine xx_if_eq_t (tgt := 96) C (dd_X8_readsThumb.at 46 rfl) (by decide) hc ?_
            refine xx_mask [true, false, false, false, false] (ss_X8_readsThumb_96 C Q (fun q6 hf => ?_) hf)
            exact xx_mask [true, false, false, false, false] (ss_X8_readsThumb_97 C Q hf)
          · refine xx_if_eq_f (tgt := 96) C (dd_X8_readsThumb.at 46 rfl) (by decide) hc ?_
            refine xx_aload_n C (dd_X8_readsThumb.at 47 rfl) rfl (Nat.le_of_ble_eq_true rfl) ?_
            refine xx_iload_n C (dd_X8_readsThumb.at 48 rfl) rfl ?_
            refine xx_iload_n C (dd_X8_readsThumb.at 49 rfl) rfl ?_
            refine xx_iconst C (dd_X8_readsThumb.at 50 rfl) ic_2 ?_
            refine xx_iadd C (dd_X8_readsThumb.at 51 rfl) ?_
            refine xx_iconst C (dd_X8_readsThumb.at 52 rfl) ic_0 ?_
            refine xx_iconst C (dd_X8_readsThumb.at 53 rfl) ic_3 ?_
            obtain ⟨v9, e10, hf⟩ := bdo_ hf
            refine xx_callVi C (ss_X8_figure (pz_ e10)) (dd_X8_readsThumb.at 54 rfl) ck_7 rfl sh_k98 kk_X8_figure ki_X8_figure lm_RX8_122 (lb_ rfl) rfl rfl (lb_ rfl) ?_
            rcases ifo_ hf with ⟨hc, hf⟩ | ⟨hc, hf⟩
            · refine xx_if_eq_t (tgt := 96) C (dd_X8_readsThumb.at 55 rfl) (by decide) hc ?_
              refine xx_mask [true, false, false, false, false] (ss_X8_readsThumb_96 C Q (fun q11 hf => ?_) hf)
              exact xx_mask [true, false, false, false, false] (ss_X8_readsThumb_97 C Q hf)
            · refine xx_if_eq_f (tgt := 96) C (dd_X8_readsThumb.at 55 rfl) (by decide) hc ?_
              refine xx_iconst C (dd_X8_readsThumb.at 56 rfl) ic_1 ?_
              refine xx_goto (tgt := 97) C (dd_X8_readsThumb.at 57 rfl) (by decide) ?_
              exact xx_mask [true, false, false, false, false] (ss_X8_readsThumb_97 C Q hf)
        · refine xx_if_le_f (tgt := 39) C (dd_X8_readsThumb.at 17 rfl) (by decide) hc ?_
          refine xx_iconst C (dd_X8_readsThumb.at 18 rfl) ic_0 ?_
          exact xx_zreturn C (rt_iwp hf Q) (dd_X8_readsThumb.at 19 rfl) rfl zb_0
theorem ss_X8_readsPost_63 {Z : zz_} (C : cx_ Z mt_X8_readsPost 2) {r9 : Int32} {h9 : hh_} {x1 : Int32} {x3 : Int32} {y1 : Int32} {y2 : Int32} {y3 : Int32} {h : hh_} {K63_31 : Int32 → Int32 → hh_ → Option (Int32 × hh_)} (Q : rq_ Z (some (.int r9)) h9) (hK63_31 : ∀ (z2 : Int32) (z3 : Int32) (h8 : hh_), K63_31 z2 z3 h8 = some (r9, h9) → xx_ Z 31 [some (.ref 98), some (.int x1), some (.int z2), some (.int z3)] [] h8) (hf : ff_X8_readsPost_63 x1 x3 y1 y2 y3 h K63_31 = some (r9, h9)) : xx_ Z 63 [some (.ref 98), some (.int x1), none, some (.int x3)] [.int y3, .int y2, .int y1, .ref 98] h := by
  unfold ff_X8_readsPost_63 at hf
  refine xx_iload_n C (dd_X8_readsPost.at 40 rfl) rfl ?_
  refine xx_iconst C (dd_X8_readsPost.at 41 rfl) ic_4 ?_
  rcases ifo_ hf with ⟨hc, hf⟩ | ⟨hc, hf⟩
  · refine xx_icmp_ge_t (tgt := 73) C (dd_X8_readsPost.at 42 rfl) (by decide) hc ?_
    refine xx_bipush C (dd_X8_readsPost.at 45 rfl) bq_9 ?_
    obtain ⟨v1, e2, hf⟩ := bdo_ hf
    refine xx_callVi C (ss_X8_figure (pz_ e2)) (dd_X8_readsPost.at 46 rfl) ck_7 rfl sh_k98 kk_X8_figure ki_X8_figure lm_RX8_122 (lb_ rfl) rfl rfl (lb_ rfl) ?_
    refine xx_istore_n (lv' := [_, _, _, _]) C (dd_X8_readsPost.at 47 rfl) (lb_ rfl) rfl ?_
    refine xx_iinc (v := _ + (1 : Int32)) (lv' := [_, _, _, _]) C (dd_X8_readsPost.at 48 rfl) (lb_ rfl) rfl (by rw [ic_1]) rfl ?_
    refine xx_goto (tgt := 31) C (dd_X8_readsPost.at 49 rfl) (by decide) ?_
    exact xx_mask [true, true, true, true] (hK63_31 _ _ _ hf)
  · refine xx_icmp_ge_f (tgt := 73) C (dd_X8_readsPost.at 42 rfl) (by decide) hc ?_
    refine xx_bipush C (dd_X8_readsPost.at 43 rfl) bq_6 ?_
    refine xx_goto (tgt := 75) C (dd_X8_readsPost.at 44 rfl) (by decide) ?_
    obtain ⟨v3, e4, hf⟩ := bdo_ hf
    refine xx_callVi C (ss_X8_figure (pz_ e4)) (dd_X8_readsPost.at 46 rfl) ck_7 rfl sh_k98 kk_X8_figure ki_X8_figure lm_RX8_122 (lb_ rfl) rfl rfl (lb_ rfl) ?_
    refine xx_istore_n (lv' := [_, _, _, _]) C (dd_X8_readsPost.at 47 rfl) (lb_ rfl) rfl ?_
    refine xx_iinc (v := _ + (1 : Int32)) (lv' := [_, _, _, _]) C (dd_X8_readsPost.at 48 rfl) (lb_ rfl) rfl (by rw [ic_1]) rfl ?_
    refine xx_goto (tgt := 31) C (dd_X8_readsPost.at 49 rfl) (by decide) ?_
    exact xx_mask [true, true, true, true] (hK63_31 _ _ _ hf)
theorem ss_X8_readsPost_31 {Z : zz_} (C : cx_ Z mt_X8_readsPost 2) {r9 : Int32} {h9 : hh_} {x1 : Int32} {K31_85 : Int32 → hh_ → Option (Int32 × hh_)} (Q : rq_ Z (some (.int r9)) h9) (hK31_85 : ∀ (z2 : Int32) (h8 : hh_), K31_85 z2 h8 = some (r9, h9) → xx_ Z 85 [some (.ref 98), none, some (.int z2), none] [] h8) : ∀ (n9 : Nat) (x2 : Int32) (x3 : Int32) (h : hh_), ff_X8_readsPost_31 x1 K31_85 n9 x2 x3 h = some (r9, h9) → xx_ Z 31 [some (.ref 98), some (.int x1), some (.int x2), some (.int x3)] [] h := by
  intro n9
  induction n9 with
  | zero =>
    intro x2 x3 h hf
    exact absurd hf (by rw [ff_X8_readsPost_31]; exact nofun)
  | succ n9 ih =>
    intro x2 x3 h hf
    rw [ff_X8_readsPost_31] at hf
    refine xx_iload_n C (dd_X8_readsPost.at 19 rfl) rfl ?_
    refine xx_iconst C (dd_X8_readsPost.at 20 rfl) ic_5 ?_
    rcases ifo_ hf with ⟨hc, hf⟩ | ⟨hc, hf⟩
    · refine xx_icmp_ge_t (tgt := 85) C (dd_X8_readsPost.at 21 rfl) (by decide) hc ?_
      exact xx_mask [true, false, true, false] (hK31_85 _ _ hf)
    · refine xx_icmp_ge_f (tgt := 85) C (dd_X8_readsPost.at 21 rfl) (by decide) hc ?_
      refine xx_iload_n C (dd_X8_readsPost.at 22 rfl) rfl ?_
      rcases ifo_ hf with ⟨hc, hf⟩ | ⟨hc, hf⟩
      · refine xx_if_eq_t (tgt := 85) C (dd_X8_readsPost.at 23 rfl) (by decide) hc ?_
        exact xx_mask [true, false, true, false] (hK31_85 _ _ hf)
      · refine xx_if_eq_f (tgt := 85) C (dd_X8_readsPost.at 23 rfl) (by decide) hc ?_
        refine xx_aload_n C (dd_X8_readsPost.at 24 rfl) rfl (Nat.le_of_ble_eq_true rfl) ?_
        refine xx_iload_n C (dd_X8_readsPost.at 25 rfl) rfl ?_
        refine xx_bipush C (dd_X8_readsPost.at 26 rfl) bq_37 ?_
        refine xx_iconst C (dd_X8_readsPost.at 27 rfl) ic_5 ?_
        refine xx_aload_n C (dd_X8_readsPost.at 28 rfl) rfl (Nat.le_of_ble_eq_true rfl) ?_
        refine xx_getI (j := 19) C ck_7 (lb_ rfl) lf_RX8_119 sh_k98 rfl (dd_X8_readsPost.at 29 rfl) ?_
        refine xx_imul C (dd_X8_readsPost.at 30 rfl) ?_
        refine xx_iadd C (dd_X8_readsPost.at 31 rfl) ?_
        refine xx_iload_n C (dd_X8_readsPost.at 32 rfl) rfl ?_
        refine xx_iadd C (dd_X8_readsPost.at 33 rfl) ?_
        refine xx_iload_n C (dd_X8_readsPost.at 34 rfl) rfl ?_
        refine xx_iconst C (dd_X8_readsPost.at 35 rfl) ic_4 ?_
        rcases ifo_ hf with ⟨hc, hf⟩ | ⟨hc, hf⟩
        · refine xx_icmp_ge_t (tgt := 62) C (dd_X8_readsPost.at 36 rfl) (by decide) hc ?_
          refine xx_iconst C (dd_X8_readsPost.at 39 rfl) ic_1 ?_
          exact xx_mask [true, true, false, true] (ss_X8_readsPost_63 C Q (fun _ _ _ hf => ih _ _ _ hf) hf)
        · refine xx_icmp_ge_f (tgt := 62) C (dd_X8_readsPost.at 36 rfl) (by decide) hc ?_
          refine xx_iconst C (dd_X8_readsPost.at 37 rfl) ic_0 ?_
          refine xx_goto (tgt := 63) C (dd_X8_readsPost.at 38 rfl) (by decide) ?_
          exact xx_mask [true, true, false, true] (ss_X8_readsPost_63 C Q (fun _ _ _ hf => ih _ _ _ hf) hf)
theorem ss_X8_readsPost_85 {Z : zz_} (C : cx_ Z mt_X8_readsPost 2) {r9 : Int32} {h9 : hh_} {x2 : Int32} {h : hh_}  (Q : rq_ Z (some (.int r9)) h9) (hf : ff_X8_readsPost_85 x2 h = some (r9, h9)) : xx_ Z 85 [some (.ref 98), none, some (.int x2), none] [] h := by
  unfold ff_X8_readsPost_85 at hf
  refine xx_aload_n C (dd_X8_readsPost.at 50 rfl) rfl (Nat.le_of_ble_eq_true rfl) ?_
  refine xx_dup C (dd_X8_readsPost.at 51 rfl) rfl ?_
  refine xx_getI (j := 19) C ck_7 (lb_ rfl) lf_RX8_119 sh_k98 rfl (dd_X8_readsPost.at 52 rfl) ?_
  refine xx_iload_n C (dd_X8_readsPost.at 53 rfl) rfl ?_
  rcases ifo_ hf with ⟨hc, hf⟩ | ⟨hc, hf⟩
  · refine xx_if_eq_t (tgt := 98) C (dd_X8_readsPost.at 54 rfl) (by decide) hc ?_
    refine xx_iconst C (dd_X8_readsPost.at 57 rfl) ic_0 ?_
    refine xx_iadd C (dd_X8_readsPost.at 58 rfl) ?_
    refine xx_putI (j := 19) C ck_7 (lb_ rfl) lf_RX8_119 rfl rfl sh_k98 rfl (dd_X8_readsPost.at 59 rfl) ?_
    refine xx_iload_n C (dd_X8_readsPost.at 60 rfl) rfl ?_
    obtain ⟨g7, hf⟩ := gd_ok hf
    exact xx_zreturn C (rt_iwp hf Q) (dd_X8_readsPost.at 61 rfl) rfl (bz_ok g7)
  · refine xx_if_eq_f (tgt := 98) C (dd_X8_readsPost.at 54 rfl) (by decide) hc ?_
    refine xx_iconst C (dd_X8_readsPost.at 55 rfl) ic_1 ?_
    refine xx_goto (tgt := 99) C (dd_X8_readsPost.at 56 rfl) (by decide) ?_
    refine xx_iadd C (dd_X8_readsPost.at 58 rfl) ?_
    refine xx_putI (j := 19) C ck_7 (lb_ rfl) lf_RX8_119 rfl rfl sh_k98 rfl (dd_X8_readsPost.at 59 rfl) ?_
    refine xx_iload_n C (dd_X8_readsPost.at 60 rfl) rfl ?_
    obtain ⟨g8, hf⟩ := gd_ok hf
    exact xx_zreturn C (rt_iwp hf Q) (dd_X8_readsPost.at 61 rfl) rfl (bz_ok g8)
theorem ss_X8_readsPost {l : Launch} {G : gt_} {a1 : Int32} {h : hh_} {r9 : Int32} {h9 : hh_}  (hf : ff_X8_readsPost a1 h = some (r9, h9)) : ok_ l G 2 mt_X8_readsPost [.ref 98, .int a1] h (some (.int r9)) h9 := by
  refine ok_of pn_RX8 (lb_ rfl) (fun Z _ _ C Q => ?_)
  show xx_ Z 0 [some (.ref 98), some (.int a1), none, none] [] h
  unfold ff_X8_readsPost at hf
  refine xx_aload_n C (dd_X8_readsPost.at 0 rfl) rfl (Nat.le_of_ble_eq_true rfl) ?_
  refine xx_getI (j := 17) C ck_7 (lb_ rfl) lf_RX8_113 sh_k98 rfl (dd_X8_readsPost.at 1 rfl) ?_
  rcases ifo_ hf with ⟨hc, hf⟩ | ⟨hc, hf⟩
  · refine xx_if_eq_t (tgt := 15) C (dd_X8_readsPost.at 2 rfl) (by decide) hc ?_
    refine xx_iconst C (dd_X8_readsPost.at 7 rfl) ic_0 ?_
    exact xx_zreturn C (rt_iwp hf Q) (dd_X8_readsPost.at 8 rfl) rfl zb_0
  · refine xx_if_eq_f (tgt := 15) C (dd_X8_readsPost.at 2 rfl) (by decide) hc ?_
    refine xx_aload_n C (dd_X8_readsPost.at 3 rfl) rfl (Nat.le_of_ble_eq_true rfl) ?_
    refine xx_getI (j := 19) C ck_7 (lb_ rfl) lf_RX8_119 sh_k98 rfl (dd_X8_readsPost.at 4 rfl) ?_
    refine xx_iconst C (dd_X8_readsPost.at 5 rfl) ic_4 ?_
    rcases ifo_ hf with ⟨hc, hf⟩ | ⟨hc, hf⟩
    · refine xx_icmp_ne_f (tgt := 17) C (dd_X8_readsPost.at 6 rfl) (by decide) (not_not_intro hc) ?_
      refine xx_iconst C (dd_X8_readsPost.at 7 rfl) ic_0 ?_
      exact xx_zreturn C (rt_iwp hf Q) (dd_X8_readsPost.at 8 rfl) rfl zb_0
    · refine xx_icmp_ne_t (tgt := 17) C (dd_X8_readsPost.at 6 rfl) (by decide) hc ?_
      refine xx_aload_n C (dd_X8_readsPost.at 9 rfl) rfl (Nat.le_of_ble_eq_true rfl) ?_
      refine xx_dup C (dd_X8_readsPost.at 10 rfl) rfl ?_
      refine xx_getI (j := 16) C ck_7 (lb_ rfl) lf_RX8_107 sh_k98 rfl (dd_X8_readsPost.at 11 rfl) ?_
      refine xx_iconst C (dd_X8_readsPost.at 12 rfl) ic_1 ?_
      refine xx_iadd C (dd_X8_readsPost.at 13 rfl) ?_
      refine xx_putI (j := 16) C ck_7 (lb_ rfl) lf_RX8_107 rfl rfl sh_k98 rfl (dd_X8_readsPost.at 14 rfl) ?_
      refine xx_iconst C (dd_X8_readsPost.at 15 rfl) ic_1 ?_
      refine xx_istore_n (lv' := [_, _, _, _]) C (dd_X8_readsPost.at 16 rfl) (lb_ rfl) rfl ?_
      refine xx_iconst C (dd_X8_readsPost.at 17 rfl) ic_0 ?_
      refine xx_istore_n (lv' := [_, _, _, _]) C (dd_X8_readsPost.at 18 rfl) (lb_ rfl) rfl ?_
      refine xx_mask [true, true, true, true] (ss_X8_readsPost_31 C Q (fun u5 k6 hf => ?_) _ _ _ _ hf)
      exact xx_mask [true, false, true, false] (ss_X8_readsPost_85 C Q hf)
