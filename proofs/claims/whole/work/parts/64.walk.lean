theorem ss_X6_commonDivisor_3 {Z : zz_} (C : cx_ Z mt_X6_commonDivisor 0) {r9 : Int64} {h : hh_}  (Q : rq_ Z (some (.long r9)) h) : ∀ (n9 : Nat) (x0 : Int64) (x2 : Int64) (x4 : Int32), ff_X6_commonDivisor_3 n9 x0 x2 x4 = some r9 → xx_ Z 3 [some (.long x0), none, some (.long x2), none, some (.int x4), none, none] [] h := by
  intro n9
  induction n9 with
  | zero =>
    intro x0 x2 x4 hf
    exact absurd hf (by rw [ff_X6_commonDivisor_3]; exact nofun)
  | succ n9 ih =>
    intro x0 x2 x4 hf
    rw [ff_X6_commonDivisor_3] at hf
    refine xx_iload C (dd_X6_commonDivisor.at 2 rfl) rfl ?_
    refine xx_bipush C (dd_X6_commonDivisor.at 3 rfl) bq_100 ?_
    rcases ifo_ hf with ⟨hc, hf⟩ | ⟨hc, hf⟩
    · refine xx_icmp_ge_t (tgt := 32) C (dd_X6_commonDivisor.at 4 rfl) (by decide) hc ?_
      refine xx_lload_n C (dd_X6_commonDivisor.at 19 rfl) rfl ?_
      exact xx_lreturn C (rt_lp hf Q) (dd_X6_commonDivisor.at 20 rfl) rfl
    · refine xx_icmp_ge_f (tgt := 32) C (dd_X6_commonDivisor.at 4 rfl) (by decide) hc ?_
      refine xx_lload_n C (dd_X6_commonDivisor.at 5 rfl) rfl ?_
      refine xx_lconst (v := 0) C (dd_X6_commonDivisor.at 6 rfl) rfl ?_
      refine xx_lcmp C (dd_X6_commonDivisor.at 7 rfl) ?_
      rcases ifo_ hf with ⟨hc, hf⟩ | ⟨hc, hf⟩
      · refine xx_if_eq_t (tgt := 32) C (dd_X6_commonDivisor.at 8 rfl) (by decide) hc ?_
        refine xx_lload_n C (dd_X6_commonDivisor.at 19 rfl) rfl ?_
        exact xx_lreturn C (rt_lp hf Q) (dd_X6_commonDivisor.at 20 rfl) rfl
      · refine xx_if_eq_f (tgt := 32) C (dd_X6_commonDivisor.at 8 rfl) (by decide) hc ?_
        refine xx_lload_n C (dd_X6_commonDivisor.at 9 rfl) rfl ?_
        refine xx_lload_n C (dd_X6_commonDivisor.at 10 rfl) rfl ?_
        obtain ⟨g1, hf⟩ := gd_ok hf
        refine xx_lrem C (dd_X6_commonDivisor.at 11 rfl) (bm_ok g1) ?_
        refine xx_lstore (lv' := [_, _, _, _, _, _, _]) C (dd_X6_commonDivisor.at 12 rfl) (lb_ rfl) rfl ?_
        refine xx_lload_n C (dd_X6_commonDivisor.at 13 rfl) rfl ?_
        refine xx_lstore_n (lv' := [_, _, _, _, _, _, _]) C (dd_X6_commonDivisor.at 14 rfl) (lb_ rfl) rfl ?_
        refine xx_lload C (dd_X6_commonDivisor.at 15 rfl) rfl ?_
        refine xx_lstore_n (lv' := [_, _, _, _, _, _, _]) C (dd_X6_commonDivisor.at 16 rfl) (lb_ rfl) rfl ?_
        refine xx_iinc (v := _ + (1 : Int32)) (lv' := [_, _, _, _, _, _, _]) C (dd_X6_commonDivisor.at 17 rfl) (lb_ rfl) rfl (by rw [ic_1]) rfl ?_
        refine xx_goto (tgt := 3) C (dd_X6_commonDivisor.at 18 rfl) (by decide) ?_
        exact xx_mask [true, false, true, false, true, false, false] (ih _ _ _ hf)
theorem ss_X6_commonDivisor {l : Launch} {G : gt_} {a0 : Int64} {a2 : Int64} {h : hh_} {r9 : Int64}  (hf : ff_X6_commonDivisor a0 a2 = some r9) : ok_ l G 0 mt_X6_commonDivisor [.long a0, .long a2] h (some (.long r9)) h := by
  refine ok_of pn_RX6 (lb_ rfl) (fun Z _ _ C Q => ?_)
  show xx_ Z 0 [some (.long a0), none, some (.long a2), none, none, none, none] [] h
  unfold ff_X6_commonDivisor at hf
  refine xx_iconst C (dd_X6_commonDivisor.at 0 rfl) ic_0 ?_
  refine xx_istore (lv' := [_, _, _, _, _, _, _]) C (dd_X6_commonDivisor.at 1 rfl) (lb_ rfl) rfl ?_
  exact xx_mask [true, false, true, false, true, false, false] (ss_X6_commonDivisor_3 C Q _ _ _ _ hf)
theorem ss_X6_tellFraction {l : Launch} {G : gt_} {a1 : Int64} {a3 : Int64} {h : hh_} {r9 : Int32} {h9 : hh_}  (hf : ff_X6_tellFraction a1 a3 h = some (r9, h9)) : ok_ l G 1 mt_X6_tellFraction [.ref 36, .long a1, .long a3] h (some (.int r9)) h9 := by
  refine ok_of pn_RX6 (lb_ rfl) (fun Z _ _ C Q => ?_)
  show xx_ Z 0 [some (.ref 36), some (.long a1), none, some (.long a3), none, none, none] [] h
  unfold ff_X6_tellFraction at hf
  refine xx_lload_n C (dd_X6_tellFraction.at 0 rfl) rfl ?_
  refine xx_lload_n C (dd_X6_tellFraction.at 1 rfl) rfl ?_
  obtain ⟨v1, e2, hf⟩ := bdo_ hf
  refine xx_callSl C (ss_X6_commonDivisor e2) (dd_X6_tellFraction.at 2 rfl) kk_X6_commonDivisor ks_X6_commonDivisor lm_RX6_23 (lb_ rfl) rfl rfl (lb_ rfl) ?_
  refine xx_lstore (lv' := [_, _, _, _, _, _, _]) C (dd_X6_tellFraction.at 3 rfl) (lb_ rfl) rfl ?_
  refine xx_lload C (dd_X6_tellFraction.at 4 rfl) rfl ?_
  refine xx_lconst (v := 0) C (dd_X6_tellFraction.at 5 rfl) rfl ?_
  refine xx_lcmp C (dd_X6_tellFraction.at 6 rfl) ?_
  rcases ifo_ hf with ⟨hc, hf⟩ | ⟨hc, hf⟩
  · refine xx_if_eq_t (tgt := 30) C (dd_X6_tellFraction.at 7 rfl) (by decide) hc ?_
    refine xx_iconst C (dd_X6_tellFraction.at 18 rfl) ic_1 ?_
    exact xx_ireturn C (rt_iwp hf Q) (dd_X6_tellFraction.at 19 rfl) rfl
  · refine xx_if_eq_f (tgt := 30) C (dd_X6_tellFraction.at 7 rfl) (by decide) hc ?_
    refine xx_aload_n C (dd_X6_tellFraction.at 8 rfl) rfl (Nat.le_of_ble_eq_true rfl) ?_
    refine xx_lload_n C (dd_X6_tellFraction.at 9 rfl) rfl ?_
    refine xx_lload C (dd_X6_tellFraction.at 10 rfl) rfl ?_
    obtain ⟨g3, hf⟩ := gd_ok hf
    refine xx_ldiv C (dd_X6_tellFraction.at 11 rfl) (bm_ok g3) ?_
    refine xx_putL (j := 3) C ck_5 (lb_ rfl) lf_RX6_27 rfl rfl sh_k36 rfl (dd_X6_tellFraction.at 12 rfl) ?_
    refine xx_aload_n C (dd_X6_tellFraction.at 13 rfl) rfl (Nat.le_of_ble_eq_true rfl) ?_
    refine xx_lload_n C (dd_X6_tellFraction.at 14 rfl) rfl ?_
    refine xx_lload C (dd_X6_tellFraction.at 15 rfl) rfl ?_
    refine xx_ldiv C (dd_X6_tellFraction.at 16 rfl) (bm_ok g3) ?_
    refine xx_putL (j := 4) C ck_5 (lb_ rfl) lf_RX6_15 rfl rfl sh_k36 rfl (dd_X6_tellFraction.at 17 rfl) ?_
    refine xx_iconst C (dd_X6_tellFraction.at 18 rfl) ic_1 ?_
    exact xx_ireturn C (rt_iwp hf Q) (dd_X6_tellFraction.at 19 rfl) rfl
theorem ss_X7_odds_98 {Z : zz_} (C : cx_ Z mt_X7_odds 5) {r9 : Int32} {h9 : hh_} {x1 : Int32} {x2 : Int32} {x5 : Int32} {h : hh_}  (Q : rq_ Z (some (.int r9)) h9) : ∀ (n9 : Nat) (x6 : Int64) (x8 : Int32), ff_X7_odds_98 x1 x2 x5 h n9 x6 x8 = some (r9, h9) → xx_ Z 98 [some (.ref 1), some (.int x1), some (.int x2), none, none, some (.int x5), some (.long x6), none, some (.int x8)] [] h := by
  intro n9
  induction n9 with
  | zero =>
    intro x6 x8 hf
    exact absurd hf (by rw [ff_X7_odds_98]; exact nofun)
  | succ n9 ih =>
    intro x6 x8 hf
    rw [ff_X7_odds_98] at hf
    refine xx_iload C (dd_X7_odds.at 51 rfl) rfl ?_
    refine xx_aload_n C (dd_X7_odds.at 52 rfl) rfl (Nat.le_of_ble_eq_true rfl) ?_
    obtain ⟨g11, hf⟩ := gd_ok hf
    refine xx_getR (j := 7) (r := h.2.2.1) C ck_6 (lb_ rfl) lf_RX7_55 sh_k1 rfl (lb_ rfl) rfl (dd_X7_odds.at 53 rfl) ?_
    refine xx_getR (j := 4) (r := (h.2.2.1 + 23)) C ck_1 (lb_ rfl) lf_RX7_118 (sh_o (bo_ok g11)) rfl (rc_o4 (bo_ok g11)) (rf_o4 (bo_ok g11)) (dd_X7_odds.at 54 rfl) ?_
    refine xx_iconst C (dd_X7_odds.at 55 rfl) ic_0 ?_
    refine xx_iaload C (dd_X7_odds.at 56 rfl) (sh_o23 (bo_ok g11)) (bi_ok (i := (0 : Int32)) (n := 3) rfl) ?_
    rcases ifo_ hf with ⟨hc, hf⟩ | ⟨hc, hf⟩
    · refine xx_icmp_ge_t (tgt := 135) C (dd_X7_odds.at 57 rfl) (by decide) hc ?_
      refine xx_aload_n C (dd_X7_odds.at 69 rfl) rfl (Nat.le_of_ble_eq_true rfl) ?_
      refine xx_getR (j := 5) (r := 36) C ck_6 (lb_ rfl) lf_RX7_44 sh_k1 rfl (lb_ rfl) rfl (dd_X7_odds.at 70 rfl) ?_
      refine xx_aload_n C (dd_X7_odds.at 71 rfl) rfl (Nat.le_of_ble_eq_true rfl) ?_
      refine xx_getR (j := 7) (r := h.2.2.1) C ck_6 (lb_ rfl) lf_RX7_55 sh_k1 rfl (lb_ rfl) rfl (dd_X7_odds.at 72 rfl) ?_
      refine xx_iload_n C (dd_X7_odds.at 73 rfl) rfl ?_
      refine xx_iload_n C (dd_X7_odds.at 74 rfl) rfl ?_
      refine xx_iload C (dd_X7_odds.at 75 rfl) rfl ?_
      obtain ⟨v12, e13, hf⟩ := bdo_ hf
      refine xx_callVl C (ss_X2_weight (bo_ok g11) e13) (dd_X7_odds.at 76 rfl) ck_1 rfl (sh_o (bo_ok g11)) kk_X2_weight ki_X2_weight lm_RX7_195 (lb_ rfl) rfl rfl (lb_ rfl) ?_
      refine xx_lload C (dd_X7_odds.at 77 rfl) rfl ?_
      obtain ⟨v14, e15, hf⟩ := bdo_ hf
      refine xx_callVi C (ss_X6_tellFraction (pz_ e15)) (dd_X7_odds.at 78 rfl) ck_5 rfl sh_k36 kk_X6_tellFraction ki_X6_tellFraction lm_RX7_199 (lb_ rfl) rfl rfl (lb_ rfl) ?_
      exact xx_ireturn C (rt_iwp hf Q) (dd_X7_odds.at 79 rfl) rfl
    · refine xx_icmp_ge_f (tgt := 135) C (dd_X7_odds.at 57 rfl) (by decide) hc ?_
      refine xx_lload C (dd_X7_odds.at 58 rfl) rfl ?_
      refine xx_aload_n C (dd_X7_odds.at 59 rfl) rfl (Nat.le_of_ble_eq_true rfl) ?_
      refine xx_getR (j := 7) (r := h.2.2.1) C ck_6 (lb_ rfl) lf_RX7_55 sh_k1 rfl (lb_ rfl) rfl (dd_X7_odds.at 60 rfl) ?_
      refine xx_iload_n C (dd_X7_odds.at 61 rfl) rfl ?_
      refine xx_iload C (dd_X7_odds.at 62 rfl) rfl ?_
      refine xx_iload C (dd_X7_odds.at 63 rfl) rfl ?_
      obtain ⟨v16, e17, hf⟩ := bdo_ hf
      refine xx_callVl C (ss_X2_weight (bo_ok g11) e17) (dd_X7_odds.at 64 rfl) ck_1 rfl (sh_o (bo_ok g11)) kk_X2_weight ki_X2_weight lm_RX7_195 (lb_ rfl) rfl rfl (lb_ rfl) ?_
      refine xx_ladd C (dd_X7_odds.at 65 rfl) ?_
      refine xx_lstore (lv' := [_, _, _, _, _, _, _, _, _]) C (dd_X7_odds.at 66 rfl) (lb_ rfl) rfl ?_
      refine xx_iinc (v := _ + (1 : Int32)) (lv' := [_, _, _, _, _, _, _, _, _]) C (dd_X7_odds.at 67 rfl) (lb_ rfl) rfl (by rw [ic_1]) rfl ?_
      refine xx_goto (tgt := 98) C (dd_X7_odds.at 68 rfl) (by decide) ?_
      exact xx_mask [true, true, true, false, false, true, true, false, true] (ih _ _ hf)
theorem ss_X7_odds {l : Launch} {G : gt_} {a1 : Int32} {a2 : Int32} {a3 : Int32} {h : hh_} {r9 : Int32} {h9 : hh_}  (hf : ff_X7_odds a1 a2 a3 h = some (r9, h9)) : ok_ l G 5 mt_X7_odds [.ref 1, .int a1, .int a2, .int a3] h (some (.int r9)) h9 := by
  refine ok_of pn_RX7 (lb_ rfl) (fun Z _ _ C Q => ?_)
  show xx_ Z 0 [some (.ref 1), some (.int a1), some (.int a2), some (.int a3), none, none, none, none, none] [] h
  unfold ff_X7_odds at hf
  refine xx_aload_n C (dd_X7_odds.at 0 rfl) rfl (Nat.le_of_ble_eq_true rfl) ?_
  obtain ⟨g1, hf⟩ := gd_ok hf
  refine xx_getR (j := 7) (r := h.2.2.1) C ck_6 (lb_ rfl) lf_RX7_55 sh_k1 rfl (lb_ rfl) rfl (dd_X7_odds.at 1 rfl) ?_
  refine xx_iconst C (dd_X7_odds.at 2 rfl) ic_1 ?_
  refine xx_iload_n C (dd_X7_odds.at 3 rfl) rfl ?_
  obtain ⟨v2, e3, hf⟩ := bdo_ hf
  refine xx_callVi C (ss_X2_has (bo_ok g1) e3) (dd_X7_odds.at 4 rfl) ck_1 rfl (sh_o (bo_ok g1)) kk_X2_has ki_X2_has lm_RX7_119 (lb_ rfl) rfl rfl (lb_ rfl) ?_
  rcases ifo_ hf with ⟨hc, hf⟩ | ⟨hc, hf⟩
  · refine xx_if_eq_t (tgt := 35) C (dd_X7_odds.at 5 rfl) (by decide) hc ?_
    refine xx_iconst C (dd_X7_odds.at 17 rfl) ic_m1 ?_
    exact xx_ireturn C (rt_iwp hf Q) (dd_X7_odds.at 18 rfl) rfl
  · refine xx_if_eq_f (tgt := 35) C (dd_X7_odds.at 5 rfl) (by decide) hc ?_
    refine xx_aload_n C (dd_X7_odds.at 6 rfl) rfl (Nat.le_of_ble_eq_true rfl) ?_
    refine xx_getR (j := 7) (r := h.2.2.1) C ck_6 (lb_ rfl) lf_RX7_55 sh_k1 rfl (lb_ rfl) rfl (dd_X7_odds.at 7 rfl) ?_
    refine xx_iconst C (dd_X7_odds.at 8 rfl) ic_0 ?_
    refine xx_iload_n C (dd_X7_odds.at 9 rfl) rfl ?_
    obtain ⟨v4, e5, hf⟩ := bdo_ hf
    refine xx_callVi C (ss_X2_has (bo_ok g1) e5) (dd_X7_odds.at 10 rfl) ck_1 rfl (sh_o (bo_ok g1)) kk_X2_has ki_X2_has lm_RX7_119 (lb_ rfl) rfl rfl (lb_ rfl) ?_
    rcases ifo_ hf with ⟨hc, hf⟩ | ⟨hc, hf⟩
    · refine xx_if_eq_t (tgt := 35) C (dd_X7_odds.at 11 rfl) (by decide) hc ?_
      refine xx_iconst C (dd_X7_odds.at 17 rfl) ic_m1 ?_
      exact xx_ireturn C (rt_iwp hf Q) (dd_X7_odds.at 18 rfl) rfl
    · refine xx_if_eq_f (tgt := 35) C (dd_X7_odds.at 11 rfl) (by decide) hc ?_
      refine xx_aload_n C (dd_X7_odds.at 12 rfl) rfl (Nat.le_of_ble_eq_true rfl) ?_
      refine xx_getR (j := 0) (r := 2) C ck_6 (lb_ rfl) lf_RX7_14 sh_k1 rfl (lb_ rfl) rfl (dd_X7_odds.at 13 rfl) ?_
      refine xx_iload_n C (dd_X7_odds.at 14 rfl) rfl ?_
      refine xx_callVi C (ss_X5r_allows rfl) (dd_X7_odds.at 15 rfl) ck_4 rfl sh_k2 kk_X5_allows ki_X5_allows lm_RX7_63 (lb_ rfl) rfl rfl (lb_ rfl) ?_
      rcases ifo_ hf with ⟨hc, hf⟩ | ⟨hc, hf⟩
      · refine xx_if_ne_f (tgt := 37) C (dd_X7_odds.at 16 rfl) (by decide) (not_not_intro hc) ?_
        refine xx_iconst C (dd_X7_odds.at 17 rfl) ic_m1 ?_
        exact xx_ireturn C (rt_iwp hf Q) (dd_X7_odds.at 18 rfl) rfl
      · refine xx_if_ne_t (tgt := 37) C (dd_X7_odds.at 16 rfl) (by decide) hc ?_
        refine xx_aload_n C (dd_X7_odds.at 19 rfl) rfl (Nat.le_of_ble_eq_true rfl) ?_
        refine xx_iload_n C (dd_X7_odds.at 20 rfl) rfl ?_
        obtain ⟨v6, e7, hf⟩ := bdo_ hf
        refine xx_callVi C (ss_X7_findingOfReading e7) (dd_X7_odds.at 21 rfl) ck_6 rfl sh_k1 kk_X7_findingOfReading ki_X7_findingOfReading lm_RX7_184 (lb_ rfl) rfl rfl (lb_ rfl) ?_
        refine xx_istore (lv' := [_, _, _, _, _, _, _, _, _]) C (dd_X7_odds.at 22 rfl) (lb_ rfl) rfl ?_
        refine xx_iload C (dd_X7_odds.at 23 rfl) rfl ?_
        rcases ifo_ hf with ⟨hc, hf⟩ | ⟨hc, hf⟩
        · refine xx_if_eq_t (tgt := 59) C (dd_X7_odds.at 24 rfl) (by decide) hc ?_
          refine xx_aload_n C (dd_X7_odds.at 30 rfl) rfl (Nat.le_of_ble_eq_true rfl) ?_
          refine xx_getR (j := 7) (r := h.2.2.1) C ck_6 (lb_ rfl) lf_RX7_55 sh_k1 rfl (lb_ rfl) rfl (dd_X7_odds.at 31 rfl) ?_
          refine xx_iload_n C (dd_X7_odds.at 32 rfl) rfl ?_
          refine xx_aload_n C (dd_X7_odds.at 33 rfl) rfl (Nat.le_of_ble_eq_true rfl) ?_
          refine xx_getR (j := 0) (r := 2) C ck_6 (lb_ rfl) lf_RX7_14 sh_k1 rfl (lb_ rfl) rfl (dd_X7_odds.at 34 rfl) ?_
          refine xx_getR (j := 0) (r := 3) C ck_4 (lb_ rfl) lf_RX7_79 sh_k2 rfl (lb_ rfl) rfl (dd_X7_odds.at 35 rfl) ?_
          refine xx_iload_n C (dd_X7_odds.at 36 rfl) rfl ?_
          obtain ⟨g8, hf⟩ := gd_ok hf
          refine xx_aaload (r := (4 + Int32.toNatClampNeg a3)) C (dd_X7_odds.at 37 rfl) sh_k3 (bi_ok g8) (sh_lt (sh_e3 (bi_ok g8))) rfl ?_
          obtain ⟨v9, e10, hf⟩ := bdo_ hf
          refine xx_callVi C (ss_X2_headsThatFit (bo_ok g1) (sh_pos (sh_e3 (bi_ok g8))) e10) (dd_X7_odds.at 38 rfl) ck_1 rfl (sh_o (bo_ok g1)) kk_X2_headsThatFit ki_X2_headsThatFit lm_RX7_191 (lb_ rfl) rfl rfl (lb_ rfl) ?_
          refine xx_istore (lv' := [_, _, _, _, _, _, _, _, _]) C (dd_X7_odds.at 39 rfl) (lb_ rfl) rfl ?_
          refine xx_iload C (dd_X7_odds.at 40 rfl) rfl ?_
          rcases ifo_ hf with ⟨hc, hf⟩ | ⟨hc, hf⟩
          · refine xx_if_ne_f (tgt := 92) C (dd_X7_odds.at 41 rfl) (by decide) (not_not_intro hc) ?_
            refine xx_aload_n C (dd_X7_odds.at 42 rfl) rfl (Nat.le_of_ble_eq_true rfl) ?_
            refine xx_getR (j := 5) (r := 36) C ck_6 (lb_ rfl) lf_RX7_44 sh_k1 rfl (lb_ rfl) rfl (dd_X7_odds.at 43 rfl) ?_
            refine xx_iconst C (dd_X7_odds.at 44 rfl) ic_4 ?_
            obtain ⟨v18, e19, hf⟩ := bdo_ hf
            refine xx_callVi C (ss_X6_refuse (pz_ e19)) (dd_X7_odds.at 45 rfl) ck_5 rfl sh_k36 kk_X6_refuse ki_X6_refuse lm_RX7_67 (lb_ rfl) rfl rfl (lb_ rfl) ?_
            exact xx_ireturn C (rt_iwp hf Q) (dd_X7_odds.at 46 rfl) rfl
          · refine xx_if_ne_t (tgt := 92) C (dd_X7_odds.at 41 rfl) (by decide) hc ?_
            refine xx_lconst (v := 0) C (dd_X7_odds.at 47 rfl) rfl ?_
            refine xx_lstore (lv' := [_, _, _, _, _, _, _, _, _]) C (dd_X7_odds.at 48 rfl) (lb_ rfl) rfl ?_
            refine xx_iconst C (dd_X7_odds.at 49 rfl) ic_0 ?_
            refine xx_istore (lv' := [_, _, _, _, _, _, _, _, _]) C (dd_X7_odds.at 50 rfl) (lb_ rfl) rfl ?_
            exact xx_mask [true, true, true, false, false, true, true, false, true] (ss_X7_odds_98 C Q _ _ _ hf)
        · refine xx_if_eq_f (tgt := 59) C (dd_X7_odds.at 24 rfl) (by decide) hc ?_
          refine xx_aload_n C (dd_X7_odds.at 25 rfl) rfl (Nat.le_of_ble_eq_true rfl) ?_
          refine xx_getR (j := 5) (r := 36) C ck_6 (lb_ rfl) lf_RX7_44 sh_k1 rfl (lb_ rfl) rfl (dd_X7_odds.at 26 rfl) ?_
          refine xx_iload C (dd_X7_odds.at 27 rfl) rfl ?_
          obtain ⟨v20, e21, hf⟩ := bdo_ hf
          refine xx_callVi C (ss_X6_refuse (pz_ e21)) (dd_X7_odds.at 28 rfl) ck_5 rfl sh_k36 kk_X6_refuse ki_X6_refuse lm_RX7_67 (lb_ rfl) rfl rfl (lb_ rfl) ?_
          exact xx_ireturn C (rt_iwp hf Q) (dd_X7_odds.at 29 rfl) rfl
theorem ss_X2_isApart {l : Launch} {G : gt_} {o : Nat} {a1 : Int32} {a2 : Int32} {a3 : Int32} {a4 : Int32} {h : hh_} {r9 : Int32} (ho : isO_ o) (hf : ff_X2_isApart o a1 a2 a3 a4 h = some r9) : ok_ l G 3 mt_X2_isApart [.ref o, .int a1, .int a2, .int a3, .int a4] h (some (.int r9)) h := by
  refine ok_of pn_RX2 (lb_ rfl) (fun Z _ _ C Q => ?_)
  show xx_ Z 0 [some (.ref o), some (.int a1), some (.int a2), some (.int a3), some (.int a4)] [] h
  unfold ff_X2_isApart at hf
  refine xx_aload_n C (dd_X2_isApart.at 0 rfl) rfl (isO_pos ho) ?_
  refine xx_iload_n C (dd_X2_isApart.at 1 rfl) rfl ?_
  refine xx_iload_n C (dd_X2_isApart.at 2 rfl) rfl ?_
  refine xx_iload C (dd_X2_isApart.at 3 rfl) rfl ?_
  refine xx_iconst C (dd_X2_isApart.at 4 rfl) ic_0 ?_
  obtain ⟨v1, e2, hf⟩ := bdo_ hf
  refine xx_callVi C (ss_X2_least ho e2) (dd_X2_isApart.at 5 rfl) ck_1 rfl (sh_o ho) kk_X2_least ki_X2_least lm_RX2_95 (lb_ rfl) rfl rfl (lb_ rfl) ?_
  refine xx_aload_n C (dd_X2_isApart.at 6 rfl) rfl (isO_pos ho) ?_
  refine xx_iload_n C (dd_X2_isApart.at 7 rfl) rfl ?_
  refine xx_iload_n C (dd_X2_isApart.at 8 rfl) rfl ?_
  refine xx_iload C (dd_X2_isApart.at 9 rfl) rfl ?_
  refine xx_iconst C (dd_X2_isApart.at 10 rfl) ic_0 ?_
  obtain ⟨v3, e4, hf⟩ := bdo_ hf
  refine xx_callVi C (ss_X2_most ho e4) (dd_X2_isApart.at 11 rfl) ck_1 rfl (sh_o ho) kk_X2_most ki_X2_most lm_RX2_92 (lb_ rfl) rfl rfl (lb_ rfl) ?_
  rcases ifo_ hf with ⟨hc, hf⟩ | ⟨hc, hf⟩
  · refine xx_icmp_gt_t (tgt := 42) C (dd_X2_isApart.at 12 rfl) (by decide) hc ?_
    refine xx_iconst C (dd_X2_isApart.at 26 rfl) ic_1 ?_
    refine xx_goto (tgt := 47) C (dd_X2_isApart.at 27 rfl) (by decide) ?_
    exact xx_zreturn C (rt_ip hf Q) (dd_X2_isApart.at 29 rfl) rfl zb_1
  · refine xx_icmp_gt_f (tgt := 42) C (dd_X2_isApart.at 12 rfl) (by decide) hc ?_
    refine xx_aload_n C (dd_X2_isApart.at 13 rfl) rfl (isO_pos ho) ?_
    refine xx_iload_n C (dd_X2_isApart.at 14 rfl) rfl ?_
    refine xx_iload_n C (dd_X2_isApart.at 15 rfl) rfl ?_
    refine xx_iload C (dd_X2_isApart.at 16 rfl) rfl ?_
    refine xx_iconst C (dd_X2_isApart.at 17 rfl) ic_0 ?_
    obtain ⟨v5, e6, hf⟩ := bdo_ hf
    refine xx_callVi C (ss_X2_least ho e6) (dd_X2_isApart.at 18 rfl) ck_1 rfl (sh_o ho) kk_X2_least ki_X2_least lm_RX2_95 (lb_ rfl) rfl rfl (lb_ rfl) ?_
    refine xx_aload_n C (dd_X2_isApart.at 19 rfl) rfl (isO_pos ho) ?_
    refine xx_iload_n C (dd_X2_isApart.at 20 rfl) rfl ?_
    refine xx_iload_n C (dd_X2_isApart.at 21 rfl) rfl ?_
    refine xx_iload C (dd_X2_isApart.at 22 rfl) rfl ?_
    refine xx_iconst C (dd_X2_isApart.at 23 rfl) ic_0 ?_
    obtain ⟨v7, e8, hf⟩ := bdo_ hf
    refine xx_callVi C (ss_X2_most ho e8) (dd_X2_isApart.at 24 rfl) ck_1 rfl (sh_o ho) kk_X2_most ki_X2_most lm_RX2_92 (lb_ rfl) rfl rfl (lb_ rfl) ?_
    rcases ifo_ hf with ⟨hc, hf⟩ | ⟨hc, hf⟩
    · refine xx_icmp_le_t (tgt := 46) C (dd_X2_isApart.at 25 rfl) (by decide) hc ?_
      refine xx_iconst C (dd_X2_isApart.at 28 rfl) ic_0 ?_
      exact xx_zreturn C (rt_ip hf Q) (dd_X2_isApart.at 29 rfl) rfl zb_0
    · refine xx_icmp_le_f (tgt := 46) C (dd_X2_isApart.at 25 rfl) (by decide) hc ?_
      refine xx_iconst C (dd_X2_isApart.at 26 rfl) ic_1 ?_
      refine xx_goto (tgt := 47) C (dd_X2_isApart.at 27 rfl) (by decide) ?_
      exact xx_zreturn C (rt_ip hf Q) (dd_X2_isApart.at 29 rfl) rfl zb_1
theorem ss_X2_pairsApart_19 {Z : zz_} (C : cx_ Z mt_X2_pairsApart 4) {r9 : Int32} {x0 : Nat} {x1 : Int32} {x2 : Int32} {x4 : Int32} {h : hh_} {K19_53 : Int32 → Option (Int32)} (Q : rq_ Z (some (.int r9)) h) (ho0 : isO_ x0) (hK19_53 : ∀ (z3 : Int32), K19_53 z3 = some r9 → xx_ Z 53 [some (.ref x0), some (.int x1), some (.int x2), some (.int z3), some (.int x4), none] [] h) : ∀ (n9 : Nat) (x3 : Int32) (x5 : Int32), ff_X2_pairsApart_19 x0 x1 x2 x4 h K19_53 n9 x3 x5 = some r9 → xx_ Z 19 [some (.ref x0), some (.int x1), some (.int x2), some (.int x3), some (.int x4), some (.int x5)] [] h := by
  intro n9
  induction n9 with
  | zero =>
    intro x3 x5 hf
    exact absurd hf (by rw [ff_X2_pairsApart_19]; exact nofun)
  | succ n9 ih =>
    intro x3 x5 hf
    rw [ff_X2_pairsApart_19] at hf
    refine xx_iload C (dd_X2_pairsApart.at 12 rfl) rfl ?_
    refine xx_iload C (dd_X2_pairsApart.at 13 rfl) rfl ?_
    rcases ifo_ hf with ⟨hc, hf⟩ | ⟨hc, hf⟩
    · refine xx_icmp_ge_t (tgt := 53) C (dd_X2_pairsApart.at 14 rfl) (by decide) hc ?_
      exact xx_mask [true, true, true, true, true, false] (hK19_53 _ hf)
    · refine xx_icmp_ge_f (tgt := 53) C (dd_X2_pairsApart.at 14 rfl) (by decide) hc ?_
      refine xx_iload_n C (dd_X2_pairsApart.at 15 rfl) rfl ?_
      refine xx_aload_n C (dd_X2_pairsApart.at 16 rfl) rfl (isO_pos ho0) ?_
      refine xx_iload_n C (dd_X2_pairsApart.at 17 rfl) rfl ?_
      refine xx_iload C (dd_X2_pairsApart.at 18 rfl) rfl ?_
      refine xx_iload C (dd_X2_pairsApart.at 19 rfl) rfl ?_
      refine xx_iload_n C (dd_X2_pairsApart.at 20 rfl) rfl ?_
      obtain ⟨v1, e2, hf⟩ := bdo_ hf
      refine xx_callVi C (ss_X2_isApart ho0 e2) (dd_X2_pairsApart.at 21 rfl) ck_1 rfl (sh_o ho0) kk_X2_isApart ki_X2_isApart lm_RX2_105 (lb_ rfl) rfl rfl (lb_ rfl) ?_
      rcases ifo_ hf with ⟨hc, hf⟩ | ⟨hc, hf⟩
      · refine xx_if_eq_t (tgt := 44) C (dd_X2_pairsApart.at 22 rfl) (by decide) hc ?_
        refine xx_iconst C (dd_X2_pairsApart.at 25 rfl) ic_0 ?_
        refine xx_iadd C (dd_X2_pairsApart.at 26 rfl) ?_
        refine xx_istore_n (lv' := [_, _, _, _, _, _]) C (dd_X2_pairsApart.at 27 rfl) (lb_ rfl) rfl ?_
        refine xx_iinc (v := _ + (1 : Int32)) (lv' := [_, _, _, _, _, _]) C (dd_X2_pairsApart.at 28 rfl) (lb_ rfl) rfl (by rw [ic_1]) rfl ?_
        refine xx_goto (tgt := 19) C (dd_X2_pairsApart.at 29 rfl) (by decide) ?_
        exact xx_mask [true, true, true, true, true, true] (ih _ _ hf)
      · refine xx_if_eq_f (tgt := 44) C (dd_X2_pairsApart.at 22 rfl) (by decide) hc ?_
        refine xx_iconst C (dd_X2_pairsApart.at 23 rfl) ic_1 ?_
        refine xx_goto (tgt := 45) C (dd_X2_pairsApart.at 24 rfl) (by decide) ?_
        refine xx_iadd C (dd_X2_pairsApart.at 26 rfl) ?_
        refine xx_istore_n (lv' := [_, _, _, _, _, _]) C (dd_X2_pairsApart.at 27 rfl) (lb_ rfl) rfl ?_
        refine xx_iinc (v := _ + (1 : Int32)) (lv' := [_, _, _, _, _, _]) C (dd_X2_pairsApart.at 28 rfl) (lb_ rfl) rfl (by rw [ic_1]) rfl ?_
        refine xx_goto (tgt := 19) C (dd_X2_pairsApart.at 29 rfl) (by decide) ?_
        exact xx_mask [true, true, true, true, true, true] (ih _ _ hf)
theorem ss_X2_pairsApart_5 {Z : zz_} (C : cx_ Z mt_X2_pairsApart 4) {r9 : Int32} {x0 : Nat} {x1 : Int32} {x2 : Int32} {h : hh_}  (Q : rq_ Z (some (.int r9)) h) (ho0 : isO_ x0) : ∀ (n9 : Nat) (x3 : Int32) (x4 : Int32), ff_X2_pairsApart_5 x0 x1 x2 h n9 x3 x4 = some r9 → xx_ Z 5 [some (.ref x0), some (.int x1), some (.int x2), some (.int x3), some (.int x4), none] [] h := by
  intro n9
  induction n9 with
  | zero =>
    intro x3 x4 hf
    exact absurd hf (by rw [ff_X2_pairsApart_5]; exact nofun)
  | succ n9 ih =>
    intro x3 x4 hf
    rw [ff_X2_pairsApart_5] at hf
    refine xx_iload C (dd_X2_pairsApart.at 4 rfl) rfl ?_
    refine xx_aload_n C (dd_X2_pairsApart.at 5 rfl) rfl (isO_pos ho0) ?_
    refine xx_getR (j := 4) (r := (x0 + 23)) C ck_1 (lb_ rfl) lf_RX2_25 (sh_o ho0) rfl (rc_o4 ho0) (rf_o4 ho0) (dd_X2_pairsApart.at 6 rfl) ?_
    refine xx_iconst C (dd_X2_pairsApart.at 7 rfl) ic_0 ?_
    refine xx_iaload C (dd_X2_pairsApart.at 8 rfl) (sh_o23 ho0) (bi_ok (i := (0 : Int32)) (n := 3) rfl) ?_
    rcases ifo_ hf with ⟨hc, hf⟩ | ⟨hc, hf⟩
    · refine xx_icmp_ge_t (tgt := 59) C (dd_X2_pairsApart.at 9 rfl) (by decide) hc ?_
      refine xx_iload_n C (dd_X2_pairsApart.at 32 rfl) rfl ?_
      exact xx_ireturn C (rt_ip hf Q) (dd_X2_pairsApart.at 33 rfl) rfl
    · refine xx_icmp_ge_f (tgt := 59) C (dd_X2_pairsApart.at 9 rfl) (by decide) hc ?_
      refine xx_iconst C (dd_X2_pairsApart.at 10 rfl) ic_0 ?_
      refine xx_istore (lv' := [_, _, _, _, _, _]) C (dd_X2_pairsApart.at 11 rfl) (lb_ rfl) rfl ?_
      refine xx_mask [true, true, true, true, true, true] (ss_X2_pairsApart_19 C Q ho0 (fun u3 hf => ?_) _ _ _ hf)
      refine xx_iinc (v := _ + (1 : Int32)) (lv' := [_, _, _, _, _, _]) C (dd_X2_pairsApart.at 30 rfl) (lb_ rfl) rfl (by rw [ic_1]) rfl ?_
      refine xx_goto (tgt := 5) C (dd_X2_pairsApart.at 31 rfl) (by decide) ?_
      exact xx_mask [true, true, true, true, true, false] (ih _ _ hf)
theorem ss_X2_pairsApart {l : Launch} {G : gt_} {o : Nat} {a1 : Int32} {a2 : Int32} {h : hh_} {r9 : Int32} (ho : isO_ o) (hf : ff_X2_pairsApart o a1 a2 h = some r9) : ok_ l G 4 mt_X2_pairsApart [.ref o, .int a1, .int a2] h (some (.int r9)) h := by
  refine ok_of pn_RX2 (lb_ rfl) (fun Z _ _ C Q => ?_)
  show xx_ Z 0 [some (.ref o), some (.int a1), some (.int a2), none, none, none] [] h
  unfold ff_X2_pairsApart at hf
  refine xx_iconst C (dd_X2_pairsApart.at 0 rfl) ic_0 ?_
  refine xx_istore_n (lv' := [_, _, _, _, _, _]) C (dd_X2_pairsApart.at 1 rfl) (lb_ rfl) rfl ?_
  refine xx_iconst C (dd_X2_pairsApart.at 2 rfl) ic_0 ?_
  refine xx_istore (lv' := [_, _, _, _, _, _]) C (dd_X2_pairsApart.at 3 rfl) (lb_ rfl) rfl ?_
  exact xx_mask [true, true, true, true, true, false] (ss_X2_pairsApart_5 C Q ho _ _ _ hf)
theorem ss_X7_look_21 {Z : zz_} (C : cx_ Z mt_X7_look 5) {r9 : Int32} {h9 : hh_} {x1 : Int32} {h : hh_}  (Q : rq_ Z (some (.int r9)) h9) : ∀ (n9 : Nat) (x2 : Int32) (x3 : Int32) (x4 : Int32), ff_X7_look_21 x1 h n9 x2 x3 x4 = some (r9, h9) → xx_ Z 21 [some (.ref 1), some (.int x1), some (.int x2), some (.int x3), some (.int x4), none] [] h := by
  intro n9
  induction n9 with
  | zero =>
    intro x2 x3 x4 hf
    exact absurd hf (by rw [ff_X7_look_21]; exact nofun)
  | succ n9 ih =>
    intro x2 x3 x4 hf
    rw [ff_X7_look_21] at hf
    refine xx_iload C (dd_X7_look.at 14 rfl) rfl ?_
    refine xx_iconst C (dd_X7_look.at 15 rfl) ic_4 ?_
    rcases ifo_ hf with ⟨hc, hf⟩ | ⟨hc, hf⟩
    · refine xx_icmp_ge_t (tgt := 57) C (dd_X7_look.at 16 rfl) (by decide) hc ?_
      refine xx_aload_n C (dd_X7_look.at 32 rfl) rfl (Nat.le_of_ble_eq_true rfl) ?_
      refine xx_getR (j := 5) (r := 36) C ck_6 (lb_ rfl) lf_RX7_44 sh_k1 rfl (lb_ rfl) rfl (dd_X7_look.at 33 rfl) ?_
      refine xx_iload_n C (dd_X7_look.at 34 rfl) rfl ?_
      refine xx_callVi C (ss_X6_tell pe_) (dd_X7_look.at 35 rfl) ck_5 rfl sh_k36 kk_X6_tell ki_X6_tell lm_RX7_83 (lb_ rfl) rfl rfl (lb_ rfl) ?_
      refine xx_pop C (dd_X7_look.at 36 rfl) rfl ?_
      refine xx_iload_n C (dd_X7_look.at 37 rfl) rfl ?_
      exact xx_ireturn C (rt_iwp hf Q) (dd_X7_look.at 38 rfl) rfl
    · refine xx_icmp_ge_f (tgt := 57) C (dd_X7_look.at 16 rfl) (by decide) hc ?_
      refine xx_aload_n C (dd_X7_look.at 17 rfl) rfl (Nat.le_of_ble_eq_true rfl) ?_
      obtain ⟨g4, hf⟩ := gd_ok hf
      refine xx_getR (j := 7) (r := h.2.2.1) C ck_6 (lb_ rfl) lf_RX7_55 sh_k1 rfl (lb_ rfl) rfl (dd_X7_look.at 18 rfl) ?_
      refine xx_iload_n C (dd_X7_look.at 19 rfl) rfl ?_
      refine xx_iload C (dd_X7_look.at 20 rfl) rfl ?_
      obtain ⟨v5, e6, hf⟩ := bdo_ hf
      refine xx_callVi C (ss_X2_pairsApart (bo_ok g4) e6) (dd_X7_look.at 21 rfl) ck_1 rfl (sh_o (bo_ok g4)) kk_X2_pairsApart ki_X2_pairsApart lm_RX7_203 (lb_ rfl) rfl rfl (lb_ rfl) ?_
      refine xx_istore (lv' := [_, _, _, _, _, _]) C (dd_X7_look.at 22 rfl) (lb_ rfl) rfl ?_
      refine xx_iload C (dd_X7_look.at 23 rfl) rfl ?_
      refine xx_iload_n C (dd_X7_look.at 24 rfl) rfl ?_
      rcases ifo_ hf with ⟨hc, hf⟩ | ⟨hc, hf⟩
      · refine xx_icmp_le_t (tgt := 51) C (dd_X7_look.at 25 rfl) (by decide) hc ?_
        refine xx_iinc (v := _ + (1 : Int32)) (lv' := [_, _, _, _, _, _]) C (dd_X7_look.at 30 rfl) (lb_ rfl) rfl (by rw [ic_1]) rfl ?_
        refine xx_goto (tgt := 21) C (dd_X7_look.at 31 rfl) (by decide) ?_
        exact xx_mask [true, true, true, true, true, false] (ih _ _ _ hf)
      · refine xx_icmp_le_f (tgt := 51) C (dd_X7_look.at 25 rfl) (by decide) hc ?_
        refine xx_iload C (dd_X7_look.at 26 rfl) rfl ?_
        refine xx_istore_n (lv' := [_, _, _, _, _, _]) C (dd_X7_look.at 27 rfl) (lb_ rfl) rfl ?_
        refine xx_iload C (dd_X7_look.at 28 rfl) rfl ?_
        refine xx_istore_n (lv' := [_, _, _, _, _, _]) C (dd_X7_look.at 29 rfl) (lb_ rfl) rfl ?_
        refine xx_iinc (v := _ + (1 : Int32)) (lv' := [_, _, _, _, _, _]) C (dd_X7_look.at 30 rfl) (lb_ rfl) rfl (by rw [ic_1]) rfl ?_
        refine xx_goto (tgt := 21) C (dd_X7_look.at 31 rfl) (by decide) ?_
        exact xx_mask [true, true, true, true, true, false] (ih _ _ _ hf)
theorem ss_X7_look {l : Launch} {G : gt_} {a1 : Int32} {h : hh_} {r9 : Int32} {h9 : hh_}  (hf : ff_X7_look a1 h = some (r9, h9)) : ok_ l G 5 mt_X7_look [.ref 1, .int a1] h (some (.int r9)) h9 := by
  refine ok_of pn_RX7 (lb_ rfl) (fun Z _ _ C Q => ?_)
  show xx_ Z 0 [some (.ref 1), some (.int a1), none, none, none, none] [] h
  unfold ff_X7_look at hf
  refine xx_aload_n C (dd_X7_look.at 0 rfl) rfl (Nat.le_of_ble_eq_true rfl) ?_
  obtain ⟨g1, hf⟩ := gd_ok hf
  refine xx_getR (j := 7) (r := h.2.2.1) C ck_6 (lb_ rfl) lf_RX7_55 sh_k1 rfl (lb_ rfl) rfl (dd_X7_look.at 1 rfl) ?_
  refine xx_iconst C (dd_X7_look.at 2 rfl) ic_1 ?_
  refine xx_iload_n C (dd_X7_look.at 3 rfl) rfl ?_
  obtain ⟨v2, e3, hf⟩ := bdo_ hf
  refine xx_callVi C (ss_X2_has (bo_ok g1) e3) (dd_X7_look.at 4 rfl) ck_1 rfl (sh_o (bo_ok g1)) kk_X2_has ki_X2_has lm_RX7_119 (lb_ rfl) rfl rfl (lb_ rfl) ?_
  rcases ifo_ hf with ⟨hc, hf⟩ | ⟨hc, hf⟩
  · refine xx_if_ne_f (tgt := 14) C (dd_X7_look.at 5 rfl) (by decide) (not_not_intro hc) ?_
    refine xx_iconst C (dd_X7_look.at 6 rfl) ic_m1 ?_
    exact xx_ireturn C (rt_iwp hf Q) (dd_X7_look.at 7 rfl) rfl
  · refine xx_if_ne_t (tgt := 14) C (dd_X7_look.at 5 rfl) (by decide) hc ?_
    refine xx_iconst C (dd_X7_look.at 8 rfl) ic_0 ?_
    refine xx_istore_n (lv' := [_, _, _, _, _, _]) C (dd_X7_look.at 9 rfl) (lb_ rfl) rfl ?_
    refine xx_iconst C (dd_X7_look.at 10 rfl) ic_m1 ?_
    refine xx_istore_n (lv' := [_, _, _, _, _, _]) C (dd_X7_look.at 11 rfl) (lb_ rfl) rfl ?_
    refine xx_iconst C (dd_X7_look.at 12 rfl) ic_0 ?_
    refine xx_istore (lv' := [_, _, _, _, _, _]) C (dd_X7_look.at 13 rfl) (lb_ rfl) rfl ?_
    exact xx_mask [true, true, true, true, true, false] (ss_X7_look_21 C Q _ _ _ _ hf)
theorem ss_X2_maySeem_3 {Z : zz_} (C : cx_ Z mt_X2_maySeem 4) {r9 : Int32} {x0 : Nat} {x1 : Int32} {x2 : Int32} {x3 : Int32} {h : hh_}  (Q : rq_ Z (some (.int r9)) h) (ho0 : isO_ x0) : ∀ (n9 : Nat) (x4 : Int32), ff_X2_maySeem_3 x0 x1 x2 x3 h n9 x4 = some r9 → xx_ Z 3 [some (.ref x0), some (.int x1), some (.int x2), some (.int x3), some (.int x4)] [] h := by
  intro n9
  induction n9 with
  | zero =>
    intro x4 hf
    exact absurd hf (by rw [ff_X2_maySeem_3]; exact nofun)
  | succ n9 ih =>
    intro x4 hf
    rw [ff_X2_maySeem_3] at hf
    refine xx_iload C (dd_X2_maySeem.at 2 rfl) rfl ?_
    refine xx_iconst C (dd_X2_maySeem.at 3 rfl) ic_4 ?_
    rcases ifo_ hf with ⟨hc, hf⟩ | ⟨hc, hf⟩
    · refine xx_icmp_ge_t (tgt := 29) C (dd_X2_maySeem.at 4 rfl) (by decide) hc ?_
      refine xx_iconst C (dd_X2_maySeem.at 16 rfl) ic_1 ?_
      exact xx_zreturn C (rt_ip hf Q) (dd_X2_maySeem.at 17 rfl) rfl zb_1
    · refine xx_icmp_ge_f (tgt := 29) C (dd_X2_maySeem.at 4 rfl) (by decide) hc ?_
      refine xx_aload_n C (dd_X2_maySeem.at 5 rfl) rfl (isO_pos ho0) ?_
      refine xx_iload_n C (dd_X2_maySeem.at 6 rfl) rfl ?_
      refine xx_iload_n C (dd_X2_maySeem.at 7 rfl) rfl ?_
      refine xx_iload_n C (dd_X2_maySeem.at 8 rfl) rfl ?_
      refine xx_iload C (dd_X2_maySeem.at 9 rfl) rfl ?_
      obtain ⟨v1, e2, hf⟩ := bdo_ hf
      refine xx_callVi C (ss_X2_isApart ho0 e2) (dd_X2_maySeem.at 10 rfl) ck_1 rfl (sh_o ho0) kk_X2_isApart ki_X2_isApart lm_RX2_105 (lb_ rfl) rfl rfl (lb_ rfl) ?_
      rcases ifo_ hf with ⟨hc, hf⟩ | ⟨hc, hf⟩
      · refine xx_if_eq_t (tgt := 23) C (dd_X2_maySeem.at 11 rfl) (by decide) hc ?_
        refine xx_iinc (v := _ + (1 : Int32)) (lv' := [_, _, _, _, _]) C (dd_X2_maySeem.at 14 rfl) (lb_ rfl) rfl (by rw [ic_1]) rfl ?_
        refine xx_goto (tgt := 3) C (dd_X2_maySeem.at 15 rfl) (by decide) ?_
        exact xx_mask [true, true, true, true, true] (ih _ hf)
      · refine xx_if_eq_f (tgt := 23) C (dd_X2_maySeem.at 11 rfl) (by decide) hc ?_
        refine xx_iconst C (dd_X2_maySeem.at 12 rfl) ic_0 ?_
        exact xx_zreturn C (rt_ip hf Q) (dd_X2_maySeem.at 13 rfl) rfl zb_0
theorem ss_X2_maySeem {l : Launch} {G : gt_} {o : Nat} {a1 : Int32} {a2 : Int32} {a3 : Int32} {h : hh_} {r9 : Int32} (ho : isO_ o) (hf : ff_X2_maySeem o a1 a2 a3 h = some r9) : ok_ l G 4 mt_X2_maySeem [.ref o, .int a1, .int a2, .int a3] h (some (.int r9)) h := by
  refine ok_of pn_RX2 (lb_ rfl) (fun Z _ _ C Q => ?_)
  show xx_ Z 0 [some (.ref o), some (.int a1), some (.int a2), some (.int a3), none] [] h
  unfold ff_X2_maySeem at hf
  refine xx_iconst C (dd_X2_maySeem.at 0 rfl) ic_0 ?_
  refine xx_istore (lv' := [_, _, _, _, _]) C (dd_X2_maySeem.at 1 rfl) (lb_ rfl) rfl ?_
  exact xx_mask [true, true, true, true, true] (ss_X2_maySeem_3 C Q ho _ _ hf)
theorem ss_X7_alike_31 {Z : zz_} (C : cx_ Z mt_X7_alike 5) {r9 : Int32} {x1 : Int32} {x2 : Int32} {h : hh_}  (Q : rq_ Z (some (.int r9)) h) : ∀ (n9 : Nat) (x3 : Int32) (x4 : Int32), ff_X7_alike_31 x1 x2 h n9 x3 x4 = some r9 → xx_ Z 31 [some (.ref 1), some (.int x1), some (.int x2), some (.int x3), some (.int x4)] [] h := by
  intro n9
  induction n9 with
  | zero =>
    intro x3 x4 hf
    exact absurd hf (by rw [ff_X7_alike_31]; exact nofun)
  | succ n9 ih =>
    intro x3 x4 hf
    rw [ff_X7_alike_31] at hf
    refine xx_iload C (dd_X7_alike.at 18 rfl) rfl ?_
    refine xx_aload_n C (dd_X7_alike.at 19 rfl) rfl (Nat.le_of_ble_eq_true rfl) ?_
    obtain ⟨g6, hf⟩ := gd_ok hf
    refine xx_getR (j := 7) (r := h.2.2.1) C ck_6 (lb_ rfl) lf_RX7_55 sh_k1 rfl (lb_ rfl) rfl (dd_X7_alike.at 20 rfl) ?_
    refine xx_getR (j := 4) (r := (h.2.2.1 + 23)) C ck_1 (lb_ rfl) lf_RX7_118 (sh_o (bo_ok g6)) rfl (rc_o4 (bo_ok g6)) (rf_o4 (bo_ok g6)) (dd_X7_alike.at 21 rfl) ?_
    refine xx_iconst C (dd_X7_alike.at 22 rfl) ic_0 ?_
    refine xx_iaload C (dd_X7_alike.at 23 rfl) (sh_o23 (bo_ok g6)) (bi_ok (i := (0 : Int32)) (n := 3) rfl) ?_
    rcases ifo_ hf with ⟨hc, hf⟩ | ⟨hc, hf⟩
    · refine xx_icmp_ge_t (tgt := 72) C (dd_X7_alike.at 24 rfl) (by decide) hc ?_
      refine xx_iload_n C (dd_X7_alike.at 40 rfl) rfl ?_
      exact xx_ireturn C (rt_ip hf Q) (dd_X7_alike.at 41 rfl) rfl
    · refine xx_icmp_ge_f (tgt := 72) C (dd_X7_alike.at 24 rfl) (by decide) hc ?_
      refine xx_aload_n C (dd_X7_alike.at 25 rfl) rfl (Nat.le_of_ble_eq_true rfl) ?_
      refine xx_getR (j := 7) (r := h.2.2.1) C ck_6 (lb_ rfl) lf_RX7_55 sh_k1 rfl (lb_ rfl) rfl (dd_X7_alike.at 26 rfl) ?_
      refine xx_iload_n C (dd_X7_alike.at 27 rfl) rfl ?_
      refine xx_iload_n C (dd_X7_alike.at 28 rfl) rfl ?_
      refine xx_iload C (dd_X7_alike.at 29 rfl) rfl ?_
      obtain ⟨v7, e8, hf⟩ := bdo_ hf
      refine xx_callVi C (ss_X2_maySeem (bo_ok g6) e8) (dd_X7_alike.at 30 rfl) ck_1 rfl (sh_o (bo_ok g6)) kk_X2_maySeem ki_X2_maySeem lm_RX7_206 (lb_ rfl) rfl rfl (lb_ rfl) ?_
      rcases ifo_ hf with ⟨hc, hf⟩ | ⟨hc, hf⟩
      · refine xx_if_eq_t (tgt := 66) C (dd_X7_alike.at 31 rfl) (by decide) hc ?_
        refine xx_iinc (v := _ + (1 : Int32)) (lv' := [_, _, _, _, _]) C (dd_X7_alike.at 38 rfl) (lb_ rfl) rfl (by rw [ic_1]) rfl ?_
        refine xx_goto (tgt := 31) C (dd_X7_alike.at 39 rfl) (by decide) ?_
        exact xx_mask [true, true, true, true, true] (ih _ _ hf)
      · refine xx_if_eq_f (tgt := 66) C (dd_X7_alike.at 31 rfl) (by decide) hc ?_
        refine xx_iload_n C (dd_X7_alike.at 32 rfl) rfl ?_
        refine xx_iconst C (dd_X7_alike.at 33 rfl) ic_1 ?_
        refine xx_iload C (dd_X7_alike.at 34 rfl) rfl ?_
        refine xx_ishl C (dd_X7_alike.at 35 rfl) ?_
        refine xx_ior C (dd_X7_alike.at 36 rfl) ?_
        refine xx_istore_n (lv' := [_, _, _, _, _]) C (dd_X7_alike.at 37 rfl) (lb_ rfl) rfl ?_
        refine xx_iinc (v := _ + (1 : Int32)) (lv' := [_, _, _, _, _]) C (dd_X7_alike.at 38 rfl) (lb_ rfl) rfl (by rw [ic_1]) rfl ?_
        refine xx_goto (tgt := 31) C (dd_X7_alike.at 39 rfl) (by decide) ?_
        exact xx_mask [true, true, true, true, true] (ih _ _ hf)
theorem ss_X7_alike {l : Launch} {G : gt_} {a1 : Int32} {a2 : Int32} {h : hh_} {r9 : Int32}  (hf : ff_X7_alike a1 a2 h = some r9) : ok_ l G 5 mt_X7_alike [.ref 1, .int a1, .int a2] h (some (.int r9)) h := by
  refine ok_of pn_RX7 (lb_ rfl) (fun Z _ _ C Q => ?_)
  show xx_ Z 0 [some (.ref 1), some (.int a1), some (.int a2), none, none] [] h
  unfold ff_X7_alike at hf
  refine xx_aload_n C (dd_X7_alike.at 0 rfl) rfl (Nat.le_of_ble_eq_true rfl) ?_
  obtain ⟨g1, hf⟩ := gd_ok hf
  refine xx_getR (j := 7) (r := h.2.2.1) C ck_6 (lb_ rfl) lf_RX7_55 sh_k1 rfl (lb_ rfl) rfl (dd_X7_alike.at 1 rfl) ?_
  refine xx_iconst C (dd_X7_alike.at 2 rfl) ic_1 ?_
  refine xx_iload_n C (dd_X7_alike.at 3 rfl) rfl ?_
  obtain ⟨v2, e3, hf⟩ := bdo_ hf
  refine xx_callVi C (ss_X2_has (bo_ok g1) e3) (dd_X7_alike.at 4 rfl) ck_1 rfl (sh_o (bo_ok g1)) kk_X2_has ki_X2_has lm_RX7_119 (lb_ rfl) rfl rfl (lb_ rfl) ?_
  rcases ifo_ hf with ⟨hc, hf⟩ | ⟨hc, hf⟩
  · refine xx_if_eq_t (tgt := 24) C (dd_X7_alike.at 5 rfl) (by decide) hc ?_
    refine xx_iconst C (dd_X7_alike.at 12 rfl) ic_m1 ?_
    exact xx_ireturn C (rt_ip hf Q) (dd_X7_alike.at 13 rfl) rfl
  · refine xx_if_eq_f (tgt := 24) C (dd_X7_alike.at 5 rfl) (by decide) hc ?_
    refine xx_aload_n C (dd_X7_alike.at 6 rfl) rfl (Nat.le_of_ble_eq_true rfl) ?_
    refine xx_getR (j := 7) (r := h.2.2.1) C ck_6 (lb_ rfl) lf_RX7_55 sh_k1 rfl (lb_ rfl) rfl (dd_X7_alike.at 7 rfl) ?_
    refine xx_iconst C (dd_X7_alike.at 8 rfl) ic_0 ?_
    refine xx_iload_n C (dd_X7_alike.at 9 rfl) rfl ?_
    obtain ⟨v4, e5, hf⟩ := bdo_ hf
    refine xx_callVi C (ss_X2_has (bo_ok g1) e5) (dd_X7_alike.at 10 rfl) ck_1 rfl (sh_o (bo_ok g1)) kk_X2_has ki_X2_has lm_RX7_119 (lb_ rfl) rfl rfl (lb_ rfl) ?_
    rcases ifo_ hf with ⟨hc, hf⟩ | ⟨hc, hf⟩
    · refine xx_if_ne_f (tgt := 26) C (dd_X7_alike.at 11 rfl) (by decide) (not_not_intro hc) ?_
      refine xx_iconst C (dd_X7_alike.at 12 rfl) ic_m1 ?_
      exact xx_ireturn C (rt_ip hf Q) (dd_X7_alike.at 13 rfl) rfl
    · refine xx_if_ne_t (tgt := 26) C (dd_X7_alike.at 11 rfl) (by decide) hc ?_
      refine xx_iconst C (dd_X7_alike.at 14 rfl) ic_0 ?_
      refine xx_istore_n (lv' := [_, _, _, _, _]) C (dd_X7_alike.at 15 rfl) (lb_ rfl) rfl ?_
      refine xx_iconst C (dd_X7_alike.at 16 rfl) ic_0 ?_
      refine xx_istore (lv' := [_, _, _, _, _]) C (dd_X7_alike.at 17 rfl) (lb_ rfl) rfl ?_
      exact xx_mask [true, true, true, true, true] (ss_X7_alike_31 C Q _ _ _ hf)
theorem ss_X2_isSure_26 {Z : zz_} (C : cx_ Z mt_X2_isSure 3) {r9 : Int32} {x0 : Nat} {x1 : Int32} {x2 : Int32} {x3 : Int32} {x4 : Int32} {x5 : Int32} {y1 : Int32} {y2 : Int32} {y3 : Int32} {y4 : Int32} {h : hh_} {K26_3 : Int32 → Option (Int32)} (Q : rq_ Z (some (.int r9)) h) (ho0 : isO_ x0) (hK26_3 : ∀ (z5 : Int32), K26_3 z5 = some r9 → xx_ Z 3 [some (.ref x0), some (.int x1), some (.int x2), some (.int x3), some (.int x4), some (.int z5)] [] h) (hf : ff_X2_isSure_26 x0 x1 x2 x3 x4 x5 y1 y2 y3 y4 h K26_3 = some r9) : xx_ Z 26 [some (.ref x0), some (.int x1), some (.int x2), some (.int x3), some (.int x4), some (.int x5)] [.int y4, .int y3, .int y2, .int y1, .ref x0] h := by
  unfold ff_X2_isSure_26 at hf
  obtain ⟨v1, e2, hf⟩ := bdo_ hf
  refine xx_callVi C (ss_X2_least ho0 e2) (dd_X2_isSure.at 15 rfl) ck_1 rfl (sh_o ho0) kk_X2_least ki_X2_least lm_RX2_95 (lb_ rfl) rfl rfl (lb_ rfl) ?_
  refine xx_aload_n C (dd_X2_isSure.at 16 rfl) rfl (isO_pos ho0) ?_
  refine xx_getR (j := 3) (r := (x0 + 18)) C ck_1 (lb_ rfl) lf_RX2_22 (sh_o ho0) rfl (rc_o3 ho0) (rf_o3 ho0) (dd_X2_isSure.at 17 rfl) ?_
  refine xx_iload_n C (dd_X2_isSure.at 18 rfl) rfl ?_
  obtain ⟨g3, hf⟩ := gd_ok hf
  refine xx_aaload (r := (x0 + 19 + Int32.toNatClampNeg x3)) C (dd_X2_isSure.at 19 rfl) (sh_o18 ho0) (bi_ok g3) (sh_lt (sh_oe18 ho0 (bi_ok g3))) rfl ?_
  refine xx_iload C (dd_X2_isSure.at 20 rfl) rfl ?_
  obtain ⟨g4, hf⟩ := gd_ok hf
  refine xx_iaload C (dd_X2_isSure.at 21 rfl) (sh_oe18 ho0 (bi_ok g3)) (bi_ok g4) ?_
  rcases ifo_ hf with ⟨hc, hf⟩ | ⟨hc, hf⟩
  · refine xx_icmp_ge_t (tgt := 43) C (dd_X2_isSure.at 22 rfl) (by decide) hc ?_
    refine xx_iinc (v := _ + (1 : Int32)) (lv' := [_, _, _, _, _, _]) C (dd_X2_isSure.at 25 rfl) (lb_ rfl) rfl (by rw [ic_1]) rfl ?_
    refine xx_goto (tgt := 3) C (dd_X2_isSure.at 26 rfl) (by decide) ?_
    exact xx_mask [true, true, true, true, true, true] (hK26_3 _ hf)
  · refine xx_icmp_ge_f (tgt := 43) C (dd_X2_isSure.at 22 rfl) (by decide) hc ?_
    refine xx_iconst C (dd_X2_isSure.at 23 rfl) ic_0 ?_
    exact xx_zreturn C (rt_ip hf Q) (dd_X2_isSure.at 24 rfl) rfl zb_0
theorem ss_X2_isSure_3 {Z : zz_} (C : cx_ Z mt_X2_isSure 3) {r9 : Int32} {x0 : Nat} {x1 : Int32} {x2 : Int32} {x3 : Int32} {x4 : Int32} {h : hh_}  (Q : rq_ Z (some (.int r9)) h) (ho0 : isO_ x0) : ∀ (n9 : Nat) (x5 : Int32), ff_X2_isSure_3 x0 x1 x2 x3 x4 h n9 x5 = some r9 → xx_ Z 3 [some (.ref x0), some (.int x1), some (.int x2), some (.int x3), some (.int x4), some (.int x5)] [] h := by
  intro n9
  induction n9 with
  | zero =>
    intro x5 hf
    exact absurd hf (by rw [ff_X2_isSure_3]; exact nofun)
  | succ n9 ih =>
    intro x5 hf
    rw [ff_X2_isSure_3] at hf
    refine xx_iload C (dd_X2_isSure.at 2 rfl) rfl ?_
    refine xx_iconst C (dd_X2_isSure.at 3 rfl) ic_4 ?_
    rcases ifo_ hf with ⟨hc, hf⟩ | ⟨hc, hf⟩
    · refine xx_icmp_ge_t (tgt := 49) C (dd_X2_isSure.at 4 rfl) (by decide) hc ?_
      refine xx_iconst C (dd_X2_isSure.at 27 rfl) ic_1 ?_
      exact xx_zreturn C (rt_ip hf Q) (dd_X2_isSure.at 28 rfl) rfl zb_1
    · refine xx_icmp_ge_f (tgt := 49) C (dd_X2_isSure.at 4 rfl) (by decide) hc ?_
      refine xx_aload_n C (dd_X2_isSure.at 5 rfl) rfl (isO_pos ho0) ?_
      refine xx_iload_n C (dd_X2_isSure.at 6 rfl) rfl ?_
      refine xx_iload_n C (dd_X2_isSure.at 7 rfl) rfl ?_
      refine xx_iload C (dd_X2_isSure.at 8 rfl) rfl ?_
      refine xx_iload C (dd_X2_isSure.at 9 rfl) rfl ?_
      refine xx_iload C (dd_X2_isSure.at 10 rfl) rfl ?_
      rcases ifo_ hf with ⟨hc, hf⟩ | ⟨hc, hf⟩
      · refine xx_icmp_ne_f (tgt := 25) C (dd_X2_isSure.at 11 rfl) (by decide) (not_not_intro hc) ?_
        refine xx_iconst C (dd_X2_isSure.at 12 rfl) ic_1 ?_
        refine xx_goto (tgt := 26) C (dd_X2_isSure.at 13 rfl) (by decide) ?_
        exact xx_mask [true, true, true, true, true, true] (ss_X2_isSure_26 C Q ho0 (fun _ hf => ih _ hf) hf)
      · refine xx_icmp_ne_t (tgt := 25) C (dd_X2_isSure.at 11 rfl) (by decide) hc ?_
        refine xx_iconst C (dd_X2_isSure.at 14 rfl) ic_0 ?_
        exact xx_mask [true, true, true, true, true, true] (ss_X2_isSure_26 C Q ho0 (fun _ hf => ih _ hf) hf)
theorem ss_X2_isSure {l : Launch} {G : gt_} {o : Nat} {a1 : Int32} {a2 : Int32} {a3 : Int32} {a4 : Int32} {h : hh_} {r9 : Int32} (ho : isO_ o) (hf : ff_X2_isSure o a1 a2 a3 a4 h = some r9) : ok_ l G 3 mt_X2_isSure [.ref o, .int a1, .int a2, .int a3, .int a4] h (some (.int r9)) h := by
  refine ok_of pn_RX2 (lb_ rfl) (fun Z _ _ C Q => ?_)
  show xx_ Z 0 [some (.ref o), some (.int a1), some (.int a2), some (.int a3), some (.int a4), none] [] h
  unfold ff_X2_isSure at hf
  refine xx_iconst C (dd_X2_isSure.at 0 rfl) ic_0 ?_
  refine xx_istore (lv' := [_, _, _, _, _, _]) C (dd_X2_isSure.at 1 rfl) (lb_ rfl) rfl ?_
  exact xx_mask [true, true, true, true, true, true] (ss_X2_isSure_3 C Q ho _ _ hf)
theorem ss_X2_isLucky_3 {Z : zz_} (C : cx_ Z mt_X2_isLucky 3) {r9 : Int32} {x0 : Nat} {x1 : Int32} {x2 : Int32} {x3 : Int32} {h : hh_}  (Q : rq_ Z (some (.int r9)) h) (ho0 : isO_ x0) : ∀ (n9 : Nat) (x4 : Int32), ff_X2_isLucky_3 x0 x1 x2 x3 h n9 x4 = some r9 → xx_ Z 3 [some (.ref x0), some (.int x1), some (.int x2), some (.int x3), some (.int x4)] [] h := by
  intro n9
  induction n9 with
  | zero =>
    intro x4 hf
    exact absurd hf (by rw [ff_X2_isLucky_3]; exact nofun)
  | succ n9 ih =>
    intro x4 hf
    rw [ff_X2_isLucky_3] at hf
    refine xx_iload C (dd_X2_isLucky.at 2 rfl) rfl ?_
    refine xx_iconst C (dd_X2_isLucky.at 3 rfl) ic_4 ?_
    rcases ifo_ hf with ⟨hc, hf⟩ | ⟨hc, hf⟩
    · refine xx_icmp_ge_t (tgt := 38) C (dd_X2_isLucky.at 4 rfl) (by decide) hc ?_
      refine xx_iconst C (dd_X2_isLucky.at 22 rfl) ic_1 ?_
      exact xx_zreturn C (rt_ip hf Q) (dd_X2_isLucky.at 23 rfl) rfl zb_1
    · refine xx_icmp_ge_f (tgt := 38) C (dd_X2_isLucky.at 4 rfl) (by decide) hc ?_
      refine xx_aload_n C (dd_X2_isLucky.at 5 rfl) rfl (isO_pos ho0) ?_
      refine xx_iload_n C (dd_X2_isLucky.at 6 rfl) rfl ?_
      refine xx_iload_n C (dd_X2_isLucky.at 7 rfl) rfl ?_
      refine xx_iload C (dd_X2_isLucky.at 8 rfl) rfl ?_
      refine xx_iconst C (dd_X2_isLucky.at 9 rfl) ic_0 ?_
      obtain ⟨v1, e2, hf⟩ := bdo_ hf
      refine xx_callVi C (ss_X2_most ho0 e2) (dd_X2_isLucky.at 10 rfl) ck_1 rfl (sh_o ho0) kk_X2_most ki_X2_most lm_RX2_92 (lb_ rfl) rfl rfl (lb_ rfl) ?_
      refine xx_aload_n C (dd_X2_isLucky.at 11 rfl) rfl (isO_pos ho0) ?_
      refine xx_getR (j := 3) (r := (x0 + 18)) C ck_1 (lb_ rfl) lf_RX2_22 (sh_o ho0) rfl (rc_o3 ho0) (rf_o3 ho0) (dd_X2_isLucky.at 12 rfl) ?_
      refine xx_iload_n C (dd_X2_isLucky.at 13 rfl) rfl ?_
      obtain ⟨g3, hf⟩ := gd_ok hf
      refine xx_aaload (r := (x0 + 19 + Int32.toNatClampNeg x3)) C (dd_X2_isLucky.at 14 rfl) (sh_o18 ho0) (bi_ok g3) (sh_lt (sh_oe18 ho0 (bi_ok g3))) rfl ?_
      refine xx_iload C (dd_X2_isLucky.at 15 rfl) rfl ?_
      obtain ⟨g4, hf⟩ := gd_ok hf
      refine xx_iaload C (dd_X2_isLucky.at 16 rfl) (sh_oe18 ho0 (bi_ok g3)) (bi_ok g4) ?_
      rcases ifo_ hf with ⟨hc, hf⟩ | ⟨hc, hf⟩
      · refine xx_icmp_ge_t (tgt := 32) C (dd_X2_isLucky.at 17 rfl) (by decide) hc ?_
        refine xx_iinc (v := _ + (1 : Int32)) (lv' := [_, _, _, _, _]) C (dd_X2_isLucky.at 20 rfl) (lb_ rfl) rfl (by rw [ic_1]) rfl ?_
        refine xx_goto (tgt := 3) C (dd_X2_isLucky.at 21 rfl) (by decide) ?_
        exact xx_mask [true, true, true, true, true] (ih _ hf)
      · refine xx_icmp_ge_f (tgt := 32) C (dd_X2_isLucky.at 17 rfl) (by decide) hc ?_
        refine xx_iconst C (dd_X2_isLucky.at 18 rfl) ic_0 ?_
        exact xx_zreturn C (rt_ip hf Q) (dd_X2_isLucky.at 19 rfl) rfl zb_0
theorem ss_X2_isLucky {l : Launch} {G : gt_} {o : Nat} {a1 : Int32} {a2 : Int32} {a3 : Int32} {h : hh_} {r9 : Int32} (ho : isO_ o) (hf : ff_X2_isLucky o a1 a2 a3 h = some r9) : ok_ l G 3 mt_X2_isLucky [.ref o, .int a1, .int a2, .int a3] h (some (.int r9)) h := by
  refine ok_of pn_RX2 (lb_ rfl) (fun Z _ _ C Q => ?_)
  show xx_ Z 0 [some (.ref o), some (.int a1), some (.int a2), some (.int a3), none] [] h
  unfold ff_X2_isLucky at hf
  refine xx_iconst C (dd_X2_isLucky.at 0 rfl) ic_0 ?_
  refine xx_istore (lv' := [_, _, _, _, _]) C (dd_X2_isLucky.at 1 rfl) (lb_ rfl) rfl ?_
  exact xx_mask [true, true, true, true, true] (ss_X2_isLucky_3 C Q ho _ _ hf)
theorem ss_X7_suits {l : Launch} {G : gt_} {a1 : Int32} {a2 : Int32} {a3 : Int32} {h : hh_} {r9 : Int32}  (hf : ff_X7_suits a1 a2 a3 h = some r9) : ok_ l G 4 mt_X7_suits [.ref 1, .int a1, .int a2, .int a3] h (some (.int r9)) h := by
  refine ok_of pn_RX7 (lb_ rfl) (fun Z _ _ C Q => ?_)
  show xx_ Z 0 [some (.ref 1), some (.int a1), some (.int a2), some (.int a3)] [] h
  unfold ff_X7_suits at hf
  refine xx_aload_n C (dd_X7_suits.at 0 rfl) rfl (Nat.le_of_ble_eq_true rfl) ?_
  obtain ⟨g1, hf⟩ := gd_ok hf
  refine xx_getR (j := 7) (r := h.2.2.1) C ck_6 (lb_ rfl) lf_RX7_55 sh_k1 rfl (lb_ rfl) rfl (dd_X7_suits.at 1 rfl) ?_
  refine xx_iconst C (dd_X7_suits.at 2 rfl) ic_1 ?_
  refine xx_iload_n C (dd_X7_suits.at 3 rfl) rfl ?_
  obtain ⟨v2, e3, hf⟩ := bdo_ hf
  refine xx_callVi C (ss_X2_has (bo_ok g1) e3) (dd_X7_suits.at 4 rfl) ck_1 rfl (sh_o (bo_ok g1)) kk_X2_has ki_X2_has lm_RX7_119 (lb_ rfl) rfl rfl (lb_ rfl) ?_
  rcases ifo_ hf with ⟨hc, hf⟩ | ⟨hc, hf⟩
  · refine xx_if_eq_t (tgt := 36) C (dd_X7_suits.at 5 rfl) (by decide) hc ?_
    refine xx_iconst C (dd_X7_suits.at 18 rfl) ic_m1 ?_
    exact xx_ireturn C (rt_ip hf Q) (dd_X7_suits.at 19 rfl) rfl
  · refine xx_if_eq_f (tgt := 36) C (dd_X7_suits.at 5 rfl) (by decide) hc ?_
    refine xx_aload_n C (dd_X7_suits.at 6 rfl) rfl (Nat.le_of_ble_eq_true rfl) ?_
    refine xx_getR (j := 7) (r := h.2.2.1) C ck_6 (lb_ rfl) lf_RX7_55 sh_k1 rfl (lb_ rfl) rfl (dd_X7_suits.at 7 rfl) ?_
    refine xx_iconst C (dd_X7_suits.at 8 rfl) ic_0 ?_
    refine xx_iload_n C (dd_X7_suits.at 9 rfl) rfl ?_
    obtain ⟨v4, e5, hf⟩ := bdo_ hf
    refine xx_callVi C (ss_X2_has (bo_ok g1) e5) (dd_X7_suits.at 10 rfl) ck_1 rfl (sh_o (bo_ok g1)) kk_X2_has ki_X2_has lm_RX7_119 (lb_ rfl) rfl rfl (lb_ rfl) ?_
    rcases ifo_ hf with ⟨hc, hf⟩ | ⟨hc, hf⟩
    · refine xx_if_eq_t (tgt := 36) C (dd_X7_suits.at 11 rfl) (by decide) hc ?_
      refine xx_iconst C (dd_X7_suits.at 18 rfl) ic_m1 ?_
      exact xx_ireturn C (rt_ip hf Q) (dd_X7_suits.at 19 rfl) rfl
    · refine xx_if_eq_f (tgt := 36) C (dd_X7_suits.at 11 rfl) (by decide) hc ?_
      refine xx_aload_n C (dd_X7_suits.at 12 rfl) rfl (Nat.le_of_ble_eq_true rfl) ?_
      refine xx_getR (j := 7) (r := h.2.2.1) C ck_6 (lb_ rfl) lf_RX7_55 sh_k1 rfl (lb_ rfl) rfl (dd_X7_suits.at 13 rfl) ?_
      refine xx_iconst C (dd_X7_suits.at 14 rfl) ic_2 ?_
      refine xx_iload_n C (dd_X7_suits.at 15 rfl) rfl ?_
      obtain ⟨v6, e7, hf⟩ := bdo_ hf
      refine xx_callVi C (ss_X2_has (bo_ok g1) e7) (dd_X7_suits.at 16 rfl) ck_1 rfl (sh_o (bo_ok g1)) kk_X2_has ki_X2_has lm_RX7_119 (lb_ rfl) rfl rfl (lb_ rfl) ?_
      rcases ifo_ hf with ⟨hc, hf⟩ | ⟨hc, hf⟩
      · refine xx_if_ne_f (tgt := 38) C (dd_X7_suits.at 17 rfl) (by decide) (not_not_intro hc) ?_
        refine xx_iconst C (dd_X7_suits.at 18 rfl) ic_m1 ?_
        exact xx_ireturn C (rt_ip hf Q) (dd_X7_suits.at 19 rfl) rfl
      · refine xx_if_ne_t (tgt := 38) C (dd_X7_suits.at 17 rfl) (by decide) hc ?_
        refine xx_aload_n C (dd_X7_suits.at 20 rfl) rfl (Nat.le_of_ble_eq_true rfl) ?_
        refine xx_getR (j := 7) (r := h.2.2.1) C ck_6 (lb_ rfl) lf_RX7_55 sh_k1 rfl (lb_ rfl) rfl (dd_X7_suits.at 21 rfl) ?_
        refine xx_iload_n C (dd_X7_suits.at 22 rfl) rfl ?_
        refine xx_iload_n C (dd_X7_suits.at 23 rfl) rfl ?_
        refine xx_iload_n C (dd_X7_suits.at 24 rfl) rfl ?_
        refine xx_bipush C (dd_X7_suits.at 25 rfl) bq_m9 ?_
        obtain ⟨v8, e9, hf⟩ := bdo_ hf
        refine xx_callVi C (ss_X2_isSure (bo_ok g1) e9) (dd_X7_suits.at 26 rfl) ck_1 rfl (sh_o (bo_ok g1)) kk_X2_isSure ki_X2_isSure lm_RX7_209 (lb_ rfl) rfl rfl (lb_ rfl) ?_
        rcases ifo_ hf with ⟨hc, hf⟩ | ⟨hc, hf⟩
        · refine xx_if_eq_t (tgt := 55) C (dd_X7_suits.at 27 rfl) (by decide) hc ?_
          refine xx_aload_n C (dd_X7_suits.at 30 rfl) rfl (Nat.le_of_ble_eq_true rfl) ?_
          refine xx_getR (j := 7) (r := h.2.2.1) C ck_6 (lb_ rfl) lf_RX7_55 sh_k1 rfl (lb_ rfl) rfl (dd_X7_suits.at 31 rfl) ?_
          refine xx_iload_n C (dd_X7_suits.at 32 rfl) rfl ?_
          refine xx_iload_n C (dd_X7_suits.at 33 rfl) rfl ?_
          refine xx_iload_n C (dd_X7_suits.at 34 rfl) rfl ?_
          obtain ⟨v10, e11, hf⟩ := bdo_ hf
          refine xx_callVi C (ss_X2_isLucky (bo_ok g1) e11) (dd_X7_suits.at 35 rfl) ck_1 rfl (sh_o (bo_ok g1)) kk_X2_isLucky ki_X2_isLucky lm_RX7_213 (lb_ rfl) rfl rfl (lb_ rfl) ?_
          rcases ifo_ hf with ⟨hc, hf⟩ | ⟨hc, hf⟩
          · refine xx_if_eq_t (tgt := 72) C (dd_X7_suits.at 36 rfl) (by decide) hc ?_
            refine xx_iconst C (dd_X7_suits.at 39 rfl) ic_0 ?_
            exact xx_ireturn C (rt_ip hf Q) (dd_X7_suits.at 40 rfl) rfl
          · refine xx_if_eq_f (tgt := 72) C (dd_X7_suits.at 36 rfl) (by decide) hc ?_
            refine xx_iconst C (dd_X7_suits.at 37 rfl) ic_1 ?_
            refine xx_goto (tgt := 73) C (dd_X7_suits.at 38 rfl) (by decide) ?_
            exact xx_ireturn C (rt_ip hf Q) (dd_X7_suits.at 40 rfl) rfl
        · refine xx_if_eq_f (tgt := 55) C (dd_X7_suits.at 27 rfl) (by decide) hc ?_
          refine xx_iconst C (dd_X7_suits.at 28 rfl) ic_2 ?_
          exact xx_ireturn C (rt_ip hf Q) (dd_X7_suits.at 29 rfl) rfl
theorem ss_X7_luck_47 {Z : zz_} (C : cx_ Z mt_X7_luck 4) {r9 : Int32} {h9 : hh_} {x1 : Int32} {x2 : Int32} {x3 : Int32} {h : hh_}  (Q : rq_ Z (some (.int r9)) h9) : ∀ (n9 : Nat) (x4 : Int64) (x6 : Int64) (x8 : Int32), ff_X7_luck_47 x1 x2 x3 h n9 x4 x6 x8 = some (r9, h9) → xx_ Z 47 [some (.ref 1), some (.int x1), some (.int x2), some (.int x3), some (.long x4), none, some (.long x6), none, some (.int x8), none, none] [] h := by
  intro n9
  induction n9 with
  | zero =>
    intro x4 x6 x8 hf
    exact absurd hf (by rw [ff_X7_luck_47]; exact nofun)
  | succ n9 ih =>
    intro x4 x6 x8 hf
    rw [ff_X7_luck_47] at hf
    refine xx_iload C (dd_X7_luck.at 26 rfl) rfl ?_
    refine xx_iconst C (dd_X7_luck.at 27 rfl) ic_4 ?_
    rcases ifo_ hf with ⟨hc, hf⟩ | ⟨hc, hf⟩
    · refine xx_icmp_ge_t (tgt := 136) C (dd_X7_luck.at 28 rfl) (by decide) hc ?_
      refine xx_aload_n C (dd_X7_luck.at 76 rfl) rfl (Nat.le_of_ble_eq_true rfl) ?_
      refine xx_getR (j := 5) (r := 36) C ck_6 (lb_ rfl) lf_RX7_44 sh_k1 rfl (lb_ rfl) rfl (dd_X7_luck.at 77 rfl) ?_
      refine xx_lload C (dd_X7_luck.at 78 rfl) rfl ?_
      refine xx_lload C (dd_X7_luck.at 79 rfl) rfl ?_
      obtain ⟨v8, e9, hf⟩ := bdo_ hf
      refine xx_callVi C (ss_X6_tellFraction (pz_ e9)) (dd_X7_luck.at 80 rfl) ck_5 rfl sh_k36 kk_X6_tellFraction ki_X6_tellFraction lm_RX7_199 (lb_ rfl) rfl rfl (lb_ rfl) ?_
      exact xx_ireturn C (rt_iwp hf Q) (dd_X7_luck.at 81 rfl) rfl
    · refine xx_icmp_ge_f (tgt := 136) C (dd_X7_luck.at 28 rfl) (by decide) hc ?_
      refine xx_aload_n C (dd_X7_luck.at 29 rfl) rfl (Nat.le_of_ble_eq_true rfl) ?_
      obtain ⟨g10, hf⟩ := gd_ok hf
      refine xx_getR (j := 7) (r := h.2.2.1) C ck_6 (lb_ rfl) lf_RX7_55 sh_k1 rfl (lb_ rfl) rfl (dd_X7_luck.at 30 rfl) ?_
      refine xx_iload_n C (dd_X7_luck.at 31 rfl) rfl ?_
      refine xx_iload_n C (dd_X7_luck.at 32 rfl) rfl ?_
      refine xx_iload C (dd_X7_luck.at 33 rfl) rfl ?_
      refine xx_iconst C (dd_X7_luck.at 34 rfl) ic_0 ?_
      obtain ⟨v11, e12, hf⟩ := bdo_ hf
      refine xx_callVi C (ss_X2_least (bo_ok g10) e12) (dd_X7_luck.at 35 rfl) ck_1 rfl (sh_o (bo_ok g10)) kk_X2_least ki_X2_least lm_RX7_181 (lb_ rfl) rfl rfl (lb_ rfl) ?_
      refine xx_istore (lv' := [_, _, _, _, _, _, _, _, _, _, _]) C (dd_X7_luck.at 36 rfl) (lb_ rfl) rfl ?_
      refine xx_aload_n C (dd_X7_luck.at 37 rfl) rfl (Nat.le_of_ble_eq_true rfl) ?_
      refine xx_getR (j := 7) (r := h.2.2.1) C ck_6 (lb_ rfl) lf_RX7_55 sh_k1 rfl (lb_ rfl) rfl (dd_X7_luck.at 38 rfl) ?_
      refine xx_iload_n C (dd_X7_luck.at 39 rfl) rfl ?_
      refine xx_iload_n C (dd_X7_luck.at 40 rfl) rfl ?_
      refine xx_iload C (dd_X7_luck.at 41 rfl) rfl ?_
      refine xx_iconst C (dd_X7_luck.at 42 rfl) ic_0 ?_
      obtain ⟨v13, e14, hf⟩ := bdo_ hf
      refine xx_callVi C (ss_X2_most (bo_ok g10) e14) (dd_X7_luck.at 43 rfl) ck_1 rfl (sh_o (bo_ok g10)) kk_X2_most ki_X2_most lm_RX7_177 (lb_ rfl) rfl rfl (lb_ rfl) ?_
      refine xx_istore (lv' := [_, _, _, _, _, _, _, _, _, _, _]) C (dd_X7_luck.at 44 rfl) (lb_ rfl) rfl ?_
      refine xx_lload C (dd_X7_luck.at 45 rfl) rfl ?_
      refine xx_iconst C (dd_X7_luck.at 46 rfl) ic_0 ?_
      refine xx_iload C (dd_X7_luck.at 47 rfl) rfl ?_
      refine xx_iload C (dd_X7_luck.at 48 rfl) rfl ?_
      refine xx_aload_n C (dd_X7_luck.at 49 rfl) rfl (Nat.le_of_ble_eq_true rfl) ?_
      refine xx_getR (j := 7) (r := h.2.2.1) C ck_6 (lb_ rfl) lf_RX7_55 sh_k1 rfl (lb_ rfl) rfl (dd_X7_luck.at 50 rfl) ?_
      refine xx_getR (j := 3) (r := (h.2.2.1 + 18)) C ck_1 (lb_ rfl) lf_RX7_129 (sh_o (bo_ok g10)) rfl (rc_o3 (bo_ok g10)) (rf_o3 (bo_ok g10)) (dd_X7_luck.at 51 rfl) ?_
      refine xx_iload_n C (dd_X7_luck.at 52 rfl) rfl ?_
      obtain ⟨g15, hf⟩ := gd_ok hf
      refine xx_aaload (r := (h.2.2.1 + 19 + Int32.toNatClampNeg x3)) C (dd_X7_luck.at 53 rfl) (sh_o18 (bo_ok g10)) (bi_ok g15) (sh_lt (sh_oe18 (bo_ok g10) (bi_ok g15))) rfl ?_
      refine xx_iload C (dd_X7_luck.at 54 rfl) rfl ?_
      obtain ⟨g16, hf⟩ := gd_ok hf
      refine xx_iaload C (dd_X7_luck.at 55 rfl) (sh_oe18 (bo_ok g10) (bi_ok g15)) (bi_ok g16) ?_
      refine xx_max C (dd_X7_luck.at 56 rfl) lm_RX7_216 (lb_ rfl) (lb_ rfl) ?_
      refine xx_isub C (dd_X7_luck.at 57 rfl) ?_
      refine xx_iconst C (dd_X7_luck.at 58 rfl) ic_1 ?_
      refine xx_iadd C (dd_X7_luck.at 59 rfl) ?_
      refine xx_max C (dd_X7_luck.at 60 rfl) lm_RX7_216 (lb_ rfl) (lb_ rfl) ?_
      refine xx_i2l C (dd_X7_luck.at 61 rfl) ?_
      refine xx_lmul C (dd_X7_luck.at 62 rfl) ?_
      refine xx_lstore (lv' := [_, _, _, _, _, _, _, _, _, _, _]) C (dd_X7_luck.at 63 rfl) (lb_ rfl) rfl ?_
      refine xx_lload C (dd_X7_luck.at 64 rfl) rfl ?_
      refine xx_aload_n C (dd_X7_luck.at 65 rfl) rfl (Nat.le_of_ble_eq_true rfl) ?_
      refine xx_getR (j := 7) (r := h.2.2.1) C ck_6 (lb_ rfl) lf_RX7_55 sh_k1 rfl (lb_ rfl) rfl (dd_X7_luck.at 66 rfl) ?_
      refine xx_iload_n C (dd_X7_luck.at 67 rfl) rfl ?_
      refine xx_iload_n C (dd_X7_luck.at 68 rfl) rfl ?_
      refine xx_iload C (dd_X7_luck.at 69 rfl) rfl ?_
      obtain ⟨v17, e18, hf⟩ := bdo_ hf
      refine xx_callVi C (ss_X2_ways (bo_ok g10) e18) (dd_X7_luck.at 70 rfl) ck_1 rfl (sh_o (bo_ok g10)) kk_X2_ways ki_X2_ways lm_RX7_221 (lb_ rfl) rfl rfl (lb_ rfl) ?_
      refine xx_i2l C (dd_X7_luck.at 71 rfl) ?_
      refine xx_lmul C (dd_X7_luck.at 72 rfl) ?_
      refine xx_lstore (lv' := [_, _, _, _, _, _, _, _, _, _, _]) C (dd_X7_luck.at 73 rfl) (lb_ rfl) rfl ?_
      refine xx_iinc (v := _ + (1 : Int32)) (lv' := [_, _, _, _, _, _, _, _, _, _, _]) C (dd_X7_luck.at 74 rfl) (lb_ rfl) rfl (by rw [ic_1]) rfl ?_
      refine xx_goto (tgt := 47) C (dd_X7_luck.at 75 rfl) (by decide) ?_
      exact xx_mask [true, true, true, true, true, false, true, false, true, false, false] (ih _ _ _ hf)
theorem ss_X7_luck {l : Launch} {G : gt_} {a1 : Int32} {a2 : Int32} {a3 : Int32} {h : hh_} {r9 : Int32} {h9 : hh_}  (hf : ff_X7_luck a1 a2 a3 h = some (r9, h9)) : ok_ l G 4 mt_X7_luck [.ref 1, .int a1, .int a2, .int a3] h (some (.int r9)) h9 := by
  refine ok_of pn_RX7 (lb_ rfl) (fun Z _ _ C Q => ?_)
  show xx_ Z 0 [some (.ref 1), some (.int a1), some (.int a2), some (.int a3), none, none, none, none, none, none, none] [] h
  unfold ff_X7_luck at hf
  refine xx_aload_n C (dd_X7_luck.at 0 rfl) rfl (Nat.le_of_ble_eq_true rfl) ?_
  obtain ⟨g1, hf⟩ := gd_ok hf
  refine xx_getR (j := 7) (r := h.2.2.1) C ck_6 (lb_ rfl) lf_RX7_55 sh_k1 rfl (lb_ rfl) rfl (dd_X7_luck.at 1 rfl) ?_
  refine xx_iconst C (dd_X7_luck.at 2 rfl) ic_1 ?_
  refine xx_iload_n C (dd_X7_luck.at 3 rfl) rfl ?_
  obtain ⟨v2, e3, hf⟩ := bdo_ hf
  refine xx_callVi C (ss_X2_has (bo_ok g1) e3) (dd_X7_luck.at 4 rfl) ck_1 rfl (sh_o (bo_ok g1)) kk_X2_has ki_X2_has lm_RX7_119 (lb_ rfl) rfl rfl (lb_ rfl) ?_
  rcases ifo_ hf with ⟨hc, hf⟩ | ⟨hc, hf⟩
  · refine xx_if_eq_t (tgt := 36) C (dd_X7_luck.at 5 rfl) (by decide) hc ?_
    refine xx_iconst C (dd_X7_luck.at 18 rfl) ic_m1 ?_
    exact xx_ireturn C (rt_iwp hf Q) (dd_X7_luck.at 19 rfl) rfl
  · refine xx_if_eq_f (tgt := 36) C (dd_X7_luck.at 5 rfl) (by decide) hc ?_
    refine xx_aload_n C (dd_X7_luck.at 6 rfl) rfl (Nat.le_of_ble_eq_true rfl) ?_
    refine xx_getR (j := 7) (r := h.2.2.1) C ck_6 (lb_ rfl) lf_RX7_55 sh_k1 rfl (lb_ rfl) rfl (dd_X7_luck.at 7 rfl) ?_
    refine xx_iconst C (dd_X7_luck.at 8 rfl) ic_0 ?_
    refine xx_iload_n C (dd_X7_luck.at 9 rfl) rfl ?_
    obtain ⟨v4, e5, hf⟩ := bdo_ hf
    refine xx_callVi C (ss_X2_has (bo_ok g1) e5) (dd_X7_luck.at 10 rfl) ck_1 rfl (sh_o (bo_ok g1)) kk_X2_has ki_X2_has lm_RX7_119 (lb_ rfl) rfl rfl (lb_ rfl) ?_
    rcases ifo_ hf with ⟨hc, hf⟩ | ⟨hc, hf⟩
    · refine xx_if_eq_t (tgt := 36) C (dd_X7_luck.at 11 rfl) (by decide) hc ?_
      refine xx_iconst C (dd_X7_luck.at 18 rfl) ic_m1 ?_
      exact xx_ireturn C (rt_iwp hf Q) (dd_X7_luck.at 19 rfl) rfl
    · refine xx_if_eq_f (tgt := 36) C (dd_X7_luck.at 11 rfl) (by decide) hc ?_
      refine xx_aload_n C (dd_X7_luck.at 12 rfl) rfl (Nat.le_of_ble_eq_true rfl) ?_
      refine xx_getR (j := 7) (r := h.2.2.1) C ck_6 (lb_ rfl) lf_RX7_55 sh_k1 rfl (lb_ rfl) rfl (dd_X7_luck.at 13 rfl) ?_
      refine xx_iconst C (dd_X7_luck.at 14 rfl) ic_2 ?_
      refine xx_iload_n C (dd_X7_luck.at 15 rfl) rfl ?_
      obtain ⟨v6, e7, hf⟩ := bdo_ hf
      refine xx_callVi C (ss_X2_has (bo_ok g1) e7) (dd_X7_luck.at 16 rfl) ck_1 rfl (sh_o (bo_ok g1)) kk_X2_has ki_X2_has lm_RX7_119 (lb_ rfl) rfl rfl (lb_ rfl) ?_
      rcases ifo_ hf with ⟨hc, hf⟩ | ⟨hc, hf⟩
      · refine xx_if_ne_f (tgt := 38) C (dd_X7_luck.at 17 rfl) (by decide) (not_not_intro hc) ?_
        refine xx_iconst C (dd_X7_luck.at 18 rfl) ic_m1 ?_
        exact xx_ireturn C (rt_iwp hf Q) (dd_X7_luck.at 19 rfl) rfl
      · refine xx_if_ne_t (tgt := 38) C (dd_X7_luck.at 17 rfl) (by decide) hc ?_
        refine xx_lconst (v := 1) C (dd_X7_luck.at 20 rfl) rfl ?_
        refine xx_lstore (lv' := [_, _, _, _, _, _, _, _, _, _, _]) C (dd_X7_luck.at 21 rfl) (lb_ rfl) rfl ?_
        refine xx_lconst (v := 1) C (dd_X7_luck.at 22 rfl) rfl ?_
        refine xx_lstore (lv' := [_, _, _, _, _, _, _, _, _, _, _]) C (dd_X7_luck.at 23 rfl) (lb_ rfl) rfl ?_
        refine xx_iconst C (dd_X7_luck.at 24 rfl) ic_0 ?_
        refine xx_istore (lv' := [_, _, _, _, _, _, _, _, _, _, _]) C (dd_X7_luck.at 25 rfl) (lb_ rfl) rfl ?_
        exact xx_mask [true, true, true, true, true, false, true, false, true, false, false] (ss_X7_luck_47 C Q _ _ _ _ hf)
theorem ss_X2_fewestPads_3 {Z : zz_} (C : cx_ Z mt_X2_fewestPads 3) {r9 : Int32} {x0 : Nat} {x1 : Int32} {x2 : Int32} {x3 : Int32} {x4 : Int32} {h : hh_}  (Q : rq_ Z (some (.int r9)) h) (ho0 : isO_ x0) : ∀ (n9 : Nat) (x5 : Int32), ff_X2_fewestPads_3 x0 x1 x2 x3 x4 h n9 x5 = some r9 → xx_ Z 3 [some (.ref x0), some (.int x1), some (.int x2), some (.int x3), some (.int x4), some (.int x5)] [] h := by
  intro n9
  induction n9 with
  | zero =>
    intro x5 hf
    exact absurd hf (by rw [ff_X2_fewestPads_3]; exact nofun)
  | succ n9 ih =>
    intro x5 hf
    rw [ff_X2_fewestPads_3] at hf
    refine xx_aload_n C (dd_X2_fewestPads.at 2 rfl) rfl (isO_pos ho0) ?_
    refine xx_getR (j := 1) (r := (x0 + 7)) C ck_1 (lb_ rfl) lf_RX2_16 (sh_o ho0) rfl (rc_o1 ho0) (rf_o1 ho0) (dd_X2_fewestPads.at 3 rfl) ?_
    refine xx_iload_n C (dd_X2_fewestPads.at 4 rfl) rfl ?_
    obtain ⟨g1, hf⟩ := gd_ok hf
    refine xx_aaload (r := (x0 + 8 + Int32.toNatClampNeg x2)) C (dd_X2_fewestPads.at 5 rfl) (sh_o7 ho0) (bi_ok g1) (sh_lt (sh_oe7 ho0 (bi_ok g1))) rfl ?_
    refine xx_iload C (dd_X2_fewestPads.at 6 rfl) rfl ?_
    obtain ⟨g2, hf⟩ := gd_ok hf
    refine xx_iaload C (dd_X2_fewestPads.at 7 rfl) (sh_oe7 ho0 (bi_ok g1)) (bi_ok g2) ?_
    refine xx_iload C (dd_X2_fewestPads.at 8 rfl) rfl ?_
    refine xx_iadd C (dd_X2_fewestPads.at 9 rfl) ?_
    refine xx_iconst C (dd_X2_fewestPads.at 10 rfl) ic_5 ?_
    rcases ifo_ hf with ⟨hc, hf⟩ | ⟨hc, hf⟩
    · refine xx_icmp_gt_t (tgt := 50) C (dd_X2_fewestPads.at 11 rfl) (by decide) hc ?_
      refine xx_bipush C (dd_X2_fewestPads.at 29 rfl) bq_m9 ?_
      exact xx_ireturn C (rt_ip hf Q) (dd_X2_fewestPads.at 30 rfl) rfl
    · refine xx_icmp_gt_f (tgt := 50) C (dd_X2_fewestPads.at 11 rfl) (by decide) hc ?_
      refine xx_aload_n C (dd_X2_fewestPads.at 12 rfl) rfl (isO_pos ho0) ?_
      refine xx_iload_n C (dd_X2_fewestPads.at 13 rfl) rfl ?_
      refine xx_iload_n C (dd_X2_fewestPads.at 14 rfl) rfl ?_
      refine xx_iload C (dd_X2_fewestPads.at 15 rfl) rfl ?_
      refine xx_iload C (dd_X2_fewestPads.at 16 rfl) rfl ?_
      obtain ⟨v3, e4, hf⟩ := bdo_ hf
      refine xx_callVi C (ss_X2_least ho0 e4) (dd_X2_fewestPads.at 17 rfl) ck_1 rfl (sh_o ho0) kk_X2_least ki_X2_least lm_RX2_95 (lb_ rfl) rfl rfl (lb_ rfl) ?_
      refine xx_aload_n C (dd_X2_fewestPads.at 18 rfl) rfl (isO_pos ho0) ?_
      refine xx_getR (j := 3) (r := (x0 + 18)) C ck_1 (lb_ rfl) lf_RX2_22 (sh_o ho0) rfl (rc_o3 ho0) (rf_o3 ho0) (dd_X2_fewestPads.at 19 rfl) ?_
      refine xx_iload_n C (dd_X2_fewestPads.at 20 rfl) rfl ?_
      obtain ⟨g5, hf⟩ := gd_ok hf
      refine xx_aaload (r := (x0 + 19 + Int32.toNatClampNeg x3)) C (dd_X2_fewestPads.at 21 rfl) (sh_o18 ho0) (bi_ok g5) (sh_lt (sh_oe18 ho0 (bi_ok g5))) rfl ?_
      refine xx_iload C (dd_X2_fewestPads.at 22 rfl) rfl ?_
      refine xx_iaload C (dd_X2_fewestPads.at 23 rfl) (sh_oe18 ho0 (bi_ok g5)) (bi_ok g2) ?_
      rcases ifo_ hf with ⟨hc, hf⟩ | ⟨hc, hf⟩
      · refine xx_icmp_lt_t (tgt := 44) C (dd_X2_fewestPads.at 24 rfl) (by decide) hc ?_
        refine xx_iinc (v := _ + (1 : Int32)) (lv' := [_, _, _, _, _, _]) C (dd_X2_fewestPads.at 27 rfl) (lb_ rfl) rfl (by rw [ic_1]) rfl ?_
        refine xx_goto (tgt := 3) C (dd_X2_fewestPads.at 28 rfl) (by decide) ?_
        exact xx_mask [true, true, true, true, true, true] (ih _ hf)
      · refine xx_icmp_lt_f (tgt := 44) C (dd_X2_fewestPads.at 24 rfl) (by decide) hc ?_
        refine xx_iload C (dd_X2_fewestPads.at 25 rfl) rfl ?_
        exact xx_ireturn C (rt_ip hf Q) (dd_X2_fewestPads.at 26 rfl) rfl
theorem ss_X2_fewestPads {l : Launch} {G : gt_} {o : Nat} {a1 : Int32} {a2 : Int32} {a3 : Int32} {a4 : Int32} {h : hh_} {r9 : Int32} (ho : isO_ o) (hf : ff_X2_fewestPads o a1 a2 a3 a4 h = some r9) : ok_ l G 3 mt_X2_fewestPads [.ref o, .int a1, .int a2, .int a3, .int a4] h (some (.int r9)) h := by
  refine ok_of pn_RX2 (lb_ rfl) (fun Z _ _ C Q => ?_)
  show xx_ Z 0 [some (.ref o), some (.int a1), some (.int a2), some (.int a3), some (.int a4), none] [] h
  unfold ff_X2_fewestPads at hf
  refine xx_iconst C (dd_X2_fewestPads.at 0 rfl) ic_0 ?_
  refine xx_istore (lv' := [_, _, _, _, _, _]) C (dd_X2_fewestPads.at 1 rfl) (lb_ rfl) rfl ?_
  exact xx_mask [true, true, true, true, true, true] (ss_X2_fewestPads_3 C Q ho _ _ hf)
