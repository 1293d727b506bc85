theorem ss_X7_pads_56 {Z : zz_} (C : cx_ Z mt_X7_pads 4) {r9 : Int32} {h9 : hh_} {x1 : Int32} {x2 : Int32} {x3 : Int32} {x4 : Int32} {h : hh_} {K56_99 : Int32 → Option (Int32 × hh_)} (Q : rq_ Z (some (.int r9)) h9) (hK56_99 : ∀ (z5 : Int32), K56_99 z5 = some (r9, h9) → xx_ Z 99 [some (.ref 1), some (.int x1), some (.int x2), some (.int x3), some (.int x4), some (.int z5), none, none] [] h) : ∀ (n9 : Nat) (x5 : Int32) (x6 : Int32), ff_X7_pads_56 x1 x2 x3 x4 h K56_99 n9 x5 x6 = some (r9, h9) → xx_ Z 56 [some (.ref 1), some (.int x1), some (.int x2), some (.int x3), some (.int x4), some (.int x5), some (.int x6), none] [] h := by
  intro n9
  induction n9 with
  | zero =>
    intro x5 x6 hf
    exact absurd hf (by rw [ff_X7_pads_56]; exact nofun)
  | succ n9 ih =>
    intro x5 x6 hf
    rw [ff_X7_pads_56] at hf
    refine xx_iload C (dd_X7_pads.at 29 rfl) rfl ?_
    refine xx_iconst C (dd_X7_pads.at 30 rfl) ic_4 ?_
    rcases ifo_ hf with ⟨hc, hf⟩ | ⟨hc, hf⟩
    · refine xx_icmp_ge_t (tgt := 99) C (dd_X7_pads.at 31 rfl) (by decide) hc ?_
      exact xx_mask [true, true, true, true, true, true, false, false] (hK56_99 _ hf)
    · refine xx_icmp_ge_f (tgt := 99) C (dd_X7_pads.at 31 rfl) (by decide) hc ?_
      refine xx_aload_n C (dd_X7_pads.at 32 rfl) rfl (Nat.le_of_ble_eq_true rfl) ?_
      obtain ⟨g8, hf⟩ := gd_ok hf
      refine xx_getR (j := 7) (r := h.2.2.1) C ck_6 (lb_ rfl) lf_RX7_55 sh_k1 rfl (lb_ rfl) rfl (dd_X7_pads.at 33 rfl) ?_
      refine xx_iload_n C (dd_X7_pads.at 34 rfl) rfl ?_
      refine xx_iload_n C (dd_X7_pads.at 35 rfl) rfl ?_
      refine xx_iload_n C (dd_X7_pads.at 36 rfl) rfl ?_
      refine xx_iload C (dd_X7_pads.at 37 rfl) rfl ?_
      obtain ⟨v9, e10, hf⟩ := bdo_ hf
      refine xx_callVi C (ss_X2_fewestPads (bo_ok g8) e10) (dd_X7_pads.at 38 rfl) ck_1 rfl (sh_o (bo_ok g8)) kk_X2_fewestPads ki_X2_fewestPads lm_RX7_225 (lb_ rfl) rfl rfl (lb_ rfl) ?_
      refine xx_istore (lv' := [_, _, _, _, _, _, _, _]) C (dd_X7_pads.at 39 rfl) (lb_ rfl) rfl ?_
      refine xx_iload C (dd_X7_pads.at 40 rfl) rfl ?_
      refine xx_bipush C (dd_X7_pads.at 41 rfl) bq_m9 ?_
      rcases ifo_ hf with ⟨hc, hf⟩ | ⟨hc, hf⟩
      · refine xx_icmp_ne_f (tgt := 86) C (dd_X7_pads.at 42 rfl) (by decide) (not_not_intro hc) ?_
        refine xx_bipush C (dd_X7_pads.at 43 rfl) bq_m9 ?_
        exact xx_ireturn C (rt_iwp hf Q) (dd_X7_pads.at 44 rfl) rfl
      · refine xx_icmp_ne_t (tgt := 86) C (dd_X7_pads.at 42 rfl) (by decide) hc ?_
        refine xx_iload C (dd_X7_pads.at 45 rfl) rfl ?_
        refine xx_iload C (dd_X7_pads.at 46 rfl) rfl ?_
        refine xx_iadd C (dd_X7_pads.at 47 rfl) ?_
        refine xx_istore (lv' := [_, _, _, _, _, _, _, _]) C (dd_X7_pads.at 48 rfl) (lb_ rfl) rfl ?_
        refine xx_iinc (v := _ + (1 : Int32)) (lv' := [_, _, _, _, _, _, _, _]) C (dd_X7_pads.at 49 rfl) (lb_ rfl) rfl (by rw [ic_1]) rfl ?_
        refine xx_goto (tgt := 56) C (dd_X7_pads.at 50 rfl) (by decide) ?_
        exact xx_mask [true, true, true, true, true, true, true, false] (ih _ _ hf)
theorem ss_X7_pads_113 {Z : zz_} (C : cx_ Z mt_X7_pads 4) {r9 : Int32} {h9 : hh_} {x1 : Int32} {x2 : Int32} {x3 : Int32} {x4 : Int32} {x5 : Int32}  (Q : rq_ Z (some (.int r9)) h9) : ∀ (n9 : Nat) (x6 : Int32) (h : hh_), ff_X7_pads_113 x1 x2 x3 x4 x5 n9 x6 h = some (r9, h9) → xx_ Z 113 [some (.ref 1), some (.int x1), some (.int x2), some (.int x3), some (.int x4), some (.int x5), some (.int x6), none] [] h := by
  intro n9
  induction n9 with
  | zero =>
    intro x6 h hf
    exact absurd hf (by rw [ff_X7_pads_113]; exact nofun)
  | succ n9 ih =>
    intro x6 h hf
    rw [ff_X7_pads_113] at hf
    refine xx_iload C (dd_X7_pads.at 59 rfl) rfl ?_
    refine xx_iconst C (dd_X7_pads.at 60 rfl) ic_4 ?_
    rcases ifo_ hf with ⟨hc, hf⟩ | ⟨hc, hf⟩
    · refine xx_icmp_ge_t (tgt := 150) C (dd_X7_pads.at 61 rfl) (by decide) hc ?_
      refine xx_iload C (dd_X7_pads.at 78 rfl) rfl ?_
      exact xx_ireturn C (rt_iwp hf Q) (dd_X7_pads.at 79 rfl) rfl
    · refine xx_icmp_ge_f (tgt := 150) C (dd_X7_pads.at 61 rfl) (by decide) hc ?_
      refine xx_aload_n C (dd_X7_pads.at 62 rfl) rfl (Nat.le_of_ble_eq_true rfl) ?_
      refine xx_getR (j := 0) (r := 2) C ck_6 (lb_ rfl) lf_RX7_14 sh_k1 rfl (lb_ rfl) rfl (dd_X7_pads.at 63 rfl) ?_
      refine xx_getR (j := 0) (r := 3) C ck_4 (lb_ rfl) lf_RX7_79 sh_k2 rfl (lb_ rfl) rfl (dd_X7_pads.at 64 rfl) ?_
      refine xx_iload C (dd_X7_pads.at 65 rfl) rfl ?_
      obtain ⟨g14, hf⟩ := gd_ok hf
      refine xx_aaload (r := (4 + Int32.toNatClampNeg x4)) C (dd_X7_pads.at 66 rfl) sh_k3 (bi_ok g14) (sh_lt (sh_e3 (bi_ok g14))) rfl ?_
      refine xx_iload C (dd_X7_pads.at 67 rfl) rfl ?_
      refine xx_aload_n C (dd_X7_pads.at 68 rfl) rfl (Nat.le_of_ble_eq_true rfl) ?_
      obtain ⟨g15, hf⟩ := gd_ok hf
      refine xx_getR (j := 7) (r := h.2.2.1) C ck_6 (lb_ rfl) lf_RX7_55 sh_k1 rfl (lb_ rfl) rfl (dd_X7_pads.at 69 rfl) ?_
      refine xx_iload_n C (dd_X7_pads.at 70 rfl) rfl ?_
      refine xx_iload_n C (dd_X7_pads.at 71 rfl) rfl ?_
      refine xx_iload_n C (dd_X7_pads.at 72 rfl) rfl ?_
      refine xx_iload C (dd_X7_pads.at 73 rfl) rfl ?_
      obtain ⟨v16, e17, hf⟩ := bdo_ hf
      refine xx_callVi C (ss_X2_fewestPads (bo_ok g15) e17) (dd_X7_pads.at 74 rfl) ck_1 rfl (sh_o (bo_ok g15)) kk_X2_fewestPads ki_X2_fewestPads lm_RX7_225 (lb_ rfl) rfl rfl (lb_ rfl) ?_
      obtain ⟨g18, hf⟩ := gd_ok hf
      refine xx_iastore C (dd_X7_pads.at 75 rfl) (sh_e3 (bi_ok g14)) (bi_ok g18) ?_
      refine xx_iinc (v := _ + (1 : Int32)) (lv' := [_, _, _, _, _, _, _, _]) C (dd_X7_pads.at 76 rfl) (lb_ rfl) rfl (by rw [ic_1]) rfl ?_
      refine xx_goto (tgt := 113) C (dd_X7_pads.at 77 rfl) (by decide) ?_
      exact xx_mask [true, true, true, true, true, true, true, false] (ih _ _ hf)
theorem ss_X7_pads {l : Launch} {G : gt_} {a1 : Int32} {a2 : Int32} {a3 : Int32} {a4 : Int32} {h : hh_} {r9 : Int32} {h9 : hh_}  (hf : ff_X7_pads a1 a2 a3 a4 h = some (r9, h9)) : ok_ l G 4 mt_X7_pads [.ref 1, .int a1, .int a2, .int a3, .int a4] h (some (.int r9)) h9 := by
  refine ok_of pn_RX7 (lb_ rfl) (fun Z _ _ C Q => ?_)
  show xx_ Z 0 [some (.ref 1), some (.int a1), some (.int a2), some (.int a3), some (.int a4), none, none, none] [] h
  unfold ff_X7_pads at hf
  refine xx_aload_n C (dd_X7_pads.at 0 rfl) rfl (Nat.le_of_ble_eq_true rfl) ?_
  obtain ⟨g1, hf⟩ := gd_ok hf
  refine xx_getR (j := 7) (r := h.2.2.1) C ck_6 (lb_ rfl) lf_RX7_55 sh_k1 rfl (lb_ rfl) rfl (dd_X7_pads.at 1 rfl) ?_
  refine xx_iconst C (dd_X7_pads.at 2 rfl) ic_1 ?_
  refine xx_iload_n C (dd_X7_pads.at 3 rfl) rfl ?_
  obtain ⟨v2, e3, hf⟩ := bdo_ hf
  refine xx_callVi C (ss_X2_has (bo_ok g1) e3) (dd_X7_pads.at 4 rfl) ck_1 rfl (sh_o (bo_ok g1)) kk_X2_has ki_X2_has lm_RX7_119 (lb_ rfl) rfl rfl (lb_ rfl) ?_
  rcases ifo_ hf with ⟨hc, hf⟩ | ⟨hc, hf⟩
  · refine xx_if_eq_t (tgt := 48) C (dd_X7_pads.at 5 rfl) (by decide) hc ?_
    refine xx_iconst C (dd_X7_pads.at 23 rfl) ic_m1 ?_
    exact xx_ireturn C (rt_iwp hf Q) (dd_X7_pads.at 24 rfl) rfl
  · refine xx_if_eq_f (tgt := 48) C (dd_X7_pads.at 5 rfl) (by decide) hc ?_
    refine xx_aload_n C (dd_X7_pads.at 6 rfl) rfl (Nat.le_of_ble_eq_true rfl) ?_
    refine xx_getR (j := 7) (r := h.2.2.1) C ck_6 (lb_ rfl) lf_RX7_55 sh_k1 rfl (lb_ rfl) rfl (dd_X7_pads.at 7 rfl) ?_
    refine xx_iconst C (dd_X7_pads.at 8 rfl) ic_0 ?_
    refine xx_iload_n C (dd_X7_pads.at 9 rfl) rfl ?_
    obtain ⟨v4, e5, hf⟩ := bdo_ hf
    refine xx_callVi C (ss_X2_has (bo_ok g1) e5) (dd_X7_pads.at 10 rfl) ck_1 rfl (sh_o (bo_ok g1)) kk_X2_has ki_X2_has lm_RX7_119 (lb_ rfl) rfl rfl (lb_ rfl) ?_
    rcases ifo_ hf with ⟨hc, hf⟩ | ⟨hc, hf⟩
    · refine xx_if_eq_t (tgt := 48) C (dd_X7_pads.at 11 rfl) (by decide) hc ?_
      refine xx_iconst C (dd_X7_pads.at 23 rfl) ic_m1 ?_
      exact xx_ireturn C (rt_iwp hf Q) (dd_X7_pads.at 24 rfl) rfl
    · refine xx_if_eq_f (tgt := 48) C (dd_X7_pads.at 11 rfl) (by decide) hc ?_
      refine xx_aload_n C (dd_X7_pads.at 12 rfl) rfl (Nat.le_of_ble_eq_true rfl) ?_
      refine xx_getR (j := 7) (r := h.2.2.1) C ck_6 (lb_ rfl) lf_RX7_55 sh_k1 rfl (lb_ rfl) rfl (dd_X7_pads.at 13 rfl) ?_
      refine xx_iconst C (dd_X7_pads.at 14 rfl) ic_2 ?_
      refine xx_iload_n C (dd_X7_pads.at 15 rfl) rfl ?_
      obtain ⟨v6, e7, hf⟩ := bdo_ hf
      refine xx_callVi C (ss_X2_has (bo_ok g1) e7) (dd_X7_pads.at 16 rfl) ck_1 rfl (sh_o (bo_ok g1)) kk_X2_has ki_X2_has lm_RX7_119 (lb_ rfl) rfl rfl (lb_ rfl) ?_
      rcases ifo_ hf with ⟨hc, hf⟩ | ⟨hc, hf⟩
      · refine xx_if_eq_t (tgt := 48) C (dd_X7_pads.at 17 rfl) (by decide) hc ?_
        refine xx_iconst C (dd_X7_pads.at 23 rfl) ic_m1 ?_
        exact xx_ireturn C (rt_iwp hf Q) (dd_X7_pads.at 24 rfl) rfl
      · refine xx_if_eq_f (tgt := 48) C (dd_X7_pads.at 17 rfl) (by decide) hc ?_
        refine xx_aload_n C (dd_X7_pads.at 18 rfl) rfl (Nat.le_of_ble_eq_true rfl) ?_
        refine xx_getR (j := 0) (r := 2) C ck_6 (lb_ rfl) lf_RX7_14 sh_k1 rfl (lb_ rfl) rfl (dd_X7_pads.at 19 rfl) ?_
        refine xx_iload C (dd_X7_pads.at 20 rfl) rfl ?_
        refine xx_callVi C (ss_X5r_allows rfl) (dd_X7_pads.at 21 rfl) ck_4 rfl sh_k2 kk_X5_allows ki_X5_allows lm_RX7_63 (lb_ rfl) rfl rfl (lb_ rfl) ?_
        rcases ifo_ hf with ⟨hc, hf⟩ | ⟨hc, hf⟩
        · refine xx_if_ne_f (tgt := 50) C (dd_X7_pads.at 22 rfl) (by decide) (not_not_intro hc) ?_
          refine xx_iconst C (dd_X7_pads.at 23 rfl) ic_m1 ?_
          exact xx_ireturn C (rt_iwp hf Q) (dd_X7_pads.at 24 rfl) rfl
        · refine xx_if_ne_t (tgt := 50) C (dd_X7_pads.at 22 rfl) (by decide) hc ?_
          refine xx_iconst C (dd_X7_pads.at 25 rfl) ic_0 ?_
          refine xx_istore (lv' := [_, _, _, _, _, _, _, _]) C (dd_X7_pads.at 26 rfl) (lb_ rfl) rfl ?_
          refine xx_iconst C (dd_X7_pads.at 27 rfl) ic_0 ?_
          refine xx_istore (lv' := [_, _, _, _, _, _, _, _]) C (dd_X7_pads.at 28 rfl) (lb_ rfl) rfl ?_
          refine xx_mask [true, true, true, true, true, true, true, false] (ss_X7_pads_56 C Q (fun u11 hf => ?_) _ _ _ hf)
          refine xx_aload_n C (dd_X7_pads.at 51 rfl) rfl (Nat.le_of_ble_eq_true rfl) ?_
          refine xx_getR (j := 0) (r := 2) C ck_6 (lb_ rfl) lf_RX7_14 sh_k1 rfl (lb_ rfl) rfl (dd_X7_pads.at 52 rfl) ?_
          refine xx_iload C (dd_X7_pads.at 53 rfl) rfl ?_
          refine xx_iconst C (dd_X7_pads.at 54 rfl) ic_4 ?_
          refine xx_iconst C (dd_X7_pads.at 55 rfl) ic_0 ?_
          obtain ⟨v12, e13, hf⟩ := bdo_ hf
          refine xx_callVv C (ss_X5r_renew e13) (dd_X7_pads.at 56 rfl) ck_4 rfl sh_k2 kk_X5_renew ki_X5_renew lm_RX7_71 (lb_ rfl) rfl rfl (lb_ rfl) ?_
          refine xx_iconst C (dd_X7_pads.at 57 rfl) ic_0 ?_
          refine xx_istore (lv' := [_, _, _, _, _, _, _, _]) C (dd_X7_pads.at 58 rfl) (lb_ rfl) rfl ?_
          exact xx_mask [true, true, true, true, true, true, true, false] (ss_X7_pads_113 C Q _ _ _ hf)
theorem ss_X7_all_58 {Z : zz_} (C : cx_ Z mt_X7_all 4) {r9 : Int32} {x1 : Int32} {x2 : Int32} {x3 : Int32} {x4 : Int32} {h : hh_} {K58_112 : Int32 → Option (Int32)} (Q : rq_ Z (some (.int r9)) h) (hK58_112 : ∀ (z5 : Int32), K58_112 z5 = some r9 → xx_ Z 112 [some (.ref 1), some (.int x1), some (.int x2), some (.int x3), some (.int x4), some (.int z5), none, none] [] h) : ∀ (n9 : Nat) (x5 : Int32) (x6 : Int32), ff_X7_all_58 x1 x2 x3 x4 h K58_112 n9 x5 x6 = some r9 → xx_ Z 58 [some (.ref 1), some (.int x1), some (.int x2), some (.int x3), some (.int x4), some (.int x5), some (.int x6), none] [] h := by
  intro n9
  induction n9 with
  | zero =>
    intro x5 x6 hf
    exact absurd hf (by rw [ff_X7_all_58]; exact nofun)
  | succ n9 ih =>
    intro x5 x6 hf
    rw [ff_X7_all_58] at hf
    refine xx_iload C (dd_X7_all.at 33 rfl) rfl ?_
    refine xx_aload_n C (dd_X7_all.at 34 rfl) rfl (Nat.le_of_ble_eq_true rfl) ?_
    obtain ⟨g6, hf⟩ := gd_ok hf
    refine xx_getR (j := 7) (r := h.2.2.1) C ck_6 (lb_ rfl) lf_RX7_55 sh_k1 rfl (lb_ rfl) rfl (dd_X7_all.at 35 rfl) ?_
    refine xx_getR (j := 4) (r := (h.2.2.1 + 23)) C ck_1 (lb_ rfl) lf_RX7_118 (sh_o (bo_ok g6)) rfl (rc_o4 (bo_ok g6)) (rf_o4 (bo_ok g6)) (dd_X7_all.at 36 rfl) ?_
    refine xx_iconst C (dd_X7_all.at 37 rfl) ic_1 ?_
    refine xx_iaload C (dd_X7_all.at 38 rfl) (sh_o23 (bo_ok g6)) (bi_ok (i := (1 : Int32)) (n := 3) rfl) ?_
    rcases ifo_ hf with ⟨hc, hf⟩ | ⟨hc, hf⟩
    · refine xx_icmp_ge_t (tgt := 112) C (dd_X7_all.at 39 rfl) (by decide) hc ?_
      exact xx_mask [true, true, true, true, true, true, false, false] (hK58_112 _ hf)
    · refine xx_icmp_ge_f (tgt := 112) C (dd_X7_all.at 39 rfl) (by decide) hc ?_
      refine xx_aload_n C (dd_X7_all.at 40 rfl) rfl (Nat.le_of_ble_eq_true rfl) ?_
      refine xx_getR (j := 7) (r := h.2.2.1) C ck_6 (lb_ rfl) lf_RX7_55 sh_k1 rfl (lb_ rfl) rfl (dd_X7_all.at 41 rfl) ?_
      refine xx_iload C (dd_X7_all.at 42 rfl) rfl ?_
      refine xx_iload_n C (dd_X7_all.at 43 rfl) rfl ?_
      refine xx_iload_n C (dd_X7_all.at 44 rfl) rfl ?_
      refine xx_iload C (dd_X7_all.at 45 rfl) rfl ?_
      obtain ⟨v7, e8, hf⟩ := bdo_ hf
      refine xx_callVi C (ss_X2_fewestPads (bo_ok g6) e8) (dd_X7_all.at 46 rfl) ck_1 rfl (sh_o (bo_ok g6)) kk_X2_fewestPads ki_X2_fewestPads lm_RX7_225 (lb_ rfl) rfl rfl (lb_ rfl) ?_
      refine xx_istore (lv' := [_, _, _, _, _, _, _, _]) C (dd_X7_all.at 47 rfl) (lb_ rfl) rfl ?_
      refine xx_iload C (dd_X7_all.at 48 rfl) rfl ?_
      refine xx_bipush C (dd_X7_all.at 49 rfl) bq_m9 ?_
      rcases ifo_ hf with ⟨hc, hf⟩ | ⟨hc, hf⟩
      · refine xx_icmp_ne_f (tgt := 97) C (dd_X7_all.at 50 rfl) (by decide) (not_not_intro hc) ?_
        refine xx_bipush C (dd_X7_all.at 51 rfl) bq_m9 ?_
        exact xx_ireturn C (rt_ip hf Q) (dd_X7_all.at 52 rfl) rfl
      · refine xx_icmp_ne_t (tgt := 97) C (dd_X7_all.at 50 rfl) (by decide) hc ?_
        refine xx_iload C (dd_X7_all.at 53 rfl) rfl ?_
        refine xx_iload C (dd_X7_all.at 54 rfl) rfl ?_
        refine xx_max C (dd_X7_all.at 55 rfl) lm_RX7_216 (lb_ rfl) (lb_ rfl) ?_
        refine xx_istore (lv' := [_, _, _, _, _, _, _, _]) C (dd_X7_all.at 56 rfl) (lb_ rfl) rfl ?_
        refine xx_iinc (v := _ + (1 : Int32)) (lv' := [_, _, _, _, _, _, _, _]) C (dd_X7_all.at 57 rfl) (lb_ rfl) rfl (by rw [ic_1]) rfl ?_
        refine xx_goto (tgt := 58) C (dd_X7_all.at 58 rfl) (by decide) ?_
        exact xx_mask [true, true, true, true, true, true, true, false] (ih _ _ hf)
theorem ss_X7_all_46 {Z : zz_} (C : cx_ Z mt_X7_all 4) {r9 : Int32} {x1 : Int32} {x2 : Int32} {h : hh_}  (Q : rq_ Z (some (.int r9)) h) : ∀ (n9 : Nat) (x3 : Int32) (x4 : Int32), ff_X7_all_46 x1 x2 h n9 x3 x4 = some r9 → xx_ Z 46 [some (.ref 1), some (.int x1), some (.int x2), some (.int x3), some (.int x4), none, none, none] [] h := by
  intro n9
  induction n9 with
  | zero =>
    intro x3 x4 hf
    exact absurd hf (by rw [ff_X7_all_46]; exact nofun)
  | succ n9 ih =>
    intro x3 x4 hf
    rw [ff_X7_all_46] at hf
    refine xx_iload C (dd_X7_all.at 26 rfl) rfl ?_
    refine xx_iconst C (dd_X7_all.at 27 rfl) ic_4 ?_
    rcases ifo_ hf with ⟨hc, hf⟩ | ⟨hc, hf⟩
    · refine xx_icmp_ge_t (tgt := 123) C (dd_X7_all.at 28 rfl) (by decide) hc ?_
      refine xx_iload_n C (dd_X7_all.at 65 rfl) rfl ?_
      exact xx_ireturn C (rt_ip hf Q) (dd_X7_all.at 66 rfl) rfl
    · refine xx_icmp_ge_f (tgt := 123) C (dd_X7_all.at 28 rfl) (by decide) hc ?_
      refine xx_iconst C (dd_X7_all.at 29 rfl) ic_0 ?_
      refine xx_istore (lv' := [_, _, _, _, _, _, _, _]) C (dd_X7_all.at 30 rfl) (lb_ rfl) rfl ?_
      refine xx_iconst C (dd_X7_all.at 31 rfl) ic_0 ?_
      refine xx_istore (lv' := [_, _, _, _, _, _, _, _]) C (dd_X7_all.at 32 rfl) (lb_ rfl) rfl ?_
      refine xx_mask [true, true, true, true, true, true, true, false] (ss_X7_all_58 C Q (fun u9 hf => ?_) _ _ _ hf)
      refine xx_iload_n C (dd_X7_all.at 59 rfl) rfl ?_
      refine xx_iload C (dd_X7_all.at 60 rfl) rfl ?_
      refine xx_iadd C (dd_X7_all.at 61 rfl) ?_
      refine xx_istore_n (lv' := [_, _, _, _, _, _, _, _]) C (dd_X7_all.at 62 rfl) (lb_ rfl) rfl ?_
      refine xx_iinc (v := _ + (1 : Int32)) (lv' := [_, _, _, _, _, _, _, _]) C (dd_X7_all.at 63 rfl) (lb_ rfl) rfl (by rw [ic_1]) rfl ?_
      refine xx_goto (tgt := 46) C (dd_X7_all.at 64 rfl) (by decide) ?_
      exact xx_mask [true, true, true, true, true, false, false, false] (ih _ _ hf)
theorem ss_X7_all {l : Launch} {G : gt_} {a1 : Int32} {a2 : Int32} {h : hh_} {r9 : Int32}  (hf : ff_X7_all a1 a2 h = some r9) : ok_ l G 4 mt_X7_all [.ref 1, .int a1, .int a2] h (some (.int r9)) h := by
  refine ok_of pn_RX7 (lb_ rfl) (fun Z _ _ C Q => ?_)
  show xx_ Z 0 [some (.ref 1), some (.int a1), some (.int a2), none, none, none, none, none] [] h
  unfold ff_X7_all at hf
  refine xx_aload_n C (dd_X7_all.at 0 rfl) rfl (Nat.le_of_ble_eq_true rfl) ?_
  obtain ⟨g1, hf⟩ := gd_ok hf
  refine xx_getR (j := 7) (r := h.2.2.1) C ck_6 (lb_ rfl) lf_RX7_55 sh_k1 rfl (lb_ rfl) rfl (dd_X7_all.at 1 rfl) ?_
  refine xx_iconst C (dd_X7_all.at 2 rfl) ic_0 ?_
  refine xx_iload_n C (dd_X7_all.at 3 rfl) rfl ?_
  obtain ⟨v2, e3, hf⟩ := bdo_ hf
  refine xx_callVi C (ss_X2_has (bo_ok g1) e3) (dd_X7_all.at 4 rfl) ck_1 rfl (sh_o (bo_ok g1)) kk_X2_has ki_X2_has lm_RX7_119 (lb_ rfl) rfl rfl (lb_ rfl) ?_
  rcases ifo_ hf with ⟨hc, hf⟩ | ⟨hc, hf⟩
  · refine xx_if_eq_t (tgt := 24) C (dd_X7_all.at 5 rfl) (by decide) hc ?_
    refine xx_iconst C (dd_X7_all.at 12 rfl) ic_m1 ?_
    exact xx_ireturn C (rt_ip hf Q) (dd_X7_all.at 13 rfl) rfl
  · refine xx_if_eq_f (tgt := 24) C (dd_X7_all.at 5 rfl) (by decide) hc ?_
    refine xx_aload_n C (dd_X7_all.at 6 rfl) rfl (Nat.le_of_ble_eq_true rfl) ?_
    refine xx_getR (j := 7) (r := h.2.2.1) C ck_6 (lb_ rfl) lf_RX7_55 sh_k1 rfl (lb_ rfl) rfl (dd_X7_all.at 7 rfl) ?_
    refine xx_iconst C (dd_X7_all.at 8 rfl) ic_2 ?_
    refine xx_iload_n C (dd_X7_all.at 9 rfl) rfl ?_
    obtain ⟨v4, e5, hf⟩ := bdo_ hf
    refine xx_callVi C (ss_X2_has (bo_ok g1) e5) (dd_X7_all.at 10 rfl) ck_1 rfl (sh_o (bo_ok g1)) kk_X2_has ki_X2_has lm_RX7_119 (lb_ rfl) rfl rfl (lb_ rfl) ?_
    rcases ifo_ hf with ⟨hc, hf⟩ | ⟨hc, hf⟩
    · refine xx_if_ne_f (tgt := 26) C (dd_X7_all.at 11 rfl) (by decide) (not_not_intro hc) ?_
      refine xx_iconst C (dd_X7_all.at 12 rfl) ic_m1 ?_
      exact xx_ireturn C (rt_ip hf Q) (dd_X7_all.at 13 rfl) rfl
    · refine xx_if_ne_t (tgt := 26) C (dd_X7_all.at 11 rfl) (by decide) hc ?_
      refine xx_aload_n C (dd_X7_all.at 14 rfl) rfl (Nat.le_of_ble_eq_true rfl) ?_
      refine xx_getR (j := 7) (r := h.2.2.1) C ck_6 (lb_ rfl) lf_RX7_55 sh_k1 rfl (lb_ rfl) rfl (dd_X7_all.at 15 rfl) ?_
      refine xx_getR (j := 4) (r := (h.2.2.1 + 23)) C ck_1 (lb_ rfl) lf_RX7_118 (sh_o (bo_ok g1)) rfl (rc_o4 (bo_ok g1)) (rf_o4 (bo_ok g1)) (dd_X7_all.at 16 rfl) ?_
      refine xx_iconst C (dd_X7_all.at 17 rfl) ic_1 ?_
      refine xx_iaload C (dd_X7_all.at 18 rfl) (sh_o23 (bo_ok g1)) (bi_ok (i := (1 : Int32)) (n := 3) rfl) ?_
      rcases ifo_ hf with ⟨hc, hf⟩ | ⟨hc, hf⟩
      · refine xx_if_ne_f (tgt := 41) C (dd_X7_all.at 19 rfl) (by decide) (not_not_intro hc) ?_
        refine xx_bipush C (dd_X7_all.at 20 rfl) bq_m4 ?_
        exact xx_ireturn C (rt_ip hf Q) (dd_X7_all.at 21 rfl) rfl
      · refine xx_if_ne_t (tgt := 41) C (dd_X7_all.at 19 rfl) (by decide) hc ?_
        refine xx_iconst C (dd_X7_all.at 22 rfl) ic_0 ?_
        refine xx_istore_n (lv' := [_, _, _, _, _, _, _, _]) C (dd_X7_all.at 23 rfl) (lb_ rfl) rfl ?_
        refine xx_iconst C (dd_X7_all.at 24 rfl) ic_0 ?_
        refine xx_istore (lv' := [_, _, _, _, _, _, _, _]) C (dd_X7_all.at 25 rfl) (lb_ rfl) rfl ?_
        exact xx_mask [true, true, true, true, true, false, false, false] (ss_X7_all_46 C Q _ _ _ hf)
theorem ss_X7_finds_54 {Z : zz_} (C : cx_ Z mt_X7_finds 3) {r9 : Int32} {x1 : Int32} {x2 : Int32} {x3 : Int32} {h : hh_}  (Q : rq_ Z (some (.int r9)) h) : ∀ (n9 : Nat) (x4 : Int32), ff_X7_finds_54 x1 x2 x3 h n9 x4 = some r9 → xx_ Z 54 [some (.ref 1), some (.int x1), some (.int x2), some (.int x3), some (.int x4)] [] h := by
  intro n9
  induction n9 with
  | zero =>
    intro x4 hf
    exact absurd hf (by rw [ff_X7_finds_54]; exact nofun)
  | succ n9 ih =>
    intro x4 hf
    rw [ff_X7_finds_54] at hf
    refine xx_iload C (dd_X7_finds.at 30 rfl) rfl ?_
    refine xx_aload_n C (dd_X7_finds.at 31 rfl) rfl (Nat.le_of_ble_eq_true rfl) ?_
    obtain ⟨g8, hf⟩ := gd_ok hf
    refine xx_getR (j := 7) (r := h.2.2.1) C ck_6 (lb_ rfl) lf_RX7_55 sh_k1 rfl (lb_ rfl) rfl (dd_X7_finds.at 32 rfl) ?_
    refine xx_getR (j := 4) (r := (h.2.2.1 + 23)) C ck_1 (lb_ rfl) lf_RX7_118 (sh_o (bo_ok g8)) rfl (rc_o4 (bo_ok g8)) (rf_o4 (bo_ok g8)) (dd_X7_finds.at 33 rfl) ?_
    refine xx_iconst C (dd_X7_finds.at 34 rfl) ic_1 ?_
    refine xx_iaload C (dd_X7_finds.at 35 rfl) (sh_o23 (bo_ok g8)) (bi_ok (i := (1 : Int32)) (n := 3) rfl) ?_
    rcases ifo_ hf with ⟨hc, hf⟩ | ⟨hc, hf⟩
    · refine xx_icmp_ge_t (tgt := 110) C (dd_X7_finds.at 36 rfl) (by decide) hc ?_
      refine xx_bipush C (dd_X7_finds.at 59 rfl) bq_m9 ?_
      exact xx_ireturn C (rt_ip hf Q) (dd_X7_finds.at 60 rfl) rfl
    · refine xx_icmp_ge_f (tgt := 110) C (dd_X7_finds.at 36 rfl) (by decide) hc ?_
      refine xx_iload C (dd_X7_finds.at 37 rfl) rfl ?_
      refine xx_iload_n C (dd_X7_finds.at 38 rfl) rfl ?_
      rcases ifo_ hf with ⟨hc, hf⟩ | ⟨hc, hf⟩
      · refine xx_icmp_eq_t (tgt := 104) C (dd_X7_finds.at 39 rfl) (by decide) hc ?_
        refine xx_iinc (v := _ + (1 : Int32)) (lv' := [_, _, _, _, _]) C (dd_X7_finds.at 57 rfl) (lb_ rfl) rfl (by rw [ic_1]) rfl ?_
        refine xx_goto (tgt := 54) C (dd_X7_finds.at 58 rfl) (by decide) ?_
        exact xx_mask [true, true, true, true, true] (ih _ hf)
      · refine xx_icmp_eq_f (tgt := 104) C (dd_X7_finds.at 39 rfl) (by decide) hc ?_
        refine xx_aload_n C (dd_X7_finds.at 40 rfl) rfl (Nat.le_of_ble_eq_true rfl) ?_
        refine xx_getR (j := 7) (r := h.2.2.1) C ck_6 (lb_ rfl) lf_RX7_55 sh_k1 rfl (lb_ rfl) rfl (dd_X7_finds.at 41 rfl) ?_
        refine xx_iload C (dd_X7_finds.at 42 rfl) rfl ?_
        refine xx_iload_n C (dd_X7_finds.at 43 rfl) rfl ?_
        refine xx_iload_n C (dd_X7_finds.at 44 rfl) rfl ?_
        refine xx_iconst C (dd_X7_finds.at 45 rfl) ic_1 ?_
        obtain ⟨v9, e10, hf⟩ := bdo_ hf
        refine xx_callVi C (ss_X2_least (bo_ok g8) e10) (dd_X7_finds.at 46 rfl) ck_1 rfl (sh_o (bo_ok g8)) kk_X2_least ki_X2_least lm_RX7_181 (lb_ rfl) rfl rfl (lb_ rfl) ?_
        refine xx_aload_n C (dd_X7_finds.at 47 rfl) rfl (Nat.le_of_ble_eq_true rfl) ?_
        refine xx_getR (j := 7) (r := h.2.2.1) C ck_6 (lb_ rfl) lf_RX7_55 sh_k1 rfl (lb_ rfl) rfl (dd_X7_finds.at 48 rfl) ?_
        refine xx_iload C (dd_X7_finds.at 49 rfl) rfl ?_
        refine xx_iload_n C (dd_X7_finds.at 50 rfl) rfl ?_
        refine xx_iload_n C (dd_X7_finds.at 51 rfl) rfl ?_
        refine xx_iconst C (dd_X7_finds.at 52 rfl) ic_0 ?_
        obtain ⟨v11, e12, hf⟩ := bdo_ hf
        refine xx_callVi C (ss_X2_most (bo_ok g8) e12) (dd_X7_finds.at 53 rfl) ck_1 rfl (sh_o (bo_ok g8)) kk_X2_most ki_X2_most lm_RX7_177 (lb_ rfl) rfl rfl (lb_ rfl) ?_
        rcases ifo_ hf with ⟨hc, hf⟩ | ⟨hc, hf⟩
        · refine xx_icmp_le_t (tgt := 104) C (dd_X7_finds.at 54 rfl) (by decide) hc ?_
          refine xx_iinc (v := _ + (1 : Int32)) (lv' := [_, _, _, _, _]) C (dd_X7_finds.at 57 rfl) (lb_ rfl) rfl (by rw [ic_1]) rfl ?_
          refine xx_goto (tgt := 54) C (dd_X7_finds.at 58 rfl) (by decide) ?_
          exact xx_mask [true, true, true, true, true] (ih _ hf)
        · refine xx_icmp_le_f (tgt := 104) C (dd_X7_finds.at 54 rfl) (by decide) hc ?_
          refine xx_iload C (dd_X7_finds.at 55 rfl) rfl ?_
          exact xx_ireturn C (rt_ip hf Q) (dd_X7_finds.at 56 rfl) rfl
theorem ss_X7_finds {l : Launch} {G : gt_} {a1 : Int32} {a2 : Int32} {a3 : Int32} {h : hh_} {r9 : Int32}  (hf : ff_X7_finds a1 a2 a3 h = some r9) : ok_ l G 3 mt_X7_finds [.ref 1, .int a1, .int a2, .int a3] h (some (.int r9)) h := by
  refine ok_of pn_RX7 (lb_ rfl) (fun Z _ _ C Q => ?_)
  show xx_ Z 0 [some (.ref 1), some (.int a1), some (.int a2), some (.int a3), none] [] h
  unfold ff_X7_finds at hf
  refine xx_aload_n C (dd_X7_finds.at 0 rfl) rfl (Nat.le_of_ble_eq_true rfl) ?_
  obtain ⟨g1, hf⟩ := gd_ok hf
  refine xx_getR (j := 7) (r := h.2.2.1) C ck_6 (lb_ rfl) lf_RX7_55 sh_k1 rfl (lb_ rfl) rfl (dd_X7_finds.at 1 rfl) ?_
  refine xx_iconst C (dd_X7_finds.at 2 rfl) ic_1 ?_
  refine xx_iload_n C (dd_X7_finds.at 3 rfl) rfl ?_
  obtain ⟨v2, e3, hf⟩ := bdo_ hf
  refine xx_callVi C (ss_X2_has (bo_ok g1) e3) (dd_X7_finds.at 4 rfl) ck_1 rfl (sh_o (bo_ok g1)) kk_X2_has ki_X2_has lm_RX7_119 (lb_ rfl) rfl rfl (lb_ rfl) ?_
  rcases ifo_ hf with ⟨hc, hf⟩ | ⟨hc, hf⟩
  · refine xx_if_eq_t (tgt := 31) C (dd_X7_finds.at 5 rfl) (by decide) hc ?_
    refine xx_iconst C (dd_X7_finds.at 15 rfl) ic_m1 ?_
    exact xx_ireturn C (rt_ip hf Q) (dd_X7_finds.at 16 rfl) rfl
  · refine xx_if_eq_f (tgt := 31) C (dd_X7_finds.at 5 rfl) (by decide) hc ?_
    refine xx_aload_n C (dd_X7_finds.at 6 rfl) rfl (Nat.le_of_ble_eq_true rfl) ?_
    refine xx_getR (j := 7) (r := h.2.2.1) C ck_6 (lb_ rfl) lf_RX7_55 sh_k1 rfl (lb_ rfl) rfl (dd_X7_finds.at 7 rfl) ?_
    refine xx_iconst C (dd_X7_finds.at 8 rfl) ic_0 ?_
    refine xx_iload_n C (dd_X7_finds.at 9 rfl) rfl ?_
    obtain ⟨v4, e5, hf⟩ := bdo_ hf
    refine xx_callVi C (ss_X2_has (bo_ok g1) e5) (dd_X7_finds.at 10 rfl) ck_1 rfl (sh_o (bo_ok g1)) kk_X2_has ki_X2_has lm_RX7_119 (lb_ rfl) rfl rfl (lb_ rfl) ?_
    rcases ifo_ hf with ⟨hc, hf⟩ | ⟨hc, hf⟩
    · refine xx_if_eq_t (tgt := 31) C (dd_X7_finds.at 11 rfl) (by decide) hc ?_
      refine xx_iconst C (dd_X7_finds.at 15 rfl) ic_m1 ?_
      exact xx_ireturn C (rt_ip hf Q) (dd_X7_finds.at 16 rfl) rfl
    · refine xx_if_eq_f (tgt := 31) C (dd_X7_finds.at 11 rfl) (by decide) hc ?_
      refine xx_iload_n C (dd_X7_finds.at 12 rfl) rfl ?_
      refine xx_callSi C (ss_X7_isPlace rfl) (dd_X7_finds.at 13 rfl) kk_X7_isPlace ks_X7_isPlace lm_RX7_154 (lb_ rfl) rfl rfl (lb_ rfl) ?_
      rcases ifo_ hf with ⟨hc, hf⟩ | ⟨hc, hf⟩
      · refine xx_if_ne_f (tgt := 33) C (dd_X7_finds.at 14 rfl) (by decide) (not_not_intro hc) ?_
        refine xx_iconst C (dd_X7_finds.at 15 rfl) ic_m1 ?_
        exact xx_ireturn C (rt_ip hf Q) (dd_X7_finds.at 16 rfl) rfl
      · refine xx_if_ne_t (tgt := 33) C (dd_X7_finds.at 14 rfl) (by decide) hc ?_
        refine xx_aload_n C (dd_X7_finds.at 17 rfl) rfl (Nat.le_of_ble_eq_true rfl) ?_
        refine xx_getR (j := 7) (r := h.2.2.1) C ck_6 (lb_ rfl) lf_RX7_55 sh_k1 rfl (lb_ rfl) rfl (dd_X7_finds.at 18 rfl) ?_
        refine xx_getR (j := 1) (r := (h.2.2.1 + 7)) C ck_1 (lb_ rfl) lf_RX7_157 (sh_o (bo_ok g1)) rfl (rc_o1 (bo_ok g1)) (rf_o1 (bo_ok g1)) (dd_X7_finds.at 19 rfl) ?_
        refine xx_iload_n C (dd_X7_finds.at 20 rfl) rfl ?_
        obtain ⟨g6, hf⟩ := gd_ok hf
        refine xx_aaload (r := (h.2.2.1 + 8 + Int32.toNatClampNeg a2)) C (dd_X7_finds.at 21 rfl) (sh_o7 (bo_ok g1)) (bi_ok g6) (sh_lt (sh_oe7 (bo_ok g1) (bi_ok g6))) rfl ?_
        refine xx_iload_n C (dd_X7_finds.at 22 rfl) rfl ?_
        obtain ⟨g7, hf⟩ := gd_ok hf
        refine xx_iaload C (dd_X7_finds.at 23 rfl) (sh_oe7 (bo_ok g1) (bi_ok g6)) (bi_ok g7) ?_
        refine xx_iconst C (dd_X7_finds.at 24 rfl) ic_5 ?_
        rcases ifo_ hf with ⟨hc, hf⟩ | ⟨hc, hf⟩
        · refine xx_icmp_lt_t (tgt := 51) C (dd_X7_finds.at 25 rfl) (by decide) hc ?_
          refine xx_iconst C (dd_X7_finds.at 28 rfl) ic_0 ?_
          refine xx_istore (lv' := [_, _, _, _, _]) C (dd_X7_finds.at 29 rfl) (lb_ rfl) rfl ?_
          exact xx_mask [true, true, true, true, true] (ss_X7_finds_54 C Q _ _ hf)
        · refine xx_icmp_lt_f (tgt := 51) C (dd_X7_finds.at 25 rfl) (by decide) hc ?_
          refine xx_bipush C (dd_X7_finds.at 26 rfl) bq_m4 ?_
          exact xx_ireturn C (rt_ip hf Q) (dd_X7_finds.at 27 rfl) rfl
theorem ss_X2_surePosts_6 {Z : zz_} (C : cx_ Z mt_X2_surePosts 4) {r9 : Int32} {x0 : Nat} {x1 : Int32} {x2 : Int32} {x3 : Int32} {h : hh_}  (Q : rq_ Z (some (.int r9)) h) (ho0 : isO_ x0) : ∀ (n9 : Nat) (x4 : Int32) (x5 : Int32), ff_X2_surePosts_6 x0 x1 x2 x3 h n9 x4 x5 = some r9 → xx_ Z 6 [some (.ref x0), some (.int x1), some (.int x2), some (.int x3), some (.int x4), some (.int x5)] [] h := by
  intro n9
  induction n9 with
  | zero =>
    intro x4 x5 hf
    exact absurd hf (by rw [ff_X2_surePosts_6]; exact nofun)
  | succ n9 ih =>
    intro x4 x5 hf
    rw [ff_X2_surePosts_6] at hf
    refine xx_iload C (dd_X2_surePosts.at 4 rfl) rfl ?_
    refine xx_aload_n C (dd_X2_surePosts.at 5 rfl) rfl (isO_pos ho0) ?_
    refine xx_getR (j := 4) (r := (x0 + 23)) C ck_1 (lb_ rfl) lf_RX2_25 (sh_o ho0) rfl (rc_o4 ho0) (rf_o4 ho0) (dd_X2_surePosts.at 6 rfl) ?_
    refine xx_iconst C (dd_X2_surePosts.at 7 rfl) ic_2 ?_
    refine xx_iaload C (dd_X2_surePosts.at 8 rfl) (sh_o23 ho0) (bi_ok (i := (2 : Int32)) (n := 3) rfl) ?_
    rcases ifo_ hf with ⟨hc, hf⟩ | ⟨hc, hf⟩
    · refine xx_icmp_ge_t (tgt := 44) C (dd_X2_surePosts.at 9 rfl) (by decide) hc ?_
      refine xx_iload C (dd_X2_surePosts.at 25 rfl) rfl ?_
      exact xx_ireturn C (rt_ip hf Q) (dd_X2_surePosts.at 26 rfl) rfl
    · refine xx_icmp_ge_f (tgt := 44) C (dd_X2_surePosts.at 9 rfl) (by decide) hc ?_
      refine xx_aload_n C (dd_X2_surePosts.at 10 rfl) rfl (isO_pos ho0) ?_
      refine xx_iload_n C (dd_X2_surePosts.at 11 rfl) rfl ?_
      refine xx_iload_n C (dd_X2_surePosts.at 12 rfl) rfl ?_
      refine xx_iload C (dd_X2_surePosts.at 13 rfl) rfl ?_
      refine xx_iload_n C (dd_X2_surePosts.at 14 rfl) rfl ?_
      obtain ⟨v1, e2, hf⟩ := bdo_ hf
      refine xx_callVi C (ss_X2_isSure ho0 e2) (dd_X2_surePosts.at 15 rfl) ck_1 rfl (sh_o ho0) kk_X2_isSure ki_X2_isSure lm_RX2_109 (lb_ rfl) rfl rfl (lb_ rfl) ?_
      rcases ifo_ hf with ⟨hc, hf⟩ | ⟨hc, hf⟩
      · refine xx_if_eq_t (tgt := 38) C (dd_X2_surePosts.at 16 rfl) (by decide) hc ?_
        refine xx_iinc (v := _ + (1 : Int32)) (lv' := [_, _, _, _, _, _]) C (dd_X2_surePosts.at 23 rfl) (lb_ rfl) rfl (by rw [ic_1]) rfl ?_
        refine xx_goto (tgt := 6) C (dd_X2_surePosts.at 24 rfl) (by decide) ?_
        exact xx_mask [true, true, true, true, true, true] (ih _ _ hf)
      · refine xx_if_eq_f (tgt := 38) C (dd_X2_surePosts.at 16 rfl) (by decide) hc ?_
        refine xx_iload C (dd_X2_surePosts.at 17 rfl) rfl ?_
        refine xx_iconst C (dd_X2_surePosts.at 18 rfl) ic_1 ?_
        refine xx_iload C (dd_X2_surePosts.at 19 rfl) rfl ?_
        refine xx_ishl C (dd_X2_surePosts.at 20 rfl) ?_
        refine xx_ior C (dd_X2_surePosts.at 21 rfl) ?_
        refine xx_istore (lv' := [_, _, _, _, _, _]) C (dd_X2_surePosts.at 22 rfl) (lb_ rfl) rfl ?_
        refine xx_iinc (v := _ + (1 : Int32)) (lv' := [_, _, _, _, _, _]) C (dd_X2_surePosts.at 23 rfl) (lb_ rfl) rfl (by rw [ic_1]) rfl ?_
        refine xx_goto (tgt := 6) C (dd_X2_surePosts.at 24 rfl) (by decide) ?_
        exact xx_mask [true, true, true, true, true, true] (ih _ _ hf)
theorem ss_X2_surePosts {l : Launch} {G : gt_} {o : Nat} {a1 : Int32} {a2 : Int32} {a3 : Int32} {h : hh_} {r9 : Int32} (ho : isO_ o) (hf : ff_X2_surePosts o a1 a2 a3 h = some r9) : ok_ l G 4 mt_X2_surePosts [.ref o, .int a1, .int a2, .int a3] h (some (.int r9)) h := by
  refine ok_of pn_RX2 (lb_ rfl) (fun Z _ _ C Q => ?_)
  show xx_ Z 0 [some (.ref o), some (.int a1), some (.int a2), some (.int a3), none, none] [] h
  unfold ff_X2_surePosts at hf
  refine xx_iconst C (dd_X2_surePosts.at 0 rfl) ic_0 ?_
  refine xx_istore (lv' := [_, _, _, _, _, _]) C (dd_X2_surePosts.at 1 rfl) (lb_ rfl) rfl ?_
  refine xx_iconst C (dd_X2_surePosts.at 2 rfl) ic_0 ?_
  refine xx_istore (lv' := [_, _, _, _, _, _]) C (dd_X2_surePosts.at 3 rfl) (lb_ rfl) rfl ?_
  exact xx_mask [true, true, true, true, true, true] (ss_X2_surePosts_6 C Q ho _ _ _ hf)
theorem ss_X7_posts_31 {Z : zz_} (C : cx_ Z mt_X7_posts 5) {r9 : Int32} {h9 : hh_} {x1 : Int32} {x2 : Int32} {h : hh_}  (Q : rq_ Z (some (.int r9)) h9) : ∀ (n9 : Nat) (x3 : Int32) (x4 : Int32), ff_X7_posts_31 x1 x2 h n9 x3 x4 = some (r9, h9) → xx_ Z 31 [some (.ref 1), some (.int x1), some (.int x2), some (.int x3), some (.int x4)] [] h := by
  intro n9
  induction n9 with
  | zero =>
    intro x3 x4 hf
    exact absurd hf (by rw [ff_X7_posts_31]; exact nofun)
  | succ n9 ih =>
    intro x3 x4 hf
    rw [ff_X7_posts_31] at hf
    refine xx_iload C (dd_X7_posts.at 18 rfl) rfl ?_
    refine xx_aload_n C (dd_X7_posts.at 19 rfl) rfl (Nat.le_of_ble_eq_true rfl) ?_
    obtain ⟨g6, hf⟩ := gd_ok hf
    refine xx_getR (j := 7) (r := h.2.2.1) C ck_6 (lb_ rfl) lf_RX7_55 sh_k1 rfl (lb_ rfl) rfl (dd_X7_posts.at 20 rfl) ?_
    refine xx_getR (j := 4) (r := (h.2.2.1 + 23)) C ck_1 (lb_ rfl) lf_RX7_118 (sh_o (bo_ok g6)) rfl (rc_o4 (bo_ok g6)) (rf_o4 (bo_ok g6)) (dd_X7_posts.at 21 rfl) ?_
    refine xx_iconst C (dd_X7_posts.at 22 rfl) ic_2 ?_
    refine xx_iaload C (dd_X7_posts.at 23 rfl) (sh_o23 (bo_ok g6)) (bi_ok (i := (2 : Int32)) (n := 3) rfl) ?_
    rcases ifo_ hf with ⟨hc, hf⟩ | ⟨hc, hf⟩
    · refine xx_icmp_ge_t (tgt := 72) C (dd_X7_posts.at 24 rfl) (by decide) hc ?_
      refine xx_aload_n C (dd_X7_posts.at 40 rfl) rfl (Nat.le_of_ble_eq_true rfl) ?_
      refine xx_getR (j := 5) (r := 36) C ck_6 (lb_ rfl) lf_RX7_44 sh_k1 rfl (lb_ rfl) rfl (dd_X7_posts.at 41 rfl) ?_
      refine xx_iload_n C (dd_X7_posts.at 42 rfl) rfl ?_
      refine xx_callVi C (ss_X6_tell pe_) (dd_X7_posts.at 43 rfl) ck_5 rfl sh_k36 kk_X6_tell ki_X6_tell lm_RX7_83 (lb_ rfl) rfl rfl (lb_ rfl) ?_
      refine xx_pop C (dd_X7_posts.at 44 rfl) rfl ?_
      refine xx_aload_n C (dd_X7_posts.at 45 rfl) rfl (Nat.le_of_ble_eq_true rfl) ?_
      obtain ⟨g7, hf⟩ := gd_ok hf
      refine xx_getR (j := 7) (r := (ff_X6_tell x3 h).2.2.2.1) C ck_6 (lb_ rfl) lf_RX7_55 sh_k1 rfl (lb_ rfl) rfl (dd_X7_posts.at 46 rfl) ?_
      refine xx_iload_n C (dd_X7_posts.at 47 rfl) rfl ?_
      refine xx_iload_n C (dd_X7_posts.at 48 rfl) rfl ?_
      refine xx_bipush C (dd_X7_posts.at 49 rfl) bq_m9 ?_
      obtain ⟨v8, e9, hf⟩ := bdo_ hf
      refine xx_callVi C (ss_X2_surePosts (bo_ok g7) e9) (dd_X7_posts.at 50 rfl) ck_1 rfl (sh_o (bo_ok g7)) kk_X2_surePosts ki_X2_surePosts lm_RX7_228 (lb_ rfl) rfl rfl (lb_ rfl) ?_
      exact xx_ireturn C (rt_iwp hf Q) (dd_X7_posts.at 51 rfl) rfl
    · refine xx_icmp_ge_f (tgt := 72) C (dd_X7_posts.at 24 rfl) (by decide) hc ?_
      refine xx_aload_n C (dd_X7_posts.at 25 rfl) rfl (Nat.le_of_ble_eq_true rfl) ?_
      refine xx_getR (j := 7) (r := h.2.2.1) C ck_6 (lb_ rfl) lf_RX7_55 sh_k1 rfl (lb_ rfl) rfl (dd_X7_posts.at 26 rfl) ?_
      refine xx_iload_n C (dd_X7_posts.at 27 rfl) rfl ?_
      refine xx_iload_n C (dd_X7_posts.at 28 rfl) rfl ?_
      refine xx_iload C (dd_X7_posts.at 29 rfl) rfl ?_
      obtain ⟨v10, e11, hf⟩ := bdo_ hf
      refine xx_callVi C (ss_X2_isLucky (bo_ok g6) e11) (dd_X7_posts.at 30 rfl) ck_1 rfl (sh_o (bo_ok g6)) kk_X2_isLucky ki_X2_isLucky lm_RX7_213 (lb_ rfl) rfl rfl (lb_ rfl) ?_
      rcases ifo_ hf with ⟨hc, hf⟩ | ⟨hc, hf⟩
      · refine xx_if_eq_t (tgt := 66) C (dd_X7_posts.at 31 rfl) (by decide) hc ?_
        refine xx_iinc (v := _ + (1 : Int32)) (lv' := [_, _, _, _, _]) C (dd_X7_posts.at 38 rfl) (lb_ rfl) rfl (by rw [ic_1]) rfl ?_
        refine xx_goto (tgt := 31) C (dd_X7_posts.at 39 rfl) (by decide) ?_
        exact xx_mask [true, true, true, true, true] (ih _ _ hf)
      · refine xx_if_eq_f (tgt := 66) C (dd_X7_posts.at 31 rfl) (by decide) hc ?_
        refine xx_iload_n C (dd_X7_posts.at 32 rfl) rfl ?_
        refine xx_iconst C (dd_X7_posts.at 33 rfl) ic_1 ?_
        refine xx_iload C (dd_X7_posts.at 34 rfl) rfl ?_
        refine xx_ishl C (dd_X7_posts.at 35 rfl) ?_
        refine xx_ior C (dd_X7_posts.at 36 rfl) ?_
        refine xx_istore_n (lv' := [_, _, _, _, _]) C (dd_X7_posts.at 37 rfl) (lb_ rfl) rfl ?_
        refine xx_iinc (v := _ + (1 : Int32)) (lv' := [_, _, _, _, _]) C (dd_X7_posts.at 38 rfl) (lb_ rfl) rfl (by rw [ic_1]) rfl ?_
        refine xx_goto (tgt := 31) C (dd_X7_posts.at 39 rfl) (by decide) ?_
        exact xx_mask [true, true, true, true, true] (ih _ _ hf)
theorem ss_X7_posts {l : Launch} {G : gt_} {a1 : Int32} {a2 : Int32} {h : hh_} {r9 : Int32} {h9 : hh_}  (hf : ff_X7_posts a1 a2 h = some (r9, h9)) : ok_ l G 5 mt_X7_posts [.ref 1, .int a1, .int a2] h (some (.int r9)) h9 := by
  refine ok_of pn_RX7 (lb_ rfl) (fun Z _ _ C Q => ?_)
  show xx_ Z 0 [some (.ref 1), some (.int a1), some (.int a2), none, none] [] h
  unfold ff_X7_posts at hf
  refine xx_aload_n C (dd_X7_posts.at 0 rfl) rfl (Nat.le_of_ble_eq_true rfl) ?_
  obtain ⟨g1, hf⟩ := gd_ok hf
  refine xx_getR (j := 7) (r := h.2.2.1) C ck_6 (lb_ rfl) lf_RX7_55 sh_k1 rfl (lb_ rfl) rfl (dd_X7_posts.at 1 rfl) ?_
  refine xx_iconst C (dd_X7_posts.at 2 rfl) ic_1 ?_
  refine xx_iload_n C (dd_X7_posts.at 3 rfl) rfl ?_
  obtain ⟨v2, e3, hf⟩ := bdo_ hf
  refine xx_callVi C (ss_X2_has (bo_ok g1) e3) (dd_X7_posts.at 4 rfl) ck_1 rfl (sh_o (bo_ok g1)) kk_X2_has ki_X2_has lm_RX7_119 (lb_ rfl) rfl rfl (lb_ rfl) ?_
  rcases ifo_ hf with ⟨hc, hf⟩ | ⟨hc, hf⟩
  · refine xx_if_eq_t (tgt := 24) C (dd_X7_posts.at 5 rfl) (by decide) hc ?_
    refine xx_iconst C (dd_X7_posts.at 12 rfl) ic_m1 ?_
    exact xx_ireturn C (rt_iwp hf Q) (dd_X7_posts.at 13 rfl) rfl
  · refine xx_if_eq_f (tgt := 24) C (dd_X7_posts.at 5 rfl) (by decide) hc ?_
    refine xx_aload_n C (dd_X7_posts.at 6 rfl) rfl (Nat.le_of_ble_eq_true rfl) ?_
    refine xx_getR (j := 7) (r := h.2.2.1) C ck_6 (lb_ rfl) lf_RX7_55 sh_k1 rfl (lb_ rfl) rfl (dd_X7_posts.at 7 rfl) ?_
    refine xx_iconst C (dd_X7_posts.at 8 rfl) ic_0 ?_
    refine xx_iload_n C (dd_X7_posts.at 9 rfl) rfl ?_
    obtain ⟨v4, e5, hf⟩ := bdo_ hf
    refine xx_callVi C (ss_X2_has (bo_ok g1) e5) (dd_X7_posts.at 10 rfl) ck_1 rfl (sh_o (bo_ok g1)) kk_X2_has ki_X2_has lm_RX7_119 (lb_ rfl) rfl rfl (lb_ rfl) ?_
    rcases ifo_ hf with ⟨hc, hf⟩ | ⟨hc, hf⟩
    · refine xx_if_ne_f (tgt := 26) C (dd_X7_posts.at 11 rfl) (by decide) (not_not_intro hc) ?_
      refine xx_iconst C (dd_X7_posts.at 12 rfl) ic_m1 ?_
      exact xx_ireturn C (rt_iwp hf Q) (dd_X7_posts.at 13 rfl) rfl
    · refine xx_if_ne_t (tgt := 26) C (dd_X7_posts.at 11 rfl) (by decide) hc ?_
      refine xx_iconst C (dd_X7_posts.at 14 rfl) ic_0 ?_
      refine xx_istore_n (lv' := [_, _, _, _, _]) C (dd_X7_posts.at 15 rfl) (lb_ rfl) rfl ?_
      refine xx_iconst C (dd_X7_posts.at 16 rfl) ic_0 ?_
      refine xx_istore (lv' := [_, _, _, _, _]) C (dd_X7_posts.at 17 rfl) (lb_ rfl) rfl ?_
      exact xx_mask [true, true, true, true, true] (ss_X7_posts_31 C Q _ _ _ hf)
theorem ss_X3_openByOne_2 {Z : zz_} (C : cx_ Z mt_X3_openByOne 5) {h9 : hh_} {x1 : Nat} {x2 : Int32}  (Q : rq_ Z none h9) (ho1 : isO_ x1) : ∀ (n9 : Nat) (x3 : Int32) (h : hh_), ff_X3_openByOne_2 x1 x2 n9 x3 h = some h9 → xx_ Z 2 [some (.ref 20), some (.ref x1), some (.int x2), some (.int x3)] [] h := by
  intro n9
  induction n9 with
  | zero =>
    intro x3 h hf
    exact absurd hf (by rw [ff_X3_openByOne_2]; exact nofun)
  | succ n9 ih =>
    intro x3 h hf
    rw [ff_X3_openByOne_2] at hf
    refine xx_iload_n C (dd_X3_openByOne.at 2 rfl) rfl ?_
    refine xx_aload_n C (dd_X3_openByOne.at 3 rfl) rfl (isO_pos ho1) ?_
    refine xx_getR (j := 4) (r := (x1 + 23)) C ck_1 (lb_ rfl) lf_RX3_23 (sh_o ho1) rfl (rc_o4 ho1) (rf_o4 ho1) (dd_X3_openByOne.at 4 rfl) ?_
    refine xx_iconst C (dd_X3_openByOne.at 5 rfl) ic_0 ?_
    refine xx_iaload C (dd_X3_openByOne.at 6 rfl) (sh_o23 ho1) (bi_ok (i := (0 : Int32)) (n := 3) rfl) ?_
    rcases ifo_ hf with ⟨hc, hf⟩ | ⟨hc, hf⟩
    · refine xx_icmp_ge_t (tgt := 32) C (dd_X3_openByOne.at 7 rfl) (by decide) hc ?_
      exact xx_return C (rt_vwp hf Q) (dd_X3_openByOne.at 19 rfl) rfl
    · refine xx_icmp_ge_f (tgt := 32) C (dd_X3_openByOne.at 7 rfl) (by decide) hc ?_
      refine xx_aload_n C (dd_X3_openByOne.at 8 rfl) rfl (Nat.le_of_ble_eq_true rfl) ?_
      refine xx_getR (j := 0) (r := 21) C ck_2 (lb_ rfl) lf_RX3_9 sh_k20 rfl (lb_ rfl) rfl (dd_X3_openByOne.at 9 rfl) ?_
      refine xx_iload_n C (dd_X3_openByOne.at 10 rfl) rfl ?_
      refine xx_aload_n C (dd_X3_openByOne.at 11 rfl) rfl (isO_pos ho1) ?_
      refine xx_iload_n C (dd_X3_openByOne.at 12 rfl) rfl ?_
      refine xx_iload_n C (dd_X3_openByOne.at 13 rfl) rfl ?_
      refine xx_bipush C (dd_X3_openByOne.at 14 rfl) bq_m9 ?_
      obtain ⟨v1, e2, hf⟩ := bdo_ hf
      refine xx_callVi C (ss_X2_surePosts ho1 e2) (dd_X3_openByOne.at 15 rfl) ck_1 rfl (sh_o ho1) kk_X2_surePosts ki_X2_surePosts lm_RX3_28 (lb_ rfl) rfl rfl (lb_ rfl) ?_
      obtain ⟨g3, hf⟩ := gd_ok hf
      refine xx_iastore C (dd_X3_openByOne.at 16 rfl) sh_k21 (bi_ok g3) ?_
      refine xx_iinc (v := _ + (1 : Int32)) (lv' := [_, _, _, _]) C (dd_X3_openByOne.at 17 rfl) (lb_ rfl) rfl (by rw [ic_1]) rfl ?_
      refine xx_goto (tgt := 2) C (dd_X3_openByOne.at 18 rfl) (by decide) ?_
      exact xx_mask [true, true, true, true] (ih _ _ hf)
theorem ss_X3_openByOne {l : Launch} {G : gt_} {a1 : Nat} {a2 : Int32} {h : hh_} {h9 : hh_} (ho1 : isO_ a1) (hf : ff_X3_openByOne a1 a2 h = some h9) : ok_ l G 5 mt_X3_openByOne [.ref 20, .ref a1, .int a2] h none h9 := by
  refine ok_of pn_RX3 (lb_ rfl) (fun Z _ _ C Q => ?_)
  show xx_ Z 0 [some (.ref 20), some (.ref a1), some (.int a2), none] [] h
  unfold ff_X3_openByOne at hf
  refine xx_iconst C (dd_X3_openByOne.at 0 rfl) ic_0 ?_
  refine xx_istore_n (lv' := [_, _, _, _]) C (dd_X3_openByOne.at 1 rfl) (lb_ rfl) rfl ?_
  exact xx_mask [true, true, true, true] (ss_X3_openByOne_2 C Q ho1 _ _ _ hf)
theorem ss_X3_isFree {l : Launch} {G : gt_} {a1 : Int32} {a2 : Int32} {a3 : Int32} {h : hh_} {r9 : Int32}  (hf : ff_X3_isFree a1 a2 a3 h = some r9) : ok_ l G 0 mt_X3_isFree [.ref 20, .int a1, .int a2, .int a3] h (some (.int r9)) h := by
  refine ok_of pn_RX3 (lb_ rfl) (fun Z _ _ C Q => ?_)
  show xx_ Z 0 [some (.ref 20), some (.int a1), some (.int a2), some (.int a3)] [] h
  unfold ff_X3_isFree at hf
  refine xx_aload_n C (dd_X3_isFree.at 0 rfl) rfl (Nat.le_of_ble_eq_true rfl) ?_
  refine xx_getR (j := 0) (r := 21) C ck_2 (lb_ rfl) lf_RX3_9 sh_k20 rfl (lb_ rfl) rfl (dd_X3_isFree.at 1 rfl) ?_
  refine xx_iload_n C (dd_X3_isFree.at 2 rfl) rfl ?_
  obtain ⟨g1, hf⟩ := gd_ok hf
  refine xx_iaload C (dd_X3_isFree.at 3 rfl) sh_k21 (bi_ok g1) ?_
  refine xx_iload_n C (dd_X3_isFree.at 4 rfl) rfl ?_
  refine xx_iconst C (dd_X3_isFree.at 5 rfl) ic_m1 ?_
  refine xx_ixor C (dd_X3_isFree.at 6 rfl) ?_
  refine xx_iand C (dd_X3_isFree.at 7 rfl) ?_
  refine xx_iconst C (dd_X3_isFree.at 8 rfl) ic_1 ?_
  refine xx_iload_n C (dd_X3_isFree.at 9 rfl) rfl ?_
  refine xx_ishl C (dd_X3_isFree.at 10 rfl) ?_
  refine xx_iand C (dd_X3_isFree.at 11 rfl) ?_
  rcases ifo_ hf with ⟨hc, hf⟩ | ⟨hc, hf⟩
  · refine xx_if_eq_t (tgt := 21) C (dd_X3_isFree.at 12 rfl) (by decide) hc ?_
    refine xx_iconst C (dd_X3_isFree.at 15 rfl) ic_0 ?_
    exact xx_zreturn C (rt_ip hf Q) (dd_X3_isFree.at 16 rfl) rfl zb_0
  · refine xx_if_eq_f (tgt := 21) C (dd_X3_isFree.at 12 rfl) (by decide) hc ?_
    refine xx_iconst C (dd_X3_isFree.at 13 rfl) ic_1 ?_
    refine xx_goto (tgt := 22) C (dd_X3_isFree.at 14 rfl) (by decide) ?_
    exact xx_zreturn C (rt_ip hf Q) (dd_X3_isFree.at 16 rfl) rfl zb_1
theorem ss_X3_payBy {l : Launch} {G : gt_} {a1 : Nat} {a2 : Int32} {a3 : Int32} {a4 : Int32} {h : hh_} {r9 : Int32} (ho1 : isO_ a1) (hf : ff_X3_payBy a1 a2 a3 a4 h = some r9) : ok_ l G 0 mt_X3_payBy [.ref 20, .ref a1, .int a2, .int a3, .int a4] h (some (.int r9)) h := by
  refine ok_of pn_RX3 (lb_ rfl) (fun Z _ _ C Q => ?_)
  show xx_ Z 0 [some (.ref 20), some (.ref a1), some (.int a2), some (.int a3), some (.int a4)] [] h
  unfold ff_X3_payBy at hf
  refine xx_aload_n C (dd_X3_payBy.at 0 rfl) rfl (isO_pos ho1) ?_
  refine xx_getR (j := 3) (r := (a1 + 18)) C ck_1 (lb_ rfl) lf_RX3_50 (sh_o ho1) rfl (rc_o3 ho1) (rf_o3 ho1) (dd_X3_payBy.at 1 rfl) ?_
  refine xx_iload_n C (dd_X3_payBy.at 2 rfl) rfl ?_
  obtain ⟨g1, hf⟩ := gd_ok hf
  refine xx_aaload (r := (a1 + 19 + Int32.toNatClampNeg a3)) C (dd_X3_payBy.at 3 rfl) (sh_o18 ho1) (bi_ok g1) (sh_lt (sh_oe18 ho1 (bi_ok g1))) rfl ?_
  refine xx_iconst C (dd_X3_payBy.at 4 rfl) ic_4 ?_
  refine xx_iaload C (dd_X3_payBy.at 5 rfl) (sh_oe18 ho1 (bi_ok g1)) (bi_ok (i := (4 : Int32)) (n := 5) rfl) ?_
  refine xx_aload_n C (dd_X3_payBy.at 6 rfl) rfl (Nat.le_of_ble_eq_true rfl) ?_
  refine xx_getR (j := 1) (r := 22) C ck_2 (lb_ rfl) lf_RX3_17 sh_k20 rfl (lb_ rfl) rfl (dd_X3_payBy.at 7 rfl) ?_
  refine xx_iload_n C (dd_X3_payBy.at 8 rfl) rfl ?_
  refine xx_iconst C (dd_X3_payBy.at 9 rfl) ic_1 ?_
  refine xx_iadd C (dd_X3_payBy.at 10 rfl) ?_
  obtain ⟨g2, hf⟩ := gd_ok hf
  refine xx_aaload (r := (23 + Int32.toNatClampNeg (a2 + (1 : Int32)))) C (dd_X3_payBy.at 11 rfl) sh_k22 (bi_ok g2) (sh_lt (sh_e22 (bi_ok g2))) rfl ?_
  refine xx_iload C (dd_X3_payBy.at 12 rfl) rfl ?_
  refine xx_iconst C (dd_X3_payBy.at 13 rfl) ic_1 ?_
  refine xx_iload_n C (dd_X3_payBy.at 14 rfl) rfl ?_
  refine xx_ishl C (dd_X3_payBy.at 15 rfl) ?_
  refine xx_ior C (dd_X3_payBy.at 16 rfl) ?_
  obtain ⟨g3, hf⟩ := gd_ok hf
  refine xx_iaload C (dd_X3_payBy.at 17 rfl) (sh_e22 (bi_ok g2)) (bi_ok g3) ?_
  refine xx_iadd C (dd_X3_payBy.at 18 rfl) ?_
  exact xx_ireturn C (rt_ip hf Q) (dd_X3_payBy.at 19 rfl) rfl
theorem ss_X3_reckonFrom_39 {Z : zz_} (C : cx_ Z mt_X3_reckonFrom 1) {h9 : hh_} {x1 : Nat} {x2 : Int32} {x3 : Int32}  (Q : rq_ Z none h9) (ho1 : isO_ x1) : ∀ (n9 : Nat) (x4 : Int32) (h : hh_), ff_X3_reckonFrom_39 x1 x2 x3 n9 x4 h = some h9 → xx_ Z 39 [some (.ref 20), some (.ref x1), some (.int x2), some (.int x3), some (.int x4)] [] h := by
  intro n9
  induction n9 with
  | zero =>
    intro x4 h hf
    exact absurd hf (by rw [ff_X3_reckonFrom_39]; exact nofun)
  | succ n9 ih =>
    intro x4 h hf
    rw [ff_X3_reckonFrom_39] at hf
    refine xx_iload C (dd_X3_reckonFrom.at 30 rfl) rfl ?_
    refine xx_aload_n C (dd_X3_reckonFrom.at 31 rfl) rfl (isO_pos ho1) ?_
    refine xx_getR (j := 4) (r := (x1 + 23)) C ck_1 (lb_ rfl) lf_RX3_23 (sh_o ho1) rfl (rc_o4 ho1) (rf_o4 ho1) (dd_X3_reckonFrom.at 32 rfl) ?_
    refine xx_iconst C (dd_X3_reckonFrom.at 33 rfl) ic_2 ?_
    refine xx_iaload C (dd_X3_reckonFrom.at 34 rfl) (sh_o23 ho1) (bi_ok (i := (2 : Int32)) (n := 3) rfl) ?_
    rcases ifo_ hf with ⟨hc, hf⟩ | ⟨hc, hf⟩
    · refine xx_icmp_ge_t (tgt := 121) C (dd_X3_reckonFrom.at 35 rfl) (by decide) hc ?_
      exact xx_return C (rt_vwp hf Q) (dd_X3_reckonFrom.at 84 rfl) rfl
    · refine xx_icmp_ge_f (tgt := 121) C (dd_X3_reckonFrom.at 35 rfl) (by decide) hc ?_
      refine xx_aload_n C (dd_X3_reckonFrom.at 36 rfl) rfl (Nat.le_of_ble_eq_true rfl) ?_
      refine xx_iload_n C (dd_X3_reckonFrom.at 37 rfl) rfl ?_
      refine xx_iload C (dd_X3_reckonFrom.at 38 rfl) rfl ?_
      refine xx_iload_n C (dd_X3_reckonFrom.at 39 rfl) rfl ?_
      obtain ⟨v4, e5, hf⟩ := bdo_ hf
      refine xx_callVi C (ss_X3_isFree e5) (dd_X3_reckonFrom.at 40 rfl) ck_2 rfl sh_k20 kk_X3_isFree ki_X3_isFree lm_RX3_36 (lb_ rfl) rfl rfl (lb_ rfl) ?_
      rcases ifo_ hf with ⟨hc, hf⟩ | ⟨hc, hf⟩
      · refine xx_if_eq_t (tgt := 115) C (dd_X3_reckonFrom.at 41 rfl) (by decide) hc ?_
        refine xx_iinc (v := _ + (1 : Int32)) (lv' := [_, _, _, _, _]) C (dd_X3_reckonFrom.at 82 rfl) (lb_ rfl) rfl (by rw [ic_1]) rfl ?_
        refine xx_goto (tgt := 39) C (dd_X3_reckonFrom.at 83 rfl) (by decide) ?_
        exact xx_mask [true, true, true, true, true] (ih _ _ hf)
      · refine xx_if_eq_f (tgt := 115) C (dd_X3_reckonFrom.at 41 rfl) (by decide) hc ?_
        refine xx_aload_n C (dd_X3_reckonFrom.at 42 rfl) rfl (Nat.le_of_ble_eq_true rfl) ?_
        refine xx_getR (j := 1) (r := 22) C ck_2 (lb_ rfl) lf_RX3_17 sh_k20 rfl (lb_ rfl) rfl (dd_X3_reckonFrom.at 43 rfl) ?_
        refine xx_iload_n C (dd_X3_reckonFrom.at 44 rfl) rfl ?_
        obtain ⟨g6, hf⟩ := gd_ok hf
        refine xx_aaload (r := (23 + Int32.toNatClampNeg x2)) C (dd_X3_reckonFrom.at 45 rfl) sh_k22 (bi_ok g6) (sh_lt (sh_e22 (bi_ok g6))) rfl ?_
        refine xx_iload_n C (dd_X3_reckonFrom.at 46 rfl) rfl ?_
        refine xx_aload_n C (dd_X3_reckonFrom.at 47 rfl) rfl (Nat.le_of_ble_eq_true rfl) ?_
        refine xx_getR (j := 1) (r := 22) C ck_2 (lb_ rfl) lf_RX3_17 sh_k20 rfl (lb_ rfl) rfl (dd_X3_reckonFrom.at 48 rfl) ?_
        refine xx_iload_n C (dd_X3_reckonFrom.at 49 rfl) rfl ?_
        refine xx_aaload (r := (23 + Int32.toNatClampNeg x2)) C (dd_X3_reckonFrom.at 50 rfl) sh_k22 (bi_ok g6) (sh_lt (sh_e22 (bi_ok g6))) rfl ?_
        refine xx_iload_n C (dd_X3_reckonFrom.at 51 rfl) rfl ?_
        obtain ⟨g7, hf⟩ := gd_ok hf
        refine xx_iaload C (dd_X3_reckonFrom.at 52 rfl) (sh_e22 (bi_ok g6)) (bi_ok g7) ?_
        refine xx_aload_n C (dd_X3_reckonFrom.at 53 rfl) rfl (Nat.le_of_ble_eq_true rfl) ?_
        refine xx_aload_n C (dd_X3_reckonFrom.at 54 rfl) rfl (isO_pos ho1) ?_
        refine xx_iload_n C (dd_X3_reckonFrom.at 55 rfl) rfl ?_
        refine xx_iload C (dd_X3_reckonFrom.at 56 rfl) rfl ?_
        refine xx_iload_n C (dd_X3_reckonFrom.at 57 rfl) rfl ?_
        obtain ⟨v8, e9, hf⟩ := bdo_ hf
        refine xx_callVi C (ss_X3_payBy ho1 e9) (dd_X3_reckonFrom.at 58 rfl) ck_2 rfl sh_k20 kk_X3_payBy ki_X3_payBy lm_RX3_40 (lb_ rfl) rfl rfl (lb_ rfl) ?_
        refine xx_max C (dd_X3_reckonFrom.at 59 rfl) lm_RX3_44 (lb_ rfl) (lb_ rfl) ?_
        refine xx_iastore C (dd_X3_reckonFrom.at 60 rfl) (sh_e22 (bi_ok g6)) (bi_ok g7) ?_
        refine xx_aload_n C (dd_X3_reckonFrom.at 61 rfl) rfl (Nat.le_of_ble_eq_true rfl) ?_
        refine xx_getR (j := 2) (r := 29) C ck_2 (lb_ rfl) lf_RX3_20 sh_k20 rfl (lb_ rfl) rfl (dd_X3_reckonFrom.at 62 rfl) ?_
        refine xx_iload_n C (dd_X3_reckonFrom.at 63 rfl) rfl ?_
        refine xx_aaload (r := (30 + Int32.toNatClampNeg x2)) C (dd_X3_reckonFrom.at 64 rfl) sh_k29 (bi_ok g6) (sh_lt (sh_e29 (bi_ok g6))) rfl ?_
        refine xx_iload_n C (dd_X3_reckonFrom.at 65 rfl) rfl ?_
        refine xx_dup2 C (dd_X3_reckonFrom.at 66 rfl) rfl rfl ?_
        refine xx_iaload C (dd_X3_reckonFrom.at 67 rfl) (sh_e29 (bi_ok g6)) (bi_ok g7) ?_
        refine xx_aload_n C (dd_X3_reckonFrom.at 68 rfl) rfl (Nat.le_of_ble_eq_true rfl) ?_
        refine xx_getR (j := 2) (r := 29) C ck_2 (lb_ rfl) lf_RX3_20 sh_k20 rfl (lb_ rfl) rfl (dd_X3_reckonFrom.at 69 rfl) ?_
        refine xx_iload_n C (dd_X3_reckonFrom.at 70 rfl) rfl ?_
        refine xx_iconst C (dd_X3_reckonFrom.at 71 rfl) ic_1 ?_
        refine xx_iadd C (dd_X3_reckonFrom.at 72 rfl) ?_
        obtain ⟨g10, hf⟩ := gd_ok hf
        refine xx_aaload (r := (30 + Int32.toNatClampNeg (x2 + (1 : Int32)))) C (dd_X3_reckonFrom.at 73 rfl) sh_k29 (bi_ok g10) (sh_lt (sh_e29 (bi_ok g10))) rfl ?_
        refine xx_iload_n C (dd_X3_reckonFrom.at 74 rfl) rfl ?_
        refine xx_iconst C (dd_X3_reckonFrom.at 75 rfl) ic_1 ?_
        refine xx_iload C (dd_X3_reckonFrom.at 76 rfl) rfl ?_
        refine xx_ishl C (dd_X3_reckonFrom.at 77 rfl) ?_
        refine xx_ior C (dd_X3_reckonFrom.at 78 rfl) ?_
        obtain ⟨g11, hf⟩ := gd_ok hf
        refine xx_iaload C (dd_X3_reckonFrom.at 79 rfl) (sh_e29 (bi_ok g10)) (bi_ok g11) ?_
        refine xx_iadd C (dd_X3_reckonFrom.at 80 rfl) ?_
        refine xx_iastore C (dd_X3_reckonFrom.at 81 rfl) (sh_e29 (bi_ok g6)) (bi_ok g7) ?_
        refine xx_iinc (v := _ + (1 : Int32)) (lv' := [_, _, _, _, _]) C (dd_X3_reckonFrom.at 82 rfl) (lb_ rfl) rfl (by rw [ic_1]) rfl ?_
        refine xx_goto (tgt := 39) C (dd_X3_reckonFrom.at 83 rfl) (by decide) ?_
        exact xx_mask [true, true, true, true, true] (ih _ _ hf)
theorem ss_X3_reckonFrom {l : Launch} {G : gt_} {a1 : Nat} {a2 : Int32} {a3 : Int32} {h : hh_} {h9 : hh_} (ho1 : isO_ a1) (hf : ff_X3_reckonFrom a1 a2 a3 h = some h9) : ok_ l G 1 mt_X3_reckonFrom [.ref 20, .ref a1, .int a2, .int a3] h none h9 := by
  refine ok_of pn_RX3 (lb_ rfl) (fun Z _ _ C Q => ?_)
  show xx_ Z 0 [some (.ref 20), some (.ref a1), some (.int a2), some (.int a3), none] [] h
  unfold ff_X3_reckonFrom at hf
  refine xx_aload_n C (dd_X3_reckonFrom.at 0 rfl) rfl (Nat.le_of_ble_eq_true rfl) ?_
  refine xx_getR (j := 1) (r := 22) C ck_2 (lb_ rfl) lf_RX3_17 sh_k20 rfl (lb_ rfl) rfl (dd_X3_reckonFrom.at 1 rfl) ?_
  refine xx_iload_n C (dd_X3_reckonFrom.at 2 rfl) rfl ?_
  obtain ⟨g1, hf⟩ := gd_ok hf
  refine xx_aaload (r := (23 + Int32.toNatClampNeg a2)) C (dd_X3_reckonFrom.at 3 rfl) sh_k22 (bi_ok g1) (sh_lt (sh_e22 (bi_ok g1))) rfl ?_
  refine xx_iload_n C (dd_X3_reckonFrom.at 4 rfl) rfl ?_
  refine xx_aload_n C (dd_X3_reckonFrom.at 5 rfl) rfl (Nat.le_of_ble_eq_true rfl) ?_
  refine xx_getR (j := 1) (r := 22) C ck_2 (lb_ rfl) lf_RX3_17 sh_k20 rfl (lb_ rfl) rfl (dd_X3_reckonFrom.at 6 rfl) ?_
  refine xx_iload_n C (dd_X3_reckonFrom.at 7 rfl) rfl ?_
  refine xx_iconst C (dd_X3_reckonFrom.at 8 rfl) ic_1 ?_
  refine xx_iadd C (dd_X3_reckonFrom.at 9 rfl) ?_
  obtain ⟨g2, hf⟩ := gd_ok hf
  refine xx_aaload (r := (23 + Int32.toNatClampNeg (a2 + (1 : Int32)))) C (dd_X3_reckonFrom.at 10 rfl) sh_k22 (bi_ok g2) (sh_lt (sh_e22 (bi_ok g2))) rfl ?_
  refine xx_iload_n C (dd_X3_reckonFrom.at 11 rfl) rfl ?_
  obtain ⟨g3, hf⟩ := gd_ok hf
  refine xx_iaload C (dd_X3_reckonFrom.at 12 rfl) (sh_e22 (bi_ok g2)) (bi_ok g3) ?_
  refine xx_iastore C (dd_X3_reckonFrom.at 13 rfl) (sh_e22 (bi_ok g1)) (bi_ok g3) ?_
  refine xx_aload_n C (dd_X3_reckonFrom.at 14 rfl) rfl (Nat.le_of_ble_eq_true rfl) ?_
  refine xx_getR (j := 2) (r := 29) C ck_2 (lb_ rfl) lf_RX3_20 sh_k20 rfl (lb_ rfl) rfl (dd_X3_reckonFrom.at 15 rfl) ?_
  refine xx_iload_n C (dd_X3_reckonFrom.at 16 rfl) rfl ?_
  refine xx_aaload (r := (30 + Int32.toNatClampNeg a2)) C (dd_X3_reckonFrom.at 17 rfl) sh_k29 (bi_ok g1) (sh_lt (sh_e29 (bi_ok g1))) rfl ?_
  refine xx_iload_n C (dd_X3_reckonFrom.at 18 rfl) rfl ?_
  refine xx_aload_n C (dd_X3_reckonFrom.at 19 rfl) rfl (Nat.le_of_ble_eq_true rfl) ?_
  refine xx_getR (j := 2) (r := 29) C ck_2 (lb_ rfl) lf_RX3_20 sh_k20 rfl (lb_ rfl) rfl (dd_X3_reckonFrom.at 20 rfl) ?_
  refine xx_iload_n C (dd_X3_reckonFrom.at 21 rfl) rfl ?_
  refine xx_iconst C (dd_X3_reckonFrom.at 22 rfl) ic_1 ?_
  refine xx_iadd C (dd_X3_reckonFrom.at 23 rfl) ?_
  refine xx_aaload (r := (30 + Int32.toNatClampNeg (a2 + (1 : Int32)))) C (dd_X3_reckonFrom.at 24 rfl) sh_k29 (bi_ok g2) (sh_lt (sh_e29 (bi_ok g2))) rfl ?_
  refine xx_iload_n C (dd_X3_reckonFrom.at 25 rfl) rfl ?_
  refine xx_iaload C (dd_X3_reckonFrom.at 26 rfl) (sh_e29 (bi_ok g2)) (bi_ok g3) ?_
  refine xx_iastore C (dd_X3_reckonFrom.at 27 rfl) (sh_e29 (bi_ok g1)) (bi_ok g3) ?_
  refine xx_iconst C (dd_X3_reckonFrom.at 28 rfl) ic_0 ?_
  refine xx_istore (lv' := [_, _, _, _, _]) C (dd_X3_reckonFrom.at 29 rfl) (lb_ rfl) rfl ?_
  exact xx_mask [true, true, true, true, true] (ss_X3_reckonFrom_39 C Q ho1 _ _ _ hf)
theorem ss_X3_reckon_19 {Z : zz_} (C : cx_ Z mt_X3_reckon 2) {h9 : hh_} {x1 : Nat} {x2 : Int32} {x3 : Int32} {K19_51 : hh_ → Option (hh_)} (Q : rq_ Z none h9) (ho1 : isO_ x1) (hK19_51 : ∀ (h8 : hh_), K19_51 h8 = some h9 → xx_ Z 51 [some (.ref 20), some (.ref x1), some (.int x2), some (.int x3), none, none] [] h8) : ∀ (n9 : Nat) (x4 : Int32) (h : hh_), ff_X3_reckon_19 x1 x2 x3 K19_51 n9 x4 h = some h9 → xx_ Z 19 [some (.ref 20), some (.ref x1), some (.int x2), some (.int x3), some (.int x4), none] [] h := by
  intro n9
  induction n9 with
  | zero =>
    intro x4 h hf
    exact absurd hf (by rw [ff_X3_reckon_19]; exact nofun)
  | succ n9 ih =>
    intro x4 h hf
    rw [ff_X3_reckon_19] at hf
    refine xx_iload C (dd_X3_reckon.at 14 rfl) rfl ?_
    refine xx_iload_n C (dd_X3_reckon.at 15 rfl) rfl ?_
    rcases ifo_ hf with ⟨hc, hf⟩ | ⟨hc, hf⟩
    · refine xx_icmp_ge_t (tgt := 51) C (dd_X3_reckon.at 16 rfl) (by decide) hc ?_
      exact xx_mask [true, true, true, true, false, false] (hK19_51 _ hf)
    · refine xx_icmp_ge_f (tgt := 51) C (dd_X3_reckon.at 16 rfl) (by decide) hc ?_
      refine xx_aload_n C (dd_X3_reckon.at 17 rfl) rfl (Nat.le_of_ble_eq_true rfl) ?_
      refine xx_getR (j := 1) (r := 22) C ck_2 (lb_ rfl) lf_RX3_17 sh_k20 rfl (lb_ rfl) rfl (dd_X3_reckon.at 18 rfl) ?_
      refine xx_iload_n C (dd_X3_reckon.at 19 rfl) rfl ?_
      obtain ⟨g1, hf⟩ := gd_ok hf
      refine xx_aaload (r := (23 + Int32.toNatClampNeg x2)) C (dd_X3_reckon.at 20 rfl) sh_k22 (bi_ok g1) (sh_lt (sh_e22 (bi_ok g1))) rfl ?_
      refine xx_iload C (dd_X3_reckon.at 21 rfl) rfl ?_
      refine xx_iconst C (dd_X3_reckon.at 22 rfl) ic_0 ?_
      obtain ⟨g2, hf⟩ := gd_ok hf
      refine xx_iastore C (dd_X3_reckon.at 23 rfl) (sh_e22 (bi_ok g1)) (bi_ok g2) ?_
      refine xx_aload_n C (dd_X3_reckon.at 24 rfl) rfl (Nat.le_of_ble_eq_true rfl) ?_
      refine xx_getR (j := 2) (r := 29) C ck_2 (lb_ rfl) lf_RX3_20 sh_k20 rfl (lb_ rfl) rfl (dd_X3_reckon.at 25 rfl) ?_
      refine xx_iload_n C (dd_X3_reckon.at 26 rfl) rfl ?_
      refine xx_aaload (r := (30 + Int32.toNatClampNeg x2)) C (dd_X3_reckon.at 27 rfl) sh_k29 (bi_ok g1) (sh_lt (sh_e29 (bi_ok g1))) rfl ?_
      refine xx_iload C (dd_X3_reckon.at 28 rfl) rfl ?_
      refine xx_iconst C (dd_X3_reckon.at 29 rfl) ic_1 ?_
      refine xx_iastore C (dd_X3_reckon.at 30 rfl) (sh_e29 (bi_ok g1)) (bi_ok g2) ?_
      refine xx_iinc (v := _ + (1 : Int32)) (lv' := [_, _, _, _, _, _]) C (dd_X3_reckon.at 31 rfl) (lb_ rfl) rfl (by rw [ic_1]) rfl ?_
      refine xx_goto (tgt := 19) C (dd_X3_reckon.at 32 rfl) (by decide) ?_
      exact xx_mask [true, true, true, true, true, false] (ih _ _ hf)
theorem ss_X3_reckon_64 {Z : zz_} (C : cx_ Z mt_X3_reckon 2) {h9 : hh_} {x1 : Nat} {x3 : Int32} {x4 : Int32} {K64_85 : hh_ → Option (hh_)} (Q : rq_ Z none h9) (ho1 : isO_ x1) (hK64_85 : ∀ (h8 : hh_), K64_85 h8 = some h9 → xx_ Z 85 [some (.ref 20), some (.ref x1), none, some (.int x3), some (.int x4), none] [] h8) : ∀ (n9 : Nat) (x5 : Int32) (h : hh_), ff_X3_reckon_64 x1 x3 x4 K64_85 n9 x5 h = some h9 → xx_ Z 64 [some (.ref 20), some (.ref x1), none, some (.int x3), some (.int x4), some (.int x5)] [] h := by
  intro n9
  induction n9 with
  | zero =>
    intro x5 h hf
    exact absurd hf (by rw [ff_X3_reckon_64]; exact nofun)
  | succ n9 ih =>
    intro x5 h hf
    rw [ff_X3_reckon_64] at hf
    refine xx_iload C (dd_X3_reckon.at 41 rfl) rfl ?_
    refine xx_iload_n C (dd_X3_reckon.at 42 rfl) rfl ?_
    rcases ifo_ hf with ⟨hc, hf⟩ | ⟨hc, hf⟩
    · refine xx_icmp_ge_t (tgt := 85) C (dd_X3_reckon.at 43 rfl) (by decide) hc ?_
      exact xx_mask [true, true, false, true, true, false] (hK64_85 _ hf)
    · refine xx_icmp_ge_f (tgt := 85) C (dd_X3_reckon.at 43 rfl) (by decide) hc ?_
      refine xx_aload_n C (dd_X3_reckon.at 44 rfl) rfl (Nat.le_of_ble_eq_true rfl) ?_
      refine xx_aload_n C (dd_X3_reckon.at 45 rfl) rfl (isO_pos ho1) ?_
      refine xx_iload C (dd_X3_reckon.at 46 rfl) rfl ?_
      refine xx_iload C (dd_X3_reckon.at 47 rfl) rfl ?_
      obtain ⟨v4, e5, hf⟩ := bdo_ hf
      refine xx_callVv C (ss_X3_reckonFrom ho1 e5) (dd_X3_reckon.at 48 rfl) ck_2 rfl sh_k20 kk_X3_reckonFrom ki_X3_reckonFrom lm_RX3_32 (lb_ rfl) rfl rfl (lb_ rfl) ?_
      refine xx_iinc (v := _ + (1 : Int32)) (lv' := [_, _, _, _, _, _]) C (dd_X3_reckon.at 49 rfl) (lb_ rfl) rfl (by rw [ic_1]) rfl ?_
      refine xx_goto (tgt := 64) C (dd_X3_reckon.at 50 rfl) (by decide) ?_
      exact xx_mask [true, true, false, true, true, true] (ih _ _ hf)
theorem ss_X3_reckon_56 {Z : zz_} (C : cx_ Z mt_X3_reckon 2) {h9 : hh_} {x1 : Nat} {x3 : Int32}  (Q : rq_ Z none h9) (ho1 : isO_ x1) : ∀ (n9 : Nat) (x4 : Int32) (h : hh_), ff_X3_reckon_56 x1 x3 n9 x4 h = some h9 → xx_ Z 56 [some (.ref 20), some (.ref x1), none, some (.int x3), some (.int x4), none] [] h := by
  intro n9
  induction n9 with
  | zero =>
    intro x4 h hf
    exact absurd hf (by rw [ff_X3_reckon_56]; exact nofun)
  | succ n9 ih =>
    intro x4 h hf
    rw [ff_X3_reckon_56] at hf
    refine xx_iload C (dd_X3_reckon.at 37 rfl) rfl ?_
    rcases ifo_ hf with ⟨hc, hf⟩ | ⟨hc, hf⟩
    · refine xx_if_lt_t (tgt := 91) C (dd_X3_reckon.at 38 rfl) (by decide) hc ?_
      exact xx_return C (rt_vwp hf Q) (dd_X3_reckon.at 53 rfl) rfl
    · refine xx_if_lt_f (tgt := 91) C (dd_X3_reckon.at 38 rfl) (by decide) hc ?_
      refine xx_iconst C (dd_X3_reckon.at 39 rfl) ic_0 ?_
      refine xx_istore (lv' := [_, _, _, _, _, _]) C (dd_X3_reckon.at 40 rfl) (lb_ rfl) rfl ?_
      refine xx_mask [true, true, false, true, true, true] (ss_X3_reckon_64 C Q ho1 (fun k6 hf => ?_) _ _ _ hf)
      refine xx_iinc (v := _ + (-1 : Int32)) (lv' := [_, _, _, _, _, _]) C (dd_X3_reckon.at 51 rfl) (lb_ rfl) rfl (by rw [ic_m1]) rfl ?_
      refine xx_goto (tgt := 56) C (dd_X3_reckon.at 52 rfl) (by decide) ?_
      exact xx_mask [true, true, false, true, true, false] (ih _ _ hf)
theorem ss_X3_reckon {l : Launch} {G : gt_} {a1 : Nat} {h : hh_} {h9 : hh_} (ho1 : isO_ a1) (hf : ff_X3_reckon a1 h = some h9) : ok_ l G 2 mt_X3_reckon [.ref 20, .ref a1] h none h9 := by
  refine ok_of pn_RX3 (lb_ rfl) (fun Z _ _ C Q => ?_)
  show xx_ Z 0 [some (.ref 20), some (.ref a1), none, none, none, none] [] h
  unfold ff_X3_reckon at hf
  refine xx_aload_n C (dd_X3_reckon.at 0 rfl) rfl (isO_pos ho1) ?_
  refine xx_getR (j := 4) (r := (a1 + 23)) C ck_1 (lb_ rfl) lf_RX3_23 (sh_o ho1) rfl (rc_o4 ho1) (rf_o4 ho1) (dd_X3_reckon.at 1 rfl) ?_
  refine xx_iconst C (dd_X3_reckon.at 2 rfl) ic_0 ?_
  refine xx_iaload C (dd_X3_reckon.at 3 rfl) (sh_o23 ho1) (bi_ok (i := (0 : Int32)) (n := 3) rfl) ?_
  refine xx_istore_n (lv' := [_, _, _, _, _, _]) C (dd_X3_reckon.at 4 rfl) (lb_ rfl) rfl ?_
  refine xx_iconst C (dd_X3_reckon.at 5 rfl) ic_1 ?_
  refine xx_aload_n C (dd_X3_reckon.at 6 rfl) rfl (isO_pos ho1) ?_
  refine xx_getR (j := 4) (r := (a1 + 23)) C ck_1 (lb_ rfl) lf_RX3_23 (sh_o ho1) rfl (rc_o4 ho1) (rf_o4 ho1) (dd_X3_reckon.at 7 rfl) ?_
  refine xx_iconst C (dd_X3_reckon.at 8 rfl) ic_2 ?_
  refine xx_iaload C (dd_X3_reckon.at 9 rfl) (sh_o23 ho1) (bi_ok (i := (2 : Int32)) (n := 3) rfl) ?_
  refine xx_ishl C (dd_X3_reckon.at 10 rfl) ?_
  refine xx_istore_n (lv' := [_, _, _, _, _, _]) C (dd_X3_reckon.at 11 rfl) (lb_ rfl) rfl ?_
  refine xx_iconst C (dd_X3_reckon.at 12 rfl) ic_0 ?_
  refine xx_istore (lv' := [_, _, _, _, _, _]) C (dd_X3_reckon.at 13 rfl) (lb_ rfl) rfl ?_
  refine xx_mask [true, true, true, true, true, false] (ss_X3_reckon_19 C Q ho1 (fun k3 hf => ?_) _ _ _ hf)
  refine xx_iload_n C (dd_X3_reckon.at 33 rfl) rfl ?_
  refine xx_iconst C (dd_X3_reckon.at 34 rfl) ic_1 ?_
  refine xx_isub C (dd_X3_reckon.at 35 rfl) ?_
  refine xx_istore (lv' := [_, _, _, _, _, _]) C (dd_X3_reckon.at 36 rfl) (lb_ rfl) rfl ?_
  exact xx_mask [true, true, false, true, true, false] (ss_X3_reckon_56 C Q ho1 _ _ _ hf)
theorem ss_X3_bestPay {l : Launch} {G : gt_} {h : hh_} {r9 : Int32}  (hf : ff_X3_bestPay h = some r9) : ok_ l G 0 mt_X3_bestPay [.ref 20] h (some (.int r9)) h := by
  refine ok_of pn_RX3 (lb_ rfl) (fun Z _ _ C Q => ?_)
  show xx_ Z 0 [some (.ref 20)] [] h
  unfold ff_X3_bestPay at hf
  refine xx_aload_n C (dd_X3_bestPay.at 0 rfl) rfl (Nat.le_of_ble_eq_true rfl) ?_
  refine xx_getR (j := 1) (r := 22) C ck_2 (lb_ rfl) lf_RX3_17 sh_k20 rfl (lb_ rfl) rfl (dd_X3_bestPay.at 1 rfl) ?_
  refine xx_iconst C (dd_X3_bestPay.at 2 rfl) ic_0 ?_
  refine xx_aaload (r := (23 + Int32.toNatClampNeg (0 : Int32))) C (dd_X3_bestPay.at 3 rfl) sh_k22 (bi_ok (i := (0 : Int32)) (n := 6) rfl) (sh_lt (sh_e22 (bi_ok (i := (0 : Int32)) (n := 6) rfl))) rfl ?_
  refine xx_iconst C (dd_X3_bestPay.at 4 rfl) ic_0 ?_
  refine xx_iaload C (dd_X3_bestPay.at 5 rfl) (sh_e22 (bi_ok (i := (0 : Int32)) (n := 6) rfl)) (bi_ok (i := (0 : Int32)) (n := 16) rfl) ?_
  exact xx_ireturn C (rt_ip hf Q) (dd_X3_bestPay.at 6 rfl) rfl
theorem ss_X3_bestPost_3 {Z : zz_} (C : cx_ Z mt_X3_bestPost 1) {r9 : Int32} {x1 : Nat} {x2 : Int32} {x3 : Int32} {h : hh_}  (Q : rq_ Z (some (.int r9)) h) (ho1 : isO_ x1) : ∀ (n9 : Nat) (x4 : Int32), ff_X3_bestPost_3 x1 x2 x3 h n9 x4 = some r9 → xx_ Z 3 [some (.ref 20), some (.ref x1), some (.int x2), some (.int x3), some (.int x4)] [] h := by
  intro n9
  induction n9 with
  | zero =>
    intro x4 hf
    exact absurd hf (by rw [ff_X3_bestPost_3]; exact nofun)
  | succ n9 ih =>
    intro x4 hf
    rw [ff_X3_bestPost_3] at hf
    refine xx_iload C (dd_X3_bestPost.at 2 rfl) rfl ?_
    refine xx_aload_n C (dd_X3_bestPost.at 3 rfl) rfl (isO_pos ho1) ?_
    refine xx_getR (j := 4) (r := (x1 + 23)) C ck_1 (lb_ rfl) lf_RX3_23 (sh_o ho1) rfl (rc_o4 ho1) (rf_o4 ho1) (dd_X3_bestPost.at 4 rfl) ?_
    refine xx_iconst C (dd_X3_bestPost.at 5 rfl) ic_2 ?_
    refine xx_iaload C (dd_X3_bestPost.at 6 rfl) (sh_o23 ho1) (bi_ok (i := (2 : Int32)) (n := 3) rfl) ?_
    rcases ifo_ hf with ⟨hc, hf⟩ | ⟨hc, hf⟩
    · refine xx_icmp_ge_t (tgt := 54) C (dd_X3_bestPost.at 7 rfl) (by decide) hc ?_
      refine xx_bipush C (dd_X3_bestPost.at 31 rfl) bq_m9 ?_
      exact xx_ireturn C (rt_ip hf Q) (dd_X3_bestPost.at 32 rfl) rfl
    · refine xx_icmp_ge_f (tgt := 54) C (dd_X3_bestPost.at 7 rfl) (by decide) hc ?_
      refine xx_aload_n C (dd_X3_bestPost.at 8 rfl) rfl (Nat.le_of_ble_eq_true rfl) ?_
      refine xx_iload_n C (dd_X3_bestPost.at 9 rfl) rfl ?_
      refine xx_iload C (dd_X3_bestPost.at 10 rfl) rfl ?_
      refine xx_iload_n C (dd_X3_bestPost.at 11 rfl) rfl ?_
      obtain ⟨v1, e2, hf⟩ := bdo_ hf
      refine xx_callVi C (ss_X3_isFree e2) (dd_X3_bestPost.at 12 rfl) ck_2 rfl sh_k20 kk_X3_isFree ki_X3_isFree lm_RX3_36 (lb_ rfl) rfl rfl (lb_ rfl) ?_
      rcases ifo_ hf with ⟨hc, hf⟩ | ⟨hc, hf⟩
      · refine xx_if_eq_t (tgt := 48) C (dd_X3_bestPost.at 13 rfl) (by decide) hc ?_
        refine xx_iinc (v := _ + (1 : Int32)) (lv' := [_, _, _, _, _]) C (dd_X3_bestPost.at 29 rfl) (lb_ rfl) rfl (by rw [ic_1]) rfl ?_
        refine xx_goto (tgt := 3) C (dd_X3_bestPost.at 30 rfl) (by decide) ?_
        exact xx_mask [true, true, true, true, true] (ih _ hf)
      · refine xx_if_eq_f (tgt := 48) C (dd_X3_bestPost.at 13 rfl) (by decide) hc ?_
        refine xx_aload_n C (dd_X3_bestPost.at 14 rfl) rfl (Nat.le_of_ble_eq_true rfl) ?_
        refine xx_aload_n C (dd_X3_bestPost.at 15 rfl) rfl (isO_pos ho1) ?_
        refine xx_iload_n C (dd_X3_bestPost.at 16 rfl) rfl ?_
        refine xx_iload C (dd_X3_bestPost.at 17 rfl) rfl ?_
        refine xx_iload_n C (dd_X3_bestPost.at 18 rfl) rfl ?_
        obtain ⟨v3, e4, hf⟩ := bdo_ hf
        refine xx_callVi C (ss_X3_payBy ho1 e4) (dd_X3_bestPost.at 19 rfl) ck_2 rfl sh_k20 kk_X3_payBy ki_X3_payBy lm_RX3_40 (lb_ rfl) rfl rfl (lb_ rfl) ?_
        refine xx_aload_n C (dd_X3_bestPost.at 20 rfl) rfl (Nat.le_of_ble_eq_true rfl) ?_
        refine xx_getR (j := 1) (r := 22) C ck_2 (lb_ rfl) lf_RX3_17 sh_k20 rfl (lb_ rfl) rfl (dd_X3_bestPost.at 21 rfl) ?_
        refine xx_iload_n C (dd_X3_bestPost.at 22 rfl) rfl ?_
        obtain ⟨g5, hf⟩ := gd_ok hf
        refine xx_aaload (r := (23 + Int32.toNatClampNeg x2)) C (dd_X3_bestPost.at 23 rfl) sh_k22 (bi_ok g5) (sh_lt (sh_e22 (bi_ok g5))) rfl ?_
        refine xx_iload_n C (dd_X3_bestPost.at 24 rfl) rfl ?_
        obtain ⟨g6, hf⟩ := gd_ok hf
        refine xx_iaload C (dd_X3_bestPost.at 25 rfl) (sh_e22 (bi_ok g5)) (bi_ok g6) ?_
        rcases ifo_ hf with ⟨hc, hf⟩ | ⟨hc, hf⟩
        · refine xx_icmp_ne_f (tgt := 48) C (dd_X3_bestPost.at 26 rfl) (by decide) (not_not_intro hc) ?_
          refine xx_iload C (dd_X3_bestPost.at 27 rfl) rfl ?_
          exact xx_ireturn C (rt_ip hf Q) (dd_X3_bestPost.at 28 rfl) rfl
        · refine xx_icmp_ne_t (tgt := 48) C (dd_X3_bestPost.at 26 rfl) (by decide) hc ?_
          refine xx_iinc (v := _ + (1 : Int32)) (lv' := [_, _, _, _, _]) C (dd_X3_bestPost.at 29 rfl) (lb_ rfl) rfl (by rw [ic_1]) rfl ?_
          refine xx_goto (tgt := 3) C (dd_X3_bestPost.at 30 rfl) (by decide) ?_
          exact xx_mask [true, true, true, true, true] (ih _ hf)
theorem ss_X3_bestPost {l : Launch} {G : gt_} {a1 : Nat} {a2 : Int32} {a3 : Int32} {h : hh_} {r9 : Int32} (ho1 : isO_ a1) (hf : ff_X3_bestPost a1 a2 a3 h = some r9) : ok_ l G 1 mt_X3_bestPost [.ref 20, .ref a1, .int a2, .int a3] h (some (.int r9)) h := by
  refine ok_of pn_RX3 (lb_ rfl) (fun Z _ _ C Q => ?_)
  show xx_ Z 0 [some (.ref 20), some (.ref a1), some (.int a2), some (.int a3), none] [] h
  unfold ff_X3_bestPost at hf
  refine xx_iconst C (dd_X3_bestPost.at 0 rfl) ic_0 ?_
  refine xx_istore (lv' := [_, _, _, _, _]) C (dd_X3_bestPost.at 1 rfl) (lb_ rfl) rfl ?_
  exact xx_mask [true, true, true, true, true] (ss_X3_bestPost_3 C Q ho1 _ _ hf)
