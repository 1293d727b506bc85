theorem ss_X7_layBestPlan_26 {Z : zz_} (C : cx_ Z mt_X7_layBestPlan 2) {r9 : Int32} {h9 : hh_} {x1 : Int32} {x2 : Int32}  (Q : rq_ Z (some (.int r9)) h9) : ∀ (n9 : Nat) (x3 : Int32) (x4 : Int32) (h : hh_), ff_X7_layBestPlan_26 x1 x2 n9 x3 x4 h = some (r9, h9) → xx_ Z 26 [some (.ref 1), some (.int x1), some (.int x2), some (.int x3), some (.int x4), none] [] h := by
  intro n9
  induction n9 with
  | zero =>
    intro x3 x4 h hf
    exact absurd hf (by rw [ff_X7_layBestPlan_26]; exact nofun)
  | succ n9 ih =>
    intro x3 x4 h hf
    rw [ff_X7_layBestPlan_26] at hf
    refine xx_iload C (dd_X7_layBestPlan.at 16 rfl) rfl ?_
    refine xx_iload_n C (dd_X7_layBestPlan.at 17 rfl) rfl ?_
    rcases ifo_ hf with ⟨hc, hf⟩ | ⟨hc, hf⟩
    · refine xx_icmp_ge_t (tgt := 82) C (dd_X7_layBestPlan.at 18 rfl) (by decide) hc ?_
      refine xx_aload_n C (dd_X7_layBestPlan.at 46 rfl) rfl (Nat.le_of_ble_eq_true rfl) ?_
      refine xx_getR (j := 4) (r := 20) C ck_6 (lb_ rfl) lf_RX7_37 sh_k1 rfl (lb_ rfl) rfl (dd_X7_layBestPlan.at 47 rfl) ?_
      obtain ⟨v4, e5, hf⟩ := bdo_ hf
      refine xx_callVi C (ss_X3_bestPay e5) (dd_X7_layBestPlan.at 48 rfl) ck_2 rfl sh_k20 kk_X3_bestPay ki_X3_bestPay lm_RX7_246 (lb_ rfl) rfl rfl (lb_ rfl) ?_
      exact xx_ireturn C (rt_iwp hf Q) (dd_X7_layBestPlan.at 49 rfl) rfl
    · refine xx_icmp_ge_f (tgt := 82) C (dd_X7_layBestPlan.at 18 rfl) (by decide) hc ?_
      refine xx_aload_n C (dd_X7_layBestPlan.at 19 rfl) rfl (Nat.le_of_ble_eq_true rfl) ?_
      refine xx_getR (j := 4) (r := 20) C ck_6 (lb_ rfl) lf_RX7_37 sh_k1 rfl (lb_ rfl) rfl (dd_X7_layBestPlan.at 20 rfl) ?_
      refine xx_aload_n C (dd_X7_layBestPlan.at 21 rfl) rfl (Nat.le_of_ble_eq_true rfl) ?_
      obtain ⟨g6, hf⟩ := gd_ok hf
      refine xx_getR (j := 7) (r := h.2.2.1) C ck_6 (lb_ rfl) lf_RX7_55 sh_k1 rfl (lb_ rfl) rfl (dd_X7_layBestPlan.at 22 rfl) ?_
      refine xx_iload C (dd_X7_layBestPlan.at 23 rfl) rfl ?_
      refine xx_iload_n C (dd_X7_layBestPlan.at 24 rfl) rfl ?_
      obtain ⟨v7, e8, hf⟩ := bdo_ hf
      refine xx_callVi C (ss_X3_bestPost (bo_ok g6) e8) (dd_X7_layBestPlan.at 25 rfl) ck_2 rfl sh_k20 kk_X3_bestPost ki_X3_bestPost lm_RX7_322 (lb_ rfl) rfl rfl (lb_ rfl) ?_
      refine xx_istore (lv' := [_, _, _, _, _, _]) C (dd_X7_layBestPlan.at 26 rfl) (lb_ rfl) rfl ?_
      refine xx_iload C (dd_X7_layBestPlan.at 27 rfl) rfl ?_
      refine xx_bipush C (dd_X7_layBestPlan.at 28 rfl) bq_m9 ?_
      rcases ifo_ hf with ⟨hc, hf⟩ | ⟨hc, hf⟩
      · refine xx_icmp_eq_t (tgt := 76) C (dd_X7_layBestPlan.at 29 rfl) (by decide) hc ?_
        refine xx_iinc (v := _ + (1 : Int32)) (lv' := [_, _, _, _, _, _]) C (dd_X7_layBestPlan.at 44 rfl) (lb_ rfl) rfl (by rw [ic_1]) rfl ?_
        refine xx_goto (tgt := 26) C (dd_X7_layBestPlan.at 45 rfl) (by decide) ?_
        exact xx_mask [true, true, true, true, true, false] (ih _ _ _ hf)
      · refine xx_icmp_eq_f (tgt := 76) C (dd_X7_layBestPlan.at 29 rfl) (by decide) hc ?_
        refine xx_aload_n C (dd_X7_layBestPlan.at 30 rfl) rfl (Nat.le_of_ble_eq_true rfl) ?_
        refine xx_getR (j := 0) (r := 2) C ck_6 (lb_ rfl) lf_RX7_14 sh_k1 rfl (lb_ rfl) rfl (dd_X7_layBestPlan.at 31 rfl) ?_
        refine xx_getR (j := 0) (r := 3) C ck_4 (lb_ rfl) lf_RX7_79 sh_k2 rfl (lb_ rfl) rfl (dd_X7_layBestPlan.at 32 rfl) ?_
        refine xx_iload_n C (dd_X7_layBestPlan.at 33 rfl) rfl ?_
        obtain ⟨g9, hf⟩ := gd_ok hf
        refine xx_aaload (r := (4 + Int32.toNatClampNeg x1)) C (dd_X7_layBestPlan.at 34 rfl) sh_k3 (bi_ok g9) (sh_lt (sh_e3 (bi_ok g9))) rfl ?_
        refine xx_iload C (dd_X7_layBestPlan.at 35 rfl) rfl ?_
        refine xx_iload C (dd_X7_layBestPlan.at 36 rfl) rfl ?_
        obtain ⟨g10, hf⟩ := gd_ok hf
        refine xx_iastore C (dd_X7_layBestPlan.at 37 rfl) (sh_e3 (bi_ok g9)) (bi_ok g10) ?_
        refine xx_iload_n C (dd_X7_layBestPlan.at 38 rfl) rfl ?_
        refine xx_iconst C (dd_X7_layBestPlan.at 39 rfl) ic_1 ?_
        refine xx_iload C (dd_X7_layBestPlan.at 40 rfl) rfl ?_
        refine xx_ishl C (dd_X7_layBestPlan.at 41 rfl) ?_
        refine xx_ior C (dd_X7_layBestPlan.at 42 rfl) ?_
        refine xx_istore_n (lv' := [_, _, _, _, _, _]) C (dd_X7_layBestPlan.at 43 rfl) (lb_ rfl) rfl ?_
        refine xx_iinc (v := _ + (1 : Int32)) (lv' := [_, _, _, _, _, _]) C (dd_X7_layBestPlan.at 44 rfl) (lb_ rfl) rfl (by rw [ic_1]) rfl ?_
        refine xx_goto (tgt := 26) C (dd_X7_layBestPlan.at 45 rfl) (by decide) ?_
        exact xx_mask [true, true, true, true, true, false] (ih _ _ _ hf)
theorem ss_X7_layBestPlan {l : Launch} {G : gt_} {a1 : Int32} {h : hh_} {r9 : Int32} {h9 : hh_}  (hf : ff_X7_layBestPlan a1 h = some (r9, h9)) : ok_ l G 2 mt_X7_layBestPlan [.ref 1, .int a1] h (some (.int r9)) h9 := by
  refine ok_of pn_RX7 (lb_ rfl) (fun Z _ _ C Q => ?_)
  show xx_ Z 0 [some (.ref 1), some (.int a1), none, none, none, none] [] h
  unfold ff_X7_layBestPlan at hf
  refine xx_aload_n C (dd_X7_layBestPlan.at 0 rfl) rfl (Nat.le_of_ble_eq_true rfl) ?_
  obtain ⟨g1, hf⟩ := gd_ok hf
  refine xx_getR (j := 7) (r := h.2.2.1) C ck_6 (lb_ rfl) lf_RX7_55 sh_k1 rfl (lb_ rfl) rfl (dd_X7_layBestPlan.at 1 rfl) ?_
  refine xx_getR (j := 4) (r := (h.2.2.1 + 23)) C ck_1 (lb_ rfl) lf_RX7_118 (sh_o (bo_ok g1)) rfl (rc_o4 (bo_ok g1)) (rf_o4 (bo_ok g1)) (dd_X7_layBestPlan.at 2 rfl) ?_
  refine xx_iconst C (dd_X7_layBestPlan.at 3 rfl) ic_0 ?_
  refine xx_iaload C (dd_X7_layBestPlan.at 4 rfl) (sh_o23 (bo_ok g1)) (bi_ok (i := (0 : Int32)) (n := 3) rfl) ?_
  refine xx_istore_n (lv' := [_, _, _, _, _, _]) C (dd_X7_layBestPlan.at 5 rfl) (lb_ rfl) rfl ?_
  refine xx_iconst C (dd_X7_layBestPlan.at 6 rfl) ic_0 ?_
  refine xx_istore_n (lv' := [_, _, _, _, _, _]) C (dd_X7_layBestPlan.at 7 rfl) (lb_ rfl) rfl ?_
  refine xx_aload_n C (dd_X7_layBestPlan.at 8 rfl) rfl (Nat.le_of_ble_eq_true rfl) ?_
  refine xx_getR (j := 0) (r := 2) C ck_6 (lb_ rfl) lf_RX7_14 sh_k1 rfl (lb_ rfl) rfl (dd_X7_layBestPlan.at 9 rfl) ?_
  refine xx_iload_n C (dd_X7_layBestPlan.at 10 rfl) rfl ?_
  refine xx_iload_n C (dd_X7_layBestPlan.at 11 rfl) rfl ?_
  refine xx_bipush C (dd_X7_layBestPlan.at 12 rfl) bq_m9 ?_
  obtain ⟨v2, e3, hf⟩ := bdo_ hf
  refine xx_callVv C (ss_X5r_renew e3) (dd_X7_layBestPlan.at 13 rfl) ck_4 rfl sh_k2 kk_X5_renew ki_X5_renew lm_RX7_71 (lb_ rfl) rfl rfl (lb_ rfl) ?_
  refine xx_iconst C (dd_X7_layBestPlan.at 14 rfl) ic_0 ?_
  refine xx_istore (lv' := [_, _, _, _, _, _]) C (dd_X7_layBestPlan.at 15 rfl) (lb_ rfl) rfl ?_
  exact xx_mask [true, true, true, true, true, false] (ss_X7_layBestPlan_26 C Q _ _ _ _ hf)
theorem ss_X7_plan {l : Launch} {G : gt_} {a1 : Int32} {a2 : Int32} {h : hh_} {r9 : Int32} {h9 : hh_}  (hf : ff_X7_plan a1 a2 h = some (r9, h9)) : ok_ l G 6 mt_X7_plan [.ref 1, .int a1, .int a2] h (some (.int r9)) h9 := by
  refine ok_of pn_RX7 (lb_ rfl) (fun Z _ _ C Q => ?_)
  show xx_ Z 0 [some (.ref 1), some (.int a1), some (.int a2)] [] h
  unfold ff_X7_plan at hf
  refine xx_aload_n C (dd_X7_plan.at 0 rfl) rfl (Nat.le_of_ble_eq_true rfl) ?_
  obtain ⟨g1, hf⟩ := gd_ok hf
  refine xx_getR (j := 7) (r := h.2.2.1) C ck_6 (lb_ rfl) lf_RX7_55 sh_k1 rfl (lb_ rfl) rfl (dd_X7_plan.at 1 rfl) ?_
  refine xx_iconst C (dd_X7_plan.at 2 rfl) ic_1 ?_
  refine xx_iload_n C (dd_X7_plan.at 3 rfl) rfl ?_
  obtain ⟨v2, e3, hf⟩ := bdo_ hf
  refine xx_callVi C (ss_X2_has (bo_ok g1) e3) (dd_X7_plan.at 4 rfl) ck_1 rfl (sh_o (bo_ok g1)) kk_X2_has ki_X2_has lm_RX7_119 (lb_ rfl) rfl rfl (lb_ rfl) ?_
  rcases ifo_ hf with ⟨hc, hf⟩ | ⟨hc, hf⟩
  · refine xx_if_eq_t (tgt := 23) C (dd_X7_plan.at 5 rfl) (by decide) hc ?_
    refine xx_iconst C (dd_X7_plan.at 11 rfl) ic_m1 ?_
    exact xx_ireturn C (rt_iwp hf Q) (dd_X7_plan.at 12 rfl) rfl
  · refine xx_if_eq_f (tgt := 23) C (dd_X7_plan.at 5 rfl) (by decide) hc ?_
    refine xx_aload_n C (dd_X7_plan.at 6 rfl) rfl (Nat.le_of_ble_eq_true rfl) ?_
    refine xx_getR (j := 0) (r := 2) C ck_6 (lb_ rfl) lf_RX7_14 sh_k1 rfl (lb_ rfl) rfl (dd_X7_plan.at 7 rfl) ?_
    refine xx_iload_n C (dd_X7_plan.at 8 rfl) rfl ?_
    refine xx_callVi C (ss_X5r_allows rfl) (dd_X7_plan.at 9 rfl) ck_4 rfl sh_k2 kk_X5_allows ki_X5_allows lm_RX7_63 (lb_ rfl) rfl rfl (lb_ rfl) ?_
    rcases ifo_ hf with ⟨hc, hf⟩ | ⟨hc, hf⟩
    · refine xx_if_ne_f (tgt := 25) C (dd_X7_plan.at 10 rfl) (by decide) (not_not_intro hc) ?_
      refine xx_iconst C (dd_X7_plan.at 11 rfl) ic_m1 ?_
      exact xx_ireturn C (rt_iwp hf Q) (dd_X7_plan.at 12 rfl) rfl
    · refine xx_if_ne_t (tgt := 25) C (dd_X7_plan.at 10 rfl) (by decide) hc ?_
      refine xx_aload_n C (dd_X7_plan.at 13 rfl) rfl (Nat.le_of_ble_eq_true rfl) ?_
      refine xx_getR (j := 7) (r := h.2.2.1) C ck_6 (lb_ rfl) lf_RX7_55 sh_k1 rfl (lb_ rfl) rfl (dd_X7_plan.at 14 rfl) ?_
      refine xx_getR (j := 4) (r := (h.2.2.1 + 23)) C ck_1 (lb_ rfl) lf_RX7_118 (sh_o (bo_ok g1)) rfl (rc_o4 (bo_ok g1)) (rf_o4 (bo_ok g1)) (dd_X7_plan.at 15 rfl) ?_
      refine xx_iconst C (dd_X7_plan.at 16 rfl) ic_0 ?_
      refine xx_iaload C (dd_X7_plan.at 17 rfl) (sh_o23 (bo_ok g1)) (bi_ok (i := (0 : Int32)) (n := 3) rfl) ?_
      rcases ifo_ hf with ⟨hc, hf⟩ | ⟨hc, hf⟩
      · refine xx_if_ne_f (tgt := 40) C (dd_X7_plan.at 18 rfl) (by decide) (not_not_intro hc) ?_
        refine xx_bipush C (dd_X7_plan.at 19 rfl) bq_m4 ?_
        exact xx_ireturn C (rt_iwp hf Q) (dd_X7_plan.at 20 rfl) rfl
      · refine xx_if_ne_t (tgt := 40) C (dd_X7_plan.at 18 rfl) (by decide) hc ?_
        refine xx_aload_n C (dd_X7_plan.at 21 rfl) rfl (Nat.le_of_ble_eq_true rfl) ?_
        refine xx_getR (j := 4) (r := 20) C ck_6 (lb_ rfl) lf_RX7_37 sh_k1 rfl (lb_ rfl) rfl (dd_X7_plan.at 22 rfl) ?_
        refine xx_aload_n C (dd_X7_plan.at 23 rfl) rfl (Nat.le_of_ble_eq_true rfl) ?_
        refine xx_getR (j := 7) (r := h.2.2.1) C ck_6 (lb_ rfl) lf_RX7_55 sh_k1 rfl (lb_ rfl) rfl (dd_X7_plan.at 24 rfl) ?_
        refine xx_iload_n C (dd_X7_plan.at 25 rfl) rfl ?_
        obtain ⟨v4, e5, hf⟩ := bdo_ hf
        refine xx_callVv C (ss_X3_openByOne (bo_ok g1) e5) (dd_X7_plan.at 26 rfl) ck_2 rfl sh_k20 kk_X3_openByOne ki_X3_openByOne lm_RX7_231 (lb_ rfl) rfl rfl (lb_ rfl) ?_
        refine xx_aload_n C (dd_X7_plan.at 27 rfl) rfl (Nat.le_of_ble_eq_true rfl) ?_
        refine xx_getR (j := 4) (r := 20) C ck_6 (lb_ rfl) lf_RX7_37 sh_k1 rfl (lb_ rfl) rfl (dd_X7_plan.at 28 rfl) ?_
        refine xx_aload_n C (dd_X7_plan.at 29 rfl) rfl (Nat.le_of_ble_eq_true rfl) ?_
        obtain ⟨g6, hf⟩ := gd_ok hf
        refine xx_getR (j := 7) (r := v4.2.2.1) C ck_6 (lb_ rfl) lf_RX7_55 sh_k1 rfl (lb_ rfl) rfl (dd_X7_plan.at 30 rfl) ?_
        obtain ⟨v7, e8, hf⟩ := bdo_ hf
        refine xx_callVv C (ss_X3_reckon (bo_ok g6) e8) (dd_X7_plan.at 31 rfl) ck_2 rfl sh_k20 kk_X3_reckon ki_X3_reckon lm_RX7_235 (lb_ rfl) rfl rfl (lb_ rfl) ?_
        refine xx_aload_n C (dd_X7_plan.at 32 rfl) rfl (Nat.le_of_ble_eq_true rfl) ?_
        refine xx_iload_n C (dd_X7_plan.at 33 rfl) rfl ?_
        obtain ⟨v9, e10, hf⟩ := bdo_ hf
        refine xx_callVi C (ss_X7_layBestPlan (pz_ e10)) (dd_X7_plan.at 34 rfl) ck_6 rfl sh_k1 kk_X7_layBestPlan ki_X7_layBestPlan lm_RX7_238 (lb_ rfl) rfl rfl (lb_ rfl) ?_
        exact xx_ireturn C (rt_iwp hf Q) (dd_X7_plan.at 35 rfl) rfl
theorem ss_X7_plans {l : Launch} {G : gt_} {a1 : Int32} {h : hh_} {r9 : Int32} {h9 : hh_}  (hf : ff_X7_plans a1 h = some (r9, h9)) : ok_ l G 6 mt_X7_plans [.ref 1, .int a1] h (some (.int r9)) h9 := by
  refine ok_of pn_RX7 (lb_ rfl) (fun Z _ _ C Q => ?_)
  show xx_ Z 0 [some (.ref 1), some (.int a1)] [] h
  unfold ff_X7_plans at hf
  refine xx_aload_n C (dd_X7_plans.at 0 rfl) rfl (Nat.le_of_ble_eq_true rfl) ?_
  obtain ⟨g1, hf⟩ := gd_ok hf
  refine xx_getR (j := 7) (r := h.2.2.1) C ck_6 (lb_ rfl) lf_RX7_55 sh_k1 rfl (lb_ rfl) rfl (dd_X7_plans.at 1 rfl) ?_
  refine xx_iconst C (dd_X7_plans.at 2 rfl) ic_1 ?_
  refine xx_iload_n C (dd_X7_plans.at 3 rfl) rfl ?_
  obtain ⟨v2, e3, hf⟩ := bdo_ hf
  refine xx_callVi C (ss_X2_has (bo_ok g1) e3) (dd_X7_plans.at 4 rfl) ck_1 rfl (sh_o (bo_ok g1)) kk_X2_has ki_X2_has lm_RX7_119 (lb_ rfl) rfl rfl (lb_ rfl) ?_
  rcases ifo_ hf with ⟨hc, hf⟩ | ⟨hc, hf⟩
  · refine xx_if_ne_f (tgt := 14) C (dd_X7_plans.at 5 rfl) (by decide) (not_not_intro hc) ?_
    refine xx_iconst C (dd_X7_plans.at 6 rfl) ic_m1 ?_
    exact xx_ireturn C (rt_iwp hf Q) (dd_X7_plans.at 7 rfl) rfl
  · refine xx_if_ne_t (tgt := 14) C (dd_X7_plans.at 5 rfl) (by decide) hc ?_
    refine xx_aload_n C (dd_X7_plans.at 8 rfl) rfl (Nat.le_of_ble_eq_true rfl) ?_
    refine xx_getR (j := 4) (r := 20) C ck_6 (lb_ rfl) lf_RX7_37 sh_k1 rfl (lb_ rfl) rfl (dd_X7_plans.at 9 rfl) ?_
    refine xx_aload_n C (dd_X7_plans.at 10 rfl) rfl (Nat.le_of_ble_eq_true rfl) ?_
    refine xx_getR (j := 7) (r := h.2.2.1) C ck_6 (lb_ rfl) lf_RX7_55 sh_k1 rfl (lb_ rfl) rfl (dd_X7_plans.at 11 rfl) ?_
    refine xx_iload_n C (dd_X7_plans.at 12 rfl) rfl ?_
    obtain ⟨v4, e5, hf⟩ := bdo_ hf
    refine xx_callVv C (ss_X3_openByOne (bo_ok g1) e5) (dd_X7_plans.at 13 rfl) ck_2 rfl sh_k20 kk_X3_openByOne ki_X3_openByOne lm_RX7_231 (lb_ rfl) rfl rfl (lb_ rfl) ?_
    refine xx_aload_n C (dd_X7_plans.at 14 rfl) rfl (Nat.le_of_ble_eq_true rfl) ?_
    refine xx_getR (j := 4) (r := 20) C ck_6 (lb_ rfl) lf_RX7_37 sh_k1 rfl (lb_ rfl) rfl (dd_X7_plans.at 15 rfl) ?_
    refine xx_aload_n C (dd_X7_plans.at 16 rfl) rfl (Nat.le_of_ble_eq_true rfl) ?_
    obtain ⟨g6, hf⟩ := gd_ok hf
    refine xx_getR (j := 7) (r := v4.2.2.1) C ck_6 (lb_ rfl) lf_RX7_55 sh_k1 rfl (lb_ rfl) rfl (dd_X7_plans.at 17 rfl) ?_
    obtain ⟨v7, e8, hf⟩ := bdo_ hf
    refine xx_callVv C (ss_X3_reckon (bo_ok g6) e8) (dd_X7_plans.at 18 rfl) ck_2 rfl sh_k20 kk_X3_reckon ki_X3_reckon lm_RX7_235 (lb_ rfl) rfl rfl (lb_ rfl) ?_
    refine xx_aload_n C (dd_X7_plans.at 19 rfl) rfl (Nat.le_of_ble_eq_true rfl) ?_
    refine xx_getR (j := 5) (r := 36) C ck_6 (lb_ rfl) lf_RX7_44 sh_k1 rfl (lb_ rfl) rfl (dd_X7_plans.at 20 rfl) ?_
    refine xx_aload_n C (dd_X7_plans.at 21 rfl) rfl (Nat.le_of_ble_eq_true rfl) ?_
    refine xx_getR (j := 4) (r := 20) C ck_6 (lb_ rfl) lf_RX7_37 sh_k1 rfl (lb_ rfl) rfl (dd_X7_plans.at 22 rfl) ?_
    refine xx_getR (j := 2) (r := 29) C ck_2 (lb_ rfl) lf_RX7_241 sh_k20 rfl (lb_ rfl) rfl (dd_X7_plans.at 23 rfl) ?_
    refine xx_iconst C (dd_X7_plans.at 24 rfl) ic_0 ?_
    refine xx_aaload (r := (30 + Int32.toNatClampNeg (0 : Int32))) C (dd_X7_plans.at 25 rfl) sh_k29 (bi_ok (i := (0 : Int32)) (n := 6) rfl) (sh_lt (sh_e29 (bi_ok (i := (0 : Int32)) (n := 6) rfl))) rfl ?_
    refine xx_iconst C (dd_X7_plans.at 26 rfl) ic_0 ?_
    refine xx_iaload C (dd_X7_plans.at 27 rfl) (sh_e29 (bi_ok (i := (0 : Int32)) (n := 6) rfl)) (bi_ok (i := (0 : Int32)) (n := 16) rfl) ?_
    refine xx_i2l C (dd_X7_plans.at 28 rfl) ?_
    refine xx_lconst (v := 1) C (dd_X7_plans.at 29 rfl) rfl ?_
    obtain ⟨v9, e10, hf⟩ := bdo_ hf
    refine xx_callVi C (ss_X6_tellFraction (pz_ e10)) (dd_X7_plans.at 30 rfl) ck_5 rfl sh_k36 kk_X6_tellFraction ki_X6_tellFraction lm_RX7_199 (lb_ rfl) rfl rfl (lb_ rfl) ?_
    exact xx_ireturn C (rt_iwp hf Q) (dd_X7_plans.at 31 rfl) rfl
theorem ss_X3_openByAll_30 {Z : zz_} (C : cx_ Z mt_X3_openByAll 5) {h9 : hh_} {x1 : Nat} {x2 : Int32} {K30_63 : hh_ → Option (hh_)} (Q : rq_ Z none h9) (ho1 : isO_ x1) (hK30_63 : ∀ (h8 : hh_), K30_63 h8 = some h9 → xx_ Z 63 [some (.ref 20), some (.ref x1), some (.int x2), none] [] h8) : ∀ (n9 : Nat) (x3 : Int32) (h : hh_), ff_X3_openByAll_30 x1 x2 K30_63 n9 x3 h = some h9 → xx_ Z 30 [some (.ref 20), some (.ref x1), some (.int x2), some (.int x3)] [] h := by
  intro n9
  induction n9 with
  | zero =>
    intro x3 h hf
    exact absurd hf (by rw [ff_X3_openByAll_30]; exact nofun)
  | succ n9 ih =>
    intro x3 h hf
    rw [ff_X3_openByAll_30] at hf
    refine xx_iload_n C (dd_X3_openByAll.at 22 rfl) rfl ?_
    refine xx_aload_n C (dd_X3_openByAll.at 23 rfl) rfl (isO_pos ho1) ?_
    refine xx_getR (j := 4) (r := (x1 + 23)) C ck_1 (lb_ rfl) lf_RX3_23 (sh_o ho1) rfl (rc_o4 ho1) (rf_o4 ho1) (dd_X3_openByAll.at 24 rfl) ?_
    refine xx_iconst C (dd_X3_openByAll.at 25 rfl) ic_1 ?_
    refine xx_iaload C (dd_X3_openByAll.at 26 rfl) (sh_o23 ho1) (bi_ok (i := (1 : Int32)) (n := 3) rfl) ?_
    rcases ifo_ hf with ⟨hc, hf⟩ | ⟨hc, hf⟩
    · refine xx_icmp_ge_t (tgt := 63) C (dd_X3_openByAll.at 27 rfl) (by decide) hc ?_
      exact xx_mask [true, true, true, false] (hK30_63 _ hf)
    · refine xx_icmp_ge_f (tgt := 63) C (dd_X3_openByAll.at 27 rfl) (by decide) hc ?_
      refine xx_aload_n C (dd_X3_openByAll.at 28 rfl) rfl (Nat.le_of_ble_eq_true rfl) ?_
      refine xx_getR (j := 0) (r := 21) C ck_2 (lb_ rfl) lf_RX3_9 sh_k20 rfl (lb_ rfl) rfl (dd_X3_openByAll.at 29 rfl) ?_
      refine xx_iload_n C (dd_X3_openByAll.at 30 rfl) rfl ?_
      refine xx_dup2 C (dd_X3_openByAll.at 31 rfl) rfl rfl ?_
      obtain ⟨g2, hf⟩ := gd_ok hf
      refine xx_iaload C (dd_X3_openByAll.at 32 rfl) sh_k21 (bi_ok g2) ?_
      refine xx_aload_n C (dd_X3_openByAll.at 33 rfl) rfl (isO_pos ho1) ?_
      refine xx_iload_n C (dd_X3_openByAll.at 34 rfl) rfl ?_
      refine xx_iload_n C (dd_X3_openByAll.at 35 rfl) rfl ?_
      refine xx_bipush C (dd_X3_openByAll.at 36 rfl) bq_m9 ?_
      obtain ⟨v3, e4, hf⟩ := bdo_ hf
      refine xx_callVi C (ss_X2_surePosts ho1 e4) (dd_X3_openByAll.at 37 rfl) ck_1 rfl (sh_o ho1) kk_X2_surePosts ki_X2_surePosts lm_RX3_28 (lb_ rfl) rfl rfl (lb_ rfl) ?_
      refine xx_iand C (dd_X3_openByAll.at 38 rfl) ?_
      refine xx_iastore C (dd_X3_openByAll.at 39 rfl) sh_k21 (bi_ok g2) ?_
      refine xx_iinc (v := _ + (1 : Int32)) (lv' := [_, _, _, _]) C (dd_X3_openByAll.at 40 rfl) (lb_ rfl) rfl (by rw [ic_1]) rfl ?_
      refine xx_goto (tgt := 30) C (dd_X3_openByAll.at 41 rfl) (by decide) ?_
      exact xx_mask [true, true, true, true] (ih _ _ hf)
theorem ss_X3_openByAll_2 {Z : zz_} (C : cx_ Z mt_X3_openByAll 5) {h9 : hh_} {x1 : Nat}  (Q : rq_ Z none h9) (ho1 : isO_ x1) : ∀ (n9 : Nat) (x2 : Int32) (h : hh_), ff_X3_openByAll_2 x1 n9 x2 h = some h9 → xx_ Z 2 [some (.ref 20), some (.ref x1), some (.int x2), none] [] h := by
  intro n9
  induction n9 with
  | zero =>
    intro x2 h hf
    exact absurd hf (by rw [ff_X3_openByAll_2]; exact nofun)
  | succ n9 ih =>
    intro x2 h hf
    rw [ff_X3_openByAll_2] at hf
    refine xx_iload_n C (dd_X3_openByAll.at 2 rfl) rfl ?_
    refine xx_aload_n C (dd_X3_openByAll.at 3 rfl) rfl (isO_pos ho1) ?_
    refine xx_getR (j := 4) (r := (x1 + 23)) C ck_1 (lb_ rfl) lf_RX3_23 (sh_o ho1) rfl (rc_o4 ho1) (rf_o4 ho1) (dd_X3_openByAll.at 4 rfl) ?_
    refine xx_iconst C (dd_X3_openByAll.at 5 rfl) ic_0 ?_
    refine xx_iaload C (dd_X3_openByAll.at 6 rfl) (sh_o23 ho1) (bi_ok (i := (0 : Int32)) (n := 3) rfl) ?_
    rcases ifo_ hf with ⟨hc, hf⟩ | ⟨hc, hf⟩
    · refine xx_icmp_ge_t (tgt := 69) C (dd_X3_openByAll.at 7 rfl) (by decide) hc ?_
      exact xx_return C (rt_vwp hf Q) (dd_X3_openByAll.at 44 rfl) rfl
    · refine xx_icmp_ge_f (tgt := 69) C (dd_X3_openByAll.at 7 rfl) (by decide) hc ?_
      refine xx_aload_n C (dd_X3_openByAll.at 8 rfl) rfl (Nat.le_of_ble_eq_true rfl) ?_
      refine xx_getR (j := 0) (r := 21) C ck_2 (lb_ rfl) lf_RX3_9 sh_k20 rfl (lb_ rfl) rfl (dd_X3_openByAll.at 9 rfl) ?_
      refine xx_iload_n C (dd_X3_openByAll.at 10 rfl) rfl ?_
      refine xx_iconst C (dd_X3_openByAll.at 11 rfl) ic_1 ?_
      refine xx_aload_n C (dd_X3_openByAll.at 12 rfl) rfl (isO_pos ho1) ?_
      refine xx_getR (j := 4) (r := (x1 + 23)) C ck_1 (lb_ rfl) lf_RX3_23 (sh_o ho1) rfl (rc_o4 ho1) (rf_o4 ho1) (dd_X3_openByAll.at 13 rfl) ?_
      refine xx_iconst C (dd_X3_openByAll.at 14 rfl) ic_2 ?_
      refine xx_iaload C (dd_X3_openByAll.at 15 rfl) (sh_o23 ho1) (bi_ok (i := (2 : Int32)) (n := 3) rfl) ?_
      refine xx_ishl C (dd_X3_openByAll.at 16 rfl) ?_
      refine xx_iconst C (dd_X3_openByAll.at 17 rfl) ic_1 ?_
      refine xx_isub C (dd_X3_openByAll.at 18 rfl) ?_
      obtain ⟨g1, hf⟩ := gd_ok hf
      refine xx_iastore C (dd_X3_openByAll.at 19 rfl) sh_k21 (bi_ok g1) ?_
      refine xx_iconst C (dd_X3_openByAll.at 20 rfl) ic_0 ?_
      refine xx_istore_n (lv' := [_, _, _, _]) C (dd_X3_openByAll.at 21 rfl) (lb_ rfl) rfl ?_
      refine xx_mask [true, true, true, true] (ss_X3_openByAll_30 C Q ho1 (fun k5 hf => ?_) _ _ _ hf)
      refine xx_iinc (v := _ + (1 : Int32)) (lv' := [_, _, _, _]) C (dd_X3_openByAll.at 42 rfl) (lb_ rfl) rfl (by rw [ic_1]) rfl ?_
      refine xx_goto (tgt := 2) C (dd_X3_openByAll.at 43 rfl) (by decide) ?_
      exact xx_mask [true, true, true, false] (ih _ _ hf)
theorem ss_X3_openByAll {l : Launch} {G : gt_} {a1 : Nat} {h : hh_} {h9 : hh_} (ho1 : isO_ a1) (hf : ff_X3_openByAll a1 h = some h9) : ok_ l G 5 mt_X3_openByAll [.ref 20, .ref a1] h none h9 := by
  refine ok_of pn_RX3 (lb_ rfl) (fun Z _ _ C Q => ?_)
  show xx_ Z 0 [some (.ref 20), some (.ref a1), none, none] [] h
  unfold ff_X3_openByAll at hf
  refine xx_iconst C (dd_X3_openByAll.at 0 rfl) ic_0 ?_
  refine xx_istore_n (lv' := [_, _, _, _]) C (dd_X3_openByAll.at 1 rfl) (lb_ rfl) rfl ?_
  exact xx_mask [true, true, true, false] (ss_X3_openByAll_2 C Q ho1 _ _ _ hf)
theorem ss_X7_safest {l : Launch} {G : gt_} {a1 : Int32} {h : hh_} {r9 : Int32} {h9 : hh_}  (hf : ff_X7_safest a1 h = some (r9, h9)) : ok_ l G 6 mt_X7_safest [.ref 1, .int a1] h (some (.int r9)) h9 := by
  refine ok_of pn_RX7 (lb_ rfl) (fun Z _ _ C Q => ?_)
  show xx_ Z 0 [some (.ref 1), some (.int a1)] [] h
  unfold ff_X7_safest at hf
  refine xx_aload_n C (dd_X7_safest.at 0 rfl) rfl (Nat.le_of_ble_eq_true rfl) ?_
  refine xx_getR (j := 0) (r := 2) C ck_6 (lb_ rfl) lf_RX7_14 sh_k1 rfl (lb_ rfl) rfl (dd_X7_safest.at 1 rfl) ?_
  refine xx_iload_n C (dd_X7_safest.at 2 rfl) rfl ?_
  refine xx_callVi C (ss_X5r_allows rfl) (dd_X7_safest.at 3 rfl) ck_4 rfl sh_k2 kk_X5_allows ki_X5_allows lm_RX7_63 (lb_ rfl) rfl rfl (lb_ rfl) ?_
  rcases ifo_ hf with ⟨hc, hf⟩ | ⟨hc, hf⟩
  · refine xx_if_ne_f (tgt := 13) C (dd_X7_safest.at 4 rfl) (by decide) (not_not_intro hc) ?_
    refine xx_iconst C (dd_X7_safest.at 5 rfl) ic_m1 ?_
    exact xx_ireturn C (rt_iwp hf Q) (dd_X7_safest.at 6 rfl) rfl
  · refine xx_if_ne_t (tgt := 13) C (dd_X7_safest.at 4 rfl) (by decide) hc ?_
    refine xx_aload_n C (dd_X7_safest.at 7 rfl) rfl (Nat.le_of_ble_eq_true rfl) ?_
    obtain ⟨g1, hf⟩ := gd_ok hf
    refine xx_getR (j := 7) (r := h.2.2.1) C ck_6 (lb_ rfl) lf_RX7_55 sh_k1 rfl (lb_ rfl) rfl (dd_X7_safest.at 8 rfl) ?_
    refine xx_getR (j := 4) (r := (h.2.2.1 + 23)) C ck_1 (lb_ rfl) lf_RX7_118 (sh_o (bo_ok g1)) rfl (rc_o4 (bo_ok g1)) (rf_o4 (bo_ok g1)) (dd_X7_safest.at 9 rfl) ?_
    refine xx_iconst C (dd_X7_safest.at 10 rfl) ic_0 ?_
    refine xx_iaload C (dd_X7_safest.at 11 rfl) (sh_o23 (bo_ok g1)) (bi_ok (i := (0 : Int32)) (n := 3) rfl) ?_
    rcases ifo_ hf with ⟨hc, hf⟩ | ⟨hc, hf⟩
    · refine xx_if_ne_f (tgt := 28) C (dd_X7_safest.at 12 rfl) (by decide) (not_not_intro hc) ?_
      refine xx_bipush C (dd_X7_safest.at 13 rfl) bq_m4 ?_
      exact xx_ireturn C (rt_iwp hf Q) (dd_X7_safest.at 14 rfl) rfl
    · refine xx_if_ne_t (tgt := 28) C (dd_X7_safest.at 12 rfl) (by decide) hc ?_
      refine xx_aload_n C (dd_X7_safest.at 15 rfl) rfl (Nat.le_of_ble_eq_true rfl) ?_
      refine xx_getR (j := 4) (r := 20) C ck_6 (lb_ rfl) lf_RX7_37 sh_k1 rfl (lb_ rfl) rfl (dd_X7_safest.at 16 rfl) ?_
      refine xx_aload_n C (dd_X7_safest.at 17 rfl) rfl (Nat.le_of_ble_eq_true rfl) ?_
      refine xx_getR (j := 7) (r := h.2.2.1) C ck_6 (lb_ rfl) lf_RX7_55 sh_k1 rfl (lb_ rfl) rfl (dd_X7_safest.at 18 rfl) ?_
      obtain ⟨v2, e3, hf⟩ := bdo_ hf
      refine xx_callVv C (ss_X3_openByAll (bo_ok g1) e3) (dd_X7_safest.at 19 rfl) ck_2 rfl sh_k20 kk_X3_openByAll ki_X3_openByAll lm_RX7_243 (lb_ rfl) rfl rfl (lb_ rfl) ?_
      refine xx_aload_n C (dd_X7_safest.at 20 rfl) rfl (Nat.le_of_ble_eq_true rfl) ?_
      refine xx_getR (j := 4) (r := 20) C ck_6 (lb_ rfl) lf_RX7_37 sh_k1 rfl (lb_ rfl) rfl (dd_X7_safest.at 21 rfl) ?_
      refine xx_aload_n C (dd_X7_safest.at 22 rfl) rfl (Nat.le_of_ble_eq_true rfl) ?_
      obtain ⟨g4, hf⟩ := gd_ok hf
      refine xx_getR (j := 7) (r := v2.2.2.1) C ck_6 (lb_ rfl) lf_RX7_55 sh_k1 rfl (lb_ rfl) rfl (dd_X7_safest.at 23 rfl) ?_
      obtain ⟨v5, e6, hf⟩ := bdo_ hf
      refine xx_callVv C (ss_X3_reckon (bo_ok g4) e6) (dd_X7_safest.at 24 rfl) ck_2 rfl sh_k20 kk_X3_reckon ki_X3_reckon lm_RX7_235 (lb_ rfl) rfl rfl (lb_ rfl) ?_
      refine xx_aload_n C (dd_X7_safest.at 25 rfl) rfl (Nat.le_of_ble_eq_true rfl) ?_
      refine xx_iload_n C (dd_X7_safest.at 26 rfl) rfl ?_
      obtain ⟨v7, e8, hf⟩ := bdo_ hf
      refine xx_callVi C (ss_X7_layBestPlan (pz_ e8)) (dd_X7_safest.at 27 rfl) ck_6 rfl sh_k1 kk_X7_layBestPlan ki_X7_layBestPlan lm_RX7_238 (lb_ rfl) rfl rfl (lb_ rfl) ?_
      exact xx_ireturn C (rt_iwp hf Q) (dd_X7_safest.at 28 rfl) rfl
theorem ss_X7_gain_67 {Z : zz_} (C : cx_ Z mt_X7_gain 6) {r9 : Int32} {h9 : hh_} {x1 : Int32} {x2 : Int32} {x3 : Int32} {K67_155 : Int32 → Int32 → hh_ → Option (Int32 × hh_)} (Q : rq_ Z (some (.int r9)) h9) (hK67_155 : ∀ (z4 : Int32) (z5 : Int32) (h8 : hh_), K67_155 z4 z5 h8 = some (r9, h9) → xx_ Z 155 [some (.ref 1), none, none, none, some (.int z4), some (.int z5), none] [] h8) : ∀ (n9 : Nat) (x4 : Int32) (x5 : Int32) (x6 : Int32) (h : hh_), ff_X7_gain_67 x1 x2 x3 K67_155 n9 x4 x5 x6 h = some (r9, h9) → xx_ Z 67 [some (.ref 1), some (.int x1), some (.int x2), some (.int x3), some (.int x4), some (.int x5), some (.int x6)] [] h := by
  intro n9
  induction n9 with
  | zero =>
    intro x4 x5 x6 h hf
    exact absurd hf (by rw [ff_X7_gain_67]; exact nofun)
  | succ n9 ih =>
    intro x4 x5 x6 h hf
    rw [ff_X7_gain_67] at hf
    refine xx_iload C (dd_X7_gain.at 35 rfl) rfl ?_
    refine xx_iconst C (dd_X7_gain.at 36 rfl) ic_4 ?_
    rcases ifo_ hf with ⟨hc, hf⟩ | ⟨hc, hf⟩
    · refine xx_icmp_ge_t (tgt := 155) C (dd_X7_gain.at 37 rfl) (by decide) hc ?_
      exact xx_mask [true, false, false, false, true, true, false] (hK67_155 _ _ _ hf)
    · refine xx_icmp_ge_f (tgt := 155) C (dd_X7_gain.at 37 rfl) (by decide) hc ?_
      refine xx_aload_n C (dd_X7_gain.at 38 rfl) rfl (Nat.le_of_ble_eq_true rfl) ?_
      obtain ⟨g13, hf⟩ := gd_ok hf
      refine xx_getR (j := 7) (r := h.2.2.1) C ck_6 (lb_ rfl) lf_RX7_55 sh_k1 rfl (lb_ rfl) rfl (dd_X7_gain.at 39 rfl) ?_
      refine xx_getR (j := 1) (r := (h.2.2.1 + 7)) C ck_1 (lb_ rfl) lf_RX7_157 (sh_o (bo_ok g13)) rfl (rc_o1 (bo_ok g13)) (rf_o1 (bo_ok g13)) (dd_X7_gain.at 40 rfl) ?_
      refine xx_iload_n C (dd_X7_gain.at 41 rfl) rfl ?_
      obtain ⟨g14, hf⟩ := gd_ok hf
      refine xx_aaload (r := (h.2.2.1 + 8 + Int32.toNatClampNeg x2)) C (dd_X7_gain.at 42 rfl) (sh_o7 (bo_ok g13)) (bi_ok g14) (sh_lt (sh_oe7 (bo_ok g13) (bi_ok g14))) rfl ?_
      refine xx_iload C (dd_X7_gain.at 43 rfl) rfl ?_
      obtain ⟨g15, hf⟩ := gd_ok hf
      refine xx_iaload C (dd_X7_gain.at 44 rfl) (sh_oe7 (bo_ok g13) (bi_ok g14)) (bi_ok g15) ?_
      refine xx_iconst C (dd_X7_gain.at 45 rfl) ic_5 ?_
      rcases ifo_ hf with ⟨hc, hf⟩ | ⟨hc, hf⟩
      · refine xx_icmp_ge_t (tgt := 149) C (dd_X7_gain.at 46 rfl) (by decide) hc ?_
        refine xx_iinc (v := _ + (1 : Int32)) (lv' := [_, _, _, _, _, _, _]) C (dd_X7_gain.at 78 rfl) (lb_ rfl) rfl (by rw [ic_1]) rfl ?_
        refine xx_goto (tgt := 67) C (dd_X7_gain.at 79 rfl) (by decide) ?_
        exact xx_mask [true, true, true, true, true, true, true] (ih _ _ _ _ hf)
      · refine xx_icmp_ge_f (tgt := 149) C (dd_X7_gain.at 46 rfl) (by decide) hc ?_
        refine xx_aload_n C (dd_X7_gain.at 47 rfl) rfl (Nat.le_of_ble_eq_true rfl) ?_
        refine xx_getR (j := 4) (r := 20) C ck_6 (lb_ rfl) lf_RX7_37 sh_k1 rfl (lb_ rfl) rfl (dd_X7_gain.at 48 rfl) ?_
        refine xx_getR (j := 0) (r := 21) C ck_2 (lb_ rfl) lf_RX7_250 sh_k20 rfl (lb_ rfl) rfl (dd_X7_gain.at 49 rfl) ?_
        refine xx_iload_n C (dd_X7_gain.at 50 rfl) rfl ?_
        refine xx_aload_n C (dd_X7_gain.at 51 rfl) rfl (Nat.le_of_ble_eq_true rfl) ?_
        refine xx_getR (j := 7) (r := h.2.2.1) C ck_6 (lb_ rfl) lf_RX7_55 sh_k1 rfl (lb_ rfl) rfl (dd_X7_gain.at 52 rfl) ?_
        refine xx_iload_n C (dd_X7_gain.at 53 rfl) rfl ?_
        refine xx_iload_n C (dd_X7_gain.at 54 rfl) rfl ?_
        refine xx_iload C (dd_X7_gain.at 55 rfl) rfl ?_
        obtain ⟨v16, e17, hf⟩ := bdo_ hf
        refine xx_callVi C (ss_X2_surePosts (bo_ok g13) e17) (dd_X7_gain.at 56 rfl) ck_1 rfl (sh_o (bo_ok g13)) kk_X2_surePosts ki_X2_surePosts lm_RX7_228 (lb_ rfl) rfl rfl (lb_ rfl) ?_
        refine xx_iastore C (dd_X7_gain.at 57 rfl) sh_k21 (bi_ok g14) ?_
        refine xx_aload_n C (dd_X7_gain.at 58 rfl) rfl (Nat.le_of_ble_eq_true rfl) ?_
        refine xx_getR (j := 4) (r := 20) C ck_6 (lb_ rfl) lf_RX7_37 sh_k1 rfl (lb_ rfl) rfl (dd_X7_gain.at 59 rfl) ?_
        refine xx_aload_n C (dd_X7_gain.at 60 rfl) rfl (Nat.le_of_ble_eq_true rfl) ?_
        refine xx_getR (j := 7) (r := h.2.2.1) C ck_6 (lb_ rfl) lf_RX7_55 sh_k1 rfl (lb_ rfl) rfl (dd_X7_gain.at 61 rfl) ?_
        obtain ⟨v18, e19, hf⟩ := bdo_ hf
        refine xx_callVv C (ss_X3_reckon (bo_ok g13) e19) (dd_X7_gain.at 62 rfl) ck_2 rfl sh_k20 kk_X3_reckon ki_X3_reckon lm_RX7_235 (lb_ rfl) rfl rfl (lb_ rfl) ?_
        refine xx_aload_n C (dd_X7_gain.at 63 rfl) rfl (Nat.le_of_ble_eq_true rfl) ?_
        refine xx_getR (j := 4) (r := 20) C ck_6 (lb_ rfl) lf_RX7_37 sh_k1 rfl (lb_ rfl) rfl (dd_X7_gain.at 64 rfl) ?_
        obtain ⟨v20, e21, hf⟩ := bdo_ hf
        refine xx_callVi C (ss_X3_bestPay e21) (dd_X7_gain.at 65 rfl) ck_2 rfl sh_k20 kk_X3_bestPay ki_X3_bestPay lm_RX7_246 (lb_ rfl) rfl rfl (lb_ rfl) ?_
        refine xx_iload_n C (dd_X7_gain.at 66 rfl) rfl ?_
        refine xx_isub C (dd_X7_gain.at 67 rfl) ?_
        refine xx_iload C (dd_X7_gain.at 68 rfl) rfl ?_
        rcases ifo_ hf with ⟨hc, hf⟩ | ⟨hc, hf⟩
        · refine xx_icmp_le_t (tgt := 149) C (dd_X7_gain.at 69 rfl) (by decide) hc ?_
          refine xx_iinc (v := _ + (1 : Int32)) (lv' := [_, _, _, _, _, _, _]) C (dd_X7_gain.at 78 rfl) (lb_ rfl) rfl (by rw [ic_1]) rfl ?_
          refine xx_goto (tgt := 67) C (dd_X7_gain.at 79 rfl) (by decide) ?_
          exact xx_mask [true, true, true, true, true, true, true] (ih _ _ _ _ hf)
        · refine xx_icmp_le_f (tgt := 149) C (dd_X7_gain.at 69 rfl) (by decide) hc ?_
          refine xx_aload_n C (dd_X7_gain.at 70 rfl) rfl (Nat.le_of_ble_eq_true rfl) ?_
          refine xx_getR (j := 4) (r := 20) C ck_6 (lb_ rfl) lf_RX7_37 sh_k1 rfl (lb_ rfl) rfl (dd_X7_gain.at 71 rfl) ?_
          obtain ⟨v22, e23, hf⟩ := bdo_ hf
          refine xx_callVi C (ss_X3_bestPay e23) (dd_X7_gain.at 72 rfl) ck_2 rfl sh_k20 kk_X3_bestPay ki_X3_bestPay lm_RX7_246 (lb_ rfl) rfl rfl (lb_ rfl) ?_
          refine xx_iload_n C (dd_X7_gain.at 73 rfl) rfl ?_
          refine xx_isub C (dd_X7_gain.at 74 rfl) ?_
          refine xx_istore (lv' := [_, _, _, _, _, _, _]) C (dd_X7_gain.at 75 rfl) (lb_ rfl) rfl ?_
          refine xx_iload C (dd_X7_gain.at 76 rfl) rfl ?_
          refine xx_istore (lv' := [_, _, _, _, _, _, _]) C (dd_X7_gain.at 77 rfl) (lb_ rfl) rfl ?_
          refine xx_iinc (v := _ + (1 : Int32)) (lv' := [_, _, _, _, _, _, _]) C (dd_X7_gain.at 78 rfl) (lb_ rfl) rfl (by rw [ic_1]) rfl ?_
          refine xx_goto (tgt := 67) C (dd_X7_gain.at 79 rfl) (by decide) ?_
          exact xx_mask [true, true, true, true, true, true, true] (ih _ _ _ _ hf)
theorem ss_X7_gain {l : Launch} {G : gt_} {a1 : Int32} {a2 : Int32} {h : hh_} {r9 : Int32} {h9 : hh_}  (hf : ff_X7_gain a1 a2 h = some (r9, h9)) : ok_ l G 6 mt_X7_gain [.ref 1, .int a1, .int a2] h (some (.int r9)) h9 := by
  refine ok_of pn_RX7 (lb_ rfl) (fun Z _ _ C Q => ?_)
  show xx_ Z 0 [some (.ref 1), some (.int a1), some (.int a2), none, none, none, none] [] h
  unfold ff_X7_gain at hf
  refine xx_aload_n C (dd_X7_gain.at 0 rfl) rfl (Nat.le_of_ble_eq_true rfl) ?_
  obtain ⟨g1, hf⟩ := gd_ok hf
  refine xx_getR (j := 7) (r := h.2.2.1) C ck_6 (lb_ rfl) lf_RX7_55 sh_k1 rfl (lb_ rfl) rfl (dd_X7_gain.at 1 rfl) ?_
  refine xx_iconst C (dd_X7_gain.at 2 rfl) ic_1 ?_
  refine xx_iload_n C (dd_X7_gain.at 3 rfl) rfl ?_
  obtain ⟨v2, e3, hf⟩ := bdo_ hf
  refine xx_callVi C (ss_X2_has (bo_ok g1) e3) (dd_X7_gain.at 4 rfl) ck_1 rfl (sh_o (bo_ok g1)) kk_X2_has ki_X2_has lm_RX7_119 (lb_ rfl) rfl rfl (lb_ rfl) ?_
  rcases ifo_ hf with ⟨hc, hf⟩ | ⟨hc, hf⟩
  · refine xx_if_eq_t (tgt := 24) C (dd_X7_gain.at 5 rfl) (by decide) hc ?_
    refine xx_iconst C (dd_X7_gain.at 12 rfl) ic_m1 ?_
    exact xx_ireturn C (rt_iwp hf Q) (dd_X7_gain.at 13 rfl) rfl
  · refine xx_if_eq_f (tgt := 24) C (dd_X7_gain.at 5 rfl) (by decide) hc ?_
    refine xx_aload_n C (dd_X7_gain.at 6 rfl) rfl (Nat.le_of_ble_eq_true rfl) ?_
    refine xx_getR (j := 7) (r := h.2.2.1) C ck_6 (lb_ rfl) lf_RX7_55 sh_k1 rfl (lb_ rfl) rfl (dd_X7_gain.at 7 rfl) ?_
    refine xx_iconst C (dd_X7_gain.at 8 rfl) ic_0 ?_
    refine xx_iload_n C (dd_X7_gain.at 9 rfl) rfl ?_
    obtain ⟨v4, e5, hf⟩ := bdo_ hf
    refine xx_callVi C (ss_X2_has (bo_ok g1) e5) (dd_X7_gain.at 10 rfl) ck_1 rfl (sh_o (bo_ok g1)) kk_X2_has ki_X2_has lm_RX7_119 (lb_ rfl) rfl rfl (lb_ rfl) ?_
    rcases ifo_ hf with ⟨hc, hf⟩ | ⟨hc, hf⟩
    · refine xx_if_ne_f (tgt := 26) C (dd_X7_gain.at 11 rfl) (by decide) (not_not_intro hc) ?_
      refine xx_iconst C (dd_X7_gain.at 12 rfl) ic_m1 ?_
      exact xx_ireturn C (rt_iwp hf Q) (dd_X7_gain.at 13 rfl) rfl
    · refine xx_if_ne_t (tgt := 26) C (dd_X7_gain.at 11 rfl) (by decide) hc ?_
      refine xx_aload_n C (dd_X7_gain.at 14 rfl) rfl (Nat.le_of_ble_eq_true rfl) ?_
      refine xx_getR (j := 4) (r := 20) C ck_6 (lb_ rfl) lf_RX7_37 sh_k1 rfl (lb_ rfl) rfl (dd_X7_gain.at 15 rfl) ?_
      refine xx_aload_n C (dd_X7_gain.at 16 rfl) rfl (Nat.le_of_ble_eq_true rfl) ?_
      refine xx_getR (j := 7) (r := h.2.2.1) C ck_6 (lb_ rfl) lf_RX7_55 sh_k1 rfl (lb_ rfl) rfl (dd_X7_gain.at 17 rfl) ?_
      refine xx_iload_n C (dd_X7_gain.at 18 rfl) rfl ?_
      obtain ⟨v6, e7, hf⟩ := bdo_ hf
      refine xx_callVv C (ss_X3_openByOne (bo_ok g1) e7) (dd_X7_gain.at 19 rfl) ck_2 rfl sh_k20 kk_X3_openByOne ki_X3_openByOne lm_RX7_231 (lb_ rfl) rfl rfl (lb_ rfl) ?_
      refine xx_aload_n C (dd_X7_gain.at 20 rfl) rfl (Nat.le_of_ble_eq_true rfl) ?_
      refine xx_getR (j := 4) (r := 20) C ck_6 (lb_ rfl) lf_RX7_37 sh_k1 rfl (lb_ rfl) rfl (dd_X7_gain.at 21 rfl) ?_
      refine xx_aload_n C (dd_X7_gain.at 22 rfl) rfl (Nat.le_of_ble_eq_true rfl) ?_
      obtain ⟨g8, hf⟩ := gd_ok hf
      refine xx_getR (j := 7) (r := v6.2.2.1) C ck_6 (lb_ rfl) lf_RX7_55 sh_k1 rfl (lb_ rfl) rfl (dd_X7_gain.at 23 rfl) ?_
      obtain ⟨v9, e10, hf⟩ := bdo_ hf
      refine xx_callVv C (ss_X3_reckon (bo_ok g8) e10) (dd_X7_gain.at 24 rfl) ck_2 rfl sh_k20 kk_X3_reckon ki_X3_reckon lm_RX7_235 (lb_ rfl) rfl rfl (lb_ rfl) ?_
      refine xx_aload_n C (dd_X7_gain.at 25 rfl) rfl (Nat.le_of_ble_eq_true rfl) ?_
      refine xx_getR (j := 4) (r := 20) C ck_6 (lb_ rfl) lf_RX7_37 sh_k1 rfl (lb_ rfl) rfl (dd_X7_gain.at 26 rfl) ?_
      obtain ⟨v11, e12, hf⟩ := bdo_ hf
      refine xx_callVi C (ss_X3_bestPay e12) (dd_X7_gain.at 27 rfl) ck_2 rfl sh_k20 kk_X3_bestPay ki_X3_bestPay lm_RX7_246 (lb_ rfl) rfl rfl (lb_ rfl) ?_
      refine xx_istore_n (lv' := [_, _, _, _, _, _, _]) C (dd_X7_gain.at 28 rfl) (lb_ rfl) rfl ?_
      refine xx_bipush C (dd_X7_gain.at 29 rfl) bq_m9 ?_
      refine xx_istore (lv' := [_, _, _, _, _, _, _]) C (dd_X7_gain.at 30 rfl) (lb_ rfl) rfl ?_
      refine xx_iconst C (dd_X7_gain.at 31 rfl) ic_0 ?_
      refine xx_istore (lv' := [_, _, _, _, _, _, _]) C (dd_X7_gain.at 32 rfl) (lb_ rfl) rfl ?_
      refine xx_iconst C (dd_X7_gain.at 33 rfl) ic_0 ?_
      refine xx_istore (lv' := [_, _, _, _, _, _, _]) C (dd_X7_gain.at 34 rfl) (lb_ rfl) rfl ?_
      refine xx_mask [true, true, true, true, true, true, true] (ss_X7_gain_67 C Q (fun u24 u25 k26 hf => ?_) _ _ _ _ _ hf)
      refine xx_iload C (dd_X7_gain.at 80 rfl) rfl ?_
      refine xx_bipush C (dd_X7_gain.at 81 rfl) bq_m9 ?_
      rcases ifo_ hf with ⟨hc, hf⟩ | ⟨hc, hf⟩
      · refine xx_icmp_ne_f (tgt := 165) C (dd_X7_gain.at 82 rfl) (by decide) (not_not_intro hc) ?_
        refine xx_bipush C (dd_X7_gain.at 83 rfl) bq_m9 ?_
        exact xx_ireturn C (rt_iwp hf Q) (dd_X7_gain.at 84 rfl) rfl
      · refine xx_icmp_ne_t (tgt := 165) C (dd_X7_gain.at 82 rfl) (by decide) hc ?_
        refine xx_aload_n C (dd_X7_gain.at 85 rfl) rfl (Nat.le_of_ble_eq_true rfl) ?_
        refine xx_getR (j := 5) (r := 36) C ck_6 (lb_ rfl) lf_RX7_44 sh_k1 rfl (lb_ rfl) rfl (dd_X7_gain.at 86 rfl) ?_
        refine xx_iload C (dd_X7_gain.at 87 rfl) rfl ?_
        refine xx_callVi C (ss_X6_tell pe_) (dd_X7_gain.at 88 rfl) ck_5 rfl sh_k36 kk_X6_tell ki_X6_tell lm_RX7_83 (lb_ rfl) rfl rfl (lb_ rfl) ?_
        refine xx_pop C (dd_X7_gain.at 89 rfl) rfl ?_
        refine xx_iload C (dd_X7_gain.at 90 rfl) rfl ?_
        exact xx_ireturn C (rt_iwp hf Q) (dd_X7_gain.at 91 rfl) rfl
theorem ss_X7_findingOfThrees_78 {Z : zz_} (C : cx_ Z mt_X7_findingOfThrees 1) {r9 : Int32} {x1 : Int32} {x2 : Nat} {x3 : Int32} {h : hh_} {K78_79 : Int32 → Option (Int32)} (Q : rq_ Z (some (.int r9)) h) (so2 : sh_ x2 = (1, 40)) (hK78_79 : ∀ (w0 : Int32), K78_79 w0 = some r9 → xx_ Z 79 [some (.ref 1), some (.int x1), some (.ref x2), some (.int x3), none] [.int w0] h) (hf : ff_X7_findingOfThrees_78 x1 x2 x3 h K78_79 = some r9) : xx_ Z 78 [some (.ref 1), some (.int x1), some (.ref x2), some (.int x3), none] [] h := by
  unfold ff_X7_findingOfThrees_78 at hf
  refine xx_iconst C (dd_X7_findingOfThrees.at 49 rfl) ic_0 ?_
  exact xx_mask [true, true, true, true, false] (hK78_79 _ hf)
theorem ss_X7_findingOfThrees_79 {Z : zz_} (C : cx_ Z mt_X7_findingOfThrees 1) {r9 : Int32} {x1 : Int32} {x2 : Nat} {x3 : Int32} {y0 : Int32} {h : hh_} {K79_41 : Int32 → Option (Int32)} (Q : rq_ Z (some (.int r9)) h) (so2 : sh_ x2 = (1, 40)) (hK79_41 : ∀ (z3 : Int32), K79_41 z3 = some r9 → xx_ Z 41 [some (.ref 1), some (.int x1), some (.ref x2), some (.int z3), none] [] h) (hf : ff_X7_findingOfThrees_79 x1 x2 x3 y0 h K79_41 = some r9) : xx_ Z 79 [some (.ref 1), some (.int x1), some (.ref x2), some (.int x3), none] [.int y0] h := by
  unfold ff_X7_findingOfThrees_79 at hf
  refine xx_istore (lv' := [_, _, _, _, _]) C (dd_X7_findingOfThrees.at 50 rfl) (lb_ rfl) rfl ?_
  refine xx_aload_n C (dd_X7_findingOfThrees.at 51 rfl) rfl (Nat.le_of_ble_eq_true rfl) ?_
  obtain ⟨g7, hf⟩ := gd_ok hf
  refine xx_getR (j := 7) (r := h.2.2.1) C ck_6 (lb_ rfl) lf_RX7_55 sh_k1 rfl (lb_ rfl) rfl (dd_X7_findingOfThrees.at 52 rfl) ?_
  refine xx_iconst C (dd_X7_findingOfThrees.at 53 rfl) ic_0 ?_
  refine xx_aload_n C (dd_X7_findingOfThrees.at 54 rfl) rfl (sh_pos so2) ?_
  refine xx_iload_n C (dd_X7_findingOfThrees.at 55 rfl) rfl ?_
  obtain ⟨g8, hf⟩ := gd_ok hf
  refine xx_iaload C (dd_X7_findingOfThrees.at 56 rfl) so2 (bi_ok g8) ?_
  obtain ⟨v9, e10, hf⟩ := bdo_ hf
  refine xx_callVi C (ss_X2_has (bo_ok g7) e10) (dd_X7_findingOfThrees.at 57 rfl) ck_1 rfl (sh_o (bo_ok g7)) kk_X2_has ki_X2_has lm_RX7_119 (lb_ rfl) rfl rfl (lb_ rfl) ?_
  rcases ifo_ hf with ⟨hc, hf⟩ | ⟨hc, hf⟩
  · refine xx_if_eq_t (tgt := 111) C (dd_X7_findingOfThrees.at 58 rfl) (by decide) hc ?_
    refine xx_iconst C (dd_X7_findingOfThrees.at 68 rfl) ic_3 ?_
    exact xx_ireturn C (rt_ip hf Q) (dd_X7_findingOfThrees.at 69 rfl) rfl
  · refine xx_if_eq_f (tgt := 111) C (dd_X7_findingOfThrees.at 58 rfl) (by decide) hc ?_
    refine xx_aload_n C (dd_X7_findingOfThrees.at 59 rfl) rfl (sh_pos so2) ?_
    refine xx_iload_n C (dd_X7_findingOfThrees.at 60 rfl) rfl ?_
    refine xx_iconst C (dd_X7_findingOfThrees.at 61 rfl) ic_1 ?_
    refine xx_iadd C (dd_X7_findingOfThrees.at 62 rfl) ?_
    obtain ⟨g11, hf⟩ := gd_ok hf
    refine xx_iaload C (dd_X7_findingOfThrees.at 63 rfl) so2 (bi_ok g11) ?_
    refine xx_callSi C (ss_X7_isPlace rfl) (dd_X7_findingOfThrees.at 64 rfl) kk_X7_isPlace ks_X7_isPlace lm_RX7_154 (lb_ rfl) rfl rfl (lb_ rfl) ?_
    rcases ifo_ hf with ⟨hc, hf⟩ | ⟨hc, hf⟩
    · refine xx_if_eq_t (tgt := 111) C (dd_X7_findingOfThrees.at 65 rfl) (by decide) hc ?_
      refine xx_iconst C (dd_X7_findingOfThrees.at 68 rfl) ic_3 ?_
      exact xx_ireturn C (rt_ip hf Q) (dd_X7_findingOfThrees.at 69 rfl) rfl
    · refine xx_if_eq_f (tgt := 111) C (dd_X7_findingOfThrees.at 65 rfl) (by decide) hc ?_
      refine xx_iload C (dd_X7_findingOfThrees.at 66 rfl) rfl ?_
      rcases ifo_ hf with ⟨hc, hf⟩ | ⟨hc, hf⟩
      · refine xx_if_ne_f (tgt := 113) C (dd_X7_findingOfThrees.at 67 rfl) (by decide) (not_not_intro hc) ?_
        refine xx_iconst C (dd_X7_findingOfThrees.at 68 rfl) ic_3 ?_
        exact xx_ireturn C (rt_ip hf Q) (dd_X7_findingOfThrees.at 69 rfl) rfl
      · refine xx_if_ne_t (tgt := 113) C (dd_X7_findingOfThrees.at 67 rfl) (by decide) hc ?_
        refine xx_iinc (v := _ + (3 : Int32)) (lv' := [_, _, _, _, _]) C (dd_X7_findingOfThrees.at 70 rfl) (lb_ rfl) rfl (by rw [ic_3]) rfl ?_
        refine xx_goto (tgt := 41) C (dd_X7_findingOfThrees.at 71 rfl) (by decide) ?_
        exact xx_mask [true, true, true, true, false] (hK79_41 _ hf)
theorem ss_X7_findingOfThrees_41 {Z : zz_} (C : cx_ Z mt_X7_findingOfThrees 1) {r9 : Int32} {x1 : Int32} {x2 : Nat} {h : hh_}  (Q : rq_ Z (some (.int r9)) h) (so2 : sh_ x2 = (1, 40)) : ∀ (n9 : Nat) (x3 : Int32), ff_X7_findingOfThrees_41 x1 x2 h n9 x3 = some r9 → xx_ Z 41 [some (.ref 1), some (.int x1), some (.ref x2), some (.int x3), none] [] h := by
  intro n9
  induction n9 with
  | zero =>
    intro x3 hf
    exact absurd hf (by rw [ff_X7_findingOfThrees_41]; exact nofun)
  | succ n9 ih =>
    intro x3 hf
    rw [ff_X7_findingOfThrees_41] at hf
    refine xx_iload_n C (dd_X7_findingOfThrees.at 25 rfl) rfl ?_
    refine xx_iconst C (dd_X7_findingOfThrees.at 26 rfl) ic_2 ?_
    refine xx_iadd C (dd_X7_findingOfThrees.at 27 rfl) ?_
    refine xx_aload_n C (dd_X7_findingOfThrees.at 28 rfl) rfl (Nat.le_of_ble_eq_true rfl) ?_
    refine xx_getR (j := 0) (r := 2) C ck_6 (lb_ rfl) lf_RX7_14 sh_k1 rfl (lb_ rfl) rfl (dd_X7_findingOfThrees.at 29 rfl) ?_
    refine xx_getR (j := 1) (r := 10) C ck_4 (lb_ rfl) lf_RX7_89 sh_k2 rfl (lb_ rfl) rfl (dd_X7_findingOfThrees.at 30 rfl) ?_
    refine xx_iload_n C (dd_X7_findingOfThrees.at 31 rfl) rfl ?_
    obtain ⟨g4, hf⟩ := gd_ok hf
    refine xx_iaload C (dd_X7_findingOfThrees.at 32 rfl) sh_k10 (bi_ok g4) ?_
    rcases ifo_ hf with ⟨hc, hf⟩ | ⟨hc, hf⟩
    · refine xx_icmp_ge_t (tgt := 119) C (dd_X7_findingOfThrees.at 33 rfl) (by decide) hc ?_
      refine xx_iconst C (dd_X7_findingOfThrees.at 72 rfl) ic_0 ?_
      exact xx_ireturn C (rt_ip hf Q) (dd_X7_findingOfThrees.at 73 rfl) rfl
    · refine xx_icmp_ge_f (tgt := 119) C (dd_X7_findingOfThrees.at 33 rfl) (by decide) hc ?_
      refine xx_aload_n C (dd_X7_findingOfThrees.at 34 rfl) rfl (sh_pos so2) ?_
      refine xx_iload_n C (dd_X7_findingOfThrees.at 35 rfl) rfl ?_
      refine xx_iconst C (dd_X7_findingOfThrees.at 36 rfl) ic_2 ?_
      refine xx_iadd C (dd_X7_findingOfThrees.at 37 rfl) ?_
      obtain ⟨g5, hf⟩ := gd_ok hf
      refine xx_iaload C (dd_X7_findingOfThrees.at 38 rfl) so2 (bi_ok g5) ?_
      rcases ifo_ hf with ⟨hc, hf⟩ | ⟨hc, hf⟩
      · refine xx_if_lt_t (tgt := 78) C (dd_X7_findingOfThrees.at 39 rfl) (by decide) hc ?_
        refine xx_mask [true, true, true, true, false] (ss_X7_findingOfThrees_78 C Q so2 (fun q6 hf => ?_) hf)
        exact xx_mask [true, true, true, true, false] (ss_X7_findingOfThrees_79 C Q so2 (fun _ hf => ih _ hf) hf)
      · refine xx_if_lt_f (tgt := 78) C (dd_X7_findingOfThrees.at 39 rfl) (by decide) hc ?_
        refine xx_aload_n C (dd_X7_findingOfThrees.at 40 rfl) rfl (sh_pos so2) ?_
        refine xx_iload_n C (dd_X7_findingOfThrees.at 41 rfl) rfl ?_
        refine xx_iconst C (dd_X7_findingOfThrees.at 42 rfl) ic_2 ?_
        refine xx_iadd C (dd_X7_findingOfThrees.at 43 rfl) ?_
        refine xx_iaload C (dd_X7_findingOfThrees.at 44 rfl) so2 (bi_ok g5) ?_
        refine xx_bipush C (dd_X7_findingOfThrees.at 45 rfl) bq_9 ?_
        rcases ifo_ hf with ⟨hc, hf⟩ | ⟨hc, hf⟩
        · refine xx_icmp_gt_t (tgt := 78) C (dd_X7_findingOfThrees.at 46 rfl) (by decide) hc ?_
          refine xx_mask [true, true, true, true, false] (ss_X7_findingOfThrees_78 C Q so2 (fun q12 hf => ?_) hf)
          exact xx_mask [true, true, true, true, false] (ss_X7_findingOfThrees_79 C Q so2 (fun _ hf => ih _ hf) hf)
        · refine xx_icmp_gt_f (tgt := 78) C (dd_X7_findingOfThrees.at 46 rfl) (by decide) hc ?_
          refine xx_iconst C (dd_X7_findingOfThrees.at 47 rfl) ic_1 ?_
          refine xx_goto (tgt := 79) C (dd_X7_findingOfThrees.at 48 rfl) (by decide) ?_
          exact xx_mask [true, true, true, true, false] (ss_X7_findingOfThrees_79 C Q so2 (fun _ hf => ih _ hf) hf)
theorem ss_X7_findingOfThrees {l : Launch} {G : gt_} {a1 : Int32} {h : hh_} {r9 : Int32}  (hf : ff_X7_findingOfThrees a1 h = some r9) : ok_ l G 1 mt_X7_findingOfThrees [.ref 1, .int a1] h (some (.int r9)) h := by
  refine ok_of pn_RX7 (lb_ rfl) (fun Z _ _ C Q => ?_)
  show xx_ Z 0 [some (.ref 1), some (.int a1), none, none, none] [] h
  unfold ff_X7_findingOfThrees at hf
  refine xx_aload_n C (dd_X7_findingOfThrees.at 0 rfl) rfl (Nat.le_of_ble_eq_true rfl) ?_
  refine xx_getR (j := 0) (r := 2) C ck_6 (lb_ rfl) lf_RX7_14 sh_k1 rfl (lb_ rfl) rfl (dd_X7_findingOfThrees.at 1 rfl) ?_
  refine xx_iload_n C (dd_X7_findingOfThrees.at 2 rfl) rfl ?_
  obtain ⟨v1, e2, hf⟩ := bdo_ hf
  refine xx_callVi C (ss_X5r_lacks e2) (dd_X7_findingOfThrees.at 3 rfl) ck_4 rfl sh_k2 kk_X5_lacks ki_X5_lacks lm_RX7_86 (lb_ rfl) rfl rfl (lb_ rfl) ?_
  rcases ifo_ hf with ⟨hc, hf⟩ | ⟨hc, hf⟩
  · refine xx_if_eq_t (tgt := 13) C (dd_X7_findingOfThrees.at 4 rfl) (by decide) hc ?_
    refine xx_aload_n C (dd_X7_findingOfThrees.at 7 rfl) rfl (Nat.le_of_ble_eq_true rfl) ?_
    refine xx_getR (j := 0) (r := 2) C ck_6 (lb_ rfl) lf_RX7_14 sh_k1 rfl (lb_ rfl) rfl (dd_X7_findingOfThrees.at 8 rfl) ?_
    refine xx_getR (j := 1) (r := 10) C ck_4 (lb_ rfl) lf_RX7_89 sh_k2 rfl (lb_ rfl) rfl (dd_X7_findingOfThrees.at 9 rfl) ?_
    refine xx_iload_n C (dd_X7_findingOfThrees.at 10 rfl) rfl ?_
    obtain ⟨g3, hf⟩ := gd_ok hf
    refine xx_iaload C (dd_X7_findingOfThrees.at 11 rfl) sh_k10 (bi_ok g3) ?_
    refine xx_iconst C (dd_X7_findingOfThrees.at 12 rfl) ic_3 ?_
    refine xx_irem C (dd_X7_findingOfThrees.at 13 rfl) (by decide) ?_
    rcases ifo_ hf with ⟨hc, hf⟩ | ⟨hc, hf⟩
    · refine xx_if_eq_t (tgt := 29) C (dd_X7_findingOfThrees.at 14 rfl) (by decide) hc ?_
      refine xx_aload_n C (dd_X7_findingOfThrees.at 17 rfl) rfl (Nat.le_of_ble_eq_true rfl) ?_
      refine xx_getR (j := 0) (r := 2) C ck_6 (lb_ rfl) lf_RX7_14 sh_k1 rfl (lb_ rfl) rfl (dd_X7_findingOfThrees.at 18 rfl) ?_
      refine xx_getR (j := 0) (r := 3) C ck_4 (lb_ rfl) lf_RX7_79 sh_k2 rfl (lb_ rfl) rfl (dd_X7_findingOfThrees.at 19 rfl) ?_
      refine xx_iload_n C (dd_X7_findingOfThrees.at 20 rfl) rfl ?_
      refine xx_aaload (r := (4 + Int32.toNatClampNeg a1)) C (dd_X7_findingOfThrees.at 21 rfl) sh_k3 (bi_ok g3) (sh_lt (sh_e3 (bi_ok g3))) rfl ?_
      refine xx_astore_n (lv' := [_, _, _, _, _]) C (dd_X7_findingOfThrees.at 22 rfl) (lb_ rfl) ⟨(sh_pos (sh_e3 (bi_ok g3))), (sh_lt (sh_e3 (bi_ok g3)))⟩ rfl ?_
      refine xx_iconst C (dd_X7_findingOfThrees.at 23 rfl) ic_0 ?_
      refine xx_istore_n (lv' := [_, _, _, _, _]) C (dd_X7_findingOfThrees.at 24 rfl) (lb_ rfl) rfl ?_
      exact xx_mask [true, true, true, true, false] (ss_X7_findingOfThrees_41 C Q (sh_e3 (bi_ok g3)) _ _ hf)
    · refine xx_if_eq_f (tgt := 29) C (dd_X7_findingOfThrees.at 14 rfl) (by decide) hc ?_
      refine xx_iconst C (dd_X7_findingOfThrees.at 15 rfl) ic_5 ?_
      exact xx_ireturn C (rt_ip hf Q) (dd_X7_findingOfThrees.at 16 rfl) rfl
  · refine xx_if_eq_f (tgt := 13) C (dd_X7_findingOfThrees.at 4 rfl) (by decide) hc ?_
    refine xx_iconst C (dd_X7_findingOfThrees.at 5 rfl) ic_1 ?_
    exact xx_ireturn C (rt_ip hf Q) (dd_X7_findingOfThrees.at 6 rfl) rfl
theorem ss_X7_threesFit_52 {Z : zz_} (C : cx_ Z mt_X7_threesFit 1) {r9 : Int32} {x1 : Int32} {x2 : Int32} {x3 : Int32} {x4 : Int32} {x5 : Nat} {x6 : Int32} {x7 : Int32} {y0 : Int32} {y1 : Int32} {h : hh_} {K52_14 : Int32 → Option (Int32)} (Q : rq_ Z (some (.int r9)) h) (so5 : sh_ x5 = (1, 40)) (hK52_14 : ∀ (z6 : Int32), K52_14 z6 = some r9 → xx_ Z 14 [some (.ref 1), some (.int x1), some (.int x2), some (.int x3), some (.int x4), some (.ref x5), some (.int z6), none, none] [] h) (hf : ff_X7_threesFit_52 x1 x2 x3 x4 x5 x6 x7 y0 y1 h K52_14 = some r9) : xx_ Z 52 [some (.ref 1), some (.int x1), some (.int x2), some (.int x3), some (.int x4), some (.ref x5), some (.int x6), some (.int x7), none] [.int y1, .int y0] h := by
  unfold ff_X7_threesFit_52 at hf
  refine xx_aload_n C (dd_X7_threesFit.at 30 rfl) rfl (Nat.le_of_ble_eq_true rfl) ?_
  obtain ⟨g4, hf⟩ := gd_ok hf
  refine xx_getR (j := 7) (r := h.2.2.1) C ck_6 (lb_ rfl) lf_RX7_55 sh_k1 rfl (lb_ rfl) rfl (dd_X7_threesFit.at 31 rfl) ?_
  refine xx_aload C (dd_X7_threesFit.at 32 rfl) rfl (sh_pos so5) ?_
  refine xx_iload C (dd_X7_threesFit.at 33 rfl) rfl ?_
  obtain ⟨g5, hf⟩ := gd_ok hf
  refine xx_iaload C (dd_X7_threesFit.at 34 rfl) so5 (bi_ok g5) ?_
  refine xx_iload C (dd_X7_threesFit.at 35 rfl) rfl ?_
  refine xx_iconst C (dd_X7_threesFit.at 36 rfl) ic_0 ?_
  obtain ⟨v6, e7, hf⟩ := bdo_ hf
  refine xx_callVi C (ss_X2_felt (bo_ok g4) e7) (dd_X7_threesFit.at 37 rfl) ck_1 rfl (sh_o (bo_ok g4)) kk_X2_felt ki_X2_felt lm_RX7_312 (lb_ rfl) rfl rfl (lb_ rfl) ?_
  obtain ⟨v8, e9, hf⟩ := bdo_ hf
  refine xx_callSi C (ss_X2_middle e9) (dd_X7_threesFit.at 38 rfl) kk_X2_middle ks_X2_middle lm_RX7_315 (lb_ rfl) rfl rfl (lb_ rfl) ?_
  refine xx_istore (lv' := [_, _, _, _, _, _, _, _, _]) C (dd_X7_threesFit.at 39 rfl) (lb_ rfl) rfl ?_
  refine xx_aload C (dd_X7_threesFit.at 40 rfl) rfl (sh_pos so5) ?_
  refine xx_iload C (dd_X7_threesFit.at 41 rfl) rfl ?_
  refine xx_iconst C (dd_X7_threesFit.at 42 rfl) ic_2 ?_
  refine xx_iadd C (dd_X7_threesFit.at 43 rfl) ?_
  obtain ⟨g10, hf⟩ := gd_ok hf
  refine xx_iaload C (dd_X7_threesFit.at 44 rfl) so5 (bi_ok g10) ?_
  refine xx_iload C (dd_X7_threesFit.at 45 rfl) rfl ?_
  refine xx_isub C (dd_X7_threesFit.at 46 rfl) ?_
  refine xx_abs C (dd_X7_threesFit.at 47 rfl) lm_RX7_319 (lb_ rfl) (lb_ rfl) ?_
  refine xx_iload_n C (dd_X7_threesFit.at 48 rfl) rfl ?_
  rcases ifo_ hf with ⟨hc, hf⟩ | ⟨hc, hf⟩
  · refine xx_icmp_le_t (tgt := 91) C (dd_X7_threesFit.at 49 rfl) (by decide) hc ?_
    refine xx_iinc (v := _ + (3 : Int32)) (lv' := [_, _, _, _, _, _, _, _, _]) C (dd_X7_threesFit.at 52 rfl) (lb_ rfl) rfl (by rw [ic_3]) rfl ?_
    refine xx_goto (tgt := 14) C (dd_X7_threesFit.at 53 rfl) (by decide) ?_
    exact xx_mask [true, true, true, true, true, true, true, false, false] (hK52_14 _ hf)
  · refine xx_icmp_le_f (tgt := 91) C (dd_X7_threesFit.at 49 rfl) (by decide) hc ?_
    refine xx_iconst C (dd_X7_threesFit.at 50 rfl) ic_0 ?_
    exact xx_zreturn C (rt_ip hf Q) (dd_X7_threesFit.at 51 rfl) rfl zb_0
theorem ss_X7_threesFit_14 {Z : zz_} (C : cx_ Z mt_X7_threesFit 1) {r9 : Int32} {x1 : Int32} {x2 : Int32} {x3 : Int32} {x4 : Int32} {x5 : Nat} {h : hh_}  (Q : rq_ Z (some (.int r9)) h) (so5 : sh_ x5 = (1, 40)) : ∀ (n9 : Nat) (x6 : Int32), ff_X7_threesFit_14 x1 x2 x3 x4 x5 h n9 x6 = some r9 → xx_ Z 14 [some (.ref 1), some (.int x1), some (.int x2), some (.int x3), some (.int x4), some (.ref x5), some (.int x6), none, none] [] h := by
  intro n9
  induction n9 with
  | zero =>
    intro x6 hf
    exact absurd hf (by rw [ff_X7_threesFit_14]; exact nofun)
  | succ n9 ih =>
    intro x6 hf
    rw [ff_X7_threesFit_14] at hf
    refine xx_iload C (dd_X7_threesFit.at 8 rfl) rfl ?_
    refine xx_iconst C (dd_X7_threesFit.at 9 rfl) ic_2 ?_
    refine xx_iadd C (dd_X7_threesFit.at 10 rfl) ?_
    refine xx_aload_n C (dd_X7_threesFit.at 11 rfl) rfl (Nat.le_of_ble_eq_true rfl) ?_
    refine xx_getR (j := 0) (r := 2) C ck_6 (lb_ rfl) lf_RX7_14 sh_k1 rfl (lb_ rfl) rfl (dd_X7_threesFit.at 12 rfl) ?_
    refine xx_getR (j := 1) (r := 10) C ck_4 (lb_ rfl) lf_RX7_89 sh_k2 rfl (lb_ rfl) rfl (dd_X7_threesFit.at 13 rfl) ?_
    refine xx_iload_n C (dd_X7_threesFit.at 14 rfl) rfl ?_
    obtain ⟨g2, hf⟩ := gd_ok hf
    refine xx_iaload C (dd_X7_threesFit.at 15 rfl) sh_k10 (bi_ok g2) ?_
    rcases ifo_ hf with ⟨hc, hf⟩ | ⟨hc, hf⟩
    · refine xx_icmp_ge_t (tgt := 97) C (dd_X7_threesFit.at 16 rfl) (by decide) hc ?_
      refine xx_iconst C (dd_X7_threesFit.at 54 rfl) ic_1 ?_
      exact xx_zreturn C (rt_ip hf Q) (dd_X7_threesFit.at 55 rfl) rfl zb_1
    · refine xx_icmp_ge_f (tgt := 97) C (dd_X7_threesFit.at 16 rfl) (by decide) hc ?_
      refine xx_aload C (dd_X7_threesFit.at 17 rfl) rfl (sh_pos so5) ?_
      refine xx_iload C (dd_X7_threesFit.at 18 rfl) rfl ?_
      refine xx_iconst C (dd_X7_threesFit.at 19 rfl) ic_1 ?_
      refine xx_iadd C (dd_X7_threesFit.at 20 rfl) ?_
      obtain ⟨g3, hf⟩ := gd_ok hf
      refine xx_iaload C (dd_X7_threesFit.at 21 rfl) so5 (bi_ok g3) ?_
      refine xx_istore (lv' := [_, _, _, _, _, _, _, _, _]) C (dd_X7_threesFit.at 22 rfl) (lb_ rfl) rfl ?_
      refine xx_iload_n C (dd_X7_threesFit.at 23 rfl) rfl ?_
      refine xx_iload C (dd_X7_threesFit.at 24 rfl) rfl ?_
      refine xx_iload C (dd_X7_threesFit.at 25 rfl) rfl ?_
      rcases ifo_ hf with ⟨hc, hf⟩ | ⟨hc, hf⟩
      · refine xx_icmp_ne_f (tgt := 51) C (dd_X7_threesFit.at 26 rfl) (by decide) (not_not_intro hc) ?_
        refine xx_iconst C (dd_X7_threesFit.at 27 rfl) ic_1 ?_
        refine xx_goto (tgt := 52) C (dd_X7_threesFit.at 28 rfl) (by decide) ?_
        exact xx_mask [true, true, true, true, true, true, true, true, false] (ss_X7_threesFit_52 C Q so5 (fun _ hf => ih _ hf) hf)
      · refine xx_icmp_ne_t (tgt := 51) C (dd_X7_threesFit.at 26 rfl) (by decide) hc ?_
        refine xx_iconst C (dd_X7_threesFit.at 29 rfl) ic_0 ?_
        exact xx_mask [true, true, true, true, true, true, true, true, false] (ss_X7_threesFit_52 C Q so5 (fun _ hf => ih _ hf) hf)
theorem ss_X7_threesFit {l : Launch} {G : gt_} {a1 : Int32} {a2 : Int32} {a3 : Int32} {a4 : Int32} {h : hh_} {r9 : Int32}  (hf : ff_X7_threesFit a1 a2 a3 a4 h = some r9) : ok_ l G 1 mt_X7_threesFit [.ref 1, .int a1, .int a2, .int a3, .int a4] h (some (.int r9)) h := by
  refine ok_of pn_RX7 (lb_ rfl) (fun Z _ _ C Q => ?_)
  show xx_ Z 0 [some (.ref 1), some (.int a1), some (.int a2), some (.int a3), some (.int a4), none, none, none, none] [] h
  unfold ff_X7_threesFit at hf
  refine xx_aload_n C (dd_X7_threesFit.at 0 rfl) rfl (Nat.le_of_ble_eq_true rfl) ?_
  refine xx_getR (j := 0) (r := 2) C ck_6 (lb_ rfl) lf_RX7_14 sh_k1 rfl (lb_ rfl) rfl (dd_X7_threesFit.at 1 rfl) ?_
  refine xx_getR (j := 0) (r := 3) C ck_4 (lb_ rfl) lf_RX7_79 sh_k2 rfl (lb_ rfl) rfl (dd_X7_threesFit.at 2 rfl) ?_
  refine xx_iload_n C (dd_X7_threesFit.at 3 rfl) rfl ?_
  obtain ⟨g1, hf⟩ := gd_ok hf
  refine xx_aaload (r := (4 + Int32.toNatClampNeg a1)) C (dd_X7_threesFit.at 4 rfl) sh_k3 (bi_ok g1) (sh_lt (sh_e3 (bi_ok g1))) rfl ?_
  refine xx_astore (lv' := [_, _, _, _, _, _, _, _, _]) C (dd_X7_threesFit.at 5 rfl) (lb_ rfl) ⟨(sh_pos (sh_e3 (bi_ok g1))), (sh_lt (sh_e3 (bi_ok g1)))⟩ rfl ?_
  refine xx_iconst C (dd_X7_threesFit.at 6 rfl) ic_0 ?_
  refine xx_istore (lv' := [_, _, _, _, _, _, _, _, _]) C (dd_X7_threesFit.at 7 rfl) (lb_ rfl) rfl ?_
  exact xx_mask [true, true, true, true, true, true, true, false, false] (ss_X7_threesFit_14 C Q (sh_e3 (bi_ok g1)) _ _ hf)
theorem ss_X7_learn_60 {Z : zz_} (C : cx_ Z mt_X7_learn 2) {r9 : Int32} {h9 : hh_} {x1 : Int32} {x2 : Int32} {x6 : Int32} {h : hh_} {K60_103 : Int32 → Int32 → Option (Int32 × hh_)} (Q : rq_ Z (some (.int r9)) h9) (hK60_103 : ∀ (z4 : Int32) (z5 : Int32), K60_103 z4 z5 = some (r9, h9) → xx_ Z 103 [some (.ref 1), some (.int x1), some (.int x2), none, some (.int z4), some (.int z5), some (.int x6), none] [] h) : ∀ (n9 : Nat) (x4 : Int32) (x5 : Int32) (x7 : Int32), ff_X7_learn_60 x1 x2 x6 h K60_103 n9 x4 x5 x7 = some (r9, h9) → xx_ Z 60 [some (.ref 1), some (.int x1), some (.int x2), none, some (.int x4), some (.int x5), some (.int x6), some (.int x7)] [] h := by
  intro n9
  induction n9 with
  | zero =>
    intro x4 x5 x7 hf
    exact absurd hf (by rw [ff_X7_learn_60]; exact nofun)
  | succ n9 ih =>
    intro x4 x5 x7 hf
    rw [ff_X7_learn_60] at hf
    refine xx_iload C (dd_X7_learn.at 34 rfl) rfl ?_
    refine xx_iconst C (dd_X7_learn.at 35 rfl) ic_4 ?_
    rcases ifo_ hf with ⟨hc, hf⟩ | ⟨hc, hf⟩
    · refine xx_icmp_ge_t (tgt := 103) C (dd_X7_learn.at 36 rfl) (by decide) hc ?_
      exact xx_mask [true, true, true, false, true, true, true, false] (hK60_103 _ _ hf)
    · refine xx_icmp_ge_f (tgt := 103) C (dd_X7_learn.at 36 rfl) (by decide) hc ?_
      refine xx_aload_n C (dd_X7_learn.at 37 rfl) rfl (Nat.le_of_ble_eq_true rfl) ?_
      refine xx_iload_n C (dd_X7_learn.at 38 rfl) rfl ?_
      refine xx_iload C (dd_X7_learn.at 39 rfl) rfl ?_
      refine xx_iload_n C (dd_X7_learn.at 40 rfl) rfl ?_
      refine xx_iload C (dd_X7_learn.at 41 rfl) rfl ?_
      obtain ⟨v3, e4, hf⟩ := bdo_ hf
      refine xx_callVi C (ss_X7_threesFit e4) (dd_X7_learn.at 42 rfl) ck_6 rfl sh_k1 kk_X7_threesFit ki_X7_threesFit lm_RX7_256 (lb_ rfl) rfl rfl (lb_ rfl) ?_
      rcases ifo_ hf with ⟨hc, hf⟩ | ⟨hc, hf⟩
      · refine xx_if_eq_t (tgt := 97) C (dd_X7_learn.at 43 rfl) (by decide) hc ?_
        refine xx_iinc (v := _ + (1 : Int32)) (lv' := [_, _, _, _, _, _, _, _]) C (dd_X7_learn.at 56 rfl) (lb_ rfl) rfl (by rw [ic_1]) rfl ?_
        refine xx_goto (tgt := 60) C (dd_X7_learn.at 57 rfl) (by decide) ?_
        exact xx_mask [true, true, true, false, true, true, true, true] (ih _ _ _ hf)
      · refine xx_if_eq_f (tgt := 97) C (dd_X7_learn.at 43 rfl) (by decide) hc ?_
        refine xx_iload C (dd_X7_learn.at 44 rfl) rfl ?_
        refine xx_iconst C (dd_X7_learn.at 45 rfl) ic_1 ?_
        refine xx_iload C (dd_X7_learn.at 46 rfl) rfl ?_
        refine xx_ishl C (dd_X7_learn.at 47 rfl) ?_
        refine xx_ior C (dd_X7_learn.at 48 rfl) ?_
        refine xx_istore (lv' := [_, _, _, _, _, _, _, _]) C (dd_X7_learn.at 49 rfl) (lb_ rfl) rfl ?_
        refine xx_iload C (dd_X7_learn.at 50 rfl) rfl ?_
        refine xx_iconst C (dd_X7_learn.at 51 rfl) ic_1 ?_
        refine xx_iload C (dd_X7_learn.at 52 rfl) rfl ?_
        refine xx_ishl C (dd_X7_learn.at 53 rfl) ?_
        refine xx_ior C (dd_X7_learn.at 54 rfl) ?_
        refine xx_istore (lv' := [_, _, _, _, _, _, _, _]) C (dd_X7_learn.at 55 rfl) (lb_ rfl) rfl ?_
        refine xx_iinc (v := _ + (1 : Int32)) (lv' := [_, _, _, _, _, _, _, _]) C (dd_X7_learn.at 56 rfl) (lb_ rfl) rfl (by rw [ic_1]) rfl ?_
        refine xx_goto (tgt := 60) C (dd_X7_learn.at 57 rfl) (by decide) ?_
        exact xx_mask [true, true, true, false, true, true, true, true] (ih _ _ _ hf)
theorem ss_X7_learn_50 {Z : zz_} (C : cx_ Z mt_X7_learn 2) {r9 : Int32} {h9 : hh_} {x1 : Int32} {x2 : Int32} {h : hh_}  (Q : rq_ Z (some (.int r9)) h9) : ∀ (n9 : Nat) (x4 : Int32) (x5 : Int32) (x6 : Int32), ff_X7_learn_50 x1 x2 h n9 x4 x5 x6 = some (r9, h9) → xx_ Z 50 [some (.ref 1), some (.int x1), some (.int x2), none, some (.int x4), some (.int x5), some (.int x6), none] [] h := by
  intro n9
  induction n9 with
  | zero =>
    intro x4 x5 x6 hf
    exact absurd hf (by rw [ff_X7_learn_50]; exact nofun)
  | succ n9 ih =>
    intro x4 x5 x6 hf
    rw [ff_X7_learn_50] at hf
    refine xx_iload C (dd_X7_learn.at 29 rfl) rfl ?_
    refine xx_bipush C (dd_X7_learn.at 30 rfl) bq_6 ?_
    rcases ifo_ hf with ⟨hc, hf⟩ | ⟨hc, hf⟩
    · refine xx_icmp_ge_t (tgt := 109) C (dd_X7_learn.at 31 rfl) (by decide) hc ?_
      refine xx_aload_n C (dd_X7_learn.at 60 rfl) rfl (Nat.le_of_ble_eq_true rfl) ?_
      refine xx_getR (j := 5) (r := 36) C ck_6 (lb_ rfl) lf_RX7_44 sh_k1 rfl (lb_ rfl) rfl (dd_X7_learn.at 61 rfl) ?_
      refine xx_iload C (dd_X7_learn.at 62 rfl) rfl ?_
      refine xx_callVi C (ss_X6_tell pe_) (dd_X7_learn.at 63 rfl) ck_5 rfl sh_k36 kk_X6_tell ki_X6_tell lm_RX7_83 (lb_ rfl) rfl rfl (lb_ rfl) ?_
      refine xx_pop C (dd_X7_learn.at 64 rfl) rfl ?_
      refine xx_iload C (dd_X7_learn.at 65 rfl) rfl ?_
      exact xx_ireturn C (rt_iwp hf Q) (dd_X7_learn.at 66 rfl) rfl
    · refine xx_icmp_ge_f (tgt := 109) C (dd_X7_learn.at 31 rfl) (by decide) hc ?_
      refine xx_iconst C (dd_X7_learn.at 32 rfl) ic_0 ?_
      refine xx_istore (lv' := [_, _, _, _, _, _, _, _]) C (dd_X7_learn.at 33 rfl) (lb_ rfl) rfl ?_
      refine xx_mask [true, true, true, false, true, true, true, true] (ss_X7_learn_60 C Q (fun u5 u6 hf => ?_) _ _ _ _ hf)
      refine xx_iinc (v := _ + (1 : Int32)) (lv' := [_, _, _, _, _, _, _, _]) C (dd_X7_learn.at 58 rfl) (lb_ rfl) rfl (by rw [ic_1]) rfl ?_
      refine xx_goto (tgt := 50) C (dd_X7_learn.at 59 rfl) (by decide) ?_
      exact xx_mask [true, true, true, false, true, true, true, false] (ih _ _ _ hf)
theorem ss_X7_learn {l : Launch} {G : gt_} {a1 : Int32} {a2 : Int32} {h : hh_} {r9 : Int32} {h9 : hh_}  (hf : ff_X7_learn a1 a2 h = some (r9, h9)) : ok_ l G 2 mt_X7_learn [.ref 1, .int a1, .int a2] h (some (.int r9)) h9 := by
  refine ok_of pn_RX7 (lb_ rfl) (fun Z _ _ C Q => ?_)
  show xx_ Z 0 [some (.ref 1), some (.int a1), some (.int a2), none, none, none, none, none] [] h
  unfold ff_X7_learn at hf
  refine xx_aload_n C (dd_X7_learn.at 0 rfl) rfl (Nat.le_of_ble_eq_true rfl) ?_
  refine xx_getR (j := 0) (r := 2) C ck_6 (lb_ rfl) lf_RX7_14 sh_k1 rfl (lb_ rfl) rfl (dd_X7_learn.at 1 rfl) ?_
  refine xx_iload_n C (dd_X7_learn.at 2 rfl) rfl ?_
  refine xx_callVi C (ss_X5r_allows rfl) (dd_X7_learn.at 3 rfl) ck_4 rfl sh_k2 kk_X5_allows ki_X5_allows lm_RX7_63 (lb_ rfl) rfl rfl (lb_ rfl) ?_
  rcases ifo_ hf with ⟨hc, hf⟩ | ⟨hc, hf⟩
  · refine xx_if_eq_t (tgt := 20) C (dd_X7_learn.at 4 rfl) (by decide) hc ?_
    refine xx_iconst C (dd_X7_learn.at 10 rfl) ic_m1 ?_
    exact xx_ireturn C (rt_iwp hf Q) (dd_X7_learn.at 11 rfl) rfl
  · refine xx_if_eq_f (tgt := 20) C (dd_X7_learn.at 4 rfl) (by decide) hc ?_
    refine xx_iload_n C (dd_X7_learn.at 5 rfl) rfl ?_
    rcases ifo_ hf with ⟨hc, hf⟩ | ⟨hc, hf⟩
    · refine xx_if_lt_t (tgt := 20) C (dd_X7_learn.at 6 rfl) (by decide) hc ?_
      refine xx_iconst C (dd_X7_learn.at 10 rfl) ic_m1 ?_
      exact xx_ireturn C (rt_iwp hf Q) (dd_X7_learn.at 11 rfl) rfl
    · refine xx_if_lt_f (tgt := 20) C (dd_X7_learn.at 6 rfl) (by decide) hc ?_
      refine xx_iload_n C (dd_X7_learn.at 7 rfl) rfl ?_
      refine xx_iconst C (dd_X7_learn.at 8 rfl) ic_2 ?_
      rcases ifo_ hf with ⟨hc, hf⟩ | ⟨hc, hf⟩
      · refine xx_icmp_le_t (tgt := 22) C (dd_X7_learn.at 9 rfl) (by decide) hc ?_
        refine xx_aload_n C (dd_X7_learn.at 12 rfl) rfl (Nat.le_of_ble_eq_true rfl) ?_
        refine xx_iload_n C (dd_X7_learn.at 13 rfl) rfl ?_
        obtain ⟨v1, e2, hf⟩ := bdo_ hf
        refine xx_callVi C (ss_X7_findingOfThrees e2) (dd_X7_learn.at 14 rfl) ck_6 rfl sh_k1 kk_X7_findingOfThrees ki_X7_findingOfThrees lm_RX7_253 (lb_ rfl) rfl rfl (lb_ rfl) ?_
        refine xx_istore_n (lv' := [_, _, _, _, _, _, _, _]) C (dd_X7_learn.at 15 rfl) (lb_ rfl) rfl ?_
        refine xx_iload_n C (dd_X7_learn.at 16 rfl) rfl ?_
        rcases ifo_ hf with ⟨hc, hf⟩ | ⟨hc, hf⟩
        · refine xx_if_eq_t (tgt := 41) C (dd_X7_learn.at 17 rfl) (by decide) hc ?_
          refine xx_iconst C (dd_X7_learn.at 23 rfl) ic_0 ?_
          refine xx_istore (lv' := [_, _, _, _, _, _, _, _]) C (dd_X7_learn.at 24 rfl) (lb_ rfl) rfl ?_
          refine xx_iconst C (dd_X7_learn.at 25 rfl) ic_0 ?_
          refine xx_istore (lv' := [_, _, _, _, _, _, _, _]) C (dd_X7_learn.at 26 rfl) (lb_ rfl) rfl ?_
          refine xx_iconst C (dd_X7_learn.at 27 rfl) ic_0 ?_
          refine xx_istore (lv' := [_, _, _, _, _, _, _, _]) C (dd_X7_learn.at 28 rfl) (lb_ rfl) rfl ?_
          exact xx_mask [true, true, true, false, true, true, true, false] (ss_X7_learn_50 C Q _ _ _ _ hf)
        · refine xx_if_eq_f (tgt := 41) C (dd_X7_learn.at 17 rfl) (by decide) hc ?_
          refine xx_aload_n C (dd_X7_learn.at 18 rfl) rfl (Nat.le_of_ble_eq_true rfl) ?_
          refine xx_getR (j := 5) (r := 36) C ck_6 (lb_ rfl) lf_RX7_44 sh_k1 rfl (lb_ rfl) rfl (dd_X7_learn.at 19 rfl) ?_
          refine xx_iload_n C (dd_X7_learn.at 20 rfl) rfl ?_
          obtain ⟨v7, e8, hf⟩ := bdo_ hf
          refine xx_callVi C (ss_X6_refuse (pz_ e8)) (dd_X7_learn.at 21 rfl) ck_5 rfl sh_k36 kk_X6_refuse ki_X6_refuse lm_RX7_67 (lb_ rfl) rfl rfl (lb_ rfl) ?_
          exact xx_ireturn C (rt_iwp hf Q) (dd_X7_learn.at 22 rfl) rfl
      · refine xx_icmp_le_f (tgt := 22) C (dd_X7_learn.at 9 rfl) (by decide) hc ?_
        refine xx_iconst C (dd_X7_learn.at 10 rfl) ic_m1 ?_
        exact xx_ireturn C (rt_iwp hf Q) (dd_X7_learn.at 11 rfl) rfl
theorem ss_X7_findingOfFates_38 {Z : zz_} (C : cx_ Z mt_X7_findingOfFates 1) {r9 : Int32} {x1 : Int32} {h : hh_}  (Q : rq_ Z (some (.int r9)) h) : ∀ (n9 : Nat) (x2 : Int32), ff_X7_findingOfFates_38 x1 h n9 x2 = some r9 → xx_ Z 38 [some (.ref 1), some (.int x1), some (.int x2)] [] h := by
  intro n9
  induction n9 with
  | zero =>
    intro x2 hf
    exact absurd hf (by rw [ff_X7_findingOfFates_38]; exact nofun)
  | succ n9 ih =>
    intro x2 hf
    rw [ff_X7_findingOfFates_38] at hf
    refine xx_iload_n C (dd_X7_findingOfFates.at 22 rfl) rfl ?_
    refine xx_aload_n C (dd_X7_findingOfFates.at 23 rfl) rfl (Nat.le_of_ble_eq_true rfl) ?_
    refine xx_getR (j := 0) (r := 2) C ck_6 (lb_ rfl) lf_RX7_14 sh_k1 rfl (lb_ rfl) rfl (dd_X7_findingOfFates.at 24 rfl) ?_
    refine xx_getR (j := 1) (r := 10) C ck_4 (lb_ rfl) lf_RX7_89 sh_k2 rfl (lb_ rfl) rfl (dd_X7_findingOfFates.at 25 rfl) ?_
    refine xx_iload_n C (dd_X7_findingOfFates.at 26 rfl) rfl ?_
    obtain ⟨g5, hf⟩ := gd_ok hf
    refine xx_iaload C (dd_X7_findingOfFates.at 27 rfl) sh_k10 (bi_ok g5) ?_
    rcases ifo_ hf with ⟨hc, hf⟩ | ⟨hc, hf⟩
    · refine xx_icmp_ge_t (tgt := 88) C (dd_X7_findingOfFates.at 28 rfl) (by decide) hc ?_
      refine xx_iconst C (dd_X7_findingOfFates.at 50 rfl) ic_0 ?_
      exact xx_ireturn C (rt_ip hf Q) (dd_X7_findingOfFates.at 51 rfl) rfl
    · refine xx_icmp_ge_f (tgt := 88) C (dd_X7_findingOfFates.at 28 rfl) (by decide) hc ?_
      refine xx_aload_n C (dd_X7_findingOfFates.at 29 rfl) rfl (Nat.le_of_ble_eq_true rfl) ?_
      refine xx_getR (j := 0) (r := 2) C ck_6 (lb_ rfl) lf_RX7_14 sh_k1 rfl (lb_ rfl) rfl (dd_X7_findingOfFates.at 30 rfl) ?_
      refine xx_getR (j := 0) (r := 3) C ck_4 (lb_ rfl) lf_RX7_79 sh_k2 rfl (lb_ rfl) rfl (dd_X7_findingOfFates.at 31 rfl) ?_
      refine xx_iload_n C (dd_X7_findingOfFates.at 32 rfl) rfl ?_
      refine xx_aaload (r := (4 + Int32.toNatClampNeg x1)) C (dd_X7_findingOfFates.at 33 rfl) sh_k3 (bi_ok g5) (sh_lt (sh_e3 (bi_ok g5))) rfl ?_
      refine xx_iload_n C (dd_X7_findingOfFates.at 34 rfl) rfl ?_
      obtain ⟨g6, hf⟩ := gd_ok hf
      refine xx_iaload C (dd_X7_findingOfFates.at 35 rfl) (sh_e3 (bi_ok g5)) (bi_ok g6) ?_
      rcases ifo_ hf with ⟨hc, hf⟩ | ⟨hc, hf⟩
      · refine xx_if_eq_t (tgt := 82) C (dd_X7_findingOfFates.at 36 rfl) (by decide) hc ?_
        refine xx_iinc (v := _ + (1 : Int32)) (lv' := [_, _, _]) C (dd_X7_findingOfFates.at 48 rfl) (lb_ rfl) rfl (by rw [ic_1]) rfl ?_
        refine xx_goto (tgt := 38) C (dd_X7_findingOfFates.at 49 rfl) (by decide) ?_
        exact xx_mask [true, true, true] (ih _ hf)
      · refine xx_if_eq_f (tgt := 82) C (dd_X7_findingOfFates.at 36 rfl) (by decide) hc ?_
        refine xx_aload_n C (dd_X7_findingOfFates.at 37 rfl) rfl (Nat.le_of_ble_eq_true rfl) ?_
        refine xx_getR (j := 0) (r := 2) C ck_6 (lb_ rfl) lf_RX7_14 sh_k1 rfl (lb_ rfl) rfl (dd_X7_findingOfFates.at 38 rfl) ?_
        refine xx_getR (j := 0) (r := 3) C ck_4 (lb_ rfl) lf_RX7_79 sh_k2 rfl (lb_ rfl) rfl (dd_X7_findingOfFates.at 39 rfl) ?_
        refine xx_iload_n C (dd_X7_findingOfFates.at 40 rfl) rfl ?_
        refine xx_aaload (r := (4 + Int32.toNatClampNeg x1)) C (dd_X7_findingOfFates.at 41 rfl) sh_k3 (bi_ok g5) (sh_lt (sh_e3 (bi_ok g5))) rfl ?_
        refine xx_iload_n C (dd_X7_findingOfFates.at 42 rfl) rfl ?_
        refine xx_iaload C (dd_X7_findingOfFates.at 43 rfl) (sh_e3 (bi_ok g5)) (bi_ok g6) ?_
        refine xx_iconst C (dd_X7_findingOfFates.at 44 rfl) ic_1 ?_
        rcases ifo_ hf with ⟨hc, hf⟩ | ⟨hc, hf⟩
        · refine xx_icmp_eq_t (tgt := 82) C (dd_X7_findingOfFates.at 45 rfl) (by decide) hc ?_
          refine xx_iinc (v := _ + (1 : Int32)) (lv' := [_, _, _]) C (dd_X7_findingOfFates.at 48 rfl) (lb_ rfl) rfl (by rw [ic_1]) rfl ?_
          refine xx_goto (tgt := 38) C (dd_X7_findingOfFates.at 49 rfl) (by decide) ?_
          exact xx_mask [true, true, true] (ih _ hf)
        · refine xx_icmp_eq_f (tgt := 82) C (dd_X7_findingOfFates.at 45 rfl) (by decide) hc ?_
          refine xx_iconst C (dd_X7_findingOfFates.at 46 rfl) ic_3 ?_
          exact xx_ireturn C (rt_ip hf Q) (dd_X7_findingOfFates.at 47 rfl) rfl
theorem ss_X7_findingOfFates {l : Launch} {G : gt_} {a1 : Int32} {h : hh_} {r9 : Int32}  (hf : ff_X7_findingOfFates a1 h = some r9) : ok_ l G 1 mt_X7_findingOfFates [.ref 1, .int a1] h (some (.int r9)) h := by
  refine ok_of pn_RX7 (lb_ rfl) (fun Z _ _ C Q => ?_)
  show xx_ Z 0 [some (.ref 1), some (.int a1), none] [] h
  unfold ff_X7_findingOfFates at hf
  refine xx_aload_n C (dd_X7_findingOfFates.at 0 rfl) rfl (Nat.le_of_ble_eq_true rfl) ?_
  refine xx_getR (j := 0) (r := 2) C ck_6 (lb_ rfl) lf_RX7_14 sh_k1 rfl (lb_ rfl) rfl (dd_X7_findingOfFates.at 1 rfl) ?_
  refine xx_iload_n C (dd_X7_findingOfFates.at 2 rfl) rfl ?_
  obtain ⟨v1, e2, hf⟩ := bdo_ hf
  refine xx_callVi C (ss_X5r_lacks e2) (dd_X7_findingOfFates.at 3 rfl) ck_4 rfl sh_k2 kk_X5_lacks ki_X5_lacks lm_RX7_86 (lb_ rfl) rfl rfl (lb_ rfl) ?_
  rcases ifo_ hf with ⟨hc, hf⟩ | ⟨hc, hf⟩
  · refine xx_if_eq_t (tgt := 13) C (dd_X7_findingOfFates.at 4 rfl) (by decide) hc ?_
    refine xx_aload_n C (dd_X7_findingOfFates.at 7 rfl) rfl (Nat.le_of_ble_eq_true rfl) ?_
    refine xx_getR (j := 0) (r := 2) C ck_6 (lb_ rfl) lf_RX7_14 sh_k1 rfl (lb_ rfl) rfl (dd_X7_findingOfFates.at 8 rfl) ?_
    refine xx_getR (j := 1) (r := 10) C ck_4 (lb_ rfl) lf_RX7_89 sh_k2 rfl (lb_ rfl) rfl (dd_X7_findingOfFates.at 9 rfl) ?_
    refine xx_iload_n C (dd_X7_findingOfFates.at 10 rfl) rfl ?_
    obtain ⟨g3, hf⟩ := gd_ok hf
    refine xx_iaload C (dd_X7_findingOfFates.at 11 rfl) sh_k10 (bi_ok g3) ?_
    refine xx_aload_n C (dd_X7_findingOfFates.at 12 rfl) rfl (Nat.le_of_ble_eq_true rfl) ?_
    obtain ⟨g4, hf⟩ := gd_ok hf
    refine xx_getR (j := 7) (r := h.2.2.1) C ck_6 (lb_ rfl) lf_RX7_55 sh_k1 rfl (lb_ rfl) rfl (dd_X7_findingOfFates.at 13 rfl) ?_
    refine xx_getR (j := 4) (r := (h.2.2.1 + 23)) C ck_1 (lb_ rfl) lf_RX7_118 (sh_o (bo_ok g4)) rfl (rc_o4 (bo_ok g4)) (rf_o4 (bo_ok g4)) (dd_X7_findingOfFates.at 14 rfl) ?_
    refine xx_iconst C (dd_X7_findingOfFates.at 15 rfl) ic_0 ?_
    refine xx_iaload C (dd_X7_findingOfFates.at 16 rfl) (sh_o23 (bo_ok g4)) (bi_ok (i := (0 : Int32)) (n := 3) rfl) ?_
    rcases ifo_ hf with ⟨hc, hf⟩ | ⟨hc, hf⟩
    · refine xx_icmp_eq_t (tgt := 36) C (dd_X7_findingOfFates.at 17 rfl) (by decide) hc ?_
      refine xx_iconst C (dd_X7_findingOfFates.at 20 rfl) ic_0 ?_
      refine xx_istore_n (lv' := [_, _, _]) C (dd_X7_findingOfFates.at 21 rfl) (lb_ rfl) rfl ?_
      exact xx_mask [true, true, true] (ss_X7_findingOfFates_38 C Q _ _ hf)
    · refine xx_icmp_eq_f (tgt := 36) C (dd_X7_findingOfFates.at 17 rfl) (by decide) hc ?_
      refine xx_iconst C (dd_X7_findingOfFates.at 18 rfl) ic_5 ?_
      exact xx_ireturn C (rt_ip hf Q) (dd_X7_findingOfFates.at 19 rfl) rfl
  · refine xx_if_eq_f (tgt := 13) C (dd_X7_findingOfFates.at 4 rfl) (by decide) hc ?_
    refine xx_iconst C (dd_X7_findingOfFates.at 5 rfl) ic_1 ?_
    exact xx_ireturn C (rt_ip hf Q) (dd_X7_findingOfFates.at 6 rfl) rfl
