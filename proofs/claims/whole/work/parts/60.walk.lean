theorem pz_ {α β : Type} {x : Option (α × β)} {p : α × β} (h : x = some p) : x = some (p.1, p.2) := h
theorem zt_X8_in {a b c : Int32} : bz_ (ff_X8_in a b c) = true := by
  unfold ff_X8_in
  repeat' split
  all_goals decide
theorem ss_X5r_allows {l : Launch} {G : gt_} {a1 : Int32} {h : hh_} {r9 : Int32}  (hf : ff_X5r_allows a1 h = r9) : ok_ l G 0 mt_X5_allows [.ref 2, .int a1] h (some (.int r9)) h := by
  refine ok_of pn_RX5 (lb_ rfl) (fun Z _ _ C Q => ?_)
  show xx_ Z 0 [some (.ref 2), some (.int a1)] [] h
  unfold ff_X5r_allows at hf
  refine xx_iload_n C (dd_X5_allows.at 0 rfl) rfl ?_
  rcases ifo_ hf with ⟨hc, hf⟩ | ⟨hc, hf⟩
  · refine xx_if_lt_t (tgt := 17) C (dd_X5_allows.at 1 rfl) (by decide) hc ?_
    refine xx_iconst C (dd_X5_allows.at 9 rfl) ic_0 ?_
    exact xx_zreturn C (rt_i hf Q) (dd_X5_allows.at 10 rfl) rfl zb_0
  · refine xx_if_lt_f (tgt := 17) C (dd_X5_allows.at 1 rfl) (by decide) hc ?_
    refine xx_iload_n C (dd_X5_allows.at 2 rfl) rfl ?_
    refine xx_aload_n C (dd_X5_allows.at 3 rfl) rfl (Nat.le_of_ble_eq_true rfl) ?_
    refine xx_getR (j := 1) (r := 10) C ck_4 (lb_ rfl) lf_RX5_16 sh_k2 rfl (lb_ rfl) rfl (dd_X5_allows.at 4 rfl) ?_
    refine xx_alen (v := 6) C (dd_X5_allows.at 5 rfl) sh_k10 rfl ?_
    rcases ifo_ hf with ⟨hc, hf⟩ | ⟨hc, hf⟩
    · refine xx_icmp_ge_t (tgt := 17) C (dd_X5_allows.at 6 rfl) (by decide) hc ?_
      refine xx_iconst C (dd_X5_allows.at 9 rfl) ic_0 ?_
      exact xx_zreturn C (rt_i hf Q) (dd_X5_allows.at 10 rfl) rfl zb_0
    · refine xx_icmp_ge_f (tgt := 17) C (dd_X5_allows.at 6 rfl) (by decide) hc ?_
      refine xx_iconst C (dd_X5_allows.at 7 rfl) ic_1 ?_
      refine xx_goto (tgt := 18) C (dd_X5_allows.at 8 rfl) (by decide) ?_
      exact xx_zreturn C (rt_i hf Q) (dd_X5_allows.at 10 rfl) rfl zb_1
theorem ss_X5r_renew_10 {Z : zz_} (C : cx_ Z mt_X5_renew 0) {h9 : hh_} {x1 : Int32} {x2 : Int32} {x3 : Int32}  (Q : rq_ Z none h9) : ∀ (n9 : Nat) (x4 : Int32) (h : hh_), ff_X5r_renew_10 x1 x2 x3 n9 x4 h = some h9 → xx_ Z 10 [some (.ref 2), some (.int x1), some (.int x2), some (.int x3), some (.int x4)] [] h := by
  intro n9
  induction n9 with
  | zero =>
    intro x4 h hf
    exact absurd hf (by rw [ff_X5r_renew_10]; exact nofun)
  | succ n9 ih =>
    intro x4 h hf
    rw [ff_X5r_renew_10] at hf
    refine xx_iload C (dd_X5_renew.at 7 rfl) rfl ?_
    refine xx_iload_n C (dd_X5_renew.at 8 rfl) rfl ?_
    rcases ifo_ hf with ⟨hc, hf⟩ | ⟨hc, hf⟩
    · refine xx_icmp_ge_t (tgt := 32) C (dd_X5_renew.at 9 rfl) (by decide) hc ?_
      exact xx_return C (rt_vwp hf Q) (dd_X5_renew.at 19 rfl) rfl
    · refine xx_icmp_ge_f (tgt := 32) C (dd_X5_renew.at 9 rfl) (by decide) hc ?_
      refine xx_aload_n C (dd_X5_renew.at 10 rfl) rfl (Nat.le_of_ble_eq_true rfl) ?_
      refine xx_getR (j := 0) (r := 3) C ck_4 (lb_ rfl) lf_RX5_11 sh_k2 rfl (lb_ rfl) rfl (dd_X5_renew.at 11 rfl) ?_
      refine xx_iload_n C (dd_X5_renew.at 12 rfl) rfl ?_
      obtain ⟨g2, hf⟩ := gd_ok hf
      refine xx_aaload (r := (4 + Int32.toNatClampNeg x1)) C (dd_X5_renew.at 13 rfl) sh_k3 (bi_ok g2) (sh_lt (sh_e3 (bi_ok g2))) rfl ?_
      refine xx_iload C (dd_X5_renew.at 14 rfl) rfl ?_
      refine xx_iload_n C (dd_X5_renew.at 15 rfl) rfl ?_
      obtain ⟨g3, hf⟩ := gd_ok hf
      refine xx_iastore C (dd_X5_renew.at 16 rfl) (sh_e3 (bi_ok g2)) (bi_ok g3) ?_
      refine xx_iinc (v := _ + (1 : Int32)) (lv' := [_, _, _, _, _]) C (dd_X5_renew.at 17 rfl) (lb_ rfl) rfl (by rw [ic_1]) rfl ?_
      refine xx_goto (tgt := 10) C (dd_X5_renew.at 18 rfl) (by decide) ?_
      exact xx_mask [true, true, true, true, true] (ih _ _ hf)
theorem ss_X5r_renew {l : Launch} {G : gt_} {a1 : Int32} {a2 : Int32} {a3 : Int32} {h : hh_} {h9 : hh_}  (hf : ff_X5r_renew a1 a2 a3 h = some h9) : ok_ l G 0 mt_X5_renew [.ref 2, .int a1, .int a2, .int a3] h none h9 := by
  refine ok_of pn_RX5 (lb_ rfl) (fun Z _ _ C Q => ?_)
  show xx_ Z 0 [some (.ref 2), some (.int a1), some (.int a2), some (.int a3), none] [] h
  unfold ff_X5r_renew at hf
  refine xx_aload_n C (dd_X5_renew.at 0 rfl) rfl (Nat.le_of_ble_eq_true rfl) ?_
  refine xx_getR (j := 1) (r := 10) C ck_4 (lb_ rfl) lf_RX5_16 sh_k2 rfl (lb_ rfl) rfl (dd_X5_renew.at 1 rfl) ?_
  refine xx_iload_n C (dd_X5_renew.at 2 rfl) rfl ?_
  refine xx_iload_n C (dd_X5_renew.at 3 rfl) rfl ?_
  obtain ⟨g1, hf⟩ := gd_ok hf
  refine xx_iastore C (dd_X5_renew.at 4 rfl) sh_k10 (bi_ok g1) ?_
  refine xx_iconst C (dd_X5_renew.at 5 rfl) ic_0 ?_
  refine xx_istore (lv' := [_, _, _, _, _]) C (dd_X5_renew.at 6 rfl) (lb_ rfl) rfl ?_
  exact xx_mask [true, true, true, true, true] (ss_X5r_renew_10 C Q _ _ _ hf)
theorem ss_X6_refuse {l : Launch} {G : gt_} {a1 : Int32} {h : hh_} {r9 : Int32} {h9 : hh_}  (hf : ff_X6_refuse a1 h = some (r9, h9)) : ok_ l G 0 mt_X6_refuse [.ref 36, .int a1] h (some (.int r9)) h9 := by
  refine ok_of pn_RX6 (lb_ rfl) (fun Z _ _ C Q => ?_)
  show xx_ Z 0 [some (.ref 36), some (.int a1)] [] h
  unfold ff_X6_refuse at hf
  refine xx_aload_n C (dd_X6_refuse.at 0 rfl) rfl (Nat.le_of_ble_eq_true rfl) ?_
  refine xx_iload_n C (dd_X6_refuse.at 1 rfl) rfl ?_
  refine xx_putI (j := 1) C ck_5 (lb_ rfl) lf_RX6_30 rfl rfl sh_k36 rfl (dd_X6_refuse.at 2 rfl) ?_
  refine xx_aload_n C (dd_X6_refuse.at 3 rfl) rfl (Nat.le_of_ble_eq_true rfl) ?_
  refine xx_getR (j := 0) (r := 37) C ck_5 (lb_ rfl) lf_RX6_9 sh_k36 rfl (lb_ rfl) rfl (dd_X6_refuse.at 4 rfl) ?_
  refine xx_iload_n C (dd_X6_refuse.at 5 rfl) rfl ?_
  refine xx_dup2 C (dd_X6_refuse.at 6 rfl) rfl rfl ?_
  obtain ⟨g1, hf⟩ := gd_ok hf
  refine xx_iaload C (dd_X6_refuse.at 7 rfl) sh_k37 (bi_ok g1) ?_
  refine xx_iconst C (dd_X6_refuse.at 8 rfl) ic_1 ?_
  refine xx_iadd C (dd_X6_refuse.at 9 rfl) ?_
  refine xx_iastore C (dd_X6_refuse.at 10 rfl) sh_k37 (bi_ok g1) ?_
  refine xx_bipush C (dd_X6_refuse.at 11 rfl) bq_m3 ?_
  exact xx_ireturn C (rt_iwp hf Q) (dd_X6_refuse.at 12 rfl) rfl
theorem ss_X7_row {l : Launch} {G : gt_} {a1 : Int32} {a2 : Int32} {h : hh_} {r9 : Int32} {h9 : hh_}  (hf : ff_X7_row a1 a2 h = some (r9, h9)) : ok_ l G 1 mt_X7_row [.ref 1, .int a1, .int a2] h (some (.int r9)) h9 := by
  refine ok_of pn_RX7 (lb_ rfl) (fun Z _ _ C Q => ?_)
  show xx_ Z 0 [some (.ref 1), some (.int a1), some (.int a2)] [] h
  unfold ff_X7_row at hf
  refine xx_aload_n C (dd_X7_row.at 0 rfl) rfl (Nat.le_of_ble_eq_true rfl) ?_
  refine xx_getR (j := 0) (r := 2) C ck_6 (lb_ rfl) lf_RX7_14 sh_k1 rfl (lb_ rfl) rfl (dd_X7_row.at 1 rfl) ?_
  refine xx_iload_n C (dd_X7_row.at 2 rfl) rfl ?_
  refine xx_callVi C (ss_X5r_allows rfl) (dd_X7_row.at 3 rfl) ck_4 rfl sh_k2 kk_X5_allows ki_X5_allows lm_RX7_63 (lb_ rfl) rfl rfl (lb_ rfl) ?_
  rcases ifo_ hf with ⟨hc, hf⟩ | ⟨hc, hf⟩
  · refine xx_if_eq_t (tgt := 17) C (dd_X7_row.at 4 rfl) (by decide) hc ?_
    refine xx_iconst C (dd_X7_row.at 8 rfl) ic_m1 ?_
    exact xx_ireturn C (rt_iwp hf Q) (dd_X7_row.at 9 rfl) rfl
  · refine xx_if_eq_f (tgt := 17) C (dd_X7_row.at 4 rfl) (by decide) hc ?_
    refine xx_iload_n C (dd_X7_row.at 5 rfl) rfl ?_
    refine xx_bipush C (dd_X7_row.at 6 rfl) bq_40 ?_
    rcases ifo_ hf with ⟨hc, hf⟩ | ⟨hc, hf⟩
    · refine xx_icmp_le_t (tgt := 19) C (dd_X7_row.at 7 rfl) (by decide) hc ?_
      refine xx_iload_n C (dd_X7_row.at 10 rfl) rfl ?_
      rcases ifo_ hf with ⟨hc, hf⟩ | ⟨hc, hf⟩
      · refine xx_if_ge_t (tgt := 32) C (dd_X7_row.at 11 rfl) (by decide) hc ?_
        refine xx_aload_n C (dd_X7_row.at 17 rfl) rfl (Nat.le_of_ble_eq_true rfl) ?_
        refine xx_getR (j := 0) (r := 2) C ck_6 (lb_ rfl) lf_RX7_14 sh_k1 rfl (lb_ rfl) rfl (dd_X7_row.at 18 rfl) ?_
        refine xx_iload_n C (dd_X7_row.at 19 rfl) rfl ?_
        refine xx_iload_n C (dd_X7_row.at 20 rfl) rfl ?_
        refine xx_iconst C (dd_X7_row.at 21 rfl) ic_0 ?_
        obtain ⟨v1, e2, hf⟩ := bdo_ hf
        refine xx_callVv C (ss_X5r_renew e2) (dd_X7_row.at 22 rfl) ck_4 rfl sh_k2 kk_X5_renew ki_X5_renew lm_RX7_71 (lb_ rfl) rfl rfl (lb_ rfl) ?_
        refine xx_iload_n C (dd_X7_row.at 23 rfl) rfl ?_
        exact xx_ireturn C (rt_iwp hf Q) (dd_X7_row.at 24 rfl) rfl
      · refine xx_if_ge_f (tgt := 32) C (dd_X7_row.at 11 rfl) (by decide) hc ?_
        refine xx_aload_n C (dd_X7_row.at 12 rfl) rfl (Nat.le_of_ble_eq_true rfl) ?_
        refine xx_getR (j := 5) (r := 36) C ck_6 (lb_ rfl) lf_RX7_44 sh_k1 rfl (lb_ rfl) rfl (dd_X7_row.at 13 rfl) ?_
        refine xx_iconst C (dd_X7_row.at 14 rfl) ic_5 ?_
        obtain ⟨v3, e4, hf⟩ := bdo_ hf
        refine xx_callVi C (ss_X6_refuse (pz_ e4)) (dd_X7_row.at 15 rfl) ck_5 rfl sh_k36 kk_X6_refuse ki_X6_refuse lm_RX7_67 (lb_ rfl) rfl rfl (lb_ rfl) ?_
        exact xx_ireturn C (rt_iwp hf Q) (dd_X7_row.at 16 rfl) rfl
    · refine xx_icmp_le_f (tgt := 19) C (dd_X7_row.at 7 rfl) (by decide) hc ?_
      refine xx_iconst C (dd_X7_row.at 8 rfl) ic_m1 ?_
      exact xx_ireturn C (rt_iwp hf Q) (dd_X7_row.at 9 rfl) rfl
theorem ss_X5r_lacks {l : Launch} {G : gt_} {a1 : Int32} {h : hh_} {r9 : Int32}  (hf : ff_X5r_lacks a1 h = some r9) : ok_ l G 0 mt_X5_lacks [.ref 2, .int a1] h (some (.int r9)) h := by
  refine ok_of pn_RX5 (lb_ rfl) (fun Z _ _ C Q => ?_)
  show xx_ Z 0 [some (.ref 2), some (.int a1)] [] h
  unfold ff_X5r_lacks at hf
  refine xx_aload_n C (dd_X5_lacks.at 0 rfl) rfl (Nat.le_of_ble_eq_true rfl) ?_
  refine xx_getR (j := 1) (r := 10) C ck_4 (lb_ rfl) lf_RX5_16 sh_k2 rfl (lb_ rfl) rfl (dd_X5_lacks.at 1 rfl) ?_
  refine xx_iload_n C (dd_X5_lacks.at 2 rfl) rfl ?_
  obtain ⟨g1, hf⟩ := gd_ok hf
  refine xx_iaload C (dd_X5_lacks.at 3 rfl) sh_k10 (bi_ok g1) ?_
  refine xx_iconst C (dd_X5_lacks.at 4 rfl) ic_m1 ?_
  rcases ifo_ hf with ⟨hc, hf⟩ | ⟨hc, hf⟩
  · refine xx_icmp_ne_f (tgt := 14) C (dd_X5_lacks.at 5 rfl) (by decide) (not_not_intro hc) ?_
    refine xx_iconst C (dd_X5_lacks.at 6 rfl) ic_1 ?_
    refine xx_goto (tgt := 15) C (dd_X5_lacks.at 7 rfl) (by decide) ?_
    exact xx_zreturn C (rt_ip hf Q) (dd_X5_lacks.at 9 rfl) rfl zb_1
  · refine xx_icmp_ne_t (tgt := 14) C (dd_X5_lacks.at 5 rfl) (by decide) hc ?_
    refine xx_iconst C (dd_X5_lacks.at 8 rfl) ic_0 ?_
    exact xx_zreturn C (rt_ip hf Q) (dd_X5_lacks.at 9 rfl) rfl zb_0
theorem ss_X5r_findingAt {l : Launch} {G : gt_} {a1 : Int32} {a2 : Int32} {h : hh_} {r9 : Int32}  (hf : ff_X5r_findingAt a1 a2 h = some r9) : ok_ l G 1 mt_X5_findingAt [.ref 2, .int a1, .int a2] h (some (.int r9)) h := by
  refine ok_of pn_RX5 (lb_ rfl) (fun Z _ _ C Q => ?_)
  show xx_ Z 0 [some (.ref 2), some (.int a1), some (.int a2)] [] h
  unfold ff_X5r_findingAt at hf
  refine xx_aload_n C (dd_X5_findingAt.at 0 rfl) rfl (Nat.le_of_ble_eq_true rfl) ?_
  refine xx_iload_n C (dd_X5_findingAt.at 1 rfl) rfl ?_
  obtain ⟨v1, e2, hf⟩ := bdo_ hf
  refine xx_callVi C (ss_X5r_lacks e2) (dd_X5_findingAt.at 2 rfl) ck_4 rfl sh_k2 kk_X5_lacks ki_X5_lacks lm_RX5_20 (lb_ rfl) rfl rfl (lb_ rfl) ?_
  rcases ifo_ hf with ⟨hc, hf⟩ | ⟨hc, hf⟩
  · refine xx_if_eq_t (tgt := 10) C (dd_X5_findingAt.at 3 rfl) (by decide) hc ?_
    refine xx_iload_n C (dd_X5_findingAt.at 6 rfl) rfl ?_
    rcases ifo_ hf with ⟨hc, hf⟩ | ⟨hc, hf⟩
    · refine xx_if_lt_t (tgt := 24) C (dd_X5_findingAt.at 7 rfl) (by decide) hc ?_
      refine xx_iconst C (dd_X5_findingAt.at 14 rfl) ic_2 ?_
      refine xx_goto (tgt := 29) C (dd_X5_findingAt.at 15 rfl) (by decide) ?_
      exact xx_ireturn C (rt_ip hf Q) (dd_X5_findingAt.at 17 rfl) rfl
    · refine xx_if_lt_f (tgt := 24) C (dd_X5_findingAt.at 7 rfl) (by decide) hc ?_
      refine xx_iload_n C (dd_X5_findingAt.at 8 rfl) rfl ?_
      refine xx_aload_n C (dd_X5_findingAt.at 9 rfl) rfl (Nat.le_of_ble_eq_true rfl) ?_
      refine xx_getR (j := 1) (r := 10) C ck_4 (lb_ rfl) lf_RX5_16 sh_k2 rfl (lb_ rfl) rfl (dd_X5_findingAt.at 10 rfl) ?_
      refine xx_iload_n C (dd_X5_findingAt.at 11 rfl) rfl ?_
      obtain ⟨g3, hf⟩ := gd_ok hf
      refine xx_iaload C (dd_X5_findingAt.at 12 rfl) sh_k10 (bi_ok g3) ?_
      rcases ifo_ hf with ⟨hc, hf⟩ | ⟨hc, hf⟩
      · refine xx_icmp_lt_t (tgt := 28) C (dd_X5_findingAt.at 13 rfl) (by decide) hc ?_
        refine xx_iconst C (dd_X5_findingAt.at 16 rfl) ic_0 ?_
        exact xx_ireturn C (rt_ip hf Q) (dd_X5_findingAt.at 17 rfl) rfl
      · refine xx_icmp_lt_f (tgt := 28) C (dd_X5_findingAt.at 13 rfl) (by decide) hc ?_
        refine xx_iconst C (dd_X5_findingAt.at 14 rfl) ic_2 ?_
        refine xx_goto (tgt := 29) C (dd_X5_findingAt.at 15 rfl) (by decide) ?_
        exact xx_ireturn C (rt_ip hf Q) (dd_X5_findingAt.at 17 rfl) rfl
  · refine xx_if_eq_f (tgt := 10) C (dd_X5_findingAt.at 3 rfl) (by decide) hc ?_
    refine xx_iconst C (dd_X5_findingAt.at 4 rfl) ic_1 ?_
    exact xx_ireturn C (rt_ip hf Q) (dd_X5_findingAt.at 5 rfl) rfl
theorem ss_X6_tell {l : Launch} {G : gt_} {a1 : Int32} {h : hh_} {r9 : Int32} {h9 : hh_}  (hf : ff_X6_tell a1 h = (r9, h9)) : ok_ l G 0 mt_X6_tell [.ref 36, .int a1] h (some (.int r9)) h9 := by
  refine ok_of pn_RX6 (lb_ rfl) (fun Z _ _ C Q => ?_)
  show xx_ Z 0 [some (.ref 36), some (.int a1)] [] h
  unfold ff_X6_tell at hf
  refine xx_aload_n C (dd_X6_tell.at 0 rfl) rfl (Nat.le_of_ble_eq_true rfl) ?_
  refine xx_iload_n C (dd_X6_tell.at 1 rfl) rfl ?_
  refine xx_putI (j := 2) C ck_5 (lb_ rfl) lf_RX6_19 rfl rfl sh_k36 rfl (dd_X6_tell.at 2 rfl) ?_
  refine xx_iconst C (dd_X6_tell.at 3 rfl) ic_1 ?_
  exact xx_ireturn C (rt_iw hf Q) (dd_X6_tell.at 4 rfl) rfl
theorem ss_X7_lay {l : Launch} {G : gt_} {a1 : Int32} {a2 : Int32} {a3 : Int32} {h : hh_} {r9 : Int32} {h9 : hh_}  (hf : ff_X7_lay a1 a2 a3 h = some (r9, h9)) : ok_ l G 2 mt_X7_lay [.ref 1, .int a1, .int a2, .int a3] h (some (.int r9)) h9 := by
  refine ok_of pn_RX7 (lb_ rfl) (fun Z _ _ C Q => ?_)
  show xx_ Z 0 [some (.ref 1), some (.int a1), some (.int a2), some (.int a3), none, none] [] h
  unfold ff_X7_lay at hf
  refine xx_aload_n C (dd_X7_lay.at 0 rfl) rfl (Nat.le_of_ble_eq_true rfl) ?_
  refine xx_getR (j := 0) (r := 2) C ck_6 (lb_ rfl) lf_RX7_14 sh_k1 rfl (lb_ rfl) rfl (dd_X7_lay.at 1 rfl) ?_
  refine xx_iload_n C (dd_X7_lay.at 2 rfl) rfl ?_
  refine xx_callVi C (ss_X5r_allows rfl) (dd_X7_lay.at 3 rfl) ck_4 rfl sh_k2 kk_X5_allows ki_X5_allows lm_RX7_63 (lb_ rfl) rfl rfl (lb_ rfl) ?_
  rcases ifo_ hf with ⟨hc, hf⟩ | ⟨hc, hf⟩
  · refine xx_if_ne_f (tgt := 13) C (dd_X7_lay.at 4 rfl) (by decide) (not_not_intro hc) ?_
    refine xx_iconst C (dd_X7_lay.at 5 rfl) ic_m1 ?_
    exact xx_ireturn C (rt_iwp hf Q) (dd_X7_lay.at 6 rfl) rfl
  · refine xx_if_ne_t (tgt := 13) C (dd_X7_lay.at 4 rfl) (by decide) hc ?_
    refine xx_aload_n C (dd_X7_lay.at 7 rfl) rfl (Nat.le_of_ble_eq_true rfl) ?_
    refine xx_getR (j := 0) (r := 2) C ck_6 (lb_ rfl) lf_RX7_14 sh_k1 rfl (lb_ rfl) rfl (dd_X7_lay.at 8 rfl) ?_
    refine xx_iload_n C (dd_X7_lay.at 9 rfl) rfl ?_
    refine xx_iload_n C (dd_X7_lay.at 10 rfl) rfl ?_
    obtain ⟨v1, e2, hf⟩ := bdo_ hf
    refine xx_callVi C (ss_X5r_findingAt e2) (dd_X7_lay.at 11 rfl) ck_4 rfl sh_k2 kk_X5_findingAt ki_X5_findingAt lm_RX7_75 (lb_ rfl) rfl rfl (lb_ rfl) ?_
    refine xx_istore (lv' := [_, _, _, _, _, _]) C (dd_X7_lay.at 12 rfl) (lb_ rfl) rfl ?_
    refine xx_iload C (dd_X7_lay.at 13 rfl) rfl ?_
    rcases ifo_ hf with ⟨hc, hf⟩ | ⟨hc, hf⟩
    · refine xx_if_eq_t (tgt := 39) C (dd_X7_lay.at 14 rfl) (by decide) hc ?_
      refine xx_aload_n C (dd_X7_lay.at 20 rfl) rfl (Nat.le_of_ble_eq_true rfl) ?_
      refine xx_getR (j := 0) (r := 2) C ck_6 (lb_ rfl) lf_RX7_14 sh_k1 rfl (lb_ rfl) rfl (dd_X7_lay.at 21 rfl) ?_
      refine xx_getR (j := 0) (r := 3) C ck_4 (lb_ rfl) lf_RX7_79 sh_k2 rfl (lb_ rfl) rfl (dd_X7_lay.at 22 rfl) ?_
      refine xx_iload_n C (dd_X7_lay.at 23 rfl) rfl ?_
      obtain ⟨g3, hf⟩ := gd_ok hf
      refine xx_aaload (r := (4 + Int32.toNatClampNeg a1)) C (dd_X7_lay.at 24 rfl) sh_k3 (bi_ok g3) (sh_lt (sh_e3 (bi_ok g3))) rfl ?_
      refine xx_iload_n C (dd_X7_lay.at 25 rfl) rfl ?_
      obtain ⟨g4, hf⟩ := gd_ok hf
      refine xx_iaload C (dd_X7_lay.at 26 rfl) (sh_e3 (bi_ok g3)) (bi_ok g4) ?_
      refine xx_istore (lv' := [_, _, _, _, _, _]) C (dd_X7_lay.at 27 rfl) (lb_ rfl) rfl ?_
      refine xx_aload_n C (dd_X7_lay.at 28 rfl) rfl (Nat.le_of_ble_eq_true rfl) ?_
      refine xx_getR (j := 0) (r := 2) C ck_6 (lb_ rfl) lf_RX7_14 sh_k1 rfl (lb_ rfl) rfl (dd_X7_lay.at 29 rfl) ?_
      refine xx_getR (j := 0) (r := 3) C ck_4 (lb_ rfl) lf_RX7_79 sh_k2 rfl (lb_ rfl) rfl (dd_X7_lay.at 30 rfl) ?_
      refine xx_iload_n C (dd_X7_lay.at 31 rfl) rfl ?_
      refine xx_aaload (r := (4 + Int32.toNatClampNeg a1)) C (dd_X7_lay.at 32 rfl) sh_k3 (bi_ok g3) (sh_lt (sh_e3 (bi_ok g3))) rfl ?_
      refine xx_iload_n C (dd_X7_lay.at 33 rfl) rfl ?_
      refine xx_iload_n C (dd_X7_lay.at 34 rfl) rfl ?_
      refine xx_iastore C (dd_X7_lay.at 35 rfl) (sh_e3 (bi_ok g3)) (bi_ok g4) ?_
      refine xx_aload_n C (dd_X7_lay.at 36 rfl) rfl (Nat.le_of_ble_eq_true rfl) ?_
      refine xx_getR (j := 5) (r := 36) C ck_6 (lb_ rfl) lf_RX7_44 sh_k1 rfl (lb_ rfl) rfl (dd_X7_lay.at 37 rfl) ?_
      refine xx_iload C (dd_X7_lay.at 38 rfl) rfl ?_
      refine xx_callVi C (ss_X6_tell pe_) (dd_X7_lay.at 39 rfl) ck_5 rfl sh_k36 kk_X6_tell ki_X6_tell lm_RX7_83 (lb_ rfl) rfl rfl (lb_ rfl) ?_
      exact xx_ireturn C (rt_iwp hf Q) (dd_X7_lay.at 40 rfl) rfl
    · refine xx_if_eq_f (tgt := 39) C (dd_X7_lay.at 14 rfl) (by decide) hc ?_
      refine xx_aload_n C (dd_X7_lay.at 15 rfl) rfl (Nat.le_of_ble_eq_true rfl) ?_
      refine xx_getR (j := 5) (r := 36) C ck_6 (lb_ rfl) lf_RX7_44 sh_k1 rfl (lb_ rfl) rfl (dd_X7_lay.at 16 rfl) ?_
      refine xx_iload C (dd_X7_lay.at 17 rfl) rfl ?_
      obtain ⟨v5, e6, hf⟩ := bdo_ hf
      refine xx_callVi C (ss_X6_refuse (pz_ e6)) (dd_X7_lay.at 18 rfl) ck_5 rfl sh_k36 kk_X6_refuse ki_X6_refuse lm_RX7_67 (lb_ rfl) rfl rfl (lb_ rfl) ?_
      exact xx_ireturn C (rt_iwp hf Q) (dd_X7_lay.at 19 rfl) rfl
theorem ss_X7_at {l : Launch} {G : gt_} {a1 : Int32} {a2 : Int32} {h : hh_} {r9 : Int32} {h9 : hh_}  (hf : ff_X7_at a1 a2 h = some (r9, h9)) : ok_ l G 2 mt_X7_at [.ref 1, .int a1, .int a2] h (some (.int r9)) h9 := by
  refine ok_of pn_RX7 (lb_ rfl) (fun Z _ _ C Q => ?_)
  show xx_ Z 0 [some (.ref 1), some (.int a1), some (.int a2), none] [] h
  unfold ff_X7_at at hf
  refine xx_aload_n C (dd_X7_at.at 0 rfl) rfl (Nat.le_of_ble_eq_true rfl) ?_
  refine xx_getR (j := 0) (r := 2) C ck_6 (lb_ rfl) lf_RX7_14 sh_k1 rfl (lb_ rfl) rfl (dd_X7_at.at 1 rfl) ?_
  refine xx_iload_n C (dd_X7_at.at 2 rfl) rfl ?_
  refine xx_callVi C (ss_X5r_allows rfl) (dd_X7_at.at 3 rfl) ck_4 rfl sh_k2 kk_X5_allows ki_X5_allows lm_RX7_63 (lb_ rfl) rfl rfl (lb_ rfl) ?_
  rcases ifo_ hf with ⟨hc, hf⟩ | ⟨hc, hf⟩
  · refine xx_if_ne_f (tgt := 13) C (dd_X7_at.at 4 rfl) (by decide) (not_not_intro hc) ?_
    refine xx_iconst C (dd_X7_at.at 5 rfl) ic_m1 ?_
    exact xx_ireturn C (rt_iwp hf Q) (dd_X7_at.at 6 rfl) rfl
  · refine xx_if_ne_t (tgt := 13) C (dd_X7_at.at 4 rfl) (by decide) hc ?_
    refine xx_aload_n C (dd_X7_at.at 7 rfl) rfl (Nat.le_of_ble_eq_true rfl) ?_
    refine xx_getR (j := 0) (r := 2) C ck_6 (lb_ rfl) lf_RX7_14 sh_k1 rfl (lb_ rfl) rfl (dd_X7_at.at 8 rfl) ?_
    refine xx_iload_n C (dd_X7_at.at 9 rfl) rfl ?_
    refine xx_iload_n C (dd_X7_at.at 10 rfl) rfl ?_
    obtain ⟨v1, e2, hf⟩ := bdo_ hf
    refine xx_callVi C (ss_X5r_findingAt e2) (dd_X7_at.at 11 rfl) ck_4 rfl sh_k2 kk_X5_findingAt ki_X5_findingAt lm_RX7_75 (lb_ rfl) rfl rfl (lb_ rfl) ?_
    refine xx_istore_n (lv' := [_, _, _, _]) C (dd_X7_at.at 12 rfl) (lb_ rfl) rfl ?_
    refine xx_iload_n C (dd_X7_at.at 13 rfl) rfl ?_
    rcases ifo_ hf with ⟨hc, hf⟩ | ⟨hc, hf⟩
    · refine xx_if_eq_t (tgt := 36) C (dd_X7_at.at 14 rfl) (by decide) hc ?_
      refine xx_aload_n C (dd_X7_at.at 20 rfl) rfl (Nat.le_of_ble_eq_true rfl) ?_
      refine xx_getR (j := 5) (r := 36) C ck_6 (lb_ rfl) lf_RX7_44 sh_k1 rfl (lb_ rfl) rfl (dd_X7_at.at 21 rfl) ?_
      refine xx_aload_n C (dd_X7_at.at 22 rfl) rfl (Nat.le_of_ble_eq_true rfl) ?_
      refine xx_getR (j := 0) (r := 2) C ck_6 (lb_ rfl) lf_RX7_14 sh_k1 rfl (lb_ rfl) rfl (dd_X7_at.at 23 rfl) ?_
      refine xx_getR (j := 0) (r := 3) C ck_4 (lb_ rfl) lf_RX7_79 sh_k2 rfl (lb_ rfl) rfl (dd_X7_at.at 24 rfl) ?_
      refine xx_iload_n C (dd_X7_at.at 25 rfl) rfl ?_
      obtain ⟨g3, hf⟩ := gd_ok hf
      refine xx_aaload (r := (4 + Int32.toNatClampNeg a1)) C (dd_X7_at.at 26 rfl) sh_k3 (bi_ok g3) (sh_lt (sh_e3 (bi_ok g3))) rfl ?_
      refine xx_iload_n C (dd_X7_at.at 27 rfl) rfl ?_
      obtain ⟨g4, hf⟩ := gd_ok hf
      refine xx_iaload C (dd_X7_at.at 28 rfl) (sh_e3 (bi_ok g3)) (bi_ok g4) ?_
      refine xx_callVi C (ss_X6_tell pe_) (dd_X7_at.at 29 rfl) ck_5 rfl sh_k36 kk_X6_tell ki_X6_tell lm_RX7_83 (lb_ rfl) rfl rfl (lb_ rfl) ?_
      exact xx_ireturn C (rt_iwp hf Q) (dd_X7_at.at 30 rfl) rfl
    · refine xx_if_eq_f (tgt := 36) C (dd_X7_at.at 14 rfl) (by decide) hc ?_
      refine xx_aload_n C (dd_X7_at.at 15 rfl) rfl (Nat.le_of_ble_eq_true rfl) ?_
      refine xx_getR (j := 5) (r := 36) C ck_6 (lb_ rfl) lf_RX7_44 sh_k1 rfl (lb_ rfl) rfl (dd_X7_at.at 16 rfl) ?_
      refine xx_iload_n C (dd_X7_at.at 17 rfl) rfl ?_
      obtain ⟨v5, e6, hf⟩ := bdo_ hf
      refine xx_callVi C (ss_X6_refuse (pz_ e6)) (dd_X7_at.at 18 rfl) ck_5 rfl sh_k36 kk_X6_refuse ki_X6_refuse lm_RX7_67 (lb_ rfl) rfl rfl (lb_ rfl) ?_
      exact xx_ireturn C (rt_iwp hf Q) (dd_X7_at.at 19 rfl) rfl
theorem ss_X7_tear {l : Launch} {G : gt_} {a1 : Int32} {h : hh_} {r9 : Int32} {h9 : hh_}  (hf : ff_X7_tear a1 h = some (r9, h9)) : ok_ l G 1 mt_X7_tear [.ref 1, .int a1] h (some (.int r9)) h9 := by
  refine ok_of pn_RX7 (lb_ rfl) (fun Z _ _ C Q => ?_)
  show xx_ Z 0 [some (.ref 1), some (.int a1)] [] h
  unfold ff_X7_tear at hf
  refine xx_aload_n C (dd_X7_tear.at 0 rfl) rfl (Nat.le_of_ble_eq_true rfl) ?_
  refine xx_getR (j := 0) (r := 2) C ck_6 (lb_ rfl) lf_RX7_14 sh_k1 rfl (lb_ rfl) rfl (dd_X7_tear.at 1 rfl) ?_
  refine xx_iload_n C (dd_X7_tear.at 2 rfl) rfl ?_
  refine xx_callVi C (ss_X5r_allows rfl) (dd_X7_tear.at 3 rfl) ck_4 rfl sh_k2 kk_X5_allows ki_X5_allows lm_RX7_63 (lb_ rfl) rfl rfl (lb_ rfl) ?_
  rcases ifo_ hf with ⟨hc, hf⟩ | ⟨hc, hf⟩
  · refine xx_if_ne_f (tgt := 13) C (dd_X7_tear.at 4 rfl) (by decide) (not_not_intro hc) ?_
    refine xx_iconst C (dd_X7_tear.at 5 rfl) ic_m1 ?_
    exact xx_ireturn C (rt_iwp hf Q) (dd_X7_tear.at 6 rfl) rfl
  · refine xx_if_ne_t (tgt := 13) C (dd_X7_tear.at 4 rfl) (by decide) hc ?_
    refine xx_aload_n C (dd_X7_tear.at 7 rfl) rfl (Nat.le_of_ble_eq_true rfl) ?_
    refine xx_getR (j := 0) (r := 2) C ck_6 (lb_ rfl) lf_RX7_14 sh_k1 rfl (lb_ rfl) rfl (dd_X7_tear.at 8 rfl) ?_
    refine xx_iload_n C (dd_X7_tear.at 9 rfl) rfl ?_
    obtain ⟨v1, e2, hf⟩ := bdo_ hf
    refine xx_callVi C (ss_X5r_lacks e2) (dd_X7_tear.at 10 rfl) ck_4 rfl sh_k2 kk_X5_lacks ki_X5_lacks lm_RX7_86 (lb_ rfl) rfl rfl (lb_ rfl) ?_
    rcases ifo_ hf with ⟨hc, hf⟩ | ⟨hc, hf⟩
    · refine xx_if_eq_t (tgt := 33) C (dd_X7_tear.at 11 rfl) (by decide) hc ?_
      refine xx_aload_n C (dd_X7_tear.at 17 rfl) rfl (Nat.le_of_ble_eq_true rfl) ?_
      refine xx_getR (j := 0) (r := 2) C ck_6 (lb_ rfl) lf_RX7_14 sh_k1 rfl (lb_ rfl) rfl (dd_X7_tear.at 18 rfl) ?_
      refine xx_getR (j := 1) (r := 10) C ck_4 (lb_ rfl) lf_RX7_89 sh_k2 rfl (lb_ rfl) rfl (dd_X7_tear.at 19 rfl) ?_
      refine xx_iload_n C (dd_X7_tear.at 20 rfl) rfl ?_
      refine xx_iconst C (dd_X7_tear.at 21 rfl) ic_m1 ?_
      obtain ⟨g3, hf⟩ := gd_ok hf
      refine xx_iastore C (dd_X7_tear.at 22 rfl) sh_k10 (bi_ok g3) ?_
      refine xx_iconst C (dd_X7_tear.at 23 rfl) ic_1 ?_
      exact xx_ireturn C (rt_iwp hf Q) (dd_X7_tear.at 24 rfl) rfl
    · refine xx_if_eq_f (tgt := 33) C (dd_X7_tear.at 11 rfl) (by decide) hc ?_
      refine xx_aload_n C (dd_X7_tear.at 12 rfl) rfl (Nat.le_of_ble_eq_true rfl) ?_
      refine xx_getR (j := 5) (r := 36) C ck_6 (lb_ rfl) lf_RX7_44 sh_k1 rfl (lb_ rfl) rfl (dd_X7_tear.at 13 rfl) ?_
      refine xx_iconst C (dd_X7_tear.at 14 rfl) ic_1 ?_
      obtain ⟨v4, e5, hf⟩ := bdo_ hf
      refine xx_callVi C (ss_X6_refuse (pz_ e5)) (dd_X7_tear.at 15 rfl) ck_5 rfl sh_k36 kk_X6_refuse ki_X6_refuse lm_RX7_67 (lb_ rfl) rfl rfl (lb_ rfl) ?_
      exact xx_ireturn C (rt_iwp hf Q) (dd_X7_tear.at 16 rfl) rfl
theorem ss_X5r_spans {l : Launch} {G : gt_} {a1 : Int32} {a2 : Int32} {a3 : Int32} {h : hh_} {r9 : Int32}  (hf : ff_X5r_spans a1 a2 a3 h = some r9) : ok_ l G 0 mt_X5_spans [.ref 2, .int a1, .int a2, .int a3] h (some (.int r9)) h := by
  refine ok_of pn_RX5 (lb_ rfl) (fun Z _ _ C Q => ?_)
  show xx_ Z 0 [some (.ref 2), some (.int a1), some (.int a2), some (.int a3)] [] h
  unfold ff_X5r_spans at hf
  refine xx_iload_n C (dd_X5_spans.at 0 rfl) rfl ?_
  rcases ifo_ hf with ⟨hc, hf⟩ | ⟨hc, hf⟩
  · refine xx_if_lt_t (tgt := 30) C (dd_X5_spans.at 1 rfl) (by decide) hc ?_
    refine xx_iconst C (dd_X5_spans.at 18 rfl) ic_0 ?_
    exact xx_zreturn C (rt_ip hf Q) (dd_X5_spans.at 19 rfl) rfl zb_0
  · refine xx_if_lt_f (tgt := 30) C (dd_X5_spans.at 1 rfl) (by decide) hc ?_
    refine xx_iload_n C (dd_X5_spans.at 2 rfl) rfl ?_
    refine xx_aload_n C (dd_X5_spans.at 3 rfl) rfl (Nat.le_of_ble_eq_true rfl) ?_
    refine xx_getR (j := 1) (r := 10) C ck_4 (lb_ rfl) lf_RX5_16 sh_k2 rfl (lb_ rfl) rfl (dd_X5_spans.at 4 rfl) ?_
    refine xx_iload_n C (dd_X5_spans.at 5 rfl) rfl ?_
    obtain ⟨g1, hf⟩ := gd_ok hf
    refine xx_iaload C (dd_X5_spans.at 6 rfl) sh_k10 (bi_ok g1) ?_
    rcases ifo_ hf with ⟨hc, hf⟩ | ⟨hc, hf⟩
    · refine xx_icmp_gt_t (tgt := 30) C (dd_X5_spans.at 7 rfl) (by decide) hc ?_
      refine xx_iconst C (dd_X5_spans.at 18 rfl) ic_0 ?_
      exact xx_zreturn C (rt_ip hf Q) (dd_X5_spans.at 19 rfl) rfl zb_0
    · refine xx_icmp_gt_f (tgt := 30) C (dd_X5_spans.at 7 rfl) (by decide) hc ?_
      refine xx_iload_n C (dd_X5_spans.at 8 rfl) rfl ?_
      refine xx_aload_n C (dd_X5_spans.at 9 rfl) rfl (Nat.le_of_ble_eq_true rfl) ?_
      refine xx_getR (j := 1) (r := 10) C ck_4 (lb_ rfl) lf_RX5_16 sh_k2 rfl (lb_ rfl) rfl (dd_X5_spans.at 10 rfl) ?_
      refine xx_iload_n C (dd_X5_spans.at 11 rfl) rfl ?_
      refine xx_iaload C (dd_X5_spans.at 12 rfl) sh_k10 (bi_ok g1) ?_
      refine xx_iload_n C (dd_X5_spans.at 13 rfl) rfl ?_
      refine xx_isub C (dd_X5_spans.at 14 rfl) ?_
      rcases ifo_ hf with ⟨hc, hf⟩ | ⟨hc, hf⟩
      · refine xx_icmp_gt_t (tgt := 30) C (dd_X5_spans.at 15 rfl) (by decide) hc ?_
        refine xx_iconst C (dd_X5_spans.at 18 rfl) ic_0 ?_
        exact xx_zreturn C (rt_ip hf Q) (dd_X5_spans.at 19 rfl) rfl zb_0
      · refine xx_icmp_gt_f (tgt := 30) C (dd_X5_spans.at 15 rfl) (by decide) hc ?_
        refine xx_iconst C (dd_X5_spans.at 16 rfl) ic_1 ?_
        refine xx_goto (tgt := 31) C (dd_X5_spans.at 17 rfl) (by decide) ?_
        exact xx_zreturn C (rt_ip hf Q) (dd_X5_spans.at 19 rfl) rfl zb_1
theorem ss_X7_copy {l : Launch} {G : gt_} {a1 : Int32} {a2 : Int32} {a3 : Int32} {a4 : Int32} {a5 : Int32} {h : hh_} {r9 : Int32} {h9 : hh_}  (hf : ff_X7_copy a1 a2 a3 a4 a5 h = some (r9, h9)) : ok_ l G 1 mt_X7_copy [.ref 1, .int a1, .int a2, .int a3, .int a4, .int a5] h (some (.int r9)) h9 := by
  refine ok_of pn_RX7 (lb_ rfl) (fun Z _ _ C Q => ?_)
  show xx_ Z 0 [some (.ref 1), some (.int a1), some (.int a2), some (.int a3), some (.int a4), some (.int a5)] [] h
  unfold ff_X7_copy at hf
  refine xx_aload_n C (dd_X7_copy.at 0 rfl) rfl (Nat.le_of_ble_eq_true rfl) ?_
  refine xx_getR (j := 0) (r := 2) C ck_6 (lb_ rfl) lf_RX7_14 sh_k1 rfl (lb_ rfl) rfl (dd_X7_copy.at 1 rfl) ?_
  refine xx_iload_n C (dd_X7_copy.at 2 rfl) rfl ?_
  refine xx_callVi C (ss_X5r_allows rfl) (dd_X7_copy.at 3 rfl) ck_4 rfl sh_k2 kk_X5_allows ki_X5_allows lm_RX7_63 (lb_ rfl) rfl rfl (lb_ rfl) ?_
  rcases ifo_ hf with ⟨hc, hf⟩ | ⟨hc, hf⟩
  · refine xx_if_eq_t (tgt := 22) C (dd_X7_copy.at 4 rfl) (by decide) hc ?_
    refine xx_iconst C (dd_X7_copy.at 10 rfl) ic_m1 ?_
    exact xx_ireturn C (rt_iwp hf Q) (dd_X7_copy.at 11 rfl) rfl
  · refine xx_if_eq_f (tgt := 22) C (dd_X7_copy.at 4 rfl) (by decide) hc ?_
    refine xx_aload_n C (dd_X7_copy.at 5 rfl) rfl (Nat.le_of_ble_eq_true rfl) ?_
    refine xx_getR (j := 0) (r := 2) C ck_6 (lb_ rfl) lf_RX7_14 sh_k1 rfl (lb_ rfl) rfl (dd_X7_copy.at 6 rfl) ?_
    refine xx_iload_n C (dd_X7_copy.at 7 rfl) rfl ?_
    refine xx_callVi C (ss_X5r_allows rfl) (dd_X7_copy.at 8 rfl) ck_4 rfl sh_k2 kk_X5_allows ki_X5_allows lm_RX7_63 (lb_ rfl) rfl rfl (lb_ rfl) ?_
    rcases ifo_ hf with ⟨hc, hf⟩ | ⟨hc, hf⟩
    · refine xx_if_ne_f (tgt := 24) C (dd_X7_copy.at 9 rfl) (by decide) (not_not_intro hc) ?_
      refine xx_iconst C (dd_X7_copy.at 10 rfl) ic_m1 ?_
      exact xx_ireturn C (rt_iwp hf Q) (dd_X7_copy.at 11 rfl) rfl
    · refine xx_if_ne_t (tgt := 24) C (dd_X7_copy.at 9 rfl) (by decide) hc ?_
      refine xx_iload C (dd_X7_copy.at 12 rfl) rfl ?_
      rcases ifo_ hf with ⟨hc, hf⟩ | ⟨hc, hf⟩
      · refine xx_if_ge_t (tgt := 38) C (dd_X7_copy.at 13 rfl) (by decide) hc ?_
        refine xx_aload_n C (dd_X7_copy.at 19 rfl) rfl (Nat.le_of_ble_eq_true rfl) ?_
        refine xx_getR (j := 0) (r := 2) C ck_6 (lb_ rfl) lf_RX7_14 sh_k1 rfl (lb_ rfl) rfl (dd_X7_copy.at 20 rfl) ?_
        refine xx_iload_n C (dd_X7_copy.at 21 rfl) rfl ?_
        obtain ⟨v1, e2, hf⟩ := bdo_ hf
        refine xx_callVi C (ss_X5r_lacks e2) (dd_X7_copy.at 22 rfl) ck_4 rfl sh_k2 kk_X5_lacks ki_X5_lacks lm_RX7_86 (lb_ rfl) rfl rfl (lb_ rfl) ?_
        rcases ifo_ hf with ⟨hc, hf⟩ | ⟨hc, hf⟩
        · refine xx_if_ne_f (tgt := 60) C (dd_X7_copy.at 23 rfl) (by decide) (not_not_intro hc) ?_
          refine xx_aload_n C (dd_X7_copy.at 24 rfl) rfl (Nat.le_of_ble_eq_true rfl) ?_
          refine xx_getR (j := 0) (r := 2) C ck_6 (lb_ rfl) lf_RX7_14 sh_k1 rfl (lb_ rfl) rfl (dd_X7_copy.at 25 rfl) ?_
          refine xx_iload_n C (dd_X7_copy.at 26 rfl) rfl ?_
          obtain ⟨v5, e6, hf⟩ := bdo_ hf
          refine xx_callVi C (ss_X5r_lacks e6) (dd_X7_copy.at 27 rfl) ck_4 rfl sh_k2 kk_X5_lacks ki_X5_lacks lm_RX7_86 (lb_ rfl) rfl rfl (lb_ rfl) ?_
          rcases ifo_ hf with ⟨hc, hf⟩ | ⟨hc, hf⟩
          · refine xx_if_eq_t (tgt := 69) C (dd_X7_copy.at 28 rfl) (by decide) hc ?_
            refine xx_aload_n C (dd_X7_copy.at 34 rfl) rfl (Nat.le_of_ble_eq_true rfl) ?_
            refine xx_getR (j := 0) (r := 2) C ck_6 (lb_ rfl) lf_RX7_14 sh_k1 rfl (lb_ rfl) rfl (dd_X7_copy.at 35 rfl) ?_
            refine xx_iload_n C (dd_X7_copy.at 36 rfl) rfl ?_
            refine xx_iload_n C (dd_X7_copy.at 37 rfl) rfl ?_
            refine xx_iload C (dd_X7_copy.at 38 rfl) rfl ?_
            obtain ⟨v7, e8, hf⟩ := bdo_ hf
            refine xx_callVi C (ss_X5r_spans e8) (dd_X7_copy.at 39 rfl) ck_4 rfl sh_k2 kk_X5_spans ki_X5_spans lm_RX7_92 (lb_ rfl) rfl rfl (lb_ rfl) ?_
            rcases ifo_ hf with ⟨hc, hf⟩ | ⟨hc, hf⟩
            · refine xx_if_eq_t (tgt := 98) C (dd_X7_copy.at 40 rfl) (by decide) hc ?_
              refine xx_aload_n C (dd_X7_copy.at 48 rfl) rfl (Nat.le_of_ble_eq_true rfl) ?_
              refine xx_getR (j := 5) (r := 36) C ck_6 (lb_ rfl) lf_RX7_44 sh_k1 rfl (lb_ rfl) rfl (dd_X7_copy.at 49 rfl) ?_
              refine xx_iconst C (dd_X7_copy.at 50 rfl) ic_2 ?_
              obtain ⟨v9, e10, hf⟩ := bdo_ hf
              refine xx_callVi C (ss_X6_refuse (pz_ e10)) (dd_X7_copy.at 51 rfl) ck_5 rfl sh_k36 kk_X6_refuse ki_X6_refuse lm_RX7_67 (lb_ rfl) rfl rfl (lb_ rfl) ?_
              exact xx_ireturn C (rt_iwp hf Q) (dd_X7_copy.at 52 rfl) rfl
            · refine xx_if_eq_f (tgt := 98) C (dd_X7_copy.at 40 rfl) (by decide) hc ?_
              refine xx_aload_n C (dd_X7_copy.at 41 rfl) rfl (Nat.le_of_ble_eq_true rfl) ?_
              refine xx_getR (j := 0) (r := 2) C ck_6 (lb_ rfl) lf_RX7_14 sh_k1 rfl (lb_ rfl) rfl (dd_X7_copy.at 42 rfl) ?_
              refine xx_iload_n C (dd_X7_copy.at 43 rfl) rfl ?_
              refine xx_iload C (dd_X7_copy.at 44 rfl) rfl ?_
              refine xx_iload C (dd_X7_copy.at 45 rfl) rfl ?_
              obtain ⟨v11, e12, hf⟩ := bdo_ hf
              refine xx_callVi C (ss_X5r_spans e12) (dd_X7_copy.at 46 rfl) ck_4 rfl sh_k2 kk_X5_spans ki_X5_spans lm_RX7_92 (lb_ rfl) rfl rfl (lb_ rfl) ?_
              rcases ifo_ hf with ⟨hc, hf⟩ | ⟨hc, hf⟩
              · refine xx_if_ne_f (tgt := 107) C (dd_X7_copy.at 47 rfl) (by decide) (not_not_intro hc) ?_
                refine xx_aload_n C (dd_X7_copy.at 48 rfl) rfl (Nat.le_of_ble_eq_true rfl) ?_
                refine xx_getR (j := 5) (r := 36) C ck_6 (lb_ rfl) lf_RX7_44 sh_k1 rfl (lb_ rfl) rfl (dd_X7_copy.at 49 rfl) ?_
                refine xx_iconst C (dd_X7_copy.at 50 rfl) ic_2 ?_
                obtain ⟨v16, e17, hf⟩ := bdo_ hf
                refine xx_callVi C (ss_X6_refuse (pz_ e17)) (dd_X7_copy.at 51 rfl) ck_5 rfl sh_k36 kk_X6_refuse ki_X6_refuse lm_RX7_67 (lb_ rfl) rfl rfl (lb_ rfl) ?_
                exact xx_ireturn C (rt_iwp hf Q) (dd_X7_copy.at 52 rfl) rfl
              · refine xx_if_ne_t (tgt := 107) C (dd_X7_copy.at 47 rfl) (by decide) hc ?_
                refine xx_aload_n C (dd_X7_copy.at 53 rfl) rfl (Nat.le_of_ble_eq_true rfl) ?_
                refine xx_getR (j := 0) (r := 2) C ck_6 (lb_ rfl) lf_RX7_14 sh_k1 rfl (lb_ rfl) rfl (dd_X7_copy.at 54 rfl) ?_
                refine xx_getR (j := 0) (r := 3) C ck_4 (lb_ rfl) lf_RX7_79 sh_k2 rfl (lb_ rfl) rfl (dd_X7_copy.at 55 rfl) ?_
                refine xx_iload_n C (dd_X7_copy.at 56 rfl) rfl ?_
                obtain ⟨g13, hf⟩ := gd_ok hf
                refine xx_aaload (r := (4 + Int32.toNatClampNeg a1)) C (dd_X7_copy.at 57 rfl) sh_k3 (bi_ok g13) (sh_lt (sh_e3 (bi_ok g13))) rfl ?_
                refine xx_iload_n C (dd_X7_copy.at 58 rfl) rfl ?_
                refine xx_aload_n C (dd_X7_copy.at 59 rfl) rfl (Nat.le_of_ble_eq_true rfl) ?_
                refine xx_getR (j := 0) (r := 2) C ck_6 (lb_ rfl) lf_RX7_14 sh_k1 rfl (lb_ rfl) rfl (dd_X7_copy.at 60 rfl) ?_
                refine xx_getR (j := 0) (r := 3) C ck_4 (lb_ rfl) lf_RX7_79 sh_k2 rfl (lb_ rfl) rfl (dd_X7_copy.at 61 rfl) ?_
                refine xx_iload_n C (dd_X7_copy.at 62 rfl) rfl ?_
                obtain ⟨g14, hf⟩ := gd_ok hf
                refine xx_aaload (r := (4 + Int32.toNatClampNeg a3)) C (dd_X7_copy.at 63 rfl) sh_k3 (bi_ok g14) (sh_lt (sh_e3 (bi_ok g14))) rfl ?_
                refine xx_iload C (dd_X7_copy.at 64 rfl) rfl ?_
                refine xx_iload C (dd_X7_copy.at 65 rfl) rfl ?_
                obtain ⟨g15, hf⟩ := gd_ok hf
                refine xx_acopy C (dd_X7_copy.at 66 rfl) lm_RX7_96 (sh_e3 (bi_ok g13)) (sh_e3 (bi_ok g14)) (bc_1 g15) (bc_2 g15) (bc_3 g15) (bc_4 g15) (bc_5 g15) (lb_ rfl) (lb_ rfl) ?_
                refine xx_iconst C (dd_X7_copy.at 67 rfl) ic_1 ?_
                exact xx_ireturn C (rt_iwp hf Q) (dd_X7_copy.at 68 rfl) rfl
          · refine xx_if_eq_f (tgt := 69) C (dd_X7_copy.at 28 rfl) (by decide) hc ?_
            refine xx_aload_n C (dd_X7_copy.at 29 rfl) rfl (Nat.le_of_ble_eq_true rfl) ?_
            refine xx_getR (j := 5) (r := 36) C ck_6 (lb_ rfl) lf_RX7_44 sh_k1 rfl (lb_ rfl) rfl (dd_X7_copy.at 30 rfl) ?_
            refine xx_iconst C (dd_X7_copy.at 31 rfl) ic_1 ?_
            obtain ⟨v18, e19, hf⟩ := bdo_ hf
            refine xx_callVi C (ss_X6_refuse (pz_ e19)) (dd_X7_copy.at 32 rfl) ck_5 rfl sh_k36 kk_X6_refuse ki_X6_refuse lm_RX7_67 (lb_ rfl) rfl rfl (lb_ rfl) ?_
            exact xx_ireturn C (rt_iwp hf Q) (dd_X7_copy.at 33 rfl) rfl
        · refine xx_if_ne_t (tgt := 60) C (dd_X7_copy.at 23 rfl) (by decide) hc ?_
          refine xx_aload_n C (dd_X7_copy.at 29 rfl) rfl (Nat.le_of_ble_eq_true rfl) ?_
          refine xx_getR (j := 5) (r := 36) C ck_6 (lb_ rfl) lf_RX7_44 sh_k1 rfl (lb_ rfl) rfl (dd_X7_copy.at 30 rfl) ?_
          refine xx_iconst C (dd_X7_copy.at 31 rfl) ic_1 ?_
          obtain ⟨v3, e4, hf⟩ := bdo_ hf
          refine xx_callVi C (ss_X6_refuse (pz_ e4)) (dd_X7_copy.at 32 rfl) ck_5 rfl sh_k36 kk_X6_refuse ki_X6_refuse lm_RX7_67 (lb_ rfl) rfl rfl (lb_ rfl) ?_
          exact xx_ireturn C (rt_iwp hf Q) (dd_X7_copy.at 33 rfl) rfl
      · refine xx_if_ge_f (tgt := 38) C (dd_X7_copy.at 13 rfl) (by decide) hc ?_
        refine xx_aload_n C (dd_X7_copy.at 14 rfl) rfl (Nat.le_of_ble_eq_true rfl) ?_
        refine xx_getR (j := 5) (r := 36) C ck_6 (lb_ rfl) lf_RX7_44 sh_k1 rfl (lb_ rfl) rfl (dd_X7_copy.at 15 rfl) ?_
        refine xx_iconst C (dd_X7_copy.at 16 rfl) ic_5 ?_
        obtain ⟨v20, e21, hf⟩ := bdo_ hf
        refine xx_callVi C (ss_X6_refuse (pz_ e21)) (dd_X7_copy.at 17 rfl) ck_5 rfl sh_k36 kk_X6_refuse ki_X6_refuse lm_RX7_67 (lb_ rfl) rfl rfl (lb_ rfl) ?_
        exact xx_ireturn C (rt_iwp hf Q) (dd_X7_copy.at 18 rfl) rfl
theorem ss_X5r_sum_5 {Z : zz_} (C : cx_ Z mt_X5_sum 0) {r9 : Int64} {x1 : Int32} {h : hh_}  (Q : rq_ Z (some (.long r9)) h) : ∀ (n9 : Nat) (x2 : Int64) (x4 : Int32), ff_X5r_sum_5 x1 h n9 x2 x4 = some r9 → xx_ Z 5 [some (.ref 2), some (.int x1), some (.long x2), none, some (.int x4)] [] h := by
  intro n9
  induction n9 with
  | zero =>
    intro x2 x4 hf
    exact absurd hf (by rw [ff_X5r_sum_5]; exact nofun)
  | succ n9 ih =>
    intro x2 x4 hf
    rw [ff_X5r_sum_5] at hf
    refine xx_iload C (dd_X5_sum.at 4 rfl) rfl ?_
    refine xx_aload_n C (dd_X5_sum.at 5 rfl) rfl (Nat.le_of_ble_eq_true rfl) ?_
    refine xx_getR (j := 1) (r := 10) C ck_4 (lb_ rfl) lf_RX5_16 sh_k2 rfl (lb_ rfl) rfl (dd_X5_sum.at 6 rfl) ?_
    refine xx_iload_n C (dd_X5_sum.at 7 rfl) rfl ?_
    obtain ⟨g1, hf⟩ := gd_ok hf
    refine xx_iaload C (dd_X5_sum.at 8 rfl) sh_k10 (bi_ok g1) ?_
    rcases ifo_ hf with ⟨hc, hf⟩ | ⟨hc, hf⟩
    · refine xx_icmp_ge_t (tgt := 35) C (dd_X5_sum.at 9 rfl) (by decide) hc ?_
      refine xx_lload_n C (dd_X5_sum.at 22 rfl) rfl ?_
      exact xx_lreturn C (rt_lp hf Q) (dd_X5_sum.at 23 rfl) rfl
    · refine xx_icmp_ge_f (tgt := 35) C (dd_X5_sum.at 9 rfl) (by decide) hc ?_
      refine xx_lload_n C (dd_X5_sum.at 10 rfl) rfl ?_
      refine xx_aload_n C (dd_X5_sum.at 11 rfl) rfl (Nat.le_of_ble_eq_true rfl) ?_
      refine xx_getR (j := 0) (r := 3) C ck_4 (lb_ rfl) lf_RX5_11 sh_k2 rfl (lb_ rfl) rfl (dd_X5_sum.at 12 rfl) ?_
      refine xx_iload_n C (dd_X5_sum.at 13 rfl) rfl ?_
      refine xx_aaload (r := (4 + Int32.toNatClampNeg x1)) C (dd_X5_sum.at 14 rfl) sh_k3 (bi_ok g1) (sh_lt (sh_e3 (bi_ok g1))) rfl ?_
      refine xx_iload C (dd_X5_sum.at 15 rfl) rfl ?_
      obtain ⟨g2, hf⟩ := gd_ok hf
      refine xx_iaload C (dd_X5_sum.at 16 rfl) (sh_e3 (bi_ok g1)) (bi_ok g2) ?_
      refine xx_i2l C (dd_X5_sum.at 17 rfl) ?_
      refine xx_ladd C (dd_X5_sum.at 18 rfl) ?_
      refine xx_lstore_n (lv' := [_, _, _, _, _]) C (dd_X5_sum.at 19 rfl) (lb_ rfl) rfl ?_
      refine xx_iinc (v := _ + (1 : Int32)) (lv' := [_, _, _, _, _]) C (dd_X5_sum.at 20 rfl) (lb_ rfl) rfl (by rw [ic_1]) rfl ?_
      refine xx_goto (tgt := 5) C (dd_X5_sum.at 21 rfl) (by decide) ?_
      exact xx_mask [true, true, true, false, true] (ih _ _ hf)
theorem ss_X5r_sum {l : Launch} {G : gt_} {a1 : Int32} {h : hh_} {r9 : Int64}  (hf : ff_X5r_sum a1 h = some r9) : ok_ l G 0 mt_X5_sum [.ref 2, .int a1] h (some (.long r9)) h := by
  refine ok_of pn_RX5 (lb_ rfl) (fun Z _ _ C Q => ?_)
  show xx_ Z 0 [some (.ref 2), some (.int a1), none, none, none] [] h
  unfold ff_X5r_sum at hf
  refine xx_lconst (v := 0) C (dd_X5_sum.at 0 rfl) rfl ?_
  refine xx_lstore_n (lv' := [_, _, _, _, _]) C (dd_X5_sum.at 1 rfl) (lb_ rfl) rfl ?_
  refine xx_iconst C (dd_X5_sum.at 2 rfl) ic_0 ?_
  refine xx_istore (lv' := [_, _, _, _, _]) C (dd_X5_sum.at 3 rfl) (lb_ rfl) rfl ?_
  exact xx_mask [true, true, true, false, true] (ss_X5r_sum_5 C Q _ _ _ hf)
theorem ss_X7_mean {l : Launch} {G : gt_} {a1 : Int32} {h : hh_} {r9 : Int32} {h9 : hh_}  (hf : ff_X7_mean a1 h = some (r9, h9)) : ok_ l G 1 mt_X7_mean [.ref 1, .int a1] h (some (.int r9)) h9 := by
  refine ok_of pn_RX7 (lb_ rfl) (fun Z _ _ C Q => ?_)
  show xx_ Z 0 [some (.ref 1), some (.int a1), none] [] h
  unfold ff_X7_mean at hf
  refine xx_aload_n C (dd_X7_mean.at 0 rfl) rfl (Nat.le_of_ble_eq_true rfl) ?_
  refine xx_getR (j := 0) (r := 2) C ck_6 (lb_ rfl) lf_RX7_14 sh_k1 rfl (lb_ rfl) rfl (dd_X7_mean.at 1 rfl) ?_
  refine xx_iload_n C (dd_X7_mean.at 2 rfl) rfl ?_
  refine xx_callVi C (ss_X5r_allows rfl) (dd_X7_mean.at 3 rfl) ck_4 rfl sh_k2 kk_X5_allows ki_X5_allows lm_RX7_63 (lb_ rfl) rfl rfl (lb_ rfl) ?_
  rcases ifo_ hf with ⟨hc, hf⟩ | ⟨hc, hf⟩
  · refine xx_if_ne_f (tgt := 13) C (dd_X7_mean.at 4 rfl) (by decide) (not_not_intro hc) ?_
    refine xx_iconst C (dd_X7_mean.at 5 rfl) ic_m1 ?_
    exact xx_ireturn C (rt_iwp hf Q) (dd_X7_mean.at 6 rfl) rfl
  · refine xx_if_ne_t (tgt := 13) C (dd_X7_mean.at 4 rfl) (by decide) hc ?_
    refine xx_aload_n C (dd_X7_mean.at 7 rfl) rfl (Nat.le_of_ble_eq_true rfl) ?_
    refine xx_getR (j := 0) (r := 2) C ck_6 (lb_ rfl) lf_RX7_14 sh_k1 rfl (lb_ rfl) rfl (dd_X7_mean.at 8 rfl) ?_
    refine xx_iload_n C (dd_X7_mean.at 9 rfl) rfl ?_
    obtain ⟨v1, e2, hf⟩ := bdo_ hf
    refine xx_callVi C (ss_X5r_lacks e2) (dd_X7_mean.at 10 rfl) ck_4 rfl sh_k2 kk_X5_lacks ki_X5_lacks lm_RX7_86 (lb_ rfl) rfl rfl (lb_ rfl) ?_
    rcases ifo_ hf with ⟨hc, hf⟩ | ⟨hc, hf⟩
    · refine xx_if_eq_t (tgt := 33) C (dd_X7_mean.at 11 rfl) (by decide) hc ?_
      refine xx_aload_n C (dd_X7_mean.at 17 rfl) rfl (Nat.le_of_ble_eq_true rfl) ?_
      refine xx_getR (j := 0) (r := 2) C ck_6 (lb_ rfl) lf_RX7_14 sh_k1 rfl (lb_ rfl) rfl (dd_X7_mean.at 18 rfl) ?_
      refine xx_getR (j := 1) (r := 10) C ck_4 (lb_ rfl) lf_RX7_89 sh_k2 rfl (lb_ rfl) rfl (dd_X7_mean.at 19 rfl) ?_
      refine xx_iload_n C (dd_X7_mean.at 20 rfl) rfl ?_
      obtain ⟨g3, hf⟩ := gd_ok hf
      refine xx_iaload C (dd_X7_mean.at 21 rfl) sh_k10 (bi_ok g3) ?_
      refine xx_istore_n (lv' := [_, _, _]) C (dd_X7_mean.at 22 rfl) (lb_ rfl) rfl ?_
      refine xx_iload_n C (dd_X7_mean.at 23 rfl) rfl ?_
      rcases ifo_ hf with ⟨hc, hf⟩ | ⟨hc, hf⟩
      · refine xx_if_ne_f (tgt := 56) C (dd_X7_mean.at 24 rfl) (by decide) (not_not_intro hc) ?_
        refine xx_aload_n C (dd_X7_mean.at 25 rfl) rfl (Nat.le_of_ble_eq_true rfl) ?_
        refine xx_getR (j := 5) (r := 36) C ck_6 (lb_ rfl) lf_RX7_44 sh_k1 rfl (lb_ rfl) rfl (dd_X7_mean.at 26 rfl) ?_
        refine xx_iconst C (dd_X7_mean.at 27 rfl) ic_4 ?_
        obtain ⟨v7, e8, hf⟩ := bdo_ hf
        refine xx_callVi C (ss_X6_refuse (pz_ e8)) (dd_X7_mean.at 28 rfl) ck_5 rfl sh_k36 kk_X6_refuse ki_X6_refuse lm_RX7_67 (lb_ rfl) rfl rfl (lb_ rfl) ?_
        exact xx_ireturn C (rt_iwp hf Q) (dd_X7_mean.at 29 rfl) rfl
      · refine xx_if_ne_t (tgt := 56) C (dd_X7_mean.at 24 rfl) (by decide) hc ?_
        refine xx_aload_n C (dd_X7_mean.at 30 rfl) rfl (Nat.le_of_ble_eq_true rfl) ?_
        refine xx_getR (j := 5) (r := 36) C ck_6 (lb_ rfl) lf_RX7_44 sh_k1 rfl (lb_ rfl) rfl (dd_X7_mean.at 31 rfl) ?_
        refine xx_aload_n C (dd_X7_mean.at 32 rfl) rfl (Nat.le_of_ble_eq_true rfl) ?_
        refine xx_getR (j := 0) (r := 2) C ck_6 (lb_ rfl) lf_RX7_14 sh_k1 rfl (lb_ rfl) rfl (dd_X7_mean.at 33 rfl) ?_
        refine xx_iload_n C (dd_X7_mean.at 34 rfl) rfl ?_
        obtain ⟨v4, e5, hf⟩ := bdo_ hf
        refine xx_callVl C (ss_X5r_sum e5) (dd_X7_mean.at 35 rfl) ck_4 rfl sh_k2 kk_X5_sum ki_X5_sum lm_RX7_102 (lb_ rfl) rfl rfl (lb_ rfl) ?_
        refine xx_iload_n C (dd_X7_mean.at 36 rfl) rfl ?_
        refine xx_i2l C (dd_X7_mean.at 37 rfl) ?_
        obtain ⟨g6, hf⟩ := gd_ok hf
        refine xx_ldiv C (dd_X7_mean.at 38 rfl) (bm_ok g6) ?_
        refine xx_l2i C (dd_X7_mean.at 39 rfl) ?_
        refine xx_callVi C (ss_X6_tell pe_) (dd_X7_mean.at 40 rfl) ck_5 rfl sh_k36 kk_X6_tell ki_X6_tell lm_RX7_83 (lb_ rfl) rfl rfl (lb_ rfl) ?_
        exact xx_ireturn C (rt_iwp hf Q) (dd_X7_mean.at 41 rfl) rfl
    · refine xx_if_eq_f (tgt := 33) C (dd_X7_mean.at 11 rfl) (by decide) hc ?_
      refine xx_aload_n C (dd_X7_mean.at 12 rfl) rfl (Nat.le_of_ble_eq_true rfl) ?_
      refine xx_getR (j := 5) (r := 36) C ck_6 (lb_ rfl) lf_RX7_44 sh_k1 rfl (lb_ rfl) rfl (dd_X7_mean.at 13 rfl) ?_
      refine xx_iconst C (dd_X7_mean.at 14 rfl) ic_1 ?_
      obtain ⟨v9, e10, hf⟩ := bdo_ hf
      refine xx_callVi C (ss_X6_refuse (pz_ e10)) (dd_X7_mean.at 15 rfl) ck_5 rfl sh_k36 kk_X6_refuse ki_X6_refuse lm_RX7_67 (lb_ rfl) rfl rfl (lb_ rfl) ?_
      exact xx_ireturn C (rt_iwp hf Q) (dd_X7_mean.at 16 rfl) rfl
theorem ss_X5t_allows {l : Launch} {G : gt_} {a1 : Int32} {h : hh_} {r9 : Int32}  (hf : ff_X5t_allows a1 h = r9) : ok_ l G 0 mt_X5_allows [.ref 11, .int a1] h (some (.int r9)) h := by
  refine ok_of pn_RX5 (lb_ rfl) (fun Z _ _ C Q => ?_)
  show xx_ Z 0 [some (.ref 11), some (.int a1)] [] h
  unfold ff_X5t_allows at hf
  refine xx_iload_n C (dd_X5_allows.at 0 rfl) rfl ?_
  rcases ifo_ hf with ⟨hc, hf⟩ | ⟨hc, hf⟩
  · refine xx_if_lt_t (tgt := 17) C (dd_X5_allows.at 1 rfl) (by decide) hc ?_
    refine xx_iconst C (dd_X5_allows.at 9 rfl) ic_0 ?_
    exact xx_zreturn C (rt_i hf Q) (dd_X5_allows.at 10 rfl) rfl zb_0
  · refine xx_if_lt_f (tgt := 17) C (dd_X5_allows.at 1 rfl) (by decide) hc ?_
    refine xx_iload_n C (dd_X5_allows.at 2 rfl) rfl ?_
    refine xx_aload_n C (dd_X5_allows.at 3 rfl) rfl (Nat.le_of_ble_eq_true rfl) ?_
    refine xx_getR (j := 1) (r := 17) C ck_4 (lb_ rfl) lf_RX5_16 sh_k11 rfl (lb_ rfl) rfl (dd_X5_allows.at 4 rfl) ?_
    refine xx_alen (v := 4) C (dd_X5_allows.at 5 rfl) sh_k17 rfl ?_
    rcases ifo_ hf with ⟨hc, hf⟩ | ⟨hc, hf⟩
    · refine xx_icmp_ge_t (tgt := 17) C (dd_X5_allows.at 6 rfl) (by decide) hc ?_
      refine xx_iconst C (dd_X5_allows.at 9 rfl) ic_0 ?_
      exact xx_zreturn C (rt_i hf Q) (dd_X5_allows.at 10 rfl) rfl zb_0
    · refine xx_icmp_ge_f (tgt := 17) C (dd_X5_allows.at 6 rfl) (by decide) hc ?_
      refine xx_iconst C (dd_X5_allows.at 7 rfl) ic_1 ?_
      refine xx_goto (tgt := 18) C (dd_X5_allows.at 8 rfl) (by decide) ?_
      exact xx_zreturn C (rt_i hf Q) (dd_X5_allows.at 10 rfl) rfl zb_1
theorem ss_X5t_renew_10 {Z : zz_} (C : cx_ Z mt_X5_renew 0) {h9 : hh_} {x1 : Int32} {x2 : Int32} {x3 : Int32}  (Q : rq_ Z none h9) : ∀ (n9 : Nat) (x4 : Int32) (h : hh_), ff_X5t_renew_10 x1 x2 x3 n9 x4 h = some h9 → xx_ Z 10 [some (.ref 11), some (.int x1), some (.int x2), some (.int x3), some (.int x4)] [] h := by
  intro n9
  induction n9 with
  | zero =>
    intro x4 h hf
    exact absurd hf (by rw [ff_X5t_renew_10]; exact nofun)
  | succ n9 ih =>
    intro x4 h hf
    rw [ff_X5t_renew_10] at hf
    refine xx_iload C (dd_X5_renew.at 7 rfl) rfl ?_
    refine xx_iload_n C (dd_X5_renew.at 8 rfl) rfl ?_
    rcases ifo_ hf with ⟨hc, hf⟩ | ⟨hc, hf⟩
    · refine xx_icmp_ge_t (tgt := 32) C (dd_X5_renew.at 9 rfl) (by decide) hc ?_
      exact xx_return C (rt_vwp hf Q) (dd_X5_renew.at 19 rfl) rfl
    · refine xx_icmp_ge_f (tgt := 32) C (dd_X5_renew.at 9 rfl) (by decide) hc ?_
      refine xx_aload_n C (dd_X5_renew.at 10 rfl) rfl (Nat.le_of_ble_eq_true rfl) ?_
      refine xx_getR (j := 0) (r := 12) C ck_4 (lb_ rfl) lf_RX5_11 sh_k11 rfl (lb_ rfl) rfl (dd_X5_renew.at 11 rfl) ?_
      refine xx_iload_n C (dd_X5_renew.at 12 rfl) rfl ?_
      obtain ⟨g2, hf⟩ := gd_ok hf
      refine xx_aaload (r := (13 + Int32.toNatClampNeg x1)) C (dd_X5_renew.at 13 rfl) sh_k12 (bi_ok g2) (sh_lt (sh_e12 (bi_ok g2))) rfl ?_
      refine xx_iload C (dd_X5_renew.at 14 rfl) rfl ?_
      refine xx_iload_n C (dd_X5_renew.at 15 rfl) rfl ?_
      obtain ⟨g3, hf⟩ := gd_ok hf
      refine xx_iastore C (dd_X5_renew.at 16 rfl) (sh_e12 (bi_ok g2)) (bi_ok g3) ?_
      refine xx_iinc (v := _ + (1 : Int32)) (lv' := [_, _, _, _, _]) C (dd_X5_renew.at 17 rfl) (lb_ rfl) rfl (by rw [ic_1]) rfl ?_
      refine xx_goto (tgt := 10) C (dd_X5_renew.at 18 rfl) (by decide) ?_
      exact xx_mask [true, true, true, true, true] (ih _ _ hf)
theorem ss_X5t_renew {l : Launch} {G : gt_} {a1 : Int32} {a2 : Int32} {a3 : Int32} {h : hh_} {h9 : hh_}  (hf : ff_X5t_renew a1 a2 a3 h = some h9) : ok_ l G 0 mt_X5_renew [.ref 11, .int a1, .int a2, .int a3] h none h9 := by
  refine ok_of pn_RX5 (lb_ rfl) (fun Z _ _ C Q => ?_)
  show xx_ Z 0 [some (.ref 11), some (.int a1), some (.int a2), some (.int a3), none] [] h
  unfold ff_X5t_renew at hf
  refine xx_aload_n C (dd_X5_renew.at 0 rfl) rfl (Nat.le_of_ble_eq_true rfl) ?_
  refine xx_getR (j := 1) (r := 17) C ck_4 (lb_ rfl) lf_RX5_16 sh_k11 rfl (lb_ rfl) rfl (dd_X5_renew.at 1 rfl) ?_
  refine xx_iload_n C (dd_X5_renew.at 2 rfl) rfl ?_
  refine xx_iload_n C (dd_X5_renew.at 3 rfl) rfl ?_
  obtain ⟨g1, hf⟩ := gd_ok hf
  refine xx_iastore C (dd_X5_renew.at 4 rfl) sh_k17 (bi_ok g1) ?_
  refine xx_iconst C (dd_X5_renew.at 5 rfl) ic_0 ?_
  refine xx_istore (lv' := [_, _, _, _, _]) C (dd_X5_renew.at 6 rfl) (lb_ rfl) rfl ?_
  exact xx_mask [true, true, true, true, true] (ss_X5t_renew_10 C Q _ _ _ hf)
theorem ss_X7_text {l : Launch} {G : gt_} {a1 : Int32} {a2 : Int32} {h : hh_} {r9 : Int32} {h9 : hh_}  (hf : ff_X7_text a1 a2 h = some (r9, h9)) : ok_ l G 1 mt_X7_text [.ref 1, .int a1, .int a2] h (some (.int r9)) h9 := by
  refine ok_of pn_RX7 (lb_ rfl) (fun Z _ _ C Q => ?_)
  show xx_ Z 0 [some (.ref 1), some (.int a1), some (.int a2)] [] h
  unfold ff_X7_text at hf
  refine xx_aload_n C (dd_X7_text.at 0 rfl) rfl (Nat.le_of_ble_eq_true rfl) ?_
  refine xx_getR (j := 1) (r := 11) C ck_6 (lb_ rfl) lf_RX7_18 sh_k1 rfl (lb_ rfl) rfl (dd_X7_text.at 1 rfl) ?_
  refine xx_iload_n C (dd_X7_text.at 2 rfl) rfl ?_
  refine xx_callVi C (ss_X5t_allows rfl) (dd_X7_text.at 3 rfl) ck_4 rfl sh_k11 kk_X5_allows ki_X5_allows lm_RX7_63 (lb_ rfl) rfl rfl (lb_ rfl) ?_
  rcases ifo_ hf with ⟨hc, hf⟩ | ⟨hc, hf⟩
  · refine xx_if_eq_t (tgt := 17) C (dd_X7_text.at 4 rfl) (by decide) hc ?_
    refine xx_iconst C (dd_X7_text.at 8 rfl) ic_m1 ?_
    exact xx_ireturn C (rt_iwp hf Q) (dd_X7_text.at 9 rfl) rfl
  · refine xx_if_eq_f (tgt := 17) C (dd_X7_text.at 4 rfl) (by decide) hc ?_
    refine xx_iload_n C (dd_X7_text.at 5 rfl) rfl ?_
    refine xx_bipush C (dd_X7_text.at 6 rfl) bq_80 ?_
    rcases ifo_ hf with ⟨hc, hf⟩ | ⟨hc, hf⟩
    · refine xx_icmp_le_t (tgt := 19) C (dd_X7_text.at 7 rfl) (by decide) hc ?_
      refine xx_iload_n C (dd_X7_text.at 10 rfl) rfl ?_
      rcases ifo_ hf with ⟨hc, hf⟩ | ⟨hc, hf⟩
      · refine xx_if_ge_t (tgt := 32) C (dd_X7_text.at 11 rfl) (by decide) hc ?_
        refine xx_aload_n C (dd_X7_text.at 17 rfl) rfl (Nat.le_of_ble_eq_true rfl) ?_
        refine xx_getR (j := 1) (r := 11) C ck_6 (lb_ rfl) lf_RX7_18 sh_k1 rfl (lb_ rfl) rfl (dd_X7_text.at 18 rfl) ?_
        refine xx_iload_n C (dd_X7_text.at 19 rfl) rfl ?_
        refine xx_iload_n C (dd_X7_text.at 20 rfl) rfl ?_
        refine xx_bipush C (dd_X7_text.at 21 rfl) bq_32 ?_
        obtain ⟨v1, e2, hf⟩ := bdo_ hf
        refine xx_callVv C (ss_X5t_renew e2) (dd_X7_text.at 22 rfl) ck_4 rfl sh_k11 kk_X5_renew ki_X5_renew lm_RX7_71 (lb_ rfl) rfl rfl (lb_ rfl) ?_
        refine xx_iload_n C (dd_X7_text.at 23 rfl) rfl ?_
        exact xx_ireturn C (rt_iwp hf Q) (dd_X7_text.at 24 rfl) rfl
      · refine xx_if_ge_f (tgt := 32) C (dd_X7_text.at 11 rfl) (by decide) hc ?_
        refine xx_aload_n C (dd_X7_text.at 12 rfl) rfl (Nat.le_of_ble_eq_true rfl) ?_
        refine xx_getR (j := 5) (r := 36) C ck_6 (lb_ rfl) lf_RX7_44 sh_k1 rfl (lb_ rfl) rfl (dd_X7_text.at 13 rfl) ?_
        refine xx_iconst C (dd_X7_text.at 14 rfl) ic_5 ?_
        obtain ⟨v3, e4, hf⟩ := bdo_ hf
        refine xx_callVi C (ss_X6_refuse (pz_ e4)) (dd_X7_text.at 15 rfl) ck_5 rfl sh_k36 kk_X6_refuse ki_X6_refuse lm_RX7_67 (lb_ rfl) rfl rfl (lb_ rfl) ?_
        exact xx_ireturn C (rt_iwp hf Q) (dd_X7_text.at 16 rfl) rfl
    · refine xx_icmp_le_f (tgt := 19) C (dd_X7_text.at 7 rfl) (by decide) hc ?_
      refine xx_iconst C (dd_X7_text.at 8 rfl) ic_m1 ?_
      exact xx_ireturn C (rt_iwp hf Q) (dd_X7_text.at 9 rfl) rfl
theorem ss_X5t_lacks {l : Launch} {G : gt_} {a1 : Int32} {h : hh_} {r9 : Int32}  (hf : ff_X5t_lacks a1 h = some r9) : ok_ l G 0 mt_X5_lacks [.ref 11, .int a1] h (some (.int r9)) h := by
  refine ok_of pn_RX5 (lb_ rfl) (fun Z _ _ C Q => ?_)
  show xx_ Z 0 [some (.ref 11), some (.int a1)] [] h
  unfold ff_X5t_lacks at hf
  refine xx_aload_n C (dd_X5_lacks.at 0 rfl) rfl (Nat.le_of_ble_eq_true rfl) ?_
  refine xx_getR (j := 1) (r := 17) C ck_4 (lb_ rfl) lf_RX5_16 sh_k11 rfl (lb_ rfl) rfl (dd_X5_lacks.at 1 rfl) ?_
  refine xx_iload_n C (dd_X5_lacks.at 2 rfl) rfl ?_
  obtain ⟨g1, hf⟩ := gd_ok hf
  refine xx_iaload C (dd_X5_lacks.at 3 rfl) sh_k17 (bi_ok g1) ?_
  refine xx_iconst C (dd_X5_lacks.at 4 rfl) ic_m1 ?_
  rcases ifo_ hf with ⟨hc, hf⟩ | ⟨hc, hf⟩
  · refine xx_icmp_ne_f (tgt := 14) C (dd_X5_lacks.at 5 rfl) (by decide) (not_not_intro hc) ?_
    refine xx_iconst C (dd_X5_lacks.at 6 rfl) ic_1 ?_
    refine xx_goto (tgt := 15) C (dd_X5_lacks.at 7 rfl) (by decide) ?_
    exact xx_zreturn C (rt_ip hf Q) (dd_X5_lacks.at 9 rfl) rfl zb_1
  · refine xx_icmp_ne_t (tgt := 14) C (dd_X5_lacks.at 5 rfl) (by decide) hc ?_
    refine xx_iconst C (dd_X5_lacks.at 8 rfl) ic_0 ?_
    exact xx_zreturn C (rt_ip hf Q) (dd_X5_lacks.at 9 rfl) rfl zb_0
theorem ss_X5t_findingAt {l : Launch} {G : gt_} {a1 : Int32} {a2 : Int32} {h : hh_} {r9 : Int32}  (hf : ff_X5t_findingAt a1 a2 h = some r9) : ok_ l G 1 mt_X5_findingAt [.ref 11, .int a1, .int a2] h (some (.int r9)) h := by
  refine ok_of pn_RX5 (lb_ rfl) (fun Z _ _ C Q => ?_)
  show xx_ Z 0 [some (.ref 11), some (.int a1), some (.int a2)] [] h
  unfold ff_X5t_findingAt at hf
  refine xx_aload_n C (dd_X5_findingAt.at 0 rfl) rfl (Nat.le_of_ble_eq_true rfl) ?_
  refine xx_iload_n C (dd_X5_findingAt.at 1 rfl) rfl ?_
  obtain ⟨v1, e2, hf⟩ := bdo_ hf
  refine xx_callVi C (ss_X5t_lacks e2) (dd_X5_findingAt.at 2 rfl) ck_4 rfl sh_k11 kk_X5_lacks ki_X5_lacks lm_RX5_20 (lb_ rfl) rfl rfl (lb_ rfl) ?_
  rcases ifo_ hf with ⟨hc, hf⟩ | ⟨hc, hf⟩
  · refine xx_if_eq_t (tgt := 10) C (dd_X5_findingAt.at 3 rfl) (by decide) hc ?_
    refine xx_iload_n C (dd_X5_findingAt.at 6 rfl) rfl ?_
    rcases ifo_ hf with ⟨hc, hf⟩ | ⟨hc, hf⟩
    · refine xx_if_lt_t (tgt := 24) C (dd_X5_findingAt.at 7 rfl) (by decide) hc ?_
      refine xx_iconst C (dd_X5_findingAt.at 14 rfl) ic_2 ?_
      refine xx_goto (tgt := 29) C (dd_X5_findingAt.at 15 rfl) (by decide) ?_
      exact xx_ireturn C (rt_ip hf Q) (dd_X5_findingAt.at 17 rfl) rfl
    · refine xx_if_lt_f (tgt := 24) C (dd_X5_findingAt.at 7 rfl) (by decide) hc ?_
      refine xx_iload_n C (dd_X5_findingAt.at 8 rfl) rfl ?_
      refine xx_aload_n C (dd_X5_findingAt.at 9 rfl) rfl (Nat.le_of_ble_eq_true rfl) ?_
      refine xx_getR (j := 1) (r := 17) C ck_4 (lb_ rfl) lf_RX5_16 sh_k11 rfl (lb_ rfl) rfl (dd_X5_findingAt.at 10 rfl) ?_
      refine xx_iload_n C (dd_X5_findingAt.at 11 rfl) rfl ?_
      obtain ⟨g3, hf⟩ := gd_ok hf
      refine xx_iaload C (dd_X5_findingAt.at 12 rfl) sh_k17 (bi_ok g3) ?_
      rcases ifo_ hf with ⟨hc, hf⟩ | ⟨hc, hf⟩
      · refine xx_icmp_lt_t (tgt := 28) C (dd_X5_findingAt.at 13 rfl) (by decide) hc ?_
        refine xx_iconst C (dd_X5_findingAt.at 16 rfl) ic_0 ?_
        exact xx_ireturn C (rt_ip hf Q) (dd_X5_findingAt.at 17 rfl) rfl
      · refine xx_icmp_lt_f (tgt := 28) C (dd_X5_findingAt.at 13 rfl) (by decide) hc ?_
        refine xx_iconst C (dd_X5_findingAt.at 14 rfl) ic_2 ?_
        refine xx_goto (tgt := 29) C (dd_X5_findingAt.at 15 rfl) (by decide) ?_
        exact xx_ireturn C (rt_ip hf Q) (dd_X5_findingAt.at 17 rfl) rfl
  · refine xx_if_eq_f (tgt := 10) C (dd_X5_findingAt.at 3 rfl) (by decide) hc ?_
    refine xx_iconst C (dd_X5_findingAt.at 4 rfl) ic_1 ?_
    exact xx_ireturn C (rt_ip hf Q) (dd_X5_findingAt.at 5 rfl) rfl
theorem ss_X7_put {l : Launch} {G : gt_} {a1 : Int32} {a2 : Int32} {a3 : Int32} {h : hh_} {r9 : Int32} {h9 : hh_}  (hf : ff_X7_put a1 a2 a3 h = some (r9, h9)) : ok_ l G 2 mt_X7_put [.ref 1, .int a1, .int a2, .int a3] h (some (.int r9)) h9 := by
  refine ok_of pn_RX7 (lb_ rfl) (fun Z _ _ C Q => ?_)
  show xx_ Z 0 [some (.ref 1), some (.int a1), some (.int a2), some (.int a3), none, none] [] h
  unfold ff_X7_put at hf
  refine xx_aload_n C (dd_X7_put.at 0 rfl) rfl (Nat.le_of_ble_eq_true rfl) ?_
  refine xx_getR (j := 1) (r := 11) C ck_6 (lb_ rfl) lf_RX7_18 sh_k1 rfl (lb_ rfl) rfl (dd_X7_put.at 1 rfl) ?_
  refine xx_iload_n C (dd_X7_put.at 2 rfl) rfl ?_
  refine xx_callVi C (ss_X5t_allows rfl) (dd_X7_put.at 3 rfl) ck_4 rfl sh_k11 kk_X5_allows ki_X5_allows lm_RX7_63 (lb_ rfl) rfl rfl (lb_ rfl) ?_
  rcases ifo_ hf with ⟨hc, hf⟩ | ⟨hc, hf⟩
  · refine xx_if_ne_f (tgt := 13) C (dd_X7_put.at 4 rfl) (by decide) (not_not_intro hc) ?_
    refine xx_iconst C (dd_X7_put.at 5 rfl) ic_m1 ?_
    exact xx_ireturn C (rt_iwp hf Q) (dd_X7_put.at 6 rfl) rfl
  · refine xx_if_ne_t (tgt := 13) C (dd_X7_put.at 4 rfl) (by decide) hc ?_
    refine xx_aload_n C (dd_X7_put.at 7 rfl) rfl (Nat.le_of_ble_eq_true rfl) ?_
    refine xx_getR (j := 1) (r := 11) C ck_6 (lb_ rfl) lf_RX7_18 sh_k1 rfl (lb_ rfl) rfl (dd_X7_put.at 8 rfl) ?_
    refine xx_iload_n C (dd_X7_put.at 9 rfl) rfl ?_
    refine xx_iload_n C (dd_X7_put.at 10 rfl) rfl ?_
    obtain ⟨v1, e2, hf⟩ := bdo_ hf
    refine xx_callVi C (ss_X5t_findingAt e2) (dd_X7_put.at 11 rfl) ck_4 rfl sh_k11 kk_X5_findingAt ki_X5_findingAt lm_RX7_75 (lb_ rfl) rfl rfl (lb_ rfl) ?_
    refine xx_istore (lv' := [_, _, _, _, _, _]) C (dd_X7_put.at 12 rfl) (lb_ rfl) rfl ?_
    refine xx_iload C (dd_X7_put.at 13 rfl) rfl ?_
    rcases ifo_ hf with ⟨hc, hf⟩ | ⟨hc, hf⟩
    · refine xx_if_eq_t (tgt := 39) C (dd_X7_put.at 14 rfl) (by decide) hc ?_
      refine xx_aload_n C (dd_X7_put.at 20 rfl) rfl (Nat.le_of_ble_eq_true rfl) ?_
      refine xx_getR (j := 1) (r := 11) C ck_6 (lb_ rfl) lf_RX7_18 sh_k1 rfl (lb_ rfl) rfl (dd_X7_put.at 21 rfl) ?_
      refine xx_getR (j := 0) (r := 12) C ck_4 (lb_ rfl) lf_RX7_79 sh_k11 rfl (lb_ rfl) rfl (dd_X7_put.at 22 rfl) ?_
      refine xx_iload_n C (dd_X7_put.at 23 rfl) rfl ?_
      obtain ⟨g3, hf⟩ := gd_ok hf
      refine xx_aaload (r := (13 + Int32.toNatClampNeg a1)) C (dd_X7_put.at 24 rfl) sh_k12 (bi_ok g3) (sh_lt (sh_e12 (bi_ok g3))) rfl ?_
      refine xx_iload_n C (dd_X7_put.at 25 rfl) rfl ?_
      obtain ⟨g4, hf⟩ := gd_ok hf
      refine xx_iaload C (dd_X7_put.at 26 rfl) (sh_e12 (bi_ok g3)) (bi_ok g4) ?_
      refine xx_istore (lv' := [_, _, _, _, _, _]) C (dd_X7_put.at 27 rfl) (lb_ rfl) rfl ?_
      refine xx_aload_n C (dd_X7_put.at 28 rfl) rfl (Nat.le_of_ble_eq_true rfl) ?_
      refine xx_getR (j := 1) (r := 11) C ck_6 (lb_ rfl) lf_RX7_18 sh_k1 rfl (lb_ rfl) rfl (dd_X7_put.at 29 rfl) ?_
      refine xx_getR (j := 0) (r := 12) C ck_4 (lb_ rfl) lf_RX7_79 sh_k11 rfl (lb_ rfl) rfl (dd_X7_put.at 30 rfl) ?_
      refine xx_iload_n C (dd_X7_put.at 31 rfl) rfl ?_
      refine xx_aaload (r := (13 + Int32.toNatClampNeg a1)) C (dd_X7_put.at 32 rfl) sh_k12 (bi_ok g3) (sh_lt (sh_e12 (bi_ok g3))) rfl ?_
      refine xx_iload_n C (dd_X7_put.at 33 rfl) rfl ?_
      refine xx_iload_n C (dd_X7_put.at 34 rfl) rfl ?_
      refine xx_i2b C (dd_X7_put.at 35 rfl) ?_
      refine xx_iastore C (dd_X7_put.at 36 rfl) (sh_e12 (bi_ok g3)) (bi_ok g4) ?_
      refine xx_iload C (dd_X7_put.at 37 rfl) rfl ?_
      refine xx_sipush C (dd_X7_put.at 38 rfl) sq_1000 ?_
      refine xx_iadd C (dd_X7_put.at 39 rfl) ?_
      exact xx_ireturn C (rt_iwp hf Q) (dd_X7_put.at 40 rfl) rfl
    · refine xx_if_eq_f (tgt := 39) C (dd_X7_put.at 14 rfl) (by decide) hc ?_
      refine xx_aload_n C (dd_X7_put.at 15 rfl) rfl (Nat.le_of_ble_eq_true rfl) ?_
      refine xx_getR (j := 5) (r := 36) C ck_6 (lb_ rfl) lf_RX7_44 sh_k1 rfl (lb_ rfl) rfl (dd_X7_put.at 16 rfl) ?_
      refine xx_iload C (dd_X7_put.at 17 rfl) rfl ?_
      obtain ⟨v5, e6, hf⟩ := bdo_ hf
      refine xx_callVi C (ss_X6_refuse (pz_ e6)) (dd_X7_put.at 18 rfl) ck_5 rfl sh_k36 kk_X6_refuse ki_X6_refuse lm_RX7_67 (lb_ rfl) rfl rfl (lb_ rfl) ?_
      exact xx_ireturn C (rt_iwp hf Q) (dd_X7_put.at 19 rfl) rfl
theorem ss_X4_kindBy_2 {Z : zz_} (C : cx_ Z mt_X4_kindBy 0) {r9 : Int32} {x0 : Int32} {h : hh_}  (Q : rq_ Z (some (.int r9)) h) : ∀ (n9 : Nat) (x1 : Int32), ff_X4_kindBy_2 x0 h n9 x1 = some r9 → xx_ Z 2 [some (.int x0), some (.int x1)] [] h := by
  intro n9
  induction n9 with
  | zero =>
    intro x1 hf
    exact absurd hf (by rw [ff_X4_kindBy_2]; exact nofun)
  | succ n9 ih =>
    intro x1 hf
    rw [ff_X4_kindBy_2] at hf
    refine xx_iload_n C (dd_X4_kindBy.at 2 rfl) rfl ?_
    refine xx_bipush C (dd_X4_kindBy.at 3 rfl) bq_6 ?_
    rcases ifo_ hf with ⟨hc, hf⟩ | ⟨hc, hf⟩
    · refine xx_icmp_ge_t (tgt := 25) C (dd_X4_kindBy.at 4 rfl) (by decide) hc ?_
      refine xx_bipush C (dd_X4_kindBy.at 14 rfl) bq_m9 ?_
      exact xx_ireturn C (rt_ip hf Q) (dd_X4_kindBy.at 15 rfl) rfl
    · refine xx_icmp_ge_f (tgt := 25) C (dd_X4_kindBy.at 4 rfl) (by decide) hc ?_
      refine xx_getS (k := 3) C (lb_ rfl) lf_RX4_52 (dd_X4_kindBy.at 5 rfl) ?_
      refine xx_iload_n C (dd_X4_kindBy.at 6 rfl) rfl ?_
      obtain ⟨g1, hf⟩ := gd_ok hf
      refine xx_saload C (dd_X4_kindBy.at 7 rfl) (lb_ rfl) (bi_ok g1) ?_
      refine xx_iload_n C (dd_X4_kindBy.at 8 rfl) rfl ?_
      rcases ifo_ hf with ⟨hc, hf⟩ | ⟨hc, hf⟩
      · refine xx_icmp_ne_f (tgt := 19) C (dd_X4_kindBy.at 9 rfl) (by decide) (not_not_intro hc) ?_
        refine xx_iload_n C (dd_X4_kindBy.at 10 rfl) rfl ?_
        exact xx_ireturn C (rt_ip hf Q) (dd_X4_kindBy.at 11 rfl) rfl
      · refine xx_icmp_ne_t (tgt := 19) C (dd_X4_kindBy.at 9 rfl) (by decide) hc ?_
        refine xx_iinc (v := _ + (1 : Int32)) (lv' := [_, _]) C (dd_X4_kindBy.at 12 rfl) (lb_ rfl) rfl (by rw [ic_1]) rfl ?_
        refine xx_goto (tgt := 2) C (dd_X4_kindBy.at 13 rfl) (by decide) ?_
        exact xx_mask [true, true] (ih _ hf)
theorem ss_X4_kindBy {l : Launch} {G : gt_} {a0 : Int32} {h : hh_} {r9 : Int32}  (hf : ff_X4_kindBy a0 h = some r9) : ok_ l G 0 mt_X4_kindBy [.int a0] h (some (.int r9)) h := by
  refine ok_of pn_RX4 (lb_ rfl) (fun Z _ _ C Q => ?_)
  show xx_ Z 0 [some (.int a0), none] [] h
  unfold ff_X4_kindBy at hf
  refine xx_iconst C (dd_X4_kindBy.at 0 rfl) ic_0 ?_
  refine xx_istore_n (lv' := [_, _]) C (dd_X4_kindBy.at 1 rfl) (lb_ rfl) rfl ?_
  exact xx_mask [true, true] (ss_X4_kindBy_2 C Q _ _ hf)
