theorem ss_X2_isOf {l : Launch} {G : gt_} {o : Nat} {a1 : Int32} {a2 : Int32} {h : hh_} {r9 : Int32} (ho : isO_ o) (hf : ff_X2_isOf o a1 a2 h = some r9) : ok_ l G 0 mt_X2_isOf [.ref o, .int a1, .int a2] h (some (.int r9)) h := by
  refine ok_of pn_RX2 (lb_ rfl) (fun Z _ _ C Q => ?_)
  show xx_ Z 0 [some (.ref o), some (.int a1), some (.int a2)] [] h
  unfold ff_X2_isOf at hf
  refine xx_aload_n C (dd_X2_isOf.at 0 rfl) rfl (isO_pos ho) ?_
  refine xx_getR (j := 2) (r := (o + 13)) C ck_1 (lb_ rfl) lf_RX2_19 (sh_o ho) rfl (rc_o2 ho) (rf_o2 ho) (dd_X2_isOf.at 1 rfl) ?_
  refine xx_iload_n C (dd_X2_isOf.at 2 rfl) rfl ?_
  obtain ⟨g1, hf⟩ := gd_ok hf
  refine xx_aaload (r := (o + 14 + Int32.toNatClampNeg a1)) C (dd_X2_isOf.at 3 rfl) (sh_o13 ho) (bi_ok g1) (sh_lt (sh_oe13 ho (bi_ok g1))) rfl ?_
  refine xx_iconst C (dd_X2_isOf.at 4 rfl) ic_0 ?_
  refine xx_iaload C (dd_X2_isOf.at 5 rfl) (sh_oe13 ho (bi_ok g1)) (bi_ok (i := (0 : Int32)) (n := 3) rfl) ?_
  refine xx_iload_n C (dd_X2_isOf.at 6 rfl) rfl ?_
  rcases ifo_ hf with ⟨hc, hf⟩ | ⟨hc, hf⟩
  · refine xx_icmp_eq_t (tgt := 28) C (dd_X2_isOf.at 7 rfl) (by decide) hc ?_
    refine xx_iconst C (dd_X2_isOf.at 18 rfl) ic_1 ?_
    refine xx_goto (tgt := 33) C (dd_X2_isOf.at 19 rfl) (by decide) ?_
    exact xx_zreturn C (rt_ip hf Q) (dd_X2_isOf.at 21 rfl) rfl zb_1
  · refine xx_icmp_eq_f (tgt := 28) C (dd_X2_isOf.at 7 rfl) (by decide) hc ?_
    refine xx_getS (k := 5) C (lb_ rfl) lf_RX2_40 (dd_X2_isOf.at 8 rfl) ?_
    refine xx_aload_n C (dd_X2_isOf.at 9 rfl) rfl (isO_pos ho) ?_
    refine xx_getR (j := 2) (r := (o + 13)) C ck_1 (lb_ rfl) lf_RX2_19 (sh_o ho) rfl (rc_o2 ho) (rf_o2 ho) (dd_X2_isOf.at 10 rfl) ?_
    refine xx_iload_n C (dd_X2_isOf.at 11 rfl) rfl ?_
    refine xx_aaload (r := (o + 14 + Int32.toNatClampNeg a1)) C (dd_X2_isOf.at 12 rfl) (sh_o13 ho) (bi_ok g1) (sh_lt (sh_oe13 ho (bi_ok g1))) rfl ?_
    refine xx_iconst C (dd_X2_isOf.at 13 rfl) ic_0 ?_
    refine xx_iaload C (dd_X2_isOf.at 14 rfl) (sh_oe13 ho (bi_ok g1)) (bi_ok (i := (0 : Int32)) (n := 3) rfl) ?_
    obtain ⟨g2, hf⟩ := gd_ok hf
    refine xx_saload C (dd_X2_isOf.at 15 rfl) (lb_ rfl) (bi_ok g2) ?_
    refine xx_iload_n C (dd_X2_isOf.at 16 rfl) rfl ?_
    rcases ifo_ hf with ⟨hc, hf⟩ | ⟨hc, hf⟩
    · refine xx_icmp_ne_f (tgt := 32) C (dd_X2_isOf.at 17 rfl) (by decide) (not_not_intro hc) ?_
      refine xx_iconst C (dd_X2_isOf.at 18 rfl) ic_1 ?_
      refine xx_goto (tgt := 33) C (dd_X2_isOf.at 19 rfl) (by decide) ?_
      exact xx_zreturn C (rt_ip hf Q) (dd_X2_isOf.at 21 rfl) rfl zb_1
    · refine xx_icmp_ne_t (tgt := 32) C (dd_X2_isOf.at 17 rfl) (by decide) hc ?_
      refine xx_iconst C (dd_X2_isOf.at 20 rfl) ic_0 ?_
      exact xx_zreturn C (rt_ip hf Q) (dd_X2_isOf.at 21 rfl) rfl zb_0
theorem ss_X2_felt {l : Launch} {G : gt_} {o : Nat} {a1 : Int32} {a2 : Int32} {a3 : Int32} {h : hh_} {r9 : Int32} (ho : isO_ o) (hf : ff_X2_felt o a1 a2 a3 h = some r9) : ok_ l G 0 mt_X2_felt [.ref o, .int a1, .int a2, .int a3] h (some (.int r9)) h := by
  refine ok_of pn_RX2 (lb_ rfl) (fun Z _ _ C Q => ?_)
  show xx_ Z 0 [some (.ref o), some (.int a1), some (.int a2), some (.int a3), none] [] h
  unfold ff_X2_felt at hf
  refine xx_aload_n C (dd_X2_felt.at 0 rfl) rfl (isO_pos ho) ?_
  refine xx_getR (j := 1) (r := (o + 7)) C ck_1 (lb_ rfl) lf_RX2_16 (sh_o ho) rfl (rc_o1 ho) (rf_o1 ho) (dd_X2_felt.at 1 rfl) ?_
  refine xx_iload_n C (dd_X2_felt.at 2 rfl) rfl ?_
  obtain ⟨g1, hf⟩ := gd_ok hf
  refine xx_aaload (r := (o + 8 + Int32.toNatClampNeg a1)) C (dd_X2_felt.at 3 rfl) (sh_o7 ho) (bi_ok g1) (sh_lt (sh_oe7 ho (bi_ok g1))) rfl ?_
  refine xx_iload_n C (dd_X2_felt.at 4 rfl) rfl ?_
  obtain ⟨g2, hf⟩ := gd_ok hf
  refine xx_iaload C (dd_X2_felt.at 5 rfl) (sh_oe7 ho (bi_ok g1)) (bi_ok g2) ?_
  refine xx_iload_n C (dd_X2_felt.at 6 rfl) rfl ?_
  refine xx_iadd C (dd_X2_felt.at 7 rfl) ?_
  refine xx_istore (lv' := [_, _, _, _, _]) C (dd_X2_felt.at 8 rfl) (lb_ rfl) rfl ?_
  refine xx_aload_n C (dd_X2_felt.at 9 rfl) rfl (isO_pos ho) ?_
  refine xx_getR (j := 1) (r := (o + 7)) C ck_1 (lb_ rfl) lf_RX2_16 (sh_o ho) rfl (rc_o1 ho) (rf_o1 ho) (dd_X2_felt.at 10 rfl) ?_
  refine xx_iload_n C (dd_X2_felt.at 11 rfl) rfl ?_
  refine xx_aaload (r := (o + 8 + Int32.toNatClampNeg a1)) C (dd_X2_felt.at 12 rfl) (sh_o7 ho) (bi_ok g1) (sh_lt (sh_oe7 ho (bi_ok g1))) rfl ?_
  refine xx_iconst C (dd_X2_felt.at 13 rfl) ic_4 ?_
  refine xx_iaload C (dd_X2_felt.at 14 rfl) (sh_oe7 ho (bi_ok g1)) (bi_ok (i := (4 : Int32)) (n := 5) rfl) ?_
  refine xx_iconst C (dd_X2_felt.at 15 rfl) ic_1 ?_
  rcases ifo_ hf with ⟨hc, hf⟩ | ⟨hc, hf⟩
  · refine xx_icmp_le_t (tgt := 36) C (dd_X2_felt.at 16 rfl) (by decide) hc ?_
    refine xx_iload C (dd_X2_felt.at 23 rfl) rfl ?_
    exact xx_ireturn C (rt_ip hf Q) (dd_X2_felt.at 24 rfl) rfl
  · refine xx_icmp_le_f (tgt := 36) C (dd_X2_felt.at 16 rfl) (by decide) hc ?_
    refine xx_iload C (dd_X2_felt.at 17 rfl) rfl ?_
    rcases ifo_ hf with ⟨hc, hf⟩ | ⟨hc, hf⟩
    · refine xx_if_le_t (tgt := 36) C (dd_X2_felt.at 18 rfl) (by decide) hc ?_
      refine xx_iload C (dd_X2_felt.at 23 rfl) rfl ?_
      exact xx_ireturn C (rt_ip hf Q) (dd_X2_felt.at 24 rfl) rfl
    · refine xx_if_le_f (tgt := 36) C (dd_X2_felt.at 18 rfl) (by decide) hc ?_
      refine xx_iload C (dd_X2_felt.at 19 rfl) rfl ?_
      refine xx_iconst C (dd_X2_felt.at 20 rfl) ic_1 ?_
      refine xx_isub C (dd_X2_felt.at 21 rfl) ?_
      refine xx_goto (tgt := 38) C (dd_X2_felt.at 22 rfl) (by decide) ?_
      exact xx_ireturn C (rt_ip hf Q) (dd_X2_felt.at 24 rfl) rfl
theorem ss_X2_middle_20 {Z : zz_} (C : cx_ Z mt_X2_middle 0) {r9 : Int32} {x0 : Int32} {y0 : Int32} {y1 : Int32} {h : hh_}  (Q : rq_ Z (some (.int r9)) h) (hf : ff_X2_middle_20 x0 y0 y1 h = some r9) : xx_ Z 20 [some (.int x0), none, none, none] [.int y1, .int y0] h := by
  unfold ff_X2_middle_20 at hf
  refine xx_iadd C (dd_X2_middle.at 12 rfl) ?_
  refine xx_istore_n (lv' := [_, _, _, _]) C (dd_X2_middle.at 13 rfl) (lb_ rfl) rfl ?_
  refine xx_iload_n C (dd_X2_middle.at 14 rfl) rfl ?_
  rcases ifo_ hf with ⟨hc, hf⟩ | ⟨hc, hf⟩
  · refine xx_if_ge_t (tgt := 28) C (dd_X2_middle.at 15 rfl) (by decide) hc ?_
    refine xx_iload_n C (dd_X2_middle.at 18 rfl) rfl ?_
    refine xx_getS (k := 8) C (lb_ rfl) lf_RX2_74 (dd_X2_middle.at 19 rfl) ?_
    refine xx_iload_n C (dd_X2_middle.at 20 rfl) rfl ?_
    obtain ⟨g2, hf⟩ := gd_ok hf
    refine xx_saload C (dd_X2_middle.at 21 rfl) (lb_ rfl) (bi_ok g2) ?_
    rcases ifo_ hf with ⟨hc, hf⟩ | ⟨hc, hf⟩
    · refine xx_icmp_le_t (tgt := 45) C (dd_X2_middle.at 22 rfl) (by decide) hc ?_
      refine xx_iload_n C (dd_X2_middle.at 27 rfl) rfl ?_
      exact xx_ireturn C (rt_ip hf Q) (dd_X2_middle.at 28 rfl) rfl
    · refine xx_icmp_le_f (tgt := 45) C (dd_X2_middle.at 22 rfl) (by decide) hc ?_
      refine xx_getS (k := 8) C (lb_ rfl) lf_RX2_74 (dd_X2_middle.at 23 rfl) ?_
      refine xx_iload_n C (dd_X2_middle.at 24 rfl) rfl ?_
      refine xx_saload C (dd_X2_middle.at 25 rfl) (lb_ rfl) (bi_ok g2) ?_
      refine xx_goto (tgt := 46) C (dd_X2_middle.at 26 rfl) (by decide) ?_
      exact xx_ireturn C (rt_ip hf Q) (dd_X2_middle.at 28 rfl) rfl
  · refine xx_if_ge_f (tgt := 28) C (dd_X2_middle.at 15 rfl) (by decide) hc ?_
    refine xx_iconst C (dd_X2_middle.at 16 rfl) ic_0 ?_
    exact xx_ireturn C (rt_ip hf Q) (dd_X2_middle.at 17 rfl) rfl
theorem ss_X2_middle {l : Launch} {G : gt_} {a0 : Int32} {a1 : Int32} {a2 : Int32} {h : hh_} {r9 : Int32}  (hf : ff_X2_middle a0 a1 a2 h = some r9) : ok_ l G 0 mt_X2_middle [.int a0, .int a1, .int a2] h (some (.int r9)) h := by
  refine ok_of pn_RX2 (lb_ rfl) (fun Z _ _ C Q => ?_)
  show xx_ Z 0 [some (.int a0), some (.int a1), some (.int a2), none] [] h
  unfold ff_X2_middle at hf
  refine xx_iload_n C (dd_X2_middle.at 0 rfl) rfl ?_
  refine xx_getS (k := 6) C (lb_ rfl) lf_RX2_68 (dd_X2_middle.at 1 rfl) ?_
  refine xx_iload_n C (dd_X2_middle.at 2 rfl) rfl ?_
  obtain ⟨g1, hf⟩ := gd_ok hf
  refine xx_saload C (dd_X2_middle.at 3 rfl) (lb_ rfl) (bi_ok g1) ?_
  refine xx_iadd C (dd_X2_middle.at 4 rfl) ?_
  refine xx_iload_n C (dd_X2_middle.at 5 rfl) rfl ?_
  rcases ifo_ hf with ⟨hc, hf⟩ | ⟨hc, hf⟩
  · refine xx_if_eq_t (tgt := 19) C (dd_X2_middle.at 6 rfl) (by decide) hc ?_
    refine xx_iconst C (dd_X2_middle.at 11 rfl) ic_0 ?_
    exact xx_mask [true, false, false, false] (ss_X2_middle_20 C Q hf)
  · refine xx_if_eq_f (tgt := 19) C (dd_X2_middle.at 6 rfl) (by decide) hc ?_
    refine xx_getS (k := 7) C (lb_ rfl) lf_RX2_71 (dd_X2_middle.at 7 rfl) ?_
    refine xx_iload_n C (dd_X2_middle.at 8 rfl) rfl ?_
    refine xx_saload C (dd_X2_middle.at 9 rfl) (lb_ rfl) (bi_ok g1) ?_
    refine xx_goto (tgt := 20) C (dd_X2_middle.at 10 rfl) (by decide) ?_
    exact xx_mask [true, false, false, false] (ss_X2_middle_20 C Q hf)
theorem ss_X2_middleBy_25 {Z : zz_} (C : cx_ Z mt_X2_middleBy 1) {r9 : Int32} {x0 : Nat} {x2 : Int32} {x3 : Int32} {x4 : Int32} {y0 : Int32} {y1 : Int32} {h : hh_}  (Q : rq_ Z (some (.int r9)) h) (ho0 : isO_ x0) (hf : ff_X2_middleBy_25 x0 x2 x3 x4 y0 y1 h = some r9) : xx_ Z 25 [some (.ref x0), none, some (.int x2), some (.int x3), some (.int x4)] [.int y1, .int y0] h := by
  unfold ff_X2_middleBy_25 at hf
  refine xx_aload_n C (dd_X2_middleBy.at 17 rfl) rfl (isO_pos ho0) ?_
  refine xx_iload_n C (dd_X2_middleBy.at 18 rfl) rfl ?_
  refine xx_iload_n C (dd_X2_middleBy.at 19 rfl) rfl ?_
  refine xx_iload C (dd_X2_middleBy.at 20 rfl) rfl ?_
  obtain ⟨v2, e3, hf⟩ := bdo_ hf
  refine xx_callVi C (ss_X2_felt ho0 e3) (dd_X2_middleBy.at 21 rfl) ck_1 rfl (sh_o ho0) kk_X2_felt ki_X2_felt lm_RX2_77 (lb_ rfl) rfl rfl (lb_ rfl) ?_
  obtain ⟨v4, e5, hf⟩ := bdo_ hf
  refine xx_callSi C (ss_X2_middle e5) (dd_X2_middleBy.at 22 rfl) kk_X2_middle ks_X2_middle lm_RX2_81 (lb_ rfl) rfl rfl (lb_ rfl) ?_
  exact xx_ireturn C (rt_ip hf Q) (dd_X2_middleBy.at 23 rfl) rfl
theorem ss_X2_middleBy {l : Launch} {G : gt_} {o : Nat} {a1 : Int32} {a2 : Int32} {a3 : Int32} {a4 : Int32} {h : hh_} {r9 : Int32} (ho : isO_ o) (hf : ff_X2_middleBy o a1 a2 a3 a4 h = some r9) : ok_ l G 1 mt_X2_middleBy [.ref o, .int a1, .int a2, .int a3, .int a4] h (some (.int r9)) h := by
  refine ok_of pn_RX2 (lb_ rfl) (fun Z _ _ C Q => ?_)
  show xx_ Z 0 [some (.ref o), some (.int a1), some (.int a2), some (.int a3), some (.int a4)] [] h
  unfold ff_X2_middleBy at hf
  refine xx_aload_n C (dd_X2_middleBy.at 0 rfl) rfl (isO_pos ho) ?_
  refine xx_getR (j := 2) (r := (o + 13)) C ck_1 (lb_ rfl) lf_RX2_19 (sh_o ho) rfl (rc_o2 ho) (rf_o2 ho) (dd_X2_middleBy.at 1 rfl) ?_
  refine xx_iload_n C (dd_X2_middleBy.at 2 rfl) rfl ?_
  obtain ⟨g1, hf⟩ := gd_ok hf
  refine xx_aaload (r := (o + 14 + Int32.toNatClampNeg a1)) C (dd_X2_middleBy.at 3 rfl) (sh_o13 ho) (bi_ok g1) (sh_lt (sh_oe13 ho (bi_ok g1))) rfl ?_
  refine xx_iconst C (dd_X2_middleBy.at 4 rfl) ic_0 ?_
  refine xx_iaload C (dd_X2_middleBy.at 5 rfl) (sh_oe13 ho (bi_ok g1)) (bi_ok (i := (0 : Int32)) (n := 3) rfl) ?_
  refine xx_aload_n C (dd_X2_middleBy.at 6 rfl) rfl (isO_pos ho) ?_
  refine xx_getR (j := 2) (r := (o + 13)) C ck_1 (lb_ rfl) lf_RX2_19 (sh_o ho) rfl (rc_o2 ho) (rf_o2 ho) (dd_X2_middleBy.at 7 rfl) ?_
  refine xx_iload_n C (dd_X2_middleBy.at 8 rfl) rfl ?_
  refine xx_aaload (r := (o + 14 + Int32.toNatClampNeg a1)) C (dd_X2_middleBy.at 9 rfl) (sh_o13 ho) (bi_ok g1) (sh_lt (sh_oe13 ho (bi_ok g1))) rfl ?_
  refine xx_iconst C (dd_X2_middleBy.at 10 rfl) ic_2 ?_
  refine xx_iaload C (dd_X2_middleBy.at 11 rfl) (sh_oe13 ho (bi_ok g1)) (bi_ok (i := (2 : Int32)) (n := 3) rfl) ?_
  refine xx_iload_n C (dd_X2_middleBy.at 12 rfl) rfl ?_
  rcases ifo_ hf with ⟨hc, hf⟩ | ⟨hc, hf⟩
  · refine xx_icmp_ne_f (tgt := 24) C (dd_X2_middleBy.at 13 rfl) (by decide) (not_not_intro hc) ?_
    refine xx_iconst C (dd_X2_middleBy.at 14 rfl) ic_1 ?_
    refine xx_goto (tgt := 25) C (dd_X2_middleBy.at 15 rfl) (by decide) ?_
    exact xx_mask [true, false, true, true, true] (ss_X2_middleBy_25 C Q ho hf)
  · refine xx_icmp_ne_t (tgt := 24) C (dd_X2_middleBy.at 13 rfl) (by decide) hc ?_
    refine xx_iconst C (dd_X2_middleBy.at 16 rfl) ic_0 ?_
    exact xx_mask [true, false, true, true, true] (ss_X2_middleBy_25 C Q ho hf)
theorem ss_X1_dull_17 {Z : zz_} (C : cx_ Z mt_X1_dull 2) {r9 : Int32} {x0 : Nat} {x1 : Int32} {x3 : Int32} {h : hh_} {K17_50 : Int32 → Option (Int32)} (Q : rq_ Z (some (.int r9)) h) (ho0 : isO_ x0) (hK17_50 : ∀ (z2 : Int32), K17_50 z2 = some r9 → xx_ Z 50 [some (.ref x0), some (.int x1), some (.int z2), some (.int x3), none] [] h) : ∀ (n9 : Nat) (x2 : Int32) (x4 : Int32), ff_X1_dull_17 x0 x1 x3 h K17_50 n9 x2 x4 = some r9 → xx_ Z 17 [some (.ref x0), some (.int x1), some (.int x2), some (.int x3), some (.int x4)] [] h := by
  intro n9
  induction n9 with
  | zero =>
    intro x2 x4 hf
    exact absurd hf (by rw [ff_X1_dull_17]; exact nofun)
  | succ n9 ih =>
    intro x2 x4 hf
    rw [ff_X1_dull_17] at hf
    refine xx_iload C (dd_X1_dull.at 12 rfl) rfl ?_
    refine xx_iconst C (dd_X1_dull.at 13 rfl) ic_4 ?_
    rcases ifo_ hf with ⟨hc, hf⟩ | ⟨hc, hf⟩
    · refine xx_icmp_ge_t (tgt := 50) C (dd_X1_dull.at 14 rfl) (by decide) hc ?_
      exact xx_mask [true, true, true, true, false] (hK17_50 _ hf)
    · refine xx_icmp_ge_f (tgt := 50) C (dd_X1_dull.at 14 rfl) (by decide) hc ?_
      refine xx_iload_n C (dd_X1_dull.at 15 rfl) rfl ?_
      refine xx_aload_n C (dd_X1_dull.at 16 rfl) rfl (isO_pos ho0) ?_
      refine xx_iload_n C (dd_X1_dull.at 17 rfl) rfl ?_
      refine xx_iload_n C (dd_X1_dull.at 18 rfl) rfl ?_
      refine xx_iload C (dd_X1_dull.at 19 rfl) rfl ?_
      refine xx_iconst C (dd_X1_dull.at 20 rfl) ic_0 ?_
      obtain ⟨v1, e2, hf⟩ := bdo_ hf
      refine xx_callVi C (ss_X2_middleBy ho0 e2) (dd_X1_dull.at 21 rfl) ck_1 rfl (sh_o ho0) kk_X2_middleBy ki_X2_middleBy lm_RX1_42 (lb_ rfl) rfl rfl (lb_ rfl) ?_
      refine xx_iconst C (dd_X1_dull.at 22 rfl) ic_3 ?_
      rcases ifo_ hf with ⟨hc, hf⟩ | ⟨hc, hf⟩
      · refine xx_icmp_ne_f (tgt := 41) C (dd_X1_dull.at 23 rfl) (by decide) (not_not_intro hc) ?_
        refine xx_iconst C (dd_X1_dull.at 24 rfl) ic_1 ?_
        refine xx_goto (tgt := 42) C (dd_X1_dull.at 25 rfl) (by decide) ?_
        refine xx_iadd C (dd_X1_dull.at 27 rfl) ?_
        refine xx_istore_n (lv' := [_, _, _, _, _]) C (dd_X1_dull.at 28 rfl) (lb_ rfl) rfl ?_
        refine xx_iinc (v := _ + (1 : Int32)) (lv' := [_, _, _, _, _]) C (dd_X1_dull.at 29 rfl) (lb_ rfl) rfl (by rw [ic_1]) rfl ?_
        refine xx_goto (tgt := 17) C (dd_X1_dull.at 30 rfl) (by decide) ?_
        exact xx_mask [true, true, true, true, true] (ih _ _ hf)
      · refine xx_icmp_ne_t (tgt := 41) C (dd_X1_dull.at 23 rfl) (by decide) hc ?_
        refine xx_iconst C (dd_X1_dull.at 26 rfl) ic_0 ?_
        refine xx_iadd C (dd_X1_dull.at 27 rfl) ?_
        refine xx_istore_n (lv' := [_, _, _, _, _]) C (dd_X1_dull.at 28 rfl) (lb_ rfl) rfl ?_
        refine xx_iinc (v := _ + (1 : Int32)) (lv' := [_, _, _, _, _]) C (dd_X1_dull.at 29 rfl) (lb_ rfl) rfl (by rw [ic_1]) rfl ?_
        refine xx_goto (tgt := 17) C (dd_X1_dull.at 30 rfl) (by decide) ?_
        exact xx_mask [true, true, true, true, true] (ih _ _ hf)
theorem ss_X1_dull_4 {Z : zz_} (C : cx_ Z mt_X1_dull 2) {r9 : Int32} {x0 : Nat} {x1 : Int32} {h : hh_}  (Q : rq_ Z (some (.int r9)) h) (ho0 : isO_ x0) : ∀ (n9 : Nat) (x2 : Int32) (x3 : Int32), ff_X1_dull_4 x0 x1 h n9 x2 x3 = some r9 → xx_ Z 4 [some (.ref x0), some (.int x1), some (.int x2), some (.int x3), none] [] h := by
  intro n9
  induction n9 with
  | zero =>
    intro x2 x3 hf
    exact absurd hf (by rw [ff_X1_dull_4]; exact nofun)
  | succ n9 ih =>
    intro x2 x3 hf
    rw [ff_X1_dull_4] at hf
    refine xx_iload_n C (dd_X1_dull.at 4 rfl) rfl ?_
    refine xx_aload_n C (dd_X1_dull.at 5 rfl) rfl (isO_pos ho0) ?_
    refine xx_getR (j := 4) (r := (x0 + 23)) C ck_1 (lb_ rfl) lf_RX1_9 (sh_o ho0) rfl (rc_o4 ho0) (rf_o4 ho0) (dd_X1_dull.at 6 rfl) ?_
    refine xx_iconst C (dd_X1_dull.at 7 rfl) ic_0 ?_
    refine xx_iaload C (dd_X1_dull.at 8 rfl) (sh_o23 ho0) (bi_ok (i := (0 : Int32)) (n := 3) rfl) ?_
    rcases ifo_ hf with ⟨hc, hf⟩ | ⟨hc, hf⟩
    · refine xx_icmp_ge_t (tgt := 56) C (dd_X1_dull.at 9 rfl) (by decide) hc ?_
      refine xx_iload_n C (dd_X1_dull.at 33 rfl) rfl ?_
      exact xx_ireturn C (rt_ip hf Q) (dd_X1_dull.at 34 rfl) rfl
    · refine xx_icmp_ge_f (tgt := 56) C (dd_X1_dull.at 9 rfl) (by decide) hc ?_
      refine xx_iconst C (dd_X1_dull.at 10 rfl) ic_0 ?_
      refine xx_istore (lv' := [_, _, _, _, _]) C (dd_X1_dull.at 11 rfl) (lb_ rfl) rfl ?_
      refine xx_mask [true, true, true, true, true] (ss_X1_dull_17 C Q ho0 (fun u3 hf => ?_) _ _ _ hf)
      refine xx_iinc (v := _ + (1 : Int32)) (lv' := [_, _, _, _, _]) C (dd_X1_dull.at 31 rfl) (lb_ rfl) rfl (by rw [ic_1]) rfl ?_
      refine xx_goto (tgt := 4) C (dd_X1_dull.at 32 rfl) (by decide) ?_
      exact xx_mask [true, true, true, true, false] (ih _ _ hf)
theorem ss_X1_dull {l : Launch} {G : gt_} {a0 : Nat} {a1 : Int32} {h : hh_} {r9 : Int32} (ho0 : isO_ a0) (hf : ff_X1_dull a0 a1 h = some r9) : ok_ l G 2 mt_X1_dull [.ref a0, .int a1] h (some (.int r9)) h := by
  refine ok_of pn_RX1 (lb_ rfl) (fun Z _ _ C Q => ?_)
  show xx_ Z 0 [some (.ref a0), some (.int a1), none, none, none] [] h
  unfold ff_X1_dull at hf
  refine xx_iconst C (dd_X1_dull.at 0 rfl) ic_0 ?_
  refine xx_istore_n (lv' := [_, _, _, _, _]) C (dd_X1_dull.at 1 rfl) (lb_ rfl) rfl ?_
  refine xx_iconst C (dd_X1_dull.at 2 rfl) ic_0 ?_
  refine xx_istore_n (lv' := [_, _, _, _, _]) C (dd_X1_dull.at 3 rfl) (lb_ rfl) rfl ?_
  exact xx_mask [true, true, true, true, false] (ss_X1_dull_4 C Q ho0 _ _ _ hf)
theorem ss_X2_least {l : Launch} {G : gt_} {o : Nat} {a1 : Int32} {a2 : Int32} {a3 : Int32} {a4 : Int32} {h : hh_} {r9 : Int32} (ho : isO_ o) (hf : ff_X2_least o a1 a2 a3 a4 h = some r9) : ok_ l G 2 mt_X2_least [.ref o, .int a1, .int a2, .int a3, .int a4] h (some (.int r9)) h := by
  refine ok_of pn_RX2 (lb_ rfl) (fun Z _ _ C Q => ?_)
  show xx_ Z 0 [some (.ref o), some (.int a1), some (.int a2), some (.int a3), some (.int a4)] [] h
  unfold ff_X2_least at hf
  refine xx_iconst C (dd_X2_least.at 0 rfl) ic_0 ?_
  refine xx_aload_n C (dd_X2_least.at 1 rfl) rfl (isO_pos ho) ?_
  refine xx_iload_n C (dd_X2_least.at 2 rfl) rfl ?_
  refine xx_iload_n C (dd_X2_least.at 3 rfl) rfl ?_
  refine xx_iload_n C (dd_X2_least.at 4 rfl) rfl ?_
  refine xx_iload C (dd_X2_least.at 5 rfl) rfl ?_
  obtain ⟨v1, e2, hf⟩ := bdo_ hf
  refine xx_callVi C (ss_X2_middleBy ho e2) (dd_X2_least.at 6 rfl) ck_1 rfl (sh_o ho) kk_X2_middleBy ki_X2_middleBy lm_RX2_85 (lb_ rfl) rfl rfl (lb_ rfl) ?_
  refine xx_aload_n C (dd_X2_least.at 7 rfl) rfl (isO_pos ho) ?_
  refine xx_getR (j := 2) (r := (o + 13)) C ck_1 (lb_ rfl) lf_RX2_19 (sh_o ho) rfl (rc_o2 ho) (rf_o2 ho) (dd_X2_least.at 8 rfl) ?_
  refine xx_iload_n C (dd_X2_least.at 9 rfl) rfl ?_
  obtain ⟨g3, hf⟩ := gd_ok hf
  refine xx_aaload (r := (o + 14 + Int32.toNatClampNeg a1)) C (dd_X2_least.at 10 rfl) (sh_o13 ho) (bi_ok g3) (sh_lt (sh_oe13 ho (bi_ok g3))) rfl ?_
  refine xx_iconst C (dd_X2_least.at 11 rfl) ic_1 ?_
  refine xx_iaload C (dd_X2_least.at 12 rfl) (sh_oe13 ho (bi_ok g3)) (bi_ok (i := (1 : Int32)) (n := 3) rfl) ?_
  refine xx_isub C (dd_X2_least.at 13 rfl) ?_
  refine xx_max C (dd_X2_least.at 14 rfl) lm_RX2_89 (lb_ rfl) (lb_ rfl) ?_
  exact xx_ireturn C (rt_ip hf Q) (dd_X2_least.at 15 rfl) rfl
theorem ss_X1_clerk_17 {Z : zz_} (C : cx_ Z mt_X1_clerk 3) {r9 : Int32} {x0 : Nat} {x1 : Int32} {x3 : Int32} {h : hh_} {K17_50 : Int32 → Option (Int32)} (Q : rq_ Z (some (.int r9)) h) (ho0 : isO_ x0) (hK17_50 : ∀ (z2 : Int32), K17_50 z2 = some r9 → xx_ Z 50 [some (.ref x0), some (.int x1), some (.int z2), some (.int x3), none] [] h) : ∀ (n9 : Nat) (x2 : Int32) (x4 : Int32), ff_X1_clerk_17 x0 x1 x3 h K17_50 n9 x2 x4 = some r9 → xx_ Z 17 [some (.ref x0), some (.int x1), some (.int x2), some (.int x3), some (.int x4)] [] h := by
  intro n9
  induction n9 with
  | zero =>
    intro x2 x4 hf
    exact absurd hf (by rw [ff_X1_clerk_17]; exact nofun)
  | succ n9 ih =>
    intro x2 x4 hf
    rw [ff_X1_clerk_17] at hf
    refine xx_iload C (dd_X1_clerk.at 12 rfl) rfl ?_
    refine xx_iconst C (dd_X1_clerk.at 13 rfl) ic_4 ?_
    rcases ifo_ hf with ⟨hc, hf⟩ | ⟨hc, hf⟩
    · refine xx_icmp_ge_t (tgt := 50) C (dd_X1_clerk.at 14 rfl) (by decide) hc ?_
      exact xx_mask [true, true, true, true, false] (hK17_50 _ hf)
    · refine xx_icmp_ge_f (tgt := 50) C (dd_X1_clerk.at 14 rfl) (by decide) hc ?_
      refine xx_iload_n C (dd_X1_clerk.at 15 rfl) rfl ?_
      refine xx_aload_n C (dd_X1_clerk.at 16 rfl) rfl (isO_pos ho0) ?_
      refine xx_iload_n C (dd_X1_clerk.at 17 rfl) rfl ?_
      refine xx_iload_n C (dd_X1_clerk.at 18 rfl) rfl ?_
      refine xx_iload C (dd_X1_clerk.at 19 rfl) rfl ?_
      refine xx_iconst C (dd_X1_clerk.at 20 rfl) ic_0 ?_
      obtain ⟨v1, e2, hf⟩ := bdo_ hf
      refine xx_callVi C (ss_X2_least ho0 e2) (dd_X1_clerk.at 21 rfl) ck_1 rfl (sh_o ho0) kk_X2_least ki_X2_least lm_RX1_39 (lb_ rfl) rfl rfl (lb_ rfl) ?_
      refine xx_aload_n C (dd_X1_clerk.at 22 rfl) rfl (isO_pos ho0) ?_
      refine xx_iload_n C (dd_X1_clerk.at 23 rfl) rfl ?_
      refine xx_iload C (dd_X1_clerk.at 24 rfl) rfl ?_
      refine xx_iconst C (dd_X1_clerk.at 25 rfl) ic_0 ?_
      obtain ⟨v3, e4, hf⟩ := bdo_ hf
      refine xx_callVi C (ss_X2_felt ho0 e4) (dd_X1_clerk.at 26 rfl) ck_1 rfl (sh_o ho0) kk_X2_felt ki_X2_felt lm_RX1_15 (lb_ rfl) rfl rfl (lb_ rfl) ?_
      refine xx_isub C (dd_X1_clerk.at 27 rfl) ?_
      refine xx_iadd C (dd_X1_clerk.at 28 rfl) ?_
      refine xx_istore_n (lv' := [_, _, _, _, _]) C (dd_X1_clerk.at 29 rfl) (lb_ rfl) rfl ?_
      refine xx_iinc (v := _ + (1 : Int32)) (lv' := [_, _, _, _, _]) C (dd_X1_clerk.at 30 rfl) (lb_ rfl) rfl (by rw [ic_1]) rfl ?_
      refine xx_goto (tgt := 17) C (dd_X1_clerk.at 31 rfl) (by decide) ?_
      exact xx_mask [true, true, true, true, true] (ih _ _ hf)
theorem ss_X1_clerk_4 {Z : zz_} (C : cx_ Z mt_X1_clerk 3) {r9 : Int32} {x0 : Nat} {x1 : Int32} {h : hh_}  (Q : rq_ Z (some (.int r9)) h) (ho0 : isO_ x0) : ∀ (n9 : Nat) (x2 : Int32) (x3 : Int32), ff_X1_clerk_4 x0 x1 h n9 x2 x3 = some r9 → xx_ Z 4 [some (.ref x0), some (.int x1), some (.int x2), some (.int x3), none] [] h := by
  intro n9
  induction n9 with
  | zero =>
    intro x2 x3 hf
    exact absurd hf (by rw [ff_X1_clerk_4]; exact nofun)
  | succ n9 ih =>
    intro x2 x3 hf
    rw [ff_X1_clerk_4] at hf
    refine xx_iload_n C (dd_X1_clerk.at 4 rfl) rfl ?_
    refine xx_aload_n C (dd_X1_clerk.at 5 rfl) rfl (isO_pos ho0) ?_
    refine xx_getR (j := 4) (r := (x0 + 23)) C ck_1 (lb_ rfl) lf_RX1_9 (sh_o ho0) rfl (rc_o4 ho0) (rf_o4 ho0) (dd_X1_clerk.at 6 rfl) ?_
    refine xx_iconst C (dd_X1_clerk.at 7 rfl) ic_0 ?_
    refine xx_iaload C (dd_X1_clerk.at 8 rfl) (sh_o23 ho0) (bi_ok (i := (0 : Int32)) (n := 3) rfl) ?_
    rcases ifo_ hf with ⟨hc, hf⟩ | ⟨hc, hf⟩
    · refine xx_icmp_ge_t (tgt := 56) C (dd_X1_clerk.at 9 rfl) (by decide) hc ?_
      refine xx_iload_n C (dd_X1_clerk.at 34 rfl) rfl ?_
      exact xx_ireturn C (rt_ip hf Q) (dd_X1_clerk.at 35 rfl) rfl
    · refine xx_icmp_ge_f (tgt := 56) C (dd_X1_clerk.at 9 rfl) (by decide) hc ?_
      refine xx_iconst C (dd_X1_clerk.at 10 rfl) ic_0 ?_
      refine xx_istore (lv' := [_, _, _, _, _]) C (dd_X1_clerk.at 11 rfl) (lb_ rfl) rfl ?_
      refine xx_mask [true, true, true, true, true] (ss_X1_clerk_17 C Q ho0 (fun u5 hf => ?_) _ _ _ hf)
      refine xx_iinc (v := _ + (1 : Int32)) (lv' := [_, _, _, _, _]) C (dd_X1_clerk.at 32 rfl) (lb_ rfl) rfl (by rw [ic_1]) rfl ?_
      refine xx_goto (tgt := 4) C (dd_X1_clerk.at 33 rfl) (by decide) ?_
      exact xx_mask [true, true, true, true, false] (ih _ _ hf)
theorem ss_X1_clerk {l : Launch} {G : gt_} {a0 : Nat} {a1 : Int32} {h : hh_} {r9 : Int32} (ho0 : isO_ a0) (hf : ff_X1_clerk a0 a1 h = some r9) : ok_ l G 3 mt_X1_clerk [.ref a0, .int a1] h (some (.int r9)) h := by
  refine ok_of pn_RX1 (lb_ rfl) (fun Z _ _ C Q => ?_)
  show xx_ Z 0 [some (.ref a0), some (.int a1), none, none, none] [] h
  unfold ff_X1_clerk at hf
  refine xx_iconst C (dd_X1_clerk.at 0 rfl) ic_0 ?_
  refine xx_istore_n (lv' := [_, _, _, _, _]) C (dd_X1_clerk.at 1 rfl) (lb_ rfl) rfl ?_
  refine xx_iconst C (dd_X1_clerk.at 2 rfl) ic_0 ?_
  refine xx_istore_n (lv' := [_, _, _, _, _]) C (dd_X1_clerk.at 3 rfl) (lb_ rfl) rfl ?_
  exact xx_mask [true, true, true, true, false] (ss_X1_clerk_4 C Q ho0 _ _ _ hf)
theorem ss_X1_hasItsWish_12 {Z : zz_} (C : cx_ Z mt_X1_hasItsWish 3) {r9 : Int32} {x0 : Nat} {x1 : Int32} {x2 : Int32} {x3 : Int32} {h : hh_}  (Q : rq_ Z (some (.int r9)) h) (ho0 : isO_ x0) : ∀ (n9 : Nat) (x4 : Int32), ff_X1_hasItsWish_12 x0 x1 x2 x3 h n9 x4 = some r9 → xx_ Z 12 [some (.ref x0), some (.int x1), some (.int x2), some (.int x3), some (.int x4)] [] h := by
  intro n9
  induction n9 with
  | zero =>
    intro x4 hf
    exact absurd hf (by rw [ff_X1_hasItsWish_12]; exact nofun)
  | succ n9 ih =>
    intro x4 hf
    rw [ff_X1_hasItsWish_12] at hf
    refine xx_iload C (dd_X1_hasItsWish.at 9 rfl) rfl ?_
    refine xx_iconst C (dd_X1_hasItsWish.at 10 rfl) ic_4 ?_
    rcases ifo_ hf with ⟨hc, hf⟩ | ⟨hc, hf⟩
    · refine xx_icmp_ge_t (tgt := 52) C (dd_X1_hasItsWish.at 11 rfl) (by decide) hc ?_
      refine xx_iconst C (dd_X1_hasItsWish.at 32 rfl) ic_1 ?_
      exact xx_zreturn C (rt_ip hf Q) (dd_X1_hasItsWish.at 33 rfl) rfl zb_1
    · refine xx_icmp_ge_f (tgt := 52) C (dd_X1_hasItsWish.at 11 rfl) (by decide) hc ?_
      refine xx_iload C (dd_X1_hasItsWish.at 12 rfl) rfl ?_
      refine xx_iload_n C (dd_X1_hasItsWish.at 13 rfl) rfl ?_
      rcases ifo_ hf with ⟨hc, hf⟩ | ⟨hc, hf⟩
      · refine xx_icmp_eq_t (tgt := 46) C (dd_X1_hasItsWish.at 14 rfl) (by decide) hc ?_
        refine xx_iinc (v := _ + (1 : Int32)) (lv' := [_, _, _, _, _]) C (dd_X1_hasItsWish.at 30 rfl) (lb_ rfl) rfl (by rw [ic_1]) rfl ?_
        refine xx_goto (tgt := 12) C (dd_X1_hasItsWish.at 31 rfl) (by decide) ?_
        exact xx_mask [true, true, true, true, true] (ih _ hf)
      · refine xx_icmp_eq_f (tgt := 46) C (dd_X1_hasItsWish.at 14 rfl) (by decide) hc ?_
        refine xx_aload_n C (dd_X1_hasItsWish.at 15 rfl) rfl (isO_pos ho0) ?_
        refine xx_iload_n C (dd_X1_hasItsWish.at 16 rfl) rfl ?_
        refine xx_iload_n C (dd_X1_hasItsWish.at 17 rfl) rfl ?_
        refine xx_iload C (dd_X1_hasItsWish.at 18 rfl) rfl ?_
        refine xx_iconst C (dd_X1_hasItsWish.at 19 rfl) ic_0 ?_
        obtain ⟨v2, e3, hf⟩ := bdo_ hf
        refine xx_callVi C (ss_X2_least ho0 e3) (dd_X1_hasItsWish.at 20 rfl) ck_1 rfl (sh_o ho0) kk_X2_least ki_X2_least lm_RX1_39 (lb_ rfl) rfl rfl (lb_ rfl) ?_
        refine xx_aload_n C (dd_X1_hasItsWish.at 21 rfl) rfl (isO_pos ho0) ?_
        refine xx_iload_n C (dd_X1_hasItsWish.at 22 rfl) rfl ?_
        refine xx_iload_n C (dd_X1_hasItsWish.at 23 rfl) rfl ?_
        refine xx_iload_n C (dd_X1_hasItsWish.at 24 rfl) rfl ?_
        refine xx_iconst C (dd_X1_hasItsWish.at 25 rfl) ic_0 ?_
        obtain ⟨v4, e5, hf⟩ := bdo_ hf
        refine xx_callVi C (ss_X2_least ho0 e5) (dd_X1_hasItsWish.at 26 rfl) ck_1 rfl (sh_o ho0) kk_X2_least ki_X2_least lm_RX1_39 (lb_ rfl) rfl rfl (lb_ rfl) ?_
        rcases ifo_ hf with ⟨hc, hf⟩ | ⟨hc, hf⟩
        · refine xx_icmp_lt_t (tgt := 46) C (dd_X1_hasItsWish.at 27 rfl) (by decide) hc ?_
          refine xx_iinc (v := _ + (1 : Int32)) (lv' := [_, _, _, _, _]) C (dd_X1_hasItsWish.at 30 rfl) (lb_ rfl) rfl (by rw [ic_1]) rfl ?_
          refine xx_goto (tgt := 12) C (dd_X1_hasItsWish.at 31 rfl) (by decide) ?_
          exact xx_mask [true, true, true, true, true] (ih _ hf)
        · refine xx_icmp_lt_f (tgt := 46) C (dd_X1_hasItsWish.at 27 rfl) (by decide) hc ?_
          refine xx_iconst C (dd_X1_hasItsWish.at 28 rfl) ic_0 ?_
          exact xx_zreturn C (rt_ip hf Q) (dd_X1_hasItsWish.at 29 rfl) rfl zb_0
theorem ss_X1_hasItsWish {l : Launch} {G : gt_} {a0 : Nat} {a1 : Int32} {a2 : Int32} {h : hh_} {r9 : Int32} (ho0 : isO_ a0) (hf : ff_X1_hasItsWish a0 a1 a2 h = some r9) : ok_ l G 3 mt_X1_hasItsWish [.ref a0, .int a1, .int a2] h (some (.int r9)) h := by
  refine ok_of pn_RX1 (lb_ rfl) (fun Z _ _ C Q => ?_)
  show xx_ Z 0 [some (.ref a0), some (.int a1), some (.int a2), none, none] [] h
  unfold ff_X1_hasItsWish at hf
  refine xx_aload_n C (dd_X1_hasItsWish.at 0 rfl) rfl (isO_pos ho0) ?_
  refine xx_getR (j := 2) (r := (a0 + 13)) C ck_1 (lb_ rfl) lf_RX1_35 (sh_o ho0) rfl (rc_o2 ho0) (rf_o2 ho0) (dd_X1_hasItsWish.at 1 rfl) ?_
  refine xx_iload_n C (dd_X1_hasItsWish.at 2 rfl) rfl ?_
  obtain ⟨g1, hf⟩ := gd_ok hf
  refine xx_aaload (r := (a0 + 14 + Int32.toNatClampNeg a1)) C (dd_X1_hasItsWish.at 3 rfl) (sh_o13 ho0) (bi_ok g1) (sh_lt (sh_oe13 ho0 (bi_ok g1))) rfl ?_
  refine xx_iconst C (dd_X1_hasItsWish.at 4 rfl) ic_2 ?_
  refine xx_iaload C (dd_X1_hasItsWish.at 5 rfl) (sh_oe13 ho0 (bi_ok g1)) (bi_ok (i := (2 : Int32)) (n := 3) rfl) ?_
  refine xx_istore_n (lv' := [_, _, _, _, _]) C (dd_X1_hasItsWish.at 6 rfl) (lb_ rfl) rfl ?_
  refine xx_iconst C (dd_X1_hasItsWish.at 7 rfl) ic_0 ?_
  refine xx_istore (lv' := [_, _, _, _, _]) C (dd_X1_hasItsWish.at 8 rfl) (lb_ rfl) rfl ?_
  exact xx_mask [true, true, true, true, true] (ss_X1_hasItsWish_12 C Q ho0 _ _ hf)
theorem ss_X1_wishing_4 {Z : zz_} (C : cx_ Z mt_X1_wishing 4) {r9 : Int32} {x0 : Nat} {x1 : Int32} {h : hh_}  (Q : rq_ Z (some (.int r9)) h) (ho0 : isO_ x0) : ∀ (n9 : Nat) (x2 : Int32) (x3 : Int32), ff_X1_wishing_4 x0 x1 h n9 x2 x3 = some r9 → xx_ Z 4 [some (.ref x0), some (.int x1), some (.int x2), some (.int x3)] [] h := by
  intro n9
  induction n9 with
  | zero =>
    intro x2 x3 hf
    exact absurd hf (by rw [ff_X1_wishing_4]; exact nofun)
  | succ n9 ih =>
    intro x2 x3 hf
    rw [ff_X1_wishing_4] at hf
    refine xx_iload_n C (dd_X1_wishing.at 4 rfl) rfl ?_
    refine xx_aload_n C (dd_X1_wishing.at 5 rfl) rfl (isO_pos ho0) ?_
    refine xx_getR (j := 4) (r := (x0 + 23)) C ck_1 (lb_ rfl) lf_RX1_9 (sh_o ho0) rfl (rc_o4 ho0) (rf_o4 ho0) (dd_X1_wishing.at 6 rfl) ?_
    refine xx_iconst C (dd_X1_wishing.at 7 rfl) ic_0 ?_
    refine xx_iaload C (dd_X1_wishing.at 8 rfl) (sh_o23 ho0) (bi_ok (i := (0 : Int32)) (n := 3) rfl) ?_
    rcases ifo_ hf with ⟨hc, hf⟩ | ⟨hc, hf⟩
    · refine xx_icmp_ge_t (tgt := 37) C (dd_X1_wishing.at 9 rfl) (by decide) hc ?_
      refine xx_iload_n C (dd_X1_wishing.at 23 rfl) rfl ?_
      exact xx_ireturn C (rt_ip hf Q) (dd_X1_wishing.at 24 rfl) rfl
    · refine xx_icmp_ge_f (tgt := 37) C (dd_X1_wishing.at 9 rfl) (by decide) hc ?_
      refine xx_iload_n C (dd_X1_wishing.at 10 rfl) rfl ?_
      refine xx_aload_n C (dd_X1_wishing.at 11 rfl) rfl (isO_pos ho0) ?_
      refine xx_iload_n C (dd_X1_wishing.at 12 rfl) rfl ?_
      refine xx_iload_n C (dd_X1_wishing.at 13 rfl) rfl ?_
      obtain ⟨v1, e2, hf⟩ := bdo_ hf
      refine xx_callSi C (ss_X1_hasItsWish ho0 e2) (dd_X1_wishing.at 14 rfl) kk_X1_hasItsWish ks_X1_hasItsWish lm_RX1_29 (lb_ rfl) rfl rfl (lb_ rfl) ?_
      rcases ifo_ hf with ⟨hc, hf⟩ | ⟨hc, hf⟩
      · refine xx_if_eq_t (tgt := 28) C (dd_X1_wishing.at 15 rfl) (by decide) hc ?_
        refine xx_iconst C (dd_X1_wishing.at 18 rfl) ic_0 ?_
        refine xx_iadd C (dd_X1_wishing.at 19 rfl) ?_
        refine xx_istore_n (lv' := [_, _, _, _]) C (dd_X1_wishing.at 20 rfl) (lb_ rfl) rfl ?_
        refine xx_iinc (v := _ + (1 : Int32)) (lv' := [_, _, _, _]) C (dd_X1_wishing.at 21 rfl) (lb_ rfl) rfl (by rw [ic_1]) rfl ?_
        refine xx_goto (tgt := 4) C (dd_X1_wishing.at 22 rfl) (by decide) ?_
        exact xx_mask [true, true, true, true] (ih _ _ hf)
      · refine xx_if_eq_f (tgt := 28) C (dd_X1_wishing.at 15 rfl) (by decide) hc ?_
        refine xx_iconst C (dd_X1_wishing.at 16 rfl) ic_1 ?_
        refine xx_goto (tgt := 29) C (dd_X1_wishing.at 17 rfl) (by decide) ?_
        refine xx_iadd C (dd_X1_wishing.at 19 rfl) ?_
        refine xx_istore_n (lv' := [_, _, _, _]) C (dd_X1_wishing.at 20 rfl) (lb_ rfl) rfl ?_
        refine xx_iinc (v := _ + (1 : Int32)) (lv' := [_, _, _, _]) C (dd_X1_wishing.at 21 rfl) (lb_ rfl) rfl (by rw [ic_1]) rfl ?_
        refine xx_goto (tgt := 4) C (dd_X1_wishing.at 22 rfl) (by decide) ?_
        exact xx_mask [true, true, true, true] (ih _ _ hf)
theorem ss_X1_wishing {l : Launch} {G : gt_} {a0 : Nat} {a1 : Int32} {h : hh_} {r9 : Int32} (ho0 : isO_ a0) (hf : ff_X1_wishing a0 a1 h = some r9) : ok_ l G 4 mt_X1_wishing [.ref a0, .int a1] h (some (.int r9)) h := by
  refine ok_of pn_RX1 (lb_ rfl) (fun Z _ _ C Q => ?_)
  show xx_ Z 0 [some (.ref a0), some (.int a1), none, none] [] h
  unfold ff_X1_wishing at hf
  refine xx_iconst C (dd_X1_wishing.at 0 rfl) ic_0 ?_
  refine xx_istore_n (lv' := [_, _, _, _]) C (dd_X1_wishing.at 1 rfl) (lb_ rfl) rfl ?_
  refine xx_iconst C (dd_X1_wishing.at 2 rfl) ic_0 ?_
  refine xx_istore_n (lv' := [_, _, _, _]) C (dd_X1_wishing.at 3 rfl) (lb_ rfl) rfl ?_
  exact xx_mask [true, true, true, true] (ss_X1_wishing_4 C Q ho0 _ _ _ hf)
theorem ss_X2_most {l : Launch} {G : gt_} {o : Nat} {a1 : Int32} {a2 : Int32} {a3 : Int32} {a4 : Int32} {h : hh_} {r9 : Int32} (ho : isO_ o) (hf : ff_X2_most o a1 a2 a3 a4 h = some r9) : ok_ l G 2 mt_X2_most [.ref o, .int a1, .int a2, .int a3, .int a4] h (some (.int r9)) h := by
  refine ok_of pn_RX2 (lb_ rfl) (fun Z _ _ C Q => ?_)
  show xx_ Z 0 [some (.ref o), some (.int a1), some (.int a2), some (.int a3), some (.int a4)] [] h
  unfold ff_X2_most at hf
  refine xx_aload_n C (dd_X2_most.at 0 rfl) rfl (isO_pos ho) ?_
  refine xx_iload_n C (dd_X2_most.at 1 rfl) rfl ?_
  refine xx_iload_n C (dd_X2_most.at 2 rfl) rfl ?_
  refine xx_iload_n C (dd_X2_most.at 3 rfl) rfl ?_
  refine xx_iload C (dd_X2_most.at 4 rfl) rfl ?_
  obtain ⟨v1, e2, hf⟩ := bdo_ hf
  refine xx_callVi C (ss_X2_middleBy ho e2) (dd_X2_most.at 5 rfl) ck_1 rfl (sh_o ho) kk_X2_middleBy ki_X2_middleBy lm_RX2_85 (lb_ rfl) rfl rfl (lb_ rfl) ?_
  refine xx_aload_n C (dd_X2_most.at 6 rfl) rfl (isO_pos ho) ?_
  refine xx_getR (j := 2) (r := (o + 13)) C ck_1 (lb_ rfl) lf_RX2_19 (sh_o ho) rfl (rc_o2 ho) (rf_o2 ho) (dd_X2_most.at 7 rfl) ?_
  refine xx_iload_n C (dd_X2_most.at 8 rfl) rfl ?_
  obtain ⟨g3, hf⟩ := gd_ok hf
  refine xx_aaload (r := (o + 14 + Int32.toNatClampNeg a1)) C (dd_X2_most.at 9 rfl) (sh_o13 ho) (bi_ok g3) (sh_lt (sh_oe13 ho (bi_ok g3))) rfl ?_
  refine xx_iconst C (dd_X2_most.at 10 rfl) ic_1 ?_
  refine xx_iaload C (dd_X2_most.at 11 rfl) (sh_oe13 ho (bi_ok g3)) (bi_ok (i := (1 : Int32)) (n := 3) rfl) ?_
  refine xx_iadd C (dd_X2_most.at 12 rfl) ?_
  exact xx_ireturn C (rt_ip hf Q) (dd_X2_most.at 13 rfl) rfl
theorem ss_X1_light_17 {Z : zz_} (C : cx_ Z mt_X1_light 3) {r9 : Int32} {x0 : Nat} {x1 : Int32} {x3 : Int32} {h : hh_} {K17_43 : Int32 → Option (Int32)} (Q : rq_ Z (some (.int r9)) h) (ho0 : isO_ x0) (hK17_43 : ∀ (z2 : Int32), K17_43 z2 = some r9 → xx_ Z 43 [some (.ref x0), some (.int x1), some (.int z2), some (.int x3), none] [] h) : ∀ (n9 : Nat) (x2 : Int32) (x4 : Int32), ff_X1_light_17 x0 x1 x3 h K17_43 n9 x2 x4 = some r9 → xx_ Z 17 [some (.ref x0), some (.int x1), some (.int x2), some (.int x3), some (.int x4)] [] h := by
  intro n9
  induction n9 with
  | zero =>
    intro x2 x4 hf
    exact absurd hf (by rw [ff_X1_light_17]; exact nofun)
  | succ n9 ih =>
    intro x2 x4 hf
    rw [ff_X1_light_17] at hf
    refine xx_iload C (dd_X1_light.at 12 rfl) rfl ?_
    refine xx_iconst C (dd_X1_light.at 13 rfl) ic_4 ?_
    rcases ifo_ hf with ⟨hc, hf⟩ | ⟨hc, hf⟩
    · refine xx_icmp_ge_t (tgt := 43) C (dd_X1_light.at 14 rfl) (by decide) hc ?_
      exact xx_mask [true, true, true, true, false] (hK17_43 _ hf)
    · refine xx_icmp_ge_f (tgt := 43) C (dd_X1_light.at 14 rfl) (by decide) hc ?_
      refine xx_iload_n C (dd_X1_light.at 15 rfl) rfl ?_
      refine xx_aload_n C (dd_X1_light.at 16 rfl) rfl (isO_pos ho0) ?_
      refine xx_iload_n C (dd_X1_light.at 17 rfl) rfl ?_
      refine xx_iload_n C (dd_X1_light.at 18 rfl) rfl ?_
      refine xx_iload C (dd_X1_light.at 19 rfl) rfl ?_
      refine xx_iconst C (dd_X1_light.at 20 rfl) ic_0 ?_
      obtain ⟨v1, e2, hf⟩ := bdo_ hf
      refine xx_callVi C (ss_X2_most ho0 e2) (dd_X1_light.at 21 rfl) ck_1 rfl (sh_o ho0) kk_X2_most ki_X2_most lm_RX1_19 (lb_ rfl) rfl rfl (lb_ rfl) ?_
      refine xx_max C (dd_X1_light.at 22 rfl) lm_RX1_23 (lb_ rfl) (lb_ rfl) ?_
      refine xx_istore_n (lv' := [_, _, _, _, _]) C (dd_X1_light.at 23 rfl) (lb_ rfl) rfl ?_
      refine xx_iinc (v := _ + (1 : Int32)) (lv' := [_, _, _, _, _]) C (dd_X1_light.at 24 rfl) (lb_ rfl) rfl (by rw [ic_1]) rfl ?_
      refine xx_goto (tgt := 17) C (dd_X1_light.at 25 rfl) (by decide) ?_
      exact xx_mask [true, true, true, true, true] (ih _ _ hf)
theorem ss_X1_light_4 {Z : zz_} (C : cx_ Z mt_X1_light 3) {r9 : Int32} {x0 : Nat} {x1 : Int32} {h : hh_}  (Q : rq_ Z (some (.int r9)) h) (ho0 : isO_ x0) : ∀ (n9 : Nat) (x2 : Int32) (x3 : Int32), ff_X1_light_4 x0 x1 h n9 x2 x3 = some r9 → xx_ Z 4 [some (.ref x0), some (.int x1), some (.int x2), some (.int x3), none] [] h := by
  intro n9
  induction n9 with
  | zero =>
    intro x2 x3 hf
    exact absurd hf (by rw [ff_X1_light_4]; exact nofun)
  | succ n9 ih =>
    intro x2 x3 hf
    rw [ff_X1_light_4] at hf
    refine xx_iload_n C (dd_X1_light.at 4 rfl) rfl ?_
    refine xx_aload_n C (dd_X1_light.at 5 rfl) rfl (isO_pos ho0) ?_
    refine xx_getR (j := 4) (r := (x0 + 23)) C ck_1 (lb_ rfl) lf_RX1_9 (sh_o ho0) rfl (rc_o4 ho0) (rf_o4 ho0) (dd_X1_light.at 6 rfl) ?_
    refine xx_iconst C (dd_X1_light.at 7 rfl) ic_0 ?_
    refine xx_iaload C (dd_X1_light.at 8 rfl) (sh_o23 ho0) (bi_ok (i := (0 : Int32)) (n := 3) rfl) ?_
    rcases ifo_ hf with ⟨hc, hf⟩ | ⟨hc, hf⟩
    · refine xx_icmp_ge_t (tgt := 49) C (dd_X1_light.at 9 rfl) (by decide) hc ?_
      refine xx_iload_n C (dd_X1_light.at 28 rfl) rfl ?_
      exact xx_ireturn C (rt_ip hf Q) (dd_X1_light.at 29 rfl) rfl
    · refine xx_icmp_ge_f (tgt := 49) C (dd_X1_light.at 9 rfl) (by decide) hc ?_
      refine xx_iconst C (dd_X1_light.at 10 rfl) ic_0 ?_
      refine xx_istore (lv' := [_, _, _, _, _]) C (dd_X1_light.at 11 rfl) (lb_ rfl) rfl ?_
      refine xx_mask [true, true, true, true, true] (ss_X1_light_17 C Q ho0 (fun u3 hf => ?_) _ _ _ hf)
      refine xx_iinc (v := _ + (1 : Int32)) (lv' := [_, _, _, _, _]) C (dd_X1_light.at 26 rfl) (lb_ rfl) rfl (by rw [ic_1]) rfl ?_
      refine xx_goto (tgt := 4) C (dd_X1_light.at 27 rfl) (by decide) ?_
      exact xx_mask [true, true, true, true, false] (ih _ _ hf)
theorem ss_X1_light {l : Launch} {G : gt_} {a0 : Nat} {a1 : Int32} {h : hh_} {r9 : Int32} (ho0 : isO_ a0) (hf : ff_X1_light a0 a1 h = some r9) : ok_ l G 3 mt_X1_light [.ref a0, .int a1] h (some (.int r9)) h := by
  refine ok_of pn_RX1 (lb_ rfl) (fun Z _ _ C Q => ?_)
  show xx_ Z 0 [some (.ref a0), some (.int a1), none, none, none] [] h
  unfold ff_X1_light at hf
  refine xx_iconst C (dd_X1_light.at 0 rfl) ic_0 ?_
  refine xx_istore_n (lv' := [_, _, _, _, _]) C (dd_X1_light.at 1 rfl) (lb_ rfl) rfl ?_
  refine xx_iconst C (dd_X1_light.at 2 rfl) ic_0 ?_
  refine xx_istore_n (lv' := [_, _, _, _, _]) C (dd_X1_light.at 3 rfl) (lb_ rfl) rfl ?_
  exact xx_mask [true, true, true, true, false] (ss_X1_light_4 C Q ho0 _ _ _ hf)
theorem ss_X1_heavy_16 {Z : zz_} (C : cx_ Z mt_X1_heavy 1) {r9 : Int32} {x0 : Nat} {x2 : Int32} {h : hh_} {K16_45 : Int32 → Option (Int32)} (Q : rq_ Z (some (.int r9)) h) (ho0 : isO_ x0) (hK16_45 : ∀ (z1 : Int32), K16_45 z1 = some r9 → xx_ Z 45 [some (.ref x0), some (.int z1), some (.int x2), none] [] h) : ∀ (n9 : Nat) (x1 : Int32) (x3 : Int32), ff_X1_heavy_16 x0 x2 h K16_45 n9 x1 x3 = some r9 → xx_ Z 16 [some (.ref x0), some (.int x1), some (.int x2), some (.int x3)] [] h := by
  intro n9
  induction n9 with
  | zero =>
    intro x1 x3 hf
    exact absurd hf (by rw [ff_X1_heavy_16]; exact nofun)
  | succ n9 ih =>
    intro x1 x3 hf
    rw [ff_X1_heavy_16] at hf
    refine xx_iload_n C (dd_X1_heavy.at 12 rfl) rfl ?_
    refine xx_iconst C (dd_X1_heavy.at 13 rfl) ic_4 ?_
    rcases ifo_ hf with ⟨hc, hf⟩ | ⟨hc, hf⟩
    · refine xx_icmp_ge_t (tgt := 45) C (dd_X1_heavy.at 14 rfl) (by decide) hc ?_
      exact xx_mask [true, true, true, false] (hK16_45 _ hf)
    · refine xx_icmp_ge_f (tgt := 45) C (dd_X1_heavy.at 14 rfl) (by decide) hc ?_
      refine xx_iload_n C (dd_X1_heavy.at 15 rfl) rfl ?_
      refine xx_aload_n C (dd_X1_heavy.at 16 rfl) rfl (isO_pos ho0) ?_
      refine xx_iload_n C (dd_X1_heavy.at 17 rfl) rfl ?_
      refine xx_iload_n C (dd_X1_heavy.at 18 rfl) rfl ?_
      refine xx_iconst C (dd_X1_heavy.at 19 rfl) ic_0 ?_
      obtain ⟨v1, e2, hf⟩ := bdo_ hf
      refine xx_callVi C (ss_X2_felt ho0 e2) (dd_X1_heavy.at 20 rfl) ck_1 rfl (sh_o ho0) kk_X2_felt ki_X2_felt lm_RX1_15 (lb_ rfl) rfl rfl (lb_ rfl) ?_
      rcases ifo_ hf with ⟨hc, hf⟩ | ⟨hc, hf⟩
      · refine xx_if_ne_f (tgt := 36) C (dd_X1_heavy.at 21 rfl) (by decide) (not_not_intro hc) ?_
        refine xx_iconst C (dd_X1_heavy.at 22 rfl) ic_1 ?_
        refine xx_goto (tgt := 37) C (dd_X1_heavy.at 23 rfl) (by decide) ?_
        refine xx_iadd C (dd_X1_heavy.at 25 rfl) ?_
        refine xx_istore_n (lv' := [_, _, _, _]) C (dd_X1_heavy.at 26 rfl) (lb_ rfl) rfl ?_
        refine xx_iinc (v := _ + (1 : Int32)) (lv' := [_, _, _, _]) C (dd_X1_heavy.at 27 rfl) (lb_ rfl) rfl (by rw [ic_1]) rfl ?_
        refine xx_goto (tgt := 16) C (dd_X1_heavy.at 28 rfl) (by decide) ?_
        exact xx_mask [true, true, true, true] (ih _ _ hf)
      · refine xx_if_ne_t (tgt := 36) C (dd_X1_heavy.at 21 rfl) (by decide) hc ?_
        refine xx_iconst C (dd_X1_heavy.at 24 rfl) ic_0 ?_
        refine xx_iadd C (dd_X1_heavy.at 25 rfl) ?_
        refine xx_istore_n (lv' := [_, _, _, _]) C (dd_X1_heavy.at 26 rfl) (lb_ rfl) rfl ?_
        refine xx_iinc (v := _ + (1 : Int32)) (lv' := [_, _, _, _]) C (dd_X1_heavy.at 27 rfl) (lb_ rfl) rfl (by rw [ic_1]) rfl ?_
        refine xx_goto (tgt := 16) C (dd_X1_heavy.at 28 rfl) (by decide) ?_
        exact xx_mask [true, true, true, true] (ih _ _ hf)
theorem ss_X1_heavy_4 {Z : zz_} (C : cx_ Z mt_X1_heavy 1) {r9 : Int32} {x0 : Nat} {h : hh_}  (Q : rq_ Z (some (.int r9)) h) (ho0 : isO_ x0) : ∀ (n9 : Nat) (x1 : Int32) (x2 : Int32), ff_X1_heavy_4 x0 h n9 x1 x2 = some r9 → xx_ Z 4 [some (.ref x0), some (.int x1), some (.int x2), none] [] h := by
  intro n9
  induction n9 with
  | zero =>
    intro x1 x2 hf
    exact absurd hf (by rw [ff_X1_heavy_4]; exact nofun)
  | succ n9 ih =>
    intro x1 x2 hf
    rw [ff_X1_heavy_4] at hf
    refine xx_iload_n C (dd_X1_heavy.at 4 rfl) rfl ?_
    refine xx_aload_n C (dd_X1_heavy.at 5 rfl) rfl (isO_pos ho0) ?_
    refine xx_getR (j := 4) (r := (x0 + 23)) C ck_1 (lb_ rfl) lf_RX1_9 (sh_o ho0) rfl (rc_o4 ho0) (rf_o4 ho0) (dd_X1_heavy.at 6 rfl) ?_
    refine xx_iconst C (dd_X1_heavy.at 7 rfl) ic_0 ?_
    refine xx_iaload C (dd_X1_heavy.at 8 rfl) (sh_o23 ho0) (bi_ok (i := (0 : Int32)) (n := 3) rfl) ?_
    rcases ifo_ hf with ⟨hc, hf⟩ | ⟨hc, hf⟩
    · refine xx_icmp_ge_t (tgt := 51) C (dd_X1_heavy.at 9 rfl) (by decide) hc ?_
      refine xx_iload_n C (dd_X1_heavy.at 31 rfl) rfl ?_
      exact xx_ireturn C (rt_ip hf Q) (dd_X1_heavy.at 32 rfl) rfl
    · refine xx_icmp_ge_f (tgt := 51) C (dd_X1_heavy.at 9 rfl) (by decide) hc ?_
      refine xx_iconst C (dd_X1_heavy.at 10 rfl) ic_0 ?_
      refine xx_istore_n (lv' := [_, _, _, _]) C (dd_X1_heavy.at 11 rfl) (lb_ rfl) rfl ?_
      refine xx_mask [true, true, true, true] (ss_X1_heavy_16 C Q ho0 (fun u3 hf => ?_) _ _ _ hf)
      refine xx_iinc (v := _ + (1 : Int32)) (lv' := [_, _, _, _]) C (dd_X1_heavy.at 29 rfl) (lb_ rfl) rfl (by rw [ic_1]) rfl ?_
      refine xx_goto (tgt := 4) C (dd_X1_heavy.at 30 rfl) (by decide) ?_
      exact xx_mask [true, true, true, false] (ih _ _ hf)
theorem ss_X1_heavy {l : Launch} {G : gt_} {a0 : Nat} {h : hh_} {r9 : Int32} (ho0 : isO_ a0) (hf : ff_X1_heavy a0 h = some r9) : ok_ l G 1 mt_X1_heavy [.ref a0] h (some (.int r9)) h := by
  refine ok_of pn_RX1 (lb_ rfl) (fun Z _ _ C Q => ?_)
  show xx_ Z 0 [some (.ref a0), none, none, none] [] h
  unfold ff_X1_heavy at hf
  refine xx_iconst C (dd_X1_heavy.at 0 rfl) ic_0 ?_
  refine xx_istore_n (lv' := [_, _, _, _]) C (dd_X1_heavy.at 1 rfl) (lb_ rfl) rfl ?_
  refine xx_iconst C (dd_X1_heavy.at 2 rfl) ic_0 ?_
  refine xx_istore_n (lv' := [_, _, _, _]) C (dd_X1_heavy.at 3 rfl) (lb_ rfl) rfl ?_
  exact xx_mask [true, true, true, false] (ss_X1_heavy_4 C Q ho0 _ _ _ hf)
theorem ss_X7_mark {l : Launch} {G : gt_} {a1 : Int32} {a2 : Int32} {h : hh_} {r9 : Int32} {h9 : hh_}  (hf : ff_X7_mark a1 a2 h = some (r9, h9)) : ok_ l G 5 mt_X7_mark [.ref 1, .int a1, .int a2] h (some (.int r9)) h9 := by
  refine ok_of pn_RX7 (lb_ rfl) (fun Z _ _ C Q => ?_)
  show xx_ Z 0 [some (.ref 1), some (.int a1), some (.int a2)] [] h
  unfold ff_X7_mark at hf
  refine xx_aload_n C (dd_X7_mark.at 0 rfl) rfl (Nat.le_of_ble_eq_true rfl) ?_
  obtain ⟨g1, hf⟩ := gd_ok hf
  refine xx_getR (j := 7) (r := h.2.2.1) C ck_6 (lb_ rfl) lf_RX7_55 sh_k1 rfl (lb_ rfl) rfl (dd_X7_mark.at 1 rfl) ?_
  refine xx_iconst C (dd_X7_mark.at 2 rfl) ic_1 ?_
  refine xx_iload_n C (dd_X7_mark.at 3 rfl) rfl ?_
  obtain ⟨v2, e3, hf⟩ := bdo_ hf
  refine xx_callVi C (ss_X2_has (bo_ok g1) e3) (dd_X7_mark.at 4 rfl) ck_1 rfl (sh_o (bo_ok g1)) kk_X2_has ki_X2_has lm_RX7_119 (lb_ rfl) rfl rfl (lb_ rfl) ?_
  rcases ifo_ hf with ⟨hc, hf⟩ | ⟨hc, hf⟩
  · refine xx_if_eq_t (tgt := 23) C (dd_X7_mark.at 5 rfl) (by decide) hc ?_
    refine xx_iconst C (dd_X7_mark.at 12 rfl) ic_m1 ?_
    exact xx_ireturn C (rt_iwp hf Q) (dd_X7_mark.at 13 rfl) rfl
  · refine xx_if_eq_f (tgt := 23) C (dd_X7_mark.at 5 rfl) (by decide) hc ?_
    refine xx_iload_n C (dd_X7_mark.at 6 rfl) rfl ?_
    refine xx_iconst C (dd_X7_mark.at 7 rfl) ic_1 ?_
    rcases ifo_ hf with ⟨hc, hf⟩ | ⟨hc, hf⟩
    · refine xx_icmp_lt_t (tgt := 23) C (dd_X7_mark.at 8 rfl) (by decide) hc ?_
      refine xx_iconst C (dd_X7_mark.at 12 rfl) ic_m1 ?_
      exact xx_ireturn C (rt_iwp hf Q) (dd_X7_mark.at 13 rfl) rfl
    · refine xx_icmp_lt_f (tgt := 23) C (dd_X7_mark.at 8 rfl) (by decide) hc ?_
      refine xx_iload_n C (dd_X7_mark.at 9 rfl) rfl ?_
      refine xx_bipush C (dd_X7_mark.at 10 rfl) bq_6 ?_
      rcases ifo_ hf with ⟨hc, hf⟩ | ⟨hc, hf⟩
      · refine xx_icmp_lt_t (tgt := 25) C (dd_X7_mark.at 11 rfl) (by decide) hc ?_
        refine xx_aload_n C (dd_X7_mark.at 14 rfl) rfl (Nat.le_of_ble_eq_true rfl) ?_
        refine xx_getR (j := 7) (r := h.2.2.1) C ck_6 (lb_ rfl) lf_RX7_55 sh_k1 rfl (lb_ rfl) rfl (dd_X7_mark.at 15 rfl) ?_
        refine xx_iload_n C (dd_X7_mark.at 16 rfl) rfl ?_
        refine xx_iload_n C (dd_X7_mark.at 17 rfl) rfl ?_
        obtain ⟨v4, e5, hf⟩ := bdo_ hf
        refine xx_callVi C (ss_X2_isOf (bo_ok g1) e5) (dd_X7_mark.at 18 rfl) ck_1 rfl (sh_o (bo_ok g1)) kk_X2_isOf ki_X2_isOf lm_RX7_132 (lb_ rfl) rfl rfl (lb_ rfl) ?_
        rcases ifo_ hf with ⟨hc, hf⟩ | ⟨hc, hf⟩
        · refine xx_if_ne_f (tgt := 46) C (dd_X7_mark.at 19 rfl) (by decide) (not_not_intro hc) ?_
          refine xx_aload_n C (dd_X7_mark.at 20 rfl) rfl (Nat.le_of_ble_eq_true rfl) ?_
          refine xx_getR (j := 5) (r := 36) C ck_6 (lb_ rfl) lf_RX7_44 sh_k1 rfl (lb_ rfl) rfl (dd_X7_mark.at 21 rfl) ?_
          refine xx_iconst C (dd_X7_mark.at 22 rfl) ic_3 ?_
          obtain ⟨v16, e17, hf⟩ := bdo_ hf
          refine xx_callVi C (ss_X6_refuse (pz_ e17)) (dd_X7_mark.at 23 rfl) ck_5 rfl sh_k36 kk_X6_refuse ki_X6_refuse lm_RX7_67 (lb_ rfl) rfl rfl (lb_ rfl) ?_
          exact xx_ireturn C (rt_iwp hf Q) (dd_X7_mark.at 24 rfl) rfl
        · refine xx_if_ne_t (tgt := 46) C (dd_X7_mark.at 19 rfl) (by decide) hc ?_
          refine xx_iload_n C (dd_X7_mark.at 25 rfl) rfl ?_
          rcases ifo_ hf with ⟨hc0, hf⟩ | ⟨hc0, hf⟩
          · refine xx_tabIn (off := 29) (tgt := 76) C (dd_X7_mark.at 26 rfl) (by rw [hc0]; decide) (by rw [hc0]; decide) (by rw [hc0]; decide) (by decide) ?_
            refine xx_aload_n C (dd_X7_mark.at 27 rfl) rfl (Nat.le_of_ble_eq_true rfl) ?_
            refine xx_getR (j := 7) (r := h.2.2.1) C ck_6 (lb_ rfl) lf_RX7_55 sh_k1 rfl (lb_ rfl) rfl (dd_X7_mark.at 28 rfl) ?_
            obtain ⟨v14, e15, hf⟩ := bdo_ hf
            refine xx_callSi C (ss_X1_heavy (bo_ok g1) e15) (dd_X7_mark.at 29 rfl) kk_X1_heavy ks_X1_heavy lm_RX7_135 (lb_ rfl) rfl rfl (lb_ rfl) ?_
            exact xx_ireturn C (rt_iwp hf Q) (dd_X7_mark.at 30 rfl) rfl
          · rcases ifo_ hf with ⟨hc1, hf⟩ | ⟨hc1, hf⟩
            · refine xx_tabIn (off := 37) (tgt := 84) C (dd_X7_mark.at 26 rfl) (by rw [hc1]; decide) (by rw [hc1]; decide) (by rw [hc1]; decide) (by decide) ?_
              refine xx_aload_n C (dd_X7_mark.at 31 rfl) rfl (Nat.le_of_ble_eq_true rfl) ?_
              refine xx_getR (j := 7) (r := h.2.2.1) C ck_6 (lb_ rfl) lf_RX7_55 sh_k1 rfl (lb_ rfl) rfl (dd_X7_mark.at 32 rfl) ?_
              refine xx_iload_n C (dd_X7_mark.at 33 rfl) rfl ?_
              obtain ⟨v12, e13, hf⟩ := bdo_ hf
              refine xx_callSi C (ss_X1_light (bo_ok g1) e13) (dd_X7_mark.at 34 rfl) kk_X1_light ks_X1_light lm_RX7_141 (lb_ rfl) rfl rfl (lb_ rfl) ?_
              exact xx_ireturn C (rt_iwp hf Q) (dd_X7_mark.at 35 rfl) rfl
            · rcases ifo_ hf with ⟨hc2, hf⟩ | ⟨hc2, hf⟩
              · refine xx_tabIn (off := 46) (tgt := 93) C (dd_X7_mark.at 26 rfl) (by rw [hc2]; decide) (by rw [hc2]; decide) (by rw [hc2]; decide) (by decide) ?_
                refine xx_aload_n C (dd_X7_mark.at 36 rfl) rfl (Nat.le_of_ble_eq_true rfl) ?_
                refine xx_getR (j := 7) (r := h.2.2.1) C ck_6 (lb_ rfl) lf_RX7_55 sh_k1 rfl (lb_ rfl) rfl (dd_X7_mark.at 37 rfl) ?_
                refine xx_iload_n C (dd_X7_mark.at 38 rfl) rfl ?_
                obtain ⟨v10, e11, hf⟩ := bdo_ hf
                refine xx_callSi C (ss_X1_wishing (bo_ok g1) e11) (dd_X7_mark.at 39 rfl) kk_X1_wishing ks_X1_wishing lm_RX7_145 (lb_ rfl) rfl rfl (lb_ rfl) ?_
                exact xx_ireturn C (rt_iwp hf Q) (dd_X7_mark.at 40 rfl) rfl
              · rcases ifo_ hf with ⟨hc3, hf⟩ | ⟨hc3, hf⟩
                · refine xx_tabIn (off := 55) (tgt := 102) C (dd_X7_mark.at 26 rfl) (by rw [hc3]; decide) (by rw [hc3]; decide) (by rw [hc3]; decide) (by decide) ?_
                  refine xx_aload_n C (dd_X7_mark.at 41 rfl) rfl (Nat.le_of_ble_eq_true rfl) ?_
                  refine xx_getR (j := 7) (r := h.2.2.1) C ck_6 (lb_ rfl) lf_RX7_55 sh_k1 rfl (lb_ rfl) rfl (dd_X7_mark.at 42 rfl) ?_
                  refine xx_iload_n C (dd_X7_mark.at 43 rfl) rfl ?_
                  obtain ⟨v8, e9, hf⟩ := bdo_ hf
                  refine xx_callSi C (ss_X1_clerk (bo_ok g1) e9) (dd_X7_mark.at 44 rfl) kk_X1_clerk ks_X1_clerk lm_RX7_148 (lb_ rfl) rfl rfl (lb_ rfl) ?_
                  exact xx_ireturn C (rt_iwp hf Q) (dd_X7_mark.at 45 rfl) rfl
                · refine xx_tabOut (tgt := 111) C (dd_X7_mark.at 26 rfl) (tab_out (n := 4) (fun k9 hk9 => by match k9, hk9 with | 0, _ => exact hc0 | 1, _ => exact hc1 | 2, _ => exact hc2 | 3, _ => exact hc3 | k9 + 4, hk9 => exact absurd hk9 (by omega)) rfl) (by decide) ?_
                  refine xx_aload_n C (dd_X7_mark.at 46 rfl) rfl (Nat.le_of_ble_eq_true rfl) ?_
                  refine xx_getR (j := 7) (r := h.2.2.1) C ck_6 (lb_ rfl) lf_RX7_55 sh_k1 rfl (lb_ rfl) rfl (dd_X7_mark.at 47 rfl) ?_
                  refine xx_iload_n C (dd_X7_mark.at 48 rfl) rfl ?_
                  obtain ⟨v6, e7, hf⟩ := bdo_ hf
                  refine xx_callSi C (ss_X1_dull (bo_ok g1) e7) (dd_X7_mark.at 49 rfl) kk_X1_dull ks_X1_dull lm_RX7_151 (lb_ rfl) rfl rfl (lb_ rfl) ?_
                  exact xx_ireturn C (rt_iwp hf Q) (dd_X7_mark.at 50 rfl) rfl
      · refine xx_icmp_lt_f (tgt := 25) C (dd_X7_mark.at 11 rfl) (by decide) hc ?_
        refine xx_iconst C (dd_X7_mark.at 12 rfl) ic_m1 ?_
        exact xx_ireturn C (rt_iwp hf Q) (dd_X7_mark.at 13 rfl) rfl
theorem ss_X7_error {l : Launch} {G : gt_} {a1 : Int32} {a2 : Int32} {h : hh_} {r9 : Int32} {h9 : hh_}  (hf : ff_X7_error a1 a2 h = some (r9, h9)) : ok_ l G 1 mt_X7_error [.ref 1, .int a1, .int a2] h (some (.int r9)) h9 := by
  refine ok_of pn_RX7 (lb_ rfl) (fun Z _ _ C Q => ?_)
  show xx_ Z 0 [some (.ref 1), some (.int a1), some (.int a2), none] [] h
  unfold ff_X7_error at hf
  refine xx_aload_n C (dd_X7_error.at 0 rfl) rfl (Nat.le_of_ble_eq_true rfl) ?_
  obtain ⟨g1, hf⟩ := gd_ok hf
  refine xx_getR (j := 7) (r := h.2.2.1) C ck_6 (lb_ rfl) lf_RX7_55 sh_k1 rfl (lb_ rfl) rfl (dd_X7_error.at 1 rfl) ?_
  refine xx_iconst C (dd_X7_error.at 2 rfl) ic_1 ?_
  refine xx_iload_n C (dd_X7_error.at 3 rfl) rfl ?_
  obtain ⟨v2, e3, hf⟩ := bdo_ hf
  refine xx_callVi C (ss_X2_has (bo_ok g1) e3) (dd_X7_error.at 4 rfl) ck_1 rfl (sh_o (bo_ok g1)) kk_X2_has ki_X2_has lm_RX7_119 (lb_ rfl) rfl rfl (lb_ rfl) ?_
  rcases ifo_ hf with ⟨hc, hf⟩ | ⟨hc, hf⟩
  · refine xx_if_eq_t (tgt := 21) C (dd_X7_error.at 5 rfl) (by decide) hc ?_
    refine xx_iconst C (dd_X7_error.at 11 rfl) ic_m1 ?_
    exact xx_ireturn C (rt_iwp hf Q) (dd_X7_error.at 12 rfl) rfl
  · refine xx_if_eq_f (tgt := 21) C (dd_X7_error.at 5 rfl) (by decide) hc ?_
    refine xx_iload_n C (dd_X7_error.at 6 rfl) rfl ?_
    rcases ifo_ hf with ⟨hc, hf⟩ | ⟨hc, hf⟩
    · refine xx_if_lt_t (tgt := 21) C (dd_X7_error.at 7 rfl) (by decide) hc ?_
      refine xx_iconst C (dd_X7_error.at 11 rfl) ic_m1 ?_
      exact xx_ireturn C (rt_iwp hf Q) (dd_X7_error.at 12 rfl) rfl
    · refine xx_if_lt_f (tgt := 21) C (dd_X7_error.at 7 rfl) (by decide) hc ?_
      refine xx_iload_n C (dd_X7_error.at 8 rfl) rfl ?_
      refine xx_iconst C (dd_X7_error.at 9 rfl) ic_2 ?_
      rcases ifo_ hf with ⟨hc, hf⟩ | ⟨hc, hf⟩
      · refine xx_icmp_le_t (tgt := 23) C (dd_X7_error.at 10 rfl) (by decide) hc ?_
        refine xx_aload_n C (dd_X7_error.at 13 rfl) rfl (Nat.le_of_ble_eq_true rfl) ?_
        refine xx_getR (j := 7) (r := h.2.2.1) C ck_6 (lb_ rfl) lf_RX7_55 sh_k1 rfl (lb_ rfl) rfl (dd_X7_error.at 14 rfl) ?_
        refine xx_getR (j := 2) (r := (h.2.2.1 + 13)) C ck_1 (lb_ rfl) lf_RX7_126 (sh_o (bo_ok g1)) rfl (rc_o2 (bo_ok g1)) (rf_o2 (bo_ok g1)) (dd_X7_error.at 15 rfl) ?_
        refine xx_iload_n C (dd_X7_error.at 16 rfl) rfl ?_
        obtain ⟨g4, hf⟩ := gd_ok hf
        refine xx_aaload (r := (h.2.2.1 + 14 + Int32.toNatClampNeg a1)) C (dd_X7_error.at 17 rfl) (sh_o13 (bo_ok g1)) (bi_ok g4) (sh_lt (sh_oe13 (bo_ok g1) (bi_ok g4))) rfl ?_
        refine xx_iconst C (dd_X7_error.at 18 rfl) ic_1 ?_
        refine xx_iaload C (dd_X7_error.at 19 rfl) (sh_oe13 (bo_ok g1) (bi_ok g4)) (bi_ok (i := (1 : Int32)) (n := 3) rfl) ?_
        refine xx_istore_n (lv' := [_, _, _, _]) C (dd_X7_error.at 20 rfl) (lb_ rfl) rfl ?_
        refine xx_aload_n C (dd_X7_error.at 21 rfl) rfl (Nat.le_of_ble_eq_true rfl) ?_
        refine xx_getR (j := 7) (r := h.2.2.1) C ck_6 (lb_ rfl) lf_RX7_55 sh_k1 rfl (lb_ rfl) rfl (dd_X7_error.at 22 rfl) ?_
        refine xx_getR (j := 2) (r := (h.2.2.1 + 13)) C ck_1 (lb_ rfl) lf_RX7_126 (sh_o (bo_ok g1)) rfl (rc_o2 (bo_ok g1)) (rf_o2 (bo_ok g1)) (dd_X7_error.at 23 rfl) ?_
        refine xx_iload_n C (dd_X7_error.at 24 rfl) rfl ?_
        refine xx_aaload (r := (h.2.2.1 + 14 + Int32.toNatClampNeg a1)) C (dd_X7_error.at 25 rfl) (sh_o13 (bo_ok g1)) (bi_ok g4) (sh_lt (sh_oe13 (bo_ok g1) (bi_ok g4))) rfl ?_
        refine xx_iconst C (dd_X7_error.at 26 rfl) ic_1 ?_
        refine xx_iload_n C (dd_X7_error.at 27 rfl) rfl ?_
        refine xx_iastore C (dd_X7_error.at 28 rfl) (sh_oe13 (bo_ok g1) (bi_ok g4)) (bi_ok (i := (1 : Int32)) (n := 3) rfl) ?_
        refine xx_iload_n C (dd_X7_error.at 29 rfl) rfl ?_
        exact xx_ireturn C (rt_iwp hf Q) (dd_X7_error.at 30 rfl) rfl
      · refine xx_icmp_le_f (tgt := 23) C (dd_X7_error.at 10 rfl) (by decide) hc ?_
        refine xx_iconst C (dd_X7_error.at 11 rfl) ic_m1 ?_
        exact xx_ireturn C (rt_iwp hf Q) (dd_X7_error.at 12 rfl) rfl
theorem ss_X7_isPlace {l : Launch} {G : gt_} {a0 : Int32} {h : hh_} {r9 : Int32}  (hf : ff_X7_isPlace a0 = r9) : ok_ l G 0 mt_X7_isPlace [.int a0] h (some (.int r9)) h := by
  refine ok_of pn_RX7 (lb_ rfl) (fun Z _ _ C Q => ?_)
  show xx_ Z 0 [some (.int a0)] [] h
  unfold ff_X7_isPlace at hf
  refine xx_iload_n C (dd_X7_isPlace.at 0 rfl) rfl ?_
  rcases ifo_ hf with ⟨hc, hf⟩ | ⟨hc, hf⟩
  · refine xx_if_lt_t (tgt := 13) C (dd_X7_isPlace.at 1 rfl) (by decide) hc ?_
    refine xx_iconst C (dd_X7_isPlace.at 7 rfl) ic_0 ?_
    exact xx_zreturn C (rt_i hf Q) (dd_X7_isPlace.at 8 rfl) rfl zb_0
  · refine xx_if_lt_f (tgt := 13) C (dd_X7_isPlace.at 1 rfl) (by decide) hc ?_
    refine xx_iload_n C (dd_X7_isPlace.at 2 rfl) rfl ?_
    refine xx_iconst C (dd_X7_isPlace.at 3 rfl) ic_4 ?_
    rcases ifo_ hf with ⟨hc, hf⟩ | ⟨hc, hf⟩
    · refine xx_icmp_ge_t (tgt := 13) C (dd_X7_isPlace.at 4 rfl) (by decide) hc ?_
      refine xx_iconst C (dd_X7_isPlace.at 7 rfl) ic_0 ?_
      exact xx_zreturn C (rt_i hf Q) (dd_X7_isPlace.at 8 rfl) rfl zb_0
    · refine xx_icmp_ge_f (tgt := 13) C (dd_X7_isPlace.at 4 rfl) (by decide) hc ?_
      refine xx_iconst C (dd_X7_isPlace.at 5 rfl) ic_1 ?_
      refine xx_goto (tgt := 14) C (dd_X7_isPlace.at 6 rfl) (by decide) ?_
      exact xx_zreturn C (rt_i hf Q) (dd_X7_isPlace.at 8 rfl) rfl zb_1
theorem ss_X2_act {l : Launch} {G : gt_} {o : Nat} {a1 : Int32} {a2 : Int32} {h : hh_} {h9 : hh_} (ho : isO_ o) (hf : ff_X2_act o a1 a2 h = some h9) : ok_ l G 2 mt_X2_act [.ref o, .int a1, .int a2] h none h9 := by
  refine ok_of pn_RX2 (lb_ rfl) (fun Z _ _ C Q => ?_)
  show xx_ Z 0 [some (.ref o), some (.int a1), some (.int a2)] [] h
  unfold ff_X2_act at hf
  refine xx_aload_n C (dd_X2_act.at 0 rfl) rfl (isO_pos ho) ?_
  refine xx_getR (j := 5) (r := (o + 24)) C ck_1 (lb_ rfl) lf_RX2_29 (sh_o ho) rfl (rc_o5 ho) (rf_o5 ho) (dd_X2_act.at 1 rfl) ?_
  refine xx_aload_n C (dd_X2_act.at 2 rfl) rfl (isO_pos ho) ?_
  refine xx_getI (j := 6) C ck_1 (lb_ rfl) lf_RX2_49 (sh_o ho) rfl (dd_X2_act.at 3 rfl) ?_
  refine xx_iload_n C (dd_X2_act.at 4 rfl) rfl ?_
  refine xx_bipush C (dd_X2_act.at 5 rfl) bq_8 ?_
  refine xx_imul C (dd_X2_act.at 6 rfl) ?_
  refine xx_iload_n C (dd_X2_act.at 7 rfl) rfl ?_
  refine xx_iadd C (dd_X2_act.at 8 rfl) ?_
  obtain ⟨g1, hf⟩ := gd_ok hf
  refine xx_iastore C (dd_X2_act.at 9 rfl) (sh_o24 ho) (bi_ok g1) ?_
  refine xx_aload_n C (dd_X2_act.at 10 rfl) rfl (isO_pos ho) ?_
  refine xx_aload_n C (dd_X2_act.at 11 rfl) rfl (isO_pos ho) ?_
  refine xx_getR (j := 5) (r := (o + 24)) C ck_1 (lb_ rfl) lf_RX2_29 (sh_o ho) rfl (rc_o5 ho) (rf_o5 ho) (dd_X2_act.at 12 rfl) ?_
  refine xx_aload_n C (dd_X2_act.at 13 rfl) rfl (isO_pos ho) ?_
  refine xx_getI (j := 6) C ck_1 (lb_ rfl) lf_RX2_49 (sh_o ho) rfl (dd_X2_act.at 14 rfl) ?_
  obtain ⟨g2, hf⟩ := gd_ok hf
  refine xx_iaload C (dd_X2_act.at 15 rfl) (sh_o24 ho) (bi_ok g2) ?_
  obtain ⟨v3, e4, hf⟩ := bdo_ hf
  refine xx_callVv C (ss_X2_repeat ho e4) (dd_X2_act.at 16 rfl) ck_1 rfl (sh_o ho) kk_X2_repeat ki_X2_repeat lm_RX2_53 (lb_ rfl) rfl rfl (lb_ rfl) ?_
  refine xx_aload_n C (dd_X2_act.at 17 rfl) rfl (isO_pos ho) ?_
  refine xx_dup C (dd_X2_act.at 18 rfl) rfl ?_
  refine xx_getI (j := 6) C ck_1 (lb_ rfl) lf_RX2_49 (sh_o ho) rfl (dd_X2_act.at 19 rfl) ?_
  refine xx_iconst C (dd_X2_act.at 20 rfl) ic_1 ?_
  refine xx_iadd C (dd_X2_act.at 21 rfl) ?_
  refine xx_putI (j := 6) C ck_1 (lb_ rfl) lf_RX2_49 rfl rfl (sh_o ho) rfl (dd_X2_act.at 22 rfl) ?_
  exact xx_return C (rt_vwp hf Q) (dd_X2_act.at 23 rfl) rfl
theorem ss_X7_pad {l : Launch} {G : gt_} {a1 : Int32} {a2 : Int32} {h : hh_} {r9 : Int32} {h9 : hh_}  (hf : ff_X7_pad a1 a2 h = some (r9, h9)) : ok_ l G 3 mt_X7_pad [.ref 1, .int a1, .int a2] h (some (.int r9)) h9 := by
  refine ok_of pn_RX7 (lb_ rfl) (fun Z _ _ C Q => ?_)
  show xx_ Z 0 [some (.ref 1), some (.int a1), some (.int a2)] [] h
  unfold ff_X7_pad at hf
  refine xx_aload_n C (dd_X7_pad.at 0 rfl) rfl (Nat.le_of_ble_eq_true rfl) ?_
  obtain ⟨g1, hf⟩ := gd_ok hf
  refine xx_getR (j := 7) (r := h.2.2.1) C ck_6 (lb_ rfl) lf_RX7_55 sh_k1 rfl (lb_ rfl) rfl (dd_X7_pad.at 1 rfl) ?_
  refine xx_iconst C (dd_X7_pad.at 2 rfl) ic_0 ?_
  refine xx_iload_n C (dd_X7_pad.at 3 rfl) rfl ?_
  obtain ⟨v2, e3, hf⟩ := bdo_ hf
  refine xx_callVi C (ss_X2_has (bo_ok g1) e3) (dd_X7_pad.at 4 rfl) ck_1 rfl (sh_o (bo_ok g1)) kk_X2_has ki_X2_has lm_RX7_119 (lb_ rfl) rfl rfl (lb_ rfl) ?_
  rcases ifo_ hf with ⟨hc, hf⟩ | ⟨hc, hf⟩
  · refine xx_if_eq_t (tgt := 19) C (dd_X7_pad.at 5 rfl) (by decide) hc ?_
    refine xx_iconst C (dd_X7_pad.at 9 rfl) ic_m1 ?_
    exact xx_ireturn C (rt_iwp hf Q) (dd_X7_pad.at 10 rfl) rfl
  · refine xx_if_eq_f (tgt := 19) C (dd_X7_pad.at 5 rfl) (by decide) hc ?_
    refine xx_iload_n C (dd_X7_pad.at 6 rfl) rfl ?_
    refine xx_callSi C (ss_X7_isPlace rfl) (dd_X7_pad.at 7 rfl) kk_X7_isPlace ks_X7_isPlace lm_RX7_154 (lb_ rfl) rfl rfl (lb_ rfl) ?_
    rcases ifo_ hf with ⟨hc, hf⟩ | ⟨hc, hf⟩
    · refine xx_if_ne_f (tgt := 21) C (dd_X7_pad.at 8 rfl) (by decide) (not_not_intro hc) ?_
      refine xx_iconst C (dd_X7_pad.at 9 rfl) ic_m1 ?_
      exact xx_ireturn C (rt_iwp hf Q) (dd_X7_pad.at 10 rfl) rfl
    · refine xx_if_ne_t (tgt := 21) C (dd_X7_pad.at 8 rfl) (by decide) hc ?_
      refine xx_aload_n C (dd_X7_pad.at 11 rfl) rfl (Nat.le_of_ble_eq_true rfl) ?_
      refine xx_getR (j := 7) (r := h.2.2.1) C ck_6 (lb_ rfl) lf_RX7_55 sh_k1 rfl (lb_ rfl) rfl (dd_X7_pad.at 12 rfl) ?_
      refine xx_getR (j := 1) (r := (h.2.2.1 + 7)) C ck_1 (lb_ rfl) lf_RX7_157 (sh_o (bo_ok g1)) rfl (rc_o1 (bo_ok g1)) (rf_o1 (bo_ok g1)) (dd_X7_pad.at 13 rfl) ?_
      refine xx_iload_n C (dd_X7_pad.at 14 rfl) rfl ?_
      obtain ⟨g4, hf⟩ := gd_ok hf
      refine xx_aaload (r := (h.2.2.1 + 8 + Int32.toNatClampNeg a1)) C (dd_X7_pad.at 15 rfl) (sh_o7 (bo_ok g1)) (bi_ok g4) (sh_lt (sh_oe7 (bo_ok g1) (bi_ok g4))) rfl ?_
      refine xx_iload_n C (dd_X7_pad.at 16 rfl) rfl ?_
      obtain ⟨g5, hf⟩ := gd_ok hf
      refine xx_iaload C (dd_X7_pad.at 17 rfl) (sh_oe7 (bo_ok g1) (bi_ok g4)) (bi_ok g5) ?_
      refine xx_iconst C (dd_X7_pad.at 18 rfl) ic_5 ?_
      rcases ifo_ hf with ⟨hc, hf⟩ | ⟨hc, hf⟩
      · refine xx_icmp_lt_t (tgt := 39) C (dd_X7_pad.at 19 rfl) (by decide) hc ?_
        refine xx_aload_n C (dd_X7_pad.at 22 rfl) rfl (Nat.le_of_ble_eq_true rfl) ?_
        refine xx_getR (j := 7) (r := h.2.2.1) C ck_6 (lb_ rfl) lf_RX7_55 sh_k1 rfl (lb_ rfl) rfl (dd_X7_pad.at 23 rfl) ?_
        refine xx_getI (j := 6) C ck_1 (lb_ rfl) lf_RX7_160 (sh_o (bo_ok g1)) rfl (dd_X7_pad.at 24 rfl) ?_
        refine xx_bipush C (dd_X7_pad.at 25 rfl) bq_40 ?_
        rcases ifo_ hf with ⟨hc, hf⟩ | ⟨hc, hf⟩
        · refine xx_icmp_lt_t (tgt := 54) C (dd_X7_pad.at 26 rfl) (by decide) hc ?_
          refine xx_aload_n C (dd_X7_pad.at 29 rfl) rfl (Nat.le_of_ble_eq_true rfl) ?_
          refine xx_getR (j := 7) (r := h.2.2.1) C ck_6 (lb_ rfl) lf_RX7_55 sh_k1 rfl (lb_ rfl) rfl (dd_X7_pad.at 30 rfl) ?_
          refine xx_iload_n C (dd_X7_pad.at 31 rfl) rfl ?_
          refine xx_iload_n C (dd_X7_pad.at 32 rfl) rfl ?_
          obtain ⟨v6, e7, hf⟩ := bdo_ hf
          refine xx_callVv C (ss_X2_act (bo_ok g1) e7) (dd_X7_pad.at 33 rfl) ck_1 rfl (sh_o (bo_ok g1)) kk_X2_act ki_X2_act lm_RX7_161 (lb_ rfl) rfl rfl (lb_ rfl) ?_
          refine xx_aload_n C (dd_X7_pad.at 34 rfl) rfl (Nat.le_of_ble_eq_true rfl) ?_
          obtain ⟨g8, hf⟩ := gd_ok hf
          refine xx_getR (j := 7) (r := v6.2.2.1) C ck_6 (lb_ rfl) lf_RX7_55 sh_k1 rfl (lb_ rfl) rfl (dd_X7_pad.at 35 rfl) ?_
          refine xx_getR (j := 1) (r := (v6.2.2.1 + 7)) C ck_1 (lb_ rfl) lf_RX7_157 (sh_o (bo_ok g8)) rfl (rc_o1 (bo_ok g8)) (rf_o1 (bo_ok g8)) (dd_X7_pad.at 36 rfl) ?_
          refine xx_iload_n C (dd_X7_pad.at 37 rfl) rfl ?_
          refine xx_aaload (r := (v6.2.2.1 + 8 + Int32.toNatClampNeg a1)) C (dd_X7_pad.at 38 rfl) (sh_o7 (bo_ok g8)) (bi_ok g4) (sh_lt (sh_oe7 (bo_ok g8) (bi_ok g4))) rfl ?_
          refine xx_iload_n C (dd_X7_pad.at 39 rfl) rfl ?_
          refine xx_iaload C (dd_X7_pad.at 40 rfl) (sh_oe7 (bo_ok g8) (bi_ok g4)) (bi_ok g5) ?_
          exact xx_ireturn C (rt_iwp hf Q) (dd_X7_pad.at 41 rfl) rfl
        · refine xx_icmp_lt_f (tgt := 54) C (dd_X7_pad.at 26 rfl) (by decide) hc ?_
          refine xx_bipush C (dd_X7_pad.at 27 rfl) bq_m2 ?_
          exact xx_ireturn C (rt_iwp hf Q) (dd_X7_pad.at 28 rfl) rfl
      · refine xx_icmp_lt_f (tgt := 39) C (dd_X7_pad.at 19 rfl) (by decide) hc ?_
        refine xx_bipush C (dd_X7_pad.at 20 rfl) bq_m4 ?_
        exact xx_ireturn C (rt_iwp hf Q) (dd_X7_pad.at 21 rfl) rfl
theorem ss_X7_grow {l : Launch} {G : gt_} {a1 : Int32} {h : hh_} {r9 : Int32} {h9 : hh_}  (hf : ff_X7_grow a1 h = some (r9, h9)) : ok_ l G 3 mt_X7_grow [.ref 1, .int a1] h (some (.int r9)) h9 := by
  refine ok_of pn_RX7 (lb_ rfl) (fun Z _ _ C Q => ?_)
  show xx_ Z 0 [some (.ref 1), some (.int a1)] [] h
  unfold ff_X7_grow at hf
  refine xx_aload_n C (dd_X7_grow.at 0 rfl) rfl (Nat.le_of_ble_eq_true rfl) ?_
  obtain ⟨g1, hf⟩ := gd_ok hf
  refine xx_getR (j := 7) (r := h.2.2.1) C ck_6 (lb_ rfl) lf_RX7_55 sh_k1 rfl (lb_ rfl) rfl (dd_X7_grow.at 1 rfl) ?_
  refine xx_iconst C (dd_X7_grow.at 2 rfl) ic_0 ?_
  refine xx_iload_n C (dd_X7_grow.at 3 rfl) rfl ?_
  obtain ⟨v2, e3, hf⟩ := bdo_ hf
  refine xx_callVi C (ss_X2_has (bo_ok g1) e3) (dd_X7_grow.at 4 rfl) ck_1 rfl (sh_o (bo_ok g1)) kk_X2_has ki_X2_has lm_RX7_119 (lb_ rfl) rfl rfl (lb_ rfl) ?_
  rcases ifo_ hf with ⟨hc, hf⟩ | ⟨hc, hf⟩
  · refine xx_if_ne_f (tgt := 14) C (dd_X7_grow.at 5 rfl) (by decide) (not_not_intro hc) ?_
    refine xx_iconst C (dd_X7_grow.at 6 rfl) ic_m1 ?_
    exact xx_ireturn C (rt_iwp hf Q) (dd_X7_grow.at 7 rfl) rfl
  · refine xx_if_ne_t (tgt := 14) C (dd_X7_grow.at 5 rfl) (by decide) hc ?_
    refine xx_aload_n C (dd_X7_grow.at 8 rfl) rfl (Nat.le_of_ble_eq_true rfl) ?_
    refine xx_getR (j := 7) (r := h.2.2.1) C ck_6 (lb_ rfl) lf_RX7_55 sh_k1 rfl (lb_ rfl) rfl (dd_X7_grow.at 9 rfl) ?_
    refine xx_getI (j := 6) C ck_1 (lb_ rfl) lf_RX7_160 (sh_o (bo_ok g1)) rfl (dd_X7_grow.at 10 rfl) ?_
    refine xx_bipush C (dd_X7_grow.at 11 rfl) bq_40 ?_
    rcases ifo_ hf with ⟨hc, hf⟩ | ⟨hc, hf⟩
    · refine xx_icmp_lt_t (tgt := 29) C (dd_X7_grow.at 12 rfl) (by decide) hc ?_
      refine xx_aload_n C (dd_X7_grow.at 15 rfl) rfl (Nat.le_of_ble_eq_true rfl) ?_
      refine xx_getR (j := 7) (r := h.2.2.1) C ck_6 (lb_ rfl) lf_RX7_55 sh_k1 rfl (lb_ rfl) rfl (dd_X7_grow.at 16 rfl) ?_
      refine xx_iload_n C (dd_X7_grow.at 17 rfl) rfl ?_
      refine xx_iconst C (dd_X7_grow.at 18 rfl) ic_4 ?_
      obtain ⟨v4, e5, hf⟩ := bdo_ hf
      refine xx_callVv C (ss_X2_act (bo_ok g1) e5) (dd_X7_grow.at 19 rfl) ck_1 rfl (sh_o (bo_ok g1)) kk_X2_act ki_X2_act lm_RX7_161 (lb_ rfl) rfl rfl (lb_ rfl) ?_
      refine xx_aload_n C (dd_X7_grow.at 20 rfl) rfl (Nat.le_of_ble_eq_true rfl) ?_
      obtain ⟨g6, hf⟩ := gd_ok hf
      refine xx_getR (j := 7) (r := v4.2.2.1) C ck_6 (lb_ rfl) lf_RX7_55 sh_k1 rfl (lb_ rfl) rfl (dd_X7_grow.at 21 rfl) ?_
      refine xx_iload_n C (dd_X7_grow.at 22 rfl) rfl ?_
      obtain ⟨v7, e8, hf⟩ := bdo_ hf
      refine xx_callVi C (ss_X2_together (bo_ok g6) e8) (dd_X7_grow.at 23 rfl) ck_1 rfl (sh_o (bo_ok g6)) kk_X2_together ki_X2_together lm_RX7_164 (lb_ rfl) rfl rfl (lb_ rfl) ?_
      exact xx_ireturn C (rt_iwp hf Q) (dd_X7_grow.at 24 rfl) rfl
    · refine xx_icmp_lt_f (tgt := 29) C (dd_X7_grow.at 12 rfl) (by decide) hc ?_
      refine xx_bipush C (dd_X7_grow.at 13 rfl) bq_m2 ?_
      exact xx_ireturn C (rt_iwp hf Q) (dd_X7_grow.at 14 rfl) rfl
