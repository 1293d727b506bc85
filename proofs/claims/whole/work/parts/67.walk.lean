theorem ss_X2_placesAbove_5 {Z : zz_} (C : cx_ Z mt_X2_placesAbove 0) {r9 : Int32} {x0 : Nat} {x1 : Int32} {x2 : Int32} {h : hh_}  (Q : rq_ Z (some (.int r9)) h) (ho0 : isO_ x0) : ∀ (n9 : Nat) (x3 : Int32) (x4 : Int32), ff_X2_placesAbove_5 x0 x1 x2 h n9 x3 x4 = some r9 → xx_ Z 5 [some (.ref x0), some (.int x1), some (.int x2), some (.int x3), some (.int x4)] [] h := by
  intro n9
  induction n9 with
  | zero =>
    intro x3 x4 hf
    exact absurd hf (by rw [ff_X2_placesAbove_5]; exact nofun)
  | succ n9 ih =>
    intro x3 x4 hf
    rw [ff_X2_placesAbove_5] at hf
    refine xx_iload C (dd_X2_placesAbove.at 4 rfl) rfl ?_
    refine xx_iconst C (dd_X2_placesAbove.at 5 rfl) ic_4 ?_
    rcases ifo_ hf with ⟨hc, hf⟩ | ⟨hc, hf⟩
    · refine xx_icmp_ge_t (tgt := 45) C (dd_X2_placesAbove.at 6 rfl) (by decide) hc ?_
      refine xx_iload_n C (dd_X2_placesAbove.at 28 rfl) rfl ?_
      exact xx_ireturn C (rt_ip hf Q) (dd_X2_placesAbove.at 29 rfl) rfl
    · refine xx_icmp_ge_f (tgt := 45) C (dd_X2_placesAbove.at 6 rfl) (by decide) hc ?_
      refine xx_aload_n C (dd_X2_placesAbove.at 7 rfl) rfl (isO_pos ho0) ?_
      refine xx_getR (j := 1) (r := (x0 + 7)) C ck_1 (lb_ rfl) lf_RX2_16 (sh_o ho0) rfl (rc_o1 ho0) (rf_o1 ho0) (dd_X2_placesAbove.at 8 rfl) ?_
      refine xx_iload_n C (dd_X2_placesAbove.at 9 rfl) rfl ?_
      obtain ⟨g1, hf⟩ := gd_ok hf
      refine xx_aaload (r := (x0 + 8 + Int32.toNatClampNeg x1)) C (dd_X2_placesAbove.at 10 rfl) (sh_o7 ho0) (bi_ok g1) (sh_lt (sh_oe7 ho0 (bi_ok g1))) rfl ?_
      refine xx_iload C (dd_X2_placesAbove.at 11 rfl) rfl ?_
      obtain ⟨g2, hf⟩ := gd_ok hf
      refine xx_iaload C (dd_X2_placesAbove.at 12 rfl) (sh_oe7 ho0 (bi_ok g1)) (bi_ok g2) ?_
      refine xx_aload_n C (dd_X2_placesAbove.at 13 rfl) rfl (isO_pos ho0) ?_
      refine xx_getR (j := 1) (r := (x0 + 7)) C ck_1 (lb_ rfl) lf_RX2_16 (sh_o ho0) rfl (rc_o1 ho0) (rf_o1 ho0) (dd_X2_placesAbove.at 14 rfl) ?_
      refine xx_iload_n C (dd_X2_placesAbove.at 15 rfl) rfl ?_
      obtain ⟨g3, hf⟩ := gd_ok hf
      refine xx_aaload (r := (x0 + 8 + Int32.toNatClampNeg x2)) C (dd_X2_placesAbove.at 16 rfl) (sh_o7 ho0) (bi_ok g3) (sh_lt (sh_oe7 ho0 (bi_ok g3))) rfl ?_
      refine xx_iload C (dd_X2_placesAbove.at 17 rfl) rfl ?_
      refine xx_iaload C (dd_X2_placesAbove.at 18 rfl) (sh_oe7 ho0 (bi_ok g3)) (bi_ok g2) ?_
      rcases ifo_ hf with ⟨hc, hf⟩ | ⟨hc, hf⟩
      · refine xx_icmp_le_t (tgt := 39) C (dd_X2_placesAbove.at 19 rfl) (by decide) hc ?_
        refine xx_iinc (v := _ + (1 : Int32)) (lv' := [_, _, _, _, _]) C (dd_X2_placesAbove.at 26 rfl) (lb_ rfl) rfl (by rw [ic_1]) rfl ?_
        refine xx_goto (tgt := 5) C (dd_X2_placesAbove.at 27 rfl) (by decide) ?_
        exact xx_mask [true, true, true, true, true] (ih _ _ hf)
      · refine xx_icmp_le_f (tgt := 39) C (dd_X2_placesAbove.at 19 rfl) (by decide) hc ?_
        refine xx_iload_n C (dd_X2_placesAbove.at 20 rfl) rfl ?_
        refine xx_iconst C (dd_X2_placesAbove.at 21 rfl) ic_1 ?_
        refine xx_iload C (dd_X2_placesAbove.at 22 rfl) rfl ?_
        refine xx_ishl C (dd_X2_placesAbove.at 23 rfl) ?_
        refine xx_ior C (dd_X2_placesAbove.at 24 rfl) ?_
        refine xx_istore_n (lv' := [_, _, _, _, _]) C (dd_X2_placesAbove.at 25 rfl) (lb_ rfl) rfl ?_
        refine xx_iinc (v := _ + (1 : Int32)) (lv' := [_, _, _, _, _]) C (dd_X2_placesAbove.at 26 rfl) (lb_ rfl) rfl (by rw [ic_1]) rfl ?_
        refine xx_goto (tgt := 5) C (dd_X2_placesAbove.at 27 rfl) (by decide) ?_
        exact xx_mask [true, true, true, true, true] (ih _ _ hf)
theorem ss_X2_placesAbove {l : Launch} {G : gt_} {o : Nat} {a1 : Int32} {a2 : Int32} {h : hh_} {r9 : Int32} (ho : isO_ o) (hf : ff_X2_placesAbove o a1 a2 h = some r9) : ok_ l G 0 mt_X2_placesAbove [.ref o, .int a1, .int a2] h (some (.int r9)) h := by
  refine ok_of pn_RX2 (lb_ rfl) (fun Z _ _ C Q => ?_)
  show xx_ Z 0 [some (.ref o), some (.int a1), some (.int a2), none, none] [] h
  unfold ff_X2_placesAbove at hf
  refine xx_iconst C (dd_X2_placesAbove.at 0 rfl) ic_0 ?_
  refine xx_istore_n (lv' := [_, _, _, _, _]) C (dd_X2_placesAbove.at 1 rfl) (lb_ rfl) rfl ?_
  refine xx_iconst C (dd_X2_placesAbove.at 2 rfl) ic_0 ?_
  refine xx_istore (lv' := [_, _, _, _, _]) C (dd_X2_placesAbove.at 3 rfl) (lb_ rfl) rfl ?_
  exact xx_mask [true, true, true, true, true] (ss_X2_placesAbove_5 C Q ho _ _ _ hf)
theorem ss_X7_tells_58 {Z : zz_} (C : cx_ Z mt_X7_tells 2) {r9 : Int32} {h9 : hh_} {x1 : Int32} {x5 : Int32} {h : hh_} {K58_154 : Int32 → Int32 → Option (Int32 × hh_)} (Q : rq_ Z (some (.int r9)) h9) (hK58_154 : ∀ (z3 : Int32) (z4 : Int32), K58_154 z3 z4 = some (r9, h9) → xx_ Z 154 [some (.ref 1), some (.int x1), none, some (.int z3), some (.int z4), some (.int x5), none] [] h) : ∀ (n9 : Nat) (x3 : Int32) (x4 : Int32) (x6 : Int32), ff_X7_tells_58 x1 x5 h K58_154 n9 x3 x4 x6 = some (r9, h9) → xx_ Z 58 [some (.ref 1), some (.int x1), none, some (.int x3), some (.int x4), some (.int x5), some (.int x6)] [] h := by
  intro n9
  induction n9 with
  | zero =>
    intro x3 x4 x6 hf
    exact absurd hf (by rw [ff_X7_tells_58]; exact nofun)
  | succ n9 ih =>
    intro x3 x4 x6 hf
    rw [ff_X7_tells_58] at hf
    refine xx_iload C (dd_X7_tells.at 33 rfl) rfl ?_
    refine xx_aload_n C (dd_X7_tells.at 34 rfl) rfl (Nat.le_of_ble_eq_true rfl) ?_
    obtain ⟨g4, hf⟩ := gd_ok hf
    refine xx_getR (j := 7) (r := h.2.2.1) C ck_6 (lb_ rfl) lf_RX7_55 sh_k1 rfl (lb_ rfl) rfl (dd_X7_tells.at 35 rfl) ?_
    refine xx_getR (j := 4) (r := (h.2.2.1 + 23)) C ck_1 (lb_ rfl) lf_RX7_118 (sh_o (bo_ok g4)) rfl (rc_o4 (bo_ok g4)) (rf_o4 (bo_ok g4)) (dd_X7_tells.at 36 rfl) ?_
    refine xx_iconst C (dd_X7_tells.at 37 rfl) ic_0 ?_
    refine xx_iaload C (dd_X7_tells.at 38 rfl) (sh_o23 (bo_ok g4)) (bi_ok (i := (0 : Int32)) (n := 3) rfl) ?_
    rcases ifo_ hf with ⟨hc, hf⟩ | ⟨hc, hf⟩
    · refine xx_icmp_ge_t (tgt := 154) C (dd_X7_tells.at 39 rfl) (by decide) hc ?_
      exact xx_mask [true, true, false, true, true, true, false] (hK58_154 _ _ hf)
    · refine xx_icmp_ge_f (tgt := 154) C (dd_X7_tells.at 39 rfl) (by decide) hc ?_
      refine xx_aload_n C (dd_X7_tells.at 40 rfl) rfl (Nat.le_of_ble_eq_true rfl) ?_
      refine xx_getR (j := 0) (r := 2) C ck_6 (lb_ rfl) lf_RX7_14 sh_k1 rfl (lb_ rfl) rfl (dd_X7_tells.at 41 rfl) ?_
      refine xx_getR (j := 0) (r := 3) C ck_4 (lb_ rfl) lf_RX7_79 sh_k2 rfl (lb_ rfl) rfl (dd_X7_tells.at 42 rfl) ?_
      refine xx_iload_n C (dd_X7_tells.at 43 rfl) rfl ?_
      obtain ⟨g5, hf⟩ := gd_ok hf
      refine xx_aaload (r := (4 + Int32.toNatClampNeg x1)) C (dd_X7_tells.at 44 rfl) sh_k3 (bi_ok g5) (sh_lt (sh_e3 (bi_ok g5))) rfl ?_
      refine xx_iload C (dd_X7_tells.at 45 rfl) rfl ?_
      obtain ⟨g6, hf⟩ := gd_ok hf
      refine xx_iaload C (dd_X7_tells.at 46 rfl) (sh_e3 (bi_ok g5)) (bi_ok g6) ?_
      refine xx_iconst C (dd_X7_tells.at 47 rfl) ic_1 ?_
      rcases ifo_ hf with ⟨hc, hf⟩ | ⟨hc, hf⟩
      · refine xx_icmp_ne_f (tgt := 148) C (dd_X7_tells.at 48 rfl) (by decide) (not_not_intro hc) ?_
        refine xx_aload_n C (dd_X7_tells.at 49 rfl) rfl (Nat.le_of_ble_eq_true rfl) ?_
        refine xx_getR (j := 0) (r := 2) C ck_6 (lb_ rfl) lf_RX7_14 sh_k1 rfl (lb_ rfl) rfl (dd_X7_tells.at 50 rfl) ?_
        refine xx_getR (j := 0) (r := 3) C ck_4 (lb_ rfl) lf_RX7_79 sh_k2 rfl (lb_ rfl) rfl (dd_X7_tells.at 51 rfl) ?_
        refine xx_iload_n C (dd_X7_tells.at 52 rfl) rfl ?_
        refine xx_aaload (r := (4 + Int32.toNatClampNeg x1)) C (dd_X7_tells.at 53 rfl) sh_k3 (bi_ok g5) (sh_lt (sh_e3 (bi_ok g5))) rfl ?_
        refine xx_iload C (dd_X7_tells.at 54 rfl) rfl ?_
        obtain ⟨g7, hf⟩ := gd_ok hf
        refine xx_iaload C (dd_X7_tells.at 55 rfl) (sh_e3 (bi_ok g5)) (bi_ok g7) ?_
        rcases ifo_ hf with ⟨hc, hf⟩ | ⟨hc, hf⟩
        · refine xx_if_ne_f (tgt := 148) C (dd_X7_tells.at 56 rfl) (by decide) (not_not_intro hc) ?_
          refine xx_iload_n C (dd_X7_tells.at 57 rfl) rfl ?_
          refine xx_aload_n C (dd_X7_tells.at 58 rfl) rfl (Nat.le_of_ble_eq_true rfl) ?_
          refine xx_getR (j := 7) (r := h.2.2.1) C ck_6 (lb_ rfl) lf_RX7_55 sh_k1 rfl (lb_ rfl) rfl (dd_X7_tells.at 59 rfl) ?_
          refine xx_iload C (dd_X7_tells.at 60 rfl) rfl ?_
          refine xx_iload C (dd_X7_tells.at 61 rfl) rfl ?_
          obtain ⟨v8, e9, hf⟩ := bdo_ hf
          refine xx_callVi C (ss_X2_placesAbove (bo_ok g4) e9) (dd_X7_tells.at 62 rfl) ck_1 rfl (sh_o (bo_ok g4)) kk_X2_placesAbove ki_X2_placesAbove lm_RX7_262 (lb_ rfl) rfl rfl (lb_ rfl) ?_
          refine xx_iand C (dd_X7_tells.at 63 rfl) ?_
          refine xx_istore_n (lv' := [_, _, _, _, _, _, _]) C (dd_X7_tells.at 64 rfl) (lb_ rfl) rfl ?_
          refine xx_iload C (dd_X7_tells.at 65 rfl) rfl ?_
          refine xx_aload_n C (dd_X7_tells.at 66 rfl) rfl (Nat.le_of_ble_eq_true rfl) ?_
          refine xx_getR (j := 7) (r := h.2.2.1) C ck_6 (lb_ rfl) lf_RX7_55 sh_k1 rfl (lb_ rfl) rfl (dd_X7_tells.at 67 rfl) ?_
          refine xx_iload C (dd_X7_tells.at 68 rfl) rfl ?_
          obtain ⟨v10, e11, hf⟩ := bdo_ hf
          refine xx_callVi C (ss_X2_together (bo_ok g4) e11) (dd_X7_tells.at 69 rfl) ck_1 rfl (sh_o (bo_ok g4)) kk_X2_together ki_X2_together lm_RX7_164 (lb_ rfl) rfl rfl (lb_ rfl) ?_
          refine xx_aload_n C (dd_X7_tells.at 70 rfl) rfl (Nat.le_of_ble_eq_true rfl) ?_
          refine xx_getR (j := 7) (r := h.2.2.1) C ck_6 (lb_ rfl) lf_RX7_55 sh_k1 rfl (lb_ rfl) rfl (dd_X7_tells.at 71 rfl) ?_
          refine xx_iload C (dd_X7_tells.at 72 rfl) rfl ?_
          obtain ⟨v12, e13, hf⟩ := bdo_ hf
          refine xx_callVi C (ss_X2_together (bo_ok g4) e13) (dd_X7_tells.at 73 rfl) ck_1 rfl (sh_o (bo_ok g4)) kk_X2_together ki_X2_together lm_RX7_164 (lb_ rfl) rfl rfl (lb_ rfl) ?_
          rcases ifo_ hf with ⟨hc, hf⟩ | ⟨hc, hf⟩
          · refine xx_icmp_le_t (tgt := 144) C (dd_X7_tells.at 74 rfl) (by decide) hc ?_
            refine xx_iconst C (dd_X7_tells.at 77 rfl) ic_0 ?_
            refine xx_iadd C (dd_X7_tells.at 78 rfl) ?_
            refine xx_istore (lv' := [_, _, _, _, _, _, _]) C (dd_X7_tells.at 79 rfl) (lb_ rfl) rfl ?_
            refine xx_iinc (v := _ + (1 : Int32)) (lv' := [_, _, _, _, _, _, _]) C (dd_X7_tells.at 80 rfl) (lb_ rfl) rfl (by rw [ic_1]) rfl ?_
            refine xx_goto (tgt := 58) C (dd_X7_tells.at 81 rfl) (by decide) ?_
            exact xx_mask [true, true, false, true, true, true, true] (ih _ _ _ hf)
          · refine xx_icmp_le_f (tgt := 144) C (dd_X7_tells.at 74 rfl) (by decide) hc ?_
            refine xx_iconst C (dd_X7_tells.at 75 rfl) ic_1 ?_
            refine xx_goto (tgt := 145) C (dd_X7_tells.at 76 rfl) (by decide) ?_
            refine xx_iadd C (dd_X7_tells.at 78 rfl) ?_
            refine xx_istore (lv' := [_, _, _, _, _, _, _]) C (dd_X7_tells.at 79 rfl) (lb_ rfl) rfl ?_
            refine xx_iinc (v := _ + (1 : Int32)) (lv' := [_, _, _, _, _, _, _]) C (dd_X7_tells.at 80 rfl) (lb_ rfl) rfl (by rw [ic_1]) rfl ?_
            refine xx_goto (tgt := 58) C (dd_X7_tells.at 81 rfl) (by decide) ?_
            exact xx_mask [true, true, false, true, true, true, true] (ih _ _ _ hf)
        · refine xx_if_ne_t (tgt := 148) C (dd_X7_tells.at 56 rfl) (by decide) hc ?_
          refine xx_iinc (v := _ + (1 : Int32)) (lv' := [_, _, _, _, _, _, _]) C (dd_X7_tells.at 80 rfl) (lb_ rfl) rfl (by rw [ic_1]) rfl ?_
          refine xx_goto (tgt := 58) C (dd_X7_tells.at 81 rfl) (by decide) ?_
          exact xx_mask [true, true, false, true, true, true, true] (ih _ _ _ hf)
      · refine xx_icmp_ne_t (tgt := 148) C (dd_X7_tells.at 48 rfl) (by decide) hc ?_
        refine xx_iinc (v := _ + (1 : Int32)) (lv' := [_, _, _, _, _, _, _]) C (dd_X7_tells.at 80 rfl) (lb_ rfl) rfl (by rw [ic_1]) rfl ?_
        refine xx_goto (tgt := 58) C (dd_X7_tells.at 81 rfl) (by decide) ?_
        exact xx_mask [true, true, false, true, true, true, true] (ih _ _ _ hf)
theorem ss_X7_tells_41 {Z : zz_} (C : cx_ Z mt_X7_tells 2) {r9 : Int32} {h9 : hh_} {x1 : Int32} {h : hh_}  (Q : rq_ Z (some (.int r9)) h9) : ∀ (n9 : Nat) (x3 : Int32) (x4 : Int32) (x5 : Int32), ff_X7_tells_41 x1 h n9 x3 x4 x5 = some (r9, h9) → xx_ Z 41 [some (.ref 1), some (.int x1), none, some (.int x3), some (.int x4), some (.int x5), none] [] h := by
  intro n9
  induction n9 with
  | zero =>
    intro x3 x4 x5 hf
    exact absurd hf (by rw [ff_X7_tells_41]; exact nofun)
  | succ n9 ih =>
    intro x3 x4 x5 hf
    rw [ff_X7_tells_41] at hf
    refine xx_iload C (dd_X7_tells.at 24 rfl) rfl ?_
    refine xx_aload_n C (dd_X7_tells.at 25 rfl) rfl (Nat.le_of_ble_eq_true rfl) ?_
    obtain ⟨g3, hf⟩ := gd_ok hf
    refine xx_getR (j := 7) (r := h.2.2.1) C ck_6 (lb_ rfl) lf_RX7_55 sh_k1 rfl (lb_ rfl) rfl (dd_X7_tells.at 26 rfl) ?_
    refine xx_getR (j := 4) (r := (h.2.2.1 + 23)) C ck_1 (lb_ rfl) lf_RX7_118 (sh_o (bo_ok g3)) rfl (rc_o4 (bo_ok g3)) (rf_o4 (bo_ok g3)) (dd_X7_tells.at 27 rfl) ?_
    refine xx_iconst C (dd_X7_tells.at 28 rfl) ic_0 ?_
    refine xx_iaload C (dd_X7_tells.at 29 rfl) (sh_o23 (bo_ok g3)) (bi_ok (i := (0 : Int32)) (n := 3) rfl) ?_
    rcases ifo_ hf with ⟨hc, hf⟩ | ⟨hc, hf⟩
    · refine xx_icmp_ge_t (tgt := 160) C (dd_X7_tells.at 30 rfl) (by decide) hc ?_
      refine xx_aload_n C (dd_X7_tells.at 84 rfl) rfl (Nat.le_of_ble_eq_true rfl) ?_
      refine xx_getR (j := 5) (r := 36) C ck_6 (lb_ rfl) lf_RX7_44 sh_k1 rfl (lb_ rfl) rfl (dd_X7_tells.at 85 rfl) ?_
      refine xx_iload C (dd_X7_tells.at 86 rfl) rfl ?_
      refine xx_callVi C (ss_X6_tell pe_) (dd_X7_tells.at 87 rfl) ck_5 rfl sh_k36 kk_X6_tell ki_X6_tell lm_RX7_83 (lb_ rfl) rfl rfl (lb_ rfl) ?_
      refine xx_pop C (dd_X7_tells.at 88 rfl) rfl ?_
      refine xx_iload_n C (dd_X7_tells.at 89 rfl) rfl ?_
      exact xx_ireturn C (rt_iwp hf Q) (dd_X7_tells.at 90 rfl) rfl
    · refine xx_icmp_ge_f (tgt := 160) C (dd_X7_tells.at 30 rfl) (by decide) hc ?_
      refine xx_iconst C (dd_X7_tells.at 31 rfl) ic_0 ?_
      refine xx_istore (lv' := [_, _, _, _, _, _, _]) C (dd_X7_tells.at 32 rfl) (lb_ rfl) rfl ?_
      refine xx_mask [true, true, false, true, true, true, true] (ss_X7_tells_58 C Q (fun u14 u15 hf => ?_) _ _ _ _ hf)
      refine xx_iinc (v := _ + (1 : Int32)) (lv' := [_, _, _, _, _, _, _]) C (dd_X7_tells.at 82 rfl) (lb_ rfl) rfl (by rw [ic_1]) rfl ?_
      refine xx_goto (tgt := 41) C (dd_X7_tells.at 83 rfl) (by decide) ?_
      exact xx_mask [true, true, false, true, true, true, false] (ih _ _ _ hf)
theorem ss_X7_tells {l : Launch} {G : gt_} {a1 : Int32} {h : hh_} {r9 : Int32} {h9 : hh_}  (hf : ff_X7_tells a1 h = some (r9, h9)) : ok_ l G 2 mt_X7_tells [.ref 1, .int a1] h (some (.int r9)) h9 := by
  refine ok_of pn_RX7 (lb_ rfl) (fun Z _ _ C Q => ?_)
  show xx_ Z 0 [some (.ref 1), some (.int a1), none, none, none, none, none] [] h
  unfold ff_X7_tells at hf
  refine xx_aload_n C (dd_X7_tells.at 0 rfl) rfl (Nat.le_of_ble_eq_true rfl) ?_
  refine xx_getR (j := 0) (r := 2) C ck_6 (lb_ rfl) lf_RX7_14 sh_k1 rfl (lb_ rfl) rfl (dd_X7_tells.at 1 rfl) ?_
  refine xx_iload_n C (dd_X7_tells.at 2 rfl) rfl ?_
  refine xx_callVi C (ss_X5r_allows rfl) (dd_X7_tells.at 3 rfl) ck_4 rfl sh_k2 kk_X5_allows ki_X5_allows lm_RX7_63 (lb_ rfl) rfl rfl (lb_ rfl) ?_
  rcases ifo_ hf with ⟨hc, hf⟩ | ⟨hc, hf⟩
  · refine xx_if_ne_f (tgt := 13) C (dd_X7_tells.at 4 rfl) (by decide) (not_not_intro hc) ?_
    refine xx_iconst C (dd_X7_tells.at 5 rfl) ic_m1 ?_
    exact xx_ireturn C (rt_iwp hf Q) (dd_X7_tells.at 6 rfl) rfl
  · refine xx_if_ne_t (tgt := 13) C (dd_X7_tells.at 4 rfl) (by decide) hc ?_
    refine xx_aload_n C (dd_X7_tells.at 7 rfl) rfl (Nat.le_of_ble_eq_true rfl) ?_
    refine xx_iload_n C (dd_X7_tells.at 8 rfl) rfl ?_
    obtain ⟨v1, e2, hf⟩ := bdo_ hf
    refine xx_callVi C (ss_X7_findingOfFates e2) (dd_X7_tells.at 9 rfl) ck_6 rfl sh_k1 kk_X7_findingOfFates ki_X7_findingOfFates lm_RX7_259 (lb_ rfl) rfl rfl (lb_ rfl) ?_
    refine xx_istore_n (lv' := [_, _, _, _, _, _, _]) C (dd_X7_tells.at 10 rfl) (lb_ rfl) rfl ?_
    refine xx_iload_n C (dd_X7_tells.at 11 rfl) rfl ?_
    rcases ifo_ hf with ⟨hc, hf⟩ | ⟨hc, hf⟩
    · refine xx_if_eq_t (tgt := 32) C (dd_X7_tells.at 12 rfl) (by decide) hc ?_
      refine xx_bipush C (dd_X7_tells.at 18 rfl) bq_15 ?_
      refine xx_istore_n (lv' := [_, _, _, _, _, _, _]) C (dd_X7_tells.at 19 rfl) (lb_ rfl) rfl ?_
      refine xx_iconst C (dd_X7_tells.at 20 rfl) ic_0 ?_
      refine xx_istore (lv' := [_, _, _, _, _, _, _]) C (dd_X7_tells.at 21 rfl) (lb_ rfl) rfl ?_
      refine xx_iconst C (dd_X7_tells.at 22 rfl) ic_0 ?_
      refine xx_istore (lv' := [_, _, _, _, _, _, _]) C (dd_X7_tells.at 23 rfl) (lb_ rfl) rfl ?_
      exact xx_mask [true, true, false, true, true, true, false] (ss_X7_tells_41 C Q _ _ _ _ hf)
    · refine xx_if_eq_f (tgt := 32) C (dd_X7_tells.at 12 rfl) (by decide) hc ?_
      refine xx_aload_n C (dd_X7_tells.at 13 rfl) rfl (Nat.le_of_ble_eq_true rfl) ?_
      refine xx_getR (j := 5) (r := 36) C ck_6 (lb_ rfl) lf_RX7_44 sh_k1 rfl (lb_ rfl) rfl (dd_X7_tells.at 14 rfl) ?_
      refine xx_iload_n C (dd_X7_tells.at 15 rfl) rfl ?_
      obtain ⟨v16, e17, hf⟩ := bdo_ hf
      refine xx_callVi C (ss_X6_refuse (pz_ e17)) (dd_X7_tells.at 16 rfl) ck_5 rfl sh_k36 kk_X6_refuse ki_X6_refuse lm_RX7_67 (lb_ rfl) rfl rfl (lb_ rfl) ?_
      exact xx_ireturn C (rt_iwp hf Q) (dd_X7_tells.at 17 rfl) rfl
theorem ss_X7_nextLot {l : Launch} {G : gt_} {a0 : Int64} {h : hh_} {r9 : Int64}  (hf : ff_X7_nextLot a0 = some r9) : ok_ l G 0 mt_X7_nextLot [.long a0] h (some (.long r9)) h := by
  refine ok_of pn_RX7 (lb_ rfl) (fun Z _ _ C Q => ?_)
  show xx_ Z 0 [some (.long a0), none] [] h
  unfold ff_X7_nextLot at hf
  refine xx_ldc2 C (dd_X7_nextLot.at 0 rfl) lc_RX7_310 ?_
  refine xx_lload_n C (dd_X7_nextLot.at 1 rfl) rfl ?_
  refine xx_lmul C (dd_X7_nextLot.at 2 rfl) ?_
  refine xx_ldc2 C (dd_X7_nextLot.at 3 rfl) lc_RX7_265 ?_
  refine xx_lrem C (dd_X7_nextLot.at 4 rfl) (by decide) ?_
  exact xx_lreturn C (rt_lp hf Q) (dd_X7_nextLot.at 5 rfl) rfl
theorem ss_X7_lots_92 {Z : zz_} (C : cx_ Z mt_X7_lots 5) {r9 : Int32} {h9 : hh_} {x1 : Int32} {x2 : Int32} {x4 : Int32} {x5 : Int32} {x8 : Int32} {x9 : Int32} {K92_149 : Int64 → hh_ → Option (Int32 × hh_)} (Q : rq_ Z (some (.int r9)) h9) (hK92_149 : ∀ (z6 : Int64) (h8 : hh_), K92_149 z6 h8 = some (r9, h9) → xx_ Z 149 [some (.ref 1), some (.int x1), some (.int x2), none, some (.int x4), some (.int x5), some (.long z6), none, some (.int x8), some (.int x9), none] [] h8) : ∀ (n9 : Nat) (x6 : Int64) (x10 : Int32) (h : hh_), ff_X7_lots_92 x1 x2 x4 x5 x8 x9 K92_149 n9 x6 x10 h = some (r9, h9) → xx_ Z 92 [some (.ref 1), some (.int x1), some (.int x2), none, some (.int x4), some (.int x5), some (.long x6), none, some (.int x8), some (.int x9), some (.int x10)] [] h := by
  intro n9
  induction n9 with
  | zero =>
    intro x6 x10 h hf
    exact absurd hf (by rw [ff_X7_lots_92]; exact nofun)
  | succ n9 ih =>
    intro x6 x10 h hf
    rw [ff_X7_lots_92] at hf
    refine xx_iload C (dd_X7_lots.at 53 rfl) rfl ?_
    refine xx_iconst C (dd_X7_lots.at 54 rfl) ic_4 ?_
    rcases ifo_ hf with ⟨hc, hf⟩ | ⟨hc, hf⟩
    · refine xx_icmp_ge_t (tgt := 149) C (dd_X7_lots.at 55 rfl) (by decide) hc ?_
      exact xx_mask [true, true, true, false, true, true, true, false, true, true, false] (hK92_149 _ _ hf)
    · refine xx_icmp_ge_f (tgt := 149) C (dd_X7_lots.at 55 rfl) (by decide) hc ?_
      refine xx_lload C (dd_X7_lots.at 56 rfl) rfl ?_
      obtain ⟨v7, e8, hf⟩ := bdo_ hf
      refine xx_callSl C (ss_X7_nextLot e8) (dd_X7_lots.at 57 rfl) kk_X7_nextLot ks_X7_nextLot lm_RX7_267 (lb_ rfl) rfl rfl (lb_ rfl) ?_
      refine xx_lstore (lv' := [_, _, _, _, _, _, _, _, _, _, _]) C (dd_X7_lots.at 58 rfl) (lb_ rfl) rfl ?_
      refine xx_aload_n C (dd_X7_lots.at 59 rfl) rfl (Nat.le_of_ble_eq_true rfl) ?_
      refine xx_getR (j := 6) (r := 38) C ck_6 (lb_ rfl) lf_RX7_48 sh_k1 rfl (lb_ rfl) rfl (dd_X7_lots.at 60 rfl) ?_
      refine xx_iload C (dd_X7_lots.at 61 rfl) rfl ?_
      refine xx_aload_n C (dd_X7_lots.at 62 rfl) rfl (Nat.le_of_ble_eq_true rfl) ?_
      obtain ⟨g9, hf⟩ := gd_ok hf
      refine xx_getR (j := 7) (r := h.2.2.1) C ck_6 (lb_ rfl) lf_RX7_55 sh_k1 rfl (lb_ rfl) rfl (dd_X7_lots.at 63 rfl) ?_
      refine xx_iload_n C (dd_X7_lots.at 64 rfl) rfl ?_
      refine xx_iload C (dd_X7_lots.at 65 rfl) rfl ?_
      refine xx_iload C (dd_X7_lots.at 66 rfl) rfl ?_
      refine xx_iconst C (dd_X7_lots.at 67 rfl) ic_0 ?_
      obtain ⟨v10, e11, hf⟩ := bdo_ hf
      refine xx_callVi C (ss_X2_least (bo_ok g9) e11) (dd_X7_lots.at 68 rfl) ck_1 rfl (sh_o (bo_ok g9)) kk_X2_least ki_X2_least lm_RX7_181 (lb_ rfl) rfl rfl (lb_ rfl) ?_
      refine xx_lload C (dd_X7_lots.at 69 rfl) rfl ?_
      refine xx_aload_n C (dd_X7_lots.at 70 rfl) rfl (Nat.le_of_ble_eq_true rfl) ?_
      refine xx_getR (j := 7) (r := h.2.2.1) C ck_6 (lb_ rfl) lf_RX7_55 sh_k1 rfl (lb_ rfl) rfl (dd_X7_lots.at 71 rfl) ?_
      refine xx_iload_n C (dd_X7_lots.at 72 rfl) rfl ?_
      refine xx_iload C (dd_X7_lots.at 73 rfl) rfl ?_
      refine xx_iload C (dd_X7_lots.at 74 rfl) rfl ?_
      obtain ⟨v12, e13, hf⟩ := bdo_ hf
      refine xx_callVi C (ss_X2_ways (bo_ok g9) e13) (dd_X7_lots.at 75 rfl) ck_1 rfl (sh_o (bo_ok g9)) kk_X2_ways ki_X2_ways lm_RX7_221 (lb_ rfl) rfl rfl (lb_ rfl) ?_
      refine xx_i2l C (dd_X7_lots.at 76 rfl) ?_
      obtain ⟨g14, hf⟩ := gd_ok hf
      refine xx_lrem C (dd_X7_lots.at 77 rfl) (bm_ok g14) ?_
      refine xx_l2i C (dd_X7_lots.at 78 rfl) ?_
      refine xx_iadd C (dd_X7_lots.at 79 rfl) ?_
      obtain ⟨g15, hf⟩ := gd_ok hf
      refine xx_iastore C (dd_X7_lots.at 80 rfl) sh_k38 (bi_ok g15) ?_
      refine xx_iinc (v := _ + (1 : Int32)) (lv' := [_, _, _, _, _, _, _, _, _, _, _]) C (dd_X7_lots.at 81 rfl) (lb_ rfl) rfl (by rw [ic_1]) rfl ?_
      refine xx_goto (tgt := 92) C (dd_X7_lots.at 82 rfl) (by decide) ?_
      exact xx_mask [true, true, true, false, true, true, true, false, true, true, true] (ih _ _ _ hf)
theorem ss_X7_lots_67 {Z : zz_} (C : cx_ Z mt_X7_lots 5) {r9 : Int32} {h9 : hh_} {x1 : Int32} {x2 : Int32} {x4 : Int32}  (Q : rq_ Z (some (.int r9)) h9) : ∀ (n9 : Nat) (x5 : Int32) (x6 : Int64) (x8 : Int32) (h : hh_), ff_X7_lots_67 x1 x2 x4 n9 x5 x6 x8 h = some (r9, h9) → xx_ Z 67 [some (.ref 1), some (.int x1), some (.int x2), none, some (.int x4), some (.int x5), some (.long x6), none, some (.int x8), none, none] [] h := by
  intro n9
  induction n9 with
  | zero =>
    intro x5 x6 x8 h hf
    exact absurd hf (by rw [ff_X7_lots_67]; exact nofun)
  | succ n9 ih =>
    intro x5 x6 x8 h hf
    rw [ff_X7_lots_67] at hf
    refine xx_iload C (dd_X7_lots.at 39 rfl) rfl ?_
    refine xx_iload_n C (dd_X7_lots.at 40 rfl) rfl ?_
    rcases ifo_ hf with ⟨hc, hf⟩ | ⟨hc, hf⟩
    · refine xx_icmp_ge_t (tgt := 184) C (dd_X7_lots.at 41 rfl) (by decide) hc ?_
      refine xx_iload C (dd_X7_lots.at 101 rfl) rfl ?_
      exact xx_ireturn C (rt_iwp hf Q) (dd_X7_lots.at 102 rfl) rfl
    · refine xx_icmp_ge_f (tgt := 184) C (dd_X7_lots.at 41 rfl) (by decide) hc ?_
      refine xx_lload C (dd_X7_lots.at 42 rfl) rfl ?_
      obtain ⟨v4, e5, hf⟩ := bdo_ hf
      refine xx_callSl C (ss_X7_nextLot e5) (dd_X7_lots.at 43 rfl) kk_X7_nextLot ks_X7_nextLot lm_RX7_267 (lb_ rfl) rfl rfl (lb_ rfl) ?_
      refine xx_lstore (lv' := [_, _, _, _, _, _, _, _, _, _, _]) C (dd_X7_lots.at 44 rfl) (lb_ rfl) rfl ?_
      refine xx_lload C (dd_X7_lots.at 45 rfl) rfl ?_
      refine xx_iload C (dd_X7_lots.at 46 rfl) rfl ?_
      refine xx_i2l C (dd_X7_lots.at 47 rfl) ?_
      obtain ⟨g6, hf⟩ := gd_ok hf
      refine xx_lrem C (dd_X7_lots.at 48 rfl) (bm_ok g6) ?_
      refine xx_l2i C (dd_X7_lots.at 49 rfl) ?_
      refine xx_istore (lv' := [_, _, _, _, _, _, _, _, _, _, _]) C (dd_X7_lots.at 50 rfl) (lb_ rfl) rfl ?_
      refine xx_iconst C (dd_X7_lots.at 51 rfl) ic_0 ?_
      refine xx_istore (lv' := [_, _, _, _, _, _, _, _, _, _, _]) C (dd_X7_lots.at 52 rfl) (lb_ rfl) rfl ?_
      refine xx_mask [true, true, true, false, true, true, true, false, true, true, true] (ss_X7_lots_92 C Q (fun u16 k17 hf => ?_) _ _ _ _ hf)
      refine xx_iload C (dd_X7_lots.at 83 rfl) rfl ?_
      refine xx_aload_n C (dd_X7_lots.at 84 rfl) rfl (Nat.le_of_ble_eq_true rfl) ?_
      obtain ⟨g18, hf⟩ := gd_ok hf
      refine xx_getR (j := 7) (r := k17.2.2.1) C ck_6 (lb_ rfl) lf_RX7_55 sh_k1 rfl (lb_ rfl) rfl (dd_X7_lots.at 85 rfl) ?_
      refine xx_iload_n C (dd_X7_lots.at 86 rfl) rfl ?_
      refine xx_aload_n C (dd_X7_lots.at 87 rfl) rfl (Nat.le_of_ble_eq_true rfl) ?_
      refine xx_getR (j := 6) (r := 38) C ck_6 (lb_ rfl) lf_RX7_48 sh_k1 rfl (lb_ rfl) rfl (dd_X7_lots.at 88 rfl) ?_
      obtain ⟨v19, e20, hf⟩ := bdo_ hf
      refine xx_callVi C (ss_X2_headsThatFit (bo_ok g18) (Nat.le_of_ble_eq_true rfl) e20) (dd_X7_lots.at 89 rfl) ck_1 rfl (sh_o (bo_ok g18)) kk_X2_headsThatFit ki_X2_headsThatFit lm_RX7_191 (lb_ rfl) rfl rfl (lb_ rfl) ?_
      refine xx_iconst C (dd_X7_lots.at 90 rfl) ic_1 ?_
      refine xx_iload C (dd_X7_lots.at 91 rfl) rfl ?_
      refine xx_ishl C (dd_X7_lots.at 92 rfl) ?_
      rcases ifo_ hf with ⟨hc, hf⟩ | ⟨hc, hf⟩
      · refine xx_icmp_ne_f (tgt := 174) C (dd_X7_lots.at 93 rfl) (by decide) (not_not_intro hc) ?_
        refine xx_iconst C (dd_X7_lots.at 94 rfl) ic_1 ?_
        refine xx_goto (tgt := 175) C (dd_X7_lots.at 95 rfl) (by decide) ?_
        refine xx_iadd C (dd_X7_lots.at 97 rfl) ?_
        refine xx_istore (lv' := [_, _, _, _, _, _, _, _, _, _, _]) C (dd_X7_lots.at 98 rfl) (lb_ rfl) rfl ?_
        refine xx_iinc (v := _ + (1 : Int32)) (lv' := [_, _, _, _, _, _, _, _, _, _, _]) C (dd_X7_lots.at 99 rfl) (lb_ rfl) rfl (by rw [ic_1]) rfl ?_
        refine xx_goto (tgt := 67) C (dd_X7_lots.at 100 rfl) (by decide) ?_
        exact xx_mask [true, true, true, false, true, true, true, false, true, false, false] (ih _ _ _ _ hf)
      · refine xx_icmp_ne_t (tgt := 174) C (dd_X7_lots.at 93 rfl) (by decide) hc ?_
        refine xx_iconst C (dd_X7_lots.at 96 rfl) ic_0 ?_
        refine xx_iadd C (dd_X7_lots.at 97 rfl) ?_
        refine xx_istore (lv' := [_, _, _, _, _, _, _, _, _, _, _]) C (dd_X7_lots.at 98 rfl) (lb_ rfl) rfl ?_
        refine xx_iinc (v := _ + (1 : Int32)) (lv' := [_, _, _, _, _, _, _, _, _, _, _]) C (dd_X7_lots.at 99 rfl) (lb_ rfl) rfl (by rw [ic_1]) rfl ?_
        refine xx_goto (tgt := 67) C (dd_X7_lots.at 100 rfl) (by decide) ?_
        exact xx_mask [true, true, true, false, true, true, true, false, true, false, false] (ih _ _ _ _ hf)
theorem ss_X7_lots {l : Launch} {G : gt_} {a1 : Int32} {a2 : Int32} {a3 : Int32} {h : hh_} {r9 : Int32} {h9 : hh_}  (hf : ff_X7_lots a1 a2 a3 h = some (r9, h9)) : ok_ l G 5 mt_X7_lots [.ref 1, .int a1, .int a2, .int a3] h (some (.int r9)) h9 := by
  refine ok_of pn_RX7 (lb_ rfl) (fun Z _ _ C Q => ?_)
  show xx_ Z 0 [some (.ref 1), some (.int a1), some (.int a2), some (.int a3), none, none, none, none, none, none, none] [] h
  unfold ff_X7_lots at hf
  refine xx_aload_n C (dd_X7_lots.at 0 rfl) rfl (Nat.le_of_ble_eq_true rfl) ?_
  obtain ⟨g1, hf⟩ := gd_ok hf
  refine xx_getR (j := 7) (r := h.2.2.1) C ck_6 (lb_ rfl) lf_RX7_55 sh_k1 rfl (lb_ rfl) rfl (dd_X7_lots.at 1 rfl) ?_
  refine xx_iconst C (dd_X7_lots.at 2 rfl) ic_1 ?_
  refine xx_iload_n C (dd_X7_lots.at 3 rfl) rfl ?_
  obtain ⟨v2, e3, hf⟩ := bdo_ hf
  refine xx_callVi C (ss_X2_has (bo_ok g1) e3) (dd_X7_lots.at 4 rfl) ck_1 rfl (sh_o (bo_ok g1)) kk_X2_has ki_X2_has lm_RX7_119 (lb_ rfl) rfl rfl (lb_ rfl) ?_
  rcases ifo_ hf with ⟨hc, hf⟩ | ⟨hc, hf⟩
  · refine xx_if_eq_t (tgt := 36) C (dd_X7_lots.at 5 rfl) (by decide) hc ?_
    refine xx_iconst C (dd_X7_lots.at 20 rfl) ic_m1 ?_
    exact xx_ireturn C (rt_iwp hf Q) (dd_X7_lots.at 21 rfl) rfl
  · refine xx_if_eq_f (tgt := 36) C (dd_X7_lots.at 5 rfl) (by decide) hc ?_
    refine xx_iload_n C (dd_X7_lots.at 6 rfl) rfl ?_
    refine xx_iconst C (dd_X7_lots.at 7 rfl) ic_1 ?_
    rcases ifo_ hf with ⟨hc, hf⟩ | ⟨hc, hf⟩
    · refine xx_icmp_lt_t (tgt := 36) C (dd_X7_lots.at 8 rfl) (by decide) hc ?_
      refine xx_iconst C (dd_X7_lots.at 20 rfl) ic_m1 ?_
      exact xx_ireturn C (rt_iwp hf Q) (dd_X7_lots.at 21 rfl) rfl
    · refine xx_icmp_lt_f (tgt := 36) C (dd_X7_lots.at 8 rfl) (by decide) hc ?_
      refine xx_iload_n C (dd_X7_lots.at 9 rfl) rfl ?_
      refine xx_iconst C (dd_X7_lots.at 10 rfl) ic_5 ?_
      rcases ifo_ hf with ⟨hc, hf⟩ | ⟨hc, hf⟩
      · refine xx_icmp_gt_t (tgt := 36) C (dd_X7_lots.at 11 rfl) (by decide) hc ?_
        refine xx_iconst C (dd_X7_lots.at 20 rfl) ic_m1 ?_
        exact xx_ireturn C (rt_iwp hf Q) (dd_X7_lots.at 21 rfl) rfl
      · refine xx_icmp_gt_f (tgt := 36) C (dd_X7_lots.at 11 rfl) (by decide) hc ?_
        refine xx_iload_n C (dd_X7_lots.at 12 rfl) rfl ?_
        refine xx_iconst C (dd_X7_lots.at 13 rfl) ic_1 ?_
        rcases ifo_ hf with ⟨hc, hf⟩ | ⟨hc, hf⟩
        · refine xx_icmp_lt_t (tgt := 36) C (dd_X7_lots.at 14 rfl) (by decide) hc ?_
          refine xx_iconst C (dd_X7_lots.at 20 rfl) ic_m1 ?_
          exact xx_ireturn C (rt_iwp hf Q) (dd_X7_lots.at 21 rfl) rfl
        · refine xx_icmp_lt_f (tgt := 36) C (dd_X7_lots.at 14 rfl) (by decide) hc ?_
          refine xx_iload_n C (dd_X7_lots.at 15 rfl) rfl ?_
          refine xx_i2l C (dd_X7_lots.at 16 rfl) ?_
          refine xx_ldc2 C (dd_X7_lots.at 17 rfl) lc_RX7_265 ?_
          refine xx_lcmp C (dd_X7_lots.at 18 rfl) ?_
          rcases ifo_ hf with ⟨hc, hf⟩ | ⟨hc, hf⟩
          · refine xx_if_lt_t (tgt := 38) C (dd_X7_lots.at 19 rfl) (by decide) hc ?_
            refine xx_aload_n C (dd_X7_lots.at 22 rfl) rfl (Nat.le_of_ble_eq_true rfl) ?_
            refine xx_getR (j := 7) (r := h.2.2.1) C ck_6 (lb_ rfl) lf_RX7_55 sh_k1 rfl (lb_ rfl) rfl (dd_X7_lots.at 23 rfl) ?_
            refine xx_getR (j := 4) (r := (h.2.2.1 + 23)) C ck_1 (lb_ rfl) lf_RX7_118 (sh_o (bo_ok g1)) rfl (rc_o4 (bo_ok g1)) (rf_o4 (bo_ok g1)) (dd_X7_lots.at 24 rfl) ?_
            refine xx_iconst C (dd_X7_lots.at 25 rfl) ic_0 ?_
            refine xx_iaload C (dd_X7_lots.at 26 rfl) (sh_o23 (bo_ok g1)) (bi_ok (i := (0 : Int32)) (n := 3) rfl) ?_
            refine xx_istore (lv' := [_, _, _, _, _, _, _, _, _, _, _]) C (dd_X7_lots.at 27 rfl) (lb_ rfl) rfl ?_
            refine xx_iload C (dd_X7_lots.at 28 rfl) rfl ?_
            rcases ifo_ hf with ⟨hc, hf⟩ | ⟨hc, hf⟩
            · refine xx_if_ne_f (tgt := 57) C (dd_X7_lots.at 29 rfl) (by decide) (not_not_intro hc) ?_
              refine xx_bipush C (dd_X7_lots.at 30 rfl) bq_m4 ?_
              exact xx_ireturn C (rt_iwp hf Q) (dd_X7_lots.at 31 rfl) rfl
            · refine xx_if_ne_t (tgt := 57) C (dd_X7_lots.at 29 rfl) (by decide) hc ?_
              refine xx_iconst C (dd_X7_lots.at 32 rfl) ic_0 ?_
              refine xx_istore (lv' := [_, _, _, _, _, _, _, _, _, _, _]) C (dd_X7_lots.at 33 rfl) (lb_ rfl) rfl ?_
              refine xx_iload_n C (dd_X7_lots.at 34 rfl) rfl ?_
              refine xx_i2l C (dd_X7_lots.at 35 rfl) ?_
              refine xx_lstore (lv' := [_, _, _, _, _, _, _, _, _, _, _]) C (dd_X7_lots.at 36 rfl) (lb_ rfl) rfl ?_
              refine xx_iconst C (dd_X7_lots.at 37 rfl) ic_0 ?_
              refine xx_istore (lv' := [_, _, _, _, _, _, _, _, _, _, _]) C (dd_X7_lots.at 38 rfl) (lb_ rfl) rfl ?_
              exact xx_mask [true, true, true, false, true, true, true, false, true, false, false] (ss_X7_lots_67 C Q _ _ _ _ _ hf)
          · refine xx_if_lt_f (tgt := 38) C (dd_X7_lots.at 19 rfl) (by decide) hc ?_
            refine xx_iconst C (dd_X7_lots.at 20 rfl) ic_m1 ?_
            exact xx_ireturn C (rt_iwp hf Q) (dd_X7_lots.at 21 rfl) rfl
theorem ss_X7_asked {l : Launch} {G : gt_} {h : hh_} {r9 : Int32}  (hf : ff_X7_asked h = r9) : ok_ l G 0 mt_X7_asked [.ref 1] h (some (.int r9)) h := by
  refine ok_of pn_RX7 (lb_ rfl) (fun Z _ _ C Q => ?_)
  show xx_ Z 0 [some (.ref 1)] [] h
  unfold ff_X7_asked at hf
  refine xx_aload_n C (dd_X7_asked.at 0 rfl) rfl (Nat.le_of_ble_eq_true rfl) ?_
  refine xx_getR (j := 5) (r := 36) C ck_6 (lb_ rfl) lf_RX7_44 sh_k1 rfl (lb_ rfl) rfl (dd_X7_asked.at 1 rfl) ?_
  refine xx_getI (j := 2) C ck_5 (lb_ rfl) lf_RX7_271 sh_k36 rfl (dd_X7_asked.at 2 rfl) ?_
  exact xx_ireturn C (rt_i hf Q) (dd_X7_asked.at 3 rfl) rfl
theorem ss_X7_upper {l : Launch} {G : gt_} {h : hh_} {r9 : Int64}  (hf : ff_X7_upper h = r9) : ok_ l G 0 mt_X7_upper [.ref 1] h (some (.long r9)) h := by
  refine ok_of pn_RX7 (lb_ rfl) (fun Z _ _ C Q => ?_)
  show xx_ Z 0 [some (.ref 1)] [] h
  unfold ff_X7_upper at hf
  refine xx_aload_n C (dd_X7_upper.at 0 rfl) rfl (Nat.le_of_ble_eq_true rfl) ?_
  refine xx_getR (j := 5) (r := 36) C ck_6 (lb_ rfl) lf_RX7_44 sh_k1 rfl (lb_ rfl) rfl (dd_X7_upper.at 1 rfl) ?_
  refine xx_getL (j := 3) C ck_5 (lb_ rfl) lf_RX7_274 sh_k36 rfl (dd_X7_upper.at 2 rfl) ?_
  exact xx_lreturn C (rt_l hf Q) (dd_X7_upper.at 3 rfl) rfl
theorem ss_X7_lower {l : Launch} {G : gt_} {h : hh_} {r9 : Int64}  (hf : ff_X7_lower h = r9) : ok_ l G 0 mt_X7_lower [.ref 1] h (some (.long r9)) h := by
  refine ok_of pn_RX7 (lb_ rfl) (fun Z _ _ C Q => ?_)
  show xx_ Z 0 [some (.ref 1)] [] h
  unfold ff_X7_lower at hf
  refine xx_aload_n C (dd_X7_lower.at 0 rfl) rfl (Nat.le_of_ble_eq_true rfl) ?_
  refine xx_getR (j := 5) (r := 36) C ck_6 (lb_ rfl) lf_RX7_44 sh_k1 rfl (lb_ rfl) rfl (dd_X7_lower.at 1 rfl) ?_
  refine xx_getL (j := 4) C ck_5 (lb_ rfl) lf_RX7_278 sh_k36 rfl (dd_X7_lower.at 2 rfl) ?_
  exact xx_lreturn C (rt_l hf Q) (dd_X7_lower.at 3 rfl) rfl
theorem ss_X7_presentOffices_4 {Z : zz_} (C : cx_ Z mt_X7_presentOffices 0) {r9 : Int32} {h : hh_}  (Q : rq_ Z (some (.int r9)) h) : ∀ (n9 : Nat) (x1 : Int32) (x2 : Int32), ff_X7_presentOffices_4 h n9 x1 x2 = some r9 → xx_ Z 4 [some (.ref 1), some (.int x1), some (.int x2)] [] h := by
  intro n9
  induction n9 with
  | zero =>
    intro x1 x2 hf
    exact absurd hf (by rw [ff_X7_presentOffices_4]; exact nofun)
  | succ n9 ih =>
    intro x1 x2 hf
    rw [ff_X7_presentOffices_4] at hf
    refine xx_iload_n C (dd_X7_presentOffices.at 4 rfl) rfl ?_
    refine xx_iconst C (dd_X7_presentOffices.at 5 rfl) ic_3 ?_
    rcases ifo_ hf with ⟨hc, hf⟩ | ⟨hc, hf⟩
    · refine xx_icmp_ge_t (tgt := 36) C (dd_X7_presentOffices.at 6 rfl) (by decide) hc ?_
      refine xx_iload_n C (dd_X7_presentOffices.at 22 rfl) rfl ?_
      exact xx_ireturn C (rt_ip hf Q) (dd_X7_presentOffices.at 23 rfl) rfl
    · refine xx_icmp_ge_f (tgt := 36) C (dd_X7_presentOffices.at 6 rfl) (by decide) hc ?_
      refine xx_iload_n C (dd_X7_presentOffices.at 7 rfl) rfl ?_
      refine xx_aload_n C (dd_X7_presentOffices.at 8 rfl) rfl (Nat.le_of_ble_eq_true rfl) ?_
      refine xx_getR (j := 2) (r := 18) C ck_6 (lb_ rfl) lf_RX7_23 sh_k1 rfl (lb_ rfl) rfl (dd_X7_presentOffices.at 9 rfl) ?_
      refine xx_iload_n C (dd_X7_presentOffices.at 10 rfl) rfl ?_
      obtain ⟨g1, hf⟩ := gd_ok hf
      refine xx_kaload (r := (89 + 3 * Int32.toNatClampNeg x2)) C (dd_X7_presentOffices.at 11 rfl) sh_k18 (bi_ok g1) (isK_lt (isK_in (bi_ok g1))) rfl ?_
      refine xx_getI (j := 2) C ck_0 (lb_ rfl) lf_RX7_114 (sh_kp (isK_in (bi_ok g1))) rfl (dd_X7_presentOffices.at 12 rfl) ?_
      refine xx_iconst C (dd_X7_presentOffices.at 13 rfl) ic_m1 ?_
      rcases ifo_ hf with ⟨hc, hf⟩ | ⟨hc, hf⟩
      · refine xx_icmp_ne_f (tgt := 27) C (dd_X7_presentOffices.at 14 rfl) (by decide) (not_not_intro hc) ?_
        refine xx_iconst C (dd_X7_presentOffices.at 15 rfl) ic_0 ?_
        refine xx_goto (tgt := 28) C (dd_X7_presentOffices.at 16 rfl) (by decide) ?_
        refine xx_iadd C (dd_X7_presentOffices.at 18 rfl) ?_
        refine xx_istore_n (lv' := [_, _, _]) C (dd_X7_presentOffices.at 19 rfl) (lb_ rfl) rfl ?_
        refine xx_iinc (v := _ + (1 : Int32)) (lv' := [_, _, _]) C (dd_X7_presentOffices.at 20 rfl) (lb_ rfl) rfl (by rw [ic_1]) rfl ?_
        refine xx_goto (tgt := 4) C (dd_X7_presentOffices.at 21 rfl) (by decide) ?_
        exact xx_mask [true, true, true] (ih _ _ hf)
      · refine xx_icmp_ne_t (tgt := 27) C (dd_X7_presentOffices.at 14 rfl) (by decide) hc ?_
        refine xx_iconst C (dd_X7_presentOffices.at 17 rfl) ic_1 ?_
        refine xx_iadd C (dd_X7_presentOffices.at 18 rfl) ?_
        refine xx_istore_n (lv' := [_, _, _]) C (dd_X7_presentOffices.at 19 rfl) (lb_ rfl) rfl ?_
        refine xx_iinc (v := _ + (1 : Int32)) (lv' := [_, _, _]) C (dd_X7_presentOffices.at 20 rfl) (lb_ rfl) rfl (by rw [ic_1]) rfl ?_
        refine xx_goto (tgt := 4) C (dd_X7_presentOffices.at 21 rfl) (by decide) ?_
        exact xx_mask [true, true, true] (ih _ _ hf)
theorem ss_X7_presentOffices {l : Launch} {G : gt_} {h : hh_} {r9 : Int32}  (hf : ff_X7_presentOffices h = some r9) : ok_ l G 0 mt_X7_presentOffices [.ref 1] h (some (.int r9)) h := by
  refine ok_of pn_RX7 (lb_ rfl) (fun Z _ _ C Q => ?_)
  show xx_ Z 0 [some (.ref 1), none, none] [] h
  unfold ff_X7_presentOffices at hf
  refine xx_iconst C (dd_X7_presentOffices.at 0 rfl) ic_0 ?_
  refine xx_istore_n (lv' := [_, _, _]) C (dd_X7_presentOffices.at 1 rfl) (lb_ rfl) rfl ?_
  refine xx_iconst C (dd_X7_presentOffices.at 2 rfl) ic_0 ?_
  refine xx_istore_n (lv' := [_, _, _]) C (dd_X7_presentOffices.at 3 rfl) (lb_ rfl) rfl ?_
  exact xx_mask [true, true, true] (ss_X7_presentOffices_4 C Q _ _ _ hf)
theorem ss_X5t_present_4 {Z : zz_} (C : cx_ Z mt_X5_present 1) {r9 : Int32} {h : hh_}  (Q : rq_ Z (some (.int r9)) h) : ∀ (n9 : Nat) (x1 : Int32) (x2 : Int32), ff_X5t_present_4 h n9 x1 x2 = some r9 → xx_ Z 4 [some (.ref 11), some (.int x1), some (.int x2)] [] h := by
  intro n9
  induction n9 with
  | zero =>
    intro x1 x2 hf
    exact absurd hf (by rw [ff_X5t_present_4]; exact nofun)
  | succ n9 ih =>
    intro x1 x2 hf
    rw [ff_X5t_present_4] at hf
    refine xx_iload_n C (dd_X5_present.at 4 rfl) rfl ?_
    refine xx_aload_n C (dd_X5_present.at 5 rfl) rfl (Nat.le_of_ble_eq_true rfl) ?_
    refine xx_getR (j := 1) (r := 17) C ck_4 (lb_ rfl) lf_RX5_16 sh_k11 rfl (lb_ rfl) rfl (dd_X5_present.at 6 rfl) ?_
    refine xx_alen (v := 4) C (dd_X5_present.at 7 rfl) sh_k17 rfl ?_
    rcases ifo_ hf with ⟨hc, hf⟩ | ⟨hc, hf⟩
    · refine xx_icmp_ge_t (tgt := 35) C (dd_X5_present.at 8 rfl) (by decide) hc ?_
      refine xx_iload_n C (dd_X5_present.at 21 rfl) rfl ?_
      exact xx_ireturn C (rt_ip hf Q) (dd_X5_present.at 22 rfl) rfl
    · refine xx_icmp_ge_f (tgt := 35) C (dd_X5_present.at 8 rfl) (by decide) hc ?_
      refine xx_iload_n C (dd_X5_present.at 9 rfl) rfl ?_
      refine xx_aload_n C (dd_X5_present.at 10 rfl) rfl (Nat.le_of_ble_eq_true rfl) ?_
      refine xx_iload_n C (dd_X5_present.at 11 rfl) rfl ?_
      obtain ⟨v1, e2, hf⟩ := bdo_ hf
      refine xx_callVi C (ss_X5t_lacks e2) (dd_X5_present.at 12 rfl) ck_4 rfl sh_k11 kk_X5_lacks ki_X5_lacks lm_RX5_20 (lb_ rfl) rfl rfl (lb_ rfl) ?_
      rcases ifo_ hf with ⟨hc, hf⟩ | ⟨hc, hf⟩
      · refine xx_if_eq_t (tgt := 26) C (dd_X5_present.at 13 rfl) (by decide) hc ?_
        refine xx_iconst C (dd_X5_present.at 16 rfl) ic_1 ?_
        refine xx_iadd C (dd_X5_present.at 17 rfl) ?_
        refine xx_istore_n (lv' := [_, _, _]) C (dd_X5_present.at 18 rfl) (lb_ rfl) rfl ?_
        refine xx_iinc (v := _ + (1 : Int32)) (lv' := [_, _, _]) C (dd_X5_present.at 19 rfl) (lb_ rfl) rfl (by rw [ic_1]) rfl ?_
        refine xx_goto (tgt := 4) C (dd_X5_present.at 20 rfl) (by decide) ?_
        exact xx_mask [true, true, true] (ih _ _ hf)
      · refine xx_if_eq_f (tgt := 26) C (dd_X5_present.at 13 rfl) (by decide) hc ?_
        refine xx_iconst C (dd_X5_present.at 14 rfl) ic_0 ?_
        refine xx_goto (tgt := 27) C (dd_X5_present.at 15 rfl) (by decide) ?_
        refine xx_iadd C (dd_X5_present.at 17 rfl) ?_
        refine xx_istore_n (lv' := [_, _, _]) C (dd_X5_present.at 18 rfl) (lb_ rfl) rfl ?_
        refine xx_iinc (v := _ + (1 : Int32)) (lv' := [_, _, _]) C (dd_X5_present.at 19 rfl) (lb_ rfl) rfl (by rw [ic_1]) rfl ?_
        refine xx_goto (tgt := 4) C (dd_X5_present.at 20 rfl) (by decide) ?_
        exact xx_mask [true, true, true] (ih _ _ hf)
theorem ss_X5t_present {l : Launch} {G : gt_} {h : hh_} {r9 : Int32}  (hf : ff_X5t_present h = some r9) : ok_ l G 1 mt_X5_present [.ref 11] h (some (.int r9)) h := by
  refine ok_of pn_RX5 (lb_ rfl) (fun Z _ _ C Q => ?_)
  show xx_ Z 0 [some (.ref 11), none, none] [] h
  unfold ff_X5t_present at hf
  refine xx_iconst C (dd_X5_present.at 0 rfl) ic_0 ?_
  refine xx_istore_n (lv' := [_, _, _]) C (dd_X5_present.at 1 rfl) (lb_ rfl) rfl ?_
  refine xx_iconst C (dd_X5_present.at 2 rfl) ic_0 ?_
  refine xx_istore_n (lv' := [_, _, _]) C (dd_X5_present.at 3 rfl) (lb_ rfl) rfl ?_
  exact xx_mask [true, true, true] (ss_X5t_present_4 C Q _ _ _ hf)
theorem ss_X5r_present_4 {Z : zz_} (C : cx_ Z mt_X5_present 1) {r9 : Int32} {h : hh_}  (Q : rq_ Z (some (.int r9)) h) : ∀ (n9 : Nat) (x1 : Int32) (x2 : Int32), ff_X5r_present_4 h n9 x1 x2 = some r9 → xx_ Z 4 [some (.ref 2), some (.int x1), some (.int x2)] [] h := by
  intro n9
  induction n9 with
  | zero =>
    intro x1 x2 hf
    exact absurd hf (by rw [ff_X5r_present_4]; exact nofun)
  | succ n9 ih =>
    intro x1 x2 hf
    rw [ff_X5r_present_4] at hf
    refine xx_iload_n C (dd_X5_present.at 4 rfl) rfl ?_
    refine xx_aload_n C (dd_X5_present.at 5 rfl) rfl (Nat.le_of_ble_eq_true rfl) ?_
    refine xx_getR (j := 1) (r := 10) C ck_4 (lb_ rfl) lf_RX5_16 sh_k2 rfl (lb_ rfl) rfl (dd_X5_present.at 6 rfl) ?_
    refine xx_alen (v := 6) C (dd_X5_present.at 7 rfl) sh_k10 rfl ?_
    rcases ifo_ hf with ⟨hc, hf⟩ | ⟨hc, hf⟩
    · refine xx_icmp_ge_t (tgt := 35) C (dd_X5_present.at 8 rfl) (by decide) hc ?_
      refine xx_iload_n C (dd_X5_present.at 21 rfl) rfl ?_
      exact xx_ireturn C (rt_ip hf Q) (dd_X5_present.at 22 rfl) rfl
    · refine xx_icmp_ge_f (tgt := 35) C (dd_X5_present.at 8 rfl) (by decide) hc ?_
      refine xx_iload_n C (dd_X5_present.at 9 rfl) rfl ?_
      refine xx_aload_n C (dd_X5_present.at 10 rfl) rfl (Nat.le_of_ble_eq_true rfl) ?_
      refine xx_iload_n C (dd_X5_present.at 11 rfl) rfl ?_
      obtain ⟨v1, e2, hf⟩ := bdo_ hf
      refine xx_callVi C (ss_X5r_lacks e2) (dd_X5_present.at 12 rfl) ck_4 rfl sh_k2 kk_X5_lacks ki_X5_lacks lm_RX5_20 (lb_ rfl) rfl rfl (lb_ rfl) ?_
      rcases ifo_ hf with ⟨hc, hf⟩ | ⟨hc, hf⟩
      · refine xx_if_eq_t (tgt := 26) C (dd_X5_present.at 13 rfl) (by decide) hc ?_
        refine xx_iconst C (dd_X5_present.at 16 rfl) ic_1 ?_
        refine xx_iadd C (dd_X5_present.at 17 rfl) ?_
        refine xx_istore_n (lv' := [_, _, _]) C (dd_X5_present.at 18 rfl) (lb_ rfl) rfl ?_
        refine xx_iinc (v := _ + (1 : Int32)) (lv' := [_, _, _]) C (dd_X5_present.at 19 rfl) (lb_ rfl) rfl (by rw [ic_1]) rfl ?_
        refine xx_goto (tgt := 4) C (dd_X5_present.at 20 rfl) (by decide) ?_
        exact xx_mask [true, true, true] (ih _ _ hf)
      · refine xx_if_eq_f (tgt := 26) C (dd_X5_present.at 13 rfl) (by decide) hc ?_
        refine xx_iconst C (dd_X5_present.at 14 rfl) ic_0 ?_
        refine xx_goto (tgt := 27) C (dd_X5_present.at 15 rfl) (by decide) ?_
        refine xx_iadd C (dd_X5_present.at 17 rfl) ?_
        refine xx_istore_n (lv' := [_, _, _]) C (dd_X5_present.at 18 rfl) (lb_ rfl) rfl ?_
        refine xx_iinc (v := _ + (1 : Int32)) (lv' := [_, _, _]) C (dd_X5_present.at 19 rfl) (lb_ rfl) rfl (by rw [ic_1]) rfl ?_
        refine xx_goto (tgt := 4) C (dd_X5_present.at 20 rfl) (by decide) ?_
        exact xx_mask [true, true, true] (ih _ _ hf)
theorem ss_X5r_present {l : Launch} {G : gt_} {h : hh_} {r9 : Int32}  (hf : ff_X5r_present h = some r9) : ok_ l G 1 mt_X5_present [.ref 2] h (some (.int r9)) h := by
  refine ok_of pn_RX5 (lb_ rfl) (fun Z _ _ C Q => ?_)
  show xx_ Z 0 [some (.ref 2), none, none] [] h
  unfold ff_X5r_present at hf
  refine xx_iconst C (dd_X5_present.at 0 rfl) ic_0 ?_
  refine xx_istore_n (lv' := [_, _, _]) C (dd_X5_present.at 1 rfl) (lb_ rfl) rfl ?_
  refine xx_iconst C (dd_X5_present.at 2 rfl) ic_0 ?_
  refine xx_istore_n (lv' := [_, _, _]) C (dd_X5_present.at 3 rfl) (lb_ rfl) rfl ?_
  exact xx_mask [true, true, true] (ss_X5r_present_4 C Q _ _ _ hf)
theorem ss_X2_wishingOnes_4 {Z : zz_} (C : cx_ Z mt_X2_wishingOnes 1) {r9 : Int32} {x0 : Nat} {h : hh_}  (Q : rq_ Z (some (.int r9)) h) (ho0 : isO_ x0) : ∀ (n9 : Nat) (x1 : Int32) (x2 : Int32), ff_X2_wishingOnes_4 x0 h n9 x1 x2 = some r9 → xx_ Z 4 [some (.ref x0), some (.int x1), some (.int x2)] [] h := by
  intro n9
  induction n9 with
  | zero =>
    intro x1 x2 hf
    exact absurd hf (by rw [ff_X2_wishingOnes_4]; exact nofun)
  | succ n9 ih =>
    intro x1 x2 hf
    rw [ff_X2_wishingOnes_4] at hf
    refine xx_iload_n C (dd_X2_wishingOnes.at 4 rfl) rfl ?_
    refine xx_aload_n C (dd_X2_wishingOnes.at 5 rfl) rfl (isO_pos ho0) ?_
    refine xx_getR (j := 4) (r := (x0 + 23)) C ck_1 (lb_ rfl) lf_RX2_25 (sh_o ho0) rfl (rc_o4 ho0) (rf_o4 ho0) (dd_X2_wishingOnes.at 6 rfl) ?_
    refine xx_iconst C (dd_X2_wishingOnes.at 7 rfl) ic_1 ?_
    refine xx_iaload C (dd_X2_wishingOnes.at 8 rfl) (sh_o23 ho0) (bi_ok (i := (1 : Int32)) (n := 3) rfl) ?_
    rcases ifo_ hf with ⟨hc, hf⟩ | ⟨hc, hf⟩
    · refine xx_icmp_ge_t (tgt := 37) C (dd_X2_wishingOnes.at 9 rfl) (by decide) hc ?_
      refine xx_iload_n C (dd_X2_wishingOnes.at 23 rfl) rfl ?_
      exact xx_ireturn C (rt_ip hf Q) (dd_X2_wishingOnes.at 24 rfl) rfl
    · refine xx_icmp_ge_f (tgt := 37) C (dd_X2_wishingOnes.at 9 rfl) (by decide) hc ?_
      refine xx_iload_n C (dd_X2_wishingOnes.at 10 rfl) rfl ?_
      refine xx_aload_n C (dd_X2_wishingOnes.at 11 rfl) rfl (isO_pos ho0) ?_
      refine xx_iload_n C (dd_X2_wishingOnes.at 12 rfl) rfl ?_
      refine xx_iconst C (dd_X2_wishingOnes.at 13 rfl) ic_3 ?_
      obtain ⟨v1, e2, hf⟩ := bdo_ hf
      refine xx_callVi C (ss_X2_isOf ho0 e2) (dd_X2_wishingOnes.at 14 rfl) ck_1 rfl (sh_o ho0) kk_X2_isOf ki_X2_isOf lm_RX2_36 (lb_ rfl) rfl rfl (lb_ rfl) ?_
      rcases ifo_ hf with ⟨hc, hf⟩ | ⟨hc, hf⟩
      · refine xx_if_eq_t (tgt := 28) C (dd_X2_wishingOnes.at 15 rfl) (by decide) hc ?_
        refine xx_iconst C (dd_X2_wishingOnes.at 18 rfl) ic_0 ?_
        refine xx_iadd C (dd_X2_wishingOnes.at 19 rfl) ?_
        refine xx_istore_n (lv' := [_, _, _]) C (dd_X2_wishingOnes.at 20 rfl) (lb_ rfl) rfl ?_
        refine xx_iinc (v := _ + (1 : Int32)) (lv' := [_, _, _]) C (dd_X2_wishingOnes.at 21 rfl) (lb_ rfl) rfl (by rw [ic_1]) rfl ?_
        refine xx_goto (tgt := 4) C (dd_X2_wishingOnes.at 22 rfl) (by decide) ?_
        exact xx_mask [true, true, true] (ih _ _ hf)
      · refine xx_if_eq_f (tgt := 28) C (dd_X2_wishingOnes.at 15 rfl) (by decide) hc ?_
        refine xx_iconst C (dd_X2_wishingOnes.at 16 rfl) ic_1 ?_
        refine xx_goto (tgt := 29) C (dd_X2_wishingOnes.at 17 rfl) (by decide) ?_
        refine xx_iadd C (dd_X2_wishingOnes.at 19 rfl) ?_
        refine xx_istore_n (lv' := [_, _, _]) C (dd_X2_wishingOnes.at 20 rfl) (lb_ rfl) rfl ?_
        refine xx_iinc (v := _ + (1 : Int32)) (lv' := [_, _, _]) C (dd_X2_wishingOnes.at 21 rfl) (lb_ rfl) rfl (by rw [ic_1]) rfl ?_
        refine xx_goto (tgt := 4) C (dd_X2_wishingOnes.at 22 rfl) (by decide) ?_
        exact xx_mask [true, true, true] (ih _ _ hf)
theorem ss_X2_wishingOnes {l : Launch} {G : gt_} {o : Nat} {h : hh_} {r9 : Int32} (ho : isO_ o) (hf : ff_X2_wishingOnes o h = some r9) : ok_ l G 1 mt_X2_wishingOnes [.ref o] h (some (.int r9)) h := by
  refine ok_of pn_RX2 (lb_ rfl) (fun Z _ _ C Q => ?_)
  show xx_ Z 0 [some (.ref o), none, none] [] h
  unfold ff_X2_wishingOnes at hf
  refine xx_iconst C (dd_X2_wishingOnes.at 0 rfl) ic_0 ?_
  refine xx_istore_n (lv' := [_, _, _]) C (dd_X2_wishingOnes.at 1 rfl) (lb_ rfl) rfl ?_
  refine xx_iconst C (dd_X2_wishingOnes.at 2 rfl) ic_0 ?_
  refine xx_istore_n (lv' := [_, _, _]) C (dd_X2_wishingOnes.at 3 rfl) (lb_ rfl) rfl ?_
  exact xx_mask [true, true, true] (ss_X2_wishingOnes_4 C Q ho _ _ _ hf)
theorem ss_X2_allTogether_4 {Z : zz_} (C : cx_ Z mt_X2_allTogether 1) {r9 : Int32} {x0 : Nat} {h : hh_}  (Q : rq_ Z (some (.int r9)) h) (ho0 : isO_ x0) : ∀ (n9 : Nat) (x1 : Int32) (x2 : Int32), ff_X2_allTogether_4 x0 h n9 x1 x2 = some r9 → xx_ Z 4 [some (.ref x0), some (.int x1), some (.int x2)] [] h := by
  intro n9
  induction n9 with
  | zero =>
    intro x1 x2 hf
    exact absurd hf (by rw [ff_X2_allTogether_4]; exact nofun)
  | succ n9 ih =>
    intro x1 x2 hf
    rw [ff_X2_allTogether_4] at hf
    refine xx_iload_n C (dd_X2_allTogether.at 4 rfl) rfl ?_
    refine xx_aload_n C (dd_X2_allTogether.at 5 rfl) rfl (isO_pos ho0) ?_
    refine xx_getR (j := 4) (r := (x0 + 23)) C ck_1 (lb_ rfl) lf_RX2_25 (sh_o ho0) rfl (rc_o4 ho0) (rf_o4 ho0) (dd_X2_allTogether.at 6 rfl) ?_
    refine xx_iconst C (dd_X2_allTogether.at 7 rfl) ic_0 ?_
    refine xx_iaload C (dd_X2_allTogether.at 8 rfl) (sh_o23 ho0) (bi_ok (i := (0 : Int32)) (n := 3) rfl) ?_
    rcases ifo_ hf with ⟨hc, hf⟩ | ⟨hc, hf⟩
    · refine xx_icmp_ge_t (tgt := 28) C (dd_X2_allTogether.at 9 rfl) (by decide) hc ?_
      refine xx_iload_n C (dd_X2_allTogether.at 18 rfl) rfl ?_
      exact xx_ireturn C (rt_ip hf Q) (dd_X2_allTogether.at 19 rfl) rfl
    · refine xx_icmp_ge_f (tgt := 28) C (dd_X2_allTogether.at 9 rfl) (by decide) hc ?_
      refine xx_iload_n C (dd_X2_allTogether.at 10 rfl) rfl ?_
      refine xx_aload_n C (dd_X2_allTogether.at 11 rfl) rfl (isO_pos ho0) ?_
      refine xx_iload_n C (dd_X2_allTogether.at 12 rfl) rfl ?_
      obtain ⟨v1, e2, hf⟩ := bdo_ hf
      refine xx_callVi C (ss_X2_together ho0 e2) (dd_X2_allTogether.at 13 rfl) ck_1 rfl (sh_o ho0) kk_X2_together ki_X2_together lm_RX2_32 (lb_ rfl) rfl rfl (lb_ rfl) ?_
      refine xx_iadd C (dd_X2_allTogether.at 14 rfl) ?_
      refine xx_istore_n (lv' := [_, _, _]) C (dd_X2_allTogether.at 15 rfl) (lb_ rfl) rfl ?_
      refine xx_iinc (v := _ + (1 : Int32)) (lv' := [_, _, _]) C (dd_X2_allTogether.at 16 rfl) (lb_ rfl) rfl (by rw [ic_1]) rfl ?_
      refine xx_goto (tgt := 4) C (dd_X2_allTogether.at 17 rfl) (by decide) ?_
      exact xx_mask [true, true, true] (ih _ _ hf)
theorem ss_X2_allTogether {l : Launch} {G : gt_} {o : Nat} {h : hh_} {r9 : Int32} (ho : isO_ o) (hf : ff_X2_allTogether o h = some r9) : ok_ l G 1 mt_X2_allTogether [.ref o] h (some (.int r9)) h := by
  refine ok_of pn_RX2 (lb_ rfl) (fun Z _ _ C Q => ?_)
  show xx_ Z 0 [some (.ref o), none, none] [] h
  unfold ff_X2_allTogether at hf
  refine xx_iconst C (dd_X2_allTogether.at 0 rfl) ic_0 ?_
  refine xx_istore_n (lv' := [_, _, _]) C (dd_X2_allTogether.at 1 rfl) (lb_ rfl) rfl ?_
  refine xx_iconst C (dd_X2_allTogether.at 2 rfl) ic_0 ?_
  refine xx_istore_n (lv' := [_, _, _]) C (dd_X2_allTogether.at 3 rfl) (lb_ rfl) rfl ?_
  exact xx_mask [true, true, true] (ss_X2_allTogether_4 C Q ho _ _ _ hf)
theorem ss_X7_count {l : Launch} {G : gt_} {a1 : Int32} {h : hh_} {r9 : Int32}  (hf : ff_X7_count a1 h = some r9) : ok_ l G 2 mt_X7_count [.ref 1, .int a1] h (some (.int r9)) h := by
  refine ok_of pn_RX7 (lb_ rfl) (fun Z _ _ C Q => ?_)
  show xx_ Z 0 [some (.ref 1), some (.int a1)] [] h
  unfold ff_X7_count at hf
  refine xx_iload_n C (dd_X7_count.at 0 rfl) rfl ?_
  rcases ifo_ hf with ⟨hc0, hf⟩ | ⟨hc0, hf⟩
  · refine xx_tabIn (off := 51) (tgt := 52) C (dd_X7_count.at 1 rfl) (by rw [hc0]; decide) (by rw [hc0]; decide) (by rw [hc0]; decide) (by decide) ?_
    refine xx_aload_n C (dd_X7_count.at 2 rfl) rfl (Nat.le_of_ble_eq_true rfl) ?_
    obtain ⟨g16, hf⟩ := gd_ok hf
    refine xx_getR (j := 7) (r := h.2.2.1) C ck_6 (lb_ rfl) lf_RX7_55 sh_k1 rfl (lb_ rfl) rfl (dd_X7_count.at 3 rfl) ?_
    refine xx_getR (j := 4) (r := (h.2.2.1 + 23)) C ck_1 (lb_ rfl) lf_RX7_118 (sh_o (bo_ok g16)) rfl (rc_o4 (bo_ok g16)) (rf_o4 (bo_ok g16)) (dd_X7_count.at 4 rfl) ?_
    refine xx_iconst C (dd_X7_count.at 5 rfl) ic_0 ?_
    refine xx_iaload C (dd_X7_count.at 6 rfl) (sh_o23 (bo_ok g16)) (bi_ok (i := (0 : Int32)) (n := 3) rfl) ?_
    exact xx_ireturn C (rt_ip hf Q) (dd_X7_count.at 7 rfl) rfl
  · rcases ifo_ hf with ⟨hc1, hf⟩ | ⟨hc1, hf⟩
    · refine xx_tabIn (off := 61) (tgt := 62) C (dd_X7_count.at 1 rfl) (by rw [hc1]; decide) (by rw [hc1]; decide) (by rw [hc1]; decide) (by decide) ?_
      refine xx_aload_n C (dd_X7_count.at 8 rfl) rfl (Nat.le_of_ble_eq_true rfl) ?_
      obtain ⟨g15, hf⟩ := gd_ok hf
      refine xx_getR (j := 7) (r := h.2.2.1) C ck_6 (lb_ rfl) lf_RX7_55 sh_k1 rfl (lb_ rfl) rfl (dd_X7_count.at 9 rfl) ?_
      refine xx_getR (j := 4) (r := (h.2.2.1 + 23)) C ck_1 (lb_ rfl) lf_RX7_118 (sh_o (bo_ok g15)) rfl (rc_o4 (bo_ok g15)) (rf_o4 (bo_ok g15)) (dd_X7_count.at 10 rfl) ?_
      refine xx_iconst C (dd_X7_count.at 11 rfl) ic_1 ?_
      refine xx_iaload C (dd_X7_count.at 12 rfl) (sh_o23 (bo_ok g15)) (bi_ok (i := (1 : Int32)) (n := 3) rfl) ?_
      exact xx_ireturn C (rt_ip hf Q) (dd_X7_count.at 13 rfl) rfl
    · rcases ifo_ hf with ⟨hc2, hf⟩ | ⟨hc2, hf⟩
      · refine xx_tabIn (off := 71) (tgt := 72) C (dd_X7_count.at 1 rfl) (by rw [hc2]; decide) (by rw [hc2]; decide) (by rw [hc2]; decide) (by decide) ?_
        refine xx_aload_n C (dd_X7_count.at 14 rfl) rfl (Nat.le_of_ble_eq_true rfl) ?_
        obtain ⟨g14, hf⟩ := gd_ok hf
        refine xx_getR (j := 7) (r := h.2.2.1) C ck_6 (lb_ rfl) lf_RX7_55 sh_k1 rfl (lb_ rfl) rfl (dd_X7_count.at 15 rfl) ?_
        refine xx_getR (j := 4) (r := (h.2.2.1 + 23)) C ck_1 (lb_ rfl) lf_RX7_118 (sh_o (bo_ok g14)) rfl (rc_o4 (bo_ok g14)) (rf_o4 (bo_ok g14)) (dd_X7_count.at 16 rfl) ?_
        refine xx_iconst C (dd_X7_count.at 17 rfl) ic_2 ?_
        refine xx_iaload C (dd_X7_count.at 18 rfl) (sh_o23 (bo_ok g14)) (bi_ok (i := (2 : Int32)) (n := 3) rfl) ?_
        exact xx_ireturn C (rt_ip hf Q) (dd_X7_count.at 19 rfl) rfl
      · rcases ifo_ hf with ⟨hc3, hf⟩ | ⟨hc3, hf⟩
        · refine xx_tabIn (off := 81) (tgt := 82) C (dd_X7_count.at 1 rfl) (by rw [hc3]; decide) (by rw [hc3]; decide) (by rw [hc3]; decide) (by decide) ?_
          refine xx_aload_n C (dd_X7_count.at 20 rfl) rfl (Nat.le_of_ble_eq_true rfl) ?_
          obtain ⟨g13, hf⟩ := gd_ok hf
          refine xx_getR (j := 7) (r := h.2.2.1) C ck_6 (lb_ rfl) lf_RX7_55 sh_k1 rfl (lb_ rfl) rfl (dd_X7_count.at 21 rfl) ?_
          refine xx_getI (j := 6) C ck_1 (lb_ rfl) lf_RX7_160 (sh_o (bo_ok g13)) rfl (dd_X7_count.at 22 rfl) ?_
          exact xx_ireturn C (rt_ip hf Q) (dd_X7_count.at 23 rfl) rfl
        · rcases ifo_ hf with ⟨hc4, hf⟩ | ⟨hc4, hf⟩
          · refine xx_tabIn (off := 89) (tgt := 90) C (dd_X7_count.at 1 rfl) (by rw [hc4]; decide) (by rw [hc4]; decide) (by rw [hc4]; decide) (by decide) ?_
            refine xx_aload_n C (dd_X7_count.at 24 rfl) rfl (Nat.le_of_ble_eq_true rfl) ?_
            obtain ⟨g10, hf⟩ := gd_ok hf
            refine xx_getR (j := 7) (r := h.2.2.1) C ck_6 (lb_ rfl) lf_RX7_55 sh_k1 rfl (lb_ rfl) rfl (dd_X7_count.at 25 rfl) ?_
            obtain ⟨v11, e12, hf⟩ := bdo_ hf
            refine xx_callVi C (ss_X2_allTogether (bo_ok g10) e12) (dd_X7_count.at 26 rfl) ck_1 rfl (sh_o (bo_ok g10)) kk_X2_allTogether ki_X2_allTogether lm_RX7_281 (lb_ rfl) rfl rfl (lb_ rfl) ?_
            exact xx_ireturn C (rt_ip hf Q) (dd_X7_count.at 27 rfl) rfl
          · rcases ifo_ hf with ⟨hc5, hf⟩ | ⟨hc5, hf⟩
            · refine xx_tabIn (off := 97) (tgt := 98) C (dd_X7_count.at 1 rfl) (by rw [hc5]; decide) (by rw [hc5]; decide) (by rw [hc5]; decide) (by decide) ?_
              refine xx_aload_n C (dd_X7_count.at 28 rfl) rfl (Nat.le_of_ble_eq_true rfl) ?_
              obtain ⟨g7, hf⟩ := gd_ok hf
              refine xx_getR (j := 7) (r := h.2.2.1) C ck_6 (lb_ rfl) lf_RX7_55 sh_k1 rfl (lb_ rfl) rfl (dd_X7_count.at 29 rfl) ?_
              obtain ⟨v8, e9, hf⟩ := bdo_ hf
              refine xx_callVi C (ss_X2_wishingOnes (bo_ok g7) e9) (dd_X7_count.at 30 rfl) ck_1 rfl (sh_o (bo_ok g7)) kk_X2_wishingOnes ki_X2_wishingOnes lm_RX7_284 (lb_ rfl) rfl rfl (lb_ rfl) ?_
              exact xx_ireturn C (rt_ip hf Q) (dd_X7_count.at 31 rfl) rfl
            · rcases ifo_ hf with ⟨hc6, hf⟩ | ⟨hc6, hf⟩
              · refine xx_tabIn (off := 105) (tgt := 106) C (dd_X7_count.at 1 rfl) (by rw [hc6]; decide) (by rw [hc6]; decide) (by rw [hc6]; decide) (by decide) ?_
                refine xx_aload_n C (dd_X7_count.at 32 rfl) rfl (Nat.le_of_ble_eq_true rfl) ?_
                refine xx_getR (j := 0) (r := 2) C ck_6 (lb_ rfl) lf_RX7_14 sh_k1 rfl (lb_ rfl) rfl (dd_X7_count.at 33 rfl) ?_
                obtain ⟨v5, e6, hf⟩ := bdo_ hf
                refine xx_callVi C (ss_X5r_present e6) (dd_X7_count.at 34 rfl) ck_4 rfl sh_k2 kk_X5_present ki_X5_present lm_RX7_287 (lb_ rfl) rfl rfl (lb_ rfl) ?_
                exact xx_ireturn C (rt_ip hf Q) (dd_X7_count.at 35 rfl) rfl
              · rcases ifo_ hf with ⟨hc7, hf⟩ | ⟨hc7, hf⟩
                · refine xx_tabIn (off := 113) (tgt := 114) C (dd_X7_count.at 1 rfl) (by rw [hc7]; decide) (by rw [hc7]; decide) (by rw [hc7]; decide) (by decide) ?_
                  refine xx_aload_n C (dd_X7_count.at 36 rfl) rfl (Nat.le_of_ble_eq_true rfl) ?_
                  refine xx_getR (j := 1) (r := 11) C ck_6 (lb_ rfl) lf_RX7_18 sh_k1 rfl (lb_ rfl) rfl (dd_X7_count.at 37 rfl) ?_
                  obtain ⟨v3, e4, hf⟩ := bdo_ hf
                  refine xx_callVi C (ss_X5t_present e4) (dd_X7_count.at 38 rfl) ck_4 rfl sh_k11 kk_X5_present ki_X5_present lm_RX7_287 (lb_ rfl) rfl rfl (lb_ rfl) ?_
                  exact xx_ireturn C (rt_ip hf Q) (dd_X7_count.at 39 rfl) rfl
                · rcases ifo_ hf with ⟨hc8, hf⟩ | ⟨hc8, hf⟩
                  · refine xx_tabIn (off := 121) (tgt := 122) C (dd_X7_count.at 1 rfl) (by rw [hc8]; decide) (by rw [hc8]; decide) (by rw [hc8]; decide) (by decide) ?_
                    refine xx_aload_n C (dd_X7_count.at 40 rfl) rfl (Nat.le_of_ble_eq_true rfl) ?_
                    obtain ⟨v1, e2, hf⟩ := bdo_ hf
                    refine xx_callVi C (ss_X7_presentOffices e2) (dd_X7_count.at 41 rfl) ck_6 rfl sh_k1 kk_X7_presentOffices ki_X7_presentOffices lm_RX7_290 (lb_ rfl) rfl rfl (lb_ rfl) ?_
                    exact xx_ireturn C (rt_ip hf Q) (dd_X7_count.at 42 rfl) rfl
                  · refine xx_tabOut (tgt := 127) C (dd_X7_count.at 1 rfl) (tab_out (n := 9) (fun k9 hk9 => by match k9, hk9 with | 0, _ => exact hc0 | 1, _ => exact hc1 | 2, _ => exact hc2 | 3, _ => exact hc3 | 4, _ => exact hc4 | 5, _ => exact hc5 | 6, _ => exact hc6 | 7, _ => exact hc7 | 8, _ => exact hc8 | k9 + 9, hk9 => exact absurd hk9 (by omega)) rfl) (by decide) ?_
                    refine xx_iconst C (dd_X7_count.at 43 rfl) ic_m1 ?_
                    exact xx_ireturn C (rt_ip hf Q) (dd_X7_count.at 44 rfl) rfl
theorem ss_X7_finding {l : Launch} {G : gt_} {h : hh_} {r9 : Int32}  (hf : ff_X7_finding h = r9) : ok_ l G 0 mt_X7_finding [.ref 1] h (some (.int r9)) h := by
  refine ok_of pn_RX7 (lb_ rfl) (fun Z _ _ C Q => ?_)
  show xx_ Z 0 [some (.ref 1)] [] h
  unfold ff_X7_finding at hf
  refine xx_aload_n C (dd_X7_finding.at 0 rfl) rfl (Nat.le_of_ble_eq_true rfl) ?_
  refine xx_getR (j := 5) (r := 36) C ck_6 (lb_ rfl) lf_RX7_44 sh_k1 rfl (lb_ rfl) rfl (dd_X7_finding.at 1 rfl) ?_
  refine xx_getI (j := 1) C ck_5 (lb_ rfl) lf_RX7_293 sh_k36 rfl (dd_X7_finding.at 2 rfl) ?_
  exact xx_ireturn C (rt_i hf Q) (dd_X7_finding.at 3 rfl) rfl
theorem ss_X7_findings {l : Launch} {G : gt_} {a1 : Int32} {h : hh_} {r9 : Int32}  (hf : ff_X7_findings a1 h = some r9) : ok_ l G 0 mt_X7_findings [.ref 1, .int a1] h (some (.int r9)) h := by
  refine ok_of pn_RX7 (lb_ rfl) (fun Z _ _ C Q => ?_)
  show xx_ Z 0 [some (.ref 1), some (.int a1)] [] h
  unfold ff_X7_findings at hf
  refine xx_iload_n C (dd_X7_findings.at 0 rfl) rfl ?_
  refine xx_iconst C (dd_X7_findings.at 1 rfl) ic_1 ?_
  rcases ifo_ hf with ⟨hc, hf⟩ | ⟨hc, hf⟩
  · refine xx_icmp_lt_t (tgt := 10) C (dd_X7_findings.at 2 rfl) (by decide) hc ?_
    refine xx_iconst C (dd_X7_findings.at 6 rfl) ic_m1 ?_
    exact xx_ireturn C (rt_ip hf Q) (dd_X7_findings.at 7 rfl) rfl
  · refine xx_icmp_lt_f (tgt := 10) C (dd_X7_findings.at 2 rfl) (by decide) hc ?_
    refine xx_iload_n C (dd_X7_findings.at 3 rfl) rfl ?_
    refine xx_iconst C (dd_X7_findings.at 4 rfl) ic_5 ?_
    rcases ifo_ hf with ⟨hc, hf⟩ | ⟨hc, hf⟩
    · refine xx_icmp_le_t (tgt := 12) C (dd_X7_findings.at 5 rfl) (by decide) hc ?_
      refine xx_aload_n C (dd_X7_findings.at 8 rfl) rfl (Nat.le_of_ble_eq_true rfl) ?_
      refine xx_getR (j := 5) (r := 36) C ck_6 (lb_ rfl) lf_RX7_44 sh_k1 rfl (lb_ rfl) rfl (dd_X7_findings.at 9 rfl) ?_
      refine xx_getR (j := 0) (r := 37) C ck_5 (lb_ rfl) lf_RX7_296 sh_k36 rfl (lb_ rfl) rfl (dd_X7_findings.at 10 rfl) ?_
      refine xx_iload_n C (dd_X7_findings.at 11 rfl) rfl ?_
      obtain ⟨g1, hf⟩ := gd_ok hf
      refine xx_iaload C (dd_X7_findings.at 12 rfl) sh_k37 (bi_ok g1) ?_
      exact xx_ireturn C (rt_ip hf Q) (dd_X7_findings.at 13 rfl) rfl
    · refine xx_icmp_le_f (tgt := 12) C (dd_X7_findings.at 5 rfl) (by decide) hc ?_
      refine xx_iconst C (dd_X7_findings.at 6 rfl) ic_m1 ?_
      exact xx_ireturn C (rt_ip hf Q) (dd_X7_findings.at 7 rfl) rfl
