theorem ss_X2_mix_15 {Z : zz_} (C : cx_ Z mt_X2_mix 2) {r9 : Int64} {x0 : Nat} {x3 : Int32} {h : hh_} {K15_42 : Int64 → Option (Int64)} (Q : rq_ Z (some (.long r9)) h) (ho0 : isO_ x0) (hK15_42 : ∀ (z1 : Int64), K15_42 z1 = some r9 → xx_ Z 42 [some (.ref x0), some (.long z1), none, some (.int x3), none] [] h) : ∀ (n9 : Nat) (x1 : Int64) (x4 : Int32), ff_X2_mix_15 x0 x3 h K15_42 n9 x1 x4 = some r9 → xx_ Z 15 [some (.ref x0), some (.long x1), none, some (.int x3), some (.int x4)] [] h := by
  intro n9
  induction n9 with
  | zero =>
    intro x1 x4 hf
    exact absurd hf (by rw [ff_X2_mix_15]; exact nofun)
  | succ n9 ih =>
    intro x1 x4 hf
    rw [ff_X2_mix_15] at hf
    refine xx_iload C (dd_X2_mix.at 10 rfl) rfl ?_
    refine xx_iconst C (dd_X2_mix.at 11 rfl) ic_5 ?_
    rcases ifo_ hf with ⟨hc, hf⟩ | ⟨hc, hf⟩
    · refine xx_icmp_gt_t (tgt := 42) C (dd_X2_mix.at 12 rfl) (by decide) hc ?_
      exact xx_mask [true, true, false, true, false] (hK15_42 _ hf)
    · refine xx_icmp_gt_f (tgt := 42) C (dd_X2_mix.at 12 rfl) (by decide) hc ?_
      refine xx_ldc2 C (dd_X2_mix.at 13 rfl) lc_RX2_43 ?_
      refine xx_lload_n C (dd_X2_mix.at 14 rfl) rfl ?_
      refine xx_lmul C (dd_X2_mix.at 15 rfl) ?_
      refine xx_aload_n C (dd_X2_mix.at 16 rfl) rfl (isO_pos ho0) ?_
      refine xx_iload_n C (dd_X2_mix.at 17 rfl) rfl ?_
      refine xx_iload C (dd_X2_mix.at 18 rfl) rfl ?_
      obtain ⟨v1, e2, hf⟩ := bdo_ hf
      refine xx_callVi C (ss_X2_ofHead ho0 e2) (dd_X2_mix.at 19 rfl) ck_1 rfl (sh_o ho0) kk_X2_ofHead ki_X2_ofHead lm_RX2_45 (lb_ rfl) rfl rfl (lb_ rfl) ?_
      refine xx_i2l C (dd_X2_mix.at 20 rfl) ?_
      refine xx_ladd C (dd_X2_mix.at 21 rfl) ?_
      refine xx_lstore_n (lv' := [_, _, _, _, _]) C (dd_X2_mix.at 22 rfl) (lb_ rfl) rfl ?_
      refine xx_iinc (v := _ + (1 : Int32)) (lv' := [_, _, _, _, _]) C (dd_X2_mix.at 23 rfl) (lb_ rfl) rfl (by rw [ic_1]) rfl ?_
      refine xx_goto (tgt := 15) C (dd_X2_mix.at 24 rfl) (by decide) ?_
      exact xx_mask [true, true, false, true, true] (ih _ _ hf)
theorem ss_X2_mix_2 {Z : zz_} (C : cx_ Z mt_X2_mix 2) {r9 : Int64} {x0 : Nat} {h : hh_} {K2_48 : Int64 → Option (Int64)} (Q : rq_ Z (some (.long r9)) h) (ho0 : isO_ x0) (hK2_48 : ∀ (z1 : Int64), K2_48 z1 = some r9 → xx_ Z 48 [some (.ref x0), some (.long z1), none, none, none] [] h) : ∀ (n9 : Nat) (x1 : Int64) (x3 : Int32), ff_X2_mix_2 x0 h K2_48 n9 x1 x3 = some r9 → xx_ Z 2 [some (.ref x0), some (.long x1), none, some (.int x3), none] [] h := by
  intro n9
  induction n9 with
  | zero =>
    intro x1 x3 hf
    exact absurd hf (by rw [ff_X2_mix_2]; exact nofun)
  | succ n9 ih =>
    intro x1 x3 hf
    rw [ff_X2_mix_2] at hf
    refine xx_iload_n C (dd_X2_mix.at 2 rfl) rfl ?_
    refine xx_aload_n C (dd_X2_mix.at 3 rfl) rfl (isO_pos ho0) ?_
    refine xx_getR (j := 4) (r := (x0 + 23)) C ck_1 (lb_ rfl) lf_RX2_25 (sh_o ho0) rfl (rc_o4 ho0) (rf_o4 ho0) (dd_X2_mix.at 4 rfl) ?_
    refine xx_iconst C (dd_X2_mix.at 5 rfl) ic_0 ?_
    refine xx_iaload C (dd_X2_mix.at 6 rfl) (sh_o23 ho0) (bi_ok (i := (0 : Int32)) (n := 3) rfl) ?_
    rcases ifo_ hf with ⟨hc, hf⟩ | ⟨hc, hf⟩
    · refine xx_icmp_ge_t (tgt := 48) C (dd_X2_mix.at 7 rfl) (by decide) hc ?_
      exact xx_mask [true, true, false, false, false] (hK2_48 _ hf)
    · refine xx_icmp_ge_f (tgt := 48) C (dd_X2_mix.at 7 rfl) (by decide) hc ?_
      refine xx_iconst C (dd_X2_mix.at 8 rfl) ic_0 ?_
      refine xx_istore (lv' := [_, _, _, _, _]) C (dd_X2_mix.at 9 rfl) (lb_ rfl) rfl ?_
      refine xx_mask [true, true, false, true, true] (ss_X2_mix_15 C Q ho0 (fun u3 hf => ?_) _ _ _ hf)
      refine xx_iinc (v := _ + (1 : Int32)) (lv' := [_, _, _, _, _]) C (dd_X2_mix.at 25 rfl) (lb_ rfl) rfl (by rw [ic_1]) rfl ?_
      refine xx_goto (tgt := 2) C (dd_X2_mix.at 26 rfl) (by decide) ?_
      exact xx_mask [true, true, false, true, false] (ih _ _ hf)
theorem ss_X2_mix_63 {Z : zz_} (C : cx_ Z mt_X2_mix 2) {r9 : Int64} {x0 : Nat} {x3 : Int32} {h : hh_} {K63_92 : Int64 → Option (Int64)} (Q : rq_ Z (some (.long r9)) h) (ho0 : isO_ x0) (hK63_92 : ∀ (z1 : Int64), K63_92 z1 = some r9 → xx_ Z 92 [some (.ref x0), some (.long z1), none, some (.int x3), none] [] h) : ∀ (n9 : Nat) (x1 : Int64) (x4 : Int32), ff_X2_mix_63 x0 x3 h K63_92 n9 x1 x4 = some r9 → xx_ Z 63 [some (.ref x0), some (.long x1), none, some (.int x3), some (.int x4)] [] h := by
  intro n9
  induction n9 with
  | zero =>
    intro x1 x4 hf
    exact absurd hf (by rw [ff_X2_mix_63]; exact nofun)
  | succ n9 ih =>
    intro x1 x4 hf
    rw [ff_X2_mix_63] at hf
    refine xx_iload C (dd_X2_mix.at 37 rfl) rfl ?_
    refine xx_iconst C (dd_X2_mix.at 38 rfl) ic_2 ?_
    rcases ifo_ hf with ⟨hc, hf⟩ | ⟨hc, hf⟩
    · refine xx_icmp_gt_t (tgt := 92) C (dd_X2_mix.at 39 rfl) (by decide) hc ?_
      exact xx_mask [true, true, false, true, false] (hK63_92 _ hf)
    · refine xx_icmp_gt_f (tgt := 92) C (dd_X2_mix.at 39 rfl) (by decide) hc ?_
      refine xx_ldc2 C (dd_X2_mix.at 40 rfl) lc_RX2_43 ?_
      refine xx_lload_n C (dd_X2_mix.at 41 rfl) rfl ?_
      refine xx_lmul C (dd_X2_mix.at 42 rfl) ?_
      refine xx_aload_n C (dd_X2_mix.at 43 rfl) rfl (isO_pos ho0) ?_
      refine xx_getR (j := 2) (r := (x0 + 13)) C ck_1 (lb_ rfl) lf_RX2_19 (sh_o ho0) rfl (rc_o2 ho0) (rf_o2 ho0) (dd_X2_mix.at 44 rfl) ?_
      refine xx_iload_n C (dd_X2_mix.at 45 rfl) rfl ?_
      obtain ⟨g5, hf⟩ := gd_ok hf
      refine xx_aaload (r := (x0 + 14 + Int32.toNatClampNeg x3)) C (dd_X2_mix.at 46 rfl) (sh_o13 ho0) (bi_ok g5) (sh_lt (sh_oe13 ho0 (bi_ok g5))) rfl ?_
      refine xx_iload C (dd_X2_mix.at 47 rfl) rfl ?_
      obtain ⟨g6, hf⟩ := gd_ok hf
      refine xx_iaload C (dd_X2_mix.at 48 rfl) (sh_oe13 ho0 (bi_ok g5)) (bi_ok g6) ?_
      refine xx_i2l C (dd_X2_mix.at 49 rfl) ?_
      refine xx_ladd C (dd_X2_mix.at 50 rfl) ?_
      refine xx_lstore_n (lv' := [_, _, _, _, _]) C (dd_X2_mix.at 51 rfl) (lb_ rfl) rfl ?_
      refine xx_iinc (v := _ + (1 : Int32)) (lv' := [_, _, _, _, _]) C (dd_X2_mix.at 52 rfl) (lb_ rfl) rfl (by rw [ic_1]) rfl ?_
      refine xx_goto (tgt := 63) C (dd_X2_mix.at 53 rfl) (by decide) ?_
      exact xx_mask [true, true, false, true, true] (ih _ _ hf)
theorem ss_X2_mix_50 {Z : zz_} (C : cx_ Z mt_X2_mix 2) {r9 : Int64} {x0 : Nat} {h : hh_} {K50_98 : Int64 → Option (Int64)} (Q : rq_ Z (some (.long r9)) h) (ho0 : isO_ x0) (hK50_98 : ∀ (z1 : Int64), K50_98 z1 = some r9 → xx_ Z 98 [some (.ref x0), some (.long z1), none, none, none] [] h) : ∀ (n9 : Nat) (x1 : Int64) (x3 : Int32), ff_X2_mix_50 x0 h K50_98 n9 x1 x3 = some r9 → xx_ Z 50 [some (.ref x0), some (.long x1), none, some (.int x3), none] [] h := by
  intro n9
  induction n9 with
  | zero =>
    intro x1 x3 hf
    exact absurd hf (by rw [ff_X2_mix_50]; exact nofun)
  | succ n9 ih =>
    intro x1 x3 hf
    rw [ff_X2_mix_50] at hf
    refine xx_iload_n C (dd_X2_mix.at 29 rfl) rfl ?_
    refine xx_aload_n C (dd_X2_mix.at 30 rfl) rfl (isO_pos ho0) ?_
    refine xx_getR (j := 4) (r := (x0 + 23)) C ck_1 (lb_ rfl) lf_RX2_25 (sh_o ho0) rfl (rc_o4 ho0) (rf_o4 ho0) (dd_X2_mix.at 31 rfl) ?_
    refine xx_iconst C (dd_X2_mix.at 32 rfl) ic_1 ?_
    refine xx_iaload C (dd_X2_mix.at 33 rfl) (sh_o23 ho0) (bi_ok (i := (1 : Int32)) (n := 3) rfl) ?_
    rcases ifo_ hf with ⟨hc, hf⟩ | ⟨hc, hf⟩
    · refine xx_icmp_ge_t (tgt := 98) C (dd_X2_mix.at 34 rfl) (by decide) hc ?_
      exact xx_mask [true, true, false, false, false] (hK50_98 _ hf)
    · refine xx_icmp_ge_f (tgt := 98) C (dd_X2_mix.at 34 rfl) (by decide) hc ?_
      refine xx_iconst C (dd_X2_mix.at 35 rfl) ic_0 ?_
      refine xx_istore (lv' := [_, _, _, _, _]) C (dd_X2_mix.at 36 rfl) (lb_ rfl) rfl ?_
      refine xx_mask [true, true, false, true, true] (ss_X2_mix_63 C Q ho0 (fun u7 hf => ?_) _ _ _ hf)
      refine xx_iinc (v := _ + (1 : Int32)) (lv' := [_, _, _, _, _]) C (dd_X2_mix.at 54 rfl) (lb_ rfl) rfl (by rw [ic_1]) rfl ?_
      refine xx_goto (tgt := 50) C (dd_X2_mix.at 55 rfl) (by decide) ?_
      exact xx_mask [true, true, false, true, false] (ih _ _ hf)
theorem ss_X2_mix_113 {Z : zz_} (C : cx_ Z mt_X2_mix 2) {r9 : Int64} {x0 : Nat} {x3 : Int32} {h : hh_} {K113_142 : Int64 → Option (Int64)} (Q : rq_ Z (some (.long r9)) h) (ho0 : isO_ x0) (hK113_142 : ∀ (z1 : Int64), K113_142 z1 = some r9 → xx_ Z 142 [some (.ref x0), some (.long z1), none, some (.int x3), none] [] h) : ∀ (n9 : Nat) (x1 : Int64) (x4 : Int32), ff_X2_mix_113 x0 x3 h K113_142 n9 x1 x4 = some r9 → xx_ Z 113 [some (.ref x0), some (.long x1), none, some (.int x3), some (.int x4)] [] h := by
  intro n9
  induction n9 with
  | zero =>
    intro x1 x4 hf
    exact absurd hf (by rw [ff_X2_mix_113]; exact nofun)
  | succ n9 ih =>
    intro x1 x4 hf
    rw [ff_X2_mix_113] at hf
    refine xx_iload C (dd_X2_mix.at 66 rfl) rfl ?_
    refine xx_iconst C (dd_X2_mix.at 67 rfl) ic_4 ?_
    rcases ifo_ hf with ⟨hc, hf⟩ | ⟨hc, hf⟩
    · refine xx_icmp_gt_t (tgt := 142) C (dd_X2_mix.at 68 rfl) (by decide) hc ?_
      exact xx_mask [true, true, false, true, false] (hK113_142 _ hf)
    · refine xx_icmp_gt_f (tgt := 142) C (dd_X2_mix.at 68 rfl) (by decide) hc ?_
      refine xx_ldc2 C (dd_X2_mix.at 69 rfl) lc_RX2_43 ?_
      refine xx_lload_n C (dd_X2_mix.at 70 rfl) rfl ?_
      refine xx_lmul C (dd_X2_mix.at 71 rfl) ?_
      refine xx_aload_n C (dd_X2_mix.at 72 rfl) rfl (isO_pos ho0) ?_
      refine xx_getR (j := 3) (r := (x0 + 18)) C ck_1 (lb_ rfl) lf_RX2_22 (sh_o ho0) rfl (rc_o3 ho0) (rf_o3 ho0) (dd_X2_mix.at 73 rfl) ?_
      refine xx_iload_n C (dd_X2_mix.at 74 rfl) rfl ?_
      obtain ⟨g9, hf⟩ := gd_ok hf
      refine xx_aaload (r := (x0 + 19 + Int32.toNatClampNeg x3)) C (dd_X2_mix.at 75 rfl) (sh_o18 ho0) (bi_ok g9) (sh_lt (sh_oe18 ho0 (bi_ok g9))) rfl ?_
      refine xx_iload C (dd_X2_mix.at 76 rfl) rfl ?_
      obtain ⟨g10, hf⟩ := gd_ok hf
      refine xx_iaload C (dd_X2_mix.at 77 rfl) (sh_oe18 ho0 (bi_ok g9)) (bi_ok g10) ?_
      refine xx_i2l C (dd_X2_mix.at 78 rfl) ?_
      refine xx_ladd C (dd_X2_mix.at 79 rfl) ?_
      refine xx_lstore_n (lv' := [_, _, _, _, _]) C (dd_X2_mix.at 80 rfl) (lb_ rfl) rfl ?_
      refine xx_iinc (v := _ + (1 : Int32)) (lv' := [_, _, _, _, _]) C (dd_X2_mix.at 81 rfl) (lb_ rfl) rfl (by rw [ic_1]) rfl ?_
      refine xx_goto (tgt := 113) C (dd_X2_mix.at 82 rfl) (by decide) ?_
      exact xx_mask [true, true, false, true, true] (ih _ _ hf)
theorem ss_X2_mix_100 {Z : zz_} (C : cx_ Z mt_X2_mix 2) {r9 : Int64} {x0 : Nat} {h : hh_}  (Q : rq_ Z (some (.long r9)) h) (ho0 : isO_ x0) : ∀ (n9 : Nat) (x1 : Int64) (x3 : Int32), ff_X2_mix_100 x0 h n9 x1 x3 = some r9 → xx_ Z 100 [some (.ref x0), some (.long x1), none, some (.int x3), none] [] h := by
  intro n9
  induction n9 with
  | zero =>
    intro x1 x3 hf
    exact absurd hf (by rw [ff_X2_mix_100]; exact nofun)
  | succ n9 ih =>
    intro x1 x3 hf
    rw [ff_X2_mix_100] at hf
    refine xx_iload_n C (dd_X2_mix.at 58 rfl) rfl ?_
    refine xx_aload_n C (dd_X2_mix.at 59 rfl) rfl (isO_pos ho0) ?_
    refine xx_getR (j := 4) (r := (x0 + 23)) C ck_1 (lb_ rfl) lf_RX2_25 (sh_o ho0) rfl (rc_o4 ho0) (rf_o4 ho0) (dd_X2_mix.at 60 rfl) ?_
    refine xx_iconst C (dd_X2_mix.at 61 rfl) ic_2 ?_
    refine xx_iaload C (dd_X2_mix.at 62 rfl) (sh_o23 ho0) (bi_ok (i := (2 : Int32)) (n := 3) rfl) ?_
    rcases ifo_ hf with ⟨hc, hf⟩ | ⟨hc, hf⟩
    · refine xx_icmp_ge_t (tgt := 148) C (dd_X2_mix.at 63 rfl) (by decide) hc ?_
      refine xx_lload_n C (dd_X2_mix.at 85 rfl) rfl ?_
      exact xx_lreturn C (rt_lp hf Q) (dd_X2_mix.at 86 rfl) rfl
    · refine xx_icmp_ge_f (tgt := 148) C (dd_X2_mix.at 63 rfl) (by decide) hc ?_
      refine xx_iconst C (dd_X2_mix.at 64 rfl) ic_0 ?_
      refine xx_istore (lv' := [_, _, _, _, _]) C (dd_X2_mix.at 65 rfl) (lb_ rfl) rfl ?_
      refine xx_mask [true, true, false, true, true] (ss_X2_mix_113 C Q ho0 (fun u11 hf => ?_) _ _ _ hf)
      refine xx_iinc (v := _ + (1 : Int32)) (lv' := [_, _, _, _, _]) C (dd_X2_mix.at 83 rfl) (lb_ rfl) rfl (by rw [ic_1]) rfl ?_
      refine xx_goto (tgt := 100) C (dd_X2_mix.at 84 rfl) (by decide) ?_
      exact xx_mask [true, true, false, true, false] (ih _ _ hf)
theorem ss_X2_mix {l : Launch} {G : gt_} {o : Nat} {a1 : Int64} {h : hh_} {r9 : Int64} (ho : isO_ o) (hf : ff_X2_mix o a1 h = some r9) : ok_ l G 2 mt_X2_mix [.ref o, .long a1] h (some (.long r9)) h := by
  refine ok_of pn_RX2 (lb_ rfl) (fun Z _ _ C Q => ?_)
  show xx_ Z 0 [some (.ref o), some (.long a1), none, none, none] [] h
  unfold ff_X2_mix at hf
  refine xx_iconst C (dd_X2_mix.at 0 rfl) ic_0 ?_
  refine xx_istore_n (lv' := [_, _, _, _, _]) C (dd_X2_mix.at 1 rfl) (lb_ rfl) rfl ?_
  refine xx_mask [true, true, false, true, false] (ss_X2_mix_2 C Q ho (fun u4 hf => ?_) _ _ _ hf)
  refine xx_iconst C (dd_X2_mix.at 27 rfl) ic_0 ?_
  refine xx_istore_n (lv' := [_, _, _, _, _]) C (dd_X2_mix.at 28 rfl) (lb_ rfl) rfl ?_
  refine xx_mask [true, true, false, true, false] (ss_X2_mix_50 C Q ho (fun u8 hf => ?_) _ _ _ hf)
  refine xx_iconst C (dd_X2_mix.at 56 rfl) ic_0 ?_
  refine xx_istore_n (lv' := [_, _, _, _, _]) C (dd_X2_mix.at 57 rfl) (lb_ rfl) rfl ?_
  exact xx_mask [true, true, false, true, false] (ss_X2_mix_100 C Q ho _ _ _ hf)
theorem ss_X5r_mix_28 {Z : zz_} (C : cx_ Z mt_X5_mix 0) {r9 : Int64} {x3 : Int32} {h : hh_} {K28_62 : Int64 → Option (Int64)} (Q : rq_ Z (some (.long r9)) h) (hK28_62 : ∀ (z1 : Int64), K28_62 z1 = some r9 → xx_ Z 62 [some (.ref 2), some (.long z1), none, some (.int x3), none] [] h) : ∀ (n9 : Nat) (x1 : Int64) (x4 : Int32), ff_X5r_mix_28 x3 h K28_62 n9 x1 x4 = some r9 → xx_ Z 28 [some (.ref 2), some (.long x1), none, some (.int x3), some (.int x4)] [] h := by
  intro n9
  induction n9 with
  | zero =>
    intro x1 x4 hf
    exact absurd hf (by rw [ff_X5r_mix_28]; exact nofun)
  | succ n9 ih =>
    intro x1 x4 hf
    rw [ff_X5r_mix_28] at hf
    refine xx_iload C (dd_X5_mix.at 19 rfl) rfl ?_
    refine xx_aload_n C (dd_X5_mix.at 20 rfl) rfl (Nat.le_of_ble_eq_true rfl) ?_
    refine xx_getR (j := 1) (r := 10) C ck_4 (lb_ rfl) lf_RX5_16 sh_k2 rfl (lb_ rfl) rfl (dd_X5_mix.at 21 rfl) ?_
    refine xx_iload_n C (dd_X5_mix.at 22 rfl) rfl ?_
    obtain ⟨g2, hf⟩ := gd_ok hf
    refine xx_iaload C (dd_X5_mix.at 23 rfl) sh_k10 (bi_ok g2) ?_
    rcases ifo_ hf with ⟨hc, hf⟩ | ⟨hc, hf⟩
    · refine xx_icmp_ge_t (tgt := 62) C (dd_X5_mix.at 24 rfl) (by decide) hc ?_
      exact xx_mask [true, true, false, true, false] (hK28_62 _ hf)
    · refine xx_icmp_ge_f (tgt := 62) C (dd_X5_mix.at 24 rfl) (by decide) hc ?_
      refine xx_ldc2 C (dd_X5_mix.at 25 rfl) lc_RX5_24 ?_
      refine xx_lload_n C (dd_X5_mix.at 26 rfl) rfl ?_
      refine xx_lmul C (dd_X5_mix.at 27 rfl) ?_
      refine xx_aload_n C (dd_X5_mix.at 28 rfl) rfl (Nat.le_of_ble_eq_true rfl) ?_
      refine xx_getR (j := 0) (r := 3) C ck_4 (lb_ rfl) lf_RX5_11 sh_k2 rfl (lb_ rfl) rfl (dd_X5_mix.at 29 rfl) ?_
      refine xx_iload_n C (dd_X5_mix.at 30 rfl) rfl ?_
      refine xx_aaload (r := (4 + Int32.toNatClampNeg x3)) C (dd_X5_mix.at 31 rfl) sh_k3 (bi_ok g2) (sh_lt (sh_e3 (bi_ok g2))) rfl ?_
      refine xx_iload C (dd_X5_mix.at 32 rfl) rfl ?_
      obtain ⟨g3, hf⟩ := gd_ok hf
      refine xx_iaload C (dd_X5_mix.at 33 rfl) (sh_e3 (bi_ok g2)) (bi_ok g3) ?_
      refine xx_i2l C (dd_X5_mix.at 34 rfl) ?_
      refine xx_ladd C (dd_X5_mix.at 35 rfl) ?_
      refine xx_lstore_n (lv' := [_, _, _, _, _]) C (dd_X5_mix.at 36 rfl) (lb_ rfl) rfl ?_
      refine xx_iinc (v := _ + (1 : Int32)) (lv' := [_, _, _, _, _]) C (dd_X5_mix.at 37 rfl) (lb_ rfl) rfl (by rw [ic_1]) rfl ?_
      refine xx_goto (tgt := 28) C (dd_X5_mix.at 38 rfl) (by decide) ?_
      exact xx_mask [true, true, false, true, true] (ih _ _ hf)
theorem ss_X5r_mix_2 {Z : zz_} (C : cx_ Z mt_X5_mix 0) {r9 : Int64} {h : hh_}  (Q : rq_ Z (some (.long r9)) h) : ∀ (n9 : Nat) (x1 : Int64) (x3 : Int32), ff_X5r_mix_2 h n9 x1 x3 = some r9 → xx_ Z 2 [some (.ref 2), some (.long x1), none, some (.int x3), none] [] h := by
  intro n9
  induction n9 with
  | zero =>
    intro x1 x3 hf
    exact absurd hf (by rw [ff_X5r_mix_2]; exact nofun)
  | succ n9 ih =>
    intro x1 x3 hf
    rw [ff_X5r_mix_2] at hf
    refine xx_iload_n C (dd_X5_mix.at 2 rfl) rfl ?_
    refine xx_aload_n C (dd_X5_mix.at 3 rfl) rfl (Nat.le_of_ble_eq_true rfl) ?_
    refine xx_getR (j := 1) (r := 10) C ck_4 (lb_ rfl) lf_RX5_16 sh_k2 rfl (lb_ rfl) rfl (dd_X5_mix.at 4 rfl) ?_
    refine xx_alen (v := 6) C (dd_X5_mix.at 5 rfl) sh_k10 rfl ?_
    rcases ifo_ hf with ⟨hc, hf⟩ | ⟨hc, hf⟩
    · refine xx_icmp_ge_t (tgt := 68) C (dd_X5_mix.at 6 rfl) (by decide) hc ?_
      refine xx_lload_n C (dd_X5_mix.at 41 rfl) rfl ?_
      exact xx_lreturn C (rt_lp hf Q) (dd_X5_mix.at 42 rfl) rfl
    · refine xx_icmp_ge_f (tgt := 68) C (dd_X5_mix.at 6 rfl) (by decide) hc ?_
      refine xx_ldc2 C (dd_X5_mix.at 7 rfl) lc_RX5_24 ?_
      refine xx_lload_n C (dd_X5_mix.at 8 rfl) rfl ?_
      refine xx_lmul C (dd_X5_mix.at 9 rfl) ?_
      refine xx_aload_n C (dd_X5_mix.at 10 rfl) rfl (Nat.le_of_ble_eq_true rfl) ?_
      refine xx_getR (j := 1) (r := 10) C ck_4 (lb_ rfl) lf_RX5_16 sh_k2 rfl (lb_ rfl) rfl (dd_X5_mix.at 11 rfl) ?_
      refine xx_iload_n C (dd_X5_mix.at 12 rfl) rfl ?_
      obtain ⟨g1, hf⟩ := gd_ok hf
      refine xx_iaload C (dd_X5_mix.at 13 rfl) sh_k10 (bi_ok g1) ?_
      refine xx_i2l C (dd_X5_mix.at 14 rfl) ?_
      refine xx_ladd C (dd_X5_mix.at 15 rfl) ?_
      refine xx_lstore_n (lv' := [_, _, _, _, _]) C (dd_X5_mix.at 16 rfl) (lb_ rfl) rfl ?_
      refine xx_iconst C (dd_X5_mix.at 17 rfl) ic_0 ?_
      refine xx_istore (lv' := [_, _, _, _, _]) C (dd_X5_mix.at 18 rfl) (lb_ rfl) rfl ?_
      refine xx_mask [true, true, false, true, true] (ss_X5r_mix_28 C Q (fun u4 hf => ?_) _ _ _ hf)
      refine xx_iinc (v := _ + (1 : Int32)) (lv' := [_, _, _, _, _]) C (dd_X5_mix.at 39 rfl) (lb_ rfl) rfl (by rw [ic_1]) rfl ?_
      refine xx_goto (tgt := 2) C (dd_X5_mix.at 40 rfl) (by decide) ?_
      exact xx_mask [true, true, false, true, false] (ih _ _ hf)
theorem ss_X5r_mix {l : Launch} {G : gt_} {a1 : Int64} {h : hh_} {r9 : Int64}  (hf : ff_X5r_mix a1 h = some r9) : ok_ l G 0 mt_X5_mix [.ref 2, .long a1] h (some (.long r9)) h := by
  refine ok_of pn_RX5 (lb_ rfl) (fun Z _ _ C Q => ?_)
  show xx_ Z 0 [some (.ref 2), some (.long a1), none, none, none] [] h
  unfold ff_X5r_mix at hf
  refine xx_iconst C (dd_X5_mix.at 0 rfl) ic_0 ?_
  refine xx_istore_n (lv' := [_, _, _, _, _]) C (dd_X5_mix.at 1 rfl) (lb_ rfl) rfl ?_
  exact xx_mask [true, true, false, true, false] (ss_X5r_mix_2 C Q _ _ _ hf)
theorem ss_X5t_mix_28 {Z : zz_} (C : cx_ Z mt_X5_mix 0) {r9 : Int64} {x3 : Int32} {h : hh_} {K28_62 : Int64 → Option (Int64)} (Q : rq_ Z (some (.long r9)) h) (hK28_62 : ∀ (z1 : Int64), K28_62 z1 = some r9 → xx_ Z 62 [some (.ref 11), some (.long z1), none, some (.int x3), none] [] h) : ∀ (n9 : Nat) (x1 : Int64) (x4 : Int32), ff_X5t_mix_28 x3 h K28_62 n9 x1 x4 = some r9 → xx_ Z 28 [some (.ref 11), some (.long x1), none, some (.int x3), some (.int x4)] [] h := by
  intro n9
  induction n9 with
  | zero =>
    intro x1 x4 hf
    exact absurd hf (by rw [ff_X5t_mix_28]; exact nofun)
  | succ n9 ih =>
    intro x1 x4 hf
    rw [ff_X5t_mix_28] at hf
    refine xx_iload C (dd_X5_mix.at 19 rfl) rfl ?_
    refine xx_aload_n C (dd_X5_mix.at 20 rfl) rfl (Nat.le_of_ble_eq_true rfl) ?_
    refine xx_getR (j := 1) (r := 17) C ck_4 (lb_ rfl) lf_RX5_16 sh_k11 rfl (lb_ rfl) rfl (dd_X5_mix.at 21 rfl) ?_
    refine xx_iload_n C (dd_X5_mix.at 22 rfl) rfl ?_
    obtain ⟨g2, hf⟩ := gd_ok hf
    refine xx_iaload C (dd_X5_mix.at 23 rfl) sh_k17 (bi_ok g2) ?_
    rcases ifo_ hf with ⟨hc, hf⟩ | ⟨hc, hf⟩
    · refine xx_icmp_ge_t (tgt := 62) C (dd_X5_mix.at 24 rfl) (by decide) hc ?_
      exact xx_mask [true, true, false, true, false] (hK28_62 _ hf)
    · refine xx_icmp_ge_f (tgt := 62) C (dd_X5_mix.at 24 rfl) (by decide) hc ?_
      refine xx_ldc2 C (dd_X5_mix.at 25 rfl) lc_RX5_24 ?_
      refine xx_lload_n C (dd_X5_mix.at 26 rfl) rfl ?_
      refine xx_lmul C (dd_X5_mix.at 27 rfl) ?_
      refine xx_aload_n C (dd_X5_mix.at 28 rfl) rfl (Nat.le_of_ble_eq_true rfl) ?_
      refine xx_getR (j := 0) (r := 12) C ck_4 (lb_ rfl) lf_RX5_11 sh_k11 rfl (lb_ rfl) rfl (dd_X5_mix.at 29 rfl) ?_
      refine xx_iload_n C (dd_X5_mix.at 30 rfl) rfl ?_
      refine xx_aaload (r := (13 + Int32.toNatClampNeg x3)) C (dd_X5_mix.at 31 rfl) sh_k12 (bi_ok g2) (sh_lt (sh_e12 (bi_ok g2))) rfl ?_
      refine xx_iload C (dd_X5_mix.at 32 rfl) rfl ?_
      obtain ⟨g3, hf⟩ := gd_ok hf
      refine xx_iaload C (dd_X5_mix.at 33 rfl) (sh_e12 (bi_ok g2)) (bi_ok g3) ?_
      refine xx_i2l C (dd_X5_mix.at 34 rfl) ?_
      refine xx_ladd C (dd_X5_mix.at 35 rfl) ?_
      refine xx_lstore_n (lv' := [_, _, _, _, _]) C (dd_X5_mix.at 36 rfl) (lb_ rfl) rfl ?_
      refine xx_iinc (v := _ + (1 : Int32)) (lv' := [_, _, _, _, _]) C (dd_X5_mix.at 37 rfl) (lb_ rfl) rfl (by rw [ic_1]) rfl ?_
      refine xx_goto (tgt := 28) C (dd_X5_mix.at 38 rfl) (by decide) ?_
      exact xx_mask [true, true, false, true, true] (ih _ _ hf)
theorem ss_X5t_mix_2 {Z : zz_} (C : cx_ Z mt_X5_mix 0) {r9 : Int64} {h : hh_}  (Q : rq_ Z (some (.long r9)) h) : ∀ (n9 : Nat) (x1 : Int64) (x3 : Int32), ff_X5t_mix_2 h n9 x1 x3 = some r9 → xx_ Z 2 [some (.ref 11), some (.long x1), none, some (.int x3), none] [] h := by
  intro n9
  induction n9 with
  | zero =>
    intro x1 x3 hf
    exact absurd hf (by rw [ff_X5t_mix_2]; exact nofun)
  | succ n9 ih =>
    intro x1 x3 hf
    rw [ff_X5t_mix_2] at hf
    refine xx_iload_n C (dd_X5_mix.at 2 rfl) rfl ?_
    refine xx_aload_n C (dd_X5_mix.at 3 rfl) rfl (Nat.le_of_ble_eq_true rfl) ?_
    refine xx_getR (j := 1) (r := 17) C ck_4 (lb_ rfl) lf_RX5_16 sh_k11 rfl (lb_ rfl) rfl (dd_X5_mix.at 4 rfl) ?_
    refine xx_alen (v := 4) C (dd_X5_mix.at 5 rfl) sh_k17 rfl ?_
    rcases ifo_ hf with ⟨hc, hf⟩ | ⟨hc, hf⟩
    · refine xx_icmp_ge_t (tgt := 68) C (dd_X5_mix.at 6 rfl) (by decide) hc ?_
      refine xx_lload_n C (dd_X5_mix.at 41 rfl) rfl ?_
      exact xx_lreturn C (rt_lp hf Q) (dd_X5_mix.at 42 rfl) rfl
    · refine xx_icmp_ge_f (tgt := 68) C (dd_X5_mix.at 6 rfl) (by decide) hc ?_
      refine xx_ldc2 C (dd_X5_mix.at 7 rfl) lc_RX5_24 ?_
      refine xx_lload_n C (dd_X5_mix.at 8 rfl) rfl ?_
      refine xx_lmul C (dd_X5_mix.at 9 rfl) ?_
      refine xx_aload_n C (dd_X5_mix.at 10 rfl) rfl (Nat.le_of_ble_eq_true rfl) ?_
      refine xx_getR (j := 1) (r := 17) C ck_4 (lb_ rfl) lf_RX5_16 sh_k11 rfl (lb_ rfl) rfl (dd_X5_mix.at 11 rfl) ?_
      refine xx_iload_n C (dd_X5_mix.at 12 rfl) rfl ?_
      obtain ⟨g1, hf⟩ := gd_ok hf
      refine xx_iaload C (dd_X5_mix.at 13 rfl) sh_k17 (bi_ok g1) ?_
      refine xx_i2l C (dd_X5_mix.at 14 rfl) ?_
      refine xx_ladd C (dd_X5_mix.at 15 rfl) ?_
      refine xx_lstore_n (lv' := [_, _, _, _, _]) C (dd_X5_mix.at 16 rfl) (lb_ rfl) rfl ?_
      refine xx_iconst C (dd_X5_mix.at 17 rfl) ic_0 ?_
      refine xx_istore (lv' := [_, _, _, _, _]) C (dd_X5_mix.at 18 rfl) (lb_ rfl) rfl ?_
      refine xx_mask [true, true, false, true, true] (ss_X5t_mix_28 C Q (fun u4 hf => ?_) _ _ _ hf)
      refine xx_iinc (v := _ + (1 : Int32)) (lv' := [_, _, _, _, _]) C (dd_X5_mix.at 39 rfl) (lb_ rfl) rfl (by rw [ic_1]) rfl ?_
      refine xx_goto (tgt := 2) C (dd_X5_mix.at 40 rfl) (by decide) ?_
      exact xx_mask [true, true, false, true, false] (ih _ _ hf)
theorem ss_X5t_mix {l : Launch} {G : gt_} {a1 : Int64} {h : hh_} {r9 : Int64}  (hf : ff_X5t_mix a1 h = some r9) : ok_ l G 0 mt_X5_mix [.ref 11, .long a1] h (some (.long r9)) h := by
  refine ok_of pn_RX5 (lb_ rfl) (fun Z _ _ C Q => ?_)
  show xx_ Z 0 [some (.ref 11), some (.long a1), none, none, none] [] h
  unfold ff_X5t_mix at hf
  refine xx_iconst C (dd_X5_mix.at 0 rfl) ic_0 ?_
  refine xx_istore_n (lv' := [_, _, _, _, _]) C (dd_X5_mix.at 1 rfl) (lb_ rfl) rfl ?_
  exact xx_mask [true, true, false, true, false] (ss_X5t_mix_2 C Q _ _ _ hf)
theorem ss_X7_digest_6 {Z : zz_} (C : cx_ Z mt_X7_digest 3) {r9 : Int64} {h : hh_} {K6_31 : Int64 → Option (Int64)} (Q : rq_ Z (some (.long r9)) h) (hK6_31 : ∀ (z1 : Int64), K6_31 z1 = some r9 → xx_ Z 31 [some (.ref 1), some (.long z1), none, none] [] h) : ∀ (n9 : Nat) (x1 : Int64) (x3 : Int32), ff_X7_digest_6 h K6_31 n9 x1 x3 = some r9 → xx_ Z 6 [some (.ref 1), some (.long x1), none, some (.int x3)] [] h := by
  intro n9
  induction n9 with
  | zero =>
    intro x1 x3 hf
    exact absurd hf (by rw [ff_X7_digest_6]; exact nofun)
  | succ n9 ih =>
    intro x1 x3 hf
    rw [ff_X7_digest_6] at hf
    refine xx_iload_n C (dd_X7_digest.at 4 rfl) rfl ?_
    refine xx_bipush C (dd_X7_digest.at 5 rfl) bq_8 ?_
    rcases ifo_ hf with ⟨hc, hf⟩ | ⟨hc, hf⟩
    · refine xx_icmp_gt_t (tgt := 31) C (dd_X7_digest.at 6 rfl) (by decide) hc ?_
      exact xx_mask [true, true, false, false] (hK6_31 _ hf)
    · refine xx_icmp_gt_f (tgt := 31) C (dd_X7_digest.at 6 rfl) (by decide) hc ?_
      refine xx_ldc2 C (dd_X7_digest.at 7 rfl) lc_RX7_301 ?_
      refine xx_lload_n C (dd_X7_digest.at 8 rfl) rfl ?_
      refine xx_lmul C (dd_X7_digest.at 9 rfl) ?_
      refine xx_aload_n C (dd_X7_digest.at 10 rfl) rfl (Nat.le_of_ble_eq_true rfl) ?_
      refine xx_iload_n C (dd_X7_digest.at 11 rfl) rfl ?_
      obtain ⟨v1, e2, hf⟩ := bdo_ hf
      refine xx_callVi C (ss_X7_count e2) (dd_X7_digest.at 12 rfl) ck_6 rfl sh_k1 kk_X7_count ki_X7_count lm_RX7_303 (lb_ rfl) rfl rfl (lb_ rfl) ?_
      refine xx_i2l C (dd_X7_digest.at 13 rfl) ?_
      refine xx_ladd C (dd_X7_digest.at 14 rfl) ?_
      refine xx_lstore_n (lv' := [_, _, _, _]) C (dd_X7_digest.at 15 rfl) (lb_ rfl) rfl ?_
      refine xx_iinc (v := _ + (1 : Int32)) (lv' := [_, _, _, _]) C (dd_X7_digest.at 16 rfl) (lb_ rfl) rfl (by rw [ic_1]) rfl ?_
      refine xx_goto (tgt := 6) C (dd_X7_digest.at 17 rfl) (by decide) ?_
      exact xx_mask [true, true, false, true] (ih _ _ hf)
theorem ss_X7_digest_42 {Z : zz_} (C : cx_ Z mt_X7_digest 3) {r9 : Int64} {h : hh_}  (Q : rq_ Z (some (.long r9)) h) : ∀ (n9 : Nat) (x1 : Int64) (x3 : Int32), ff_X7_digest_42 h n9 x1 x3 = some r9 → xx_ Z 42 [some (.ref 1), some (.long x1), none, some (.int x3)] [] h := by
  intro n9
  induction n9 with
  | zero =>
    intro x1 x3 hf
    exact absurd hf (by rw [ff_X7_digest_42]; exact nofun)
  | succ n9 ih =>
    intro x1 x3 hf
    rw [ff_X7_digest_42] at hf
    refine xx_iload_n C (dd_X7_digest.at 25 rfl) rfl ?_
    refine xx_iconst C (dd_X7_digest.at 26 rfl) ic_3 ?_
    rcases ifo_ hf with ⟨hc, hf⟩ | ⟨hc, hf⟩
    · refine xx_icmp_ge_t (tgt := 70) C (dd_X7_digest.at 27 rfl) (by decide) hc ?_
      refine xx_aload_n C (dd_X7_digest.at 41 rfl) rfl (Nat.le_of_ble_eq_true rfl) ?_
      refine xx_getR (j := 1) (r := 11) C ck_6 (lb_ rfl) lf_RX7_18 sh_k1 rfl (lb_ rfl) rfl (dd_X7_digest.at 42 rfl) ?_
      refine xx_aload_n C (dd_X7_digest.at 43 rfl) rfl (Nat.le_of_ble_eq_true rfl) ?_
      refine xx_getR (j := 0) (r := 2) C ck_6 (lb_ rfl) lf_RX7_14 sh_k1 rfl (lb_ rfl) rfl (dd_X7_digest.at 44 rfl) ?_
      refine xx_lload_n C (dd_X7_digest.at 45 rfl) rfl ?_
      obtain ⟨v7, e8, hf⟩ := bdo_ hf
      refine xx_callVl C (ss_X5r_mix e8) (dd_X7_digest.at 46 rfl) ck_4 rfl sh_k2 kk_X5_mix ki_X5_mix lm_RX7_309 (lb_ rfl) rfl rfl (lb_ rfl) ?_
      obtain ⟨v9, e10, hf⟩ := bdo_ hf
      refine xx_callVl C (ss_X5t_mix e10) (dd_X7_digest.at 47 rfl) ck_4 rfl sh_k11 kk_X5_mix ki_X5_mix lm_RX7_309 (lb_ rfl) rfl rfl (lb_ rfl) ?_
      exact xx_lreturn C (rt_lp hf Q) (dd_X7_digest.at 48 rfl) rfl
    · refine xx_icmp_ge_f (tgt := 70) C (dd_X7_digest.at 27 rfl) (by decide) hc ?_
      refine xx_ldc2 C (dd_X7_digest.at 28 rfl) lc_RX7_301 ?_
      refine xx_lload_n C (dd_X7_digest.at 29 rfl) rfl ?_
      refine xx_lmul C (dd_X7_digest.at 30 rfl) ?_
      refine xx_aload_n C (dd_X7_digest.at 31 rfl) rfl (Nat.le_of_ble_eq_true rfl) ?_
      refine xx_getR (j := 2) (r := 18) C ck_6 (lb_ rfl) lf_RX7_23 sh_k1 rfl (lb_ rfl) rfl (dd_X7_digest.at 32 rfl) ?_
      refine xx_iload_n C (dd_X7_digest.at 33 rfl) rfl ?_
      obtain ⟨g11, hf⟩ := gd_ok hf
      refine xx_kaload (r := (89 + 3 * Int32.toNatClampNeg x3)) C (dd_X7_digest.at 34 rfl) sh_k18 (bi_ok g11) (isK_lt (isK_in (bi_ok g11))) rfl ?_
      refine xx_getI (j := 2) C ck_0 (lb_ rfl) lf_RX7_114 (sh_kp (isK_in (bi_ok g11))) rfl (dd_X7_digest.at 35 rfl) ?_
      refine xx_i2l C (dd_X7_digest.at 36 rfl) ?_
      refine xx_ladd C (dd_X7_digest.at 37 rfl) ?_
      refine xx_lstore_n (lv' := [_, _, _, _]) C (dd_X7_digest.at 38 rfl) (lb_ rfl) rfl ?_
      refine xx_iinc (v := _ + (1 : Int32)) (lv' := [_, _, _, _]) C (dd_X7_digest.at 39 rfl) (lb_ rfl) rfl (by rw [ic_1]) rfl ?_
      refine xx_goto (tgt := 42) C (dd_X7_digest.at 40 rfl) (by decide) ?_
      exact xx_mask [true, true, false, true] (ih _ _ hf)
theorem ss_X7_digest {l : Launch} {G : gt_} {h : hh_} {r9 : Int64}  (hf : ff_X7_digest h = some r9) : ok_ l G 3 mt_X7_digest [.ref 1] h (some (.long r9)) h := by
  refine ok_of pn_RX7 (lb_ rfl) (fun Z _ _ C Q => ?_)
  show xx_ Z 0 [some (.ref 1), none, none, none] [] h
  unfold ff_X7_digest at hf
  refine xx_ldc2 C (dd_X7_digest.at 0 rfl) lc_RX7_299 ?_
  refine xx_lstore_n (lv' := [_, _, _, _]) C (dd_X7_digest.at 1 rfl) (lb_ rfl) rfl ?_
  refine xx_iconst C (dd_X7_digest.at 2 rfl) ic_0 ?_
  refine xx_istore_n (lv' := [_, _, _, _]) C (dd_X7_digest.at 3 rfl) (lb_ rfl) rfl ?_
  refine xx_mask [true, true, false, true] (ss_X7_digest_6 C Q (fun u3 hf => ?_) _ _ _ hf)
  refine xx_aload_n C (dd_X7_digest.at 18 rfl) rfl (Nat.le_of_ble_eq_true rfl) ?_
  obtain ⟨g4, hf⟩ := gd_ok hf
  refine xx_getR (j := 7) (r := h.2.2.1) C ck_6 (lb_ rfl) lf_RX7_55 sh_k1 rfl (lb_ rfl) rfl (dd_X7_digest.at 19 rfl) ?_
  refine xx_lload_n C (dd_X7_digest.at 20 rfl) rfl ?_
  obtain ⟨v5, e6, hf⟩ := bdo_ hf
  refine xx_callVl C (ss_X2_mix (bo_ok g4) e6) (dd_X7_digest.at 21 rfl) ck_1 rfl (sh_o (bo_ok g4)) kk_X2_mix ki_X2_mix lm_RX7_306 (lb_ rfl) rfl rfl (lb_ rfl) ?_
  refine xx_lstore_n (lv' := [_, _, _, _]) C (dd_X7_digest.at 22 rfl) (lb_ rfl) rfl ?_
  refine xx_iconst C (dd_X7_digest.at 23 rfl) ic_0 ?_
  refine xx_istore_n (lv' := [_, _, _, _]) C (dd_X7_digest.at 24 rfl) (lb_ rfl) rfl ?_
  exact xx_mask [true, true, false, true] (ss_X7_digest_42 C Q _ _ _ hf)
theorem ss_X8_in {l : Launch} {G : gt_} {a0 : Int32} {a1 : Int32} {a2 : Int32} {h : hh_} {r9 : Int32}  (hf : ff_X8_in a0 a1 a2 = r9) : ok_ l G 0 mt_X8_in [.int a0, .int a1, .int a2] h (some (.int r9)) h := by
  refine ok_of pn_RX8 (lb_ rfl) (fun Z _ _ C Q => ?_)
  show xx_ Z 0 [some (.int a0), some (.int a1), some (.int a2)] [] h
  unfold ff_X8_in at hf
  refine xx_iload_n C (dd_X8_in.at 0 rfl) rfl ?_
  refine xx_iload_n C (dd_X8_in.at 1 rfl) rfl ?_
  rcases ifo_ hf with ⟨hc, hf⟩ | ⟨hc, hf⟩
  · refine xx_icmp_lt_t (tgt := 14) C (dd_X8_in.at 2 rfl) (by decide) hc ?_
    refine xx_iconst C (dd_X8_in.at 8 rfl) ic_0 ?_
    exact xx_zreturn C (rt_i hf Q) (dd_X8_in.at 9 rfl) rfl zb_0
  · refine xx_icmp_lt_f (tgt := 14) C (dd_X8_in.at 2 rfl) (by decide) hc ?_
    refine xx_iload_n C (dd_X8_in.at 3 rfl) rfl ?_
    refine xx_iload_n C (dd_X8_in.at 4 rfl) rfl ?_
    rcases ifo_ hf with ⟨hc, hf⟩ | ⟨hc, hf⟩
    · refine xx_icmp_gt_t (tgt := 14) C (dd_X8_in.at 5 rfl) (by decide) hc ?_
      refine xx_iconst C (dd_X8_in.at 8 rfl) ic_0 ?_
      exact xx_zreturn C (rt_i hf Q) (dd_X8_in.at 9 rfl) rfl zb_0
    · refine xx_icmp_gt_f (tgt := 14) C (dd_X8_in.at 5 rfl) (by decide) hc ?_
      refine xx_iconst C (dd_X8_in.at 6 rfl) ic_1 ?_
      refine xx_goto (tgt := 15) C (dd_X8_in.at 7 rfl) (by decide) ?_
      exact xx_zreturn C (rt_i hf Q) (dd_X8_in.at 9 rfl) rfl zb_1
theorem ss_X8_meet {l : Launch} {G : gt_} {a1 : Int32} {h : hh_} {r9 : Int32} {h9 : hh_}  (hf : ff_X8_meet a1 h = some (r9, h9)) : ok_ l G 0 mt_X8_meet [.ref 98, .int a1] h (some (.int r9)) h9 := by
  refine ok_of pn_RX8 (lb_ rfl) (fun Z _ _ C Q => ?_)
  show xx_ Z 0 [some (.ref 98), some (.int a1)] [] h
  unfold ff_X8_meet at hf
  refine xx_aload_n C (dd_X8_meet.at 0 rfl) rfl (Nat.le_of_ble_eq_true rfl) ?_
  refine xx_iload_n C (dd_X8_meet.at 1 rfl) rfl ?_
  refine xx_putI (j := 0) C ck_7 (lb_ rfl) lf_RX8_62 rfl rfl sh_k98 rfl (dd_X8_meet.at 2 rfl) ?_
  refine xx_aload_n C (dd_X8_meet.at 3 rfl) rfl (Nat.le_of_ble_eq_true rfl) ?_
  refine xx_getR (j := 1) (r := 99) C ck_7 (lb_ rfl) lf_RX8_7 sh_k98 rfl (lb_ rfl) rfl (dd_X8_meet.at 4 rfl) ?_
  refine xx_iload_n C (dd_X8_meet.at 5 rfl) rfl ?_
  refine xx_dup2 C (dd_X8_meet.at 6 rfl) rfl rfl ?_
  obtain ⟨g1, hf⟩ := gd_ok hf
  refine xx_iaload C (dd_X8_meet.at 7 rfl) sh_k99 (bi_ok g1) ?_
  refine xx_iconst C (dd_X8_meet.at 8 rfl) ic_1 ?_
  refine xx_iadd C (dd_X8_meet.at 9 rfl) ?_
  refine xx_iastore C (dd_X8_meet.at 10 rfl) sh_k99 (bi_ok g1) ?_
  refine xx_bipush C (dd_X8_meet.at 11 rfl) bq_m3 ?_
  exact xx_ireturn C (rt_iwp hf Q) (dd_X8_meet.at 12 rfl) rfl
theorem ss_X8_ask {l : Launch} {G : gt_} {a1 : Int32} {a2 : Int32} {h : hh_} {r9 : Int32} {h9 : hh_}  (hf : ff_X8_ask a1 a2 h = (r9, h9)) : ok_ l G 0 mt_X8_ask [.ref 98, .int a1, .int a2] h (some (.int r9)) h9 := by
  refine ok_of pn_RX8 (lb_ rfl) (fun Z _ _ C Q => ?_)
  show xx_ Z 0 [some (.ref 98), some (.int a1), some (.int a2)] [] h
  unfold ff_X8_ask at hf
  refine xx_aload_n C (dd_X8_ask.at 0 rfl) rfl (Nat.le_of_ble_eq_true rfl) ?_
  refine xx_iload_n C (dd_X8_ask.at 1 rfl) rfl ?_
  refine xx_putI (j := 2) C ck_7 (lb_ rfl) lf_RX8_66 rfl rfl sh_k98 rfl (dd_X8_ask.at 2 rfl) ?_
  refine xx_iload_n C (dd_X8_ask.at 3 rfl) rfl ?_
  exact xx_ireturn C (rt_iw hf Q) (dd_X8_ask.at 4 rfl) rfl
theorem ss_X8_has {l : Launch} {G : gt_} {a0 : Int32} {a1 : Int32} {h : hh_} {r9 : Int32}  (hf : ff_X8_has a0 a1 = r9) : ok_ l G 0 mt_X8_has [.int a0, .int a1] h (some (.int r9)) h := by
  refine ok_of pn_RX8 (lb_ rfl) (fun Z _ _ C Q => ?_)
  show xx_ Z 0 [some (.int a0), some (.int a1)] [] h
  unfold ff_X8_has at hf
  refine xx_iload_n C (dd_X8_has.at 0 rfl) rfl ?_
  refine xx_iload_n C (dd_X8_has.at 1 rfl) rfl ?_
  refine xx_ishr C (dd_X8_has.at 2 rfl) ?_
  refine xx_iconst C (dd_X8_has.at 3 rfl) ic_1 ?_
  refine xx_iand C (dd_X8_has.at 4 rfl) ?_
  refine xx_iconst C (dd_X8_has.at 5 rfl) ic_1 ?_
  rcases ifo_ hf with ⟨hc, hf⟩ | ⟨hc, hf⟩
  · refine xx_icmp_ne_f (tgt := 13) C (dd_X8_has.at 6 rfl) (by decide) (not_not_intro hc) ?_
    refine xx_iconst C (dd_X8_has.at 7 rfl) ic_1 ?_
    refine xx_goto (tgt := 14) C (dd_X8_has.at 8 rfl) (by decide) ?_
    exact xx_zreturn C (rt_i hf Q) (dd_X8_has.at 10 rfl) rfl zb_1
  · refine xx_icmp_ne_t (tgt := 13) C (dd_X8_has.at 6 rfl) (by decide) hc ?_
    refine xx_iconst C (dd_X8_has.at 9 rfl) ic_0 ?_
    exact xx_zreturn C (rt_i hf Q) (dd_X8_has.at 10 rfl) rfl zb_0
theorem ss_X8_lesser {l : Launch} {G : gt_} {a0 : Int32} {a1 : Int32} {h : hh_} {r9 : Int32}  (hf : ff_X8_lesser a0 a1 = r9) : ok_ l G 0 mt_X8_lesser [.int a0, .int a1] h (some (.int r9)) h := by
  refine ok_of pn_RX8 (lb_ rfl) (fun Z _ _ C Q => ?_)
  show xx_ Z 0 [some (.int a0), some (.int a1)] [] h
  unfold ff_X8_lesser at hf
  refine xx_iload_n C (dd_X8_lesser.at 0 rfl) rfl ?_
  refine xx_iload_n C (dd_X8_lesser.at 1 rfl) rfl ?_
  rcases ifo_ hf with ⟨hc, hf⟩ | ⟨hc, hf⟩
  · refine xx_icmp_ge_t (tgt := 9) C (dd_X8_lesser.at 2 rfl) (by decide) hc ?_
    refine xx_iload_n C (dd_X8_lesser.at 5 rfl) rfl ?_
    exact xx_ireturn C (rt_i hf Q) (dd_X8_lesser.at 6 rfl) rfl
  · refine xx_icmp_ge_f (tgt := 9) C (dd_X8_lesser.at 2 rfl) (by decide) hc ?_
    refine xx_iload_n C (dd_X8_lesser.at 3 rfl) rfl ?_
    refine xx_goto (tgt := 10) C (dd_X8_lesser.at 4 rfl) (by decide) ?_
    exact xx_ireturn C (rt_i hf Q) (dd_X8_lesser.at 6 rfl) rfl
theorem ss_X8_greater {l : Launch} {G : gt_} {a0 : Int32} {a1 : Int32} {h : hh_} {r9 : Int32}  (hf : ff_X8_greater a0 a1 = r9) : ok_ l G 0 mt_X8_greater [.int a0, .int a1] h (some (.int r9)) h := by
  refine ok_of pn_RX8 (lb_ rfl) (fun Z _ _ C Q => ?_)
  show xx_ Z 0 [some (.int a0), some (.int a1)] [] h
  unfold ff_X8_greater at hf
  refine xx_iload_n C (dd_X8_greater.at 0 rfl) rfl ?_
  refine xx_iload_n C (dd_X8_greater.at 1 rfl) rfl ?_
  rcases ifo_ hf with ⟨hc, hf⟩ | ⟨hc, hf⟩
  · refine xx_icmp_le_t (tgt := 9) C (dd_X8_greater.at 2 rfl) (by decide) hc ?_
    refine xx_iload_n C (dd_X8_greater.at 5 rfl) rfl ?_
    exact xx_ireturn C (rt_i hf Q) (dd_X8_greater.at 6 rfl) rfl
  · refine xx_icmp_le_f (tgt := 9) C (dd_X8_greater.at 2 rfl) (by decide) hc ?_
    refine xx_iload_n C (dd_X8_greater.at 3 rfl) rfl ?_
    refine xx_goto (tgt := 10) C (dd_X8_greater.at 4 rfl) (by decide) ?_
    exact xx_ireturn C (rt_i hf Q) (dd_X8_greater.at 6 rfl) rfl
theorem ss_X8_part_6 {Z : zz_} (C : cx_ Z mt_X8_part 0) {r9 : Int32} {h9 : hh_} {x1 : Int64} {x3 : Int64} {h : hh_}  (Q : rq_ Z (some (.int r9)) h9) : ∀ (n9 : Nat) (x5 : Int64) (x7 : Int64), ff_X8_part_6 x1 x3 h n9 x5 x7 = some (r9, h9) → xx_ Z 6 [some (.ref 98), some (.long x1), none, some (.long x3), none, some (.long x5), none, some (.long x7), none, none, none] [] h := by
  intro n9
  induction n9 with
  | zero =>
    intro x5 x7 hf
    exact absurd hf (by rw [ff_X8_part_6]; exact nofun)
  | succ n9 ih =>
    intro x5 x7 hf
    rw [ff_X8_part_6] at hf
    refine xx_lload C (dd_X8_part.at 4 rfl) rfl ?_
    refine xx_lconst (v := 0) C (dd_X8_part.at 5 rfl) rfl ?_
    refine xx_lcmp C (dd_X8_part.at 6 rfl) ?_
    rcases ifo_ hf with ⟨hc, hf⟩ | ⟨hc, hf⟩
    · refine xx_if_eq_t (tgt := 31) C (dd_X8_part.at 7 rfl) (by decide) hc ?_
      refine xx_aload_n C (dd_X8_part.at 17 rfl) rfl (Nat.le_of_ble_eq_true rfl) ?_
      refine xx_lload_n C (dd_X8_part.at 18 rfl) rfl ?_
      refine xx_lload C (dd_X8_part.at 19 rfl) rfl ?_
      obtain ⟨g1, hf⟩ := gd_ok hf
      refine xx_ldiv C (dd_X8_part.at 20 rfl) (bm_ok g1) ?_
      refine xx_putL (j := 3) C ck_7 (lb_ rfl) lf_RX8_69 rfl rfl sh_k98 rfl (dd_X8_part.at 21 rfl) ?_
      refine xx_aload_n C (dd_X8_part.at 22 rfl) rfl (Nat.le_of_ble_eq_true rfl) ?_
      refine xx_lload_n C (dd_X8_part.at 23 rfl) rfl ?_
      refine xx_lload C (dd_X8_part.at 24 rfl) rfl ?_
      refine xx_ldiv C (dd_X8_part.at 25 rfl) (bm_ok g1) ?_
      refine xx_putL (j := 4) C ck_7 (lb_ rfl) lf_RX8_13 rfl rfl sh_k98 rfl (dd_X8_part.at 26 rfl) ?_
      refine xx_iconst C (dd_X8_part.at 27 rfl) ic_1 ?_
      exact xx_ireturn C (rt_iwp hf Q) (dd_X8_part.at 28 rfl) rfl
    · refine xx_if_eq_f (tgt := 31) C (dd_X8_part.at 7 rfl) (by decide) hc ?_
      refine xx_lload C (dd_X8_part.at 8 rfl) rfl ?_
      refine xx_lload C (dd_X8_part.at 9 rfl) rfl ?_
      obtain ⟨g2, hf⟩ := gd_ok hf
      refine xx_lrem C (dd_X8_part.at 10 rfl) (bm_ok g2) ?_
      refine xx_lstore (lv' := [_, _, _, _, _, _, _, _, _, _, _]) C (dd_X8_part.at 11 rfl) (lb_ rfl) rfl ?_
      refine xx_lload C (dd_X8_part.at 12 rfl) rfl ?_
      refine xx_lstore (lv' := [_, _, _, _, _, _, _, _, _, _, _]) C (dd_X8_part.at 13 rfl) (lb_ rfl) rfl ?_
      refine xx_lload C (dd_X8_part.at 14 rfl) rfl ?_
      refine xx_lstore (lv' := [_, _, _, _, _, _, _, _, _, _, _]) C (dd_X8_part.at 15 rfl) (lb_ rfl) rfl ?_
      refine xx_goto (tgt := 6) C (dd_X8_part.at 16 rfl) (by decide) ?_
      exact xx_mask [true, true, false, true, false, true, false, true, false, false, false] (ih _ _ hf)
theorem ss_X8_part {l : Launch} {G : gt_} {a1 : Int64} {a3 : Int64} {h : hh_} {r9 : Int32} {h9 : hh_}  (hf : ff_X8_part a1 a3 h = some (r9, h9)) : ok_ l G 0 mt_X8_part [.ref 98, .long a1, .long a3] h (some (.int r9)) h9 := by
  refine ok_of pn_RX8 (lb_ rfl) (fun Z _ _ C Q => ?_)
  show xx_ Z 0 [some (.ref 98), some (.long a1), none, some (.long a3), none, none, none, none, none, none, none] [] h
  unfold ff_X8_part at hf
  refine xx_lload_n C (dd_X8_part.at 0 rfl) rfl ?_
  refine xx_lstore (lv' := [_, _, _, _, _, _, _, _, _, _, _]) C (dd_X8_part.at 1 rfl) (lb_ rfl) rfl ?_
  refine xx_lload_n C (dd_X8_part.at 2 rfl) rfl ?_
  refine xx_lstore (lv' := [_, _, _, _, _, _, _, _, _, _, _]) C (dd_X8_part.at 3 rfl) (lb_ rfl) rfl ?_
  exact xx_mask [true, true, false, true, false, true, false, true, false, false, false] (ss_X8_part_6 C Q _ _ _ hf)
theorem ss_X8_isRow {l : Launch} {G : gt_} {a0 : Int32} {h : hh_} {r9 : Int32}  (hf : ff_X8_isRow a0 = r9) : ok_ l G 1 mt_X8_isRow [.int a0] h (some (.int r9)) h := by
  refine ok_of pn_RX8 (lb_ rfl) (fun Z _ _ C Q => ?_)
  show xx_ Z 0 [some (.int a0)] [] h
  unfold ff_X8_isRow at hf
  refine xx_iload_n C (dd_X8_isRow.at 0 rfl) rfl ?_
  refine xx_iconst C (dd_X8_isRow.at 1 rfl) ic_0 ?_
  refine xx_iconst C (dd_X8_isRow.at 2 rfl) ic_5 ?_
  refine xx_callSi C (ss_X8_in rfl) (dd_X8_isRow.at 3 rfl) kk_X8_in ks_X8_in lm_RX8_72 (lb_ rfl) rfl rfl (lb_ rfl) ?_
  exact xx_zreturn C (rt_i hf Q) (dd_X8_isRow.at 4 rfl) rfl (bz_ok zt_X8_in)
theorem ss_X8_isText {l : Launch} {G : gt_} {a0 : Int32} {h : hh_} {r9 : Int32}  (hf : ff_X8_isText a0 = r9) : ok_ l G 1 mt_X8_isText [.int a0] h (some (.int r9)) h := by
  refine ok_of pn_RX8 (lb_ rfl) (fun Z _ _ C Q => ?_)
  show xx_ Z 0 [some (.int a0)] [] h
  unfold ff_X8_isText at hf
  refine xx_iload_n C (dd_X8_isText.at 0 rfl) rfl ?_
  refine xx_iconst C (dd_X8_isText.at 1 rfl) ic_0 ?_
  refine xx_iconst C (dd_X8_isText.at 2 rfl) ic_3 ?_
  refine xx_callSi C (ss_X8_in rfl) (dd_X8_isText.at 3 rfl) kk_X8_in ks_X8_in lm_RX8_72 (lb_ rfl) rfl rfl (lb_ rfl) ?_
  exact xx_zreturn C (rt_i hf Q) (dd_X8_isText.at 4 rfl) rfl (bz_ok zt_X8_in)
theorem ss_X8_askedRow {l : Launch} {G : gt_} {a1 : Int32} {h : hh_} {r9 : Int32} {h9 : hh_}  (hf : ff_X8_askedRow a1 h = some (r9, h9)) : ok_ l G 2 mt_X8_askedRow [.ref 98, .int a1] h (some (.int r9)) h9 := by
  refine ok_of pn_RX8 (lb_ rfl) (fun Z _ _ C Q => ?_)
  show xx_ Z 0 [some (.ref 98), some (.int a1)] [] h
  unfold ff_X8_askedRow at hf
  refine xx_iload_n C (dd_X8_askedRow.at 0 rfl) rfl ?_
  refine xx_callSi C (ss_X8_isRow rfl) (dd_X8_askedRow.at 1 rfl) kk_X8_isRow ks_X8_isRow lm_RX8_76 (lb_ rfl) rfl rfl (lb_ rfl) ?_
  rcases ifo_ hf with ⟨hc, hf⟩ | ⟨hc, hf⟩
  · refine xx_if_ne_f (tgt := 11) C (dd_X8_askedRow.at 2 rfl) (by decide) (not_not_intro hc) ?_
    refine xx_iconst C (dd_X8_askedRow.at 3 rfl) ic_m1 ?_
    refine xx_goto (tgt := 29) C (dd_X8_askedRow.at 4 rfl) (by decide) ?_
    exact xx_ireturn C (rt_iwp hf Q) (dd_X8_askedRow.at 15 rfl) rfl
  · refine xx_if_ne_t (tgt := 11) C (dd_X8_askedRow.at 2 rfl) (by decide) hc ?_
    refine xx_aload_n C (dd_X8_askedRow.at 5 rfl) rfl (Nat.le_of_ble_eq_true rfl) ?_
    refine xx_getR (j := 5) (r := 100) C ck_7 (lb_ rfl) lf_RX8_17 sh_k98 rfl (lb_ rfl) rfl (dd_X8_askedRow.at 6 rfl) ?_
    refine xx_iload_n C (dd_X8_askedRow.at 7 rfl) rfl ?_
    obtain ⟨g1, hf⟩ := gd_ok hf
    refine xx_iaload C (dd_X8_askedRow.at 8 rfl) sh_k100 (bi_ok g1) ?_
    rcases ifo_ hf with ⟨hc, hf⟩ | ⟨hc, hf⟩
    · refine xx_if_ge_t (tgt := 28) C (dd_X8_askedRow.at 9 rfl) (by decide) hc ?_
      refine xx_iconst C (dd_X8_askedRow.at 14 rfl) ic_0 ?_
      exact xx_ireturn C (rt_iwp hf Q) (dd_X8_askedRow.at 15 rfl) rfl
    · refine xx_if_ge_f (tgt := 28) C (dd_X8_askedRow.at 9 rfl) (by decide) hc ?_
      refine xx_aload_n C (dd_X8_askedRow.at 10 rfl) rfl (Nat.le_of_ble_eq_true rfl) ?_
      refine xx_iconst C (dd_X8_askedRow.at 11 rfl) ic_1 ?_
      obtain ⟨v2, e3, hf⟩ := bdo_ hf
      refine xx_callVi C (ss_X8_meet (pz_ e3)) (dd_X8_askedRow.at 12 rfl) ck_7 rfl sh_k98 kk_X8_meet ki_X8_meet lm_RX8_80 (lb_ rfl) rfl rfl (lb_ rfl) ?_
      refine xx_goto (tgt := 29) C (dd_X8_askedRow.at 13 rfl) (by decide) ?_
      exact xx_ireturn C (rt_iwp hf Q) (dd_X8_askedRow.at 15 rfl) rfl
theorem ss_X8_askedText {l : Launch} {G : gt_} {a1 : Int32} {h : hh_} {r9 : Int32} {h9 : hh_}  (hf : ff_X8_askedText a1 h = some (r9, h9)) : ok_ l G 2 mt_X8_askedText [.ref 98, .int a1] h (some (.int r9)) h9 := by
  refine ok_of pn_RX8 (lb_ rfl) (fun Z _ _ C Q => ?_)
  show xx_ Z 0 [some (.ref 98), some (.int a1)] [] h
  unfold ff_X8_askedText at hf
  refine xx_iload_n C (dd_X8_askedText.at 0 rfl) rfl ?_
  refine xx_callSi C (ss_X8_isText rfl) (dd_X8_askedText.at 1 rfl) kk_X8_isText ks_X8_isText lm_RX8_84 (lb_ rfl) rfl rfl (lb_ rfl) ?_
  rcases ifo_ hf with ⟨hc, hf⟩ | ⟨hc, hf⟩
  · refine xx_if_ne_f (tgt := 11) C (dd_X8_askedText.at 2 rfl) (by decide) (not_not_intro hc) ?_
    refine xx_iconst C (dd_X8_askedText.at 3 rfl) ic_m1 ?_
    refine xx_goto (tgt := 29) C (dd_X8_askedText.at 4 rfl) (by decide) ?_
    exact xx_ireturn C (rt_iwp hf Q) (dd_X8_askedText.at 15 rfl) rfl
  · refine xx_if_ne_t (tgt := 11) C (dd_X8_askedText.at 2 rfl) (by decide) hc ?_
    refine xx_aload_n C (dd_X8_askedText.at 5 rfl) rfl (Nat.le_of_ble_eq_true rfl) ?_
    refine xx_getR (j := 8) (r := 103) C ck_7 (lb_ rfl) lf_RX8_26 sh_k98 rfl (lb_ rfl) rfl (dd_X8_askedText.at 6 rfl) ?_
    refine xx_iload_n C (dd_X8_askedText.at 7 rfl) rfl ?_
    obtain ⟨g1, hf⟩ := gd_ok hf
    refine xx_iaload C (dd_X8_askedText.at 8 rfl) sh_k103 (bi_ok g1) ?_
    rcases ifo_ hf with ⟨hc, hf⟩ | ⟨hc, hf⟩
    · refine xx_if_ge_t (tgt := 28) C (dd_X8_askedText.at 9 rfl) (by decide) hc ?_
      refine xx_iconst C (dd_X8_askedText.at 14 rfl) ic_0 ?_
      exact xx_ireturn C (rt_iwp hf Q) (dd_X8_askedText.at 15 rfl) rfl
    · refine xx_if_ge_f (tgt := 28) C (dd_X8_askedText.at 9 rfl) (by decide) hc ?_
      refine xx_aload_n C (dd_X8_askedText.at 10 rfl) rfl (Nat.le_of_ble_eq_true rfl) ?_
      refine xx_iconst C (dd_X8_askedText.at 11 rfl) ic_1 ?_
      obtain ⟨v2, e3, hf⟩ := bdo_ hf
      refine xx_callVi C (ss_X8_meet (pz_ e3)) (dd_X8_askedText.at 12 rfl) ck_7 rfl sh_k98 kk_X8_meet ki_X8_meet lm_RX8_80 (lb_ rfl) rfl rfl (lb_ rfl) ?_
      refine xx_goto (tgt := 29) C (dd_X8_askedText.at 13 rfl) (by decide) ?_
      exact xx_ireturn C (rt_iwp hf Q) (dd_X8_askedText.at 15 rfl) rfl
theorem ss_X8_rowAt {l : Launch} {G : gt_} {a1 : Int32} {a2 : Int32} {h : hh_} {r9 : Int32}  (hf : ff_X8_rowAt a1 a2 h = some r9) : ok_ l G 0 mt_X8_rowAt [.ref 98, .int a1, .int a2] h (some (.int r9)) h := by
  refine ok_of pn_RX8 (lb_ rfl) (fun Z _ _ C Q => ?_)
  show xx_ Z 0 [some (.ref 98), some (.int a1), some (.int a2)] [] h
  unfold ff_X8_rowAt at hf
  refine xx_aload_n C (dd_X8_rowAt.at 0 rfl) rfl (Nat.le_of_ble_eq_true rfl) ?_
  refine xx_getR (j := 6) (r := 101) C ck_7 (lb_ rfl) lf_RX8_20 sh_k98 rfl (lb_ rfl) rfl (dd_X8_rowAt.at 1 rfl) ?_
  refine xx_bipush C (dd_X8_rowAt.at 2 rfl) bq_40 ?_
  refine xx_iload_n C (dd_X8_rowAt.at 3 rfl) rfl ?_
  refine xx_imul C (dd_X8_rowAt.at 4 rfl) ?_
  refine xx_iload_n C (dd_X8_rowAt.at 5 rfl) rfl ?_
  refine xx_iadd C (dd_X8_rowAt.at 6 rfl) ?_
  obtain ⟨g1, hf⟩ := gd_ok hf
  refine xx_iaload C (dd_X8_rowAt.at 7 rfl) sh_k101 (bi_ok g1) ?_
  exact xx_ireturn C (rt_ip hf Q) (dd_X8_rowAt.at 8 rfl) rfl
theorem ss_X8_setRow {l : Launch} {G : gt_} {a1 : Int32} {a2 : Int32} {a3 : Int32} {h : hh_} {h9 : hh_}  (hf : ff_X8_setRow a1 a2 a3 h = some h9) : ok_ l G 0 mt_X8_setRow [.ref 98, .int a1, .int a2, .int a3] h none h9 := by
  refine ok_of pn_RX8 (lb_ rfl) (fun Z _ _ C Q => ?_)
  show xx_ Z 0 [some (.ref 98), some (.int a1), some (.int a2), some (.int a3)] [] h
  unfold ff_X8_setRow at hf
  refine xx_aload_n C (dd_X8_setRow.at 0 rfl) rfl (Nat.le_of_ble_eq_true rfl) ?_
  refine xx_getR (j := 6) (r := 101) C ck_7 (lb_ rfl) lf_RX8_20 sh_k98 rfl (lb_ rfl) rfl (dd_X8_setRow.at 1 rfl) ?_
  refine xx_bipush C (dd_X8_setRow.at 2 rfl) bq_40 ?_
  refine xx_iload_n C (dd_X8_setRow.at 3 rfl) rfl ?_
  refine xx_imul C (dd_X8_setRow.at 4 rfl) ?_
  refine xx_iload_n C (dd_X8_setRow.at 5 rfl) rfl ?_
  refine xx_iadd C (dd_X8_setRow.at 6 rfl) ?_
  refine xx_iload_n C (dd_X8_setRow.at 7 rfl) rfl ?_
  obtain ⟨g1, hf⟩ := gd_ok hf
  refine xx_iastore C (dd_X8_setRow.at 8 rfl) sh_k101 (bi_ok g1) ?_
  exact xx_return C (rt_vwp hf Q) (dd_X8_setRow.at 9 rfl) rfl
theorem ss_X8_row_34 {Z : zz_} (C : cx_ Z mt_X8_row 2) {r9 : Int32} {h9 : hh_} {x1 : Int32} {x2 : Int32}  (Q : rq_ Z (some (.int r9)) h9) : ∀ (n9 : Nat) (x3 : Int32) (h : hh_), ff_X8_row_34 x1 x2 n9 x3 h = some (r9, h9) → xx_ Z 34 [some (.ref 98), some (.int x1), some (.int x2), some (.int x3)] [] h := by
  intro n9
  induction n9 with
  | zero =>
    intro x3 h hf
    exact absurd hf (by rw [ff_X8_row_34]; exact nofun)
  | succ n9 ih =>
    intro x3 h hf
    rw [ff_X8_row_34] at hf
    refine xx_iload_n C (dd_X8_row.at 21 rfl) rfl ?_
    refine xx_bipush C (dd_X8_row.at 22 rfl) bq_40 ?_
    rcases ifo_ hf with ⟨hc, hf⟩ | ⟨hc, hf⟩
    · refine xx_icmp_ge_t (tgt := 53) C (dd_X8_row.at 23 rfl) (by decide) hc ?_
      refine xx_iload_n C (dd_X8_row.at 31 rfl) rfl ?_
      exact xx_ireturn C (rt_iwp hf Q) (dd_X8_row.at 32 rfl) rfl
    · refine xx_icmp_ge_f (tgt := 53) C (dd_X8_row.at 23 rfl) (by decide) hc ?_
      refine xx_aload_n C (dd_X8_row.at 24 rfl) rfl (Nat.le_of_ble_eq_true rfl) ?_
      refine xx_iload_n C (dd_X8_row.at 25 rfl) rfl ?_
      refine xx_iload_n C (dd_X8_row.at 26 rfl) rfl ?_
      refine xx_iconst C (dd_X8_row.at 27 rfl) ic_0 ?_
      obtain ⟨v2, e3, hf⟩ := bdo_ hf
      refine xx_callVv C (ss_X8_setRow e3) (dd_X8_row.at 28 rfl) ck_7 rfl sh_k98 kk_X8_setRow ki_X8_setRow lm_RX8_87 (lb_ rfl) rfl rfl (lb_ rfl) ?_
      refine xx_iinc (v := _ + (1 : Int32)) (lv' := [_, _, _, _]) C (dd_X8_row.at 29 rfl) (lb_ rfl) rfl (by rw [ic_1]) rfl ?_
      refine xx_goto (tgt := 34) C (dd_X8_row.at 30 rfl) (by decide) ?_
      exact xx_mask [true, true, true, true] (ih _ _ hf)
theorem ss_X8_row {l : Launch} {G : gt_} {a1 : Int32} {a2 : Int32} {h : hh_} {r9 : Int32} {h9 : hh_}  (hf : ff_X8_row a1 a2 h = some (r9, h9)) : ok_ l G 2 mt_X8_row [.ref 98, .int a1, .int a2] h (some (.int r9)) h9 := by
  refine ok_of pn_RX8 (lb_ rfl) (fun Z _ _ C Q => ?_)
  show xx_ Z 0 [some (.ref 98), some (.int a1), some (.int a2), none] [] h
  unfold ff_X8_row at hf
  refine xx_iload_n C (dd_X8_row.at 0 rfl) rfl ?_
  refine xx_callSi C (ss_X8_isRow rfl) (dd_X8_row.at 1 rfl) kk_X8_isRow ks_X8_isRow lm_RX8_76 (lb_ rfl) rfl rfl (lb_ rfl) ?_
  rcases ifo_ hf with ⟨hc, hf⟩ | ⟨hc, hf⟩
  · refine xx_if_eq_t (tgt := 13) C (dd_X8_row.at 2 rfl) (by decide) hc ?_
    refine xx_iconst C (dd_X8_row.at 6 rfl) ic_m1 ?_
    exact xx_ireturn C (rt_iwp hf Q) (dd_X8_row.at 7 rfl) rfl
  · refine xx_if_eq_f (tgt := 13) C (dd_X8_row.at 2 rfl) (by decide) hc ?_
    refine xx_iload_n C (dd_X8_row.at 3 rfl) rfl ?_
    refine xx_bipush C (dd_X8_row.at 4 rfl) bq_40 ?_
    rcases ifo_ hf with ⟨hc, hf⟩ | ⟨hc, hf⟩
    · refine xx_icmp_le_t (tgt := 15) C (dd_X8_row.at 5 rfl) (by decide) hc ?_
      refine xx_iload_n C (dd_X8_row.at 8 rfl) rfl ?_
      rcases ifo_ hf with ⟨hc, hf⟩ | ⟨hc, hf⟩
      · refine xx_if_ge_t (tgt := 25) C (dd_X8_row.at 9 rfl) (by decide) hc ?_
        refine xx_aload_n C (dd_X8_row.at 14 rfl) rfl (Nat.le_of_ble_eq_true rfl) ?_
        refine xx_getR (j := 5) (r := 100) C ck_7 (lb_ rfl) lf_RX8_17 sh_k98 rfl (lb_ rfl) rfl (dd_X8_row.at 15 rfl) ?_
        refine xx_iload_n C (dd_X8_row.at 16 rfl) rfl ?_
        refine xx_iload_n C (dd_X8_row.at 17 rfl) rfl ?_
        obtain ⟨g1, hf⟩ := gd_ok hf
        refine xx_iastore C (dd_X8_row.at 18 rfl) sh_k100 (bi_ok g1) ?_
        refine xx_iconst C (dd_X8_row.at 19 rfl) ic_0 ?_
        refine xx_istore_n (lv' := [_, _, _, _]) C (dd_X8_row.at 20 rfl) (lb_ rfl) rfl ?_
        exact xx_mask [true, true, true, true] (ss_X8_row_34 C Q _ _ _ hf)
      · refine xx_if_ge_f (tgt := 25) C (dd_X8_row.at 9 rfl) (by decide) hc ?_
        refine xx_aload_n C (dd_X8_row.at 10 rfl) rfl (Nat.le_of_ble_eq_true rfl) ?_
        refine xx_iconst C (dd_X8_row.at 11 rfl) ic_5 ?_
        obtain ⟨v4, e5, hf⟩ := bdo_ hf
        refine xx_callVi C (ss_X8_meet (pz_ e5)) (dd_X8_row.at 12 rfl) ck_7 rfl sh_k98 kk_X8_meet ki_X8_meet lm_RX8_80 (lb_ rfl) rfl rfl (lb_ rfl) ?_
        exact xx_ireturn C (rt_iwp hf Q) (dd_X8_row.at 13 rfl) rfl
    · refine xx_icmp_le_f (tgt := 15) C (dd_X8_row.at 5 rfl) (by decide) hc ?_
      refine xx_iconst C (dd_X8_row.at 6 rfl) ic_m1 ?_
      exact xx_ireturn C (rt_iwp hf Q) (dd_X8_row.at 7 rfl) rfl
theorem ss_X8_at {l : Launch} {G : gt_} {a1 : Int32} {a2 : Int32} {h : hh_} {r9 : Int32} {h9 : hh_}  (hf : ff_X8_at a1 a2 h = some (r9, h9)) : ok_ l G 3 mt_X8_at [.ref 98, .int a1, .int a2] h (some (.int r9)) h9 := by
  refine ok_of pn_RX8 (lb_ rfl) (fun Z _ _ C Q => ?_)
  show xx_ Z 0 [some (.ref 98), some (.int a1), some (.int a2), none] [] h
  unfold ff_X8_at at hf
  refine xx_aload_n C (dd_X8_at.at 0 rfl) rfl (Nat.le_of_ble_eq_true rfl) ?_
  refine xx_iload_n C (dd_X8_at.at 1 rfl) rfl ?_
  obtain ⟨v1, e2, hf⟩ := bdo_ hf
  refine xx_callVi C (ss_X8_askedRow (pz_ e2)) (dd_X8_at.at 2 rfl) ck_7 rfl sh_k98 kk_X8_askedRow ki_X8_askedRow lm_RX8_91 (lb_ rfl) rfl rfl (lb_ rfl) ?_
  refine xx_istore_n (lv' := [_, _, _, _]) C (dd_X8_at.at 3 rfl) (lb_ rfl) rfl ?_
  refine xx_iload_n C (dd_X8_at.at 4 rfl) rfl ?_
  rcases ifo_ hf with ⟨hc, hf⟩ | ⟨hc, hf⟩
  · refine xx_if_ge_t (tgt := 12) C (dd_X8_at.at 5 rfl) (by decide) hc ?_
    refine xx_iload_n C (dd_X8_at.at 8 rfl) rfl ?_
    refine xx_iconst C (dd_X8_at.at 9 rfl) ic_0 ?_
    refine xx_aload_n C (dd_X8_at.at 10 rfl) rfl (Nat.le_of_ble_eq_true rfl) ?_
    refine xx_getR (j := 5) (r := 100) C ck_7 (lb_ rfl) lf_RX8_17 sh_k98 rfl (lb_ rfl) rfl (dd_X8_at.at 11 rfl) ?_
    refine xx_iload_n C (dd_X8_at.at 12 rfl) rfl ?_
    obtain ⟨g3, hf⟩ := gd_ok hf
    refine xx_iaload C (dd_X8_at.at 13 rfl) sh_k100 (bi_ok g3) ?_
    refine xx_iconst C (dd_X8_at.at 14 rfl) ic_1 ?_
    refine xx_isub C (dd_X8_at.at 15 rfl) ?_
    refine xx_callSi C (ss_X8_in rfl) (dd_X8_at.at 16 rfl) kk_X8_in ks_X8_in lm_RX8_72 (lb_ rfl) rfl rfl (lb_ rfl) ?_
    rcases ifo_ hf with ⟨hc, hf⟩ | ⟨hc, hf⟩
    · refine xx_if_eq_t (tgt := 42) C (dd_X8_at.at 17 rfl) (by decide) hc ?_
      refine xx_aload_n C (dd_X8_at.at 26 rfl) rfl (Nat.le_of_ble_eq_true rfl) ?_
      refine xx_iconst C (dd_X8_at.at 27 rfl) ic_2 ?_
      obtain ⟨v4, e5, hf⟩ := bdo_ hf
      refine xx_callVi C (ss_X8_meet (pz_ e5)) (dd_X8_at.at 28 rfl) ck_7 rfl sh_k98 kk_X8_meet ki_X8_meet lm_RX8_80 (lb_ rfl) rfl rfl (lb_ rfl) ?_
      exact xx_ireturn C (rt_iwp hf Q) (dd_X8_at.at 29 rfl) rfl
    · refine xx_if_eq_f (tgt := 42) C (dd_X8_at.at 17 rfl) (by decide) hc ?_
      refine xx_aload_n C (dd_X8_at.at 18 rfl) rfl (Nat.le_of_ble_eq_true rfl) ?_
      refine xx_aload_n C (dd_X8_at.at 19 rfl) rfl (Nat.le_of_ble_eq_true rfl) ?_
      refine xx_iload_n C (dd_X8_at.at 20 rfl) rfl ?_
      refine xx_iload_n C (dd_X8_at.at 21 rfl) rfl ?_
      obtain ⟨v6, e7, hf⟩ := bdo_ hf
      refine xx_callVi C (ss_X8_rowAt e7) (dd_X8_at.at 22 rfl) ck_7 rfl sh_k98 kk_X8_rowAt ki_X8_rowAt lm_RX8_94 (lb_ rfl) rfl rfl (lb_ rfl) ?_
      refine xx_iconst C (dd_X8_at.at 23 rfl) ic_1 ?_
      refine xx_callVi C (ss_X8_ask pe_) (dd_X8_at.at 24 rfl) ck_7 rfl sh_k98 kk_X8_ask ki_X8_ask lm_RX8_98 (lb_ rfl) rfl rfl (lb_ rfl) ?_
      refine xx_goto (tgt := 47) C (dd_X8_at.at 25 rfl) (by decide) ?_
      exact xx_ireturn C (rt_iwp hf Q) (dd_X8_at.at 29 rfl) rfl
  · refine xx_if_ge_f (tgt := 12) C (dd_X8_at.at 5 rfl) (by decide) hc ?_
    refine xx_iload_n C (dd_X8_at.at 6 rfl) rfl ?_
    exact xx_ireturn C (rt_iwp hf Q) (dd_X8_at.at 7 rfl) rfl
theorem ss_X8_lay {l : Launch} {G : gt_} {a1 : Int32} {a2 : Int32} {a3 : Int32} {h : hh_} {r9 : Int32} {h9 : hh_}  (hf : ff_X8_lay a1 a2 a3 h = some (r9, h9)) : ok_ l G 4 mt_X8_lay [.ref 98, .int a1, .int a2, .int a3] h (some (.int r9)) h9 := by
  refine ok_of pn_RX8 (lb_ rfl) (fun Z _ _ C Q => ?_)
  show xx_ Z 0 [some (.ref 98), some (.int a1), some (.int a2), some (.int a3), none] [] h
  unfold ff_X8_lay at hf
  refine xx_aload_n C (dd_X8_lay.at 0 rfl) rfl (Nat.le_of_ble_eq_true rfl) ?_
  refine xx_iload_n C (dd_X8_lay.at 1 rfl) rfl ?_
  refine xx_iload_n C (dd_X8_lay.at 2 rfl) rfl ?_
  obtain ⟨v1, e2, hf⟩ := bdo_ hf
  refine xx_callVi C (ss_X8_at (pz_ e2)) (dd_X8_lay.at 3 rfl) ck_7 rfl sh_k98 kk_X8_at ki_X8_at lm_RX8_101 (lb_ rfl) rfl rfl (lb_ rfl) ?_
  refine xx_istore (lv' := [_, _, _, _, _]) C (dd_X8_lay.at 4 rfl) (lb_ rfl) rfl ?_
  refine xx_iload C (dd_X8_lay.at 5 rfl) rfl ?_
  rcases ifo_ hf with ⟨hc, hf⟩ | ⟨hc, hf⟩
  · refine xx_if_ge_t (tgt := 16) C (dd_X8_lay.at 6 rfl) (by decide) hc ?_
    refine xx_aload_n C (dd_X8_lay.at 9 rfl) rfl (Nat.le_of_ble_eq_true rfl) ?_
    refine xx_iload_n C (dd_X8_lay.at 10 rfl) rfl ?_
    refine xx_iload_n C (dd_X8_lay.at 11 rfl) rfl ?_
    refine xx_iload_n C (dd_X8_lay.at 12 rfl) rfl ?_
    obtain ⟨v3, e4, hf⟩ := bdo_ hf
    refine xx_callVv C (ss_X8_setRow e4) (dd_X8_lay.at 13 rfl) ck_7 rfl sh_k98 kk_X8_setRow ki_X8_setRow lm_RX8_87 (lb_ rfl) rfl rfl (lb_ rfl) ?_
    refine xx_iconst C (dd_X8_lay.at 14 rfl) ic_1 ?_
    exact xx_ireturn C (rt_iwp hf Q) (dd_X8_lay.at 15 rfl) rfl
  · refine xx_if_ge_f (tgt := 16) C (dd_X8_lay.at 6 rfl) (by decide) hc ?_
    refine xx_iload C (dd_X8_lay.at 7 rfl) rfl ?_
    exact xx_ireturn C (rt_iwp hf Q) (dd_X8_lay.at 8 rfl) rfl
theorem ss_X8_tear {l : Launch} {G : gt_} {a1 : Int32} {h : hh_} {r9 : Int32} {h9 : hh_}  (hf : ff_X8_tear a1 h = some (r9, h9)) : ok_ l G 3 mt_X8_tear [.ref 98, .int a1] h (some (.int r9)) h9 := by
  refine ok_of pn_RX8 (lb_ rfl) (fun Z _ _ C Q => ?_)
  show xx_ Z 0 [some (.ref 98), some (.int a1), none] [] h
  unfold ff_X8_tear at hf
  refine xx_aload_n C (dd_X8_tear.at 0 rfl) rfl (Nat.le_of_ble_eq_true rfl) ?_
  refine xx_iload_n C (dd_X8_tear.at 1 rfl) rfl ?_
  obtain ⟨v1, e2, hf⟩ := bdo_ hf
  refine xx_callVi C (ss_X8_askedRow (pz_ e2)) (dd_X8_tear.at 2 rfl) ck_7 rfl sh_k98 kk_X8_askedRow ki_X8_askedRow lm_RX8_91 (lb_ rfl) rfl rfl (lb_ rfl) ?_
  refine xx_istore_n (lv' := [_, _, _]) C (dd_X8_tear.at 3 rfl) (lb_ rfl) rfl ?_
  refine xx_iload_n C (dd_X8_tear.at 4 rfl) rfl ?_
  rcases ifo_ hf with ⟨hc, hf⟩ | ⟨hc, hf⟩
  · refine xx_if_ge_t (tgt := 12) C (dd_X8_tear.at 5 rfl) (by decide) hc ?_
    refine xx_aload_n C (dd_X8_tear.at 8 rfl) rfl (Nat.le_of_ble_eq_true rfl) ?_
    refine xx_getR (j := 5) (r := 100) C ck_7 (lb_ rfl) lf_RX8_17 sh_k98 rfl (lb_ rfl) rfl (dd_X8_tear.at 9 rfl) ?_
    refine xx_iload_n C (dd_X8_tear.at 10 rfl) rfl ?_
    refine xx_bipush C (dd_X8_tear.at 11 rfl) bq_m9 ?_
    obtain ⟨g3, hf⟩ := gd_ok hf
    refine xx_iastore C (dd_X8_tear.at 12 rfl) sh_k100 (bi_ok g3) ?_
    refine xx_iconst C (dd_X8_tear.at 13 rfl) ic_1 ?_
    exact xx_ireturn C (rt_iwp hf Q) (dd_X8_tear.at 14 rfl) rfl
  · refine xx_if_ge_f (tgt := 12) C (dd_X8_tear.at 5 rfl) (by decide) hc ?_
    refine xx_iload_n C (dd_X8_tear.at 6 rfl) rfl ?_
    exact xx_ireturn C (rt_iwp hf Q) (dd_X8_tear.at 7 rfl) rfl
