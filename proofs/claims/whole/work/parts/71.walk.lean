theorem ss_X8_marked_75 {Z : zz_} (C : cx_ Z mt_X8_marked 4) {r9 : Int32} {x1 : Int32} {x2 : Int32} {x3 : Int32} {x4 : Int32} {x5 : Int32} {x7 : Int32} {h : hh_} {K75_76 : Int32 → Option (Int32)} (Q : rq_ Z (some (.int r9)) h) (hK75_76 : ∀ (w0 : Int32), K75_76 w0 = some r9 → xx_ Z 76 [some (.ref 98), some (.int x1), some (.int x2), some (.int x3), some (.int x4), some (.int x5), none, some (.int x7)] [.int w0] h) (hf : ff_X8_marked_75 x1 x2 x3 x4 x5 x7 h K75_76 = some r9) : xx_ Z 75 [some (.ref 98), some (.int x1), some (.int x2), some (.int x3), some (.int x4), some (.int x5), none, some (.int x7)] [] h := by
  unfold ff_X8_marked_75 at hf
  refine xx_iconst C (dd_X8_marked.at 42 rfl) ic_0 ?_
  exact xx_mask [true, true, true, true, true, true, false, true] (hK75_76 _ hf)
theorem ss_X8_marked_99 {Z : zz_} (C : cx_ Z mt_X8_marked 4) {r9 : Int32} {x1 : Int32} {x2 : Int32} {x4 : Int32} {x5 : Int32} {x6 : Int32} {x7 : Int32} {y0 : Int32} {h : hh_} {K99_100 : Int32 → Int32 → Option (Int32)} (Q : rq_ Z (some (.int r9)) h) (hK99_100 : ∀ (w0 : Int32) (w1 : Int32), K99_100 w0 w1 = some r9 → xx_ Z 100 [some (.ref 98), some (.int x1), some (.int x2), none, some (.int x4), some (.int x5), some (.int x6), some (.int x7)] [.int w1, .int w0] h) (hf : ff_X8_marked_99 x1 x2 x4 x5 x6 x7 y0 h K99_100 = some r9) : xx_ Z 99 [some (.ref 98), some (.int x1), some (.int x2), none, some (.int x4), some (.int x5), some (.int x6), some (.int x7)] [.int y0] h := by
  unfold ff_X8_marked_99 at hf
  refine xx_iconst C (dd_X8_marked.at 55 rfl) ic_0 ?_
  exact xx_mask [true, true, true, false, true, true, true, true] (hK99_100 _ _ hf)
theorem ss_X8_marked_153 {Z : zz_} (C : cx_ Z mt_X8_marked 4) {r9 : Int32} {x1 : Int32} {x2 : Int32} {x4 : Int32} {x5 : Int32} {x6 : Int32} {x7 : Int32} {y0 : Int32} {y1 : Int32} {h : hh_} {K153_32 : Int32 → Int32 → Option (Int32)} (Q : rq_ Z (some (.int r9)) h) (hK153_32 : ∀ (z3 : Int32) (z7 : Int32), K153_32 z3 z7 = some r9 → xx_ Z 32 [some (.ref 98), some (.int x1), some (.int x2), some (.int z3), some (.int x4), some (.int x5), some (.int x6), some (.int z7)] [] h) (hf : ff_X8_marked_153 x1 x2 x4 x5 x6 x7 y0 y1 h K153_32 = some r9) : xx_ Z 153 [some (.ref 98), some (.int x1), some (.int x2), none, some (.int x4), some (.int x5), some (.int x6), some (.int x7)] [.int y1, .int y0] h := by
  unfold ff_X8_marked_153 at hf
  refine xx_iadd C (dd_X8_marked.at 87 rfl) ?_
  refine xx_istore_n (lv' := [_, _, _, _, _, _, _, _]) C (dd_X8_marked.at 88 rfl) (lb_ rfl) rfl ?_
  refine xx_iload_n C (dd_X8_marked.at 89 rfl) rfl ?_
  refine xx_iload_n C (dd_X8_marked.at 90 rfl) rfl ?_
  refine xx_iconst C (dd_X8_marked.at 91 rfl) ic_5 ?_
  rcases ifo_ hf with ⟨hc, hf⟩ | ⟨hc, hf⟩
  · refine xx_icmp_ne_f (tgt := 178) C (dd_X8_marked.at 92 rfl) (by decide) (not_not_intro hc) ?_
    refine xx_aload_n C (dd_X8_marked.at 93 rfl) rfl (Nat.le_of_ble_eq_true rfl) ?_
    refine xx_iload_n C (dd_X8_marked.at 94 rfl) rfl ?_
    refine xx_iload C (dd_X8_marked.at 95 rfl) rfl ?_
    refine xx_iload C (dd_X8_marked.at 96 rfl) rfl ?_
    obtain ⟨v5, e6, hf⟩ := bdo_ hf
    refine xx_callVi C (ss_X8_middle e6) (dd_X8_marked.at 97 rfl) ck_7 rfl sh_k98 kk_X8_middle ki_X8_middle lm_RX8_184 (lb_ rfl) rfl rfl (lb_ rfl) ?_
    refine xx_iconst C (dd_X8_marked.at 98 rfl) ic_3 ?_
    rcases ifo_ hf with ⟨hc, hf⟩ | ⟨hc, hf⟩
    · refine xx_icmp_ne_f (tgt := 178) C (dd_X8_marked.at 99 rfl) (by decide) (not_not_intro hc) ?_
      refine xx_iconst C (dd_X8_marked.at 100 rfl) ic_1 ?_
      refine xx_goto (tgt := 179) C (dd_X8_marked.at 101 rfl) (by decide) ?_
      refine xx_iadd C (dd_X8_marked.at 103 rfl) ?_
      refine xx_istore_n (lv' := [_, _, _, _, _, _, _, _]) C (dd_X8_marked.at 104 rfl) (lb_ rfl) rfl ?_
      refine xx_iinc (v := _ + (1 : Int32)) (lv' := [_, _, _, _, _, _, _, _]) C (dd_X8_marked.at 105 rfl) (lb_ rfl) rfl (by rw [ic_1]) rfl ?_
      refine xx_goto (tgt := 32) C (dd_X8_marked.at 106 rfl) (by decide) ?_
      exact xx_mask [true, true, true, true, true, true, true, true] (hK153_32 _ _ hf)
    · refine xx_icmp_ne_t (tgt := 178) C (dd_X8_marked.at 99 rfl) (by decide) hc ?_
      refine xx_iconst C (dd_X8_marked.at 102 rfl) ic_0 ?_
      refine xx_iadd C (dd_X8_marked.at 103 rfl) ?_
      refine xx_istore_n (lv' := [_, _, _, _, _, _, _, _]) C (dd_X8_marked.at 104 rfl) (lb_ rfl) rfl ?_
      refine xx_iinc (v := _ + (1 : Int32)) (lv' := [_, _, _, _, _, _, _, _]) C (dd_X8_marked.at 105 rfl) (lb_ rfl) rfl (by rw [ic_1]) rfl ?_
      refine xx_goto (tgt := 32) C (dd_X8_marked.at 106 rfl) (by decide) ?_
      exact xx_mask [true, true, true, true, true, true, true, true] (hK153_32 _ _ hf)
  · refine xx_icmp_ne_t (tgt := 178) C (dd_X8_marked.at 92 rfl) (by decide) hc ?_
    refine xx_iconst C (dd_X8_marked.at 102 rfl) ic_0 ?_
    refine xx_iadd C (dd_X8_marked.at 103 rfl) ?_
    refine xx_istore_n (lv' := [_, _, _, _, _, _, _, _]) C (dd_X8_marked.at 104 rfl) (lb_ rfl) rfl ?_
    refine xx_iinc (v := _ + (1 : Int32)) (lv' := [_, _, _, _, _, _, _, _]) C (dd_X8_marked.at 105 rfl) (lb_ rfl) rfl (by rw [ic_1]) rfl ?_
    refine xx_goto (tgt := 32) C (dd_X8_marked.at 106 rfl) (by decide) ?_
    exact xx_mask [true, true, true, true, true, true, true, true] (hK153_32 _ _ hf)
theorem ss_X8_marked_124 {Z : zz_} (C : cx_ Z mt_X8_marked 4) {r9 : Int32} {x1 : Int32} {x2 : Int32} {x4 : Int32} {x5 : Int32} {x6 : Int32} {x7 : Int32} {y0 : Int32} {h : hh_} {K124_32 : Int32 → Int32 → Option (Int32)} (Q : rq_ Z (some (.int r9)) h) (hK124_32 : ∀ (z3 : Int32) (z7 : Int32), K124_32 z3 z7 = some r9 → xx_ Z 32 [some (.ref 98), some (.int x1), some (.int x2), some (.int z3), some (.int x4), some (.int x5), some (.int x6), some (.int z7)] [] h) (hf : ff_X8_marked_124 x1 x2 x4 x5 x6 x7 y0 h K124_32 = some r9) : xx_ Z 124 [some (.ref 98), some (.int x1), some (.int x2), none, some (.int x4), some (.int x5), some (.int x6), some (.int x7)] [.int y0] h := by
  unfold ff_X8_marked_124 at hf
  refine xx_istore_n (lv' := [_, _, _, _, _, _, _, _]) C (dd_X8_marked.at 70 rfl) (lb_ rfl) rfl ?_
  refine xx_iload_n C (dd_X8_marked.at 71 rfl) rfl ?_
  refine xx_iload_n C (dd_X8_marked.at 72 rfl) rfl ?_
  refine xx_iconst C (dd_X8_marked.at 73 rfl) ic_4 ?_
  rcases ifo_ hf with ⟨hc, hf⟩ | ⟨hc, hf⟩
  · refine xx_icmp_ne_f (tgt := 152) C (dd_X8_marked.at 74 rfl) (by decide) (not_not_intro hc) ?_
    refine xx_aload_n C (dd_X8_marked.at 75 rfl) rfl (Nat.le_of_ble_eq_true rfl) ?_
    refine xx_iload_n C (dd_X8_marked.at 76 rfl) rfl ?_
    refine xx_iload C (dd_X8_marked.at 77 rfl) rfl ?_
    refine xx_iload C (dd_X8_marked.at 78 rfl) rfl ?_
    obtain ⟨v7, e8, hf⟩ := bdo_ hf
    refine xx_callVi C (ss_X8_least e8) (dd_X8_marked.at 79 rfl) ck_7 rfl sh_k98 kk_X8_least ki_X8_least lm_RX8_188 (lb_ rfl) rfl rfl (lb_ rfl) ?_
    refine xx_aload_n C (dd_X8_marked.at 80 rfl) rfl (Nat.le_of_ble_eq_true rfl) ?_
    refine xx_iload C (dd_X8_marked.at 81 rfl) rfl ?_
    refine xx_iload C (dd_X8_marked.at 82 rfl) rfl ?_
    obtain ⟨v9, e10, hf⟩ := bdo_ hf
    refine xx_callVi C (ss_X8_felt e10) (dd_X8_marked.at 83 rfl) ck_7 rfl sh_k98 kk_X8_felt ki_X8_felt lm_RX8_177 (lb_ rfl) rfl rfl (lb_ rfl) ?_
    refine xx_isub C (dd_X8_marked.at 84 rfl) ?_
    refine xx_goto (tgt := 153) C (dd_X8_marked.at 85 rfl) (by decide) ?_
    exact xx_mask [true, true, true, false, true, true, true, true] (ss_X8_marked_153 C Q hK124_32 hf)
  · refine xx_icmp_ne_t (tgt := 152) C (dd_X8_marked.at 74 rfl) (by decide) hc ?_
    refine xx_iconst C (dd_X8_marked.at 86 rfl) ic_0 ?_
    exact xx_mask [true, true, true, false, true, true, true, true] (ss_X8_marked_153 C Q hK124_32 hf)
theorem ss_X8_marked_100 {Z : zz_} (C : cx_ Z mt_X8_marked 4) {r9 : Int32} {x1 : Int32} {x2 : Int32} {x4 : Int32} {x5 : Int32} {x6 : Int32} {x7 : Int32} {y0 : Int32} {y1 : Int32} {h : hh_} {K100_32 : Int32 → Int32 → Option (Int32)} (Q : rq_ Z (some (.int r9)) h) (hK100_32 : ∀ (z3 : Int32) (z7 : Int32), K100_32 z3 z7 = some r9 → xx_ Z 32 [some (.ref 98), some (.int x1), some (.int x2), some (.int z3), some (.int x4), some (.int x5), some (.int x6), some (.int z7)] [] h) (hf : ff_X8_marked_100 x1 x2 x4 x5 x6 x7 y0 y1 h K100_32 = some r9) : xx_ Z 100 [some (.ref 98), some (.int x1), some (.int x2), none, some (.int x4), some (.int x5), some (.int x6), some (.int x7)] [.int y1, .int y0] h := by
  unfold ff_X8_marked_100 at hf
  refine xx_iadd C (dd_X8_marked.at 56 rfl) ?_
  refine xx_istore_n (lv' := [_, _, _, _, _, _, _, _]) C (dd_X8_marked.at 57 rfl) (lb_ rfl) rfl ?_
  refine xx_iload_n C (dd_X8_marked.at 58 rfl) rfl ?_
  refine xx_iconst C (dd_X8_marked.at 59 rfl) ic_2 ?_
  rcases ifo_ hf with ⟨hc, hf⟩ | ⟨hc, hf⟩
  · refine xx_icmp_ne_f (tgt := 123) C (dd_X8_marked.at 60 rfl) (by decide) (not_not_intro hc) ?_
    refine xx_iload_n C (dd_X8_marked.at 61 rfl) rfl ?_
    refine xx_aload_n C (dd_X8_marked.at 62 rfl) rfl (Nat.le_of_ble_eq_true rfl) ?_
    refine xx_iload_n C (dd_X8_marked.at 63 rfl) rfl ?_
    refine xx_iload C (dd_X8_marked.at 64 rfl) rfl ?_
    refine xx_iload C (dd_X8_marked.at 65 rfl) rfl ?_
    obtain ⟨v11, e12, hf⟩ := bdo_ hf
    refine xx_callVi C (ss_X8_most e12) (dd_X8_marked.at 66 rfl) ck_7 rfl sh_k98 kk_X8_most ki_X8_most lm_RX8_191 (lb_ rfl) rfl rfl (lb_ rfl) ?_
    refine xx_callSi C (ss_X8_greater rfl) (dd_X8_marked.at 67 rfl) kk_X8_greater ks_X8_greater lm_RX8_171 (lb_ rfl) rfl rfl (lb_ rfl) ?_
    refine xx_goto (tgt := 124) C (dd_X8_marked.at 68 rfl) (by decide) ?_
    exact xx_mask [true, true, true, false, true, true, true, true] (ss_X8_marked_124 C Q hK100_32 hf)
  · refine xx_icmp_ne_t (tgt := 123) C (dd_X8_marked.at 60 rfl) (by decide) hc ?_
    refine xx_iload_n C (dd_X8_marked.at 69 rfl) rfl ?_
    exact xx_mask [true, true, true, false, true, true, true, true] (ss_X8_marked_124 C Q hK100_32 hf)
theorem ss_X8_marked_76 {Z : zz_} (C : cx_ Z mt_X8_marked 4) {r9 : Int32} {x1 : Int32} {x2 : Int32} {x3 : Int32} {x4 : Int32} {x5 : Int32} {x7 : Int32} {y0 : Int32} {h : hh_} {K76_32 : Int32 → Int32 → Int32 → Option (Int32)} (Q : rq_ Z (some (.int r9)) h) (hK76_32 : ∀ (z3 : Int32) (z6 : Int32) (z7 : Int32), K76_32 z3 z6 z7 = some r9 → xx_ Z 32 [some (.ref 98), some (.int x1), some (.int x2), some (.int z3), some (.int x4), some (.int x5), some (.int z6), some (.int z7)] [] h) (hf : ff_X8_marked_76 x1 x2 x3 x4 x5 x7 y0 h K76_32 = some r9) : xx_ Z 76 [some (.ref 98), some (.int x1), some (.int x2), some (.int x3), some (.int x4), some (.int x5), none, some (.int x7)] [.int y0] h := by
  unfold ff_X8_marked_76 at hf
  refine xx_istore (lv' := [_, _, _, _, _, _, _, _]) C (dd_X8_marked.at 43 rfl) (lb_ rfl) rfl ?_
  refine xx_iload_n C (dd_X8_marked.at 44 rfl) rfl ?_
  refine xx_iload_n C (dd_X8_marked.at 45 rfl) rfl ?_
  refine xx_iconst C (dd_X8_marked.at 46 rfl) ic_1 ?_
  rcases ifo_ hf with ⟨hc, hf⟩ | ⟨hc, hf⟩
  · refine xx_icmp_ne_f (tgt := 99) C (dd_X8_marked.at 47 rfl) (by decide) (not_not_intro hc) ?_
    refine xx_aload_n C (dd_X8_marked.at 48 rfl) rfl (Nat.le_of_ble_eq_true rfl) ?_
    refine xx_iload C (dd_X8_marked.at 49 rfl) rfl ?_
    refine xx_iload C (dd_X8_marked.at 50 rfl) rfl ?_
    obtain ⟨v15, e16, hf⟩ := bdo_ hf
    refine xx_callVi C (ss_X8_felt e16) (dd_X8_marked.at 51 rfl) ck_7 rfl sh_k98 kk_X8_felt ki_X8_felt lm_RX8_177 (lb_ rfl) rfl rfl (lb_ rfl) ?_
    rcases ifo_ hf with ⟨hc, hf⟩ | ⟨hc, hf⟩
    · refine xx_if_ne_f (tgt := 99) C (dd_X8_marked.at 52 rfl) (by decide) (not_not_intro hc) ?_
      refine xx_iconst C (dd_X8_marked.at 53 rfl) ic_1 ?_
      refine xx_goto (tgt := 100) C (dd_X8_marked.at 54 rfl) (by decide) ?_
      refine xx_mask [true, true, true, false, true, true, true, true] (ss_X8_marked_100 C Q (fun u21 u22 hf => ?_) hf)
      exact xx_mask [true, true, true, true, true, true, true, true] (hK76_32 _ _ _ hf)
    · refine xx_if_ne_t (tgt := 99) C (dd_X8_marked.at 52 rfl) (by decide) hc ?_
      refine xx_mask [true, true, true, false, true, true, true, true] (ss_X8_marked_99 C Q (fun q17 q18 hf => ?_) hf)
      refine xx_mask [true, true, true, false, true, true, true, true] (ss_X8_marked_100 C Q (fun u19 u20 hf => ?_) hf)
      exact xx_mask [true, true, true, true, true, true, true, true] (hK76_32 _ _ _ hf)
  · refine xx_icmp_ne_t (tgt := 99) C (dd_X8_marked.at 47 rfl) (by decide) hc ?_
    refine xx_mask [true, true, true, false, true, true, true, true] (ss_X8_marked_99 C Q (fun q3 q4 hf => ?_) hf)
    refine xx_mask [true, true, true, false, true, true, true, true] (ss_X8_marked_100 C Q (fun u13 u14 hf => ?_) hf)
    exact xx_mask [true, true, true, true, true, true, true, true] (hK76_32 _ _ _ hf)
theorem ss_X8_marked_71 {Z : zz_} (C : cx_ Z mt_X8_marked 4) {r9 : Int32} {x1 : Int32} {x2 : Int32} {x3 : Int32} {x4 : Int32} {x5 : Int32} {x7 : Int32} {h : hh_} {K71_76 : Int32 → Option (Int32)} (Q : rq_ Z (some (.int r9)) h) (hK71_76 : ∀ (w0 : Int32), K71_76 w0 = some r9 → xx_ Z 76 [some (.ref 98), some (.int x1), some (.int x2), some (.int x3), some (.int x4), some (.int x5), none, some (.int x7)] [.int w0] h) (hf : ff_X8_marked_71 x1 x2 x3 x4 x5 x7 h K71_76 = some r9) : xx_ Z 71 [some (.ref 98), some (.int x1), some (.int x2), some (.int x3), some (.int x4), some (.int x5), none, some (.int x7)] [] h := by
  unfold ff_X8_marked_71 at hf
  refine xx_iconst C (dd_X8_marked.at 40 rfl) ic_1 ?_
  refine xx_goto (tgt := 76) C (dd_X8_marked.at 41 rfl) (by decide) ?_
  exact xx_mask [true, true, true, true, true, true, false, true] (hK71_76 _ hf)
theorem ss_X8_marked_32 {Z : zz_} (C : cx_ Z mt_X8_marked 4) {r9 : Int32} {x1 : Int32} {x2 : Int32} {x4 : Int32} {x5 : Int32} {h : hh_} {K32_187 : Int32 → Int32 → Option (Int32)} (Q : rq_ Z (some (.int r9)) h) (hK32_187 : ∀ (z3 : Int32) (z6 : Int32), K32_187 z3 z6 = some r9 → xx_ Z 187 [some (.ref 98), some (.int x1), some (.int x2), some (.int z3), some (.int x4), none, some (.int z6), none] [] h) : ∀ (n9 : Nat) (x3 : Int32) (x6 : Int32) (x7 : Int32), ff_X8_marked_32 x1 x2 x4 x5 h K32_187 n9 x3 x6 x7 = some r9 → xx_ Z 32 [some (.ref 98), some (.int x1), some (.int x2), some (.int x3), some (.int x4), some (.int x5), some (.int x6), some (.int x7)] [] h := by
  intro n9
  induction n9 with
  | zero =>
    intro x3 x6 x7 hf
    exact absurd hf (by rw [ff_X8_marked_32]; exact nofun)
  | succ n9 ih =>
    intro x3 x6 x7 hf
    rw [ff_X8_marked_32] at hf
    refine xx_iload C (dd_X8_marked.at 21 rfl) rfl ?_
    refine xx_iconst C (dd_X8_marked.at 22 rfl) ic_4 ?_
    rcases ifo_ hf with ⟨hc, hf⟩ | ⟨hc, hf⟩
    · refine xx_icmp_ge_t (tgt := 187) C (dd_X8_marked.at 23 rfl) (by decide) hc ?_
      exact xx_mask [true, true, true, true, true, false, true, false] (hK32_187 _ _ hf)
    · refine xx_icmp_ge_f (tgt := 187) C (dd_X8_marked.at 23 rfl) (by decide) hc ?_
      refine xx_iload C (dd_X8_marked.at 24 rfl) rfl ?_
      rcases ifo_ hf with ⟨hc, hf⟩ | ⟨hc, hf⟩
      · refine xx_if_eq_t (tgt := 75) C (dd_X8_marked.at 25 rfl) (by decide) hc ?_
        refine xx_mask [true, true, true, true, true, true, false, true] (ss_X8_marked_75 C Q (fun q2 hf => ?_) hf)
        exact xx_mask [true, true, true, true, true, true, false, true] (ss_X8_marked_76 C Q (fun _ _ _ hf => ih _ _ _ hf) hf)
      · refine xx_if_eq_f (tgt := 75) C (dd_X8_marked.at 25 rfl) (by decide) hc ?_
        refine xx_iload C (dd_X8_marked.at 26 rfl) rfl ?_
        refine xx_iload C (dd_X8_marked.at 27 rfl) rfl ?_
        rcases ifo_ hf with ⟨hc, hf⟩ | ⟨hc, hf⟩
        · refine xx_icmp_eq_t (tgt := 71) C (dd_X8_marked.at 28 rfl) (by decide) hc ?_
          refine xx_mask [true, true, true, true, true, true, false, true] (ss_X8_marked_71 C Q (fun q23 hf => ?_) hf)
          exact xx_mask [true, true, true, true, true, true, false, true] (ss_X8_marked_76 C Q (fun _ _ _ hf => ih _ _ _ hf) hf)
        · refine xx_icmp_eq_f (tgt := 71) C (dd_X8_marked.at 28 rfl) (by decide) hc ?_
          refine xx_aload_n C (dd_X8_marked.at 29 rfl) rfl (Nat.le_of_ble_eq_true rfl) ?_
          refine xx_iload_n C (dd_X8_marked.at 30 rfl) rfl ?_
          refine xx_iload C (dd_X8_marked.at 31 rfl) rfl ?_
          refine xx_iload C (dd_X8_marked.at 32 rfl) rfl ?_
          obtain ⟨v24, e25, hf⟩ := bdo_ hf
          refine xx_callVi C (ss_X8_least e25) (dd_X8_marked.at 33 rfl) ck_7 rfl sh_k98 kk_X8_least ki_X8_least lm_RX8_188 (lb_ rfl) rfl rfl (lb_ rfl) ?_
          refine xx_aload_n C (dd_X8_marked.at 34 rfl) rfl (Nat.le_of_ble_eq_true rfl) ?_
          refine xx_iload_n C (dd_X8_marked.at 35 rfl) rfl ?_
          refine xx_iload C (dd_X8_marked.at 36 rfl) rfl ?_
          refine xx_iload C (dd_X8_marked.at 37 rfl) rfl ?_
          obtain ⟨v26, e27, hf⟩ := bdo_ hf
          refine xx_callVi C (ss_X8_least e27) (dd_X8_marked.at 38 rfl) ck_7 rfl sh_k98 kk_X8_least ki_X8_least lm_RX8_188 (lb_ rfl) rfl rfl (lb_ rfl) ?_
          rcases ifo_ hf with ⟨hc, hf⟩ | ⟨hc, hf⟩
          · refine xx_icmp_le_t (tgt := 75) C (dd_X8_marked.at 39 rfl) (by decide) hc ?_
            refine xx_mask [true, true, true, true, true, true, false, true] (ss_X8_marked_75 C Q (fun q28 hf => ?_) hf)
            exact xx_mask [true, true, true, true, true, true, false, true] (ss_X8_marked_76 C Q (fun _ _ _ hf => ih _ _ _ hf) hf)
          · refine xx_icmp_le_f (tgt := 75) C (dd_X8_marked.at 39 rfl) (by decide) hc ?_
            refine xx_mask [true, true, true, true, true, true, false, true] (ss_X8_marked_71 C Q (fun q29 hf => ?_) hf)
            exact xx_mask [true, true, true, true, true, true, false, true] (ss_X8_marked_76 C Q (fun _ _ _ hf => ih _ _ _ hf) hf)
theorem ss_X8_marked_5 {Z : zz_} (C : cx_ Z mt_X8_marked 4) {r9 : Int32} {x1 : Int32} {x2 : Int32} {h : hh_}  (Q : rq_ Z (some (.int r9)) h) : ∀ (n9 : Nat) (x3 : Int32) (x4 : Int32), ff_X8_marked_5 x1 x2 h n9 x3 x4 = some r9 → xx_ Z 5 [some (.ref 98), some (.int x1), some (.int x2), some (.int x3), some (.int x4), none, none, none] [] h := by
  intro n9
  induction n9 with
  | zero =>
    intro x3 x4 hf
    exact absurd hf (by rw [ff_X8_marked_5]; exact nofun)
  | succ n9 ih =>
    intro x3 x4 hf
    rw [ff_X8_marked_5] at hf
    refine xx_iload C (dd_X8_marked.at 4 rfl) rfl ?_
    refine xx_aload_n C (dd_X8_marked.at 5 rfl) rfl (Nat.le_of_ble_eq_true rfl) ?_
    refine xx_getI (j := 10) C ck_7 (lb_ rfl) lf_RX8_141 sh_k98 rfl (dd_X8_marked.at 6 rfl) ?_
    rcases ifo_ hf with ⟨hc, hf⟩ | ⟨hc, hf⟩
    · refine xx_icmp_ge_t (tgt := 211) C (dd_X8_marked.at 7 rfl) (by decide) hc ?_
      refine xx_iload_n C (dd_X8_marked.at 120 rfl) rfl ?_
      exact xx_ireturn C (rt_ip hf Q) (dd_X8_marked.at 121 rfl) rfl
    · refine xx_icmp_ge_f (tgt := 211) C (dd_X8_marked.at 7 rfl) (by decide) hc ?_
      refine xx_aload_n C (dd_X8_marked.at 8 rfl) rfl (Nat.le_of_ble_eq_true rfl) ?_
      refine xx_getR (j := 14) (r := 106) C ck_7 (lb_ rfl) lf_RX8_35 sh_k98 rfl (lb_ rfl) rfl (dd_X8_marked.at 9 rfl) ?_
      refine xx_iconst C (dd_X8_marked.at 10 rfl) ic_3 ?_
      refine xx_iload_n C (dd_X8_marked.at 11 rfl) rfl ?_
      refine xx_imul C (dd_X8_marked.at 12 rfl) ?_
      refine xx_iconst C (dd_X8_marked.at 13 rfl) ic_2 ?_
      refine xx_iadd C (dd_X8_marked.at 14 rfl) ?_
      obtain ⟨g1, hf⟩ := gd_ok hf
      refine xx_iaload C (dd_X8_marked.at 15 rfl) sh_k106 (bi_ok g1) ?_
      refine xx_istore (lv' := [_, _, _, _, _, _, _, _]) C (dd_X8_marked.at 16 rfl) (lb_ rfl) rfl ?_
      refine xx_iconst C (dd_X8_marked.at 17 rfl) ic_1 ?_
      refine xx_istore (lv' := [_, _, _, _, _, _, _, _]) C (dd_X8_marked.at 18 rfl) (lb_ rfl) rfl ?_
      refine xx_iconst C (dd_X8_marked.at 19 rfl) ic_0 ?_
      refine xx_istore (lv' := [_, _, _, _, _, _, _, _]) C (dd_X8_marked.at 20 rfl) (lb_ rfl) rfl ?_
      refine xx_mask [true, true, true, true, true, true, true, true] (ss_X8_marked_32 C Q (fun u30 u31 hf => ?_) _ _ _ _ hf)
      refine xx_iload_n C (dd_X8_marked.at 107 rfl) rfl ?_
      refine xx_iload_n C (dd_X8_marked.at 108 rfl) rfl ?_
      refine xx_iconst C (dd_X8_marked.at 109 rfl) ic_3 ?_
      rcases ifo_ hf with ⟨hc, hf⟩ | ⟨hc, hf⟩
      · refine xx_icmp_ne_f (tgt := 202) C (dd_X8_marked.at 110 rfl) (by decide) (not_not_intro hc) ?_
        refine xx_iload C (dd_X8_marked.at 111 rfl) rfl ?_
        rcases ifo_ hf with ⟨hc, hf⟩ | ⟨hc, hf⟩
        · refine xx_if_eq_t (tgt := 202) C (dd_X8_marked.at 112 rfl) (by decide) hc ?_
          refine xx_iconst C (dd_X8_marked.at 115 rfl) ic_0 ?_
          refine xx_iadd C (dd_X8_marked.at 116 rfl) ?_
          refine xx_istore_n (lv' := [_, _, _, _, _, _, _, _]) C (dd_X8_marked.at 117 rfl) (lb_ rfl) rfl ?_
          refine xx_iinc (v := _ + (1 : Int32)) (lv' := [_, _, _, _, _, _, _, _]) C (dd_X8_marked.at 118 rfl) (lb_ rfl) rfl (by rw [ic_1]) rfl ?_
          refine xx_goto (tgt := 5) C (dd_X8_marked.at 119 rfl) (by decide) ?_
          exact xx_mask [true, true, true, true, true, false, false, false] (ih _ _ hf)
        · refine xx_if_eq_f (tgt := 202) C (dd_X8_marked.at 112 rfl) (by decide) hc ?_
          refine xx_iconst C (dd_X8_marked.at 113 rfl) ic_1 ?_
          refine xx_goto (tgt := 203) C (dd_X8_marked.at 114 rfl) (by decide) ?_
          refine xx_iadd C (dd_X8_marked.at 116 rfl) ?_
          refine xx_istore_n (lv' := [_, _, _, _, _, _, _, _]) C (dd_X8_marked.at 117 rfl) (lb_ rfl) rfl ?_
          refine xx_iinc (v := _ + (1 : Int32)) (lv' := [_, _, _, _, _, _, _, _]) C (dd_X8_marked.at 118 rfl) (lb_ rfl) rfl (by rw [ic_1]) rfl ?_
          refine xx_goto (tgt := 5) C (dd_X8_marked.at 119 rfl) (by decide) ?_
          exact xx_mask [true, true, true, true, true, false, false, false] (ih _ _ hf)
      · refine xx_icmp_ne_t (tgt := 202) C (dd_X8_marked.at 110 rfl) (by decide) hc ?_
        refine xx_iconst C (dd_X8_marked.at 115 rfl) ic_0 ?_
        refine xx_iadd C (dd_X8_marked.at 116 rfl) ?_
        refine xx_istore_n (lv' := [_, _, _, _, _, _, _, _]) C (dd_X8_marked.at 117 rfl) (lb_ rfl) rfl ?_
        refine xx_iinc (v := _ + (1 : Int32)) (lv' := [_, _, _, _, _, _, _, _]) C (dd_X8_marked.at 118 rfl) (lb_ rfl) rfl (by rw [ic_1]) rfl ?_
        refine xx_goto (tgt := 5) C (dd_X8_marked.at 119 rfl) (by decide) ?_
        exact xx_mask [true, true, true, true, true, false, false, false] (ih _ _ hf)
theorem ss_X8_marked {l : Launch} {G : gt_} {a1 : Int32} {a2 : Int32} {h : hh_} {r9 : Int32}  (hf : ff_X8_marked a1 a2 h = some r9) : ok_ l G 4 mt_X8_marked [.ref 98, .int a1, .int a2] h (some (.int r9)) h := by
  refine ok_of pn_RX8 (lb_ rfl) (fun Z _ _ C Q => ?_)
  show xx_ Z 0 [some (.ref 98), some (.int a1), some (.int a2), none, none, none, none, none] [] h
  unfold ff_X8_marked at hf
  refine xx_iconst C (dd_X8_marked.at 0 rfl) ic_0 ?_
  refine xx_istore_n (lv' := [_, _, _, _, _, _, _, _]) C (dd_X8_marked.at 1 rfl) (lb_ rfl) rfl ?_
  refine xx_iconst C (dd_X8_marked.at 2 rfl) ic_0 ?_
  refine xx_istore (lv' := [_, _, _, _, _, _, _, _]) C (dd_X8_marked.at 3 rfl) (lb_ rfl) rfl ?_
  exact xx_mask [true, true, true, true, true, false, false, false] (ss_X8_marked_5 C Q _ _ _ hf)
theorem ss_X8_mark {l : Launch} {G : gt_} {a1 : Int32} {a2 : Int32} {h : hh_} {r9 : Int32} {h9 : hh_}  (hf : ff_X8_mark a1 a2 h = some (r9, h9)) : ok_ l G 5 mt_X8_mark [.ref 98, .int a1, .int a2] h (some (.int r9)) h9 := by
  refine ok_of pn_RX8 (lb_ rfl) (fun Z _ _ C Q => ?_)
  show xx_ Z 0 [some (.ref 98), some (.int a1), some (.int a2)] [] h
  unfold ff_X8_mark at hf
  refine xx_aload_n C (dd_X8_mark.at 0 rfl) rfl (Nat.le_of_ble_eq_true rfl) ?_
  refine xx_iload_n C (dd_X8_mark.at 1 rfl) rfl ?_
  refine xx_callVi C (ss_X8_isThumb rfl) (dd_X8_mark.at 2 rfl) ck_7 rfl sh_k98 kk_X8_isThumb ki_X8_isThumb lm_RX8_165 (lb_ rfl) rfl rfl (lb_ rfl) ?_
  rcases ifo_ hf with ⟨hc, hf⟩ | ⟨hc, hf⟩
  · refine xx_if_eq_t (tgt := 17) C (dd_X8_mark.at 3 rfl) (by decide) hc ?_
    refine xx_iconst C (dd_X8_mark.at 9 rfl) ic_m1 ?_
    exact xx_ireturn C (rt_iwp hf Q) (dd_X8_mark.at 10 rfl) rfl
  · refine xx_if_eq_f (tgt := 17) C (dd_X8_mark.at 3 rfl) (by decide) hc ?_
    refine xx_iload_n C (dd_X8_mark.at 4 rfl) rfl ?_
    refine xx_iconst C (dd_X8_mark.at 5 rfl) ic_1 ?_
    refine xx_iconst C (dd_X8_mark.at 6 rfl) ic_5 ?_
    refine xx_callSi C (ss_X8_in rfl) (dd_X8_mark.at 7 rfl) kk_X8_in ks_X8_in lm_RX8_72 (lb_ rfl) rfl rfl (lb_ rfl) ?_
    rcases ifo_ hf with ⟨hc, hf⟩ | ⟨hc, hf⟩
    · refine xx_if_ne_f (tgt := 19) C (dd_X8_mark.at 8 rfl) (by decide) (not_not_intro hc) ?_
      refine xx_iconst C (dd_X8_mark.at 9 rfl) ic_m1 ?_
      exact xx_ireturn C (rt_iwp hf Q) (dd_X8_mark.at 10 rfl) rfl
    · refine xx_if_ne_t (tgt := 19) C (dd_X8_mark.at 8 rfl) (by decide) hc ?_
      refine xx_aload_n C (dd_X8_mark.at 11 rfl) rfl (Nat.le_of_ble_eq_true rfl) ?_
      refine xx_iload_n C (dd_X8_mark.at 12 rfl) rfl ?_
      refine xx_iload_n C (dd_X8_mark.at 13 rfl) rfl ?_
      obtain ⟨v1, e2, hf⟩ := bdo_ hf
      refine xx_callVi C (ss_X8_isA e2) (dd_X8_mark.at 14 rfl) ck_7 rfl sh_k98 kk_X8_isA ki_X8_isA lm_RX8_194 (lb_ rfl) rfl rfl (lb_ rfl) ?_
      rcases ifo_ hf with ⟨hc, hf⟩ | ⟨hc, hf⟩
      · refine xx_if_eq_t (tgt := 37) C (dd_X8_mark.at 15 rfl) (by decide) hc ?_
        refine xx_aload_n C (dd_X8_mark.at 21 rfl) rfl (Nat.le_of_ble_eq_true rfl) ?_
        refine xx_iconst C (dd_X8_mark.at 22 rfl) ic_3 ?_
        obtain ⟨v3, e4, hf⟩ := bdo_ hf
        refine xx_callVi C (ss_X8_meet (pz_ e4)) (dd_X8_mark.at 23 rfl) ck_7 rfl sh_k98 kk_X8_meet ki_X8_meet lm_RX8_80 (lb_ rfl) rfl rfl (lb_ rfl) ?_
        exact xx_ireturn C (rt_iwp hf Q) (dd_X8_mark.at 24 rfl) rfl
      · refine xx_if_eq_f (tgt := 37) C (dd_X8_mark.at 15 rfl) (by decide) hc ?_
        refine xx_aload_n C (dd_X8_mark.at 16 rfl) rfl (Nat.le_of_ble_eq_true rfl) ?_
        refine xx_iload_n C (dd_X8_mark.at 17 rfl) rfl ?_
        refine xx_iload_n C (dd_X8_mark.at 18 rfl) rfl ?_
        obtain ⟨v5, e6, hf⟩ := bdo_ hf
        refine xx_callVi C (ss_X8_marked e6) (dd_X8_mark.at 19 rfl) ck_7 rfl sh_k98 kk_X8_marked ki_X8_marked lm_RX8_198 (lb_ rfl) rfl rfl (lb_ rfl) ?_
        refine xx_goto (tgt := 42) C (dd_X8_mark.at 20 rfl) (by decide) ?_
        exact xx_ireturn C (rt_iwp hf Q) (dd_X8_mark.at 24 rfl) rfl
theorem ss_X8_error {l : Launch} {G : gt_} {a1 : Int32} {a2 : Int32} {h : hh_} {r9 : Int32} {h9 : hh_}  (hf : ff_X8_error a1 a2 h = some (r9, h9)) : ok_ l G 2 mt_X8_error [.ref 98, .int a1, .int a2] h (some (.int r9)) h9 := by
  refine ok_of pn_RX8 (lb_ rfl) (fun Z _ _ C Q => ?_)
  show xx_ Z 0 [some (.ref 98), some (.int a1), some (.int a2), none] [] h
  unfold ff_X8_error at hf
  refine xx_aload_n C (dd_X8_error.at 0 rfl) rfl (Nat.le_of_ble_eq_true rfl) ?_
  refine xx_iload_n C (dd_X8_error.at 1 rfl) rfl ?_
  refine xx_callVi C (ss_X8_isThumb rfl) (dd_X8_error.at 2 rfl) ck_7 rfl sh_k98 kk_X8_isThumb ki_X8_isThumb lm_RX8_165 (lb_ rfl) rfl rfl (lb_ rfl) ?_
  rcases ifo_ hf with ⟨hc, hf⟩ | ⟨hc, hf⟩
  · refine xx_if_eq_t (tgt := 17) C (dd_X8_error.at 3 rfl) (by decide) hc ?_
    refine xx_iconst C (dd_X8_error.at 9 rfl) ic_m1 ?_
    exact xx_ireturn C (rt_iwp hf Q) (dd_X8_error.at 10 rfl) rfl
  · refine xx_if_eq_f (tgt := 17) C (dd_X8_error.at 3 rfl) (by decide) hc ?_
    refine xx_iload_n C (dd_X8_error.at 4 rfl) rfl ?_
    refine xx_iconst C (dd_X8_error.at 5 rfl) ic_0 ?_
    refine xx_iconst C (dd_X8_error.at 6 rfl) ic_2 ?_
    refine xx_callSi C (ss_X8_in rfl) (dd_X8_error.at 7 rfl) kk_X8_in ks_X8_in lm_RX8_72 (lb_ rfl) rfl rfl (lb_ rfl) ?_
    rcases ifo_ hf with ⟨hc, hf⟩ | ⟨hc, hf⟩
    · refine xx_if_ne_f (tgt := 19) C (dd_X8_error.at 8 rfl) (by decide) (not_not_intro hc) ?_
      refine xx_iconst C (dd_X8_error.at 9 rfl) ic_m1 ?_
      exact xx_ireturn C (rt_iwp hf Q) (dd_X8_error.at 10 rfl) rfl
    · refine xx_if_ne_t (tgt := 19) C (dd_X8_error.at 8 rfl) (by decide) hc ?_
      refine xx_aload_n C (dd_X8_error.at 11 rfl) rfl (Nat.le_of_ble_eq_true rfl) ?_
      refine xx_getR (j := 14) (r := 106) C ck_7 (lb_ rfl) lf_RX8_35 sh_k98 rfl (lb_ rfl) rfl (dd_X8_error.at 12 rfl) ?_
      refine xx_iconst C (dd_X8_error.at 13 rfl) ic_3 ?_
      refine xx_iload_n C (dd_X8_error.at 14 rfl) rfl ?_
      refine xx_imul C (dd_X8_error.at 15 rfl) ?_
      refine xx_iconst C (dd_X8_error.at 16 rfl) ic_1 ?_
      refine xx_iadd C (dd_X8_error.at 17 rfl) ?_
      obtain ⟨g1, hf⟩ := gd_ok hf
      refine xx_iaload C (dd_X8_error.at 18 rfl) sh_k106 (bi_ok g1) ?_
      refine xx_istore_n (lv' := [_, _, _, _]) C (dd_X8_error.at 19 rfl) (lb_ rfl) rfl ?_
      refine xx_aload_n C (dd_X8_error.at 20 rfl) rfl (Nat.le_of_ble_eq_true rfl) ?_
      refine xx_getR (j := 14) (r := 106) C ck_7 (lb_ rfl) lf_RX8_35 sh_k98 rfl (lb_ rfl) rfl (dd_X8_error.at 21 rfl) ?_
      refine xx_iconst C (dd_X8_error.at 22 rfl) ic_3 ?_
      refine xx_iload_n C (dd_X8_error.at 23 rfl) rfl ?_
      refine xx_imul C (dd_X8_error.at 24 rfl) ?_
      refine xx_iconst C (dd_X8_error.at 25 rfl) ic_1 ?_
      refine xx_iadd C (dd_X8_error.at 26 rfl) ?_
      refine xx_iload_n C (dd_X8_error.at 27 rfl) rfl ?_
      refine xx_iastore C (dd_X8_error.at 28 rfl) sh_k106 (bi_ok g1) ?_
      refine xx_iload_n C (dd_X8_error.at 29 rfl) rfl ?_
      exact xx_ireturn C (rt_iwp hf Q) (dd_X8_error.at 30 rfl) rfl
theorem ss_X8_write_2 {Z : zz_} (C : cx_ Z mt_X8_write 0) {h9 : hh_} {x1 : Nat} {x2 : Int32}  (Q : rq_ Z none h9) (hp1 : 0 < x1) : ∀ (n9 : Nat) (x3 : Int32) (h : hh_), ff_X8_write_2 x1 x2 n9 x3 h = some h9 → xx_ Z 2 [some (.ref 98), some (.ref x1), some (.int x2), some (.int x3)] [] h := by
  intro n9
  induction n9 with
  | zero =>
    intro x3 h hf
    exact absurd hf (by rw [ff_X8_write_2]; exact nofun)
  | succ n9 ih =>
    intro x3 h hf
    rw [ff_X8_write_2] at hf
    refine xx_iload_n C (dd_X8_write.at 2 rfl) rfl ?_
    refine xx_bipush C (dd_X8_write.at 3 rfl) bq_25 ?_
    rcases ifo_ hf with ⟨hc, hf⟩ | ⟨hc, hf⟩
    · refine xx_icmp_ge_t (tgt := 25) C (dd_X8_write.at 4 rfl) (by decide) hc ?_
      exact xx_return C (rt_vwp hf Q) (dd_X8_write.at 16 rfl) rfl
    · refine xx_icmp_ge_f (tgt := 25) C (dd_X8_write.at 4 rfl) (by decide) hc ?_
      refine xx_aload_n C (dd_X8_write.at 5 rfl) rfl hp1 ?_
      refine xx_iload_n C (dd_X8_write.at 6 rfl) rfl ?_
      refine xx_iload_n C (dd_X8_write.at 7 rfl) rfl ?_
      refine xx_iadd C (dd_X8_write.at 8 rfl) ?_
      refine xx_aload_n C (dd_X8_write.at 9 rfl) rfl (Nat.le_of_ble_eq_true rfl) ?_
      refine xx_getR (j := 13) (r := 105) C ck_7 (lb_ rfl) lf_RX8_32 sh_k98 rfl (lb_ rfl) rfl (dd_X8_write.at 10 rfl) ?_
      refine xx_iload_n C (dd_X8_write.at 11 rfl) rfl ?_
      obtain ⟨g1, hf⟩ := gd_ok hf
      refine xx_iaload C (dd_X8_write.at 12 rfl) sh_k105 (bi_ok g1) ?_
      obtain ⟨g2, hf⟩ := gd_ok hf
      refine xx_iastore C (dd_X8_write.at 13 rfl) (bp_sh g2) (bp_in g2) ?_
      refine xx_iinc (v := _ + (1 : Int32)) (lv' := [_, _, _, _]) C (dd_X8_write.at 14 rfl) (lb_ rfl) rfl (by rw [ic_1]) rfl ?_
      refine xx_goto (tgt := 2) C (dd_X8_write.at 15 rfl) (by decide) ?_
      exact xx_mask [true, true, true, true] (ih _ _ hf)
theorem ss_X8_write {l : Launch} {G : gt_} {a1 : Nat} {a2 : Int32} {h : hh_} {h9 : hh_} (hp1 : 0 < a1) (hf : ff_X8_write a1 a2 h = some h9) : ok_ l G 0 mt_X8_write [.ref 98, .ref a1, .int a2] h none h9 := by
  refine ok_of pn_RX8 (lb_ rfl) (fun Z _ _ C Q => ?_)
  show xx_ Z 0 [some (.ref 98), some (.ref a1), some (.int a2), none] [] h
  unfold ff_X8_write at hf
  refine xx_iconst C (dd_X8_write.at 0 rfl) ic_0 ?_
  refine xx_istore_n (lv' := [_, _, _, _]) C (dd_X8_write.at 1 rfl) (lb_ rfl) rfl ?_
  exact xx_mask [true, true, true, true] (ss_X8_write_2 C Q hp1 _ _ _ hf)
theorem ss_X8_readBack_2 {Z : zz_} (C : cx_ Z mt_X8_readBack 0) {h9 : hh_} {x1 : Nat} {x2 : Int32}  (Q : rq_ Z none h9) (hp1 : 0 < x1) : ∀ (n9 : Nat) (x3 : Int32) (h : hh_), ff_X8_readBack_2 x1 x2 n9 x3 h = some h9 → xx_ Z 2 [some (.ref 98), some (.ref x1), some (.int x2), some (.int x3)] [] h := by
  intro n9
  induction n9 with
  | zero =>
    intro x3 h hf
    exact absurd hf (by rw [ff_X8_readBack_2]; exact nofun)
  | succ n9 ih =>
    intro x3 h hf
    rw [ff_X8_readBack_2] at hf
    refine xx_iload_n C (dd_X8_readBack.at 2 rfl) rfl ?_
    refine xx_bipush C (dd_X8_readBack.at 3 rfl) bq_25 ?_
    rcases ifo_ hf with ⟨hc, hf⟩ | ⟨hc, hf⟩
    · refine xx_icmp_ge_t (tgt := 25) C (dd_X8_readBack.at 4 rfl) (by decide) hc ?_
      exact xx_return C (rt_vwp hf Q) (dd_X8_readBack.at 16 rfl) rfl
    · refine xx_icmp_ge_f (tgt := 25) C (dd_X8_readBack.at 4 rfl) (by decide) hc ?_
      refine xx_aload_n C (dd_X8_readBack.at 5 rfl) rfl (Nat.le_of_ble_eq_true rfl) ?_
      refine xx_getR (j := 13) (r := 105) C ck_7 (lb_ rfl) lf_RX8_32 sh_k98 rfl (lb_ rfl) rfl (dd_X8_readBack.at 6 rfl) ?_
      refine xx_iload_n C (dd_X8_readBack.at 7 rfl) rfl ?_
      refine xx_aload_n C (dd_X8_readBack.at 8 rfl) rfl hp1 ?_
      refine xx_iload_n C (dd_X8_readBack.at 9 rfl) rfl ?_
      refine xx_iload_n C (dd_X8_readBack.at 10 rfl) rfl ?_
      refine xx_iadd C (dd_X8_readBack.at 11 rfl) ?_
      obtain ⟨g1, hf⟩ := gd_ok hf
      refine xx_iaload C (dd_X8_readBack.at 12 rfl) (bp_sh g1) (bp_in g1) ?_
      obtain ⟨g2, hf⟩ := gd_ok hf
      refine xx_iastore C (dd_X8_readBack.at 13 rfl) sh_k105 (bi_ok g2) ?_
      refine xx_iinc (v := _ + (1 : Int32)) (lv' := [_, _, _, _]) C (dd_X8_readBack.at 14 rfl) (lb_ rfl) rfl (by rw [ic_1]) rfl ?_
      refine xx_goto (tgt := 2) C (dd_X8_readBack.at 15 rfl) (by decide) ?_
      exact xx_mask [true, true, true, true] (ih _ _ hf)
theorem ss_X8_readBack {l : Launch} {G : gt_} {a1 : Nat} {a2 : Int32} {h : hh_} {h9 : hh_} (hp1 : 0 < a1) (hf : ff_X8_readBack a1 a2 h = some h9) : ok_ l G 0 mt_X8_readBack [.ref 98, .ref a1, .int a2] h none h9 := by
  refine ok_of pn_RX8 (lb_ rfl) (fun Z _ _ C Q => ?_)
  show xx_ Z 0 [some (.ref 98), some (.ref a1), some (.int a2), none] [] h
  unfold ff_X8_readBack at hf
  refine xx_iconst C (dd_X8_readBack.at 0 rfl) ic_0 ?_
  refine xx_istore_n (lv' := [_, _, _, _]) C (dd_X8_readBack.at 1 rfl) (lb_ rfl) rfl ?_
  exact xx_mask [true, true, true, true] (ss_X8_readBack_2 C Q hp1 _ _ _ hf)
theorem ss_X8_note {l : Launch} {G : gt_} {h : hh_} {h9 : hh_}  (hf : ff_X8_note h = some h9) : ok_ l G 1 mt_X8_note [.ref 98] h none h9 := by
  refine ok_of pn_RX8 (lb_ rfl) (fun Z _ _ C Q => ?_)
  show xx_ Z 0 [some (.ref 98)] [] h
  unfold ff_X8_note at hf
  refine xx_aload_n C (dd_X8_note.at 0 rfl) rfl (Nat.le_of_ble_eq_true rfl) ?_
  refine xx_aload_n C (dd_X8_note.at 1 rfl) rfl (Nat.le_of_ble_eq_true rfl) ?_
  refine xx_getR (j := 22) (r := 109) C ck_7 (lb_ rfl) lf_RX8_44 sh_k98 rfl (lb_ rfl) rfl (dd_X8_note.at 2 rfl) ?_
  refine xx_bipush C (dd_X8_note.at 3 rfl) bq_25 ?_
  refine xx_aload_n C (dd_X8_note.at 4 rfl) rfl (Nat.le_of_ble_eq_true rfl) ?_
  refine xx_getI (j := 21) C ck_7 (lb_ rfl) lf_RX8_150 sh_k98 rfl (dd_X8_note.at 5 rfl) ?_
  refine xx_imul C (dd_X8_note.at 6 rfl) ?_
  obtain ⟨v1, e2, hf⟩ := bdo_ hf
  refine xx_callVv C (ss_X8_write (Nat.le_of_ble_eq_true rfl) e2) (dd_X8_note.at 7 rfl) ck_7 rfl sh_k98 kk_X8_write ki_X8_write lm_RX8_201 (lb_ rfl) rfl rfl (lb_ rfl) ?_
  refine xx_aload_n C (dd_X8_note.at 8 rfl) rfl (Nat.le_of_ble_eq_true rfl) ?_
  refine xx_dup C (dd_X8_note.at 9 rfl) rfl ?_
  refine xx_getI (j := 21) C ck_7 (lb_ rfl) lf_RX8_150 sh_k98 rfl (dd_X8_note.at 10 rfl) ?_
  refine xx_iconst C (dd_X8_note.at 11 rfl) ic_1 ?_
  refine xx_iadd C (dd_X8_note.at 12 rfl) ?_
  refine xx_putI (j := 21) C ck_7 (lb_ rfl) lf_RX8_150 rfl rfl sh_k98 rfl (dd_X8_note.at 13 rfl) ?_
  exact xx_return C (rt_vwp hf Q) (dd_X8_note.at 14 rfl) rfl
theorem ss_X8_pad {l : Launch} {G : gt_} {a1 : Int32} {a2 : Int32} {h : hh_} {r9 : Int32} {h9 : hh_}  (hf : ff_X8_pad a1 a2 h = some (r9, h9)) : ok_ l G 2 mt_X8_pad [.ref 98, .int a1, .int a2] h (some (.int r9)) h9 := by
  refine ok_of pn_RX8 (lb_ rfl) (fun Z _ _ C Q => ?_)
  show xx_ Z 0 [some (.ref 98), some (.int a1), some (.int a2)] [] h
  unfold ff_X8_pad at hf
  refine xx_aload_n C (dd_X8_pad.at 0 rfl) rfl (Nat.le_of_ble_eq_true rfl) ?_
  refine xx_iload_n C (dd_X8_pad.at 1 rfl) rfl ?_
  refine xx_callVi C (ss_X8_isHead rfl) (dd_X8_pad.at 2 rfl) ck_7 rfl sh_k98 kk_X8_isHead ki_X8_isHead lm_RX8_159 (lb_ rfl) rfl rfl (lb_ rfl) ?_
  rcases ifo_ hf with ⟨hc, hf⟩ | ⟨hc, hf⟩
  · refine xx_if_eq_t (tgt := 15) C (dd_X8_pad.at 3 rfl) (by decide) hc ?_
    refine xx_iconst C (dd_X8_pad.at 7 rfl) ic_m1 ?_
    exact xx_ireturn C (rt_iwp hf Q) (dd_X8_pad.at 8 rfl) rfl
  · refine xx_if_eq_f (tgt := 15) C (dd_X8_pad.at 3 rfl) (by decide) hc ?_
    refine xx_iload_n C (dd_X8_pad.at 4 rfl) rfl ?_
    refine xx_callSi C (ss_X8_isPlace rfl) (dd_X8_pad.at 5 rfl) kk_X8_isPlace ks_X8_isPlace lm_RX8_205 (lb_ rfl) rfl rfl (lb_ rfl) ?_
    rcases ifo_ hf with ⟨hc, hf⟩ | ⟨hc, hf⟩
    · refine xx_if_ne_f (tgt := 17) C (dd_X8_pad.at 6 rfl) (by decide) (not_not_intro hc) ?_
      refine xx_iconst C (dd_X8_pad.at 7 rfl) ic_m1 ?_
      exact xx_ireturn C (rt_iwp hf Q) (dd_X8_pad.at 8 rfl) rfl
    · refine xx_if_ne_t (tgt := 17) C (dd_X8_pad.at 6 rfl) (by decide) hc ?_
      refine xx_aload_n C (dd_X8_pad.at 9 rfl) rfl (Nat.le_of_ble_eq_true rfl) ?_
      refine xx_iload_n C (dd_X8_pad.at 10 rfl) rfl ?_
      refine xx_iload_n C (dd_X8_pad.at 11 rfl) rfl ?_
      obtain ⟨v1, e2, hf⟩ := bdo_ hf
      refine xx_callVi C (ss_X8_bump e2) (dd_X8_pad.at 12 rfl) ck_7 rfl sh_k98 kk_X8_bump ki_X8_bump lm_RX8_153 (lb_ rfl) rfl rfl (lb_ rfl) ?_
      refine xx_iconst C (dd_X8_pad.at 13 rfl) ic_5 ?_
      rcases ifo_ hf with ⟨hc, hf⟩ | ⟨hc, hf⟩
      · refine xx_icmp_ne_f (tgt := 30) C (dd_X8_pad.at 14 rfl) (by decide) (not_not_intro hc) ?_
        refine xx_bipush C (dd_X8_pad.at 15 rfl) bq_m4 ?_
        exact xx_ireturn C (rt_iwp hf Q) (dd_X8_pad.at 16 rfl) rfl
      · refine xx_icmp_ne_t (tgt := 30) C (dd_X8_pad.at 14 rfl) (by decide) hc ?_
        refine xx_aload_n C (dd_X8_pad.at 17 rfl) rfl (Nat.le_of_ble_eq_true rfl) ?_
        refine xx_getI (j := 21) C ck_7 (lb_ rfl) lf_RX8_150 sh_k98 rfl (dd_X8_pad.at 18 rfl) ?_
        refine xx_bipush C (dd_X8_pad.at 19 rfl) bq_40 ?_
        rcases ifo_ hf with ⟨hc, hf⟩ | ⟨hc, hf⟩
        · refine xx_icmp_ne_f (tgt := 42) C (dd_X8_pad.at 20 rfl) (by decide) (not_not_intro hc) ?_
          refine xx_bipush C (dd_X8_pad.at 21 rfl) bq_m2 ?_
          exact xx_ireturn C (rt_iwp hf Q) (dd_X8_pad.at 22 rfl) rfl
        · refine xx_icmp_ne_t (tgt := 42) C (dd_X8_pad.at 20 rfl) (by decide) hc ?_
          refine xx_aload_n C (dd_X8_pad.at 23 rfl) rfl (Nat.le_of_ble_eq_true rfl) ?_
          obtain ⟨v3, e4, hf⟩ := bdo_ hf
          refine xx_callVv C (ss_X8_note e4) (dd_X8_pad.at 24 rfl) ck_7 rfl sh_k98 kk_X8_note ki_X8_note lm_RX8_208 (lb_ rfl) rfl rfl (lb_ rfl) ?_
          refine xx_aload_n C (dd_X8_pad.at 25 rfl) rfl (Nat.le_of_ble_eq_true rfl) ?_
          refine xx_getR (j := 13) (r := 105) C ck_7 (lb_ rfl) lf_RX8_32 sh_k98 rfl (lb_ rfl) rfl (dd_X8_pad.at 26 rfl) ?_
          refine xx_iconst C (dd_X8_pad.at 27 rfl) ic_5 ?_
          refine xx_iload_n C (dd_X8_pad.at 28 rfl) rfl ?_
          refine xx_imul C (dd_X8_pad.at 29 rfl) ?_
          refine xx_iload_n C (dd_X8_pad.at 30 rfl) rfl ?_
          refine xx_iadd C (dd_X8_pad.at 31 rfl) ?_
          refine xx_dup2 C (dd_X8_pad.at 32 rfl) rfl rfl ?_
          obtain ⟨g5, hf⟩ := gd_ok hf
          refine xx_iaload C (dd_X8_pad.at 33 rfl) sh_k105 (bi_ok g5) ?_
          refine xx_iconst C (dd_X8_pad.at 34 rfl) ic_1 ?_
          refine xx_iadd C (dd_X8_pad.at 35 rfl) ?_
          refine xx_iastore C (dd_X8_pad.at 36 rfl) sh_k105 (bi_ok g5) ?_
          refine xx_aload_n C (dd_X8_pad.at 37 rfl) rfl (Nat.le_of_ble_eq_true rfl) ?_
          refine xx_iload_n C (dd_X8_pad.at 38 rfl) rfl ?_
          refine xx_iload_n C (dd_X8_pad.at 39 rfl) rfl ?_
          obtain ⟨v6, e7, hf⟩ := bdo_ hf
          refine xx_callVi C (ss_X8_bump e7) (dd_X8_pad.at 40 rfl) ck_7 rfl sh_k98 kk_X8_bump ki_X8_bump lm_RX8_153 (lb_ rfl) rfl rfl (lb_ rfl) ?_
          exact xx_ireturn C (rt_iwp hf Q) (dd_X8_pad.at 41 rfl) rfl
theorem ss_X8_grow_28 {Z : zz_} (C : cx_ Z mt_X8_grow 2) {r9 : Int32} {h9 : hh_} {x1 : Int32}  (Q : rq_ Z (some (.int r9)) h9) : ∀ (n9 : Nat) (x2 : Int32) (h : hh_), ff_X8_grow_28 x1 n9 x2 h = some (r9, h9) → xx_ Z 28 [some (.ref 98), some (.int x1), some (.int x2)] [] h := by
  intro n9
  induction n9 with
  | zero =>
    intro x2 h hf
    exact absurd hf (by rw [ff_X8_grow_28]; exact nofun)
  | succ n9 ih =>
    intro x2 h hf
    rw [ff_X8_grow_28] at hf
    refine xx_iload_n C (dd_X8_grow.at 16 rfl) rfl ?_
    refine xx_iconst C (dd_X8_grow.at 17 rfl) ic_4 ?_
    rcases ifo_ hf with ⟨hc, hf⟩ | ⟨hc, hf⟩
    · refine xx_icmp_ge_t (tgt := 61) C (dd_X8_grow.at 18 rfl) (by decide) hc ?_
      refine xx_aload_n C (dd_X8_grow.at 37 rfl) rfl (Nat.le_of_ble_eq_true rfl) ?_
      refine xx_iload_n C (dd_X8_grow.at 38 rfl) rfl ?_
      obtain ⟨v3, e4, hf⟩ := bdo_ hf
      refine xx_callVi C (ss_X8_bumps e4) (dd_X8_grow.at 39 rfl) ck_7 rfl sh_k98 kk_X8_bumps ki_X8_bumps lm_RX8_156 (lb_ rfl) rfl rfl (lb_ rfl) ?_
      exact xx_ireturn C (rt_iwp hf Q) (dd_X8_grow.at 40 rfl) rfl
    · refine xx_icmp_ge_f (tgt := 61) C (dd_X8_grow.at 18 rfl) (by decide) hc ?_
      refine xx_aload_n C (dd_X8_grow.at 19 rfl) rfl (Nat.le_of_ble_eq_true rfl) ?_
      refine xx_getR (j := 13) (r := 105) C ck_7 (lb_ rfl) lf_RX8_32 sh_k98 rfl (lb_ rfl) rfl (dd_X8_grow.at 20 rfl) ?_
      refine xx_iconst C (dd_X8_grow.at 21 rfl) ic_5 ?_
      refine xx_iload_n C (dd_X8_grow.at 22 rfl) rfl ?_
      refine xx_imul C (dd_X8_grow.at 23 rfl) ?_
      refine xx_iload_n C (dd_X8_grow.at 24 rfl) rfl ?_
      refine xx_iadd C (dd_X8_grow.at 25 rfl) ?_
      refine xx_iconst C (dd_X8_grow.at 26 rfl) ic_5 ?_
      refine xx_aload_n C (dd_X8_grow.at 27 rfl) rfl (Nat.le_of_ble_eq_true rfl) ?_
      refine xx_iload_n C (dd_X8_grow.at 28 rfl) rfl ?_
      refine xx_iload_n C (dd_X8_grow.at 29 rfl) rfl ?_
      obtain ⟨v5, e6, hf⟩ := bdo_ hf
      refine xx_callVi C (ss_X8_bump e6) (dd_X8_grow.at 30 rfl) ck_7 rfl sh_k98 kk_X8_bump ki_X8_bump lm_RX8_153 (lb_ rfl) rfl rfl (lb_ rfl) ?_
      refine xx_iconst C (dd_X8_grow.at 31 rfl) ic_1 ?_
      refine xx_iadd C (dd_X8_grow.at 32 rfl) ?_
      refine xx_callSi C (ss_X8_lesser rfl) (dd_X8_grow.at 33 rfl) kk_X8_lesser ks_X8_lesser lm_RX8_174 (lb_ rfl) rfl rfl (lb_ rfl) ?_
      obtain ⟨g7, hf⟩ := gd_ok hf
      refine xx_iastore C (dd_X8_grow.at 34 rfl) sh_k105 (bi_ok g7) ?_
      refine xx_iinc (v := _ + (1 : Int32)) (lv' := [_, _, _]) C (dd_X8_grow.at 35 rfl) (lb_ rfl) rfl (by rw [ic_1]) rfl ?_
      refine xx_goto (tgt := 28) C (dd_X8_grow.at 36 rfl) (by decide) ?_
      exact xx_mask [true, true, true] (ih _ _ hf)
theorem ss_X8_grow {l : Launch} {G : gt_} {a1 : Int32} {h : hh_} {r9 : Int32} {h9 : hh_}  (hf : ff_X8_grow a1 h = some (r9, h9)) : ok_ l G 2 mt_X8_grow [.ref 98, .int a1] h (some (.int r9)) h9 := by
  refine ok_of pn_RX8 (lb_ rfl) (fun Z _ _ C Q => ?_)
  show xx_ Z 0 [some (.ref 98), some (.int a1), none] [] h
  unfold ff_X8_grow at hf
  refine xx_aload_n C (dd_X8_grow.at 0 rfl) rfl (Nat.le_of_ble_eq_true rfl) ?_
  refine xx_iload_n C (dd_X8_grow.at 1 rfl) rfl ?_
  refine xx_callVi C (ss_X8_isHead rfl) (dd_X8_grow.at 2 rfl) ck_7 rfl sh_k98 kk_X8_isHead ki_X8_isHead lm_RX8_159 (lb_ rfl) rfl rfl (lb_ rfl) ?_
  rcases ifo_ hf with ⟨hc, hf⟩ | ⟨hc, hf⟩
  · refine xx_if_ne_f (tgt := 10) C (dd_X8_grow.at 3 rfl) (by decide) (not_not_intro hc) ?_
    refine xx_iconst C (dd_X8_grow.at 4 rfl) ic_m1 ?_
    exact xx_ireturn C (rt_iwp hf Q) (dd_X8_grow.at 5 rfl) rfl
  · refine xx_if_ne_t (tgt := 10) C (dd_X8_grow.at 3 rfl) (by decide) hc ?_
    refine xx_aload_n C (dd_X8_grow.at 6 rfl) rfl (Nat.le_of_ble_eq_true rfl) ?_
    refine xx_getI (j := 21) C ck_7 (lb_ rfl) lf_RX8_150 sh_k98 rfl (dd_X8_grow.at 7 rfl) ?_
    refine xx_bipush C (dd_X8_grow.at 8 rfl) bq_40 ?_
    rcases ifo_ hf with ⟨hc, hf⟩ | ⟨hc, hf⟩
    · refine xx_icmp_ne_f (tgt := 22) C (dd_X8_grow.at 9 rfl) (by decide) (not_not_intro hc) ?_
      refine xx_bipush C (dd_X8_grow.at 10 rfl) bq_m2 ?_
      exact xx_ireturn C (rt_iwp hf Q) (dd_X8_grow.at 11 rfl) rfl
    · refine xx_icmp_ne_t (tgt := 22) C (dd_X8_grow.at 9 rfl) (by decide) hc ?_
      refine xx_aload_n C (dd_X8_grow.at 12 rfl) rfl (Nat.le_of_ble_eq_true rfl) ?_
      obtain ⟨v1, e2, hf⟩ := bdo_ hf
      refine xx_callVv C (ss_X8_note e2) (dd_X8_grow.at 13 rfl) ck_7 rfl sh_k98 kk_X8_note ki_X8_note lm_RX8_208 (lb_ rfl) rfl rfl (lb_ rfl) ?_
      refine xx_iconst C (dd_X8_grow.at 14 rfl) ic_0 ?_
      refine xx_istore_n (lv' := [_, _, _]) C (dd_X8_grow.at 15 rfl) (lb_ rfl) rfl ?_
      exact xx_mask [true, true, true] (ss_X8_grow_28 C Q _ _ _ hf)
theorem ss_X8_cut {l : Launch} {G : gt_} {a1 : Int32} {a2 : Int32} {h : hh_} {r9 : Int32} {h9 : hh_}  (hf : ff_X8_cut a1 a2 h = some (r9, h9)) : ok_ l G 2 mt_X8_cut [.ref 98, .int a1, .int a2] h (some (.int r9)) h9 := by
  refine ok_of pn_RX8 (lb_ rfl) (fun Z _ _ C Q => ?_)
  show xx_ Z 0 [some (.ref 98), some (.int a1), some (.int a2), none] [] h
  unfold ff_X8_cut at hf
  refine xx_aload_n C (dd_X8_cut.at 0 rfl) rfl (Nat.le_of_ble_eq_true rfl) ?_
  refine xx_iload_n C (dd_X8_cut.at 1 rfl) rfl ?_
  refine xx_callVi C (ss_X8_isHead rfl) (dd_X8_cut.at 2 rfl) ck_7 rfl sh_k98 kk_X8_isHead ki_X8_isHead lm_RX8_159 (lb_ rfl) rfl rfl (lb_ rfl) ?_
  rcases ifo_ hf with ⟨hc, hf⟩ | ⟨hc, hf⟩
  · refine xx_if_eq_t (tgt := 17) C (dd_X8_cut.at 3 rfl) (by decide) hc ?_
    refine xx_iconst C (dd_X8_cut.at 9 rfl) ic_m1 ?_
    exact xx_ireturn C (rt_iwp hf Q) (dd_X8_cut.at 10 rfl) rfl
  · refine xx_if_eq_f (tgt := 17) C (dd_X8_cut.at 3 rfl) (by decide) hc ?_
    refine xx_iload_n C (dd_X8_cut.at 4 rfl) rfl ?_
    refine xx_iconst C (dd_X8_cut.at 5 rfl) ic_0 ?_
    refine xx_iconst C (dd_X8_cut.at 6 rfl) ic_2 ?_
    refine xx_callSi C (ss_X8_in rfl) (dd_X8_cut.at 7 rfl) kk_X8_in ks_X8_in lm_RX8_72 (lb_ rfl) rfl rfl (lb_ rfl) ?_
    rcases ifo_ hf with ⟨hc, hf⟩ | ⟨hc, hf⟩
    · refine xx_if_ne_f (tgt := 19) C (dd_X8_cut.at 8 rfl) (by decide) (not_not_intro hc) ?_
      refine xx_iconst C (dd_X8_cut.at 9 rfl) ic_m1 ?_
      exact xx_ireturn C (rt_iwp hf Q) (dd_X8_cut.at 10 rfl) rfl
    · refine xx_if_ne_t (tgt := 19) C (dd_X8_cut.at 8 rfl) (by decide) hc ?_
      refine xx_aload_n C (dd_X8_cut.at 11 rfl) rfl (Nat.le_of_ble_eq_true rfl) ?_
      refine xx_getR (j := 13) (r := 105) C ck_7 (lb_ rfl) lf_RX8_32 sh_k98 rfl (lb_ rfl) rfl (dd_X8_cut.at 12 rfl) ?_
      refine xx_iconst C (dd_X8_cut.at 13 rfl) ic_5 ?_
      refine xx_iload_n C (dd_X8_cut.at 14 rfl) rfl ?_
      refine xx_imul C (dd_X8_cut.at 15 rfl) ?_
      refine xx_iconst C (dd_X8_cut.at 16 rfl) ic_4 ?_
      refine xx_iadd C (dd_X8_cut.at 17 rfl) ?_
      obtain ⟨g1, hf⟩ := gd_ok hf
      refine xx_iaload C (dd_X8_cut.at 18 rfl) sh_k105 (bi_ok g1) ?_
      refine xx_istore_n (lv' := [_, _, _, _]) C (dd_X8_cut.at 19 rfl) (lb_ rfl) rfl ?_
      refine xx_iload_n C (dd_X8_cut.at 20 rfl) rfl ?_
      refine xx_iload_n C (dd_X8_cut.at 21 rfl) rfl ?_
      rcases ifo_ hf with ⟨hc, hf⟩ | ⟨hc, hf⟩
      · refine xx_icmp_gt_t (tgt := 38) C (dd_X8_cut.at 22 rfl) (by decide) hc ?_
        refine xx_aload_n C (dd_X8_cut.at 25 rfl) rfl (Nat.le_of_ble_eq_true rfl) ?_
        refine xx_getI (j := 21) C ck_7 (lb_ rfl) lf_RX8_150 sh_k98 rfl (dd_X8_cut.at 26 rfl) ?_
        refine xx_bipush C (dd_X8_cut.at 27 rfl) bq_40 ?_
        rcases ifo_ hf with ⟨hc, hf⟩ | ⟨hc, hf⟩
        · refine xx_icmp_ne_f (tgt := 50) C (dd_X8_cut.at 28 rfl) (by decide) (not_not_intro hc) ?_
          refine xx_bipush C (dd_X8_cut.at 29 rfl) bq_m2 ?_
          exact xx_ireturn C (rt_iwp hf Q) (dd_X8_cut.at 30 rfl) rfl
        · refine xx_icmp_ne_t (tgt := 50) C (dd_X8_cut.at 28 rfl) (by decide) hc ?_
          refine xx_aload_n C (dd_X8_cut.at 31 rfl) rfl (Nat.le_of_ble_eq_true rfl) ?_
          obtain ⟨v2, e3, hf⟩ := bdo_ hf
          refine xx_callVv C (ss_X8_note e3) (dd_X8_cut.at 32 rfl) ck_7 rfl sh_k98 kk_X8_note ki_X8_note lm_RX8_208 (lb_ rfl) rfl rfl (lb_ rfl) ?_
          refine xx_aload_n C (dd_X8_cut.at 33 rfl) rfl (Nat.le_of_ble_eq_true rfl) ?_
          refine xx_getR (j := 13) (r := 105) C ck_7 (lb_ rfl) lf_RX8_32 sh_k98 rfl (lb_ rfl) rfl (dd_X8_cut.at 34 rfl) ?_
          refine xx_iconst C (dd_X8_cut.at 35 rfl) ic_5 ?_
          refine xx_iload_n C (dd_X8_cut.at 36 rfl) rfl ?_
          refine xx_imul C (dd_X8_cut.at 37 rfl) ?_
          refine xx_iconst C (dd_X8_cut.at 38 rfl) ic_4 ?_
          refine xx_iadd C (dd_X8_cut.at 39 rfl) ?_
          refine xx_iload_n C (dd_X8_cut.at 40 rfl) rfl ?_
          refine xx_iastore C (dd_X8_cut.at 41 rfl) sh_k105 (bi_ok g1) ?_
          refine xx_iload_n C (dd_X8_cut.at 42 rfl) rfl ?_
          exact xx_ireturn C (rt_iwp hf Q) (dd_X8_cut.at 43 rfl) rfl
      · refine xx_icmp_gt_f (tgt := 38) C (dd_X8_cut.at 22 rfl) (by decide) hc ?_
        refine xx_bipush C (dd_X8_cut.at 23 rfl) bq_m4 ?_
        exact xx_ireturn C (rt_iwp hf Q) (dd_X8_cut.at 24 rfl) rfl
theorem ss_X8_undo {l : Launch} {G : gt_} {a1 : Int32} {h : hh_} {r9 : Int32} {h9 : hh_}  (hf : ff_X8_undo a1 h = some (r9, h9)) : ok_ l G 1 mt_X8_undo [.ref 98, .int a1] h (some (.int r9)) h9 := by
  refine ok_of pn_RX8 (lb_ rfl) (fun Z _ _ C Q => ?_)
  show xx_ Z 0 [some (.ref 98), some (.int a1), none] [] h
  unfold ff_X8_undo at hf
  refine xx_iload_n C (dd_X8_undo.at 0 rfl) rfl ?_
  refine xx_iconst C (dd_X8_undo.at 1 rfl) ic_0 ?_
  refine xx_aload_n C (dd_X8_undo.at 2 rfl) rfl (Nat.le_of_ble_eq_true rfl) ?_
  refine xx_getI (j := 21) C ck_7 (lb_ rfl) lf_RX8_150 sh_k98 rfl (dd_X8_undo.at 3 rfl) ?_
  refine xx_callSi C (ss_X8_in rfl) (dd_X8_undo.at 4 rfl) kk_X8_in ks_X8_in lm_RX8_72 (lb_ rfl) rfl rfl (lb_ rfl) ?_
  rcases ifo_ hf with ⟨hc, hf⟩ | ⟨hc, hf⟩
  · refine xx_if_ne_f (tgt := 14) C (dd_X8_undo.at 5 rfl) (by decide) (not_not_intro hc) ?_
    refine xx_iconst C (dd_X8_undo.at 6 rfl) ic_m1 ?_
    exact xx_ireturn C (rt_iwp hf Q) (dd_X8_undo.at 7 rfl) rfl
  · refine xx_if_ne_t (tgt := 14) C (dd_X8_undo.at 5 rfl) (by decide) hc ?_
    refine xx_aload_n C (dd_X8_undo.at 8 rfl) rfl (Nat.le_of_ble_eq_true rfl) ?_
    refine xx_getI (j := 21) C ck_7 (lb_ rfl) lf_RX8_150 sh_k98 rfl (dd_X8_undo.at 9 rfl) ?_
    refine xx_iload_n C (dd_X8_undo.at 10 rfl) rfl ?_
    refine xx_isub C (dd_X8_undo.at 11 rfl) ?_
    refine xx_istore_n (lv' := [_, _, _]) C (dd_X8_undo.at 12 rfl) (lb_ rfl) rfl ?_
    refine xx_iload_n C (dd_X8_undo.at 13 rfl) rfl ?_
    rcases ifo_ hf with ⟨hc, hf⟩ | ⟨hc, hf⟩
    · refine xx_if_le_t (tgt := 42) C (dd_X8_undo.at 14 rfl) (by decide) hc ?_
      refine xx_iload_n C (dd_X8_undo.at 25 rfl) rfl ?_
      exact xx_ireturn C (rt_iwp hf Q) (dd_X8_undo.at 26 rfl) rfl
    · refine xx_if_le_f (tgt := 42) C (dd_X8_undo.at 14 rfl) (by decide) hc ?_
      refine xx_aload_n C (dd_X8_undo.at 15 rfl) rfl (Nat.le_of_ble_eq_true rfl) ?_
      refine xx_aload_n C (dd_X8_undo.at 16 rfl) rfl (Nat.le_of_ble_eq_true rfl) ?_
      refine xx_getR (j := 22) (r := 109) C ck_7 (lb_ rfl) lf_RX8_44 sh_k98 rfl (lb_ rfl) rfl (dd_X8_undo.at 17 rfl) ?_
      refine xx_bipush C (dd_X8_undo.at 18 rfl) bq_25 ?_
      refine xx_iload_n C (dd_X8_undo.at 19 rfl) rfl ?_
      refine xx_imul C (dd_X8_undo.at 20 rfl) ?_
      obtain ⟨v1, e2, hf⟩ := bdo_ hf
      refine xx_callVv C (ss_X8_readBack (Nat.le_of_ble_eq_true rfl) e2) (dd_X8_undo.at 21 rfl) ck_7 rfl sh_k98 kk_X8_readBack ki_X8_readBack lm_RX8_211 (lb_ rfl) rfl rfl (lb_ rfl) ?_
      refine xx_aload_n C (dd_X8_undo.at 22 rfl) rfl (Nat.le_of_ble_eq_true rfl) ?_
      refine xx_iload_n C (dd_X8_undo.at 23 rfl) rfl ?_
      refine xx_putI (j := 21) C ck_7 (lb_ rfl) lf_RX8_150 rfl rfl sh_k98 rfl (dd_X8_undo.at 24 rfl) ?_
      refine xx_iload_n C (dd_X8_undo.at 25 rfl) rfl ?_
      exact xx_ireturn C (rt_iwp hf Q) (dd_X8_undo.at 26 rfl) rfl
theorem ss_X8_keep_39 {Z : zz_} (C : cx_ Z mt_X8_keep 1) {r9 : Int32} {h9 : hh_} {x2 : Int32} {K39_70 : hh_ → Option (Int32 × hh_)} (Q : rq_ Z (some (.int r9)) h9) (hK39_70 : ∀ (h8 : hh_), K39_70 h8 = some (r9, h9) → xx_ Z 70 [some (.ref 98), none, some (.int x2), none] [] h8) : ∀ (n9 : Nat) (x3 : Int32) (h : hh_), ff_X8_keep_39 x2 K39_70 n9 x3 h = some (r9, h9) → xx_ Z 39 [some (.ref 98), none, some (.int x2), some (.int x3)] [] h := by
  intro n9
  induction n9 with
  | zero =>
    intro x3 h hf
    exact absurd hf (by rw [ff_X8_keep_39]; exact nofun)
  | succ n9 ih =>
    intro x3 h hf
    rw [ff_X8_keep_39] at hf
    refine xx_iload_n C (dd_X8_keep.at 24 rfl) rfl ?_
    refine xx_iconst C (dd_X8_keep.at 25 rfl) ic_4 ?_
    rcases ifo_ hf with ⟨hc, hf⟩ | ⟨hc, hf⟩
    · refine xx_icmp_ge_t (tgt := 70) C (dd_X8_keep.at 26 rfl) (by decide) hc ?_
      exact xx_mask [true, false, true, false] (hK39_70 _ hf)
    · refine xx_icmp_ge_f (tgt := 70) C (dd_X8_keep.at 26 rfl) (by decide) hc ?_
      refine xx_aload_n C (dd_X8_keep.at 27 rfl) rfl (Nat.le_of_ble_eq_true rfl) ?_
      refine xx_getR (j := 23) (r := 110) C ck_7 (lb_ rfl) lf_RX8_47 sh_k98 rfl (lb_ rfl) rfl (dd_X8_keep.at 28 rfl) ?_
      refine xx_iload_n C (dd_X8_keep.at 29 rfl) rfl ?_
      refine xx_iconst C (dd_X8_keep.at 30 rfl) ic_1 ?_
      refine xx_iadd C (dd_X8_keep.at 31 rfl) ?_
      refine xx_iload_n C (dd_X8_keep.at 32 rfl) rfl ?_
      refine xx_iadd C (dd_X8_keep.at 33 rfl) ?_
      refine xx_aload_n C (dd_X8_keep.at 34 rfl) rfl (Nat.le_of_ble_eq_true rfl) ?_
      refine xx_getR (j := 14) (r := 106) C ck_7 (lb_ rfl) lf_RX8_35 sh_k98 rfl (lb_ rfl) rfl (dd_X8_keep.at 35 rfl) ?_
      refine xx_iconst C (dd_X8_keep.at 36 rfl) ic_3 ?_
      refine xx_iload_n C (dd_X8_keep.at 37 rfl) rfl ?_
      refine xx_imul C (dd_X8_keep.at 38 rfl) ?_
      refine xx_iconst C (dd_X8_keep.at 39 rfl) ic_1 ?_
      refine xx_iadd C (dd_X8_keep.at 40 rfl) ?_
      obtain ⟨g2, hf⟩ := gd_ok hf
      refine xx_iaload C (dd_X8_keep.at 41 rfl) sh_k106 (bi_ok g2) ?_
      obtain ⟨g3, hf⟩ := gd_ok hf
      refine xx_iastore C (dd_X8_keep.at 42 rfl) sh_k110 (bi_ok g3) ?_
      refine xx_iinc (v := _ + (1 : Int32)) (lv' := [_, _, _, _]) C (dd_X8_keep.at 43 rfl) (lb_ rfl) rfl (by rw [ic_1]) rfl ?_
      refine xx_goto (tgt := 39) C (dd_X8_keep.at 44 rfl) (by decide) ?_
      exact xx_mask [true, false, true, true] (ih _ _ hf)
theorem ss_X8_keep_83 {Z : zz_} (C : cx_ Z mt_X8_keep 1) {r9 : Int32} {h9 : hh_} {x2 : Int32}  (Q : rq_ Z (some (.int r9)) h9) : ∀ (n9 : Nat) (x3 : Int32) (h : hh_), ff_X8_keep_83 x2 n9 x3 h = some (r9, h9) → xx_ Z 83 [some (.ref 98), none, some (.int x2), some (.int x3)] [] h := by
  intro n9
  induction n9 with
  | zero =>
    intro x3 h hf
    exact absurd hf (by rw [ff_X8_keep_83]; exact nofun)
  | succ n9 ih =>
    intro x3 h hf
    rw [ff_X8_keep_83] at hf
    refine xx_iload_n C (dd_X8_keep.at 54 rfl) rfl ?_
    refine xx_sipush C (dd_X8_keep.at 55 rfl) sq_1000 ?_
    rcases ifo_ hf with ⟨hc, hf⟩ | ⟨hc, hf⟩
    · refine xx_icmp_ge_t (tgt := 113) C (dd_X8_keep.at 56 rfl) (by decide) hc ?_
      refine xx_aload_n C (dd_X8_keep.at 71 rfl) rfl (Nat.le_of_ble_eq_true rfl) ?_
      refine xx_getI (j := 21) C ck_7 (lb_ rfl) lf_RX8_150 sh_k98 rfl (dd_X8_keep.at 72 rfl) ?_
      exact xx_ireturn C (rt_iwp hf Q) (dd_X8_keep.at 73 rfl) rfl
    · refine xx_icmp_ge_f (tgt := 113) C (dd_X8_keep.at 56 rfl) (by decide) hc ?_
      refine xx_aload_n C (dd_X8_keep.at 57 rfl) rfl (Nat.le_of_ble_eq_true rfl) ?_
      refine xx_getR (j := 23) (r := 110) C ck_7 (lb_ rfl) lf_RX8_47 sh_k98 rfl (lb_ rfl) rfl (dd_X8_keep.at 58 rfl) ?_
      refine xx_iload_n C (dd_X8_keep.at 59 rfl) rfl ?_
      refine xx_bipush C (dd_X8_keep.at 60 rfl) bq_30 ?_
      refine xx_iadd C (dd_X8_keep.at 61 rfl) ?_
      refine xx_iload_n C (dd_X8_keep.at 62 rfl) rfl ?_
      refine xx_iadd C (dd_X8_keep.at 63 rfl) ?_
      refine xx_aload_n C (dd_X8_keep.at 64 rfl) rfl (Nat.le_of_ble_eq_true rfl) ?_
      refine xx_getR (j := 22) (r := 109) C ck_7 (lb_ rfl) lf_RX8_44 sh_k98 rfl (lb_ rfl) rfl (dd_X8_keep.at 65 rfl) ?_
      refine xx_iload_n C (dd_X8_keep.at 66 rfl) rfl ?_
      obtain ⟨g7, hf⟩ := gd_ok hf
      refine xx_iaload C (dd_X8_keep.at 67 rfl) sh_k109 (bi_ok g7) ?_
      obtain ⟨g8, hf⟩ := gd_ok hf
      refine xx_iastore C (dd_X8_keep.at 68 rfl) sh_k110 (bi_ok g8) ?_
      refine xx_iinc (v := _ + (1 : Int32)) (lv' := [_, _, _, _]) C (dd_X8_keep.at 69 rfl) (lb_ rfl) rfl (by rw [ic_1]) rfl ?_
      refine xx_goto (tgt := 83) C (dd_X8_keep.at 70 rfl) (by decide) ?_
      exact xx_mask [true, false, true, true] (ih _ _ hf)
theorem ss_X8_keep {l : Launch} {G : gt_} {a1 : Int32} {h : hh_} {r9 : Int32} {h9 : hh_}  (hf : ff_X8_keep a1 h = some (r9, h9)) : ok_ l G 1 mt_X8_keep [.ref 98, .int a1] h (some (.int r9)) h9 := by
  refine ok_of pn_RX8 (lb_ rfl) (fun Z _ _ C Q => ?_)
  show xx_ Z 0 [some (.ref 98), some (.int a1), none, none] [] h
  unfold ff_X8_keep at hf
  refine xx_iload_n C (dd_X8_keep.at 0 rfl) rfl ?_
  refine xx_iconst C (dd_X8_keep.at 1 rfl) ic_0 ?_
  refine xx_iconst C (dd_X8_keep.at 2 rfl) ic_2 ?_
  refine xx_callSi C (ss_X8_in rfl) (dd_X8_keep.at 3 rfl) kk_X8_in ks_X8_in lm_RX8_72 (lb_ rfl) rfl rfl (lb_ rfl) ?_
  rcases ifo_ hf with ⟨hc, hf⟩ | ⟨hc, hf⟩
  · refine xx_if_ne_f (tgt := 11) C (dd_X8_keep.at 4 rfl) (by decide) (not_not_intro hc) ?_
    refine xx_iconst C (dd_X8_keep.at 5 rfl) ic_m1 ?_
    exact xx_ireturn C (rt_iwp hf Q) (dd_X8_keep.at 6 rfl) rfl
  · refine xx_if_ne_t (tgt := 11) C (dd_X8_keep.at 4 rfl) (by decide) hc ?_
    refine xx_aload_n C (dd_X8_keep.at 7 rfl) rfl (Nat.le_of_ble_eq_true rfl) ?_
    refine xx_getI (j := 10) C ck_7 (lb_ rfl) lf_RX8_141 sh_k98 rfl (dd_X8_keep.at 8 rfl) ?_
    rcases ifo_ hf with ⟨hc, hf⟩ | ⟨hc, hf⟩
    · refine xx_if_ne_f (tgt := 21) C (dd_X8_keep.at 9 rfl) (by decide) (not_not_intro hc) ?_
      refine xx_bipush C (dd_X8_keep.at 10 rfl) bq_m4 ?_
      exact xx_ireturn C (rt_iwp hf Q) (dd_X8_keep.at 11 rfl) rfl
    · refine xx_if_ne_t (tgt := 21) C (dd_X8_keep.at 9 rfl) (by decide) hc ?_
      refine xx_sipush C (dd_X8_keep.at 12 rfl) sq_1030 ?_
      refine xx_iload_n C (dd_X8_keep.at 13 rfl) rfl ?_
      refine xx_imul C (dd_X8_keep.at 14 rfl) ?_
      refine xx_istore_n (lv' := [_, _, _, _]) C (dd_X8_keep.at 15 rfl) (lb_ rfl) rfl ?_
      refine xx_aload_n C (dd_X8_keep.at 16 rfl) rfl (Nat.le_of_ble_eq_true rfl) ?_
      refine xx_getR (j := 23) (r := 110) C ck_7 (lb_ rfl) lf_RX8_47 sh_k98 rfl (lb_ rfl) rfl (dd_X8_keep.at 17 rfl) ?_
      refine xx_iload_n C (dd_X8_keep.at 18 rfl) rfl ?_
      refine xx_aload_n C (dd_X8_keep.at 19 rfl) rfl (Nat.le_of_ble_eq_true rfl) ?_
      refine xx_getI (j := 21) C ck_7 (lb_ rfl) lf_RX8_150 sh_k98 rfl (dd_X8_keep.at 20 rfl) ?_
      obtain ⟨g1, hf⟩ := gd_ok hf
      refine xx_iastore C (dd_X8_keep.at 21 rfl) sh_k110 (bi_ok g1) ?_
      refine xx_iconst C (dd_X8_keep.at 22 rfl) ic_0 ?_
      refine xx_istore_n (lv' := [_, _, _, _]) C (dd_X8_keep.at 23 rfl) (lb_ rfl) rfl ?_
      refine xx_mask [true, false, true, true] (ss_X8_keep_39 C Q (fun k4 hf => ?_) _ _ _ hf)
      refine xx_aload_n C (dd_X8_keep.at 45 rfl) rfl (Nat.le_of_ble_eq_true rfl) ?_
      refine xx_aload_n C (dd_X8_keep.at 46 rfl) rfl (Nat.le_of_ble_eq_true rfl) ?_
      refine xx_getR (j := 23) (r := 110) C ck_7 (lb_ rfl) lf_RX8_47 sh_k98 rfl (lb_ rfl) rfl (dd_X8_keep.at 47 rfl) ?_
      refine xx_iload_n C (dd_X8_keep.at 48 rfl) rfl ?_
      refine xx_iconst C (dd_X8_keep.at 49 rfl) ic_5 ?_
      refine xx_iadd C (dd_X8_keep.at 50 rfl) ?_
      obtain ⟨v5, e6, hf⟩ := bdo_ hf
      refine xx_callVv C (ss_X8_write (Nat.le_of_ble_eq_true rfl) e6) (dd_X8_keep.at 51 rfl) ck_7 rfl sh_k98 kk_X8_write ki_X8_write lm_RX8_201 (lb_ rfl) rfl rfl (lb_ rfl) ?_
      refine xx_iconst C (dd_X8_keep.at 52 rfl) ic_0 ?_
      refine xx_istore_n (lv' := [_, _, _, _]) C (dd_X8_keep.at 53 rfl) (lb_ rfl) rfl ?_
      exact xx_mask [true, false, true, true] (ss_X8_keep_83 C Q _ _ _ hf)
theorem ss_X8_on_46 {Z : zz_} (C : cx_ Z mt_X8_on 1) {r9 : Int32} {h9 : hh_} {x2 : Int32} {K46_77 : hh_ → Option (Int32 × hh_)} (Q : rq_ Z (some (.int r9)) h9) (hK46_77 : ∀ (h8 : hh_), K46_77 h8 = some (r9, h9) → xx_ Z 77 [some (.ref 98), none, some (.int x2), none] [] h8) : ∀ (n9 : Nat) (x3 : Int32) (h : hh_), ff_X8_on_46 x2 K46_77 n9 x3 h = some (r9, h9) → xx_ Z 46 [some (.ref 98), none, some (.int x2), some (.int x3)] [] h := by
  intro n9
  induction n9 with
  | zero =>
    intro x3 h hf
    exact absurd hf (by rw [ff_X8_on_46]; exact nofun)
  | succ n9 ih =>
    intro x3 h hf
    rw [ff_X8_on_46] at hf
    refine xx_iload_n C (dd_X8_on.at 29 rfl) rfl ?_
    refine xx_iconst C (dd_X8_on.at 30 rfl) ic_4 ?_
    rcases ifo_ hf with ⟨hc, hf⟩ | ⟨hc, hf⟩
    · refine xx_icmp_ge_t (tgt := 77) C (dd_X8_on.at 31 rfl) (by decide) hc ?_
      exact xx_mask [true, false, true, false] (hK46_77 _ hf)
    · refine xx_icmp_ge_f (tgt := 77) C (dd_X8_on.at 31 rfl) (by decide) hc ?_
      refine xx_aload_n C (dd_X8_on.at 32 rfl) rfl (Nat.le_of_ble_eq_true rfl) ?_
      refine xx_getR (j := 14) (r := 106) C ck_7 (lb_ rfl) lf_RX8_35 sh_k98 rfl (lb_ rfl) rfl (dd_X8_on.at 33 rfl) ?_
      refine xx_iconst C (dd_X8_on.at 34 rfl) ic_3 ?_
      refine xx_iload_n C (dd_X8_on.at 35 rfl) rfl ?_
      refine xx_imul C (dd_X8_on.at 36 rfl) ?_
      refine xx_iconst C (dd_X8_on.at 37 rfl) ic_1 ?_
      refine xx_iadd C (dd_X8_on.at 38 rfl) ?_
      refine xx_aload_n C (dd_X8_on.at 39 rfl) rfl (Nat.le_of_ble_eq_true rfl) ?_
      refine xx_getR (j := 23) (r := 110) C ck_7 (lb_ rfl) lf_RX8_47 sh_k98 rfl (lb_ rfl) rfl (dd_X8_on.at 40 rfl) ?_
      refine xx_iload_n C (dd_X8_on.at 41 rfl) rfl ?_
      refine xx_iconst C (dd_X8_on.at 42 rfl) ic_1 ?_
      refine xx_iadd C (dd_X8_on.at 43 rfl) ?_
      refine xx_iload_n C (dd_X8_on.at 44 rfl) rfl ?_
      refine xx_iadd C (dd_X8_on.at 45 rfl) ?_
      obtain ⟨g2, hf⟩ := gd_ok hf
      refine xx_iaload C (dd_X8_on.at 46 rfl) sh_k110 (bi_ok g2) ?_
      obtain ⟨g3, hf⟩ := gd_ok hf
      refine xx_iastore C (dd_X8_on.at 47 rfl) sh_k106 (bi_ok g3) ?_
      refine xx_iinc (v := _ + (1 : Int32)) (lv' := [_, _, _, _]) C (dd_X8_on.at 48 rfl) (lb_ rfl) rfl (by rw [ic_1]) rfl ?_
      refine xx_goto (tgt := 46) C (dd_X8_on.at 49 rfl) (by decide) ?_
      exact xx_mask [true, false, true, true] (ih _ _ hf)
theorem ss_X8_on_90 {Z : zz_} (C : cx_ Z mt_X8_on 1) {r9 : Int32} {h9 : hh_} {x2 : Int32}  (Q : rq_ Z (some (.int r9)) h9) : ∀ (n9 : Nat) (x3 : Int32) (h : hh_), ff_X8_on_90 x2 n9 x3 h = some (r9, h9) → xx_ Z 90 [some (.ref 98), none, some (.int x2), some (.int x3)] [] h := by
  intro n9
  induction n9 with
  | zero =>
    intro x3 h hf
    exact absurd hf (by rw [ff_X8_on_90]; exact nofun)
  | succ n9 ih =>
    intro x3 h hf
    rw [ff_X8_on_90] at hf
    refine xx_iload_n C (dd_X8_on.at 59 rfl) rfl ?_
    refine xx_sipush C (dd_X8_on.at 60 rfl) sq_1000 ?_
    rcases ifo_ hf with ⟨hc, hf⟩ | ⟨hc, hf⟩
    · refine xx_icmp_ge_t (tgt := 120) C (dd_X8_on.at 61 rfl) (by decide) hc ?_
      refine xx_aload_n C (dd_X8_on.at 76 rfl) rfl (Nat.le_of_ble_eq_true rfl) ?_
      refine xx_getI (j := 21) C ck_7 (lb_ rfl) lf_RX8_150 sh_k98 rfl (dd_X8_on.at 77 rfl) ?_
      exact xx_ireturn C (rt_iwp hf Q) (dd_X8_on.at 78 rfl) rfl
    · refine xx_icmp_ge_f (tgt := 120) C (dd_X8_on.at 61 rfl) (by decide) hc ?_
      refine xx_aload_n C (dd_X8_on.at 62 rfl) rfl (Nat.le_of_ble_eq_true rfl) ?_
      refine xx_getR (j := 22) (r := 109) C ck_7 (lb_ rfl) lf_RX8_44 sh_k98 rfl (lb_ rfl) rfl (dd_X8_on.at 63 rfl) ?_
      refine xx_iload_n C (dd_X8_on.at 64 rfl) rfl ?_
      refine xx_aload_n C (dd_X8_on.at 65 rfl) rfl (Nat.le_of_ble_eq_true rfl) ?_
      refine xx_getR (j := 23) (r := 110) C ck_7 (lb_ rfl) lf_RX8_47 sh_k98 rfl (lb_ rfl) rfl (dd_X8_on.at 66 rfl) ?_
      refine xx_iload_n C (dd_X8_on.at 67 rfl) rfl ?_
      refine xx_bipush C (dd_X8_on.at 68 rfl) bq_30 ?_
      refine xx_iadd C (dd_X8_on.at 69 rfl) ?_
      refine xx_iload_n C (dd_X8_on.at 70 rfl) rfl ?_
      refine xx_iadd C (dd_X8_on.at 71 rfl) ?_
      obtain ⟨g7, hf⟩ := gd_ok hf
      refine xx_iaload C (dd_X8_on.at 72 rfl) sh_k110 (bi_ok g7) ?_
      obtain ⟨g8, hf⟩ := gd_ok hf
      refine xx_iastore C (dd_X8_on.at 73 rfl) sh_k109 (bi_ok g8) ?_
      refine xx_iinc (v := _ + (1 : Int32)) (lv' := [_, _, _, _]) C (dd_X8_on.at 74 rfl) (lb_ rfl) rfl (by rw [ic_1]) rfl ?_
      refine xx_goto (tgt := 90) C (dd_X8_on.at 75 rfl) (by decide) ?_
      exact xx_mask [true, false, true, true] (ih _ _ hf)
theorem ss_X8_on {l : Launch} {G : gt_} {a1 : Int32} {h : hh_} {r9 : Int32} {h9 : hh_}  (hf : ff_X8_on a1 h = some (r9, h9)) : ok_ l G 1 mt_X8_on [.ref 98, .int a1] h (some (.int r9)) h9 := by
  refine ok_of pn_RX8 (lb_ rfl) (fun Z _ _ C Q => ?_)
  show xx_ Z 0 [some (.ref 98), some (.int a1), none, none] [] h
  unfold ff_X8_on at hf
  refine xx_iload_n C (dd_X8_on.at 0 rfl) rfl ?_
  refine xx_iconst C (dd_X8_on.at 1 rfl) ic_0 ?_
  refine xx_iconst C (dd_X8_on.at 2 rfl) ic_2 ?_
  refine xx_callSi C (ss_X8_in rfl) (dd_X8_on.at 3 rfl) kk_X8_in ks_X8_in lm_RX8_72 (lb_ rfl) rfl rfl (lb_ rfl) ?_
  rcases ifo_ hf with ⟨hc, hf⟩ | ⟨hc, hf⟩
  · refine xx_if_ne_f (tgt := 11) C (dd_X8_on.at 4 rfl) (by decide) (not_not_intro hc) ?_
    refine xx_iconst C (dd_X8_on.at 5 rfl) ic_m1 ?_
    exact xx_ireturn C (rt_iwp hf Q) (dd_X8_on.at 6 rfl) rfl
  · refine xx_if_ne_t (tgt := 11) C (dd_X8_on.at 4 rfl) (by decide) hc ?_
    refine xx_sipush C (dd_X8_on.at 7 rfl) sq_1030 ?_
    refine xx_iload_n C (dd_X8_on.at 8 rfl) rfl ?_
    refine xx_imul C (dd_X8_on.at 9 rfl) ?_
    refine xx_istore_n (lv' := [_, _, _, _]) C (dd_X8_on.at 10 rfl) (lb_ rfl) rfl ?_
    refine xx_aload_n C (dd_X8_on.at 11 rfl) rfl (Nat.le_of_ble_eq_true rfl) ?_
    refine xx_getR (j := 23) (r := 110) C ck_7 (lb_ rfl) lf_RX8_47 sh_k98 rfl (lb_ rfl) rfl (dd_X8_on.at 12 rfl) ?_
    refine xx_iload_n C (dd_X8_on.at 13 rfl) rfl ?_
    obtain ⟨g1, hf⟩ := gd_ok hf
    refine xx_iaload C (dd_X8_on.at 14 rfl) sh_k110 (bi_ok g1) ?_
    refine xx_bipush C (dd_X8_on.at 15 rfl) bq_m9 ?_
    rcases ifo_ hf with ⟨hc, hf⟩ | ⟨hc, hf⟩
    · refine xx_icmp_ne_f (tgt := 34) C (dd_X8_on.at 16 rfl) (by decide) (not_not_intro hc) ?_
      refine xx_aload_n C (dd_X8_on.at 17 rfl) rfl (Nat.le_of_ble_eq_true rfl) ?_
      refine xx_iconst C (dd_X8_on.at 18 rfl) ic_1 ?_
      obtain ⟨v9, e10, hf⟩ := bdo_ hf
      refine xx_callVi C (ss_X8_meet (pz_ e10)) (dd_X8_on.at 19 rfl) ck_7 rfl sh_k98 kk_X8_meet ki_X8_meet lm_RX8_80 (lb_ rfl) rfl rfl (lb_ rfl) ?_
      exact xx_ireturn C (rt_iwp hf Q) (dd_X8_on.at 20 rfl) rfl
    · refine xx_icmp_ne_t (tgt := 34) C (dd_X8_on.at 16 rfl) (by decide) hc ?_
      refine xx_aload_n C (dd_X8_on.at 21 rfl) rfl (Nat.le_of_ble_eq_true rfl) ?_
      refine xx_aload_n C (dd_X8_on.at 22 rfl) rfl (Nat.le_of_ble_eq_true rfl) ?_
      refine xx_getR (j := 23) (r := 110) C ck_7 (lb_ rfl) lf_RX8_47 sh_k98 rfl (lb_ rfl) rfl (dd_X8_on.at 23 rfl) ?_
      refine xx_iload_n C (dd_X8_on.at 24 rfl) rfl ?_
      refine xx_iaload C (dd_X8_on.at 25 rfl) sh_k110 (bi_ok g1) ?_
      refine xx_putI (j := 21) C ck_7 (lb_ rfl) lf_RX8_150 rfl rfl sh_k98 rfl (dd_X8_on.at 26 rfl) ?_
      refine xx_iconst C (dd_X8_on.at 27 rfl) ic_0 ?_
      refine xx_istore_n (lv' := [_, _, _, _]) C (dd_X8_on.at 28 rfl) (lb_ rfl) rfl ?_
      refine xx_mask [true, false, true, true] (ss_X8_on_46 C Q (fun k4 hf => ?_) _ _ _ hf)
      refine xx_aload_n C (dd_X8_on.at 50 rfl) rfl (Nat.le_of_ble_eq_true rfl) ?_
      refine xx_aload_n C (dd_X8_on.at 51 rfl) rfl (Nat.le_of_ble_eq_true rfl) ?_
      refine xx_getR (j := 23) (r := 110) C ck_7 (lb_ rfl) lf_RX8_47 sh_k98 rfl (lb_ rfl) rfl (dd_X8_on.at 52 rfl) ?_
      refine xx_iload_n C (dd_X8_on.at 53 rfl) rfl ?_
      refine xx_iconst C (dd_X8_on.at 54 rfl) ic_5 ?_
      refine xx_iadd C (dd_X8_on.at 55 rfl) ?_
      obtain ⟨v5, e6, hf⟩ := bdo_ hf
      refine xx_callVv C (ss_X8_readBack (Nat.le_of_ble_eq_true rfl) e6) (dd_X8_on.at 56 rfl) ck_7 rfl sh_k98 kk_X8_readBack ki_X8_readBack lm_RX8_211 (lb_ rfl) rfl rfl (lb_ rfl) ?_
      refine xx_iconst C (dd_X8_on.at 57 rfl) ic_0 ?_
      refine xx_istore_n (lv' := [_, _, _, _]) C (dd_X8_on.at 58 rfl) (lb_ rfl) rfl ?_
      exact xx_mask [true, false, true, true] (ss_X8_on_90 C Q _ _ _ hf)
