theorem ss_X8_suitsOf_42 {Z : zz_} (C : cx_ Z mt_X8_suitsOf 4) {r9 : Int32} {x1 : Int32} {x2 : Int32} {x3 : Int32} {x5 : Int32} {x6 : Int32} {h : hh_} {K42_43 : Int32 → Option (Int32)} (Q : rq_ Z (some (.int r9)) h) (hK42_43 : ∀ (w0 : Int32), K42_43 w0 = some r9 → xx_ Z 43 [some (.ref 98), some (.int x1), some (.int x2), some (.int x3), none, some (.int x5), some (.int x6)] [.int w0] h) (hf : ff_X8_suitsOf_42 x1 x2 x3 x5 x6 h K42_43 = some r9) : xx_ Z 42 [some (.ref 98), some (.int x1), some (.int x2), some (.int x3), none, some (.int x5), some (.int x6)] [] h := by
  unfold ff_X8_suitsOf_42 at hf
  refine xx_iconst C (dd_X8_suitsOf.at 23 rfl) ic_0 ?_
  exact xx_mask [true, true, true, true, false, true, true] (hK42_43 _ hf)
theorem ss_X8_suitsOf_43 {Z : zz_} (C : cx_ Z mt_X8_suitsOf 4) {r9 : Int32} {x1 : Int32} {x2 : Int32} {x3 : Int32} {x5 : Int32} {x6 : Int32} {y0 : Int32} {h : hh_} {K43_9 : Int32 → Int32 → Int32 → Option (Int32)} (Q : rq_ Z (some (.int r9)) h) (hK43_9 : ∀ (z4 : Int32) (z5 : Int32) (z6 : Int32), K43_9 z4 z5 z6 = some r9 → xx_ Z 9 [some (.ref 98), some (.int x1), some (.int x2), some (.int x3), some (.int z4), some (.int z5), some (.int z6)] [] h) (hf : ff_X8_suitsOf_43 x1 x2 x3 x5 x6 y0 h K43_9 = some r9) : xx_ Z 43 [some (.ref 98), some (.int x1), some (.int x2), some (.int x3), none, some (.int x5), some (.int x6)] [.int y0] h := by
  unfold ff_X8_suitsOf_43 at hf
  refine xx_istore (lv' := [_, _, _, _, _, _, _]) C (dd_X8_suitsOf.at 24 rfl) (lb_ rfl) rfl ?_
  refine xx_iload C (dd_X8_suitsOf.at 25 rfl) rfl ?_
  rcases ifo_ hf with ⟨hc, hf⟩ | ⟨hc, hf⟩
  · refine xx_if_eq_t (tgt := 72) C (dd_X8_suitsOf.at 26 rfl) (by decide) hc ?_
    refine xx_iconst C (dd_X8_suitsOf.at 39 rfl) ic_0 ?_
    refine xx_istore (lv' := [_, _, _, _, _, _, _]) C (dd_X8_suitsOf.at 40 rfl) (lb_ rfl) rfl ?_
    refine xx_iinc (v := _ + (1 : Int32)) (lv' := [_, _, _, _, _, _, _]) C (dd_X8_suitsOf.at 41 rfl) (lb_ rfl) rfl (by rw [ic_1]) rfl ?_
    refine xx_goto (tgt := 9) C (dd_X8_suitsOf.at 42 rfl) (by decide) ?_
    exact xx_mask [true, true, true, true, true, true, true] (hK43_9 _ _ _ hf)
  · refine xx_if_eq_f (tgt := 72) C (dd_X8_suitsOf.at 26 rfl) (by decide) hc ?_
    refine xx_aload_n C (dd_X8_suitsOf.at 27 rfl) rfl (Nat.le_of_ble_eq_true rfl) ?_
    refine xx_iload_n C (dd_X8_suitsOf.at 28 rfl) rfl ?_
    refine xx_iload_n C (dd_X8_suitsOf.at 29 rfl) rfl ?_
    refine xx_iload C (dd_X8_suitsOf.at 30 rfl) rfl ?_
    obtain ⟨v2, e3, hf⟩ := bdo_ hf
    refine xx_callVi C (ss_X8_most e3) (dd_X8_suitsOf.at 31 rfl) ck_7 rfl sh_k98 kk_X8_most ki_X8_most lm_RX8_191 (lb_ rfl) rfl rfl (lb_ rfl) ?_
    refine xx_aload_n C (dd_X8_suitsOf.at 32 rfl) rfl (Nat.le_of_ble_eq_true rfl) ?_
    refine xx_iload_n C (dd_X8_suitsOf.at 33 rfl) rfl ?_
    refine xx_iload C (dd_X8_suitsOf.at 34 rfl) rfl ?_
    obtain ⟨v4, e5, hf⟩ := bdo_ hf
    refine xx_callVi C (ss_X8_need e5) (dd_X8_suitsOf.at 35 rfl) ck_7 rfl sh_k98 kk_X8_need ki_X8_need lm_RX8_237 (lb_ rfl) rfl rfl (lb_ rfl) ?_
    rcases ifo_ hf with ⟨hc, hf⟩ | ⟨hc, hf⟩
    · refine xx_icmp_lt_t (tgt := 72) C (dd_X8_suitsOf.at 36 rfl) (by decide) hc ?_
      refine xx_iconst C (dd_X8_suitsOf.at 39 rfl) ic_0 ?_
      refine xx_istore (lv' := [_, _, _, _, _, _, _]) C (dd_X8_suitsOf.at 40 rfl) (lb_ rfl) rfl ?_
      refine xx_iinc (v := _ + (1 : Int32)) (lv' := [_, _, _, _, _, _, _]) C (dd_X8_suitsOf.at 41 rfl) (lb_ rfl) rfl (by rw [ic_1]) rfl ?_
      refine xx_goto (tgt := 9) C (dd_X8_suitsOf.at 42 rfl) (by decide) ?_
      exact xx_mask [true, true, true, true, true, true, true] (hK43_9 _ _ _ hf)
    · refine xx_icmp_lt_f (tgt := 72) C (dd_X8_suitsOf.at 36 rfl) (by decide) hc ?_
      refine xx_iconst C (dd_X8_suitsOf.at 37 rfl) ic_1 ?_
      refine xx_goto (tgt := 73) C (dd_X8_suitsOf.at 38 rfl) (by decide) ?_
      refine xx_istore (lv' := [_, _, _, _, _, _, _]) C (dd_X8_suitsOf.at 40 rfl) (lb_ rfl) rfl ?_
      refine xx_iinc (v := _ + (1 : Int32)) (lv' := [_, _, _, _, _, _, _]) C (dd_X8_suitsOf.at 41 rfl) (lb_ rfl) rfl (by rw [ic_1]) rfl ?_
      refine xx_goto (tgt := 9) C (dd_X8_suitsOf.at 42 rfl) (by decide) ?_
      exact xx_mask [true, true, true, true, true, true, true] (hK43_9 _ _ _ hf)
theorem ss_X8_suitsOf_9 {Z : zz_} (C : cx_ Z mt_X8_suitsOf 4) {r9 : Int32} {x1 : Int32} {x2 : Int32} {x3 : Int32} {h : hh_} {K9_81 : Int32 → Int32 → Option (Int32)} (Q : rq_ Z (some (.int r9)) h) (hK9_81 : ∀ (z4 : Int32) (z5 : Int32), K9_81 z4 z5 = some r9 → xx_ Z 81 [none, none, none, none, some (.int z4), some (.int z5), none] [] h) : ∀ (n9 : Nat) (x4 : Int32) (x5 : Int32) (x6 : Int32), ff_X8_suitsOf_9 x1 x2 x3 h K9_81 n9 x4 x5 x6 = some r9 → xx_ Z 9 [some (.ref 98), some (.int x1), some (.int x2), some (.int x3), some (.int x4), some (.int x5), some (.int x6)] [] h := by
  intro n9
  induction n9 with
  | zero =>
    intro x4 x5 x6 hf
    exact absurd hf (by rw [ff_X8_suitsOf_9]; exact nofun)
  | succ n9 ih =>
    intro x4 x5 x6 hf
    rw [ff_X8_suitsOf_9] at hf
    refine xx_iload C (dd_X8_suitsOf.at 6 rfl) rfl ?_
    refine xx_iconst C (dd_X8_suitsOf.at 7 rfl) ic_4 ?_
    rcases ifo_ hf with ⟨hc, hf⟩ | ⟨hc, hf⟩
    · refine xx_icmp_ge_t (tgt := 81) C (dd_X8_suitsOf.at 8 rfl) (by decide) hc ?_
      exact xx_mask [false, false, false, false, true, true, false] (hK9_81 _ _ hf)
    · refine xx_icmp_ge_f (tgt := 81) C (dd_X8_suitsOf.at 8 rfl) (by decide) hc ?_
      refine xx_iload C (dd_X8_suitsOf.at 9 rfl) rfl ?_
      rcases ifo_ hf with ⟨hc, hf⟩ | ⟨hc, hf⟩
      · refine xx_if_eq_t (tgt := 42) C (dd_X8_suitsOf.at 10 rfl) (by decide) hc ?_
        refine xx_mask [true, true, true, true, false, true, true] (ss_X8_suitsOf_42 C Q (fun q1 hf => ?_) hf)
        exact xx_mask [true, true, true, true, false, true, true] (ss_X8_suitsOf_43 C Q (fun _ _ _ hf => ih _ _ _ hf) hf)
      · refine xx_if_eq_f (tgt := 42) C (dd_X8_suitsOf.at 10 rfl) (by decide) hc ?_
        refine xx_aload_n C (dd_X8_suitsOf.at 11 rfl) rfl (Nat.le_of_ble_eq_true rfl) ?_
        refine xx_iload_n C (dd_X8_suitsOf.at 12 rfl) rfl ?_
        refine xx_iload_n C (dd_X8_suitsOf.at 13 rfl) rfl ?_
        refine xx_iload C (dd_X8_suitsOf.at 14 rfl) rfl ?_
        obtain ⟨v6, e7, hf⟩ := bdo_ hf
        refine xx_callVi C (ss_X8_least e7) (dd_X8_suitsOf.at 15 rfl) ck_7 rfl sh_k98 kk_X8_least ki_X8_least lm_RX8_188 (lb_ rfl) rfl rfl (lb_ rfl) ?_
        refine xx_aload_n C (dd_X8_suitsOf.at 16 rfl) rfl (Nat.le_of_ble_eq_true rfl) ?_
        refine xx_iload_n C (dd_X8_suitsOf.at 17 rfl) rfl ?_
        refine xx_iload C (dd_X8_suitsOf.at 18 rfl) rfl ?_
        obtain ⟨v8, e9, hf⟩ := bdo_ hf
        refine xx_callVi C (ss_X8_need e9) (dd_X8_suitsOf.at 19 rfl) ck_7 rfl sh_k98 kk_X8_need ki_X8_need lm_RX8_237 (lb_ rfl) rfl rfl (lb_ rfl) ?_
        rcases ifo_ hf with ⟨hc, hf⟩ | ⟨hc, hf⟩
        · refine xx_icmp_lt_t (tgt := 42) C (dd_X8_suitsOf.at 20 rfl) (by decide) hc ?_
          refine xx_mask [true, true, true, true, false, true, true] (ss_X8_suitsOf_42 C Q (fun q10 hf => ?_) hf)
          exact xx_mask [true, true, true, true, false, true, true] (ss_X8_suitsOf_43 C Q (fun _ _ _ hf => ih _ _ _ hf) hf)
        · refine xx_icmp_lt_f (tgt := 42) C (dd_X8_suitsOf.at 20 rfl) (by decide) hc ?_
          refine xx_iconst C (dd_X8_suitsOf.at 21 rfl) ic_1 ?_
          refine xx_goto (tgt := 43) C (dd_X8_suitsOf.at 22 rfl) (by decide) ?_
          exact xx_mask [true, true, true, true, false, true, true] (ss_X8_suitsOf_43 C Q (fun _ _ _ hf => ih _ _ _ hf) hf)
theorem ss_X8_suitsOf {l : Launch} {G : gt_} {a1 : Int32} {a2 : Int32} {a3 : Int32} {h : hh_} {r9 : Int32}  (hf : ff_X8_suitsOf a1 a2 a3 h = some r9) : ok_ l G 4 mt_X8_suitsOf [.ref 98, .int a1, .int a2, .int a3] h (some (.int r9)) h := by
  refine ok_of pn_RX8 (lb_ rfl) (fun Z _ _ C Q => ?_)
  show xx_ Z 0 [some (.ref 98), some (.int a1), some (.int a2), some (.int a3), none, none, none] [] h
  unfold ff_X8_suitsOf at hf
  refine xx_iconst C (dd_X8_suitsOf.at 0 rfl) ic_1 ?_
  refine xx_istore (lv' := [_, _, _, _, _, _, _]) C (dd_X8_suitsOf.at 1 rfl) (lb_ rfl) rfl ?_
  refine xx_iconst C (dd_X8_suitsOf.at 2 rfl) ic_1 ?_
  refine xx_istore (lv' := [_, _, _, _, _, _, _]) C (dd_X8_suitsOf.at 3 rfl) (lb_ rfl) rfl ?_
  refine xx_iconst C (dd_X8_suitsOf.at 4 rfl) ic_0 ?_
  refine xx_istore (lv' := [_, _, _, _, _, _, _]) C (dd_X8_suitsOf.at 5 rfl) (lb_ rfl) rfl ?_
  refine xx_mask [true, true, true, true, true, true, true] (ss_X8_suitsOf_9 C Q (fun u11 u12 hf => ?_) _ _ _ _ hf)
  refine xx_iload C (dd_X8_suitsOf.at 43 rfl) rfl ?_
  rcases ifo_ hf with ⟨hc, hf⟩ | ⟨hc, hf⟩
  · refine xx_if_eq_t (tgt := 90) C (dd_X8_suitsOf.at 44 rfl) (by decide) hc ?_
    refine xx_iload C (dd_X8_suitsOf.at 47 rfl) rfl ?_
    rcases ifo_ hf with ⟨hc, hf⟩ | ⟨hc, hf⟩
    · refine xx_if_eq_t (tgt := 99) C (dd_X8_suitsOf.at 48 rfl) (by decide) hc ?_
      refine xx_iconst C (dd_X8_suitsOf.at 51 rfl) ic_0 ?_
      exact xx_ireturn C (rt_ip hf Q) (dd_X8_suitsOf.at 52 rfl) rfl
    · refine xx_if_eq_f (tgt := 99) C (dd_X8_suitsOf.at 48 rfl) (by decide) hc ?_
      refine xx_iconst C (dd_X8_suitsOf.at 49 rfl) ic_1 ?_
      refine xx_goto (tgt := 100) C (dd_X8_suitsOf.at 50 rfl) (by decide) ?_
      exact xx_ireturn C (rt_ip hf Q) (dd_X8_suitsOf.at 52 rfl) rfl
  · refine xx_if_eq_f (tgt := 90) C (dd_X8_suitsOf.at 44 rfl) (by decide) hc ?_
    refine xx_iconst C (dd_X8_suitsOf.at 45 rfl) ic_2 ?_
    refine xx_goto (tgt := 100) C (dd_X8_suitsOf.at 46 rfl) (by decide) ?_
    exact xx_ireturn C (rt_ip hf Q) (dd_X8_suitsOf.at 52 rfl) rfl
theorem ss_X8_suits {l : Launch} {G : gt_} {a1 : Int32} {a2 : Int32} {a3 : Int32} {h : hh_} {r9 : Int32}  (hf : ff_X8_suits a1 a2 a3 h = some r9) : ok_ l G 5 mt_X8_suits [.ref 98, .int a1, .int a2, .int a3] h (some (.int r9)) h := by
  refine ok_of pn_RX8 (lb_ rfl) (fun Z _ _ C Q => ?_)
  show xx_ Z 0 [some (.ref 98), some (.int a1), some (.int a2), some (.int a3)] [] h
  unfold ff_X8_suits at hf
  refine xx_aload_n C (dd_X8_suits.at 0 rfl) rfl (Nat.le_of_ble_eq_true rfl) ?_
  refine xx_iload_n C (dd_X8_suits.at 1 rfl) rfl ?_
  refine xx_callVi C (ss_X8_isThumb rfl) (dd_X8_suits.at 2 rfl) ck_7 rfl sh_k98 kk_X8_isThumb ki_X8_isThumb lm_RX8_165 (lb_ rfl) rfl rfl (lb_ rfl) ?_
  rcases ifo_ hf with ⟨hc, hf⟩ | ⟨hc, hf⟩
  · refine xx_if_eq_t (tgt := 34) C (dd_X8_suits.at 3 rfl) (by decide) hc ?_
    refine xx_iconst C (dd_X8_suits.at 18 rfl) ic_m1 ?_
    exact xx_ireturn C (rt_ip hf Q) (dd_X8_suits.at 19 rfl) rfl
  · refine xx_if_eq_f (tgt := 34) C (dd_X8_suits.at 3 rfl) (by decide) hc ?_
    refine xx_aload_n C (dd_X8_suits.at 4 rfl) rfl (Nat.le_of_ble_eq_true rfl) ?_
    refine xx_iload_n C (dd_X8_suits.at 5 rfl) rfl ?_
    refine xx_callVi C (ss_X8_isHead rfl) (dd_X8_suits.at 6 rfl) ck_7 rfl sh_k98 kk_X8_isHead ki_X8_isHead lm_RX8_159 (lb_ rfl) rfl rfl (lb_ rfl) ?_
    rcases ifo_ hf with ⟨hc, hf⟩ | ⟨hc, hf⟩
    · refine xx_if_eq_t (tgt := 34) C (dd_X8_suits.at 7 rfl) (by decide) hc ?_
      refine xx_iconst C (dd_X8_suits.at 18 rfl) ic_m1 ?_
      exact xx_ireturn C (rt_ip hf Q) (dd_X8_suits.at 19 rfl) rfl
    · refine xx_if_eq_f (tgt := 34) C (dd_X8_suits.at 7 rfl) (by decide) hc ?_
      refine xx_aload_n C (dd_X8_suits.at 8 rfl) rfl (Nat.le_of_ble_eq_true rfl) ?_
      refine xx_iload_n C (dd_X8_suits.at 9 rfl) rfl ?_
      refine xx_callVi C (ss_X8_isPost rfl) (dd_X8_suits.at 10 rfl) ck_7 rfl sh_k98 kk_X8_isPost ki_X8_isPost lm_RX8_168 (lb_ rfl) rfl rfl (lb_ rfl) ?_
      rcases ifo_ hf with ⟨hc, hf⟩ | ⟨hc, hf⟩
      · refine xx_if_eq_t (tgt := 34) C (dd_X8_suits.at 11 rfl) (by decide) hc ?_
        refine xx_iconst C (dd_X8_suits.at 18 rfl) ic_m1 ?_
        exact xx_ireturn C (rt_ip hf Q) (dd_X8_suits.at 19 rfl) rfl
      · refine xx_if_eq_f (tgt := 34) C (dd_X8_suits.at 11 rfl) (by decide) hc ?_
        refine xx_aload_n C (dd_X8_suits.at 12 rfl) rfl (Nat.le_of_ble_eq_true rfl) ?_
        refine xx_iload_n C (dd_X8_suits.at 13 rfl) rfl ?_
        refine xx_iload_n C (dd_X8_suits.at 14 rfl) rfl ?_
        refine xx_iload_n C (dd_X8_suits.at 15 rfl) rfl ?_
        obtain ⟨v1, e2, hf⟩ := bdo_ hf
        refine xx_callVi C (ss_X8_suitsOf e2) (dd_X8_suits.at 16 rfl) ck_7 rfl sh_k98 kk_X8_suitsOf ki_X8_suitsOf lm_RX8_240 (lb_ rfl) rfl rfl (lb_ rfl) ?_
        refine xx_goto (tgt := 35) C (dd_X8_suits.at 17 rfl) (by decide) ?_
        exact xx_ireturn C (rt_ip hf Q) (dd_X8_suits.at 19 rfl) rfl
theorem ss_X8_luck_35 {Z : zz_} (C : cx_ Z mt_X8_luck 5) {r9 : Int32} {h9 : hh_} {x1 : Int32} {x2 : Int32} {x3 : Int32} {h : hh_}  (Q : rq_ Z (some (.int r9)) h9) : ∀ (n9 : Nat) (x4 : Int64) (x6 : Int64) (x8 : Int32), ff_X8_luck_35 x1 x2 x3 h n9 x4 x6 x8 = some (r9, h9) → xx_ Z 35 [some (.ref 98), some (.int x1), some (.int x2), some (.int x3), some (.long x4), none, some (.long x6), none, some (.int x8), none] [] h := by
  intro n9
  induction n9 with
  | zero =>
    intro x4 x6 x8 hf
    exact absurd hf (by rw [ff_X8_luck_35]; exact nofun)
  | succ n9 ih =>
    intro x4 x6 x8 hf
    rw [ff_X8_luck_35] at hf
    refine xx_iload C (dd_X8_luck.at 20 rfl) rfl ?_
    refine xx_iconst C (dd_X8_luck.at 21 rfl) ic_4 ?_
    rcases ifo_ hf with ⟨hc, hf⟩ | ⟨hc, hf⟩
    · refine xx_icmp_ge_t (tgt := 104) C (dd_X8_luck.at 22 rfl) (by decide) hc ?_
      refine xx_aload_n C (dd_X8_luck.at 60 rfl) rfl (Nat.le_of_ble_eq_true rfl) ?_
      refine xx_lload C (dd_X8_luck.at 61 rfl) rfl ?_
      refine xx_lload C (dd_X8_luck.at 62 rfl) rfl ?_
      obtain ⟨v1, e2, hf⟩ := bdo_ hf
      refine xx_callVi C (ss_X8_part (pz_ e2)) (dd_X8_luck.at 63 rfl) ck_7 rfl sh_k98 kk_X8_part ki_X8_part lm_RX8_230 (lb_ rfl) rfl rfl (lb_ rfl) ?_
      exact xx_ireturn C (rt_iwp hf Q) (dd_X8_luck.at 64 rfl) rfl
    · refine xx_icmp_ge_f (tgt := 104) C (dd_X8_luck.at 22 rfl) (by decide) hc ?_
      refine xx_aload_n C (dd_X8_luck.at 23 rfl) rfl (Nat.le_of_ble_eq_true rfl) ?_
      refine xx_iload_n C (dd_X8_luck.at 24 rfl) rfl ?_
      refine xx_iload_n C (dd_X8_luck.at 25 rfl) rfl ?_
      refine xx_iload C (dd_X8_luck.at 26 rfl) rfl ?_
      obtain ⟨v3, e4, hf⟩ := bdo_ hf
      refine xx_callVi C (ss_X8_least e4) (dd_X8_luck.at 27 rfl) ck_7 rfl sh_k98 kk_X8_least ki_X8_least lm_RX8_188 (lb_ rfl) rfl rfl (lb_ rfl) ?_
      refine xx_aload_n C (dd_X8_luck.at 28 rfl) rfl (Nat.le_of_ble_eq_true rfl) ?_
      refine xx_iload_n C (dd_X8_luck.at 29 rfl) rfl ?_
      refine xx_iload C (dd_X8_luck.at 30 rfl) rfl ?_
      obtain ⟨v5, e6, hf⟩ := bdo_ hf
      refine xx_callVi C (ss_X8_need e6) (dd_X8_luck.at 31 rfl) ck_7 rfl sh_k98 kk_X8_need ki_X8_need lm_RX8_237 (lb_ rfl) rfl rfl (lb_ rfl) ?_
      refine xx_callSi C (ss_X8_greater rfl) (dd_X8_luck.at 32 rfl) kk_X8_greater ks_X8_greater lm_RX8_171 (lb_ rfl) rfl rfl (lb_ rfl) ?_
      refine xx_istore (lv' := [_, _, _, _, _, _, _, _, _, _]) C (dd_X8_luck.at 33 rfl) (lb_ rfl) rfl ?_
      refine xx_lload C (dd_X8_luck.at 34 rfl) rfl ?_
      refine xx_iconst C (dd_X8_luck.at 35 rfl) ic_0 ?_
      refine xx_aload_n C (dd_X8_luck.at 36 rfl) rfl (Nat.le_of_ble_eq_true rfl) ?_
      refine xx_iload_n C (dd_X8_luck.at 37 rfl) rfl ?_
      refine xx_iload_n C (dd_X8_luck.at 38 rfl) rfl ?_
      refine xx_iload C (dd_X8_luck.at 39 rfl) rfl ?_
      obtain ⟨v7, e8, hf⟩ := bdo_ hf
      refine xx_callVi C (ss_X8_most e8) (dd_X8_luck.at 40 rfl) ck_7 rfl sh_k98 kk_X8_most ki_X8_most lm_RX8_191 (lb_ rfl) rfl rfl (lb_ rfl) ?_
      refine xx_iload C (dd_X8_luck.at 41 rfl) rfl ?_
      refine xx_isub C (dd_X8_luck.at 42 rfl) ?_
      refine xx_iconst C (dd_X8_luck.at 43 rfl) ic_1 ?_
      refine xx_iadd C (dd_X8_luck.at 44 rfl) ?_
      refine xx_callSi C (ss_X8_greater rfl) (dd_X8_luck.at 45 rfl) kk_X8_greater ks_X8_greater lm_RX8_171 (lb_ rfl) rfl rfl (lb_ rfl) ?_
      refine xx_i2l C (dd_X8_luck.at 46 rfl) ?_
      refine xx_lmul C (dd_X8_luck.at 47 rfl) ?_
      refine xx_lstore (lv' := [_, _, _, _, _, _, _, _, _, _]) C (dd_X8_luck.at 48 rfl) (lb_ rfl) rfl ?_
      refine xx_lload C (dd_X8_luck.at 49 rfl) rfl ?_
      refine xx_aload_n C (dd_X8_luck.at 50 rfl) rfl (Nat.le_of_ble_eq_true rfl) ?_
      refine xx_iload_n C (dd_X8_luck.at 51 rfl) rfl ?_
      refine xx_iload_n C (dd_X8_luck.at 52 rfl) rfl ?_
      refine xx_iload C (dd_X8_luck.at 53 rfl) rfl ?_
      obtain ⟨v9, e10, hf⟩ := bdo_ hf
      refine xx_callVi C (ss_X8_spread e10) (dd_X8_luck.at 54 rfl) ck_7 rfl sh_k98 kk_X8_spread ki_X8_spread lm_RX8_223 (lb_ rfl) rfl rfl (lb_ rfl) ?_
      refine xx_i2l C (dd_X8_luck.at 55 rfl) ?_
      refine xx_lmul C (dd_X8_luck.at 56 rfl) ?_
      refine xx_lstore (lv' := [_, _, _, _, _, _, _, _, _, _]) C (dd_X8_luck.at 57 rfl) (lb_ rfl) rfl ?_
      refine xx_iinc (v := _ + (1 : Int32)) (lv' := [_, _, _, _, _, _, _, _, _, _]) C (dd_X8_luck.at 58 rfl) (lb_ rfl) rfl (by rw [ic_1]) rfl ?_
      refine xx_goto (tgt := 35) C (dd_X8_luck.at 59 rfl) (by decide) ?_
      exact xx_mask [true, true, true, true, true, false, true, false, true, false] (ih _ _ _ hf)
theorem ss_X8_luck {l : Launch} {G : gt_} {a1 : Int32} {a2 : Int32} {a3 : Int32} {h : hh_} {r9 : Int32} {h9 : hh_}  (hf : ff_X8_luck a1 a2 a3 h = some (r9, h9)) : ok_ l G 5 mt_X8_luck [.ref 98, .int a1, .int a2, .int a3] h (some (.int r9)) h9 := by
  refine ok_of pn_RX8 (lb_ rfl) (fun Z _ _ C Q => ?_)
  show xx_ Z 0 [some (.ref 98), some (.int a1), some (.int a2), some (.int a3), none, none, none, none, none, none] [] h
  unfold ff_X8_luck at hf
  refine xx_aload_n C (dd_X8_luck.at 0 rfl) rfl (Nat.le_of_ble_eq_true rfl) ?_
  refine xx_iload_n C (dd_X8_luck.at 1 rfl) rfl ?_
  refine xx_callVi C (ss_X8_isThumb rfl) (dd_X8_luck.at 2 rfl) ck_7 rfl sh_k98 kk_X8_isThumb ki_X8_isThumb lm_RX8_165 (lb_ rfl) rfl rfl (lb_ rfl) ?_
  rcases ifo_ hf with ⟨hc, hf⟩ | ⟨hc, hf⟩
  · refine xx_if_eq_t (tgt := 24) C (dd_X8_luck.at 3 rfl) (by decide) hc ?_
    refine xx_iconst C (dd_X8_luck.at 12 rfl) ic_m1 ?_
    exact xx_ireturn C (rt_iwp hf Q) (dd_X8_luck.at 13 rfl) rfl
  · refine xx_if_eq_f (tgt := 24) C (dd_X8_luck.at 3 rfl) (by decide) hc ?_
    refine xx_aload_n C (dd_X8_luck.at 4 rfl) rfl (Nat.le_of_ble_eq_true rfl) ?_
    refine xx_iload_n C (dd_X8_luck.at 5 rfl) rfl ?_
    refine xx_callVi C (ss_X8_isHead rfl) (dd_X8_luck.at 6 rfl) ck_7 rfl sh_k98 kk_X8_isHead ki_X8_isHead lm_RX8_159 (lb_ rfl) rfl rfl (lb_ rfl) ?_
    rcases ifo_ hf with ⟨hc, hf⟩ | ⟨hc, hf⟩
    · refine xx_if_eq_t (tgt := 24) C (dd_X8_luck.at 7 rfl) (by decide) hc ?_
      refine xx_iconst C (dd_X8_luck.at 12 rfl) ic_m1 ?_
      exact xx_ireturn C (rt_iwp hf Q) (dd_X8_luck.at 13 rfl) rfl
    · refine xx_if_eq_f (tgt := 24) C (dd_X8_luck.at 7 rfl) (by decide) hc ?_
      refine xx_aload_n C (dd_X8_luck.at 8 rfl) rfl (Nat.le_of_ble_eq_true rfl) ?_
      refine xx_iload_n C (dd_X8_luck.at 9 rfl) rfl ?_
      refine xx_callVi C (ss_X8_isPost rfl) (dd_X8_luck.at 10 rfl) ck_7 rfl sh_k98 kk_X8_isPost ki_X8_isPost lm_RX8_168 (lb_ rfl) rfl rfl (lb_ rfl) ?_
      rcases ifo_ hf with ⟨hc, hf⟩ | ⟨hc, hf⟩
      · refine xx_if_ne_f (tgt := 26) C (dd_X8_luck.at 11 rfl) (by decide) (not_not_intro hc) ?_
        refine xx_iconst C (dd_X8_luck.at 12 rfl) ic_m1 ?_
        exact xx_ireturn C (rt_iwp hf Q) (dd_X8_luck.at 13 rfl) rfl
      · refine xx_if_ne_t (tgt := 26) C (dd_X8_luck.at 11 rfl) (by decide) hc ?_
        refine xx_lconst (v := 1) C (dd_X8_luck.at 14 rfl) rfl ?_
        refine xx_lstore (lv' := [_, _, _, _, _, _, _, _, _, _]) C (dd_X8_luck.at 15 rfl) (lb_ rfl) rfl ?_
        refine xx_lconst (v := 1) C (dd_X8_luck.at 16 rfl) rfl ?_
        refine xx_lstore (lv' := [_, _, _, _, _, _, _, _, _, _]) C (dd_X8_luck.at 17 rfl) (lb_ rfl) rfl ?_
        refine xx_iconst C (dd_X8_luck.at 18 rfl) ic_0 ?_
        refine xx_istore (lv' := [_, _, _, _, _, _, _, _, _, _]) C (dd_X8_luck.at 19 rfl) (lb_ rfl) rfl ?_
        exact xx_mask [true, true, true, true, true, false, true, false, true, false] (ss_X8_luck_35 C Q _ _ _ _ hf)
theorem ss_X8_padsAt_16 {Z : zz_} (C : cx_ Z mt_X8_padsAt 4) {r9 : Int32} {h9 : hh_} {x1 : Int32} {x2 : Int32} {x3 : Int32} {x4 : Int32} {x5 : Int32}  (Q : rq_ Z (some (.int r9)) h9) : ∀ (n9 : Nat) (x6 : Int32) (x7 : Int32) (h : hh_), ff_X8_padsAt_16 x1 x2 x3 x4 x5 n9 x6 x7 h = some (r9, h9) → xx_ Z 16 [some (.ref 98), some (.int x1), some (.int x2), some (.int x3), some (.int x4), some (.int x5), some (.int x6), some (.int x7)] [] h := by
  intro n9
  induction n9 with
  | zero =>
    intro x6 x7 h hf
    exact absurd hf (by rw [ff_X8_padsAt_16]; exact nofun)
  | succ n9 ih =>
    intro x6 x7 h hf
    rw [ff_X8_padsAt_16] at hf
    refine xx_iload C (dd_X8_padsAt.at 9 rfl) rfl ?_
    refine xx_iload C (dd_X8_padsAt.at 10 rfl) rfl ?_
    rcases ifo_ hf with ⟨hc, hf⟩ | ⟨hc, hf⟩
    · refine xx_icmp_lt_t (tgt := 72) C (dd_X8_padsAt.at 11 rfl) (by decide) hc ?_
      refine xx_aload_n C (dd_X8_padsAt.at 39 rfl) rfl (Nat.le_of_ble_eq_true rfl) ?_
      refine xx_getR (j := 13) (r := 105) C ck_7 (lb_ rfl) lf_RX8_32 sh_k98 rfl (lb_ rfl) rfl (dd_X8_padsAt.at 40 rfl) ?_
      refine xx_iconst C (dd_X8_padsAt.at 41 rfl) ic_5 ?_
      refine xx_iload_n C (dd_X8_padsAt.at 42 rfl) rfl ?_
      refine xx_imul C (dd_X8_padsAt.at 43 rfl) ?_
      refine xx_iload C (dd_X8_padsAt.at 44 rfl) rfl ?_
      refine xx_iadd C (dd_X8_padsAt.at 45 rfl) ?_
      refine xx_iload C (dd_X8_padsAt.at 46 rfl) rfl ?_
      obtain ⟨g3, hf⟩ := gd_ok hf
      refine xx_iastore C (dd_X8_padsAt.at 47 rfl) sh_k105 (bi_ok g3) ?_
      refine xx_iload C (dd_X8_padsAt.at 48 rfl) rfl ?_
      exact xx_ireturn C (rt_iwp hf Q) (dd_X8_padsAt.at 49 rfl) rfl
    · refine xx_icmp_lt_f (tgt := 72) C (dd_X8_padsAt.at 11 rfl) (by decide) hc ?_
      refine xx_aload_n C (dd_X8_padsAt.at 12 rfl) rfl (Nat.le_of_ble_eq_true rfl) ?_
      refine xx_getR (j := 13) (r := 105) C ck_7 (lb_ rfl) lf_RX8_32 sh_k98 rfl (lb_ rfl) rfl (dd_X8_padsAt.at 13 rfl) ?_
      refine xx_iconst C (dd_X8_padsAt.at 14 rfl) ic_5 ?_
      refine xx_iload_n C (dd_X8_padsAt.at 15 rfl) rfl ?_
      refine xx_imul C (dd_X8_padsAt.at 16 rfl) ?_
      refine xx_iload C (dd_X8_padsAt.at 17 rfl) rfl ?_
      refine xx_iadd C (dd_X8_padsAt.at 18 rfl) ?_
      refine xx_iload C (dd_X8_padsAt.at 19 rfl) rfl ?_
      obtain ⟨g4, hf⟩ := gd_ok hf
      refine xx_iastore C (dd_X8_padsAt.at 20 rfl) sh_k105 (bi_ok g4) ?_
      refine xx_aload_n C (dd_X8_padsAt.at 21 rfl) rfl (Nat.le_of_ble_eq_true rfl) ?_
      refine xx_iload_n C (dd_X8_padsAt.at 22 rfl) rfl ?_
      refine xx_iload_n C (dd_X8_padsAt.at 23 rfl) rfl ?_
      refine xx_iload C (dd_X8_padsAt.at 24 rfl) rfl ?_
      obtain ⟨v5, e6, hf⟩ := bdo_ hf
      refine xx_callVi C (ss_X8_least e6) (dd_X8_padsAt.at 25 rfl) ck_7 rfl sh_k98 kk_X8_least ki_X8_least lm_RX8_188 (lb_ rfl) rfl rfl (lb_ rfl) ?_
      refine xx_aload_n C (dd_X8_padsAt.at 26 rfl) rfl (Nat.le_of_ble_eq_true rfl) ?_
      refine xx_iload_n C (dd_X8_padsAt.at 27 rfl) rfl ?_
      refine xx_iload C (dd_X8_padsAt.at 28 rfl) rfl ?_
      obtain ⟨v7, e8, hf⟩ := bdo_ hf
      refine xx_callVi C (ss_X8_need e8) (dd_X8_padsAt.at 29 rfl) ck_7 rfl sh_k98 kk_X8_need ki_X8_need lm_RX8_237 (lb_ rfl) rfl rfl (lb_ rfl) ?_
      rcases ifo_ hf with ⟨hc, hf⟩ | ⟨hc, hf⟩
      · refine xx_icmp_lt_t (tgt := 62) C (dd_X8_padsAt.at 30 rfl) (by decide) hc ?_
        refine xx_iload C (dd_X8_padsAt.at 35 rfl) rfl ?_
        refine xx_istore (lv' := [_, _, _, _, _, _, _, _]) C (dd_X8_padsAt.at 36 rfl) (lb_ rfl) rfl ?_
        refine xx_iinc (v := _ + (-1 : Int32)) (lv' := [_, _, _, _, _, _, _, _]) C (dd_X8_padsAt.at 37 rfl) (lb_ rfl) rfl (by rw [ic_m1]) rfl ?_
        refine xx_goto (tgt := 16) C (dd_X8_padsAt.at 38 rfl) (by decide) ?_
        exact xx_mask [true, true, true, true, true, true, true, true] (ih _ _ _ hf)
      · refine xx_icmp_lt_f (tgt := 62) C (dd_X8_padsAt.at 30 rfl) (by decide) hc ?_
        refine xx_iload C (dd_X8_padsAt.at 31 rfl) rfl ?_
        refine xx_iload C (dd_X8_padsAt.at 32 rfl) rfl ?_
        refine xx_isub C (dd_X8_padsAt.at 33 rfl) ?_
        refine xx_goto (tgt := 64) C (dd_X8_padsAt.at 34 rfl) (by decide) ?_
        refine xx_istore (lv' := [_, _, _, _, _, _, _, _]) C (dd_X8_padsAt.at 36 rfl) (lb_ rfl) rfl ?_
        refine xx_iinc (v := _ + (-1 : Int32)) (lv' := [_, _, _, _, _, _, _, _]) C (dd_X8_padsAt.at 37 rfl) (lb_ rfl) rfl (by rw [ic_m1]) rfl ?_
        refine xx_goto (tgt := 16) C (dd_X8_padsAt.at 38 rfl) (by decide) ?_
        exact xx_mask [true, true, true, true, true, true, true, true] (ih _ _ _ hf)
theorem ss_X8_padsAt {l : Launch} {G : gt_} {a1 : Int32} {a2 : Int32} {a3 : Int32} {a4 : Int32} {h : hh_} {r9 : Int32} {h9 : hh_}  (hf : ff_X8_padsAt a1 a2 a3 a4 h = some (r9, h9)) : ok_ l G 4 mt_X8_padsAt [.ref 98, .int a1, .int a2, .int a3, .int a4] h (some (.int r9)) h9 := by
  refine ok_of pn_RX8 (lb_ rfl) (fun Z _ _ C Q => ?_)
  show xx_ Z 0 [some (.ref 98), some (.int a1), some (.int a2), some (.int a3), some (.int a4), none, none, none] [] h
  unfold ff_X8_padsAt at hf
  refine xx_aload_n C (dd_X8_padsAt.at 0 rfl) rfl (Nat.le_of_ble_eq_true rfl) ?_
  refine xx_iload_n C (dd_X8_padsAt.at 1 rfl) rfl ?_
  refine xx_iload C (dd_X8_padsAt.at 2 rfl) rfl ?_
  obtain ⟨v1, e2, hf⟩ := bdo_ hf
  refine xx_callVi C (ss_X8_bump e2) (dd_X8_padsAt.at 3 rfl) ck_7 rfl sh_k98 kk_X8_bump ki_X8_bump lm_RX8_153 (lb_ rfl) rfl rfl (lb_ rfl) ?_
  refine xx_istore (lv' := [_, _, _, _, _, _, _, _]) C (dd_X8_padsAt.at 4 rfl) (lb_ rfl) rfl ?_
  refine xx_bipush C (dd_X8_padsAt.at 5 rfl) bq_m9 ?_
  refine xx_istore (lv' := [_, _, _, _, _, _, _, _]) C (dd_X8_padsAt.at 6 rfl) (lb_ rfl) rfl ?_
  refine xx_iconst C (dd_X8_padsAt.at 7 rfl) ic_5 ?_
  refine xx_istore (lv' := [_, _, _, _, _, _, _, _]) C (dd_X8_padsAt.at 8 rfl) (lb_ rfl) rfl ?_
  exact xx_mask [true, true, true, true, true, true, true, true] (ss_X8_padsAt_16 C Q _ _ _ _ hf)
theorem ss_X8_pads_40 {Z : zz_} (C : cx_ Z mt_X8_pads 5) {r9 : Int32} {h9 : hh_} {x1 : Int32} {x2 : Int32} {x3 : Int32} {x4 : Int32} {K40_80 : Int32 → hh_ → Option (Int32 × hh_)} (Q : rq_ Z (some (.int r9)) h9) (hK40_80 : ∀ (z5 : Int32) (h8 : hh_), K40_80 z5 h8 = some (r9, h9) → xx_ Z 80 [some (.ref 98), some (.int x1), some (.int x2), some (.int x3), some (.int x4), some (.int z5), none, none] [] h8) : ∀ (n9 : Nat) (x5 : Int32) (x6 : Int32) (h : hh_), ff_X8_pads_40 x1 x2 x3 x4 K40_80 n9 x5 x6 h = some (r9, h9) → xx_ Z 40 [some (.ref 98), some (.int x1), some (.int x2), some (.int x3), some (.int x4), some (.int x5), some (.int x6), none] [] h := by
  intro n9
  induction n9 with
  | zero =>
    intro x5 x6 h hf
    exact absurd hf (by rw [ff_X8_pads_40]; exact nofun)
  | succ n9 ih =>
    intro x5 x6 h hf
    rw [ff_X8_pads_40] at hf
    refine xx_iload C (dd_X8_pads.at 21 rfl) rfl ?_
    refine xx_iconst C (dd_X8_pads.at 22 rfl) ic_4 ?_
    rcases ifo_ hf with ⟨hc, hf⟩ | ⟨hc, hf⟩
    · refine xx_icmp_ge_t (tgt := 80) C (dd_X8_pads.at 23 rfl) (by decide) hc ?_
      exact xx_mask [true, true, true, true, true, true, false, false] (hK40_80 _ _ hf)
    · refine xx_icmp_ge_f (tgt := 80) C (dd_X8_pads.at 23 rfl) (by decide) hc ?_
      refine xx_aload_n C (dd_X8_pads.at 24 rfl) rfl (Nat.le_of_ble_eq_true rfl) ?_
      refine xx_iload_n C (dd_X8_pads.at 25 rfl) rfl ?_
      refine xx_iload_n C (dd_X8_pads.at 26 rfl) rfl ?_
      refine xx_iload_n C (dd_X8_pads.at 27 rfl) rfl ?_
      refine xx_iload C (dd_X8_pads.at 28 rfl) rfl ?_
      obtain ⟨v1, e2, hf⟩ := bdo_ hf
      refine xx_callVi C (ss_X8_padsAt (pz_ e2)) (dd_X8_pads.at 29 rfl) ck_7 rfl sh_k98 kk_X8_padsAt ki_X8_padsAt lm_RX8_243 (lb_ rfl) rfl rfl (lb_ rfl) ?_
      refine xx_istore (lv' := [_, _, _, _, _, _, _, _]) C (dd_X8_pads.at 30 rfl) (lb_ rfl) rfl ?_
      refine xx_iload C (dd_X8_pads.at 31 rfl) rfl ?_
      refine xx_bipush C (dd_X8_pads.at 32 rfl) bq_m9 ?_
      rcases ifo_ hf with ⟨hc, hf⟩ | ⟨hc, hf⟩
      · refine xx_icmp_ne_f (tgt := 67) C (dd_X8_pads.at 33 rfl) (by decide) (not_not_intro hc) ?_
        refine xx_bipush C (dd_X8_pads.at 34 rfl) bq_m9 ?_
        exact xx_ireturn C (rt_iwp hf Q) (dd_X8_pads.at 35 rfl) rfl
      · refine xx_icmp_ne_t (tgt := 67) C (dd_X8_pads.at 33 rfl) (by decide) hc ?_
        refine xx_iload C (dd_X8_pads.at 36 rfl) rfl ?_
        refine xx_iload C (dd_X8_pads.at 37 rfl) rfl ?_
        refine xx_iadd C (dd_X8_pads.at 38 rfl) ?_
        refine xx_istore (lv' := [_, _, _, _, _, _, _, _]) C (dd_X8_pads.at 39 rfl) (lb_ rfl) rfl ?_
        refine xx_iinc (v := _ + (1 : Int32)) (lv' := [_, _, _, _, _, _, _, _]) C (dd_X8_pads.at 40 rfl) (lb_ rfl) rfl (by rw [ic_1]) rfl ?_
        refine xx_goto (tgt := 40) C (dd_X8_pads.at 41 rfl) (by decide) ?_
        exact xx_mask [true, true, true, true, true, true, true, false] (ih _ _ _ hf)
theorem ss_X8_pads_91 {Z : zz_} (C : cx_ Z mt_X8_pads 5) {r9 : Int32} {h9 : hh_} {x1 : Int32} {x2 : Int32} {x3 : Int32} {x4 : Int32} {x5 : Int32}  (Q : rq_ Z (some (.int r9)) h9) : ∀ (n9 : Nat) (x6 : Int32) (h : hh_), ff_X8_pads_91 x1 x2 x3 x4 x5 n9 x6 h = some (r9, h9) → xx_ Z 91 [some (.ref 98), some (.int x1), some (.int x2), some (.int x3), some (.int x4), some (.int x5), some (.int x6), none] [] h := by
  intro n9
  induction n9 with
  | zero =>
    intro x6 h hf
    exact absurd hf (by rw [ff_X8_pads_91]; exact nofun)
  | succ n9 ih =>
    intro x6 h hf
    rw [ff_X8_pads_91] at hf
    refine xx_iload C (dd_X8_pads.at 49 rfl) rfl ?_
    refine xx_iconst C (dd_X8_pads.at 50 rfl) ic_4 ?_
    rcases ifo_ hf with ⟨hc, hf⟩ | ⟨hc, hf⟩
    · refine xx_icmp_ge_t (tgt := 120) C (dd_X8_pads.at 51 rfl) (by decide) hc ?_
      refine xx_iload C (dd_X8_pads.at 64 rfl) rfl ?_
      exact xx_ireturn C (rt_iwp hf Q) (dd_X8_pads.at 65 rfl) rfl
    · refine xx_icmp_ge_f (tgt := 120) C (dd_X8_pads.at 51 rfl) (by decide) hc ?_
      refine xx_aload_n C (dd_X8_pads.at 52 rfl) rfl (Nat.le_of_ble_eq_true rfl) ?_
      refine xx_iload C (dd_X8_pads.at 53 rfl) rfl ?_
      refine xx_iload C (dd_X8_pads.at 54 rfl) rfl ?_
      refine xx_aload_n C (dd_X8_pads.at 55 rfl) rfl (Nat.le_of_ble_eq_true rfl) ?_
      refine xx_iload_n C (dd_X8_pads.at 56 rfl) rfl ?_
      refine xx_iload_n C (dd_X8_pads.at 57 rfl) rfl ?_
      refine xx_iload_n C (dd_X8_pads.at 58 rfl) rfl ?_
      refine xx_iload C (dd_X8_pads.at 59 rfl) rfl ?_
      obtain ⟨v7, e8, hf⟩ := bdo_ hf
      refine xx_callVi C (ss_X8_padsAt (pz_ e8)) (dd_X8_pads.at 60 rfl) ck_7 rfl sh_k98 kk_X8_padsAt ki_X8_padsAt lm_RX8_243 (lb_ rfl) rfl rfl (lb_ rfl) ?_
      obtain ⟨v9, e10, hf⟩ := bdo_ hf
      refine xx_callVv C (ss_X8_setRow e10) (dd_X8_pads.at 61 rfl) ck_7 rfl sh_k98 kk_X8_setRow ki_X8_setRow lm_RX8_87 (lb_ rfl) rfl rfl (lb_ rfl) ?_
      refine xx_iinc (v := _ + (1 : Int32)) (lv' := [_, _, _, _, _, _, _, _]) C (dd_X8_pads.at 62 rfl) (lb_ rfl) rfl (by rw [ic_1]) rfl ?_
      refine xx_goto (tgt := 91) C (dd_X8_pads.at 63 rfl) (by decide) ?_
      exact xx_mask [true, true, true, true, true, true, true, false] (ih _ _ hf)
theorem ss_X8_pads {l : Launch} {G : gt_} {a1 : Int32} {a2 : Int32} {a3 : Int32} {a4 : Int32} {h : hh_} {r9 : Int32} {h9 : hh_}  (hf : ff_X8_pads a1 a2 a3 a4 h = some (r9, h9)) : ok_ l G 5 mt_X8_pads [.ref 98, .int a1, .int a2, .int a3, .int a4] h (some (.int r9)) h9 := by
  refine ok_of pn_RX8 (lb_ rfl) (fun Z _ _ C Q => ?_)
  show xx_ Z 0 [some (.ref 98), some (.int a1), some (.int a2), some (.int a3), some (.int a4), none, none, none] [] h
  unfold ff_X8_pads at hf
  refine xx_aload_n C (dd_X8_pads.at 0 rfl) rfl (Nat.le_of_ble_eq_true rfl) ?_
  refine xx_iload_n C (dd_X8_pads.at 1 rfl) rfl ?_
  refine xx_callVi C (ss_X8_isThumb rfl) (dd_X8_pads.at 2 rfl) ck_7 rfl sh_k98 kk_X8_isThumb ki_X8_isThumb lm_RX8_165 (lb_ rfl) rfl rfl (lb_ rfl) ?_
  rcases ifo_ hf with ⟨hc, hf⟩ | ⟨hc, hf⟩
  · refine xx_if_eq_t (tgt := 32) C (dd_X8_pads.at 3 rfl) (by decide) hc ?_
    refine xx_iconst C (dd_X8_pads.at 15 rfl) ic_m1 ?_
    exact xx_ireturn C (rt_iwp hf Q) (dd_X8_pads.at 16 rfl) rfl
  · refine xx_if_eq_f (tgt := 32) C (dd_X8_pads.at 3 rfl) (by decide) hc ?_
    refine xx_aload_n C (dd_X8_pads.at 4 rfl) rfl (Nat.le_of_ble_eq_true rfl) ?_
    refine xx_iload_n C (dd_X8_pads.at 5 rfl) rfl ?_
    refine xx_callVi C (ss_X8_isHead rfl) (dd_X8_pads.at 6 rfl) ck_7 rfl sh_k98 kk_X8_isHead ki_X8_isHead lm_RX8_159 (lb_ rfl) rfl rfl (lb_ rfl) ?_
    rcases ifo_ hf with ⟨hc, hf⟩ | ⟨hc, hf⟩
    · refine xx_if_eq_t (tgt := 32) C (dd_X8_pads.at 7 rfl) (by decide) hc ?_
      refine xx_iconst C (dd_X8_pads.at 15 rfl) ic_m1 ?_
      exact xx_ireturn C (rt_iwp hf Q) (dd_X8_pads.at 16 rfl) rfl
    · refine xx_if_eq_f (tgt := 32) C (dd_X8_pads.at 7 rfl) (by decide) hc ?_
      refine xx_aload_n C (dd_X8_pads.at 8 rfl) rfl (Nat.le_of_ble_eq_true rfl) ?_
      refine xx_iload_n C (dd_X8_pads.at 9 rfl) rfl ?_
      refine xx_callVi C (ss_X8_isPost rfl) (dd_X8_pads.at 10 rfl) ck_7 rfl sh_k98 kk_X8_isPost ki_X8_isPost lm_RX8_168 (lb_ rfl) rfl rfl (lb_ rfl) ?_
      rcases ifo_ hf with ⟨hc, hf⟩ | ⟨hc, hf⟩
      · refine xx_if_eq_t (tgt := 32) C (dd_X8_pads.at 11 rfl) (by decide) hc ?_
        refine xx_iconst C (dd_X8_pads.at 15 rfl) ic_m1 ?_
        exact xx_ireturn C (rt_iwp hf Q) (dd_X8_pads.at 16 rfl) rfl
      · refine xx_if_eq_f (tgt := 32) C (dd_X8_pads.at 11 rfl) (by decide) hc ?_
        refine xx_iload C (dd_X8_pads.at 12 rfl) rfl ?_
        refine xx_callSi C (ss_X8_isRow rfl) (dd_X8_pads.at 13 rfl) kk_X8_isRow ks_X8_isRow lm_RX8_76 (lb_ rfl) rfl rfl (lb_ rfl) ?_
        rcases ifo_ hf with ⟨hc, hf⟩ | ⟨hc, hf⟩
        · refine xx_if_ne_f (tgt := 34) C (dd_X8_pads.at 14 rfl) (by decide) (not_not_intro hc) ?_
          refine xx_iconst C (dd_X8_pads.at 15 rfl) ic_m1 ?_
          exact xx_ireturn C (rt_iwp hf Q) (dd_X8_pads.at 16 rfl) rfl
        · refine xx_if_ne_t (tgt := 34) C (dd_X8_pads.at 14 rfl) (by decide) hc ?_
          refine xx_iconst C (dd_X8_pads.at 17 rfl) ic_0 ?_
          refine xx_istore (lv' := [_, _, _, _, _, _, _, _]) C (dd_X8_pads.at 18 rfl) (lb_ rfl) rfl ?_
          refine xx_iconst C (dd_X8_pads.at 19 rfl) ic_0 ?_
          refine xx_istore (lv' := [_, _, _, _, _, _, _, _]) C (dd_X8_pads.at 20 rfl) (lb_ rfl) rfl ?_
          refine xx_mask [true, true, true, true, true, true, true, false] (ss_X8_pads_40 C Q (fun u3 k4 hf => ?_) _ _ _ _ hf)
          refine xx_aload_n C (dd_X8_pads.at 42 rfl) rfl (Nat.le_of_ble_eq_true rfl) ?_
          refine xx_iload C (dd_X8_pads.at 43 rfl) rfl ?_
          refine xx_iconst C (dd_X8_pads.at 44 rfl) ic_4 ?_
          obtain ⟨v5, e6, hf⟩ := bdo_ hf
          refine xx_callVi C (ss_X8_row (pz_ e6)) (dd_X8_pads.at 45 rfl) ck_7 rfl sh_k98 kk_X8_row ki_X8_row lm_RX8_246 (lb_ rfl) rfl rfl (lb_ rfl) ?_
          refine xx_pop C (dd_X8_pads.at 46 rfl) rfl ?_
          refine xx_iconst C (dd_X8_pads.at 47 rfl) ic_0 ?_
          refine xx_istore (lv' := [_, _, _, _, _, _, _, _]) C (dd_X8_pads.at 48 rfl) (lb_ rfl) rfl ?_
          exact xx_mask [true, true, true, true, true, true, true, false] (ss_X8_pads_91 C Q _ _ _ hf)
theorem ss_X8_all_45 {Z : zz_} (C : cx_ Z mt_X8_all 5) {r9 : Int32} {h9 : hh_} {x1 : Int32} {x2 : Int32} {x3 : Int32} {x4 : Int32} {K45_91 : Int32 → hh_ → Option (Int32 × hh_)} (Q : rq_ Z (some (.int r9)) h9) (hK45_91 : ∀ (z5 : Int32) (h8 : hh_), K45_91 z5 h8 = some (r9, h9) → xx_ Z 91 [some (.ref 98), some (.int x1), some (.int x2), some (.int x3), some (.int x4), some (.int z5), none, none] [] h8) : ∀ (n9 : Nat) (x5 : Int32) (x6 : Int32) (h : hh_), ff_X8_all_45 x1 x2 x3 x4 K45_91 n9 x5 x6 h = some (r9, h9) → xx_ Z 45 [some (.ref 98), some (.int x1), some (.int x2), some (.int x3), some (.int x4), some (.int x5), some (.int x6), none] [] h := by
  intro n9
  induction n9 with
  | zero =>
    intro x5 x6 h hf
    exact absurd hf (by rw [ff_X8_all_45]; exact nofun)
  | succ n9 ih =>
    intro x5 x6 h hf
    rw [ff_X8_all_45] at hf
    refine xx_iload C (dd_X8_all.at 26 rfl) rfl ?_
    refine xx_aload_n C (dd_X8_all.at 27 rfl) rfl (Nat.le_of_ble_eq_true rfl) ?_
    refine xx_getI (j := 11) C ck_7 (lb_ rfl) lf_RX8_144 sh_k98 rfl (dd_X8_all.at 28 rfl) ?_
    rcases ifo_ hf with ⟨hc, hf⟩ | ⟨hc, hf⟩
    · refine xx_icmp_ge_t (tgt := 91) C (dd_X8_all.at 29 rfl) (by decide) hc ?_
      exact xx_mask [true, true, true, true, true, true, false, false] (hK45_91 _ _ hf)
    · refine xx_icmp_ge_f (tgt := 91) C (dd_X8_all.at 29 rfl) (by decide) hc ?_
      refine xx_aload_n C (dd_X8_all.at 30 rfl) rfl (Nat.le_of_ble_eq_true rfl) ?_
      refine xx_iload C (dd_X8_all.at 31 rfl) rfl ?_
      refine xx_iload_n C (dd_X8_all.at 32 rfl) rfl ?_
      refine xx_iload_n C (dd_X8_all.at 33 rfl) rfl ?_
      refine xx_iload C (dd_X8_all.at 34 rfl) rfl ?_
      obtain ⟨v1, e2, hf⟩ := bdo_ hf
      refine xx_callVi C (ss_X8_padsAt (pz_ e2)) (dd_X8_all.at 35 rfl) ck_7 rfl sh_k98 kk_X8_padsAt ki_X8_padsAt lm_RX8_243 (lb_ rfl) rfl rfl (lb_ rfl) ?_
      refine xx_istore (lv' := [_, _, _, _, _, _, _, _]) C (dd_X8_all.at 36 rfl) (lb_ rfl) rfl ?_
      refine xx_iload C (dd_X8_all.at 37 rfl) rfl ?_
      refine xx_bipush C (dd_X8_all.at 38 rfl) bq_m9 ?_
      rcases ifo_ hf with ⟨hc, hf⟩ | ⟨hc, hf⟩
      · refine xx_icmp_ne_f (tgt := 76) C (dd_X8_all.at 39 rfl) (by decide) (not_not_intro hc) ?_
        refine xx_bipush C (dd_X8_all.at 40 rfl) bq_m9 ?_
        exact xx_ireturn C (rt_iwp hf Q) (dd_X8_all.at 41 rfl) rfl
      · refine xx_icmp_ne_t (tgt := 76) C (dd_X8_all.at 39 rfl) (by decide) hc ?_
        refine xx_iload C (dd_X8_all.at 42 rfl) rfl ?_
        refine xx_iload C (dd_X8_all.at 43 rfl) rfl ?_
        refine xx_callSi C (ss_X8_greater rfl) (dd_X8_all.at 44 rfl) kk_X8_greater ks_X8_greater lm_RX8_171 (lb_ rfl) rfl rfl (lb_ rfl) ?_
        refine xx_istore (lv' := [_, _, _, _, _, _, _, _]) C (dd_X8_all.at 45 rfl) (lb_ rfl) rfl ?_
        refine xx_iinc (v := _ + (1 : Int32)) (lv' := [_, _, _, _, _, _, _, _]) C (dd_X8_all.at 46 rfl) (lb_ rfl) rfl (by rw [ic_1]) rfl ?_
        refine xx_goto (tgt := 45) C (dd_X8_all.at 47 rfl) (by decide) ?_
        exact xx_mask [true, true, true, true, true, true, true, false] (ih _ _ _ hf)
theorem ss_X8_all_33 {Z : zz_} (C : cx_ Z mt_X8_all 5) {r9 : Int32} {h9 : hh_} {x1 : Int32} {x2 : Int32}  (Q : rq_ Z (some (.int r9)) h9) : ∀ (n9 : Nat) (x3 : Int32) (x4 : Int32) (h : hh_), ff_X8_all_33 x1 x2 n9 x3 x4 h = some (r9, h9) → xx_ Z 33 [some (.ref 98), some (.int x1), some (.int x2), some (.int x3), some (.int x4), none, none, none] [] h := by
  intro n9
  induction n9 with
  | zero =>
    intro x3 x4 h hf
    exact absurd hf (by rw [ff_X8_all_33]; exact nofun)
  | succ n9 ih =>
    intro x3 x4 h hf
    rw [ff_X8_all_33] at hf
    refine xx_iload C (dd_X8_all.at 19 rfl) rfl ?_
    refine xx_iconst C (dd_X8_all.at 20 rfl) ic_4 ?_
    rcases ifo_ hf with ⟨hc, hf⟩ | ⟨hc, hf⟩
    · refine xx_icmp_ge_t (tgt := 102) C (dd_X8_all.at 21 rfl) (by decide) hc ?_
      refine xx_iload_n C (dd_X8_all.at 54 rfl) rfl ?_
      exact xx_ireturn C (rt_iwp hf Q) (dd_X8_all.at 55 rfl) rfl
    · refine xx_icmp_ge_f (tgt := 102) C (dd_X8_all.at 21 rfl) (by decide) hc ?_
      refine xx_iconst C (dd_X8_all.at 22 rfl) ic_0 ?_
      refine xx_istore (lv' := [_, _, _, _, _, _, _, _]) C (dd_X8_all.at 23 rfl) (lb_ rfl) rfl ?_
      refine xx_iconst C (dd_X8_all.at 24 rfl) ic_0 ?_
      refine xx_istore (lv' := [_, _, _, _, _, _, _, _]) C (dd_X8_all.at 25 rfl) (lb_ rfl) rfl ?_
      refine xx_mask [true, true, true, true, true, true, true, false] (ss_X8_all_45 C Q (fun u3 k4 hf => ?_) _ _ _ _ hf)
      refine xx_iload_n C (dd_X8_all.at 48 rfl) rfl ?_
      refine xx_iload C (dd_X8_all.at 49 rfl) rfl ?_
      refine xx_iadd C (dd_X8_all.at 50 rfl) ?_
      refine xx_istore_n (lv' := [_, _, _, _, _, _, _, _]) C (dd_X8_all.at 51 rfl) (lb_ rfl) rfl ?_
      refine xx_iinc (v := _ + (1 : Int32)) (lv' := [_, _, _, _, _, _, _, _]) C (dd_X8_all.at 52 rfl) (lb_ rfl) rfl (by rw [ic_1]) rfl ?_
      refine xx_goto (tgt := 33) C (dd_X8_all.at 53 rfl) (by decide) ?_
      exact xx_mask [true, true, true, true, true, false, false, false] (ih _ _ _ hf)
theorem ss_X8_all {l : Launch} {G : gt_} {a1 : Int32} {a2 : Int32} {h : hh_} {r9 : Int32} {h9 : hh_}  (hf : ff_X8_all a1 a2 h = some (r9, h9)) : ok_ l G 5 mt_X8_all [.ref 98, .int a1, .int a2] h (some (.int r9)) h9 := by
  refine ok_of pn_RX8 (lb_ rfl) (fun Z _ _ C Q => ?_)
  show xx_ Z 0 [some (.ref 98), some (.int a1), some (.int a2), none, none, none, none, none] [] h
  unfold ff_X8_all at hf
  refine xx_aload_n C (dd_X8_all.at 0 rfl) rfl (Nat.le_of_ble_eq_true rfl) ?_
  refine xx_iload_n C (dd_X8_all.at 1 rfl) rfl ?_
  refine xx_callVi C (ss_X8_isHead rfl) (dd_X8_all.at 2 rfl) ck_7 rfl sh_k98 kk_X8_isHead ki_X8_isHead lm_RX8_159 (lb_ rfl) rfl rfl (lb_ rfl) ?_
  rcases ifo_ hf with ⟨hc, hf⟩ | ⟨hc, hf⟩
  · refine xx_if_eq_t (tgt := 16) C (dd_X8_all.at 3 rfl) (by decide) hc ?_
    refine xx_iconst C (dd_X8_all.at 8 rfl) ic_m1 ?_
    exact xx_ireturn C (rt_iwp hf Q) (dd_X8_all.at 9 rfl) rfl
  · refine xx_if_eq_f (tgt := 16) C (dd_X8_all.at 3 rfl) (by decide) hc ?_
    refine xx_aload_n C (dd_X8_all.at 4 rfl) rfl (Nat.le_of_ble_eq_true rfl) ?_
    refine xx_iload_n C (dd_X8_all.at 5 rfl) rfl ?_
    refine xx_callVi C (ss_X8_isPost rfl) (dd_X8_all.at 6 rfl) ck_7 rfl sh_k98 kk_X8_isPost ki_X8_isPost lm_RX8_168 (lb_ rfl) rfl rfl (lb_ rfl) ?_
    rcases ifo_ hf with ⟨hc, hf⟩ | ⟨hc, hf⟩
    · refine xx_if_ne_f (tgt := 18) C (dd_X8_all.at 7 rfl) (by decide) (not_not_intro hc) ?_
      refine xx_iconst C (dd_X8_all.at 8 rfl) ic_m1 ?_
      exact xx_ireturn C (rt_iwp hf Q) (dd_X8_all.at 9 rfl) rfl
    · refine xx_if_ne_t (tgt := 18) C (dd_X8_all.at 7 rfl) (by decide) hc ?_
      refine xx_aload_n C (dd_X8_all.at 10 rfl) rfl (Nat.le_of_ble_eq_true rfl) ?_
      refine xx_getI (j := 11) C ck_7 (lb_ rfl) lf_RX8_144 sh_k98 rfl (dd_X8_all.at 11 rfl) ?_
      rcases ifo_ hf with ⟨hc, hf⟩ | ⟨hc, hf⟩
      · refine xx_if_ne_f (tgt := 28) C (dd_X8_all.at 12 rfl) (by decide) (not_not_intro hc) ?_
        refine xx_bipush C (dd_X8_all.at 13 rfl) bq_m4 ?_
        exact xx_ireturn C (rt_iwp hf Q) (dd_X8_all.at 14 rfl) rfl
      · refine xx_if_ne_t (tgt := 28) C (dd_X8_all.at 12 rfl) (by decide) hc ?_
        refine xx_iconst C (dd_X8_all.at 15 rfl) ic_0 ?_
        refine xx_istore_n (lv' := [_, _, _, _, _, _, _, _]) C (dd_X8_all.at 16 rfl) (lb_ rfl) rfl ?_
        refine xx_iconst C (dd_X8_all.at 17 rfl) ic_0 ?_
        refine xx_istore (lv' := [_, _, _, _, _, _, _, _]) C (dd_X8_all.at 18 rfl) (lb_ rfl) rfl ?_
        exact xx_mask [true, true, true, true, true, false, false, false] (ss_X8_all_33 C Q _ _ _ _ hf)
theorem ss_X8_finds_115 {Z : zz_} (C : cx_ Z mt_X8_finds 4) {r9 : Int32} {h9 : hh_} {x1 : Int32} {x2 : Int32} {x3 : Int32} {x4 : Int32} {x5 : Int32} {h : hh_} {K115_120 : Int32 → Option (Int32 × hh_)} (Q : rq_ Z (some (.int r9)) h9) (hK115_120 : ∀ (w0 : Int32), K115_120 w0 = some (r9, h9) → xx_ Z 120 [some (.ref 98), some (.int x1), some (.int x2), some (.int x3), some (.int x4), some (.int x5), none, none, none] [.int w0] h) (hf : ff_X8_finds_115 x1 x2 x3 x4 x5 h K115_120 = some (r9, h9)) : xx_ Z 115 [some (.ref 98), some (.int x1), some (.int x2), some (.int x3), some (.int x4), some (.int x5), none, none, none] [] h := by
  unfold ff_X8_finds_115 at hf
  refine xx_iconst C (dd_X8_finds.at 68 rfl) ic_1 ?_
  refine xx_goto (tgt := 120) C (dd_X8_finds.at 69 rfl) (by decide) ?_
  exact xx_mask [true, true, true, true, true, true, false, false, false] (hK115_120 _ hf)
theorem ss_X8_finds_120 {Z : zz_} (C : cx_ Z mt_X8_finds 4) {r9 : Int32} {h9 : hh_} {x1 : Int32} {x2 : Int32} {x3 : Int32} {x4 : Int32} {x5 : Int32} {y0 : Int32} {h : hh_} {K120_50 : Int32 → Int32 → hh_ → Option (Int32 × hh_)} (Q : rq_ Z (some (.int r9)) h9) (hK120_50 : ∀ (z4 : Int32) (z5 : Int32) (h8 : hh_), K120_50 z4 z5 h8 = some (r9, h9) → xx_ Z 50 [some (.ref 98), some (.int x1), some (.int x2), some (.int x3), some (.int z4), some (.int z5), none, none, none] [] h8) (hf : ff_X8_finds_120 x1 x2 x3 x4 x5 y0 h K120_50 = some (r9, h9)) : xx_ Z 120 [some (.ref 98), some (.int x1), some (.int x2), some (.int x3), some (.int x4), some (.int x5), none, none, none] [.int y0] h := by
  unfold ff_X8_finds_120 at hf
  refine xx_istore (lv' := [_, _, _, _, _, _, _, _, _]) C (dd_X8_finds.at 71 rfl) (lb_ rfl) rfl ?_
  refine xx_aload_n C (dd_X8_finds.at 72 rfl) rfl (Nat.le_of_ble_eq_true rfl) ?_
  refine xx_getR (j := 13) (r := 105) C ck_7 (lb_ rfl) lf_RX8_32 sh_k98 rfl (lb_ rfl) rfl (dd_X8_finds.at 73 rfl) ?_
  refine xx_iconst C (dd_X8_finds.at 74 rfl) ic_5 ?_
  refine xx_iload_n C (dd_X8_finds.at 75 rfl) rfl ?_
  refine xx_imul C (dd_X8_finds.at 76 rfl) ?_
  refine xx_iload_n C (dd_X8_finds.at 77 rfl) rfl ?_
  refine xx_iadd C (dd_X8_finds.at 78 rfl) ?_
  refine xx_dup2 C (dd_X8_finds.at 79 rfl) rfl rfl ?_
  obtain ⟨g11, hf⟩ := gd_ok hf
  refine xx_iaload C (dd_X8_finds.at 80 rfl) sh_k105 (bi_ok g11) ?_
  refine xx_iconst C (dd_X8_finds.at 81 rfl) ic_1 ?_
  refine xx_isub C (dd_X8_finds.at 82 rfl) ?_
  refine xx_iastore C (dd_X8_finds.at 83 rfl) sh_k105 (bi_ok g11) ?_
  refine xx_iload C (dd_X8_finds.at 84 rfl) rfl ?_
  refine xx_iload_n C (dd_X8_finds.at 85 rfl) rfl ?_
  rcases ifo_ hf with ⟨hc, hf⟩ | ⟨hc, hf⟩
  · refine xx_icmp_eq_t (tgt := 152) C (dd_X8_finds.at 86 rfl) (by decide) hc ?_
    refine xx_iload C (dd_X8_finds.at 91 rfl) rfl ?_
    refine xx_istore (lv' := [_, _, _, _, _, _, _, _, _]) C (dd_X8_finds.at 92 rfl) (lb_ rfl) rfl ?_
    refine xx_iinc (v := _ + (-1 : Int32)) (lv' := [_, _, _, _, _, _, _, _, _]) C (dd_X8_finds.at 93 rfl) (lb_ rfl) rfl (by rw [ic_m1]) rfl ?_
    refine xx_goto (tgt := 50) C (dd_X8_finds.at 94 rfl) (by decide) ?_
    exact xx_mask [true, true, true, true, true, true, false, false, false] (hK120_50 _ _ _ hf)
  · refine xx_icmp_eq_f (tgt := 152) C (dd_X8_finds.at 86 rfl) (by decide) hc ?_
    refine xx_iload C (dd_X8_finds.at 87 rfl) rfl ?_
    rcases ifo_ hf with ⟨hc, hf⟩ | ⟨hc, hf⟩
    · refine xx_if_eq_t (tgt := 152) C (dd_X8_finds.at 88 rfl) (by decide) hc ?_
      refine xx_iload C (dd_X8_finds.at 91 rfl) rfl ?_
      refine xx_istore (lv' := [_, _, _, _, _, _, _, _, _]) C (dd_X8_finds.at 92 rfl) (lb_ rfl) rfl ?_
      refine xx_iinc (v := _ + (-1 : Int32)) (lv' := [_, _, _, _, _, _, _, _, _]) C (dd_X8_finds.at 93 rfl) (lb_ rfl) rfl (by rw [ic_m1]) rfl ?_
      refine xx_goto (tgt := 50) C (dd_X8_finds.at 94 rfl) (by decide) ?_
      exact xx_mask [true, true, true, true, true, true, false, false, false] (hK120_50 _ _ _ hf)
    · refine xx_if_eq_f (tgt := 152) C (dd_X8_finds.at 88 rfl) (by decide) hc ?_
      refine xx_iload C (dd_X8_finds.at 89 rfl) rfl ?_
      refine xx_goto (tgt := 154) C (dd_X8_finds.at 90 rfl) (by decide) ?_
      refine xx_istore (lv' := [_, _, _, _, _, _, _, _, _]) C (dd_X8_finds.at 92 rfl) (lb_ rfl) rfl ?_
      refine xx_iinc (v := _ + (-1 : Int32)) (lv' := [_, _, _, _, _, _, _, _, _]) C (dd_X8_finds.at 93 rfl) (lb_ rfl) rfl (by rw [ic_m1]) rfl ?_
      refine xx_goto (tgt := 50) C (dd_X8_finds.at 94 rfl) (by decide) ?_
      exact xx_mask [true, true, true, true, true, true, false, false, false] (hK120_50 _ _ _ hf)
theorem ss_X8_finds_50 {Z : zz_} (C : cx_ Z mt_X8_finds 4) {r9 : Int32} {h9 : hh_} {x1 : Int32} {x2 : Int32} {x3 : Int32}  (Q : rq_ Z (some (.int r9)) h9) : ∀ (n9 : Nat) (x4 : Int32) (x5 : Int32) (h : hh_), ff_X8_finds_50 x1 x2 x3 n9 x4 x5 h = some (r9, h9) → xx_ Z 50 [some (.ref 98), some (.int x1), some (.int x2), some (.int x3), some (.int x4), some (.int x5), none, none, none] [] h := by
  intro n9
  induction n9 with
  | zero =>
    intro x4 x5 h hf
    exact absurd hf (by rw [ff_X8_finds_50]; exact nofun)
  | succ n9 ih =>
    intro x4 x5 h hf
    rw [ff_X8_finds_50] at hf
    refine xx_iload C (dd_X8_finds.at 28 rfl) rfl ?_
    rcases ifo_ hf with ⟨hc, hf⟩ | ⟨hc, hf⟩
    · refine xx_if_lt_t (tgt := 162) C (dd_X8_finds.at 29 rfl) (by decide) hc ?_
      refine xx_iload C (dd_X8_finds.at 95 rfl) rfl ?_
      exact xx_ireturn C (rt_iwp hf Q) (dd_X8_finds.at 96 rfl) rfl
    · refine xx_if_lt_f (tgt := 162) C (dd_X8_finds.at 29 rfl) (by decide) hc ?_
      refine xx_aload_n C (dd_X8_finds.at 30 rfl) rfl (Nat.le_of_ble_eq_true rfl) ?_
      refine xx_iload C (dd_X8_finds.at 31 rfl) rfl ?_
      refine xx_iload_n C (dd_X8_finds.at 32 rfl) rfl ?_
      refine xx_iload_n C (dd_X8_finds.at 33 rfl) rfl ?_
      obtain ⟨v3, e4, hf⟩ := bdo_ hf
      refine xx_callVi C (ss_X8_most e4) (dd_X8_finds.at 34 rfl) ck_7 rfl sh_k98 kk_X8_most ki_X8_most lm_RX8_191 (lb_ rfl) rfl rfl (lb_ rfl) ?_
      refine xx_istore (lv' := [_, _, _, _, _, _, _, _, _]) C (dd_X8_finds.at 35 rfl) (lb_ rfl) rfl ?_
      refine xx_aload_n C (dd_X8_finds.at 36 rfl) rfl (Nat.le_of_ble_eq_true rfl) ?_
      refine xx_iload C (dd_X8_finds.at 37 rfl) rfl ?_
      refine xx_iload_n C (dd_X8_finds.at 38 rfl) rfl ?_
      refine xx_iload_n C (dd_X8_finds.at 39 rfl) rfl ?_
      obtain ⟨v5, e6, hf⟩ := bdo_ hf
      refine xx_callVi C (ss_X8_least e6) (dd_X8_finds.at 40 rfl) ck_7 rfl sh_k98 kk_X8_least ki_X8_least lm_RX8_188 (lb_ rfl) rfl rfl (lb_ rfl) ?_
      refine xx_istore (lv' := [_, _, _, _, _, _, _, _, _]) C (dd_X8_finds.at 41 rfl) (lb_ rfl) rfl ?_
      refine xx_aload_n C (dd_X8_finds.at 42 rfl) rfl (Nat.le_of_ble_eq_true rfl) ?_
      refine xx_getR (j := 13) (r := 105) C ck_7 (lb_ rfl) lf_RX8_32 sh_k98 rfl (lb_ rfl) rfl (dd_X8_finds.at 43 rfl) ?_
      refine xx_iconst C (dd_X8_finds.at 44 rfl) ic_5 ?_
      refine xx_iload_n C (dd_X8_finds.at 45 rfl) rfl ?_
      refine xx_imul C (dd_X8_finds.at 46 rfl) ?_
      refine xx_iload_n C (dd_X8_finds.at 47 rfl) rfl ?_
      refine xx_iadd C (dd_X8_finds.at 48 rfl) ?_
      refine xx_dup2 C (dd_X8_finds.at 49 rfl) rfl rfl ?_
      obtain ⟨g7, hf⟩ := gd_ok hf
      refine xx_iaload C (dd_X8_finds.at 50 rfl) sh_k105 (bi_ok g7) ?_
      refine xx_iconst C (dd_X8_finds.at 51 rfl) ic_1 ?_
      refine xx_iadd C (dd_X8_finds.at 52 rfl) ?_
      refine xx_iastore C (dd_X8_finds.at 53 rfl) sh_k105 (bi_ok g7) ?_
      refine xx_aload_n C (dd_X8_finds.at 54 rfl) rfl (Nat.le_of_ble_eq_true rfl) ?_
      refine xx_iload C (dd_X8_finds.at 55 rfl) rfl ?_
      refine xx_iload_n C (dd_X8_finds.at 56 rfl) rfl ?_
      refine xx_iload_n C (dd_X8_finds.at 57 rfl) rfl ?_
      obtain ⟨v8, e9, hf⟩ := bdo_ hf
      refine xx_callVi C (ss_X8_least e9) (dd_X8_finds.at 58 rfl) ck_7 rfl sh_k98 kk_X8_least ki_X8_least lm_RX8_188 (lb_ rfl) rfl rfl (lb_ rfl) ?_
      refine xx_iload C (dd_X8_finds.at 59 rfl) rfl ?_
      rcases ifo_ hf with ⟨hc, hf⟩ | ⟨hc, hf⟩
      · refine xx_icmp_gt_t (tgt := 115) C (dd_X8_finds.at 60 rfl) (by decide) hc ?_
        refine xx_mask [true, true, true, true, true, true, false, false, false] (ss_X8_finds_115 C Q (fun q10 hf => ?_) hf)
        exact xx_mask [true, true, true, true, true, true, false, false, false] (ss_X8_finds_120 C Q (fun _ _ _ hf => ih _ _ _ hf) hf)
      · refine xx_icmp_gt_f (tgt := 115) C (dd_X8_finds.at 60 rfl) (by decide) hc ?_
        refine xx_aload_n C (dd_X8_finds.at 61 rfl) rfl (Nat.le_of_ble_eq_true rfl) ?_
        refine xx_iload C (dd_X8_finds.at 62 rfl) rfl ?_
        refine xx_iload_n C (dd_X8_finds.at 63 rfl) rfl ?_
        refine xx_iload_n C (dd_X8_finds.at 64 rfl) rfl ?_
        obtain ⟨v12, e13, hf⟩ := bdo_ hf
        refine xx_callVi C (ss_X8_most e13) (dd_X8_finds.at 65 rfl) ck_7 rfl sh_k98 kk_X8_most ki_X8_most lm_RX8_191 (lb_ rfl) rfl rfl (lb_ rfl) ?_
        refine xx_iload C (dd_X8_finds.at 66 rfl) rfl ?_
        rcases ifo_ hf with ⟨hc, hf⟩ | ⟨hc, hf⟩
        · refine xx_icmp_ge_t (tgt := 119) C (dd_X8_finds.at 67 rfl) (by decide) hc ?_
          refine xx_iconst C (dd_X8_finds.at 70 rfl) ic_0 ?_
          exact xx_mask [true, true, true, true, true, true, false, false, false] (ss_X8_finds_120 C Q (fun _ _ _ hf => ih _ _ _ hf) hf)
        · refine xx_icmp_ge_f (tgt := 119) C (dd_X8_finds.at 67 rfl) (by decide) hc ?_
          refine xx_mask [true, true, true, true, true, true, false, false, false] (ss_X8_finds_115 C Q (fun q14 hf => ?_) hf)
          exact xx_mask [true, true, true, true, true, true, false, false, false] (ss_X8_finds_120 C Q (fun _ _ _ hf => ih _ _ _ hf) hf)
theorem ss_X8_finds {l : Launch} {G : gt_} {a1 : Int32} {a2 : Int32} {a3 : Int32} {h : hh_} {r9 : Int32} {h9 : hh_}  (hf : ff_X8_finds a1 a2 a3 h = some (r9, h9)) : ok_ l G 4 mt_X8_finds [.ref 98, .int a1, .int a2, .int a3] h (some (.int r9)) h9 := by
  refine ok_of pn_RX8 (lb_ rfl) (fun Z _ _ C Q => ?_)
  show xx_ Z 0 [some (.ref 98), some (.int a1), some (.int a2), some (.int a3), none, none, none, none, none] [] h
  unfold ff_X8_finds at hf
  refine xx_aload_n C (dd_X8_finds.at 0 rfl) rfl (Nat.le_of_ble_eq_true rfl) ?_
  refine xx_iload_n C (dd_X8_finds.at 1 rfl) rfl ?_
  refine xx_callVi C (ss_X8_isThumb rfl) (dd_X8_finds.at 2 rfl) ck_7 rfl sh_k98 kk_X8_isThumb ki_X8_isThumb lm_RX8_165 (lb_ rfl) rfl rfl (lb_ rfl) ?_
  rcases ifo_ hf with ⟨hc, hf⟩ | ⟨hc, hf⟩
  · refine xx_if_eq_t (tgt := 23) C (dd_X8_finds.at 3 rfl) (by decide) hc ?_
    refine xx_iconst C (dd_X8_finds.at 11 rfl) ic_m1 ?_
    exact xx_ireturn C (rt_iwp hf Q) (dd_X8_finds.at 12 rfl) rfl
  · refine xx_if_eq_f (tgt := 23) C (dd_X8_finds.at 3 rfl) (by decide) hc ?_
    refine xx_aload_n C (dd_X8_finds.at 4 rfl) rfl (Nat.le_of_ble_eq_true rfl) ?_
    refine xx_iload_n C (dd_X8_finds.at 5 rfl) rfl ?_
    refine xx_callVi C (ss_X8_isHead rfl) (dd_X8_finds.at 6 rfl) ck_7 rfl sh_k98 kk_X8_isHead ki_X8_isHead lm_RX8_159 (lb_ rfl) rfl rfl (lb_ rfl) ?_
    rcases ifo_ hf with ⟨hc, hf⟩ | ⟨hc, hf⟩
    · refine xx_if_eq_t (tgt := 23) C (dd_X8_finds.at 7 rfl) (by decide) hc ?_
      refine xx_iconst C (dd_X8_finds.at 11 rfl) ic_m1 ?_
      exact xx_ireturn C (rt_iwp hf Q) (dd_X8_finds.at 12 rfl) rfl
    · refine xx_if_eq_f (tgt := 23) C (dd_X8_finds.at 7 rfl) (by decide) hc ?_
      refine xx_iload_n C (dd_X8_finds.at 8 rfl) rfl ?_
      refine xx_callSi C (ss_X8_isPlace rfl) (dd_X8_finds.at 9 rfl) kk_X8_isPlace ks_X8_isPlace lm_RX8_205 (lb_ rfl) rfl rfl (lb_ rfl) ?_
      rcases ifo_ hf with ⟨hc, hf⟩ | ⟨hc, hf⟩
      · refine xx_if_ne_f (tgt := 25) C (dd_X8_finds.at 10 rfl) (by decide) (not_not_intro hc) ?_
        refine xx_iconst C (dd_X8_finds.at 11 rfl) ic_m1 ?_
        exact xx_ireturn C (rt_iwp hf Q) (dd_X8_finds.at 12 rfl) rfl
      · refine xx_if_ne_t (tgt := 25) C (dd_X8_finds.at 10 rfl) (by decide) hc ?_
        refine xx_aload_n C (dd_X8_finds.at 13 rfl) rfl (Nat.le_of_ble_eq_true rfl) ?_
        refine xx_iload_n C (dd_X8_finds.at 14 rfl) rfl ?_
        refine xx_iload_n C (dd_X8_finds.at 15 rfl) rfl ?_
        obtain ⟨v1, e2, hf⟩ := bdo_ hf
        refine xx_callVi C (ss_X8_bump e2) (dd_X8_finds.at 16 rfl) ck_7 rfl sh_k98 kk_X8_bump ki_X8_bump lm_RX8_153 (lb_ rfl) rfl rfl (lb_ rfl) ?_
        refine xx_iconst C (dd_X8_finds.at 17 rfl) ic_5 ?_
        rcases ifo_ hf with ⟨hc, hf⟩ | ⟨hc, hf⟩
        · refine xx_icmp_ne_f (tgt := 38) C (dd_X8_finds.at 18 rfl) (by decide) (not_not_intro hc) ?_
          refine xx_bipush C (dd_X8_finds.at 19 rfl) bq_m4 ?_
          exact xx_ireturn C (rt_iwp hf Q) (dd_X8_finds.at 20 rfl) rfl
        · refine xx_icmp_ne_t (tgt := 38) C (dd_X8_finds.at 18 rfl) (by decide) hc ?_
          refine xx_bipush C (dd_X8_finds.at 21 rfl) bq_m9 ?_
          refine xx_istore (lv' := [_, _, _, _, _, _, _, _, _]) C (dd_X8_finds.at 22 rfl) (lb_ rfl) rfl ?_
          refine xx_aload_n C (dd_X8_finds.at 23 rfl) rfl (Nat.le_of_ble_eq_true rfl) ?_
          refine xx_getI (j := 11) C ck_7 (lb_ rfl) lf_RX8_144 sh_k98 rfl (dd_X8_finds.at 24 rfl) ?_
          refine xx_iconst C (dd_X8_finds.at 25 rfl) ic_1 ?_
          refine xx_isub C (dd_X8_finds.at 26 rfl) ?_
          refine xx_istore (lv' := [_, _, _, _, _, _, _, _, _]) C (dd_X8_finds.at 27 rfl) (lb_ rfl) rfl ?_
          exact xx_mask [true, true, true, true, true, true, false, false, false] (ss_X8_finds_50 C Q _ _ _ _ hf)
theorem ss_X8_posts_56 {Z : zz_} (C : cx_ Z mt_X8_posts 5) {r9 : Int32} {h9 : hh_} {x1 : Int32} {x2 : Int32} {x4 : Int32} {x5 : Int32} {y0 : Int32} {y1 : Int32} {h : hh_} {K56_26 : Int32 → Int32 → Int32 → Option (Int32 × hh_)} (Q : rq_ Z (some (.int r9)) h9) (hK56_26 : ∀ (z3 : Int32) (z4 : Int32) (z5 : Int32), K56_26 z3 z4 z5 = some (r9, h9) → xx_ Z 26 [some (.ref 98), some (.int x1), some (.int x2), some (.int z3), some (.int z4), some (.int z5)] [] h) (hf : ff_X8_posts_56 x1 x2 x4 x5 y0 y1 h K56_26 = some (r9, h9)) : xx_ Z 56 [some (.ref 98), some (.int x1), some (.int x2), none, some (.int x4), some (.int x5)] [.int y1, .int y0] h := by
  unfold ff_X8_posts_56 at hf
  refine xx_ior C (dd_X8_posts.at 33 rfl) ?_
  refine xx_istore_n (lv' := [_, _, _, _, _, _]) C (dd_X8_posts.at 34 rfl) (lb_ rfl) rfl ?_
  refine xx_iload C (dd_X8_posts.at 35 rfl) rfl ?_
  refine xx_aload_n C (dd_X8_posts.at 36 rfl) rfl (Nat.le_of_ble_eq_true rfl) ?_
  refine xx_iload_n C (dd_X8_posts.at 37 rfl) rfl ?_
  refine xx_iload_n C (dd_X8_posts.at 38 rfl) rfl ?_
  refine xx_iload C (dd_X8_posts.at 39 rfl) rfl ?_
  obtain ⟨v3, e4, hf⟩ := bdo_ hf
  refine xx_callVi C (ss_X8_suitsOf e4) (dd_X8_posts.at 40 rfl) ck_7 rfl sh_k98 kk_X8_suitsOf ki_X8_suitsOf lm_RX8_240 (lb_ rfl) rfl rfl (lb_ rfl) ?_
  rcases ifo_ hf with ⟨hc, hf⟩ | ⟨hc, hf⟩
  · refine xx_if_le_t (tgt := 78) C (dd_X8_posts.at 41 rfl) (by decide) hc ?_
    refine xx_iconst C (dd_X8_posts.at 46 rfl) ic_0 ?_
    refine xx_ior C (dd_X8_posts.at 47 rfl) ?_
    refine xx_istore (lv' := [_, _, _, _, _, _]) C (dd_X8_posts.at 48 rfl) (lb_ rfl) rfl ?_
    refine xx_iinc (v := _ + (1 : Int32)) (lv' := [_, _, _, _, _, _]) C (dd_X8_posts.at 49 rfl) (lb_ rfl) rfl (by rw [ic_1]) rfl ?_
    refine xx_goto (tgt := 26) C (dd_X8_posts.at 50 rfl) (by decide) ?_
    exact xx_mask [true, true, true, true, true, true] (hK56_26 _ _ _ hf)
  · refine xx_if_le_f (tgt := 78) C (dd_X8_posts.at 41 rfl) (by decide) hc ?_
    refine xx_iconst C (dd_X8_posts.at 42 rfl) ic_1 ?_
    refine xx_iload C (dd_X8_posts.at 43 rfl) rfl ?_
    refine xx_ishl C (dd_X8_posts.at 44 rfl) ?_
    refine xx_goto (tgt := 79) C (dd_X8_posts.at 45 rfl) (by decide) ?_
    refine xx_ior C (dd_X8_posts.at 47 rfl) ?_
    refine xx_istore (lv' := [_, _, _, _, _, _]) C (dd_X8_posts.at 48 rfl) (lb_ rfl) rfl ?_
    refine xx_iinc (v := _ + (1 : Int32)) (lv' := [_, _, _, _, _, _]) C (dd_X8_posts.at 49 rfl) (lb_ rfl) rfl (by rw [ic_1]) rfl ?_
    refine xx_goto (tgt := 26) C (dd_X8_posts.at 50 rfl) (by decide) ?_
    exact xx_mask [true, true, true, true, true, true] (hK56_26 _ _ _ hf)
theorem ss_X8_posts_26 {Z : zz_} (C : cx_ Z mt_X8_posts 5) {r9 : Int32} {h9 : hh_} {x1 : Int32} {x2 : Int32} {h : hh_}  (Q : rq_ Z (some (.int r9)) h9) : ∀ (n9 : Nat) (x3 : Int32) (x4 : Int32) (x5 : Int32), ff_X8_posts_26 x1 x2 h n9 x3 x4 x5 = some (r9, h9) → xx_ Z 26 [some (.ref 98), some (.int x1), some (.int x2), some (.int x3), some (.int x4), some (.int x5)] [] h := by
  intro n9
  induction n9 with
  | zero =>
    intro x3 x4 x5 hf
    exact absurd hf (by rw [ff_X8_posts_26]; exact nofun)
  | succ n9 ih =>
    intro x3 x4 x5 hf
    rw [ff_X8_posts_26] at hf
    refine xx_iload C (dd_X8_posts.at 16 rfl) rfl ?_
    refine xx_aload_n C (dd_X8_posts.at 17 rfl) rfl (Nat.le_of_ble_eq_true rfl) ?_
    refine xx_getI (j := 12) C ck_7 (lb_ rfl) lf_RX8_147 sh_k98 rfl (dd_X8_posts.at 18 rfl) ?_
    rcases ifo_ hf with ⟨hc, hf⟩ | ⟨hc, hf⟩
    · refine xx_icmp_ge_t (tgt := 88) C (dd_X8_posts.at 19 rfl) (by decide) hc ?_
      refine xx_aload_n C (dd_X8_posts.at 51 rfl) rfl (Nat.le_of_ble_eq_true rfl) ?_
      refine xx_iload C (dd_X8_posts.at 52 rfl) rfl ?_
      refine xx_iload_n C (dd_X8_posts.at 53 rfl) rfl ?_
      refine xx_callVi C (ss_X8_ask pe_) (dd_X8_posts.at 54 rfl) ck_7 rfl sh_k98 kk_X8_ask ki_X8_ask lm_RX8_98 (lb_ rfl) rfl rfl (lb_ rfl) ?_
      exact xx_ireturn C (rt_iwp hf Q) (dd_X8_posts.at 55 rfl) rfl
    · refine xx_icmp_ge_f (tgt := 88) C (dd_X8_posts.at 19 rfl) (by decide) hc ?_
      refine xx_iload_n C (dd_X8_posts.at 20 rfl) rfl ?_
      refine xx_aload_n C (dd_X8_posts.at 21 rfl) rfl (Nat.le_of_ble_eq_true rfl) ?_
      refine xx_iload_n C (dd_X8_posts.at 22 rfl) rfl ?_
      refine xx_iload_n C (dd_X8_posts.at 23 rfl) rfl ?_
      refine xx_iload C (dd_X8_posts.at 24 rfl) rfl ?_
      obtain ⟨v1, e2, hf⟩ := bdo_ hf
      refine xx_callVi C (ss_X8_suitsOf e2) (dd_X8_posts.at 25 rfl) ck_7 rfl sh_k98 kk_X8_suitsOf ki_X8_suitsOf lm_RX8_240 (lb_ rfl) rfl rfl (lb_ rfl) ?_
      refine xx_iconst C (dd_X8_posts.at 26 rfl) ic_2 ?_
      rcases ifo_ hf with ⟨hc, hf⟩ | ⟨hc, hf⟩
      · refine xx_icmp_ne_f (tgt := 55) C (dd_X8_posts.at 27 rfl) (by decide) (not_not_intro hc) ?_
        refine xx_iconst C (dd_X8_posts.at 28 rfl) ic_1 ?_
        refine xx_iload C (dd_X8_posts.at 29 rfl) rfl ?_
        refine xx_ishl C (dd_X8_posts.at 30 rfl) ?_
        refine xx_goto (tgt := 56) C (dd_X8_posts.at 31 rfl) (by decide) ?_
        exact xx_mask [true, true, true, false, true, true] (ss_X8_posts_56 C Q (fun _ _ _ hf => ih _ _ _ hf) hf)
      · refine xx_icmp_ne_t (tgt := 55) C (dd_X8_posts.at 27 rfl) (by decide) hc ?_
        refine xx_iconst C (dd_X8_posts.at 32 rfl) ic_0 ?_
        exact xx_mask [true, true, true, false, true, true] (ss_X8_posts_56 C Q (fun _ _ _ hf => ih _ _ _ hf) hf)
theorem ss_X8_posts {l : Launch} {G : gt_} {a1 : Int32} {a2 : Int32} {h : hh_} {r9 : Int32} {h9 : hh_}  (hf : ff_X8_posts a1 a2 h = some (r9, h9)) : ok_ l G 5 mt_X8_posts [.ref 98, .int a1, .int a2] h (some (.int r9)) h9 := by
  refine ok_of pn_RX8 (lb_ rfl) (fun Z _ _ C Q => ?_)
  show xx_ Z 0 [some (.ref 98), some (.int a1), some (.int a2), none, none, none] [] h
  unfold ff_X8_posts at hf
  refine xx_aload_n C (dd_X8_posts.at 0 rfl) rfl (Nat.le_of_ble_eq_true rfl) ?_
  refine xx_iload_n C (dd_X8_posts.at 1 rfl) rfl ?_
  refine xx_callVi C (ss_X8_isThumb rfl) (dd_X8_posts.at 2 rfl) ck_7 rfl sh_k98 kk_X8_isThumb ki_X8_isThumb lm_RX8_165 (lb_ rfl) rfl rfl (lb_ rfl) ?_
  rcases ifo_ hf with ⟨hc, hf⟩ | ⟨hc, hf⟩
  · refine xx_if_eq_t (tgt := 16) C (dd_X8_posts.at 3 rfl) (by decide) hc ?_
    refine xx_iconst C (dd_X8_posts.at 8 rfl) ic_m1 ?_
    exact xx_ireturn C (rt_iwp hf Q) (dd_X8_posts.at 9 rfl) rfl
  · refine xx_if_eq_f (tgt := 16) C (dd_X8_posts.at 3 rfl) (by decide) hc ?_
    refine xx_aload_n C (dd_X8_posts.at 4 rfl) rfl (Nat.le_of_ble_eq_true rfl) ?_
    refine xx_iload_n C (dd_X8_posts.at 5 rfl) rfl ?_
    refine xx_callVi C (ss_X8_isHead rfl) (dd_X8_posts.at 6 rfl) ck_7 rfl sh_k98 kk_X8_isHead ki_X8_isHead lm_RX8_159 (lb_ rfl) rfl rfl (lb_ rfl) ?_
    rcases ifo_ hf with ⟨hc, hf⟩ | ⟨hc, hf⟩
    · refine xx_if_ne_f (tgt := 18) C (dd_X8_posts.at 7 rfl) (by decide) (not_not_intro hc) ?_
      refine xx_iconst C (dd_X8_posts.at 8 rfl) ic_m1 ?_
      exact xx_ireturn C (rt_iwp hf Q) (dd_X8_posts.at 9 rfl) rfl
    · refine xx_if_ne_t (tgt := 18) C (dd_X8_posts.at 7 rfl) (by decide) hc ?_
      refine xx_iconst C (dd_X8_posts.at 10 rfl) ic_0 ?_
      refine xx_istore_n (lv' := [_, _, _, _, _, _]) C (dd_X8_posts.at 11 rfl) (lb_ rfl) rfl ?_
      refine xx_iconst C (dd_X8_posts.at 12 rfl) ic_0 ?_
      refine xx_istore (lv' := [_, _, _, _, _, _]) C (dd_X8_posts.at 13 rfl) (lb_ rfl) rfl ?_
      refine xx_iconst C (dd_X8_posts.at 14 rfl) ic_0 ?_
      refine xx_istore (lv' := [_, _, _, _, _, _]) C (dd_X8_posts.at 15 rfl) (lb_ rfl) rfl ?_
      exact xx_mask [true, true, true, true, true, true] (ss_X8_posts_26 C Q _ _ _ _ hf)
