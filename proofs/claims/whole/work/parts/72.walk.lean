theorem ss_X8_reads {l : Launch} {G : gt_} {a1 : Int32} {a2 : Int32} {a3 : Int32} {h : hh_} {r9 : Int32} {h9 : hh_}  (hf : ff_X8_reads a1 a2 a3 h = some (r9, h9)) : ok_ l G 4 mt_X8_reads [.ref 98, .int a1, .int a2, .int a3] h (some (.int r9)) h9 := by
  refine ok_of pn_RX8 (lb_ rfl) (fun Z _ _ C Q => ?_)
  show xx_ Z 0 [some (.ref 98), some (.int a1), some (.int a2), some (.int a3)] [] h
  unfold ff_X8_reads at hf
  refine xx_aload_n C (dd_X8_reads.at 0 rfl) rfl (Nat.le_of_ble_eq_true rfl) ?_
  refine xx_iload_n C (dd_X8_reads.at 1 rfl) rfl ?_
  refine xx_callVi C (ss_X8_isThumb rfl) (dd_X8_reads.at 2 rfl) ck_7 rfl sh_k98 kk_X8_isThumb ki_X8_isThumb lm_RX8_165 (lb_ rfl) rfl rfl (lb_ rfl) ?_
  rcases ifo_ hf with ⟨hc, hf⟩ | ⟨hc, hf⟩
  · refine xx_if_eq_t (tgt := 44) C (dd_X8_reads.at 3 rfl) (by decide) hc ?_
    refine xx_iconst C (dd_X8_reads.at 24 rfl) ic_m1 ?_
    exact xx_ireturn C (rt_iwp hf Q) (dd_X8_reads.at 25 rfl) rfl
  · refine xx_if_eq_f (tgt := 44) C (dd_X8_reads.at 3 rfl) (by decide) hc ?_
    refine xx_aload_n C (dd_X8_reads.at 4 rfl) rfl (Nat.le_of_ble_eq_true rfl) ?_
    refine xx_iload_n C (dd_X8_reads.at 5 rfl) rfl ?_
    refine xx_callVi C (ss_X8_isHead rfl) (dd_X8_reads.at 6 rfl) ck_7 rfl sh_k98 kk_X8_isHead ki_X8_isHead lm_RX8_159 (lb_ rfl) rfl rfl (lb_ rfl) ?_
    rcases ifo_ hf with ⟨hc, hf⟩ | ⟨hc, hf⟩
    · refine xx_if_eq_t (tgt := 44) C (dd_X8_reads.at 7 rfl) (by decide) hc ?_
      refine xx_iconst C (dd_X8_reads.at 24 rfl) ic_m1 ?_
      exact xx_ireturn C (rt_iwp hf Q) (dd_X8_reads.at 25 rfl) rfl
    · refine xx_if_eq_f (tgt := 44) C (dd_X8_reads.at 7 rfl) (by decide) hc ?_
      refine xx_iload_n C (dd_X8_reads.at 8 rfl) rfl ?_
      refine xx_callSi C (ss_X8_isPlace rfl) (dd_X8_reads.at 9 rfl) kk_X8_isPlace ks_X8_isPlace lm_RX8_205 (lb_ rfl) rfl rfl (lb_ rfl) ?_
      rcases ifo_ hf with ⟨hc, hf⟩ | ⟨hc, hf⟩
      · refine xx_if_eq_t (tgt := 44) C (dd_X8_reads.at 10 rfl) (by decide) hc ?_
        refine xx_iconst C (dd_X8_reads.at 24 rfl) ic_m1 ?_
        exact xx_ireturn C (rt_iwp hf Q) (dd_X8_reads.at 25 rfl) rfl
      · refine xx_if_eq_f (tgt := 44) C (dd_X8_reads.at 10 rfl) (by decide) hc ?_
        refine xx_aload_n C (dd_X8_reads.at 11 rfl) rfl (Nat.le_of_ble_eq_true rfl) ?_
        refine xx_aload_n C (dd_X8_reads.at 12 rfl) rfl (Nat.le_of_ble_eq_true rfl) ?_
        refine xx_iload_n C (dd_X8_reads.at 13 rfl) rfl ?_
        refine xx_iload_n C (dd_X8_reads.at 14 rfl) rfl ?_
        refine xx_iload_n C (dd_X8_reads.at 15 rfl) rfl ?_
        obtain ⟨v1, e2, hf⟩ := bdo_ hf
        refine xx_callVi C (ss_X8_most e2) (dd_X8_reads.at 16 rfl) ck_7 rfl sh_k98 kk_X8_most ki_X8_most lm_RX8_191 (lb_ rfl) rfl rfl (lb_ rfl) ?_
        refine xx_aload_n C (dd_X8_reads.at 17 rfl) rfl (Nat.le_of_ble_eq_true rfl) ?_
        refine xx_iload_n C (dd_X8_reads.at 18 rfl) rfl ?_
        refine xx_iload_n C (dd_X8_reads.at 19 rfl) rfl ?_
        refine xx_iload_n C (dd_X8_reads.at 20 rfl) rfl ?_
        obtain ⟨v3, e4, hf⟩ := bdo_ hf
        refine xx_callVi C (ss_X8_least e4) (dd_X8_reads.at 21 rfl) ck_7 rfl sh_k98 kk_X8_least ki_X8_least lm_RX8_188 (lb_ rfl) rfl rfl (lb_ rfl) ?_
        refine xx_callVi C (ss_X8_ask pe_) (dd_X8_reads.at 22 rfl) ck_7 rfl sh_k98 kk_X8_ask ki_X8_ask lm_RX8_98 (lb_ rfl) rfl rfl (lb_ rfl) ?_
        refine xx_goto (tgt := 45) C (dd_X8_reads.at 23 rfl) (by decide) ?_
        exact xx_ireturn C (rt_iwp hf Q) (dd_X8_reads.at 25 rfl) rfl
theorem ss_X8_askedReading_30 {Z : zz_} (C : cx_ Z mt_X8_askedReading 3) {r9 : Int32} {h9 : hh_} {x1 : Int32} {h : hh_}  (Q : rq_ Z (some (.int r9)) h9) : ∀ (n9 : Nat) (x3 : Int32), ff_X8_askedReading_30 x1 h n9 x3 = some (r9, h9) → xx_ Z 30 [some (.ref 98), some (.int x1), none, some (.int x3)] [] h := by
  intro n9
  induction n9 with
  | zero =>
    intro x3 hf
    exact absurd hf (by rw [ff_X8_askedReading_30]; exact nofun)
  | succ n9 ih =>
    intro x3 hf
    rw [ff_X8_askedReading_30] at hf
    refine xx_iload_n C (dd_X8_askedReading.at 20 rfl) rfl ?_
    refine xx_iconst C (dd_X8_askedReading.at 21 rfl) ic_4 ?_
    rcases ifo_ hf with ⟨hc, hf⟩ | ⟨hc, hf⟩
    · refine xx_icmp_ge_t (tgt := 62) C (dd_X8_askedReading.at 22 rfl) (by decide) hc ?_
      refine xx_iconst C (dd_X8_askedReading.at 37 rfl) ic_0 ?_
      exact xx_ireturn C (rt_iwp hf Q) (dd_X8_askedReading.at 38 rfl) rfl
    · refine xx_icmp_ge_f (tgt := 62) C (dd_X8_askedReading.at 22 rfl) (by decide) hc ?_
      refine xx_aload_n C (dd_X8_askedReading.at 23 rfl) rfl (Nat.le_of_ble_eq_true rfl) ?_
      refine xx_iload_n C (dd_X8_askedReading.at 24 rfl) rfl ?_
      refine xx_iload_n C (dd_X8_askedReading.at 25 rfl) rfl ?_
      obtain ⟨v4, e5, hf⟩ := bdo_ hf
      refine xx_callVi C (ss_X8_rowAt e5) (dd_X8_askedReading.at 26 rfl) ck_7 rfl sh_k98 kk_X8_rowAt ki_X8_rowAt lm_RX8_94 (lb_ rfl) rfl rfl (lb_ rfl) ?_
      refine xx_iconst C (dd_X8_askedReading.at 27 rfl) ic_0 ?_
      refine xx_bipush C (dd_X8_askedReading.at 28 rfl) bq_9 ?_
      refine xx_callSi C (ss_X8_in rfl) (dd_X8_askedReading.at 29 rfl) kk_X8_in ks_X8_in lm_RX8_72 (lb_ rfl) rfl rfl (lb_ rfl) ?_
      rcases ifo_ hf with ⟨hc, hf⟩ | ⟨hc, hf⟩
      · refine xx_if_ne_f (tgt := 56) C (dd_X8_askedReading.at 30 rfl) (by decide) (not_not_intro hc) ?_
        refine xx_aload_n C (dd_X8_askedReading.at 31 rfl) rfl (Nat.le_of_ble_eq_true rfl) ?_
        refine xx_iconst C (dd_X8_askedReading.at 32 rfl) ic_3 ?_
        obtain ⟨v6, e7, hf⟩ := bdo_ hf
        refine xx_callVi C (ss_X8_meet (pz_ e7)) (dd_X8_askedReading.at 33 rfl) ck_7 rfl sh_k98 kk_X8_meet ki_X8_meet lm_RX8_80 (lb_ rfl) rfl rfl (lb_ rfl) ?_
        exact xx_ireturn C (rt_iwp hf Q) (dd_X8_askedReading.at 34 rfl) rfl
      · refine xx_if_ne_t (tgt := 56) C (dd_X8_askedReading.at 30 rfl) (by decide) hc ?_
        refine xx_iinc (v := _ + (1 : Int32)) (lv' := [_, _, _, _]) C (dd_X8_askedReading.at 35 rfl) (lb_ rfl) rfl (by rw [ic_1]) rfl ?_
        refine xx_goto (tgt := 30) C (dd_X8_askedReading.at 36 rfl) (by decide) ?_
        exact xx_mask [true, true, false, true] (ih _ hf)
theorem ss_X8_askedReading {l : Launch} {G : gt_} {a1 : Int32} {h : hh_} {r9 : Int32} {h9 : hh_}  (hf : ff_X8_askedReading a1 h = some (r9, h9)) : ok_ l G 3 mt_X8_askedReading [.ref 98, .int a1] h (some (.int r9)) h9 := by
  refine ok_of pn_RX8 (lb_ rfl) (fun Z _ _ C Q => ?_)
  show xx_ Z 0 [some (.ref 98), some (.int a1), none, none] [] h
  unfold ff_X8_askedReading at hf
  refine xx_aload_n C (dd_X8_askedReading.at 0 rfl) rfl (Nat.le_of_ble_eq_true rfl) ?_
  refine xx_iload_n C (dd_X8_askedReading.at 1 rfl) rfl ?_
  obtain ⟨v1, e2, hf⟩ := bdo_ hf
  refine xx_callVi C (ss_X8_askedRow (pz_ e2)) (dd_X8_askedReading.at 2 rfl) ck_7 rfl sh_k98 kk_X8_askedRow ki_X8_askedRow lm_RX8_91 (lb_ rfl) rfl rfl (lb_ rfl) ?_
  refine xx_istore_n (lv' := [_, _, _, _]) C (dd_X8_askedReading.at 3 rfl) (lb_ rfl) rfl ?_
  refine xx_iload_n C (dd_X8_askedReading.at 4 rfl) rfl ?_
  rcases ifo_ hf with ⟨hc, hf⟩ | ⟨hc, hf⟩
  · refine xx_if_ge_t (tgt := 12) C (dd_X8_askedReading.at 5 rfl) (by decide) hc ?_
    refine xx_aload_n C (dd_X8_askedReading.at 8 rfl) rfl (Nat.le_of_ble_eq_true rfl) ?_
    refine xx_getR (j := 5) (r := 100) C ck_7 (lb_ rfl) lf_RX8_17 sh_k98 rfl (lb_ rfl) rfl (dd_X8_askedReading.at 9 rfl) ?_
    refine xx_iload_n C (dd_X8_askedReading.at 10 rfl) rfl ?_
    obtain ⟨g3, hf⟩ := gd_ok hf
    refine xx_iaload C (dd_X8_askedReading.at 11 rfl) sh_k100 (bi_ok g3) ?_
    refine xx_iconst C (dd_X8_askedReading.at 12 rfl) ic_4 ?_
    rcases ifo_ hf with ⟨hc, hf⟩ | ⟨hc, hf⟩
    · refine xx_icmp_eq_t (tgt := 28) C (dd_X8_askedReading.at 13 rfl) (by decide) hc ?_
      refine xx_iconst C (dd_X8_askedReading.at 18 rfl) ic_0 ?_
      refine xx_istore_n (lv' := [_, _, _, _]) C (dd_X8_askedReading.at 19 rfl) (lb_ rfl) rfl ?_
      exact xx_mask [true, true, false, true] (ss_X8_askedReading_30 C Q _ _ hf)
    · refine xx_icmp_eq_f (tgt := 28) C (dd_X8_askedReading.at 13 rfl) (by decide) hc ?_
      refine xx_aload_n C (dd_X8_askedReading.at 14 rfl) rfl (Nat.le_of_ble_eq_true rfl) ?_
      refine xx_iconst C (dd_X8_askedReading.at 15 rfl) ic_5 ?_
      obtain ⟨v8, e9, hf⟩ := bdo_ hf
      refine xx_callVi C (ss_X8_meet (pz_ e9)) (dd_X8_askedReading.at 16 rfl) ck_7 rfl sh_k98 kk_X8_meet ki_X8_meet lm_RX8_80 (lb_ rfl) rfl rfl (lb_ rfl) ?_
      exact xx_ireturn C (rt_iwp hf Q) (dd_X8_askedReading.at 17 rfl) rfl
  · refine xx_if_ge_f (tgt := 12) C (dd_X8_askedReading.at 5 rfl) (by decide) hc ?_
    refine xx_iload_n C (dd_X8_askedReading.at 6 rfl) rfl ?_
    exact xx_ireturn C (rt_iwp hf Q) (dd_X8_askedReading.at 7 rfl) rfl
theorem ss_X8_doesFit_6 {Z : zz_} (C : cx_ Z mt_X8_doesFit 4) {r9 : Int32} {x1 : Int32} {x2 : Int32} {x3 : Int32} {h : hh_}  (Q : rq_ Z (some (.int r9)) h) : ∀ (n9 : Nat) (x4 : Int32) (x5 : Int32), ff_X8_doesFit_6 x1 x2 x3 h n9 x4 x5 = some r9 → xx_ Z 6 [some (.ref 98), some (.int x1), some (.int x2), some (.int x3), some (.int x4), some (.int x5)] [] h := by
  intro n9
  induction n9 with
  | zero =>
    intro x4 x5 hf
    exact absurd hf (by rw [ff_X8_doesFit_6]; exact nofun)
  | succ n9 ih =>
    intro x4 x5 hf
    rw [ff_X8_doesFit_6] at hf
    refine xx_iload C (dd_X8_doesFit.at 4 rfl) rfl ?_
    refine xx_iconst C (dd_X8_doesFit.at 5 rfl) ic_4 ?_
    rcases ifo_ hf with ⟨hc, hf⟩ | ⟨hc, hf⟩
    · refine xx_icmp_ge_t (tgt := 59) C (dd_X8_doesFit.at 6 rfl) (by decide) hc ?_
      refine xx_iload C (dd_X8_doesFit.at 31 rfl) rfl ?_
      obtain ⟨g1, hf⟩ := gd_ok hf
      exact xx_zreturn C (rt_ip hf Q) (dd_X8_doesFit.at 32 rfl) rfl (bz_ok g1)
    · refine xx_icmp_ge_f (tgt := 59) C (dd_X8_doesFit.at 6 rfl) (by decide) hc ?_
      refine xx_iload C (dd_X8_doesFit.at 7 rfl) rfl ?_
      rcases ifo_ hf with ⟨hc, hf⟩ | ⟨hc, hf⟩
      · refine xx_if_eq_t (tgt := 50) C (dd_X8_doesFit.at 8 rfl) (by decide) hc ?_
        refine xx_iconst C (dd_X8_doesFit.at 27 rfl) ic_0 ?_
        refine xx_istore (lv' := [_, _, _, _, _, _]) C (dd_X8_doesFit.at 28 rfl) (lb_ rfl) rfl ?_
        refine xx_iinc (v := _ + (1 : Int32)) (lv' := [_, _, _, _, _, _]) C (dd_X8_doesFit.at 29 rfl) (lb_ rfl) rfl (by rw [ic_1]) rfl ?_
        refine xx_goto (tgt := 6) C (dd_X8_doesFit.at 30 rfl) (by decide) ?_
        exact xx_mask [true, true, true, true, true, true] (ih _ _ hf)
      · refine xx_if_eq_f (tgt := 50) C (dd_X8_doesFit.at 8 rfl) (by decide) hc ?_
        refine xx_aload_n C (dd_X8_doesFit.at 9 rfl) rfl (Nat.le_of_ble_eq_true rfl) ?_
        refine xx_iload_n C (dd_X8_doesFit.at 10 rfl) rfl ?_
        refine xx_iload C (dd_X8_doesFit.at 11 rfl) rfl ?_
        obtain ⟨v2, e3, hf⟩ := bdo_ hf
        refine xx_callVi C (ss_X8_rowAt e3) (dd_X8_doesFit.at 12 rfl) ck_7 rfl sh_k98 kk_X8_rowAt ki_X8_rowAt lm_RX8_94 (lb_ rfl) rfl rfl (lb_ rfl) ?_
        refine xx_aload_n C (dd_X8_doesFit.at 13 rfl) rfl (Nat.le_of_ble_eq_true rfl) ?_
        refine xx_iload_n C (dd_X8_doesFit.at 14 rfl) rfl ?_
        refine xx_iload_n C (dd_X8_doesFit.at 15 rfl) rfl ?_
        refine xx_iload C (dd_X8_doesFit.at 16 rfl) rfl ?_
        obtain ⟨v4, e5, hf⟩ := bdo_ hf
        refine xx_callVi C (ss_X8_least e5) (dd_X8_doesFit.at 17 rfl) ck_7 rfl sh_k98 kk_X8_least ki_X8_least lm_RX8_188 (lb_ rfl) rfl rfl (lb_ rfl) ?_
        refine xx_aload_n C (dd_X8_doesFit.at 18 rfl) rfl (Nat.le_of_ble_eq_true rfl) ?_
        refine xx_iload_n C (dd_X8_doesFit.at 19 rfl) rfl ?_
        refine xx_iload_n C (dd_X8_doesFit.at 20 rfl) rfl ?_
        refine xx_iload C (dd_X8_doesFit.at 21 rfl) rfl ?_
        obtain ⟨v6, e7, hf⟩ := bdo_ hf
        refine xx_callVi C (ss_X8_most e7) (dd_X8_doesFit.at 22 rfl) ck_7 rfl sh_k98 kk_X8_most ki_X8_most lm_RX8_191 (lb_ rfl) rfl rfl (lb_ rfl) ?_
        refine xx_callSi C (ss_X8_in rfl) (dd_X8_doesFit.at 23 rfl) kk_X8_in ks_X8_in lm_RX8_72 (lb_ rfl) rfl rfl (lb_ rfl) ?_
        rcases ifo_ hf with ⟨hc, hf⟩ | ⟨hc, hf⟩
        · refine xx_if_eq_t (tgt := 50) C (dd_X8_doesFit.at 24 rfl) (by decide) hc ?_
          refine xx_iconst C (dd_X8_doesFit.at 27 rfl) ic_0 ?_
          refine xx_istore (lv' := [_, _, _, _, _, _]) C (dd_X8_doesFit.at 28 rfl) (lb_ rfl) rfl ?_
          refine xx_iinc (v := _ + (1 : Int32)) (lv' := [_, _, _, _, _, _]) C (dd_X8_doesFit.at 29 rfl) (lb_ rfl) rfl (by rw [ic_1]) rfl ?_
          refine xx_goto (tgt := 6) C (dd_X8_doesFit.at 30 rfl) (by decide) ?_
          exact xx_mask [true, true, true, true, true, true] (ih _ _ hf)
        · refine xx_if_eq_f (tgt := 50) C (dd_X8_doesFit.at 24 rfl) (by decide) hc ?_
          refine xx_iconst C (dd_X8_doesFit.at 25 rfl) ic_1 ?_
          refine xx_goto (tgt := 51) C (dd_X8_doesFit.at 26 rfl) (by decide) ?_
          refine xx_istore (lv' := [_, _, _, _, _, _]) C (dd_X8_doesFit.at 28 rfl) (lb_ rfl) rfl ?_
          refine xx_iinc (v := _ + (1 : Int32)) (lv' := [_, _, _, _, _, _]) C (dd_X8_doesFit.at 29 rfl) (lb_ rfl) rfl (by rw [ic_1]) rfl ?_
          refine xx_goto (tgt := 6) C (dd_X8_doesFit.at 30 rfl) (by decide) ?_
          exact xx_mask [true, true, true, true, true, true] (ih _ _ hf)
theorem ss_X8_doesFit {l : Launch} {G : gt_} {a1 : Int32} {a2 : Int32} {a3 : Int32} {h : hh_} {r9 : Int32}  (hf : ff_X8_doesFit a1 a2 a3 h = some r9) : ok_ l G 4 mt_X8_doesFit [.ref 98, .int a1, .int a2, .int a3] h (some (.int r9)) h := by
  refine ok_of pn_RX8 (lb_ rfl) (fun Z _ _ C Q => ?_)
  show xx_ Z 0 [some (.ref 98), some (.int a1), some (.int a2), some (.int a3), none, none] [] h
  unfold ff_X8_doesFit at hf
  refine xx_iconst C (dd_X8_doesFit.at 0 rfl) ic_1 ?_
  refine xx_istore (lv' := [_, _, _, _, _, _]) C (dd_X8_doesFit.at 1 rfl) (lb_ rfl) rfl ?_
  refine xx_iconst C (dd_X8_doesFit.at 2 rfl) ic_0 ?_
  refine xx_istore (lv' := [_, _, _, _, _, _]) C (dd_X8_doesFit.at 3 rfl) (lb_ rfl) rfl ?_
  exact xx_mask [true, true, true, true, true, true] (ss_X8_doesFit_6 C Q _ _ _ hf)
theorem ss_X8_fits {l : Launch} {G : gt_} {a1 : Int32} {a2 : Int32} {a3 : Int32} {h : hh_} {r9 : Int32} {h9 : hh_}  (hf : ff_X8_fits a1 a2 a3 h = some (r9, h9)) : ok_ l G 5 mt_X8_fits [.ref 98, .int a1, .int a2, .int a3] h (some (.int r9)) h9 := by
  refine ok_of pn_RX8 (lb_ rfl) (fun Z _ _ C Q => ?_)
  show xx_ Z 0 [some (.ref 98), some (.int a1), some (.int a2), some (.int a3), none] [] h
  unfold ff_X8_fits at hf
  refine xx_aload_n C (dd_X8_fits.at 0 rfl) rfl (Nat.le_of_ble_eq_true rfl) ?_
  refine xx_iload_n C (dd_X8_fits.at 1 rfl) rfl ?_
  refine xx_callVi C (ss_X8_isThumb rfl) (dd_X8_fits.at 2 rfl) ck_7 rfl sh_k98 kk_X8_isThumb ki_X8_isThumb lm_RX8_165 (lb_ rfl) rfl rfl (lb_ rfl) ?_
  rcases ifo_ hf with ⟨hc, hf⟩ | ⟨hc, hf⟩
  · refine xx_if_eq_t (tgt := 16) C (dd_X8_fits.at 3 rfl) (by decide) hc ?_
    refine xx_iconst C (dd_X8_fits.at 8 rfl) ic_m1 ?_
    exact xx_ireturn C (rt_iwp hf Q) (dd_X8_fits.at 9 rfl) rfl
  · refine xx_if_eq_f (tgt := 16) C (dd_X8_fits.at 3 rfl) (by decide) hc ?_
    refine xx_aload_n C (dd_X8_fits.at 4 rfl) rfl (Nat.le_of_ble_eq_true rfl) ?_
    refine xx_iload_n C (dd_X8_fits.at 5 rfl) rfl ?_
    refine xx_callVi C (ss_X8_isHead rfl) (dd_X8_fits.at 6 rfl) ck_7 rfl sh_k98 kk_X8_isHead ki_X8_isHead lm_RX8_159 (lb_ rfl) rfl rfl (lb_ rfl) ?_
    rcases ifo_ hf with ⟨hc, hf⟩ | ⟨hc, hf⟩
    · refine xx_if_ne_f (tgt := 18) C (dd_X8_fits.at 7 rfl) (by decide) (not_not_intro hc) ?_
      refine xx_iconst C (dd_X8_fits.at 8 rfl) ic_m1 ?_
      exact xx_ireturn C (rt_iwp hf Q) (dd_X8_fits.at 9 rfl) rfl
    · refine xx_if_ne_t (tgt := 18) C (dd_X8_fits.at 7 rfl) (by decide) hc ?_
      refine xx_aload_n C (dd_X8_fits.at 10 rfl) rfl (Nat.le_of_ble_eq_true rfl) ?_
      refine xx_iload_n C (dd_X8_fits.at 11 rfl) rfl ?_
      obtain ⟨v1, e2, hf⟩ := bdo_ hf
      refine xx_callVi C (ss_X8_askedReading (pz_ e2)) (dd_X8_fits.at 12 rfl) ck_7 rfl sh_k98 kk_X8_askedReading ki_X8_askedReading lm_RX8_214 (lb_ rfl) rfl rfl (lb_ rfl) ?_
      refine xx_istore (lv' := [_, _, _, _, _]) C (dd_X8_fits.at 13 rfl) (lb_ rfl) rfl ?_
      refine xx_iload C (dd_X8_fits.at 14 rfl) rfl ?_
      rcases ifo_ hf with ⟨hc, hf⟩ | ⟨hc, hf⟩
      · refine xx_if_ge_t (tgt := 35) C (dd_X8_fits.at 15 rfl) (by decide) hc ?_
        refine xx_aload_n C (dd_X8_fits.at 18 rfl) rfl (Nat.le_of_ble_eq_true rfl) ?_
        refine xx_iload_n C (dd_X8_fits.at 19 rfl) rfl ?_
        refine xx_iload_n C (dd_X8_fits.at 20 rfl) rfl ?_
        refine xx_iload_n C (dd_X8_fits.at 21 rfl) rfl ?_
        obtain ⟨v3, e4, hf⟩ := bdo_ hf
        refine xx_callVi C (ss_X8_doesFit e4) (dd_X8_fits.at 22 rfl) ck_7 rfl sh_k98 kk_X8_doesFit ki_X8_doesFit lm_RX8_217 (lb_ rfl) rfl rfl (lb_ rfl) ?_
        rcases ifo_ hf with ⟨hc, hf⟩ | ⟨hc, hf⟩
        · refine xx_if_eq_t (tgt := 49) C (dd_X8_fits.at 23 rfl) (by decide) hc ?_
          refine xx_iconst C (dd_X8_fits.at 26 rfl) ic_0 ?_
          exact xx_ireturn C (rt_iwp hf Q) (dd_X8_fits.at 27 rfl) rfl
        · refine xx_if_eq_f (tgt := 49) C (dd_X8_fits.at 23 rfl) (by decide) hc ?_
          refine xx_iconst C (dd_X8_fits.at 24 rfl) ic_1 ?_
          refine xx_goto (tgt := 50) C (dd_X8_fits.at 25 rfl) (by decide) ?_
          exact xx_ireturn C (rt_iwp hf Q) (dd_X8_fits.at 27 rfl) rfl
      · refine xx_if_ge_f (tgt := 35) C (dd_X8_fits.at 15 rfl) (by decide) hc ?_
        refine xx_iload C (dd_X8_fits.at 16 rfl) rfl ?_
        refine xx_goto (tgt := 50) C (dd_X8_fits.at 17 rfl) (by decide) ?_
        exact xx_ireturn C (rt_iwp hf Q) (dd_X8_fits.at 27 rfl) rfl
theorem ss_X8_headsBy_5 {Z : zz_} (C : cx_ Z mt_X8_headsBy 5) {r9 : Int32} {x1 : Int32} {x2 : Int32} {h : hh_}  (Q : rq_ Z (some (.int r9)) h) : ∀ (n9 : Nat) (x3 : Int32) (x4 : Int32), ff_X8_headsBy_5 x1 x2 h n9 x3 x4 = some r9 → xx_ Z 5 [some (.ref 98), some (.int x1), some (.int x2), some (.int x3), some (.int x4)] [] h := by
  intro n9
  induction n9 with
  | zero =>
    intro x3 x4 hf
    exact absurd hf (by rw [ff_X8_headsBy_5]; exact nofun)
  | succ n9 ih =>
    intro x3 x4 hf
    rw [ff_X8_headsBy_5] at hf
    refine xx_iload C (dd_X8_headsBy.at 4 rfl) rfl ?_
    refine xx_aload_n C (dd_X8_headsBy.at 5 rfl) rfl (Nat.le_of_ble_eq_true rfl) ?_
    refine xx_getI (j := 10) C ck_7 (lb_ rfl) lf_RX8_141 sh_k98 rfl (dd_X8_headsBy.at 6 rfl) ?_
    rcases ifo_ hf with ⟨hc, hf⟩ | ⟨hc, hf⟩
    · refine xx_icmp_ge_t (tgt := 42) C (dd_X8_headsBy.at 7 rfl) (by decide) hc ?_
      refine xx_iload_n C (dd_X8_headsBy.at 24 rfl) rfl ?_
      exact xx_ireturn C (rt_ip hf Q) (dd_X8_headsBy.at 25 rfl) rfl
    · refine xx_icmp_ge_f (tgt := 42) C (dd_X8_headsBy.at 7 rfl) (by decide) hc ?_
      refine xx_iload_n C (dd_X8_headsBy.at 8 rfl) rfl ?_
      refine xx_aload_n C (dd_X8_headsBy.at 9 rfl) rfl (Nat.le_of_ble_eq_true rfl) ?_
      refine xx_iload_n C (dd_X8_headsBy.at 10 rfl) rfl ?_
      refine xx_iload C (dd_X8_headsBy.at 11 rfl) rfl ?_
      refine xx_iload_n C (dd_X8_headsBy.at 12 rfl) rfl ?_
      obtain ⟨v1, e2, hf⟩ := bdo_ hf
      refine xx_callVi C (ss_X8_doesFit e2) (dd_X8_headsBy.at 13 rfl) ck_7 rfl sh_k98 kk_X8_doesFit ki_X8_doesFit lm_RX8_217 (lb_ rfl) rfl rfl (lb_ rfl) ?_
      rcases ifo_ hf with ⟨hc, hf⟩ | ⟨hc, hf⟩
      · refine xx_if_eq_t (tgt := 33) C (dd_X8_headsBy.at 14 rfl) (by decide) hc ?_
        refine xx_iconst C (dd_X8_headsBy.at 19 rfl) ic_0 ?_
        refine xx_ior C (dd_X8_headsBy.at 20 rfl) ?_
        refine xx_istore_n (lv' := [_, _, _, _, _]) C (dd_X8_headsBy.at 21 rfl) (lb_ rfl) rfl ?_
        refine xx_iinc (v := _ + (1 : Int32)) (lv' := [_, _, _, _, _]) C (dd_X8_headsBy.at 22 rfl) (lb_ rfl) rfl (by rw [ic_1]) rfl ?_
        refine xx_goto (tgt := 5) C (dd_X8_headsBy.at 23 rfl) (by decide) ?_
        exact xx_mask [true, true, true, true, true] (ih _ _ hf)
      · refine xx_if_eq_f (tgt := 33) C (dd_X8_headsBy.at 14 rfl) (by decide) hc ?_
        refine xx_iconst C (dd_X8_headsBy.at 15 rfl) ic_1 ?_
        refine xx_iload C (dd_X8_headsBy.at 16 rfl) rfl ?_
        refine xx_ishl C (dd_X8_headsBy.at 17 rfl) ?_
        refine xx_goto (tgt := 34) C (dd_X8_headsBy.at 18 rfl) (by decide) ?_
        refine xx_ior C (dd_X8_headsBy.at 20 rfl) ?_
        refine xx_istore_n (lv' := [_, _, _, _, _]) C (dd_X8_headsBy.at 21 rfl) (lb_ rfl) rfl ?_
        refine xx_iinc (v := _ + (1 : Int32)) (lv' := [_, _, _, _, _]) C (dd_X8_headsBy.at 22 rfl) (lb_ rfl) rfl (by rw [ic_1]) rfl ?_
        refine xx_goto (tgt := 5) C (dd_X8_headsBy.at 23 rfl) (by decide) ?_
        exact xx_mask [true, true, true, true, true] (ih _ _ hf)
theorem ss_X8_headsBy {l : Launch} {G : gt_} {a1 : Int32} {a2 : Int32} {h : hh_} {r9 : Int32}  (hf : ff_X8_headsBy a1 a2 h = some r9) : ok_ l G 5 mt_X8_headsBy [.ref 98, .int a1, .int a2] h (some (.int r9)) h := by
  refine ok_of pn_RX8 (lb_ rfl) (fun Z _ _ C Q => ?_)
  show xx_ Z 0 [some (.ref 98), some (.int a1), some (.int a2), none, none] [] h
  unfold ff_X8_headsBy at hf
  refine xx_iconst C (dd_X8_headsBy.at 0 rfl) ic_0 ?_
  refine xx_istore_n (lv' := [_, _, _, _, _]) C (dd_X8_headsBy.at 1 rfl) (lb_ rfl) rfl ?_
  refine xx_iconst C (dd_X8_headsBy.at 2 rfl) ic_0 ?_
  refine xx_istore (lv' := [_, _, _, _, _]) C (dd_X8_headsBy.at 3 rfl) (lb_ rfl) rfl ?_
  exact xx_mask [true, true, true, true, true] (ss_X8_headsBy_5 C Q _ _ _ hf)
theorem ss_X8_whose_28 {Z : zz_} (C : cx_ Z mt_X8_whose 6) {r9 : Int32} {h9 : hh_} {x1 : Int32} {x2 : Int32} {h : hh_}  (Q : rq_ Z (some (.int r9)) h9) : ∀ (n9 : Nat) (x4 : Int32) (x5 : Int32), ff_X8_whose_28 x1 x2 h n9 x4 x5 = some (r9, h9) → xx_ Z 28 [some (.ref 98), some (.int x1), some (.int x2), none, some (.int x4), some (.int x5)] [] h := by
  intro n9
  induction n9 with
  | zero =>
    intro x4 x5 hf
    exact absurd hf (by rw [ff_X8_whose_28]; exact nofun)
  | succ n9 ih =>
    intro x4 x5 hf
    rw [ff_X8_whose_28] at hf
    refine xx_iload C (dd_X8_whose.at 18 rfl) rfl ?_
    refine xx_aload_n C (dd_X8_whose.at 19 rfl) rfl (Nat.le_of_ble_eq_true rfl) ?_
    refine xx_getI (j := 11) C ck_7 (lb_ rfl) lf_RX8_144 sh_k98 rfl (dd_X8_whose.at 20 rfl) ?_
    rcases ifo_ hf with ⟨hc, hf⟩ | ⟨hc, hf⟩
    · refine xx_icmp_ge_t (tgt := 55) C (dd_X8_whose.at 21 rfl) (by decide) hc ?_
      refine xx_aload_n C (dd_X8_whose.at 31 rfl) rfl (Nat.le_of_ble_eq_true rfl) ?_
      refine xx_iload C (dd_X8_whose.at 32 rfl) rfl ?_
      refine xx_aload_n C (dd_X8_whose.at 33 rfl) rfl (Nat.le_of_ble_eq_true rfl) ?_
      refine xx_iload_n C (dd_X8_whose.at 34 rfl) rfl ?_
      refine xx_iload_n C (dd_X8_whose.at 35 rfl) rfl ?_
      obtain ⟨v3, e4, hf⟩ := bdo_ hf
      refine xx_callVi C (ss_X8_headsBy e4) (dd_X8_whose.at 36 rfl) ck_7 rfl sh_k98 kk_X8_headsBy ki_X8_headsBy lm_RX8_220 (lb_ rfl) rfl rfl (lb_ rfl) ?_
      refine xx_callVi C (ss_X8_ask pe_) (dd_X8_whose.at 37 rfl) ck_7 rfl sh_k98 kk_X8_ask ki_X8_ask lm_RX8_98 (lb_ rfl) rfl rfl (lb_ rfl) ?_
      exact xx_ireturn C (rt_iwp hf Q) (dd_X8_whose.at 38 rfl) rfl
    · refine xx_icmp_ge_f (tgt := 55) C (dd_X8_whose.at 21 rfl) (by decide) hc ?_
      refine xx_iload C (dd_X8_whose.at 22 rfl) rfl ?_
      refine xx_aload_n C (dd_X8_whose.at 23 rfl) rfl (Nat.le_of_ble_eq_true rfl) ?_
      refine xx_iload C (dd_X8_whose.at 24 rfl) rfl ?_
      refine xx_iload_n C (dd_X8_whose.at 25 rfl) rfl ?_
      obtain ⟨v5, e6, hf⟩ := bdo_ hf
      refine xx_callVi C (ss_X8_headsBy e6) (dd_X8_whose.at 26 rfl) ck_7 rfl sh_k98 kk_X8_headsBy ki_X8_headsBy lm_RX8_220 (lb_ rfl) rfl rfl (lb_ rfl) ?_
      refine xx_ior C (dd_X8_whose.at 27 rfl) ?_
      refine xx_istore (lv' := [_, _, _, _, _, _]) C (dd_X8_whose.at 28 rfl) (lb_ rfl) rfl ?_
      refine xx_iinc (v := _ + (1 : Int32)) (lv' := [_, _, _, _, _, _]) C (dd_X8_whose.at 29 rfl) (lb_ rfl) rfl (by rw [ic_1]) rfl ?_
      refine xx_goto (tgt := 28) C (dd_X8_whose.at 30 rfl) (by decide) ?_
      exact xx_mask [true, true, true, false, true, true] (ih _ _ hf)
theorem ss_X8_whose {l : Launch} {G : gt_} {a1 : Int32} {a2 : Int32} {h : hh_} {r9 : Int32} {h9 : hh_}  (hf : ff_X8_whose a1 a2 h = some (r9, h9)) : ok_ l G 6 mt_X8_whose [.ref 98, .int a1, .int a2] h (some (.int r9)) h9 := by
  refine ok_of pn_RX8 (lb_ rfl) (fun Z _ _ C Q => ?_)
  show xx_ Z 0 [some (.ref 98), some (.int a1), some (.int a2), none, none, none] [] h
  unfold ff_X8_whose at hf
  refine xx_aload_n C (dd_X8_whose.at 0 rfl) rfl (Nat.le_of_ble_eq_true rfl) ?_
  refine xx_iload_n C (dd_X8_whose.at 1 rfl) rfl ?_
  refine xx_callVi C (ss_X8_isThumb rfl) (dd_X8_whose.at 2 rfl) ck_7 rfl sh_k98 kk_X8_isThumb ki_X8_isThumb lm_RX8_165 (lb_ rfl) rfl rfl (lb_ rfl) ?_
  rcases ifo_ hf with ⟨hc, hf⟩ | ⟨hc, hf⟩
  · refine xx_if_ne_f (tgt := 10) C (dd_X8_whose.at 3 rfl) (by decide) (not_not_intro hc) ?_
    refine xx_iconst C (dd_X8_whose.at 4 rfl) ic_m1 ?_
    exact xx_ireturn C (rt_iwp hf Q) (dd_X8_whose.at 5 rfl) rfl
  · refine xx_if_ne_t (tgt := 10) C (dd_X8_whose.at 3 rfl) (by decide) hc ?_
    refine xx_aload_n C (dd_X8_whose.at 6 rfl) rfl (Nat.le_of_ble_eq_true rfl) ?_
    refine xx_iload_n C (dd_X8_whose.at 7 rfl) rfl ?_
    obtain ⟨v1, e2, hf⟩ := bdo_ hf
    refine xx_callVi C (ss_X8_askedReading (pz_ e2)) (dd_X8_whose.at 8 rfl) ck_7 rfl sh_k98 kk_X8_askedReading ki_X8_askedReading lm_RX8_214 (lb_ rfl) rfl rfl (lb_ rfl) ?_
    refine xx_istore_n (lv' := [_, _, _, _, _, _]) C (dd_X8_whose.at 9 rfl) (lb_ rfl) rfl ?_
    refine xx_iload_n C (dd_X8_whose.at 10 rfl) rfl ?_
    rcases ifo_ hf with ⟨hc, hf⟩ | ⟨hc, hf⟩
    · refine xx_if_ge_t (tgt := 22) C (dd_X8_whose.at 11 rfl) (by decide) hc ?_
      refine xx_iconst C (dd_X8_whose.at 14 rfl) ic_0 ?_
      refine xx_istore (lv' := [_, _, _, _, _, _]) C (dd_X8_whose.at 15 rfl) (lb_ rfl) rfl ?_
      refine xx_iconst C (dd_X8_whose.at 16 rfl) ic_0 ?_
      refine xx_istore (lv' := [_, _, _, _, _, _]) C (dd_X8_whose.at 17 rfl) (lb_ rfl) rfl ?_
      exact xx_mask [true, true, true, false, true, true] (ss_X8_whose_28 C Q _ _ _ hf)
    · refine xx_if_ge_f (tgt := 22) C (dd_X8_whose.at 11 rfl) (by decide) hc ?_
      refine xx_iload_n C (dd_X8_whose.at 12 rfl) rfl ?_
      exact xx_ireturn C (rt_iwp hf Q) (dd_X8_whose.at 13 rfl) rfl
theorem ss_X8_who_28 {Z : zz_} (C : cx_ Z mt_X8_who 5) {r9 : Int32} {h9 : hh_} {x1 : Int32} {x2 : Int32} {h : hh_}  (Q : rq_ Z (some (.int r9)) h9) : ∀ (n9 : Nat) (x4 : Int32) (x5 : Int32), ff_X8_who_28 x1 x2 h n9 x4 x5 = some (r9, h9) → xx_ Z 28 [some (.ref 98), some (.int x1), some (.int x2), none, some (.int x4), some (.int x5)] [] h := by
  intro n9
  induction n9 with
  | zero =>
    intro x4 x5 hf
    exact absurd hf (by rw [ff_X8_who_28]; exact nofun)
  | succ n9 ih =>
    intro x4 x5 hf
    rw [ff_X8_who_28] at hf
    refine xx_iload C (dd_X8_who.at 18 rfl) rfl ?_
    refine xx_aload_n C (dd_X8_who.at 19 rfl) rfl (Nat.le_of_ble_eq_true rfl) ?_
    refine xx_getI (j := 11) C ck_7 (lb_ rfl) lf_RX8_144 sh_k98 rfl (dd_X8_who.at 20 rfl) ?_
    rcases ifo_ hf with ⟨hc, hf⟩ | ⟨hc, hf⟩
    · refine xx_icmp_ge_t (tgt := 67) C (dd_X8_who.at 21 rfl) (by decide) hc ?_
      refine xx_iload C (dd_X8_who.at 38 rfl) rfl ?_
      exact xx_ireturn C (rt_iwp hf Q) (dd_X8_who.at 39 rfl) rfl
    · refine xx_icmp_ge_f (tgt := 67) C (dd_X8_who.at 21 rfl) (by decide) hc ?_
      refine xx_iload C (dd_X8_who.at 22 rfl) rfl ?_
      refine xx_aload_n C (dd_X8_who.at 23 rfl) rfl (Nat.le_of_ble_eq_true rfl) ?_
      refine xx_iload C (dd_X8_who.at 24 rfl) rfl ?_
      refine xx_iload_n C (dd_X8_who.at 25 rfl) rfl ?_
      refine xx_iload_n C (dd_X8_who.at 26 rfl) rfl ?_
      obtain ⟨v3, e4, hf⟩ := bdo_ hf
      refine xx_callVi C (ss_X8_doesFit e4) (dd_X8_who.at 27 rfl) ck_7 rfl sh_k98 kk_X8_doesFit ki_X8_doesFit lm_RX8_217 (lb_ rfl) rfl rfl (lb_ rfl) ?_
      rcases ifo_ hf with ⟨hc, hf⟩ | ⟨hc, hf⟩
      · refine xx_if_eq_t (tgt := 57) C (dd_X8_who.at 28 rfl) (by decide) hc ?_
        refine xx_iconst C (dd_X8_who.at 33 rfl) ic_0 ?_
        refine xx_ior C (dd_X8_who.at 34 rfl) ?_
        refine xx_istore (lv' := [_, _, _, _, _, _]) C (dd_X8_who.at 35 rfl) (lb_ rfl) rfl ?_
        refine xx_iinc (v := _ + (1 : Int32)) (lv' := [_, _, _, _, _, _]) C (dd_X8_who.at 36 rfl) (lb_ rfl) rfl (by rw [ic_1]) rfl ?_
        refine xx_goto (tgt := 28) C (dd_X8_who.at 37 rfl) (by decide) ?_
        exact xx_mask [true, true, true, false, true, true] (ih _ _ hf)
      · refine xx_if_eq_f (tgt := 57) C (dd_X8_who.at 28 rfl) (by decide) hc ?_
        refine xx_iconst C (dd_X8_who.at 29 rfl) ic_1 ?_
        refine xx_iload C (dd_X8_who.at 30 rfl) rfl ?_
        refine xx_ishl C (dd_X8_who.at 31 rfl) ?_
        refine xx_goto (tgt := 58) C (dd_X8_who.at 32 rfl) (by decide) ?_
        refine xx_ior C (dd_X8_who.at 34 rfl) ?_
        refine xx_istore (lv' := [_, _, _, _, _, _]) C (dd_X8_who.at 35 rfl) (lb_ rfl) rfl ?_
        refine xx_iinc (v := _ + (1 : Int32)) (lv' := [_, _, _, _, _, _]) C (dd_X8_who.at 36 rfl) (lb_ rfl) rfl (by rw [ic_1]) rfl ?_
        refine xx_goto (tgt := 28) C (dd_X8_who.at 37 rfl) (by decide) ?_
        exact xx_mask [true, true, true, false, true, true] (ih _ _ hf)
theorem ss_X8_who {l : Launch} {G : gt_} {a1 : Int32} {a2 : Int32} {h : hh_} {r9 : Int32} {h9 : hh_}  (hf : ff_X8_who a1 a2 h = some (r9, h9)) : ok_ l G 5 mt_X8_who [.ref 98, .int a1, .int a2] h (some (.int r9)) h9 := by
  refine ok_of pn_RX8 (lb_ rfl) (fun Z _ _ C Q => ?_)
  show xx_ Z 0 [some (.ref 98), some (.int a1), some (.int a2), none, none, none] [] h
  unfold ff_X8_who at hf
  refine xx_aload_n C (dd_X8_who.at 0 rfl) rfl (Nat.le_of_ble_eq_true rfl) ?_
  refine xx_iload_n C (dd_X8_who.at 1 rfl) rfl ?_
  refine xx_callVi C (ss_X8_isHead rfl) (dd_X8_who.at 2 rfl) ck_7 rfl sh_k98 kk_X8_isHead ki_X8_isHead lm_RX8_159 (lb_ rfl) rfl rfl (lb_ rfl) ?_
  rcases ifo_ hf with ⟨hc, hf⟩ | ⟨hc, hf⟩
  · refine xx_if_ne_f (tgt := 10) C (dd_X8_who.at 3 rfl) (by decide) (not_not_intro hc) ?_
    refine xx_iconst C (dd_X8_who.at 4 rfl) ic_m1 ?_
    exact xx_ireturn C (rt_iwp hf Q) (dd_X8_who.at 5 rfl) rfl
  · refine xx_if_ne_t (tgt := 10) C (dd_X8_who.at 3 rfl) (by decide) hc ?_
    refine xx_aload_n C (dd_X8_who.at 6 rfl) rfl (Nat.le_of_ble_eq_true rfl) ?_
    refine xx_iload_n C (dd_X8_who.at 7 rfl) rfl ?_
    obtain ⟨v1, e2, hf⟩ := bdo_ hf
    refine xx_callVi C (ss_X8_askedReading (pz_ e2)) (dd_X8_who.at 8 rfl) ck_7 rfl sh_k98 kk_X8_askedReading ki_X8_askedReading lm_RX8_214 (lb_ rfl) rfl rfl (lb_ rfl) ?_
    refine xx_istore_n (lv' := [_, _, _, _, _, _]) C (dd_X8_who.at 9 rfl) (lb_ rfl) rfl ?_
    refine xx_iload_n C (dd_X8_who.at 10 rfl) rfl ?_
    rcases ifo_ hf with ⟨hc, hf⟩ | ⟨hc, hf⟩
    · refine xx_if_ge_t (tgt := 22) C (dd_X8_who.at 11 rfl) (by decide) hc ?_
      refine xx_iconst C (dd_X8_who.at 14 rfl) ic_0 ?_
      refine xx_istore (lv' := [_, _, _, _, _, _]) C (dd_X8_who.at 15 rfl) (lb_ rfl) rfl ?_
      refine xx_iconst C (dd_X8_who.at 16 rfl) ic_0 ?_
      refine xx_istore (lv' := [_, _, _, _, _, _]) C (dd_X8_who.at 17 rfl) (lb_ rfl) rfl ?_
      exact xx_mask [true, true, true, false, true, true] (ss_X8_who_28 C Q _ _ _ hf)
    · refine xx_if_ge_f (tgt := 22) C (dd_X8_who.at 11 rfl) (by decide) hc ?_
      refine xx_iload_n C (dd_X8_who.at 12 rfl) rfl ?_
      exact xx_ireturn C (rt_iwp hf Q) (dd_X8_who.at 13 rfl) rfl
theorem ss_X8_spread {l : Launch} {G : gt_} {a1 : Int32} {a2 : Int32} {a3 : Int32} {h : hh_} {r9 : Int32}  (hf : ff_X8_spread a1 a2 a3 h = some r9) : ok_ l G 4 mt_X8_spread [.ref 98, .int a1, .int a2, .int a3] h (some (.int r9)) h := by
  refine ok_of pn_RX8 (lb_ rfl) (fun Z _ _ C Q => ?_)
  show xx_ Z 0 [some (.ref 98), some (.int a1), some (.int a2), some (.int a3)] [] h
  unfold ff_X8_spread at hf
  refine xx_aload_n C (dd_X8_spread.at 0 rfl) rfl (Nat.le_of_ble_eq_true rfl) ?_
  refine xx_iload_n C (dd_X8_spread.at 1 rfl) rfl ?_
  refine xx_iload_n C (dd_X8_spread.at 2 rfl) rfl ?_
  refine xx_iload_n C (dd_X8_spread.at 3 rfl) rfl ?_
  obtain ⟨v1, e2, hf⟩ := bdo_ hf
  refine xx_callVi C (ss_X8_most e2) (dd_X8_spread.at 4 rfl) ck_7 rfl sh_k98 kk_X8_most ki_X8_most lm_RX8_191 (lb_ rfl) rfl rfl (lb_ rfl) ?_
  refine xx_aload_n C (dd_X8_spread.at 5 rfl) rfl (Nat.le_of_ble_eq_true rfl) ?_
  refine xx_iload_n C (dd_X8_spread.at 6 rfl) rfl ?_
  refine xx_iload_n C (dd_X8_spread.at 7 rfl) rfl ?_
  refine xx_iload_n C (dd_X8_spread.at 8 rfl) rfl ?_
  obtain ⟨v3, e4, hf⟩ := bdo_ hf
  refine xx_callVi C (ss_X8_least e4) (dd_X8_spread.at 9 rfl) ck_7 rfl sh_k98 kk_X8_least ki_X8_least lm_RX8_188 (lb_ rfl) rfl rfl (lb_ rfl) ?_
  refine xx_isub C (dd_X8_spread.at 10 rfl) ?_
  refine xx_iconst C (dd_X8_spread.at 11 rfl) ic_1 ?_
  refine xx_iadd C (dd_X8_spread.at 12 rfl) ?_
  exact xx_ireturn C (rt_ip hf Q) (dd_X8_spread.at 13 rfl) rfl
theorem ss_X8_weight_20 {Z : zz_} (C : cx_ Z mt_X8_weight 5) {r9 : Int64} {x1 : Int32} {x2 : Int32} {h : hh_}  (Q : rq_ Z (some (.long r9)) h) : ∀ (n9 : Nat) (x4 : Int64) (x6 : Int32), ff_X8_weight_20 x1 x2 h n9 x4 x6 = some r9 → xx_ Z 20 [some (.ref 98), some (.int x1), some (.int x2), none, some (.long x4), none, some (.int x6)] [] h := by
  intro n9
  induction n9 with
  | zero =>
    intro x4 x6 hf
    exact absurd hf (by rw [ff_X8_weight_20]; exact nofun)
  | succ n9 ih =>
    intro x4 x6 hf
    rw [ff_X8_weight_20] at hf
    refine xx_iload C (dd_X8_weight.at 12 rfl) rfl ?_
    refine xx_iconst C (dd_X8_weight.at 13 rfl) ic_4 ?_
    rcases ifo_ hf with ⟨hc, hf⟩ | ⟨hc, hf⟩
    · refine xx_icmp_ge_t (tgt := 49) C (dd_X8_weight.at 14 rfl) (by decide) hc ?_
      refine xx_lload C (dd_X8_weight.at 28 rfl) rfl ?_
      exact xx_lreturn C (rt_lp hf Q) (dd_X8_weight.at 29 rfl) rfl
    · refine xx_icmp_ge_f (tgt := 49) C (dd_X8_weight.at 14 rfl) (by decide) hc ?_
      refine xx_lload C (dd_X8_weight.at 15 rfl) rfl ?_
      refine xx_bipush C (dd_X8_weight.at 16 rfl) bq_60 ?_
      refine xx_aload_n C (dd_X8_weight.at 17 rfl) rfl (Nat.le_of_ble_eq_true rfl) ?_
      refine xx_iload_n C (dd_X8_weight.at 18 rfl) rfl ?_
      refine xx_iload_n C (dd_X8_weight.at 19 rfl) rfl ?_
      refine xx_iload C (dd_X8_weight.at 20 rfl) rfl ?_
      obtain ⟨v3, e4, hf⟩ := bdo_ hf
      refine xx_callVi C (ss_X8_spread e4) (dd_X8_weight.at 21 rfl) ck_7 rfl sh_k98 kk_X8_spread ki_X8_spread lm_RX8_223 (lb_ rfl) rfl rfl (lb_ rfl) ?_
      obtain ⟨g5, hf⟩ := gd_ok hf
      refine xx_idiv C (dd_X8_weight.at 22 rfl) (bn_ok g5) ?_
      refine xx_i2l C (dd_X8_weight.at 23 rfl) ?_
      refine xx_lmul C (dd_X8_weight.at 24 rfl) ?_
      refine xx_lstore (lv' := [_, _, _, _, _, _, _]) C (dd_X8_weight.at 25 rfl) (lb_ rfl) rfl ?_
      refine xx_iinc (v := _ + (1 : Int32)) (lv' := [_, _, _, _, _, _, _]) C (dd_X8_weight.at 26 rfl) (lb_ rfl) rfl (by rw [ic_1]) rfl ?_
      refine xx_goto (tgt := 20) C (dd_X8_weight.at 27 rfl) (by decide) ?_
      exact xx_mask [true, true, true, false, true, false, true] (ih _ _ hf)
theorem ss_X8_weight_15 {Z : zz_} (C : cx_ Z mt_X8_weight 5) {r9 : Int64} {x1 : Int32} {x2 : Int32} {y0 : Int64} {h : hh_}  (Q : rq_ Z (some (.long r9)) h) (hf : ff_X8_weight_15 x1 x2 y0 h = some r9) : xx_ Z 15 [some (.ref 98), some (.int x1), some (.int x2), none, none, none, none] [.long y0] h := by
  unfold ff_X8_weight_15 at hf
  refine xx_lstore (lv' := [_, _, _, _, _, _, _]) C (dd_X8_weight.at 9 rfl) (lb_ rfl) rfl ?_
  refine xx_iconst C (dd_X8_weight.at 10 rfl) ic_0 ?_
  refine xx_istore (lv' := [_, _, _, _, _, _, _]) C (dd_X8_weight.at 11 rfl) (lb_ rfl) rfl ?_
  exact xx_mask [true, true, true, false, true, false, true] (ss_X8_weight_20 C Q _ _ _ hf)
theorem ss_X8_weight {l : Launch} {G : gt_} {a1 : Int32} {a2 : Int32} {a3 : Int32} {h : hh_} {r9 : Int64}  (hf : ff_X8_weight a1 a2 a3 h = some r9) : ok_ l G 5 mt_X8_weight [.ref 98, .int a1, .int a2, .int a3] h (some (.long r9)) h := by
  refine ok_of pn_RX8 (lb_ rfl) (fun Z _ _ C Q => ?_)
  show xx_ Z 0 [some (.ref 98), some (.int a1), some (.int a2), some (.int a3), none, none, none] [] h
  unfold ff_X8_weight at hf
  refine xx_aload_n C (dd_X8_weight.at 0 rfl) rfl (Nat.le_of_ble_eq_true rfl) ?_
  refine xx_iload_n C (dd_X8_weight.at 1 rfl) rfl ?_
  refine xx_iload_n C (dd_X8_weight.at 2 rfl) rfl ?_
  refine xx_iload_n C (dd_X8_weight.at 3 rfl) rfl ?_
  obtain ⟨v1, e2, hf⟩ := bdo_ hf
  refine xx_callVi C (ss_X8_doesFit e2) (dd_X8_weight.at 4 rfl) ck_7 rfl sh_k98 kk_X8_doesFit ki_X8_doesFit lm_RX8_217 (lb_ rfl) rfl rfl (lb_ rfl) ?_
  rcases ifo_ hf with ⟨hc, hf⟩ | ⟨hc, hf⟩
  · refine xx_if_eq_t (tgt := 14) C (dd_X8_weight.at 5 rfl) (by decide) hc ?_
    refine xx_lconst (v := 0) C (dd_X8_weight.at 8 rfl) rfl ?_
    exact xx_mask [true, true, true, false, false, false, false] (ss_X8_weight_15 C Q hf)
  · refine xx_if_eq_f (tgt := 14) C (dd_X8_weight.at 5 rfl) (by decide) hc ?_
    refine xx_lconst (v := 1) C (dd_X8_weight.at 6 rfl) rfl ?_
    refine xx_goto (tgt := 15) C (dd_X8_weight.at 7 rfl) (by decide) ?_
    exact xx_mask [true, true, true, false, false, false, false] (ss_X8_weight_15 C Q hf)
theorem ss_X8_odds_39 {Z : zz_} (C : cx_ Z mt_X8_odds 6) {r9 : Int32} {h9 : hh_} {x1 : Int32} {x2 : Int32} {x3 : Int32} {h : hh_} {K39_67 : Int64 → Option (Int32 × hh_)} (Q : rq_ Z (some (.int r9)) h9) (hK39_67 : ∀ (z5 : Int64), K39_67 z5 = some (r9, h9) → xx_ Z 67 [some (.ref 98), some (.int x1), some (.int x2), some (.int x3), none, some (.long z5), none, none] [] h) : ∀ (n9 : Nat) (x5 : Int64) (x7 : Int32), ff_X8_odds_39 x1 x2 x3 h K39_67 n9 x5 x7 = some (r9, h9) → xx_ Z 39 [some (.ref 98), some (.int x1), some (.int x2), some (.int x3), none, some (.long x5), none, some (.int x7)] [] h := by
  intro n9
  induction n9 with
  | zero =>
    intro x5 x7 hf
    exact absurd hf (by rw [ff_X8_odds_39]; exact nofun)
  | succ n9 ih =>
    intro x5 x7 hf
    rw [ff_X8_odds_39] at hf
    refine xx_iload C (dd_X8_odds.at 22 rfl) rfl ?_
    refine xx_aload_n C (dd_X8_odds.at 23 rfl) rfl (Nat.le_of_ble_eq_true rfl) ?_
    refine xx_getI (j := 10) C ck_7 (lb_ rfl) lf_RX8_141 sh_k98 rfl (dd_X8_odds.at 24 rfl) ?_
    rcases ifo_ hf with ⟨hc, hf⟩ | ⟨hc, hf⟩
    · refine xx_icmp_ge_t (tgt := 67) C (dd_X8_odds.at 25 rfl) (by decide) hc ?_
      exact xx_mask [true, true, true, true, false, true, false, false] (hK39_67 _ hf)
    · refine xx_icmp_ge_f (tgt := 67) C (dd_X8_odds.at 25 rfl) (by decide) hc ?_
      refine xx_lload C (dd_X8_odds.at 26 rfl) rfl ?_
      refine xx_aload_n C (dd_X8_odds.at 27 rfl) rfl (Nat.le_of_ble_eq_true rfl) ?_
      refine xx_iload_n C (dd_X8_odds.at 28 rfl) rfl ?_
      refine xx_iload C (dd_X8_odds.at 29 rfl) rfl ?_
      refine xx_iload_n C (dd_X8_odds.at 30 rfl) rfl ?_
      obtain ⟨v3, e4, hf⟩ := bdo_ hf
      refine xx_callVl C (ss_X8_weight e4) (dd_X8_odds.at 31 rfl) ck_7 rfl sh_k98 kk_X8_weight ki_X8_weight lm_RX8_226 (lb_ rfl) rfl rfl (lb_ rfl) ?_
      refine xx_ladd C (dd_X8_odds.at 32 rfl) ?_
      refine xx_lstore (lv' := [_, _, _, _, _, _, _, _]) C (dd_X8_odds.at 33 rfl) (lb_ rfl) rfl ?_
      refine xx_iinc (v := _ + (1 : Int32)) (lv' := [_, _, _, _, _, _, _, _]) C (dd_X8_odds.at 34 rfl) (lb_ rfl) rfl (by rw [ic_1]) rfl ?_
      refine xx_goto (tgt := 39) C (dd_X8_odds.at 35 rfl) (by decide) ?_
      exact xx_mask [true, true, true, true, false, true, false, true] (ih _ _ hf)
theorem ss_X8_odds {l : Launch} {G : gt_} {a1 : Int32} {a2 : Int32} {a3 : Int32} {h : hh_} {r9 : Int32} {h9 : hh_}  (hf : ff_X8_odds a1 a2 a3 h = some (r9, h9)) : ok_ l G 6 mt_X8_odds [.ref 98, .int a1, .int a2, .int a3] h (some (.int r9)) h9 := by
  refine ok_of pn_RX8 (lb_ rfl) (fun Z _ _ C Q => ?_)
  show xx_ Z 0 [some (.ref 98), some (.int a1), some (.int a2), some (.int a3), none, none, none, none] [] h
  unfold ff_X8_odds at hf
  refine xx_aload_n C (dd_X8_odds.at 0 rfl) rfl (Nat.le_of_ble_eq_true rfl) ?_
  refine xx_iload_n C (dd_X8_odds.at 1 rfl) rfl ?_
  refine xx_callVi C (ss_X8_isThumb rfl) (dd_X8_odds.at 2 rfl) ck_7 rfl sh_k98 kk_X8_isThumb ki_X8_isThumb lm_RX8_165 (lb_ rfl) rfl rfl (lb_ rfl) ?_
  rcases ifo_ hf with ⟨hc, hf⟩ | ⟨hc, hf⟩
  · refine xx_if_eq_t (tgt := 16) C (dd_X8_odds.at 3 rfl) (by decide) hc ?_
    refine xx_iconst C (dd_X8_odds.at 8 rfl) ic_m1 ?_
    exact xx_ireturn C (rt_iwp hf Q) (dd_X8_odds.at 9 rfl) rfl
  · refine xx_if_eq_f (tgt := 16) C (dd_X8_odds.at 3 rfl) (by decide) hc ?_
    refine xx_aload_n C (dd_X8_odds.at 4 rfl) rfl (Nat.le_of_ble_eq_true rfl) ?_
    refine xx_iload_n C (dd_X8_odds.at 5 rfl) rfl ?_
    refine xx_callVi C (ss_X8_isHead rfl) (dd_X8_odds.at 6 rfl) ck_7 rfl sh_k98 kk_X8_isHead ki_X8_isHead lm_RX8_159 (lb_ rfl) rfl rfl (lb_ rfl) ?_
    rcases ifo_ hf with ⟨hc, hf⟩ | ⟨hc, hf⟩
    · refine xx_if_ne_f (tgt := 18) C (dd_X8_odds.at 7 rfl) (by decide) (not_not_intro hc) ?_
      refine xx_iconst C (dd_X8_odds.at 8 rfl) ic_m1 ?_
      exact xx_ireturn C (rt_iwp hf Q) (dd_X8_odds.at 9 rfl) rfl
    · refine xx_if_ne_t (tgt := 18) C (dd_X8_odds.at 7 rfl) (by decide) hc ?_
      refine xx_aload_n C (dd_X8_odds.at 10 rfl) rfl (Nat.le_of_ble_eq_true rfl) ?_
      refine xx_iload_n C (dd_X8_odds.at 11 rfl) rfl ?_
      obtain ⟨v1, e2, hf⟩ := bdo_ hf
      refine xx_callVi C (ss_X8_askedReading (pz_ e2)) (dd_X8_odds.at 12 rfl) ck_7 rfl sh_k98 kk_X8_askedReading ki_X8_askedReading lm_RX8_214 (lb_ rfl) rfl rfl (lb_ rfl) ?_
      refine xx_istore (lv' := [_, _, _, _, _, _, _, _]) C (dd_X8_odds.at 13 rfl) (lb_ rfl) rfl ?_
      refine xx_iload C (dd_X8_odds.at 14 rfl) rfl ?_
      rcases ifo_ hf with ⟨hc, hf⟩ | ⟨hc, hf⟩
      · refine xx_if_ge_t (tgt := 33) C (dd_X8_odds.at 15 rfl) (by decide) hc ?_
        refine xx_lconst (v := 0) C (dd_X8_odds.at 18 rfl) rfl ?_
        refine xx_lstore (lv' := [_, _, _, _, _, _, _, _]) C (dd_X8_odds.at 19 rfl) (lb_ rfl) rfl ?_
        refine xx_iconst C (dd_X8_odds.at 20 rfl) ic_0 ?_
        refine xx_istore (lv' := [_, _, _, _, _, _, _, _]) C (dd_X8_odds.at 21 rfl) (lb_ rfl) rfl ?_
        refine xx_mask [true, true, true, true, false, true, false, true] (ss_X8_odds_39 C Q (fun u5 hf => ?_) _ _ _ hf)
        refine xx_lload C (dd_X8_odds.at 36 rfl) rfl ?_
        refine xx_lconst (v := 0) C (dd_X8_odds.at 37 rfl) rfl ?_
        refine xx_lcmp C (dd_X8_odds.at 38 rfl) ?_
        rcases ifo_ hf with ⟨hc, hf⟩ | ⟨hc, hf⟩
        · refine xx_if_ne_f (tgt := 82) C (dd_X8_odds.at 39 rfl) (by decide) (not_not_intro hc) ?_
          refine xx_aload_n C (dd_X8_odds.at 40 rfl) rfl (Nat.le_of_ble_eq_true rfl) ?_
          refine xx_iconst C (dd_X8_odds.at 41 rfl) ic_4 ?_
          obtain ⟨v10, e11, hf⟩ := bdo_ hf
          refine xx_callVi C (ss_X8_meet (pz_ e11)) (dd_X8_odds.at 42 rfl) ck_7 rfl sh_k98 kk_X8_meet ki_X8_meet lm_RX8_80 (lb_ rfl) rfl rfl (lb_ rfl) ?_
          refine xx_goto (tgt := 95) C (dd_X8_odds.at 43 rfl) (by decide) ?_
          exact xx_ireturn C (rt_iwp hf Q) (dd_X8_odds.at 52 rfl) rfl
        · refine xx_if_ne_t (tgt := 82) C (dd_X8_odds.at 39 rfl) (by decide) hc ?_
          refine xx_aload_n C (dd_X8_odds.at 44 rfl) rfl (Nat.le_of_ble_eq_true rfl) ?_
          refine xx_aload_n C (dd_X8_odds.at 45 rfl) rfl (Nat.le_of_ble_eq_true rfl) ?_
          refine xx_iload_n C (dd_X8_odds.at 46 rfl) rfl ?_
          refine xx_iload_n C (dd_X8_odds.at 47 rfl) rfl ?_
          refine xx_iload_n C (dd_X8_odds.at 48 rfl) rfl ?_
          obtain ⟨v6, e7, hf⟩ := bdo_ hf
          refine xx_callVl C (ss_X8_weight e7) (dd_X8_odds.at 49 rfl) ck_7 rfl sh_k98 kk_X8_weight ki_X8_weight lm_RX8_226 (lb_ rfl) rfl rfl (lb_ rfl) ?_
          refine xx_lload C (dd_X8_odds.at 50 rfl) rfl ?_
          obtain ⟨v8, e9, hf⟩ := bdo_ hf
          refine xx_callVi C (ss_X8_part (pz_ e9)) (dd_X8_odds.at 51 rfl) ck_7 rfl sh_k98 kk_X8_part ki_X8_part lm_RX8_230 (lb_ rfl) rfl rfl (lb_ rfl) ?_
          exact xx_ireturn C (rt_iwp hf Q) (dd_X8_odds.at 52 rfl) rfl
      · refine xx_if_ge_f (tgt := 33) C (dd_X8_odds.at 15 rfl) (by decide) hc ?_
        refine xx_iload C (dd_X8_odds.at 16 rfl) rfl ?_
        exact xx_ireturn C (rt_iwp hf Q) (dd_X8_odds.at 17 rfl) rfl
theorem ss_X8_areApart {l : Launch} {G : gt_} {a1 : Int32} {a2 : Int32} {a3 : Int32} {a4 : Int32} {h : hh_} {r9 : Int32}  (hf : ff_X8_areApart a1 a2 a3 a4 h = some r9) : ok_ l G 4 mt_X8_areApart [.ref 98, .int a1, .int a2, .int a3, .int a4] h (some (.int r9)) h := by
  refine ok_of pn_RX8 (lb_ rfl) (fun Z _ _ C Q => ?_)
  show xx_ Z 0 [some (.ref 98), some (.int a1), some (.int a2), some (.int a3), some (.int a4)] [] h
  unfold ff_X8_areApart at hf
  refine xx_aload_n C (dd_X8_areApart.at 0 rfl) rfl (Nat.le_of_ble_eq_true rfl) ?_
  refine xx_iload_n C (dd_X8_areApart.at 1 rfl) rfl ?_
  refine xx_iload_n C (dd_X8_areApart.at 2 rfl) rfl ?_
  refine xx_iload C (dd_X8_areApart.at 3 rfl) rfl ?_
  obtain ⟨v1, e2, hf⟩ := bdo_ hf
  refine xx_callVi C (ss_X8_most e2) (dd_X8_areApart.at 4 rfl) ck_7 rfl sh_k98 kk_X8_most ki_X8_most lm_RX8_191 (lb_ rfl) rfl rfl (lb_ rfl) ?_
  refine xx_aload_n C (dd_X8_areApart.at 5 rfl) rfl (Nat.le_of_ble_eq_true rfl) ?_
  refine xx_iload_n C (dd_X8_areApart.at 6 rfl) rfl ?_
  refine xx_iload_n C (dd_X8_areApart.at 7 rfl) rfl ?_
  refine xx_iload C (dd_X8_areApart.at 8 rfl) rfl ?_
  obtain ⟨v3, e4, hf⟩ := bdo_ hf
  refine xx_callVi C (ss_X8_least e4) (dd_X8_areApart.at 9 rfl) ck_7 rfl sh_k98 kk_X8_least ki_X8_least lm_RX8_188 (lb_ rfl) rfl rfl (lb_ rfl) ?_
  rcases ifo_ hf with ⟨hc, hf⟩ | ⟨hc, hf⟩
  · refine xx_icmp_lt_t (tgt := 38) C (dd_X8_areApart.at 10 rfl) (by decide) hc ?_
    refine xx_iconst C (dd_X8_areApart.at 22 rfl) ic_1 ?_
    refine xx_goto (tgt := 43) C (dd_X8_areApart.at 23 rfl) (by decide) ?_
    exact xx_zreturn C (rt_ip hf Q) (dd_X8_areApart.at 25 rfl) rfl zb_1
  · refine xx_icmp_lt_f (tgt := 38) C (dd_X8_areApart.at 10 rfl) (by decide) hc ?_
    refine xx_aload_n C (dd_X8_areApart.at 11 rfl) rfl (Nat.le_of_ble_eq_true rfl) ?_
    refine xx_iload_n C (dd_X8_areApart.at 12 rfl) rfl ?_
    refine xx_iload_n C (dd_X8_areApart.at 13 rfl) rfl ?_
    refine xx_iload C (dd_X8_areApart.at 14 rfl) rfl ?_
    obtain ⟨v5, e6, hf⟩ := bdo_ hf
    refine xx_callVi C (ss_X8_most e6) (dd_X8_areApart.at 15 rfl) ck_7 rfl sh_k98 kk_X8_most ki_X8_most lm_RX8_191 (lb_ rfl) rfl rfl (lb_ rfl) ?_
    refine xx_aload_n C (dd_X8_areApart.at 16 rfl) rfl (Nat.le_of_ble_eq_true rfl) ?_
    refine xx_iload_n C (dd_X8_areApart.at 17 rfl) rfl ?_
    refine xx_iload_n C (dd_X8_areApart.at 18 rfl) rfl ?_
    refine xx_iload C (dd_X8_areApart.at 19 rfl) rfl ?_
    obtain ⟨v7, e8, hf⟩ := bdo_ hf
    refine xx_callVi C (ss_X8_least e8) (dd_X8_areApart.at 20 rfl) ck_7 rfl sh_k98 kk_X8_least ki_X8_least lm_RX8_188 (lb_ rfl) rfl rfl (lb_ rfl) ?_
    rcases ifo_ hf with ⟨hc, hf⟩ | ⟨hc, hf⟩
    · refine xx_icmp_ge_t (tgt := 42) C (dd_X8_areApart.at 21 rfl) (by decide) hc ?_
      refine xx_iconst C (dd_X8_areApart.at 24 rfl) ic_0 ?_
      exact xx_zreturn C (rt_ip hf Q) (dd_X8_areApart.at 25 rfl) rfl zb_0
    · refine xx_icmp_ge_f (tgt := 42) C (dd_X8_areApart.at 21 rfl) (by decide) hc ?_
      refine xx_iconst C (dd_X8_areApart.at 22 rfl) ic_1 ?_
      refine xx_goto (tgt := 43) C (dd_X8_areApart.at 23 rfl) (by decide) ?_
      exact xx_zreturn C (rt_ip hf Q) (dd_X8_areApart.at 25 rfl) rfl zb_1
theorem ss_X8_look_44 {Z : zz_} (C : cx_ Z mt_X8_look 5) {r9 : Int32} {h9 : hh_} {x1 : Int32} {x2 : Int32} {x3 : Int32} {x4 : Int32} {x6 : Int32} {h : hh_} {K44_83 : Int32 → Option (Int32 × hh_)} (Q : rq_ Z (some (.int r9)) h9) (hK44_83 : ∀ (z5 : Int32), K44_83 z5 = some (r9, h9) → xx_ Z 83 [some (.ref 98), some (.int x1), some (.int x2), some (.int x3), some (.int x4), some (.int z5), some (.int x6), none] [] h) : ∀ (n9 : Nat) (x5 : Int32) (x7 : Int32), ff_X8_look_44 x1 x2 x3 x4 x6 h K44_83 n9 x5 x7 = some (r9, h9) → xx_ Z 44 [some (.ref 98), some (.int x1), some (.int x2), some (.int x3), some (.int x4), some (.int x5), some (.int x6), some (.int x7)] [] h := by
  intro n9
  induction n9 with
  | zero =>
    intro x5 x7 hf
    exact absurd hf (by rw [ff_X8_look_44]; exact nofun)
  | succ n9 ih =>
    intro x5 x7 hf
    rw [ff_X8_look_44] at hf
    refine xx_iload C (dd_X8_look.at 27 rfl) rfl ?_
    refine xx_aload_n C (dd_X8_look.at 28 rfl) rfl (Nat.le_of_ble_eq_true rfl) ?_
    refine xx_getI (j := 10) C ck_7 (lb_ rfl) lf_RX8_141 sh_k98 rfl (dd_X8_look.at 29 rfl) ?_
    rcases ifo_ hf with ⟨hc, hf⟩ | ⟨hc, hf⟩
    · refine xx_icmp_ge_t (tgt := 83) C (dd_X8_look.at 30 rfl) (by decide) hc ?_
      exact xx_mask [true, true, true, true, true, true, true, false] (hK44_83 _ hf)
    · refine xx_icmp_ge_f (tgt := 83) C (dd_X8_look.at 30 rfl) (by decide) hc ?_
      refine xx_iload C (dd_X8_look.at 31 rfl) rfl ?_
      refine xx_aload_n C (dd_X8_look.at 32 rfl) rfl (Nat.le_of_ble_eq_true rfl) ?_
      refine xx_iload_n C (dd_X8_look.at 33 rfl) rfl ?_
      refine xx_iload C (dd_X8_look.at 34 rfl) rfl ?_
      refine xx_iload C (dd_X8_look.at 35 rfl) rfl ?_
      refine xx_iload C (dd_X8_look.at 36 rfl) rfl ?_
      obtain ⟨v1, e2, hf⟩ := bdo_ hf
      refine xx_callVi C (ss_X8_areApart e2) (dd_X8_look.at 37 rfl) ck_7 rfl sh_k98 kk_X8_areApart ki_X8_areApart lm_RX8_234 (lb_ rfl) rfl rfl (lb_ rfl) ?_
      rcases ifo_ hf with ⟨hc, hf⟩ | ⟨hc, hf⟩
      · refine xx_if_eq_t (tgt := 73) C (dd_X8_look.at 38 rfl) (by decide) hc ?_
        refine xx_iconst C (dd_X8_look.at 41 rfl) ic_0 ?_
        refine xx_iadd C (dd_X8_look.at 42 rfl) ?_
        refine xx_istore (lv' := [_, _, _, _, _, _, _, _]) C (dd_X8_look.at 43 rfl) (lb_ rfl) rfl ?_
        refine xx_iinc (v := _ + (1 : Int32)) (lv' := [_, _, _, _, _, _, _, _]) C (dd_X8_look.at 44 rfl) (lb_ rfl) rfl (by rw [ic_1]) rfl ?_
        refine xx_goto (tgt := 44) C (dd_X8_look.at 45 rfl) (by decide) ?_
        exact xx_mask [true, true, true, true, true, true, true, true] (ih _ _ hf)
      · refine xx_if_eq_f (tgt := 73) C (dd_X8_look.at 38 rfl) (by decide) hc ?_
        refine xx_iconst C (dd_X8_look.at 39 rfl) ic_1 ?_
        refine xx_goto (tgt := 74) C (dd_X8_look.at 40 rfl) (by decide) ?_
        refine xx_iadd C (dd_X8_look.at 42 rfl) ?_
        refine xx_istore (lv' := [_, _, _, _, _, _, _, _]) C (dd_X8_look.at 43 rfl) (lb_ rfl) rfl ?_
        refine xx_iinc (v := _ + (1 : Int32)) (lv' := [_, _, _, _, _, _, _, _]) C (dd_X8_look.at 44 rfl) (lb_ rfl) rfl (by rw [ic_1]) rfl ?_
        refine xx_goto (tgt := 44) C (dd_X8_look.at 45 rfl) (by decide) ?_
        exact xx_mask [true, true, true, true, true, true, true, true] (ih _ _ hf)
theorem ss_X8_look_29 {Z : zz_} (C : cx_ Z mt_X8_look 5) {r9 : Int32} {h9 : hh_} {x1 : Int32} {x2 : Int32} {x3 : Int32} {x4 : Int32} {h : hh_} {K29_89 : Int32 → Option (Int32 × hh_)} (Q : rq_ Z (some (.int r9)) h9) (hK29_89 : ∀ (z5 : Int32), K29_89 z5 = some (r9, h9) → xx_ Z 89 [some (.ref 98), some (.int x1), some (.int x2), some (.int x3), some (.int x4), some (.int z5), none, none] [] h) : ∀ (n9 : Nat) (x5 : Int32) (x6 : Int32), ff_X8_look_29 x1 x2 x3 x4 h K29_89 n9 x5 x6 = some (r9, h9) → xx_ Z 29 [some (.ref 98), some (.int x1), some (.int x2), some (.int x3), some (.int x4), some (.int x5), some (.int x6), none] [] h := by
  intro n9
  induction n9 with
  | zero =>
    intro x5 x6 hf
    exact absurd hf (by rw [ff_X8_look_29]; exact nofun)
  | succ n9 ih =>
    intro x5 x6 hf
    rw [ff_X8_look_29] at hf
    refine xx_iload C (dd_X8_look.at 19 rfl) rfl ?_
    refine xx_aload_n C (dd_X8_look.at 20 rfl) rfl (Nat.le_of_ble_eq_true rfl) ?_
    refine xx_getI (j := 10) C ck_7 (lb_ rfl) lf_RX8_141 sh_k98 rfl (dd_X8_look.at 21 rfl) ?_
    rcases ifo_ hf with ⟨hc, hf⟩ | ⟨hc, hf⟩
    · refine xx_icmp_ge_t (tgt := 89) C (dd_X8_look.at 22 rfl) (by decide) hc ?_
      exact xx_mask [true, true, true, true, true, true, false, false] (hK29_89 _ hf)
    · refine xx_icmp_ge_f (tgt := 89) C (dd_X8_look.at 22 rfl) (by decide) hc ?_
      refine xx_iload C (dd_X8_look.at 23 rfl) rfl ?_
      refine xx_iconst C (dd_X8_look.at 24 rfl) ic_1 ?_
      refine xx_iadd C (dd_X8_look.at 25 rfl) ?_
      refine xx_istore (lv' := [_, _, _, _, _, _, _, _]) C (dd_X8_look.at 26 rfl) (lb_ rfl) rfl ?_
      refine xx_mask [true, true, true, true, true, true, true, true] (ss_X8_look_44 C Q (fun u3 hf => ?_) _ _ _ hf)
      refine xx_iinc (v := _ + (1 : Int32)) (lv' := [_, _, _, _, _, _, _, _]) C (dd_X8_look.at 46 rfl) (lb_ rfl) rfl (by rw [ic_1]) rfl ?_
      refine xx_goto (tgt := 29) C (dd_X8_look.at 47 rfl) (by decide) ?_
      exact xx_mask [true, true, true, true, true, true, true, false] (ih _ _ hf)
theorem ss_X8_look_17 {Z : zz_} (C : cx_ Z mt_X8_look 5) {r9 : Int32} {h9 : hh_} {x1 : Int32} {h : hh_}  (Q : rq_ Z (some (.int r9)) h9) : ∀ (n9 : Nat) (x2 : Int32) (x3 : Int32) (x4 : Int32), ff_X8_look_17 x1 h n9 x2 x3 x4 = some (r9, h9) → xx_ Z 17 [some (.ref 98), some (.int x1), some (.int x2), some (.int x3), some (.int x4), none, none, none] [] h := by
  intro n9
  induction n9 with
  | zero =>
    intro x2 x3 x4 hf
    exact absurd hf (by rw [ff_X8_look_17]; exact nofun)
  | succ n9 ih =>
    intro x2 x3 x4 hf
    rw [ff_X8_look_17] at hf
    refine xx_iload C (dd_X8_look.at 12 rfl) rfl ?_
    refine xx_iconst C (dd_X8_look.at 13 rfl) ic_4 ?_
    rcases ifo_ hf with ⟨hc, hf⟩ | ⟨hc, hf⟩
    · refine xx_icmp_ge_t (tgt := 115) C (dd_X8_look.at 14 rfl) (by decide) hc ?_
      refine xx_aload_n C (dd_X8_look.at 61 rfl) rfl (Nat.le_of_ble_eq_true rfl) ?_
      refine xx_iload_n C (dd_X8_look.at 62 rfl) rfl ?_
      refine xx_iload_n C (dd_X8_look.at 63 rfl) rfl ?_
      refine xx_callVi C (ss_X8_ask pe_) (dd_X8_look.at 64 rfl) ck_7 rfl sh_k98 kk_X8_ask ki_X8_ask lm_RX8_98 (lb_ rfl) rfl rfl (lb_ rfl) ?_
      exact xx_ireturn C (rt_iwp hf Q) (dd_X8_look.at 65 rfl) rfl
    · refine xx_icmp_ge_f (tgt := 115) C (dd_X8_look.at 14 rfl) (by decide) hc ?_
      refine xx_iconst C (dd_X8_look.at 15 rfl) ic_0 ?_
      refine xx_istore (lv' := [_, _, _, _, _, _, _, _]) C (dd_X8_look.at 16 rfl) (lb_ rfl) rfl ?_
      refine xx_iconst C (dd_X8_look.at 17 rfl) ic_0 ?_
      refine xx_istore (lv' := [_, _, _, _, _, _, _, _]) C (dd_X8_look.at 18 rfl) (lb_ rfl) rfl ?_
      refine xx_mask [true, true, true, true, true, true, true, false] (ss_X8_look_29 C Q (fun u4 hf => ?_) _ _ _ hf)
      refine xx_iload C (dd_X8_look.at 48 rfl) rfl ?_
      refine xx_iload_n C (dd_X8_look.at 49 rfl) rfl ?_
      rcases ifo_ hf with ⟨hc, hf⟩ | ⟨hc, hf⟩
      · refine xx_icmp_le_t (tgt := 100) C (dd_X8_look.at 50 rfl) (by decide) hc ?_
        refine xx_iload_n C (dd_X8_look.at 53 rfl) rfl ?_
        refine xx_istore_n (lv' := [_, _, _, _, _, _, _, _]) C (dd_X8_look.at 54 rfl) (lb_ rfl) rfl ?_
        refine xx_iload C (dd_X8_look.at 55 rfl) rfl ?_
        refine xx_iload_n C (dd_X8_look.at 56 rfl) rfl ?_
        refine xx_callSi C (ss_X8_greater rfl) (dd_X8_look.at 57 rfl) kk_X8_greater ks_X8_greater lm_RX8_171 (lb_ rfl) rfl rfl (lb_ rfl) ?_
        refine xx_istore_n (lv' := [_, _, _, _, _, _, _, _]) C (dd_X8_look.at 58 rfl) (lb_ rfl) rfl ?_
        refine xx_iinc (v := _ + (1 : Int32)) (lv' := [_, _, _, _, _, _, _, _]) C (dd_X8_look.at 59 rfl) (lb_ rfl) rfl (by rw [ic_1]) rfl ?_
        refine xx_goto (tgt := 17) C (dd_X8_look.at 60 rfl) (by decide) ?_
        exact xx_mask [true, true, true, true, true, false, false, false] (ih _ _ _ hf)
      · refine xx_icmp_le_f (tgt := 100) C (dd_X8_look.at 50 rfl) (by decide) hc ?_
        refine xx_iload C (dd_X8_look.at 51 rfl) rfl ?_
        refine xx_goto (tgt := 101) C (dd_X8_look.at 52 rfl) (by decide) ?_
        refine xx_istore_n (lv' := [_, _, _, _, _, _, _, _]) C (dd_X8_look.at 54 rfl) (lb_ rfl) rfl ?_
        refine xx_iload C (dd_X8_look.at 55 rfl) rfl ?_
        refine xx_iload_n C (dd_X8_look.at 56 rfl) rfl ?_
        refine xx_callSi C (ss_X8_greater rfl) (dd_X8_look.at 57 rfl) kk_X8_greater ks_X8_greater lm_RX8_171 (lb_ rfl) rfl rfl (lb_ rfl) ?_
        refine xx_istore_n (lv' := [_, _, _, _, _, _, _, _]) C (dd_X8_look.at 58 rfl) (lb_ rfl) rfl ?_
        refine xx_iinc (v := _ + (1 : Int32)) (lv' := [_, _, _, _, _, _, _, _]) C (dd_X8_look.at 59 rfl) (lb_ rfl) rfl (by rw [ic_1]) rfl ?_
        refine xx_goto (tgt := 17) C (dd_X8_look.at 60 rfl) (by decide) ?_
        exact xx_mask [true, true, true, true, true, false, false, false] (ih _ _ _ hf)
theorem ss_X8_look {l : Launch} {G : gt_} {a1 : Int32} {h : hh_} {r9 : Int32} {h9 : hh_}  (hf : ff_X8_look a1 h = some (r9, h9)) : ok_ l G 5 mt_X8_look [.ref 98, .int a1] h (some (.int r9)) h9 := by
  refine ok_of pn_RX8 (lb_ rfl) (fun Z _ _ C Q => ?_)
  show xx_ Z 0 [some (.ref 98), some (.int a1), none, none, none, none, none, none] [] h
  unfold ff_X8_look at hf
  refine xx_aload_n C (dd_X8_look.at 0 rfl) rfl (Nat.le_of_ble_eq_true rfl) ?_
  refine xx_iload_n C (dd_X8_look.at 1 rfl) rfl ?_
  refine xx_callVi C (ss_X8_isThumb rfl) (dd_X8_look.at 2 rfl) ck_7 rfl sh_k98 kk_X8_isThumb ki_X8_isThumb lm_RX8_165 (lb_ rfl) rfl rfl (lb_ rfl) ?_
  rcases ifo_ hf with ⟨hc, hf⟩ | ⟨hc, hf⟩
  · refine xx_if_ne_f (tgt := 10) C (dd_X8_look.at 3 rfl) (by decide) (not_not_intro hc) ?_
    refine xx_iconst C (dd_X8_look.at 4 rfl) ic_m1 ?_
    exact xx_ireturn C (rt_iwp hf Q) (dd_X8_look.at 5 rfl) rfl
  · refine xx_if_ne_t (tgt := 10) C (dd_X8_look.at 3 rfl) (by decide) hc ?_
    refine xx_iconst C (dd_X8_look.at 6 rfl) ic_0 ?_
    refine xx_istore_n (lv' := [_, _, _, _, _, _, _, _]) C (dd_X8_look.at 7 rfl) (lb_ rfl) rfl ?_
    refine xx_iconst C (dd_X8_look.at 8 rfl) ic_0 ?_
    refine xx_istore_n (lv' := [_, _, _, _, _, _, _, _]) C (dd_X8_look.at 9 rfl) (lb_ rfl) rfl ?_
    refine xx_iconst C (dd_X8_look.at 10 rfl) ic_0 ?_
    refine xx_istore (lv' := [_, _, _, _, _, _, _, _]) C (dd_X8_look.at 11 rfl) (lb_ rfl) rfl ?_
    exact xx_mask [true, true, true, true, true, false, false, false] (ss_X8_look_17 C Q _ _ _ _ hf)
theorem ss_X8_alike_38 {Z : zz_} (C : cx_ Z mt_X8_alike 5) {r9 : Int32} {x1 : Int32} {x2 : Int32} {x3 : Int32} {x4 : Int32} {h : hh_} {K38_75 : Int32 → Option (Int32)} (Q : rq_ Z (some (.int r9)) h) (hK38_75 : ∀ (z5 : Int32), K38_75 z5 = some r9 → xx_ Z 75 [some (.ref 98), some (.int x1), some (.int x2), some (.int x3), some (.int x4), some (.int z5), none] [] h) : ∀ (n9 : Nat) (x5 : Int32) (x6 : Int32), ff_X8_alike_38 x1 x2 x3 x4 h K38_75 n9 x5 x6 = some r9 → xx_ Z 38 [some (.ref 98), some (.int x1), some (.int x2), some (.int x3), some (.int x4), some (.int x5), some (.int x6)] [] h := by
  intro n9
  induction n9 with
  | zero =>
    intro x5 x6 hf
    exact absurd hf (by rw [ff_X8_alike_38]; exact nofun)
  | succ n9 ih =>
    intro x5 x6 hf
    rw [ff_X8_alike_38] at hf
    refine xx_iload C (dd_X8_alike.at 22 rfl) rfl ?_
    refine xx_iconst C (dd_X8_alike.at 23 rfl) ic_4 ?_
    rcases ifo_ hf with ⟨hc, hf⟩ | ⟨hc, hf⟩
    · refine xx_icmp_ge_t (tgt := 75) C (dd_X8_alike.at 24 rfl) (by decide) hc ?_
      exact xx_mask [true, true, true, true, true, true, false] (hK38_75 _ hf)
    · refine xx_icmp_ge_f (tgt := 75) C (dd_X8_alike.at 24 rfl) (by decide) hc ?_
      refine xx_iload C (dd_X8_alike.at 25 rfl) rfl ?_
      rcases ifo_ hf with ⟨hc, hf⟩ | ⟨hc, hf⟩
      · refine xx_if_ne_f (tgt := 62) C (dd_X8_alike.at 26 rfl) (by decide) (not_not_intro hc) ?_
        refine xx_aload_n C (dd_X8_alike.at 27 rfl) rfl (Nat.le_of_ble_eq_true rfl) ?_
        refine xx_iload_n C (dd_X8_alike.at 28 rfl) rfl ?_
        refine xx_iload C (dd_X8_alike.at 29 rfl) rfl ?_
        refine xx_iload_n C (dd_X8_alike.at 30 rfl) rfl ?_
        refine xx_iload C (dd_X8_alike.at 31 rfl) rfl ?_
        obtain ⟨v1, e2, hf⟩ := bdo_ hf
        refine xx_callVi C (ss_X8_areApart e2) (dd_X8_alike.at 32 rfl) ck_7 rfl sh_k98 kk_X8_areApart ki_X8_areApart lm_RX8_234 (lb_ rfl) rfl rfl (lb_ rfl) ?_
        rcases ifo_ hf with ⟨hc, hf⟩ | ⟨hc, hf⟩
        · refine xx_if_eq_t (tgt := 66) C (dd_X8_alike.at 33 rfl) (by decide) hc ?_
          refine xx_iconst C (dd_X8_alike.at 36 rfl) ic_0 ?_
          refine xx_istore (lv' := [_, _, _, _, _, _, _]) C (dd_X8_alike.at 37 rfl) (lb_ rfl) rfl ?_
          refine xx_iinc (v := _ + (1 : Int32)) (lv' := [_, _, _, _, _, _, _]) C (dd_X8_alike.at 38 rfl) (lb_ rfl) rfl (by rw [ic_1]) rfl ?_
          refine xx_goto (tgt := 38) C (dd_X8_alike.at 39 rfl) (by decide) ?_
          exact xx_mask [true, true, true, true, true, true, true] (ih _ _ hf)
        · refine xx_if_eq_f (tgt := 66) C (dd_X8_alike.at 33 rfl) (by decide) hc ?_
          refine xx_iconst C (dd_X8_alike.at 34 rfl) ic_1 ?_
          refine xx_goto (tgt := 67) C (dd_X8_alike.at 35 rfl) (by decide) ?_
          refine xx_istore (lv' := [_, _, _, _, _, _, _]) C (dd_X8_alike.at 37 rfl) (lb_ rfl) rfl ?_
          refine xx_iinc (v := _ + (1 : Int32)) (lv' := [_, _, _, _, _, _, _]) C (dd_X8_alike.at 38 rfl) (lb_ rfl) rfl (by rw [ic_1]) rfl ?_
          refine xx_goto (tgt := 38) C (dd_X8_alike.at 39 rfl) (by decide) ?_
          exact xx_mask [true, true, true, true, true, true, true] (ih _ _ hf)
      · refine xx_if_ne_t (tgt := 62) C (dd_X8_alike.at 26 rfl) (by decide) hc ?_
        refine xx_iconst C (dd_X8_alike.at 34 rfl) ic_1 ?_
        refine xx_goto (tgt := 67) C (dd_X8_alike.at 35 rfl) (by decide) ?_
        refine xx_istore (lv' := [_, _, _, _, _, _, _]) C (dd_X8_alike.at 37 rfl) (lb_ rfl) rfl ?_
        refine xx_iinc (v := _ + (1 : Int32)) (lv' := [_, _, _, _, _, _, _]) C (dd_X8_alike.at 38 rfl) (lb_ rfl) rfl (by rw [ic_1]) rfl ?_
        refine xx_goto (tgt := 38) C (dd_X8_alike.at 39 rfl) (by decide) ?_
        exact xx_mask [true, true, true, true, true, true, true] (ih _ _ hf)
theorem ss_X8_alike_23 {Z : zz_} (C : cx_ Z mt_X8_alike 5) {r9 : Int32} {x1 : Int32} {x2 : Int32} {h : hh_}  (Q : rq_ Z (some (.int r9)) h) : ∀ (n9 : Nat) (x3 : Int32) (x4 : Int32), ff_X8_alike_23 x1 x2 h n9 x3 x4 = some r9 → xx_ Z 23 [some (.ref 98), some (.int x1), some (.int x2), some (.int x3), some (.int x4), none, none] [] h := by
  intro n9
  induction n9 with
  | zero =>
    intro x3 x4 hf
    exact absurd hf (by rw [ff_X8_alike_23]; exact nofun)
  | succ n9 ih =>
    intro x3 x4 hf
    rw [ff_X8_alike_23] at hf
    refine xx_iload C (dd_X8_alike.at 14 rfl) rfl ?_
    refine xx_aload_n C (dd_X8_alike.at 15 rfl) rfl (Nat.le_of_ble_eq_true rfl) ?_
    refine xx_getI (j := 10) C ck_7 (lb_ rfl) lf_RX8_141 sh_k98 rfl (dd_X8_alike.at 16 rfl) ?_
    rcases ifo_ hf with ⟨hc, hf⟩ | ⟨hc, hf⟩
    · refine xx_icmp_ge_t (tgt := 97) C (dd_X8_alike.at 17 rfl) (by decide) hc ?_
      refine xx_iload_n C (dd_X8_alike.at 52 rfl) rfl ?_
      exact xx_ireturn C (rt_ip hf Q) (dd_X8_alike.at 53 rfl) rfl
    · refine xx_icmp_ge_f (tgt := 97) C (dd_X8_alike.at 17 rfl) (by decide) hc ?_
      refine xx_iconst C (dd_X8_alike.at 18 rfl) ic_0 ?_
      refine xx_istore (lv' := [_, _, _, _, _, _, _]) C (dd_X8_alike.at 19 rfl) (lb_ rfl) rfl ?_
      refine xx_iconst C (dd_X8_alike.at 20 rfl) ic_0 ?_
      refine xx_istore (lv' := [_, _, _, _, _, _, _]) C (dd_X8_alike.at 21 rfl) (lb_ rfl) rfl ?_
      refine xx_mask [true, true, true, true, true, true, true] (ss_X8_alike_38 C Q (fun u3 hf => ?_) _ _ _ hf)
      refine xx_iload_n C (dd_X8_alike.at 40 rfl) rfl ?_
      refine xx_iload C (dd_X8_alike.at 41 rfl) rfl ?_
      rcases ifo_ hf with ⟨hc, hf⟩ | ⟨hc, hf⟩
      · refine xx_if_eq_t (tgt := 85) C (dd_X8_alike.at 42 rfl) (by decide) hc ?_
        refine xx_iconst C (dd_X8_alike.at 45 rfl) ic_1 ?_
        refine xx_iload C (dd_X8_alike.at 46 rfl) rfl ?_
        refine xx_ishl C (dd_X8_alike.at 47 rfl) ?_
        refine xx_ior C (dd_X8_alike.at 48 rfl) ?_
        refine xx_istore_n (lv' := [_, _, _, _, _, _, _]) C (dd_X8_alike.at 49 rfl) (lb_ rfl) rfl ?_
        refine xx_iinc (v := _ + (1 : Int32)) (lv' := [_, _, _, _, _, _, _]) C (dd_X8_alike.at 50 rfl) (lb_ rfl) rfl (by rw [ic_1]) rfl ?_
        refine xx_goto (tgt := 23) C (dd_X8_alike.at 51 rfl) (by decide) ?_
        exact xx_mask [true, true, true, true, true, false, false] (ih _ _ hf)
      · refine xx_if_eq_f (tgt := 85) C (dd_X8_alike.at 42 rfl) (by decide) hc ?_
        refine xx_iconst C (dd_X8_alike.at 43 rfl) ic_0 ?_
        refine xx_goto (tgt := 89) C (dd_X8_alike.at 44 rfl) (by decide) ?_
        refine xx_ior C (dd_X8_alike.at 48 rfl) ?_
        refine xx_istore_n (lv' := [_, _, _, _, _, _, _]) C (dd_X8_alike.at 49 rfl) (lb_ rfl) rfl ?_
        refine xx_iinc (v := _ + (1 : Int32)) (lv' := [_, _, _, _, _, _, _]) C (dd_X8_alike.at 50 rfl) (lb_ rfl) rfl (by rw [ic_1]) rfl ?_
        refine xx_goto (tgt := 23) C (dd_X8_alike.at 51 rfl) (by decide) ?_
        exact xx_mask [true, true, true, true, true, false, false] (ih _ _ hf)
theorem ss_X8_alike {l : Launch} {G : gt_} {a1 : Int32} {a2 : Int32} {h : hh_} {r9 : Int32}  (hf : ff_X8_alike a1 a2 h = some r9) : ok_ l G 5 mt_X8_alike [.ref 98, .int a1, .int a2] h (some (.int r9)) h := by
  refine ok_of pn_RX8 (lb_ rfl) (fun Z _ _ C Q => ?_)
  show xx_ Z 0 [some (.ref 98), some (.int a1), some (.int a2), none, none, none, none] [] h
  unfold ff_X8_alike at hf
  refine xx_aload_n C (dd_X8_alike.at 0 rfl) rfl (Nat.le_of_ble_eq_true rfl) ?_
  refine xx_iload_n C (dd_X8_alike.at 1 rfl) rfl ?_
  refine xx_callVi C (ss_X8_isThumb rfl) (dd_X8_alike.at 2 rfl) ck_7 rfl sh_k98 kk_X8_isThumb ki_X8_isThumb lm_RX8_165 (lb_ rfl) rfl rfl (lb_ rfl) ?_
  rcases ifo_ hf with ⟨hc, hf⟩ | ⟨hc, hf⟩
  · refine xx_if_eq_t (tgt := 16) C (dd_X8_alike.at 3 rfl) (by decide) hc ?_
    refine xx_iconst C (dd_X8_alike.at 8 rfl) ic_m1 ?_
    exact xx_ireturn C (rt_ip hf Q) (dd_X8_alike.at 9 rfl) rfl
  · refine xx_if_eq_f (tgt := 16) C (dd_X8_alike.at 3 rfl) (by decide) hc ?_
    refine xx_aload_n C (dd_X8_alike.at 4 rfl) rfl (Nat.le_of_ble_eq_true rfl) ?_
    refine xx_iload_n C (dd_X8_alike.at 5 rfl) rfl ?_
    refine xx_callVi C (ss_X8_isHead rfl) (dd_X8_alike.at 6 rfl) ck_7 rfl sh_k98 kk_X8_isHead ki_X8_isHead lm_RX8_159 (lb_ rfl) rfl rfl (lb_ rfl) ?_
    rcases ifo_ hf with ⟨hc, hf⟩ | ⟨hc, hf⟩
    · refine xx_if_ne_f (tgt := 18) C (dd_X8_alike.at 7 rfl) (by decide) (not_not_intro hc) ?_
      refine xx_iconst C (dd_X8_alike.at 8 rfl) ic_m1 ?_
      exact xx_ireturn C (rt_ip hf Q) (dd_X8_alike.at 9 rfl) rfl
    · refine xx_if_ne_t (tgt := 18) C (dd_X8_alike.at 7 rfl) (by decide) hc ?_
      refine xx_iconst C (dd_X8_alike.at 10 rfl) ic_0 ?_
      refine xx_istore_n (lv' := [_, _, _, _, _, _, _]) C (dd_X8_alike.at 11 rfl) (lb_ rfl) rfl ?_
      refine xx_iconst C (dd_X8_alike.at 12 rfl) ic_0 ?_
      refine xx_istore (lv' := [_, _, _, _, _, _, _]) C (dd_X8_alike.at 13 rfl) (lb_ rfl) rfl ?_
      exact xx_mask [true, true, true, true, true, false, false] (ss_X8_alike_23 C Q _ _ _ hf)
theorem ss_X8_need {l : Launch} {G : gt_} {a1 : Int32} {a2 : Int32} {h : hh_} {r9 : Int32}  (hf : ff_X8_need a1 a2 h = some r9) : ok_ l G 0 mt_X8_need [.ref 98, .int a1, .int a2] h (some (.int r9)) h := by
  refine ok_of pn_RX8 (lb_ rfl) (fun Z _ _ C Q => ?_)
  show xx_ Z 0 [some (.ref 98), some (.int a1), some (.int a2)] [] h
  unfold ff_X8_need at hf
  refine xx_aload_n C (dd_X8_need.at 0 rfl) rfl (Nat.le_of_ble_eq_true rfl) ?_
  refine xx_getR (j := 15) (r := 107) C ck_7 (lb_ rfl) lf_RX8_38 sh_k98 rfl (lb_ rfl) rfl (dd_X8_need.at 1 rfl) ?_
  refine xx_iconst C (dd_X8_need.at 2 rfl) ic_5 ?_
  refine xx_iload_n C (dd_X8_need.at 3 rfl) rfl ?_
  refine xx_imul C (dd_X8_need.at 4 rfl) ?_
  refine xx_iload_n C (dd_X8_need.at 5 rfl) rfl ?_
  refine xx_iadd C (dd_X8_need.at 6 rfl) ?_
  obtain ⟨g1, hf⟩ := gd_ok hf
  refine xx_iaload C (dd_X8_need.at 7 rfl) sh_k107 (bi_ok g1) ?_
  exact xx_ireturn C (rt_ip hf Q) (dd_X8_need.at 8 rfl) rfl
