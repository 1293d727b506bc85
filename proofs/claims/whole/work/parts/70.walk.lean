theorem ss_X8_goesOn_20 {Z : zz_} (C : cx_ Z mt_X8_goesOn 3) {r9 : Int32} {h9 : hh_} {x1 : Int32} {K20_108 : hh_ → Option (Int32 × hh_)} (Q : rq_ Z (some (.int r9)) h9) (hK20_108 : ∀ (h8 : hh_), K20_108 h8 = some (r9, h9) → xx_ Z 108 [some (.ref 98), some (.int x1), none] [] h8) : ∀ (n9 : Nat) (h : hh_), ff_X8_goesOn_20 x1 K20_108 n9 h = some (r9, h9) → xx_ Z 20 [some (.ref 98), some (.int x1), none] [] h := by
  intro n9
  induction n9 with
  | zero =>
    intro h hf
    exact absurd hf (by rw [ff_X8_goesOn_20]; exact nofun)
  | succ n9 ih =>
    intro h hf
    rw [ff_X8_goesOn_20] at hf
    refine xx_aload_n C (dd_X8_goesOn.at 12 rfl) rfl (Nat.le_of_ble_eq_true rfl) ?_
    refine xx_getI (j := 16) C ck_7 (lb_ rfl) lf_RX8_107 sh_k98 rfl (dd_X8_goesOn.at 13 rfl) ?_
    refine xx_aload_n C (dd_X8_goesOn.at 14 rfl) rfl (Nat.le_of_ble_eq_true rfl) ?_
    refine xx_getR (j := 8) (r := 103) C ck_7 (lb_ rfl) lf_RX8_26 sh_k98 rfl (lb_ rfl) rfl (dd_X8_goesOn.at 15 rfl) ?_
    refine xx_iload_n C (dd_X8_goesOn.at 16 rfl) rfl ?_
    obtain ⟨g1, hf⟩ := gd_ok hf
    refine xx_iaload C (dd_X8_goesOn.at 17 rfl) sh_k103 (bi_ok g1) ?_
    rcases ifo_ hf with ⟨hc, hf⟩ | ⟨hc, hf⟩
    · refine xx_icmp_ge_t (tgt := 108) C (dd_X8_goesOn.at 18 rfl) (by decide) hc ?_
      exact xx_mask [true, true, false] (hK20_108 _ hf)
    · refine xx_icmp_ge_f (tgt := 108) C (dd_X8_goesOn.at 18 rfl) (by decide) hc ?_
      refine xx_aload_n C (dd_X8_goesOn.at 19 rfl) rfl (Nat.le_of_ble_eq_true rfl) ?_
      refine xx_iload_n C (dd_X8_goesOn.at 20 rfl) rfl ?_
      obtain ⟨v2, e3, hf⟩ := bdo_ hf
      refine xx_callVi C (ss_X8_here e3) (dd_X8_goesOn.at 21 rfl) ck_7 rfl sh_k98 kk_X8_here ki_X8_here lm_RX8_110 (lb_ rfl) rfl rfl (lb_ rfl) ?_
      refine xx_istore_n (lv' := [_, _, _]) C (dd_X8_goesOn.at 22 rfl) (lb_ rfl) rfl ?_
      refine xx_iload_n C (dd_X8_goesOn.at 23 rfl) rfl ?_
      refine xx_bipush C (dd_X8_goesOn.at 24 rfl) bq_32 ?_
      rcases ifo_ hf with ⟨hc, hf⟩ | ⟨hc, hf⟩
      · refine xx_icmp_ne_f (tgt := 58) C (dd_X8_goesOn.at 25 rfl) (by decide) (not_not_intro hc) ?_
        refine xx_aload_n C (dd_X8_goesOn.at 26 rfl) rfl (Nat.le_of_ble_eq_true rfl) ?_
        refine xx_dup C (dd_X8_goesOn.at 27 rfl) rfl ?_
        refine xx_getI (j := 16) C ck_7 (lb_ rfl) lf_RX8_107 sh_k98 rfl (dd_X8_goesOn.at 28 rfl) ?_
        refine xx_iconst C (dd_X8_goesOn.at 29 rfl) ic_1 ?_
        refine xx_iadd C (dd_X8_goesOn.at 30 rfl) ?_
        refine xx_putI (j := 16) C ck_7 (lb_ rfl) lf_RX8_107 rfl rfl sh_k98 rfl (dd_X8_goesOn.at 31 rfl) ?_
        refine xx_goto (tgt := 105) C (dd_X8_goesOn.at 32 rfl) (by decide) ?_
        refine xx_goto (tgt := 20) C (dd_X8_goesOn.at 56 rfl) (by decide) ?_
        exact xx_mask [true, true, false] (ih  _ hf)
      · refine xx_icmp_ne_t (tgt := 58) C (dd_X8_goesOn.at 25 rfl) (by decide) hc ?_
        refine xx_iload_n C (dd_X8_goesOn.at 33 rfl) rfl ?_
        refine xx_bipush C (dd_X8_goesOn.at 34 rfl) bq_104 ?_
        rcases ifo_ hf with ⟨hc, hf⟩ | ⟨hc, hf⟩
        · refine xx_icmp_ne_f (tgt := 75) C (dd_X8_goesOn.at 35 rfl) (by decide) (not_not_intro hc) ?_
          refine xx_aload_n C (dd_X8_goesOn.at 36 rfl) rfl (Nat.le_of_ble_eq_true rfl) ?_
          refine xx_iload_n C (dd_X8_goesOn.at 37 rfl) rfl ?_
          obtain ⟨v8, e9, hf⟩ := bdo_ hf
          refine xx_callVi C (ss_X8_readsHead (pz_ e9)) (dd_X8_goesOn.at 38 rfl) ck_7 rfl sh_k98 kk_X8_readsHead ki_X8_readsHead lm_RX8_129 (lb_ rfl) rfl rfl (lb_ rfl) ?_
          rcases ifo_ hf with ⟨hc, hf⟩ | ⟨hc, hf⟩
          · refine xx_if_ne_f (tgt := 105) C (dd_X8_goesOn.at 39 rfl) (by decide) (not_not_intro hc) ?_
            refine xx_goto (tgt := 100) C (dd_X8_goesOn.at 40 rfl) (by decide) ?_
            refine xx_aload_n C (dd_X8_goesOn.at 53 rfl) rfl (Nat.le_of_ble_eq_true rfl) ?_
            refine xx_getI (j := 16) C ck_7 (lb_ rfl) lf_RX8_107 sh_k98 rfl (dd_X8_goesOn.at 54 rfl) ?_
            exact xx_ireturn C (rt_iwp hf Q) (dd_X8_goesOn.at 55 rfl) rfl
          · refine xx_if_ne_t (tgt := 105) C (dd_X8_goesOn.at 39 rfl) (by decide) hc ?_
            refine xx_goto (tgt := 20) C (dd_X8_goesOn.at 56 rfl) (by decide) ?_
            exact xx_mask [true, true, false] (ih  _ hf)
        · refine xx_icmp_ne_t (tgt := 75) C (dd_X8_goesOn.at 35 rfl) (by decide) hc ?_
          refine xx_iload_n C (dd_X8_goesOn.at 41 rfl) rfl ?_
          refine xx_bipush C (dd_X8_goesOn.at 42 rfl) bq_112 ?_
          rcases ifo_ hf with ⟨hc, hf⟩ | ⟨hc, hf⟩
          · refine xx_icmp_ne_f (tgt := 92) C (dd_X8_goesOn.at 43 rfl) (by decide) (not_not_intro hc) ?_
            refine xx_aload_n C (dd_X8_goesOn.at 44 rfl) rfl (Nat.le_of_ble_eq_true rfl) ?_
            refine xx_iload_n C (dd_X8_goesOn.at 45 rfl) rfl ?_
            obtain ⟨v6, e7, hf⟩ := bdo_ hf
            refine xx_callVi C (ss_X8_readsPost (pz_ e7)) (dd_X8_goesOn.at 46 rfl) ck_7 rfl sh_k98 kk_X8_readsPost ki_X8_readsPost lm_RX8_132 (lb_ rfl) rfl rfl (lb_ rfl) ?_
            rcases ifo_ hf with ⟨hc, hf⟩ | ⟨hc, hf⟩
            · refine xx_if_ne_f (tgt := 105) C (dd_X8_goesOn.at 47 rfl) (by decide) (not_not_intro hc) ?_
              refine xx_goto (tgt := 100) C (dd_X8_goesOn.at 48 rfl) (by decide) ?_
              refine xx_aload_n C (dd_X8_goesOn.at 53 rfl) rfl (Nat.le_of_ble_eq_true rfl) ?_
              refine xx_getI (j := 16) C ck_7 (lb_ rfl) lf_RX8_107 sh_k98 rfl (dd_X8_goesOn.at 54 rfl) ?_
              exact xx_ireturn C (rt_iwp hf Q) (dd_X8_goesOn.at 55 rfl) rfl
            · refine xx_if_ne_t (tgt := 105) C (dd_X8_goesOn.at 47 rfl) (by decide) hc ?_
              refine xx_goto (tgt := 20) C (dd_X8_goesOn.at 56 rfl) (by decide) ?_
              exact xx_mask [true, true, false] (ih  _ hf)
          · refine xx_icmp_ne_t (tgt := 92) C (dd_X8_goesOn.at 43 rfl) (by decide) hc ?_
            refine xx_aload_n C (dd_X8_goesOn.at 49 rfl) rfl (Nat.le_of_ble_eq_true rfl) ?_
            refine xx_iload_n C (dd_X8_goesOn.at 50 rfl) rfl ?_
            obtain ⟨v4, e5, hf⟩ := bdo_ hf
            refine xx_callVi C (ss_X8_readsThumb (pz_ e5)) (dd_X8_goesOn.at 51 rfl) ck_7 rfl sh_k98 kk_X8_readsThumb ki_X8_readsThumb lm_RX8_135 (lb_ rfl) rfl rfl (lb_ rfl) ?_
            rcases ifo_ hf with ⟨hc, hf⟩ | ⟨hc, hf⟩
            · refine xx_if_ne_f (tgt := 105) C (dd_X8_goesOn.at 52 rfl) (by decide) (not_not_intro hc) ?_
              refine xx_aload_n C (dd_X8_goesOn.at 53 rfl) rfl (Nat.le_of_ble_eq_true rfl) ?_
              refine xx_getI (j := 16) C ck_7 (lb_ rfl) lf_RX8_107 sh_k98 rfl (dd_X8_goesOn.at 54 rfl) ?_
              exact xx_ireturn C (rt_iwp hf Q) (dd_X8_goesOn.at 55 rfl) rfl
            · refine xx_if_ne_t (tgt := 105) C (dd_X8_goesOn.at 52 rfl) (by decide) hc ?_
              refine xx_goto (tgt := 20) C (dd_X8_goesOn.at 56 rfl) (by decide) ?_
              exact xx_mask [true, true, false] (ih  _ hf)
theorem ss_X8_goesOn {l : Launch} {G : gt_} {a1 : Int32} {h : hh_} {r9 : Int32} {h9 : hh_}  (hf : ff_X8_goesOn a1 h = some (r9, h9)) : ok_ l G 3 mt_X8_goesOn [.ref 98, .int a1] h (some (.int r9)) h9 := by
  refine ok_of pn_RX8 (lb_ rfl) (fun Z _ _ C Q => ?_)
  show xx_ Z 0 [some (.ref 98), some (.int a1), none] [] h
  unfold ff_X8_goesOn at hf
  refine xx_aload_n C (dd_X8_goesOn.at 0 rfl) rfl (Nat.le_of_ble_eq_true rfl) ?_
  refine xx_iconst C (dd_X8_goesOn.at 1 rfl) ic_0 ?_
  refine xx_putI (j := 16) C ck_7 (lb_ rfl) lf_RX8_107 rfl rfl sh_k98 rfl (dd_X8_goesOn.at 2 rfl) ?_
  refine xx_aload_n C (dd_X8_goesOn.at 3 rfl) rfl (Nat.le_of_ble_eq_true rfl) ?_
  refine xx_iconst C (dd_X8_goesOn.at 4 rfl) ic_0 ?_
  refine xx_putI (j := 17) C ck_7 (lb_ rfl) lf_RX8_113 rfl rfl sh_k98 rfl (dd_X8_goesOn.at 5 rfl) ?_
  refine xx_aload_n C (dd_X8_goesOn.at 6 rfl) rfl (Nat.le_of_ble_eq_true rfl) ?_
  refine xx_iconst C (dd_X8_goesOn.at 7 rfl) ic_0 ?_
  refine xx_putI (j := 18) C ck_7 (lb_ rfl) lf_RX8_116 rfl rfl sh_k98 rfl (dd_X8_goesOn.at 8 rfl) ?_
  refine xx_aload_n C (dd_X8_goesOn.at 9 rfl) rfl (Nat.le_of_ble_eq_true rfl) ?_
  refine xx_iconst C (dd_X8_goesOn.at 10 rfl) ic_0 ?_
  refine xx_putI (j := 19) C ck_7 (lb_ rfl) lf_RX8_119 rfl rfl sh_k98 rfl (dd_X8_goesOn.at 11 rfl) ?_
  refine xx_mask [true, true, false] (ss_X8_goesOn_20 C Q (fun k10 hf => ?_) _ _ hf)
  refine xx_aload_n C (dd_X8_goesOn.at 57 rfl) rfl (Nat.le_of_ble_eq_true rfl) ?_
  refine xx_getI (j := 17) C ck_7 (lb_ rfl) lf_RX8_113 sh_k98 rfl (dd_X8_goesOn.at 58 rfl) ?_
  rcases ifo_ hf with ⟨hc, hf⟩ | ⟨hc, hf⟩
  · refine xx_if_ne_f (tgt := 124) C (dd_X8_goesOn.at 59 rfl) (by decide) (not_not_intro hc) ?_
    refine xx_aload_n C (dd_X8_goesOn.at 60 rfl) rfl (Nat.le_of_ble_eq_true rfl) ?_
    refine xx_getR (j := 8) (r := 103) C ck_7 (lb_ rfl) lf_RX8_26 sh_k98 rfl (lb_ rfl) rfl (dd_X8_goesOn.at 61 rfl) ?_
    refine xx_iload_n C (dd_X8_goesOn.at 62 rfl) rfl ?_
    obtain ⟨g11, hf⟩ := gd_ok hf
    refine xx_iaload C (dd_X8_goesOn.at 63 rfl) sh_k103 (bi_ok g11) ?_
    refine xx_goto (tgt := 126) C (dd_X8_goesOn.at 64 rfl) (by decide) ?_
    exact xx_ireturn C (rt_iwp hf Q) (dd_X8_goesOn.at 66 rfl) rfl
  · refine xx_if_ne_t (tgt := 124) C (dd_X8_goesOn.at 59 rfl) (by decide) hc ?_
    refine xx_bipush C (dd_X8_goesOn.at 65 rfl) bq_m9 ?_
    exact xx_ireturn C (rt_iwp hf Q) (dd_X8_goesOn.at 66 rfl) rfl
theorem ss_X8_fault {l : Launch} {G : gt_} {a1 : Int32} {h : hh_} {r9 : Int32} {h9 : hh_}  (hf : ff_X8_fault a1 h = some (r9, h9)) : ok_ l G 4 mt_X8_fault [.ref 98, .int a1] h (some (.int r9)) h9 := by
  refine ok_of pn_RX8 (lb_ rfl) (fun Z _ _ C Q => ?_)
  show xx_ Z 0 [some (.ref 98), some (.int a1), none] [] h
  unfold ff_X8_fault at hf
  refine xx_aload_n C (dd_X8_fault.at 0 rfl) rfl (Nat.le_of_ble_eq_true rfl) ?_
  refine xx_iload_n C (dd_X8_fault.at 1 rfl) rfl ?_
  obtain ⟨v1, e2, hf⟩ := bdo_ hf
  refine xx_callVi C (ss_X8_askedText (pz_ e2)) (dd_X8_fault.at 2 rfl) ck_7 rfl sh_k98 kk_X8_askedText ki_X8_askedText lm_RX8_104 (lb_ rfl) rfl rfl (lb_ rfl) ?_
  refine xx_istore_n (lv' := [_, _, _]) C (dd_X8_fault.at 3 rfl) (lb_ rfl) rfl ?_
  refine xx_iload_n C (dd_X8_fault.at 4 rfl) rfl ?_
  rcases ifo_ hf with ⟨hc, hf⟩ | ⟨hc, hf⟩
  · refine xx_if_ge_t (tgt := 14) C (dd_X8_fault.at 5 rfl) (by decide) hc ?_
    refine xx_aload_n C (dd_X8_fault.at 8 rfl) rfl (Nat.le_of_ble_eq_true rfl) ?_
    refine xx_iload_n C (dd_X8_fault.at 9 rfl) rfl ?_
    obtain ⟨v3, e4, hf⟩ := bdo_ hf
    refine xx_callVi C (ss_X8_goesOn (pz_ e4)) (dd_X8_fault.at 10 rfl) ck_7 rfl sh_k98 kk_X8_goesOn ki_X8_goesOn lm_RX8_138 (lb_ rfl) rfl rfl (lb_ rfl) ?_
    exact xx_ireturn C (rt_iwp hf Q) (dd_X8_fault.at 11 rfl) rfl
  · refine xx_if_ge_f (tgt := 14) C (dd_X8_fault.at 5 rfl) (by decide) hc ?_
    refine xx_iload_n C (dd_X8_fault.at 6 rfl) rfl ?_
    refine xx_goto (tgt := 19) C (dd_X8_fault.at 7 rfl) (by decide) ?_
    exact xx_ireturn C (rt_iwp hf Q) (dd_X8_fault.at 11 rfl) rfl
theorem ss_X8_office_51 {Z : zz_} (C : cx_ Z mt_X8_office 4) {r9 : Int32} {h9 : hh_}  {K51_75 : hh_ → Option (Int32 × hh_)} (Q : rq_ Z (some (.int r9)) h9) (hK51_75 : ∀ (h8 : hh_), K51_75 h8 = some (r9, h9) → xx_ Z 75 [some (.ref 98), none, none, none] [] h8) : ∀ (n9 : Nat) (x3 : Int32) (h : hh_), ff_X8_office_51 K51_75 n9 x3 h = some (r9, h9) → xx_ Z 51 [some (.ref 98), none, none, some (.int x3)] [] h := by
  intro n9
  induction n9 with
  | zero =>
    intro x3 h hf
    exact absurd hf (by rw [ff_X8_office_51]; exact nofun)
  | succ n9 ih =>
    intro x3 h hf
    rw [ff_X8_office_51] at hf
    refine xx_iload_n C (dd_X8_office.at 29 rfl) rfl ?_
    refine xx_bipush C (dd_X8_office.at 30 rfl) bq_25 ?_
    rcases ifo_ hf with ⟨hc, hf⟩ | ⟨hc, hf⟩
    · refine xx_icmp_ge_t (tgt := 75) C (dd_X8_office.at 31 rfl) (by decide) hc ?_
      exact xx_mask [true, false, false, false] (hK51_75 _ hf)
    · refine xx_icmp_ge_f (tgt := 75) C (dd_X8_office.at 31 rfl) (by decide) hc ?_
      refine xx_aload_n C (dd_X8_office.at 32 rfl) rfl (Nat.le_of_ble_eq_true rfl) ?_
      refine xx_getR (j := 13) (r := 105) C ck_7 (lb_ rfl) lf_RX8_32 sh_k98 rfl (lb_ rfl) rfl (dd_X8_office.at 33 rfl) ?_
      refine xx_iload_n C (dd_X8_office.at 34 rfl) rfl ?_
      refine xx_aload_n C (dd_X8_office.at 35 rfl) rfl (Nat.le_of_ble_eq_true rfl) ?_
      refine xx_getR (j := 20) (r := 108) C ck_7 (lb_ rfl) lf_RX8_41 sh_k98 rfl (lb_ rfl) rfl (dd_X8_office.at 36 rfl) ?_
      refine xx_iload_n C (dd_X8_office.at 37 rfl) rfl ?_
      obtain ⟨g5, hf⟩ := gd_ok hf
      refine xx_iaload C (dd_X8_office.at 38 rfl) sh_k108 (bi_ok g5) ?_
      obtain ⟨g6, hf⟩ := gd_ok hf
      refine xx_iastore C (dd_X8_office.at 39 rfl) sh_k105 (bi_ok g6) ?_
      refine xx_iinc (v := _ + (1 : Int32)) (lv' := [_, _, _, _]) C (dd_X8_office.at 40 rfl) (lb_ rfl) rfl (by rw [ic_1]) rfl ?_
      refine xx_goto (tgt := 51) C (dd_X8_office.at 41 rfl) (by decide) ?_
      exact xx_mask [true, false, false, true] (ih _ _ hf)
theorem ss_X8_office_77 {Z : zz_} (C : cx_ Z mt_X8_office 4) {r9 : Int32} {h9 : hh_}  {K77_104 : hh_ → Option (Int32 × hh_)} (Q : rq_ Z (some (.int r9)) h9) (hK77_104 : ∀ (h8 : hh_), K77_104 h8 = some (r9, h9) → xx_ Z 104 [some (.ref 98), none, none, none] [] h8) : ∀ (n9 : Nat) (x3 : Int32) (h : hh_), ff_X8_office_77 K77_104 n9 x3 h = some (r9, h9) → xx_ Z 77 [some (.ref 98), none, none, some (.int x3)] [] h := by
  intro n9
  induction n9 with
  | zero =>
    intro x3 h hf
    exact absurd hf (by rw [ff_X8_office_77]; exact nofun)
  | succ n9 ih =>
    intro x3 h hf
    rw [ff_X8_office_77] at hf
    refine xx_iload_n C (dd_X8_office.at 44 rfl) rfl ?_
    refine xx_bipush C (dd_X8_office.at 45 rfl) bq_12 ?_
    rcases ifo_ hf with ⟨hc, hf⟩ | ⟨hc, hf⟩
    · refine xx_icmp_ge_t (tgt := 104) C (dd_X8_office.at 46 rfl) (by decide) hc ?_
      exact xx_mask [true, false, false, false] (hK77_104 _ hf)
    · refine xx_icmp_ge_f (tgt := 104) C (dd_X8_office.at 46 rfl) (by decide) hc ?_
      refine xx_aload_n C (dd_X8_office.at 47 rfl) rfl (Nat.le_of_ble_eq_true rfl) ?_
      refine xx_getR (j := 14) (r := 106) C ck_7 (lb_ rfl) lf_RX8_35 sh_k98 rfl (lb_ rfl) rfl (dd_X8_office.at 48 rfl) ?_
      refine xx_iload_n C (dd_X8_office.at 49 rfl) rfl ?_
      refine xx_aload_n C (dd_X8_office.at 50 rfl) rfl (Nat.le_of_ble_eq_true rfl) ?_
      refine xx_getR (j := 20) (r := 108) C ck_7 (lb_ rfl) lf_RX8_41 sh_k98 rfl (lb_ rfl) rfl (dd_X8_office.at 51 rfl) ?_
      refine xx_bipush C (dd_X8_office.at 52 rfl) bq_25 ?_
      refine xx_iload_n C (dd_X8_office.at 53 rfl) rfl ?_
      refine xx_iadd C (dd_X8_office.at 54 rfl) ?_
      obtain ⟨g8, hf⟩ := gd_ok hf
      refine xx_iaload C (dd_X8_office.at 55 rfl) sh_k108 (bi_ok g8) ?_
      obtain ⟨g9, hf⟩ := gd_ok hf
      refine xx_iastore C (dd_X8_office.at 56 rfl) sh_k106 (bi_ok g9) ?_
      refine xx_iinc (v := _ + (1 : Int32)) (lv' := [_, _, _, _]) C (dd_X8_office.at 57 rfl) (lb_ rfl) rfl (by rw [ic_1]) rfl ?_
      refine xx_goto (tgt := 77) C (dd_X8_office.at 58 rfl) (by decide) ?_
      exact xx_mask [true, false, false, true] (ih _ _ hf)
theorem ss_X8_office_106 {Z : zz_} (C : cx_ Z mt_X8_office 4) {r9 : Int32} {h9 : hh_}  {K106_133 : hh_ → Option (Int32 × hh_)} (Q : rq_ Z (some (.int r9)) h9) (hK106_133 : ∀ (h8 : hh_), K106_133 h8 = some (r9, h9) → xx_ Z 133 [some (.ref 98), none, none, none] [] h8) : ∀ (n9 : Nat) (x3 : Int32) (h : hh_), ff_X8_office_106 K106_133 n9 x3 h = some (r9, h9) → xx_ Z 106 [some (.ref 98), none, none, some (.int x3)] [] h := by
  intro n9
  induction n9 with
  | zero =>
    intro x3 h hf
    exact absurd hf (by rw [ff_X8_office_106]; exact nofun)
  | succ n9 ih =>
    intro x3 h hf
    rw [ff_X8_office_106] at hf
    refine xx_iload_n C (dd_X8_office.at 61 rfl) rfl ?_
    refine xx_bipush C (dd_X8_office.at 62 rfl) bq_20 ?_
    rcases ifo_ hf with ⟨hc, hf⟩ | ⟨hc, hf⟩
    · refine xx_icmp_ge_t (tgt := 133) C (dd_X8_office.at 63 rfl) (by decide) hc ?_
      exact xx_mask [true, false, false, false] (hK106_133 _ hf)
    · refine xx_icmp_ge_f (tgt := 133) C (dd_X8_office.at 63 rfl) (by decide) hc ?_
      refine xx_aload_n C (dd_X8_office.at 64 rfl) rfl (Nat.le_of_ble_eq_true rfl) ?_
      refine xx_getR (j := 15) (r := 107) C ck_7 (lb_ rfl) lf_RX8_38 sh_k98 rfl (lb_ rfl) rfl (dd_X8_office.at 65 rfl) ?_
      refine xx_iload_n C (dd_X8_office.at 66 rfl) rfl ?_
      refine xx_aload_n C (dd_X8_office.at 67 rfl) rfl (Nat.le_of_ble_eq_true rfl) ?_
      refine xx_getR (j := 20) (r := 108) C ck_7 (lb_ rfl) lf_RX8_41 sh_k98 rfl (lb_ rfl) rfl (dd_X8_office.at 68 rfl) ?_
      refine xx_bipush C (dd_X8_office.at 69 rfl) bq_37 ?_
      refine xx_iload_n C (dd_X8_office.at 70 rfl) rfl ?_
      refine xx_iadd C (dd_X8_office.at 71 rfl) ?_
      obtain ⟨g11, hf⟩ := gd_ok hf
      refine xx_iaload C (dd_X8_office.at 72 rfl) sh_k108 (bi_ok g11) ?_
      obtain ⟨g12, hf⟩ := gd_ok hf
      refine xx_iastore C (dd_X8_office.at 73 rfl) sh_k107 (bi_ok g12) ?_
      refine xx_iinc (v := _ + (1 : Int32)) (lv' := [_, _, _, _]) C (dd_X8_office.at 74 rfl) (lb_ rfl) rfl (by rw [ic_1]) rfl ?_
      refine xx_goto (tgt := 106) C (dd_X8_office.at 75 rfl) (by decide) ?_
      exact xx_mask [true, false, false, true] (ih _ _ hf)
theorem ss_X8_office_140 {Z : zz_} (C : cx_ Z mt_X8_office 4) {r9 : Int32} {h9 : hh_}   (Q : rq_ Z (some (.int r9)) h9) : ∀ (n9 : Nat) (x3 : Int32) (h : hh_), ff_X8_office_140 n9 x3 h = some (r9, h9) → xx_ Z 140 [some (.ref 98), none, none, some (.int x3)] [] h := by
  intro n9
  induction n9 with
  | zero =>
    intro x3 h hf
    exact absurd hf (by rw [ff_X8_office_140]; exact nofun)
  | succ n9 ih =>
    intro x3 h hf
    rw [ff_X8_office_140] at hf
    refine xx_iload_n C (dd_X8_office.at 81 rfl) rfl ?_
    refine xx_iconst C (dd_X8_office.at 82 rfl) ic_3 ?_
    rcases ifo_ hf with ⟨hc, hf⟩ | ⟨hc, hf⟩
    · refine xx_icmp_ge_t (tgt := 163) C (dd_X8_office.at 83 rfl) (by decide) hc ?_
      refine xx_aload_n C (dd_X8_office.at 93 rfl) rfl (Nat.le_of_ble_eq_true rfl) ?_
      refine xx_getI (j := 10) C ck_7 (lb_ rfl) lf_RX8_141 sh_k98 rfl (dd_X8_office.at 94 rfl) ?_
      exact xx_ireturn C (rt_iwp hf Q) (dd_X8_office.at 95 rfl) rfl
    · refine xx_icmp_ge_f (tgt := 163) C (dd_X8_office.at 83 rfl) (by decide) hc ?_
      refine xx_aload_n C (dd_X8_office.at 84 rfl) rfl (Nat.le_of_ble_eq_true rfl) ?_
      refine xx_getR (j := 23) (r := 110) C ck_7 (lb_ rfl) lf_RX8_47 sh_k98 rfl (lb_ rfl) rfl (dd_X8_office.at 85 rfl) ?_
      refine xx_sipush C (dd_X8_office.at 86 rfl) sq_1030 ?_
      refine xx_iload_n C (dd_X8_office.at 87 rfl) rfl ?_
      refine xx_imul C (dd_X8_office.at 88 rfl) ?_
      refine xx_bipush C (dd_X8_office.at 89 rfl) bq_m9 ?_
      obtain ⟨g14, hf⟩ := gd_ok hf
      refine xx_iastore C (dd_X8_office.at 90 rfl) sh_k110 (bi_ok g14) ?_
      refine xx_iinc (v := _ + (1 : Int32)) (lv' := [_, _, _, _]) C (dd_X8_office.at 91 rfl) (lb_ rfl) rfl (by rw [ic_1]) rfl ?_
      refine xx_goto (tgt := 140) C (dd_X8_office.at 92 rfl) (by decide) ?_
      exact xx_mask [true, false, false, true] (ih _ _ hf)
theorem ss_X8_office {l : Launch} {G : gt_} {a1 : Int32} {h : hh_} {r9 : Int32} {h9 : hh_}  (hf : ff_X8_office a1 h = some (r9, h9)) : ok_ l G 4 mt_X8_office [.ref 98, .int a1] h (some (.int r9)) h9 := by
  refine ok_of pn_RX8 (lb_ rfl) (fun Z _ _ C Q => ?_)
  show xx_ Z 0 [some (.ref 98), some (.int a1), none, none] [] h
  unfold ff_X8_office at hf
  refine xx_aload_n C (dd_X8_office.at 0 rfl) rfl (Nat.le_of_ble_eq_true rfl) ?_
  refine xx_iload_n C (dd_X8_office.at 1 rfl) rfl ?_
  obtain ⟨v1, e2, hf⟩ := bdo_ hf
  refine xx_callVi C (ss_X8_askedText (pz_ e2)) (dd_X8_office.at 2 rfl) ck_7 rfl sh_k98 kk_X8_askedText ki_X8_askedText lm_RX8_104 (lb_ rfl) rfl rfl (lb_ rfl) ?_
  refine xx_istore_n (lv' := [_, _, _, _]) C (dd_X8_office.at 3 rfl) (lb_ rfl) rfl ?_
  refine xx_iload_n C (dd_X8_office.at 4 rfl) rfl ?_
  rcases ifo_ hf with ⟨hc, hf⟩ | ⟨hc, hf⟩
  · refine xx_if_ge_t (tgt := 12) C (dd_X8_office.at 5 rfl) (by decide) hc ?_
    refine xx_aload_n C (dd_X8_office.at 8 rfl) rfl (Nat.le_of_ble_eq_true rfl) ?_
    refine xx_iload_n C (dd_X8_office.at 9 rfl) rfl ?_
    obtain ⟨v3, e4, hf⟩ := bdo_ hf
    refine xx_callVi C (ss_X8_goesOn (pz_ e4)) (dd_X8_office.at 10 rfl) ck_7 rfl sh_k98 kk_X8_goesOn ki_X8_goesOn lm_RX8_138 (lb_ rfl) rfl rfl (lb_ rfl) ?_
    refine xx_bipush C (dd_X8_office.at 11 rfl) bq_m9 ?_
    rcases ifo_ hf with ⟨hc, hf⟩ | ⟨hc, hf⟩
    · refine xx_icmp_eq_t (tgt := 25) C (dd_X8_office.at 12 rfl) (by decide) hc ?_
      refine xx_aload_n C (dd_X8_office.at 15 rfl) rfl (Nat.le_of_ble_eq_true rfl) ?_
      refine xx_aload_n C (dd_X8_office.at 16 rfl) rfl (Nat.le_of_ble_eq_true rfl) ?_
      refine xx_getI (j := 17) C ck_7 (lb_ rfl) lf_RX8_113 sh_k98 rfl (dd_X8_office.at 17 rfl) ?_
      refine xx_putI (j := 10) C ck_7 (lb_ rfl) lf_RX8_141 rfl rfl sh_k98 rfl (dd_X8_office.at 18 rfl) ?_
      refine xx_aload_n C (dd_X8_office.at 19 rfl) rfl (Nat.le_of_ble_eq_true rfl) ?_
      refine xx_aload_n C (dd_X8_office.at 20 rfl) rfl (Nat.le_of_ble_eq_true rfl) ?_
      refine xx_getI (j := 18) C ck_7 (lb_ rfl) lf_RX8_116 sh_k98 rfl (dd_X8_office.at 21 rfl) ?_
      refine xx_putI (j := 11) C ck_7 (lb_ rfl) lf_RX8_144 rfl rfl sh_k98 rfl (dd_X8_office.at 22 rfl) ?_
      refine xx_aload_n C (dd_X8_office.at 23 rfl) rfl (Nat.le_of_ble_eq_true rfl) ?_
      refine xx_aload_n C (dd_X8_office.at 24 rfl) rfl (Nat.le_of_ble_eq_true rfl) ?_
      refine xx_getI (j := 19) C ck_7 (lb_ rfl) lf_RX8_119 sh_k98 rfl (dd_X8_office.at 25 rfl) ?_
      refine xx_putI (j := 12) C ck_7 (lb_ rfl) lf_RX8_147 rfl rfl sh_k98 rfl (dd_X8_office.at 26 rfl) ?_
      refine xx_iconst C (dd_X8_office.at 27 rfl) ic_0 ?_
      refine xx_istore_n (lv' := [_, _, _, _]) C (dd_X8_office.at 28 rfl) (lb_ rfl) rfl ?_
      refine xx_mask [true, false, false, true] (ss_X8_office_51 C Q (fun k7 hf => ?_) _ _ _ hf)
      refine xx_iconst C (dd_X8_office.at 42 rfl) ic_0 ?_
      refine xx_istore_n (lv' := [_, _, _, _]) C (dd_X8_office.at 43 rfl) (lb_ rfl) rfl ?_
      refine xx_mask [true, false, false, true] (ss_X8_office_77 C Q (fun k10 hf => ?_) _ _ _ hf)
      refine xx_iconst C (dd_X8_office.at 59 rfl) ic_0 ?_
      refine xx_istore_n (lv' := [_, _, _, _]) C (dd_X8_office.at 60 rfl) (lb_ rfl) rfl ?_
      refine xx_mask [true, false, false, true] (ss_X8_office_106 C Q (fun k13 hf => ?_) _ _ _ hf)
      refine xx_aload_n C (dd_X8_office.at 76 rfl) rfl (Nat.le_of_ble_eq_true rfl) ?_
      refine xx_iconst C (dd_X8_office.at 77 rfl) ic_0 ?_
      refine xx_putI (j := 21) C ck_7 (lb_ rfl) lf_RX8_150 rfl rfl sh_k98 rfl (dd_X8_office.at 78 rfl) ?_
      refine xx_iconst C (dd_X8_office.at 79 rfl) ic_0 ?_
      refine xx_istore_n (lv' := [_, _, _, _]) C (dd_X8_office.at 80 rfl) (lb_ rfl) rfl ?_
      exact xx_mask [true, false, false, true] (ss_X8_office_140 C Q _ _ _ hf)
    · refine xx_icmp_eq_f (tgt := 25) C (dd_X8_office.at 12 rfl) (by decide) hc ?_
      refine xx_bipush C (dd_X8_office.at 13 rfl) bq_m4 ?_
      exact xx_ireturn C (rt_iwp hf Q) (dd_X8_office.at 14 rfl) rfl
  · refine xx_if_ge_f (tgt := 12) C (dd_X8_office.at 5 rfl) (by decide) hc ?_
    refine xx_iload_n C (dd_X8_office.at 6 rfl) rfl ?_
    exact xx_ireturn C (rt_iwp hf Q) (dd_X8_office.at 7 rfl) rfl
theorem ss_X8_isHead {l : Launch} {G : gt_} {a1 : Int32} {h : hh_} {r9 : Int32}  (hf : ff_X8_isHead a1 h = r9) : ok_ l G 1 mt_X8_isHead [.ref 98, .int a1] h (some (.int r9)) h := by
  refine ok_of pn_RX8 (lb_ rfl) (fun Z _ _ C Q => ?_)
  show xx_ Z 0 [some (.ref 98), some (.int a1)] [] h
  unfold ff_X8_isHead at hf
  refine xx_iload_n C (dd_X8_isHead.at 0 rfl) rfl ?_
  refine xx_iconst C (dd_X8_isHead.at 1 rfl) ic_0 ?_
  refine xx_aload_n C (dd_X8_isHead.at 2 rfl) rfl (Nat.le_of_ble_eq_true rfl) ?_
  refine xx_getI (j := 10) C ck_7 (lb_ rfl) lf_RX8_141 sh_k98 rfl (dd_X8_isHead.at 3 rfl) ?_
  refine xx_iconst C (dd_X8_isHead.at 4 rfl) ic_1 ?_
  refine xx_isub C (dd_X8_isHead.at 5 rfl) ?_
  refine xx_callSi C (ss_X8_in rfl) (dd_X8_isHead.at 6 rfl) kk_X8_in ks_X8_in lm_RX8_72 (lb_ rfl) rfl rfl (lb_ rfl) ?_
  exact xx_zreturn C (rt_i hf Q) (dd_X8_isHead.at 7 rfl) rfl (bz_ok zt_X8_in)
theorem ss_X8_isThumb {l : Launch} {G : gt_} {a1 : Int32} {h : hh_} {r9 : Int32}  (hf : ff_X8_isThumb a1 h = r9) : ok_ l G 1 mt_X8_isThumb [.ref 98, .int a1] h (some (.int r9)) h := by
  refine ok_of pn_RX8 (lb_ rfl) (fun Z _ _ C Q => ?_)
  show xx_ Z 0 [some (.ref 98), some (.int a1)] [] h
  unfold ff_X8_isThumb at hf
  refine xx_iload_n C (dd_X8_isThumb.at 0 rfl) rfl ?_
  refine xx_iconst C (dd_X8_isThumb.at 1 rfl) ic_0 ?_
  refine xx_aload_n C (dd_X8_isThumb.at 2 rfl) rfl (Nat.le_of_ble_eq_true rfl) ?_
  refine xx_getI (j := 11) C ck_7 (lb_ rfl) lf_RX8_144 sh_k98 rfl (dd_X8_isThumb.at 3 rfl) ?_
  refine xx_iconst C (dd_X8_isThumb.at 4 rfl) ic_1 ?_
  refine xx_isub C (dd_X8_isThumb.at 5 rfl) ?_
  refine xx_callSi C (ss_X8_in rfl) (dd_X8_isThumb.at 6 rfl) kk_X8_in ks_X8_in lm_RX8_72 (lb_ rfl) rfl rfl (lb_ rfl) ?_
  exact xx_zreturn C (rt_i hf Q) (dd_X8_isThumb.at 7 rfl) rfl (bz_ok zt_X8_in)
theorem ss_X8_isPost {l : Launch} {G : gt_} {a1 : Int32} {h : hh_} {r9 : Int32}  (hf : ff_X8_isPost a1 h = r9) : ok_ l G 1 mt_X8_isPost [.ref 98, .int a1] h (some (.int r9)) h := by
  refine ok_of pn_RX8 (lb_ rfl) (fun Z _ _ C Q => ?_)
  show xx_ Z 0 [some (.ref 98), some (.int a1)] [] h
  unfold ff_X8_isPost at hf
  refine xx_iload_n C (dd_X8_isPost.at 0 rfl) rfl ?_
  refine xx_iconst C (dd_X8_isPost.at 1 rfl) ic_0 ?_
  refine xx_aload_n C (dd_X8_isPost.at 2 rfl) rfl (Nat.le_of_ble_eq_true rfl) ?_
  refine xx_getI (j := 12) C ck_7 (lb_ rfl) lf_RX8_147 sh_k98 rfl (dd_X8_isPost.at 3 rfl) ?_
  refine xx_iconst C (dd_X8_isPost.at 4 rfl) ic_1 ?_
  refine xx_isub C (dd_X8_isPost.at 5 rfl) ?_
  refine xx_callSi C (ss_X8_in rfl) (dd_X8_isPost.at 6 rfl) kk_X8_in ks_X8_in lm_RX8_72 (lb_ rfl) rfl rfl (lb_ rfl) ?_
  exact xx_zreturn C (rt_i hf Q) (dd_X8_isPost.at 7 rfl) rfl (bz_ok zt_X8_in)
theorem ss_X8_isPlace {l : Launch} {G : gt_} {a0 : Int32} {h : hh_} {r9 : Int32}  (hf : ff_X8_isPlace a0 = r9) : ok_ l G 1 mt_X8_isPlace [.int a0] h (some (.int r9)) h := by
  refine ok_of pn_RX8 (lb_ rfl) (fun Z _ _ C Q => ?_)
  show xx_ Z 0 [some (.int a0)] [] h
  unfold ff_X8_isPlace at hf
  refine xx_iload_n C (dd_X8_isPlace.at 0 rfl) rfl ?_
  refine xx_iconst C (dd_X8_isPlace.at 1 rfl) ic_0 ?_
  refine xx_iconst C (dd_X8_isPlace.at 2 rfl) ic_3 ?_
  refine xx_callSi C (ss_X8_in rfl) (dd_X8_isPlace.at 3 rfl) kk_X8_in ks_X8_in lm_RX8_72 (lb_ rfl) rfl rfl (lb_ rfl) ?_
  exact xx_zreturn C (rt_i hf Q) (dd_X8_isPlace.at 4 rfl) rfl (bz_ok zt_X8_in)
theorem ss_X8_bump {l : Launch} {G : gt_} {a1 : Int32} {a2 : Int32} {h : hh_} {r9 : Int32}  (hf : ff_X8_bump a1 a2 h = some r9) : ok_ l G 0 mt_X8_bump [.ref 98, .int a1, .int a2] h (some (.int r9)) h := by
  refine ok_of pn_RX8 (lb_ rfl) (fun Z _ _ C Q => ?_)
  show xx_ Z 0 [some (.ref 98), some (.int a1), some (.int a2)] [] h
  unfold ff_X8_bump at hf
  refine xx_aload_n C (dd_X8_bump.at 0 rfl) rfl (Nat.le_of_ble_eq_true rfl) ?_
  refine xx_getR (j := 13) (r := 105) C ck_7 (lb_ rfl) lf_RX8_32 sh_k98 rfl (lb_ rfl) rfl (dd_X8_bump.at 1 rfl) ?_
  refine xx_iconst C (dd_X8_bump.at 2 rfl) ic_5 ?_
  refine xx_iload_n C (dd_X8_bump.at 3 rfl) rfl ?_
  refine xx_imul C (dd_X8_bump.at 4 rfl) ?_
  refine xx_iload_n C (dd_X8_bump.at 5 rfl) rfl ?_
  refine xx_iadd C (dd_X8_bump.at 6 rfl) ?_
  obtain ⟨g1, hf⟩ := gd_ok hf
  refine xx_iaload C (dd_X8_bump.at 7 rfl) sh_k105 (bi_ok g1) ?_
  exact xx_ireturn C (rt_ip hf Q) (dd_X8_bump.at 8 rfl) rfl
theorem ss_X8_bumps {l : Launch} {G : gt_} {a1 : Int32} {h : hh_} {r9 : Int32}  (hf : ff_X8_bumps a1 h = some r9) : ok_ l G 1 mt_X8_bumps [.ref 98, .int a1] h (some (.int r9)) h := by
  refine ok_of pn_RX8 (lb_ rfl) (fun Z _ _ C Q => ?_)
  show xx_ Z 0 [some (.ref 98), some (.int a1)] [] h
  unfold ff_X8_bumps at hf
  refine xx_aload_n C (dd_X8_bumps.at 0 rfl) rfl (Nat.le_of_ble_eq_true rfl) ?_
  refine xx_iload_n C (dd_X8_bumps.at 1 rfl) rfl ?_
  refine xx_iconst C (dd_X8_bumps.at 2 rfl) ic_0 ?_
  obtain ⟨v1, e2, hf⟩ := bdo_ hf
  refine xx_callVi C (ss_X8_bump e2) (dd_X8_bumps.at 3 rfl) ck_7 rfl sh_k98 kk_X8_bump ki_X8_bump lm_RX8_153 (lb_ rfl) rfl rfl (lb_ rfl) ?_
  refine xx_aload_n C (dd_X8_bumps.at 4 rfl) rfl (Nat.le_of_ble_eq_true rfl) ?_
  refine xx_iload_n C (dd_X8_bumps.at 5 rfl) rfl ?_
  refine xx_iconst C (dd_X8_bumps.at 6 rfl) ic_1 ?_
  obtain ⟨v3, e4, hf⟩ := bdo_ hf
  refine xx_callVi C (ss_X8_bump e4) (dd_X8_bumps.at 7 rfl) ck_7 rfl sh_k98 kk_X8_bump ki_X8_bump lm_RX8_153 (lb_ rfl) rfl rfl (lb_ rfl) ?_
  refine xx_iadd C (dd_X8_bumps.at 8 rfl) ?_
  refine xx_aload_n C (dd_X8_bumps.at 9 rfl) rfl (Nat.le_of_ble_eq_true rfl) ?_
  refine xx_iload_n C (dd_X8_bumps.at 10 rfl) rfl ?_
  refine xx_iconst C (dd_X8_bumps.at 11 rfl) ic_2 ?_
  obtain ⟨v5, e6, hf⟩ := bdo_ hf
  refine xx_callVi C (ss_X8_bump e6) (dd_X8_bumps.at 12 rfl) ck_7 rfl sh_k98 kk_X8_bump ki_X8_bump lm_RX8_153 (lb_ rfl) rfl rfl (lb_ rfl) ?_
  refine xx_iadd C (dd_X8_bumps.at 13 rfl) ?_
  refine xx_aload_n C (dd_X8_bumps.at 14 rfl) rfl (Nat.le_of_ble_eq_true rfl) ?_
  refine xx_iload_n C (dd_X8_bumps.at 15 rfl) rfl ?_
  refine xx_iconst C (dd_X8_bumps.at 16 rfl) ic_3 ?_
  obtain ⟨v7, e8, hf⟩ := bdo_ hf
  refine xx_callVi C (ss_X8_bump e8) (dd_X8_bumps.at 17 rfl) ck_7 rfl sh_k98 kk_X8_bump ki_X8_bump lm_RX8_153 (lb_ rfl) rfl rfl (lb_ rfl) ?_
  refine xx_iadd C (dd_X8_bumps.at 18 rfl) ?_
  exact xx_ireturn C (rt_ip hf Q) (dd_X8_bumps.at 19 rfl) rfl
theorem ss_X8_headOf {l : Launch} {G : gt_} {a1 : Int32} {a2 : Int32} {h : hh_} {r9 : Int32}  (hf : ff_X8_headOf a1 a2 h = some r9) : ok_ l G 2 mt_X8_headOf [.ref 98, .int a1, .int a2] h (some (.int r9)) h := by
  refine ok_of pn_RX8 (lb_ rfl) (fun Z _ _ C Q => ?_)
  show xx_ Z 0 [some (.ref 98), some (.int a1), some (.int a2)] [] h
  unfold ff_X8_headOf at hf
  refine xx_iload_n C (dd_X8_headOf.at 0 rfl) rfl ?_
  refine xx_iconst C (dd_X8_headOf.at 1 rfl) ic_5 ?_
  rcases ifo_ hf with ⟨hc, hf⟩ | ⟨hc, hf⟩
  · refine xx_icmp_ge_t (tgt := 18) C (dd_X8_headOf.at 2 rfl) (by decide) hc ?_
    refine xx_aload_n C (dd_X8_headOf.at 12 rfl) rfl (Nat.le_of_ble_eq_true rfl) ?_
    refine xx_iload_n C (dd_X8_headOf.at 13 rfl) rfl ?_
    obtain ⟨v1, e2, hf⟩ := bdo_ hf
    refine xx_callVi C (ss_X8_bumps e2) (dd_X8_headOf.at 14 rfl) ck_7 rfl sh_k98 kk_X8_bumps ki_X8_bumps lm_RX8_156 (lb_ rfl) rfl rfl (lb_ rfl) ?_
    exact xx_ireturn C (rt_ip hf Q) (dd_X8_headOf.at 15 rfl) rfl
  · refine xx_icmp_ge_f (tgt := 18) C (dd_X8_headOf.at 2 rfl) (by decide) hc ?_
    refine xx_aload_n C (dd_X8_headOf.at 3 rfl) rfl (Nat.le_of_ble_eq_true rfl) ?_
    refine xx_getR (j := 13) (r := 105) C ck_7 (lb_ rfl) lf_RX8_32 sh_k98 rfl (lb_ rfl) rfl (dd_X8_headOf.at 4 rfl) ?_
    refine xx_iconst C (dd_X8_headOf.at 5 rfl) ic_5 ?_
    refine xx_iload_n C (dd_X8_headOf.at 6 rfl) rfl ?_
    refine xx_imul C (dd_X8_headOf.at 7 rfl) ?_
    refine xx_iload_n C (dd_X8_headOf.at 8 rfl) rfl ?_
    refine xx_iadd C (dd_X8_headOf.at 9 rfl) ?_
    obtain ⟨g3, hf⟩ := gd_ok hf
    refine xx_iaload C (dd_X8_headOf.at 10 rfl) sh_k105 (bi_ok g3) ?_
    refine xx_goto (tgt := 23) C (dd_X8_headOf.at 11 rfl) (by decide) ?_
    exact xx_ireturn C (rt_ip hf Q) (dd_X8_headOf.at 15 rfl) rfl
theorem ss_X8_head {l : Launch} {G : gt_} {a1 : Int32} {a2 : Int32} {h : hh_} {r9 : Int32} {h9 : hh_}  (hf : ff_X8_head a1 a2 h = some (r9, h9)) : ok_ l G 3 mt_X8_head [.ref 98, .int a1, .int a2] h (some (.int r9)) h9 := by
  refine ok_of pn_RX8 (lb_ rfl) (fun Z _ _ C Q => ?_)
  show xx_ Z 0 [some (.ref 98), some (.int a1), some (.int a2)] [] h
  unfold ff_X8_head at hf
  refine xx_aload_n C (dd_X8_head.at 0 rfl) rfl (Nat.le_of_ble_eq_true rfl) ?_
  refine xx_iload_n C (dd_X8_head.at 1 rfl) rfl ?_
  refine xx_callVi C (ss_X8_isHead rfl) (dd_X8_head.at 2 rfl) ck_7 rfl sh_k98 kk_X8_isHead ki_X8_isHead lm_RX8_159 (lb_ rfl) rfl rfl (lb_ rfl) ?_
  rcases ifo_ hf with ⟨hc, hf⟩ | ⟨hc, hf⟩
  · refine xx_if_eq_t (tgt := 31) C (dd_X8_head.at 3 rfl) (by decide) hc ?_
    refine xx_iconst C (dd_X8_head.at 17 rfl) ic_m1 ?_
    exact xx_ireturn C (rt_iwp hf Q) (dd_X8_head.at 18 rfl) rfl
  · refine xx_if_eq_f (tgt := 31) C (dd_X8_head.at 3 rfl) (by decide) hc ?_
    refine xx_iload_n C (dd_X8_head.at 4 rfl) rfl ?_
    refine xx_iconst C (dd_X8_head.at 5 rfl) ic_0 ?_
    refine xx_iconst C (dd_X8_head.at 6 rfl) ic_5 ?_
    refine xx_callSi C (ss_X8_in rfl) (dd_X8_head.at 7 rfl) kk_X8_in ks_X8_in lm_RX8_72 (lb_ rfl) rfl rfl (lb_ rfl) ?_
    rcases ifo_ hf with ⟨hc, hf⟩ | ⟨hc, hf⟩
    · refine xx_if_eq_t (tgt := 31) C (dd_X8_head.at 8 rfl) (by decide) hc ?_
      refine xx_iconst C (dd_X8_head.at 17 rfl) ic_m1 ?_
      exact xx_ireturn C (rt_iwp hf Q) (dd_X8_head.at 18 rfl) rfl
    · refine xx_if_eq_f (tgt := 31) C (dd_X8_head.at 8 rfl) (by decide) hc ?_
      refine xx_aload_n C (dd_X8_head.at 9 rfl) rfl (Nat.le_of_ble_eq_true rfl) ?_
      refine xx_aload_n C (dd_X8_head.at 10 rfl) rfl (Nat.le_of_ble_eq_true rfl) ?_
      refine xx_iload_n C (dd_X8_head.at 11 rfl) rfl ?_
      refine xx_iload_n C (dd_X8_head.at 12 rfl) rfl ?_
      obtain ⟨v1, e2, hf⟩ := bdo_ hf
      refine xx_callVi C (ss_X8_headOf e2) (dd_X8_head.at 13 rfl) ck_7 rfl sh_k98 kk_X8_headOf ki_X8_headOf lm_RX8_162 (lb_ rfl) rfl rfl (lb_ rfl) ?_
      refine xx_iconst C (dd_X8_head.at 14 rfl) ic_1 ?_
      refine xx_callVi C (ss_X8_ask pe_) (dd_X8_head.at 15 rfl) ck_7 rfl sh_k98 kk_X8_ask ki_X8_ask lm_RX8_98 (lb_ rfl) rfl rfl (lb_ rfl) ?_
      refine xx_goto (tgt := 32) C (dd_X8_head.at 16 rfl) (by decide) ?_
      exact xx_ireturn C (rt_iwp hf Q) (dd_X8_head.at 18 rfl) rfl
theorem ss_X8_thumb {l : Launch} {G : gt_} {a1 : Int32} {a2 : Int32} {h : hh_} {r9 : Int32} {h9 : hh_}  (hf : ff_X8_thumb a1 a2 h = some (r9, h9)) : ok_ l G 2 mt_X8_thumb [.ref 98, .int a1, .int a2] h (some (.int r9)) h9 := by
  refine ok_of pn_RX8 (lb_ rfl) (fun Z _ _ C Q => ?_)
  show xx_ Z 0 [some (.ref 98), some (.int a1), some (.int a2)] [] h
  unfold ff_X8_thumb at hf
  refine xx_aload_n C (dd_X8_thumb.at 0 rfl) rfl (Nat.le_of_ble_eq_true rfl) ?_
  refine xx_iload_n C (dd_X8_thumb.at 1 rfl) rfl ?_
  refine xx_callVi C (ss_X8_isThumb rfl) (dd_X8_thumb.at 2 rfl) ck_7 rfl sh_k98 kk_X8_isThumb ki_X8_isThumb lm_RX8_165 (lb_ rfl) rfl rfl (lb_ rfl) ?_
  rcases ifo_ hf with ⟨hc, hf⟩ | ⟨hc, hf⟩
  · refine xx_if_eq_t (tgt := 35) C (dd_X8_thumb.at 3 rfl) (by decide) hc ?_
    refine xx_iconst C (dd_X8_thumb.at 21 rfl) ic_m1 ?_
    exact xx_ireturn C (rt_iwp hf Q) (dd_X8_thumb.at 22 rfl) rfl
  · refine xx_if_eq_f (tgt := 35) C (dd_X8_thumb.at 3 rfl) (by decide) hc ?_
    refine xx_iload_n C (dd_X8_thumb.at 4 rfl) rfl ?_
    refine xx_iconst C (dd_X8_thumb.at 5 rfl) ic_0 ?_
    refine xx_iconst C (dd_X8_thumb.at 6 rfl) ic_2 ?_
    refine xx_callSi C (ss_X8_in rfl) (dd_X8_thumb.at 7 rfl) kk_X8_in ks_X8_in lm_RX8_72 (lb_ rfl) rfl rfl (lb_ rfl) ?_
    rcases ifo_ hf with ⟨hc, hf⟩ | ⟨hc, hf⟩
    · refine xx_if_eq_t (tgt := 35) C (dd_X8_thumb.at 8 rfl) (by decide) hc ?_
      refine xx_iconst C (dd_X8_thumb.at 21 rfl) ic_m1 ?_
      exact xx_ireturn C (rt_iwp hf Q) (dd_X8_thumb.at 22 rfl) rfl
    · refine xx_if_eq_f (tgt := 35) C (dd_X8_thumb.at 8 rfl) (by decide) hc ?_
      refine xx_aload_n C (dd_X8_thumb.at 9 rfl) rfl (Nat.le_of_ble_eq_true rfl) ?_
      refine xx_aload_n C (dd_X8_thumb.at 10 rfl) rfl (Nat.le_of_ble_eq_true rfl) ?_
      refine xx_getR (j := 14) (r := 106) C ck_7 (lb_ rfl) lf_RX8_35 sh_k98 rfl (lb_ rfl) rfl (dd_X8_thumb.at 11 rfl) ?_
      refine xx_iconst C (dd_X8_thumb.at 12 rfl) ic_3 ?_
      refine xx_iload_n C (dd_X8_thumb.at 13 rfl) rfl ?_
      refine xx_imul C (dd_X8_thumb.at 14 rfl) ?_
      refine xx_iload_n C (dd_X8_thumb.at 15 rfl) rfl ?_
      refine xx_iadd C (dd_X8_thumb.at 16 rfl) ?_
      obtain ⟨g1, hf⟩ := gd_ok hf
      refine xx_iaload C (dd_X8_thumb.at 17 rfl) sh_k106 (bi_ok g1) ?_
      refine xx_iconst C (dd_X8_thumb.at 18 rfl) ic_1 ?_
      refine xx_callVi C (ss_X8_ask pe_) (dd_X8_thumb.at 19 rfl) ck_7 rfl sh_k98 kk_X8_ask ki_X8_ask lm_RX8_98 (lb_ rfl) rfl rfl (lb_ rfl) ?_
      refine xx_goto (tgt := 36) C (dd_X8_thumb.at 20 rfl) (by decide) ?_
      exact xx_ireturn C (rt_iwp hf Q) (dd_X8_thumb.at 22 rfl) rfl
theorem ss_X8_post {l : Launch} {G : gt_} {a1 : Int32} {a2 : Int32} {h : hh_} {r9 : Int32} {h9 : hh_}  (hf : ff_X8_post a1 a2 h = some (r9, h9)) : ok_ l G 2 mt_X8_post [.ref 98, .int a1, .int a2] h (some (.int r9)) h9 := by
  refine ok_of pn_RX8 (lb_ rfl) (fun Z _ _ C Q => ?_)
  show xx_ Z 0 [some (.ref 98), some (.int a1), some (.int a2)] [] h
  unfold ff_X8_post at hf
  refine xx_aload_n C (dd_X8_post.at 0 rfl) rfl (Nat.le_of_ble_eq_true rfl) ?_
  refine xx_iload_n C (dd_X8_post.at 1 rfl) rfl ?_
  refine xx_callVi C (ss_X8_isPost rfl) (dd_X8_post.at 2 rfl) ck_7 rfl sh_k98 kk_X8_isPost ki_X8_isPost lm_RX8_168 (lb_ rfl) rfl rfl (lb_ rfl) ?_
  rcases ifo_ hf with ⟨hc, hf⟩ | ⟨hc, hf⟩
  · refine xx_if_eq_t (tgt := 35) C (dd_X8_post.at 3 rfl) (by decide) hc ?_
    refine xx_iconst C (dd_X8_post.at 21 rfl) ic_m1 ?_
    exact xx_ireturn C (rt_iwp hf Q) (dd_X8_post.at 22 rfl) rfl
  · refine xx_if_eq_f (tgt := 35) C (dd_X8_post.at 3 rfl) (by decide) hc ?_
    refine xx_iload_n C (dd_X8_post.at 4 rfl) rfl ?_
    refine xx_iconst C (dd_X8_post.at 5 rfl) ic_0 ?_
    refine xx_iconst C (dd_X8_post.at 6 rfl) ic_4 ?_
    refine xx_callSi C (ss_X8_in rfl) (dd_X8_post.at 7 rfl) kk_X8_in ks_X8_in lm_RX8_72 (lb_ rfl) rfl rfl (lb_ rfl) ?_
    rcases ifo_ hf with ⟨hc, hf⟩ | ⟨hc, hf⟩
    · refine xx_if_eq_t (tgt := 35) C (dd_X8_post.at 8 rfl) (by decide) hc ?_
      refine xx_iconst C (dd_X8_post.at 21 rfl) ic_m1 ?_
      exact xx_ireturn C (rt_iwp hf Q) (dd_X8_post.at 22 rfl) rfl
    · refine xx_if_eq_f (tgt := 35) C (dd_X8_post.at 8 rfl) (by decide) hc ?_
      refine xx_aload_n C (dd_X8_post.at 9 rfl) rfl (Nat.le_of_ble_eq_true rfl) ?_
      refine xx_aload_n C (dd_X8_post.at 10 rfl) rfl (Nat.le_of_ble_eq_true rfl) ?_
      refine xx_getR (j := 15) (r := 107) C ck_7 (lb_ rfl) lf_RX8_38 sh_k98 rfl (lb_ rfl) rfl (dd_X8_post.at 11 rfl) ?_
      refine xx_iconst C (dd_X8_post.at 12 rfl) ic_5 ?_
      refine xx_iload_n C (dd_X8_post.at 13 rfl) rfl ?_
      refine xx_imul C (dd_X8_post.at 14 rfl) ?_
      refine xx_iload_n C (dd_X8_post.at 15 rfl) rfl ?_
      refine xx_iadd C (dd_X8_post.at 16 rfl) ?_
      obtain ⟨g1, hf⟩ := gd_ok hf
      refine xx_iaload C (dd_X8_post.at 17 rfl) sh_k107 (bi_ok g1) ?_
      refine xx_iconst C (dd_X8_post.at 18 rfl) ic_1 ?_
      refine xx_callVi C (ss_X8_ask pe_) (dd_X8_post.at 19 rfl) ck_7 rfl sh_k98 kk_X8_ask ki_X8_ask lm_RX8_98 (lb_ rfl) rfl rfl (lb_ rfl) ?_
      refine xx_goto (tgt := 36) C (dd_X8_post.at 20 rfl) (by decide) ?_
      exact xx_ireturn C (rt_iwp hf Q) (dd_X8_post.at 22 rfl) rfl
theorem ss_X8_isA_24 {Z : zz_} (C : cx_ Z mt_X8_isA 0) {r9 : Int32} {x2 : Int32} {x3 : Int32} {h : hh_}  (Q : rq_ Z (some (.int r9)) h) (hf : ff_X8_isA_24 x2 x3 h = some r9) : xx_ Z 24 [none, none, some (.int x2), some (.int x3)] [] h := by
  unfold ff_X8_isA_24 at hf
  refine xx_iload_n C (dd_X8_isA.at 16 rfl) rfl ?_
  refine xx_iconst C (dd_X8_isA.at 17 rfl) ic_3 ?_
  rcases ifo_ hf with ⟨hc, hf⟩ | ⟨hc, hf⟩
  · refine xx_icmp_ne_f (tgt := 38) C (dd_X8_isA.at 18 rfl) (by decide) (not_not_intro hc) ?_
    refine xx_iload_n C (dd_X8_isA.at 19 rfl) rfl ?_
    refine xx_iconst C (dd_X8_isA.at 20 rfl) ic_4 ?_
    rcases ifo_ hf with ⟨hc, hf⟩ | ⟨hc, hf⟩
    · refine xx_icmp_ne_f (tgt := 38) C (dd_X8_isA.at 21 rfl) (by decide) (not_not_intro hc) ?_
      refine xx_iconst C (dd_X8_isA.at 22 rfl) ic_1 ?_
      refine xx_goto (tgt := 39) C (dd_X8_isA.at 23 rfl) (by decide) ?_
      exact xx_zreturn C (rt_ip hf Q) (dd_X8_isA.at 25 rfl) rfl zb_1
    · refine xx_icmp_ne_t (tgt := 38) C (dd_X8_isA.at 21 rfl) (by decide) hc ?_
      refine xx_iconst C (dd_X8_isA.at 24 rfl) ic_0 ?_
      exact xx_zreturn C (rt_ip hf Q) (dd_X8_isA.at 25 rfl) rfl zb_0
  · refine xx_icmp_ne_t (tgt := 38) C (dd_X8_isA.at 18 rfl) (by decide) hc ?_
    refine xx_iconst C (dd_X8_isA.at 24 rfl) ic_0 ?_
    exact xx_zreturn C (rt_ip hf Q) (dd_X8_isA.at 25 rfl) rfl zb_0
theorem ss_X8_isA {l : Launch} {G : gt_} {a1 : Int32} {a2 : Int32} {h : hh_} {r9 : Int32}  (hf : ff_X8_isA a1 a2 h = some r9) : ok_ l G 0 mt_X8_isA [.ref 98, .int a1, .int a2] h (some (.int r9)) h := by
  refine ok_of pn_RX8 (lb_ rfl) (fun Z _ _ C Q => ?_)
  show xx_ Z 0 [some (.ref 98), some (.int a1), some (.int a2), none] [] h
  unfold ff_X8_isA at hf
  refine xx_aload_n C (dd_X8_isA.at 0 rfl) rfl (Nat.le_of_ble_eq_true rfl) ?_
  refine xx_getR (j := 14) (r := 106) C ck_7 (lb_ rfl) lf_RX8_35 sh_k98 rfl (lb_ rfl) rfl (dd_X8_isA.at 1 rfl) ?_
  refine xx_iconst C (dd_X8_isA.at 2 rfl) ic_3 ?_
  refine xx_iload_n C (dd_X8_isA.at 3 rfl) rfl ?_
  refine xx_imul C (dd_X8_isA.at 4 rfl) ?_
  obtain ⟨g1, hf⟩ := gd_ok hf
  refine xx_iaload C (dd_X8_isA.at 5 rfl) sh_k106 (bi_ok g1) ?_
  refine xx_istore_n (lv' := [_, _, _, _]) C (dd_X8_isA.at 6 rfl) (lb_ rfl) rfl ?_
  refine xx_iload_n C (dd_X8_isA.at 7 rfl) rfl ?_
  refine xx_iload_n C (dd_X8_isA.at 8 rfl) rfl ?_
  rcases ifo_ hf with ⟨hc, hf⟩ | ⟨hc, hf⟩
  · refine xx_icmp_eq_t (tgt := 34) C (dd_X8_isA.at 9 rfl) (by decide) hc ?_
    refine xx_iconst C (dd_X8_isA.at 22 rfl) ic_1 ?_
    refine xx_goto (tgt := 39) C (dd_X8_isA.at 23 rfl) (by decide) ?_
    exact xx_zreturn C (rt_ip hf Q) (dd_X8_isA.at 25 rfl) rfl zb_1
  · refine xx_icmp_eq_f (tgt := 34) C (dd_X8_isA.at 9 rfl) (by decide) hc ?_
    refine xx_iload_n C (dd_X8_isA.at 10 rfl) rfl ?_
    refine xx_iconst C (dd_X8_isA.at 11 rfl) ic_1 ?_
    rcases ifo_ hf with ⟨hc, hf⟩ | ⟨hc, hf⟩
    · refine xx_icmp_ne_f (tgt := 24) C (dd_X8_isA.at 12 rfl) (by decide) (not_not_intro hc) ?_
      refine xx_iload_n C (dd_X8_isA.at 13 rfl) rfl ?_
      refine xx_iconst C (dd_X8_isA.at 14 rfl) ic_5 ?_
      rcases ifo_ hf with ⟨hc, hf⟩ | ⟨hc, hf⟩
      · refine xx_icmp_eq_t (tgt := 34) C (dd_X8_isA.at 15 rfl) (by decide) hc ?_
        refine xx_iconst C (dd_X8_isA.at 22 rfl) ic_1 ?_
        refine xx_goto (tgt := 39) C (dd_X8_isA.at 23 rfl) (by decide) ?_
        exact xx_zreturn C (rt_ip hf Q) (dd_X8_isA.at 25 rfl) rfl zb_1
      · refine xx_icmp_eq_f (tgt := 34) C (dd_X8_isA.at 15 rfl) (by decide) hc ?_
        exact xx_mask [false, false, true, true] (ss_X8_isA_24 C Q hf)
    · refine xx_icmp_ne_t (tgt := 24) C (dd_X8_isA.at 12 rfl) (by decide) hc ?_
      exact xx_mask [false, false, true, true] (ss_X8_isA_24 C Q hf)
theorem ss_X8_felt {l : Launch} {G : gt_} {a1 : Int32} {a2 : Int32} {h : hh_} {r9 : Int32}  (hf : ff_X8_felt a1 a2 h = some r9) : ok_ l G 1 mt_X8_felt [.ref 98, .int a1, .int a2] h (some (.int r9)) h := by
  refine ok_of pn_RX8 (lb_ rfl) (fun Z _ _ C Q => ?_)
  show xx_ Z 0 [some (.ref 98), some (.int a1), some (.int a2)] [] h
  unfold ff_X8_felt at hf
  refine xx_iconst C (dd_X8_felt.at 0 rfl) ic_0 ?_
  refine xx_aload_n C (dd_X8_felt.at 1 rfl) rfl (Nat.le_of_ble_eq_true rfl) ?_
  refine xx_iload_n C (dd_X8_felt.at 2 rfl) rfl ?_
  refine xx_iload_n C (dd_X8_felt.at 3 rfl) rfl ?_
  obtain ⟨v1, e2, hf⟩ := bdo_ hf
  refine xx_callVi C (ss_X8_bump e2) (dd_X8_felt.at 4 rfl) ck_7 rfl sh_k98 kk_X8_bump ki_X8_bump lm_RX8_153 (lb_ rfl) rfl rfl (lb_ rfl) ?_
  refine xx_aload_n C (dd_X8_felt.at 5 rfl) rfl (Nat.le_of_ble_eq_true rfl) ?_
  refine xx_getR (j := 13) (r := 105) C ck_7 (lb_ rfl) lf_RX8_32 sh_k98 rfl (lb_ rfl) rfl (dd_X8_felt.at 6 rfl) ?_
  refine xx_iconst C (dd_X8_felt.at 7 rfl) ic_5 ?_
  refine xx_iload_n C (dd_X8_felt.at 8 rfl) rfl ?_
  refine xx_imul C (dd_X8_felt.at 9 rfl) ?_
  refine xx_iconst C (dd_X8_felt.at 10 rfl) ic_4 ?_
  refine xx_iadd C (dd_X8_felt.at 11 rfl) ?_
  obtain ⟨g3, hf⟩ := gd_ok hf
  refine xx_iaload C (dd_X8_felt.at 12 rfl) sh_k105 (bi_ok g3) ?_
  refine xx_iconst C (dd_X8_felt.at 13 rfl) ic_1 ?_
  rcases ifo_ hf with ⟨hc, hf⟩ | ⟨hc, hf⟩
  · refine xx_icmp_le_t (tgt := 25) C (dd_X8_felt.at 14 rfl) (by decide) hc ?_
    refine xx_iconst C (dd_X8_felt.at 17 rfl) ic_0 ?_
    refine xx_isub C (dd_X8_felt.at 18 rfl) ?_
    refine xx_callSi C (ss_X8_greater rfl) (dd_X8_felt.at 19 rfl) kk_X8_greater ks_X8_greater lm_RX8_171 (lb_ rfl) rfl rfl (lb_ rfl) ?_
    exact xx_ireturn C (rt_ip hf Q) (dd_X8_felt.at 20 rfl) rfl
  · refine xx_icmp_le_f (tgt := 25) C (dd_X8_felt.at 14 rfl) (by decide) hc ?_
    refine xx_iconst C (dd_X8_felt.at 15 rfl) ic_1 ?_
    refine xx_goto (tgt := 26) C (dd_X8_felt.at 16 rfl) (by decide) ?_
    refine xx_isub C (dd_X8_felt.at 18 rfl) ?_
    refine xx_callSi C (ss_X8_greater rfl) (dd_X8_felt.at 19 rfl) kk_X8_greater ks_X8_greater lm_RX8_171 (lb_ rfl) rfl rfl (lb_ rfl) ?_
    exact xx_ireturn C (rt_ip hf Q) (dd_X8_felt.at 20 rfl) rfl
theorem ss_X8_middleOf {l : Launch} {G : gt_} {a0 : Int32} {a1 : Int32} {a2 : Int32} {a3 : Int32} {h : hh_} {r9 : Int32}  (hf : ff_X8_middleOf a0 a1 a2 a3 = r9) : ok_ l G 1 mt_X8_middleOf [.int a0, .int a1, .int a2, .int a3] h (some (.int r9)) h := by
  refine ok_of pn_RX8 (lb_ rfl) (fun Z _ _ C Q => ?_)
  show xx_ Z 0 [some (.int a0), some (.int a1), some (.int a2), some (.int a3)] [] h
  unfold ff_X8_middleOf at hf
  refine xx_iload_n C (dd_X8_middleOf.at 0 rfl) rfl ?_
  rcases ifo_ hf with ⟨hc0, hf⟩ | ⟨hc0, hf⟩
  · refine xx_tabIn (off := 35) (tgt := 36) C (dd_X8_middleOf.at 1 rfl) (by rw [hc0]; decide) (by rw [hc0]; decide) (by rw [hc0]; decide) (by decide) ?_
    refine xx_iconst C (dd_X8_middleOf.at 2 rfl) ic_0 ?_
    refine xx_iload_n C (dd_X8_middleOf.at 3 rfl) rfl ?_
    refine xx_iconst C (dd_X8_middleOf.at 4 rfl) ic_1 ?_
    refine xx_isub C (dd_X8_middleOf.at 5 rfl) ?_
    refine xx_callSi C (ss_X8_greater rfl) (dd_X8_middleOf.at 6 rfl) kk_X8_greater ks_X8_greater lm_RX8_171 (lb_ rfl) rfl rfl (lb_ rfl) ?_
    exact xx_ireturn C (rt_i hf Q) (dd_X8_middleOf.at 7 rfl) rfl
  · rcases ifo_ hf with ⟨hc1, hf⟩ | ⟨hc1, hf⟩
    · refine xx_tabIn (off := 55) (tgt := 56) C (dd_X8_middleOf.at 1 rfl) (by rw [hc1]; decide) (by rw [hc1]; decide) (by rw [hc1]; decide) (by decide) ?_
      refine xx_iload_n C (dd_X8_middleOf.at 16 rfl) rfl ?_
      refine xx_iconst C (dd_X8_middleOf.at 17 rfl) ic_1 ?_
      refine xx_iadd C (dd_X8_middleOf.at 18 rfl) ?_
      exact xx_ireturn C (rt_i hf Q) (dd_X8_middleOf.at 19 rfl) rfl
    · rcases ifo_ hf with ⟨hc2, hf⟩ | ⟨hc2, hf⟩
      · refine xx_tabIn (off := 59) (tgt := 60) C (dd_X8_middleOf.at 1 rfl) (by rw [hc2]; decide) (by rw [hc2]; decide) (by rw [hc2]; decide) (by decide) ?_
        refine xx_iload_n C (dd_X8_middleOf.at 20 rfl) rfl ?_
        refine xx_iload_n C (dd_X8_middleOf.at 21 rfl) rfl ?_
        refine xx_iload_n C (dd_X8_middleOf.at 22 rfl) rfl ?_
        rcases ifo_ hf with ⟨hc, hf⟩ | ⟨hc, hf⟩
        · refine xx_icmp_ne_f (tgt := 70) C (dd_X8_middleOf.at 23 rfl) (by decide) (not_not_intro hc) ?_
          refine xx_iconst C (dd_X8_middleOf.at 24 rfl) ic_1 ?_
          refine xx_goto (tgt := 71) C (dd_X8_middleOf.at 25 rfl) (by decide) ?_
          refine xx_iadd C (dd_X8_middleOf.at 27 rfl) ?_
          exact xx_ireturn C (rt_i hf Q) (dd_X8_middleOf.at 28 rfl) rfl
        · refine xx_icmp_ne_t (tgt := 70) C (dd_X8_middleOf.at 23 rfl) (by decide) hc ?_
          refine xx_iconst C (dd_X8_middleOf.at 26 rfl) ic_0 ?_
          refine xx_iadd C (dd_X8_middleOf.at 27 rfl) ?_
          exact xx_ireturn C (rt_i hf Q) (dd_X8_middleOf.at 28 rfl) rfl
      · rcases ifo_ hf with ⟨hc3, hf⟩ | ⟨hc3, hf⟩
        · refine xx_tabIn (off := 72) (tgt := 73) C (dd_X8_middleOf.at 1 rfl) (by rw [hc3]; decide) (by rw [hc3]; decide) (by rw [hc3]; decide) (by decide) ?_
          refine xx_iload_n C (dd_X8_middleOf.at 29 rfl) rfl ?_
          refine xx_iload_n C (dd_X8_middleOf.at 30 rfl) rfl ?_
          refine xx_iload_n C (dd_X8_middleOf.at 31 rfl) rfl ?_
          rcases ifo_ hf with ⟨hc, hf⟩ | ⟨hc, hf⟩
          · refine xx_icmp_ne_f (tgt := 83) C (dd_X8_middleOf.at 32 rfl) (by decide) (not_not_intro hc) ?_
            refine xx_iconst C (dd_X8_middleOf.at 33 rfl) ic_2 ?_
            refine xx_goto (tgt := 84) C (dd_X8_middleOf.at 34 rfl) (by decide) ?_
            refine xx_iadd C (dd_X8_middleOf.at 36 rfl) ?_
            exact xx_ireturn C (rt_i hf Q) (dd_X8_middleOf.at 37 rfl) rfl
          · refine xx_icmp_ne_t (tgt := 83) C (dd_X8_middleOf.at 32 rfl) (by decide) hc ?_
            refine xx_iconst C (dd_X8_middleOf.at 35 rfl) ic_1 ?_
            refine xx_iadd C (dd_X8_middleOf.at 36 rfl) ?_
            exact xx_ireturn C (rt_i hf Q) (dd_X8_middleOf.at 37 rfl) rfl
        · rcases ifo_ hf with ⟨hc4, hf⟩ | ⟨hc4, hf⟩
          · refine xx_tabIn (off := 43) (tgt := 44) C (dd_X8_middleOf.at 1 rfl) (by rw [hc4]; decide) (by rw [hc4]; decide) (by rw [hc4]; decide) (by decide) ?_
            refine xx_iconst C (dd_X8_middleOf.at 8 rfl) ic_3 ?_
            refine xx_iconst C (dd_X8_middleOf.at 9 rfl) ic_0 ?_
            refine xx_iload_n C (dd_X8_middleOf.at 10 rfl) rfl ?_
            refine xx_iconst C (dd_X8_middleOf.at 11 rfl) ic_1 ?_
            refine xx_isub C (dd_X8_middleOf.at 12 rfl) ?_
            refine xx_callSi C (ss_X8_greater rfl) (dd_X8_middleOf.at 13 rfl) kk_X8_greater ks_X8_greater lm_RX8_171 (lb_ rfl) rfl rfl (lb_ rfl) ?_
            refine xx_callSi C (ss_X8_lesser rfl) (dd_X8_middleOf.at 14 rfl) kk_X8_lesser ks_X8_lesser lm_RX8_174 (lb_ rfl) rfl rfl (lb_ rfl) ?_
            exact xx_ireturn C (rt_i hf Q) (dd_X8_middleOf.at 15 rfl) rfl
          · refine xx_tabOut (tgt := 86) C (dd_X8_middleOf.at 1 rfl) (tab_out (n := 5) (fun k9 hk9 => by match k9, hk9 with | 0, _ => exact hc0 | 1, _ => exact hc1 | 2, _ => exact hc2 | 3, _ => exact hc3 | 4, _ => exact hc4 | k9 + 5, hk9 => exact absurd hk9 (by omega)) rfl) (by decide) ?_
            refine xx_iload_n C (dd_X8_middleOf.at 38 rfl) rfl ?_
            exact xx_ireturn C (rt_i hf Q) (dd_X8_middleOf.at 39 rfl) rfl
theorem ss_X8_middle {l : Launch} {G : gt_} {a1 : Int32} {a2 : Int32} {a3 : Int32} {h : hh_} {r9 : Int32}  (hf : ff_X8_middle a1 a2 a3 h = some r9) : ok_ l G 2 mt_X8_middle [.ref 98, .int a1, .int a2, .int a3] h (some (.int r9)) h := by
  refine ok_of pn_RX8 (lb_ rfl) (fun Z _ _ C Q => ?_)
  show xx_ Z 0 [some (.ref 98), some (.int a1), some (.int a2), some (.int a3)] [] h
  unfold ff_X8_middle at hf
  refine xx_aload_n C (dd_X8_middle.at 0 rfl) rfl (Nat.le_of_ble_eq_true rfl) ?_
  refine xx_getR (j := 14) (r := 106) C ck_7 (lb_ rfl) lf_RX8_35 sh_k98 rfl (lb_ rfl) rfl (dd_X8_middle.at 1 rfl) ?_
  refine xx_iconst C (dd_X8_middle.at 2 rfl) ic_3 ?_
  refine xx_iload_n C (dd_X8_middle.at 3 rfl) rfl ?_
  refine xx_imul C (dd_X8_middle.at 4 rfl) ?_
  obtain ⟨g1, hf⟩ := gd_ok hf
  refine xx_iaload C (dd_X8_middle.at 5 rfl) sh_k106 (bi_ok g1) ?_
  refine xx_aload_n C (dd_X8_middle.at 6 rfl) rfl (Nat.le_of_ble_eq_true rfl) ?_
  refine xx_getR (j := 14) (r := 106) C ck_7 (lb_ rfl) lf_RX8_35 sh_k98 rfl (lb_ rfl) rfl (dd_X8_middle.at 7 rfl) ?_
  refine xx_iconst C (dd_X8_middle.at 8 rfl) ic_3 ?_
  refine xx_iload_n C (dd_X8_middle.at 9 rfl) rfl ?_
  refine xx_imul C (dd_X8_middle.at 10 rfl) ?_
  refine xx_iconst C (dd_X8_middle.at 11 rfl) ic_2 ?_
  refine xx_iadd C (dd_X8_middle.at 12 rfl) ?_
  obtain ⟨g2, hf⟩ := gd_ok hf
  refine xx_iaload C (dd_X8_middle.at 13 rfl) sh_k106 (bi_ok g2) ?_
  refine xx_aload_n C (dd_X8_middle.at 14 rfl) rfl (Nat.le_of_ble_eq_true rfl) ?_
  refine xx_iload_n C (dd_X8_middle.at 15 rfl) rfl ?_
  refine xx_iload_n C (dd_X8_middle.at 16 rfl) rfl ?_
  obtain ⟨v3, e4, hf⟩ := bdo_ hf
  refine xx_callVi C (ss_X8_felt e4) (dd_X8_middle.at 17 rfl) ck_7 rfl sh_k98 kk_X8_felt ki_X8_felt lm_RX8_177 (lb_ rfl) rfl rfl (lb_ rfl) ?_
  refine xx_iload_n C (dd_X8_middle.at 18 rfl) rfl ?_
  refine xx_callSi C (ss_X8_middleOf rfl) (dd_X8_middle.at 19 rfl) kk_X8_middleOf ks_X8_middleOf lm_RX8_180 (lb_ rfl) rfl rfl (lb_ rfl) ?_
  exact xx_ireturn C (rt_ip hf Q) (dd_X8_middle.at 20 rfl) rfl
theorem ss_X8_least {l : Launch} {G : gt_} {a1 : Int32} {a2 : Int32} {a3 : Int32} {h : hh_} {r9 : Int32}  (hf : ff_X8_least a1 a2 a3 h = some r9) : ok_ l G 3 mt_X8_least [.ref 98, .int a1, .int a2, .int a3] h (some (.int r9)) h := by
  refine ok_of pn_RX8 (lb_ rfl) (fun Z _ _ C Q => ?_)
  show xx_ Z 0 [some (.ref 98), some (.int a1), some (.int a2), some (.int a3)] [] h
  unfold ff_X8_least at hf
  refine xx_iconst C (dd_X8_least.at 0 rfl) ic_0 ?_
  refine xx_aload_n C (dd_X8_least.at 1 rfl) rfl (Nat.le_of_ble_eq_true rfl) ?_
  refine xx_iload_n C (dd_X8_least.at 2 rfl) rfl ?_
  refine xx_iload_n C (dd_X8_least.at 3 rfl) rfl ?_
  refine xx_iload_n C (dd_X8_least.at 4 rfl) rfl ?_
  obtain ⟨v1, e2, hf⟩ := bdo_ hf
  refine xx_callVi C (ss_X8_middle e2) (dd_X8_least.at 5 rfl) ck_7 rfl sh_k98 kk_X8_middle ki_X8_middle lm_RX8_184 (lb_ rfl) rfl rfl (lb_ rfl) ?_
  refine xx_aload_n C (dd_X8_least.at 6 rfl) rfl (Nat.le_of_ble_eq_true rfl) ?_
  refine xx_getR (j := 14) (r := 106) C ck_7 (lb_ rfl) lf_RX8_35 sh_k98 rfl (lb_ rfl) rfl (dd_X8_least.at 7 rfl) ?_
  refine xx_iconst C (dd_X8_least.at 8 rfl) ic_3 ?_
  refine xx_iload_n C (dd_X8_least.at 9 rfl) rfl ?_
  refine xx_imul C (dd_X8_least.at 10 rfl) ?_
  refine xx_iconst C (dd_X8_least.at 11 rfl) ic_1 ?_
  refine xx_iadd C (dd_X8_least.at 12 rfl) ?_
  obtain ⟨g3, hf⟩ := gd_ok hf
  refine xx_iaload C (dd_X8_least.at 13 rfl) sh_k106 (bi_ok g3) ?_
  refine xx_isub C (dd_X8_least.at 14 rfl) ?_
  refine xx_callSi C (ss_X8_greater rfl) (dd_X8_least.at 15 rfl) kk_X8_greater ks_X8_greater lm_RX8_171 (lb_ rfl) rfl rfl (lb_ rfl) ?_
  exact xx_ireturn C (rt_ip hf Q) (dd_X8_least.at 16 rfl) rfl
theorem ss_X8_most {l : Launch} {G : gt_} {a1 : Int32} {a2 : Int32} {a3 : Int32} {h : hh_} {r9 : Int32}  (hf : ff_X8_most a1 a2 a3 h = some r9) : ok_ l G 3 mt_X8_most [.ref 98, .int a1, .int a2, .int a3] h (some (.int r9)) h := by
  refine ok_of pn_RX8 (lb_ rfl) (fun Z _ _ C Q => ?_)
  show xx_ Z 0 [some (.ref 98), some (.int a1), some (.int a2), some (.int a3)] [] h
  unfold ff_X8_most at hf
  refine xx_aload_n C (dd_X8_most.at 0 rfl) rfl (Nat.le_of_ble_eq_true rfl) ?_
  refine xx_iload_n C (dd_X8_most.at 1 rfl) rfl ?_
  refine xx_iload_n C (dd_X8_most.at 2 rfl) rfl ?_
  refine xx_iload_n C (dd_X8_most.at 3 rfl) rfl ?_
  obtain ⟨v1, e2, hf⟩ := bdo_ hf
  refine xx_callVi C (ss_X8_middle e2) (dd_X8_most.at 4 rfl) ck_7 rfl sh_k98 kk_X8_middle ki_X8_middle lm_RX8_184 (lb_ rfl) rfl rfl (lb_ rfl) ?_
  refine xx_aload_n C (dd_X8_most.at 5 rfl) rfl (Nat.le_of_ble_eq_true rfl) ?_
  refine xx_getR (j := 14) (r := 106) C ck_7 (lb_ rfl) lf_RX8_35 sh_k98 rfl (lb_ rfl) rfl (dd_X8_most.at 6 rfl) ?_
  refine xx_iconst C (dd_X8_most.at 7 rfl) ic_3 ?_
  refine xx_iload_n C (dd_X8_most.at 8 rfl) rfl ?_
  refine xx_imul C (dd_X8_most.at 9 rfl) ?_
  refine xx_iconst C (dd_X8_most.at 10 rfl) ic_1 ?_
  refine xx_iadd C (dd_X8_most.at 11 rfl) ?_
  obtain ⟨g3, hf⟩ := gd_ok hf
  refine xx_iaload C (dd_X8_most.at 12 rfl) sh_k106 (bi_ok g3) ?_
  refine xx_iadd C (dd_X8_most.at 13 rfl) ?_
  exact xx_ireturn C (rt_ip hf Q) (dd_X8_most.at 14 rfl) rfl
