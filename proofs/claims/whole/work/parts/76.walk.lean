theorem ss_X8_mixOffice_12 {Z : zz_} (C : cx_ Z mt_X8_mixOffice 3) {h9 : hh_} {x1 : Int32} {K12_33 : hh_ → Option (hh_)} (Q : rq_ Z none h9) (hK12_33 : ∀ (h8 : hh_), K12_33 h8 = some h9 → xx_ Z 33 [some (.ref 98), some (.int x1), none] [] h8) : ∀ (n9 : Nat) (x2 : Int32) (h : hh_), ff_X8_mixOffice_12 x1 K12_33 n9 x2 h = some h9 → xx_ Z 12 [some (.ref 98), some (.int x1), some (.int x2)] [] h := by
  intro n9
  induction n9 with
  | zero =>
    intro x2 h hf
    exact absurd hf (by rw [ff_X8_mixOffice_12]; exact nofun)
  | succ n9 ih =>
    intro x2 h hf
    rw [ff_X8_mixOffice_12] at hf
    refine xx_iload_n C (dd_X8_mixOffice.at 8 rfl) rfl ?_
    refine xx_iconst C (dd_X8_mixOffice.at 9 rfl) ic_5 ?_
    rcases ifo_ hf with ⟨hc, hf⟩ | ⟨hc, hf⟩
    · refine xx_icmp_gt_t (tgt := 33) C (dd_X8_mixOffice.at 10 rfl) (by decide) hc ?_
      exact xx_mask [true, true, false] (hK12_33 _ hf)
    · refine xx_icmp_gt_f (tgt := 33) C (dd_X8_mixOffice.at 10 rfl) (by decide) hc ?_
      refine xx_aload_n C (dd_X8_mixOffice.at 11 rfl) rfl (Nat.le_of_ble_eq_true rfl) ?_
      refine xx_aload_n C (dd_X8_mixOffice.at 12 rfl) rfl (Nat.le_of_ble_eq_true rfl) ?_
      refine xx_iload_n C (dd_X8_mixOffice.at 13 rfl) rfl ?_
      refine xx_iload_n C (dd_X8_mixOffice.at 14 rfl) rfl ?_
      obtain ⟨v1, e2, hf⟩ := bdo_ hf
      refine xx_callVi C (ss_X8_headOf e2) (dd_X8_mixOffice.at 15 rfl) ck_7 rfl sh_k98 kk_X8_headOf ki_X8_headOf lm_RX8_162 (lb_ rfl) rfl rfl (lb_ rfl) ?_
      refine xx_callVv C (ss_X8_mix rfl) (dd_X8_mixOffice.at 16 rfl) ck_7 rfl sh_k98 kk_X8_mix ki_X8_mix lm_RX8_290 (lb_ rfl) rfl rfl (lb_ rfl) ?_
      refine xx_iinc (v := _ + (1 : Int32)) (lv' := [_, _, _]) C (dd_X8_mixOffice.at 17 rfl) (lb_ rfl) rfl (by rw [ic_1]) rfl ?_
      refine xx_goto (tgt := 12) C (dd_X8_mixOffice.at 18 rfl) (by decide) ?_
      exact xx_mask [true, true, true] (ih _ _ hf)
theorem ss_X8_mixOffice_2 {Z : zz_} (C : cx_ Z mt_X8_mixOffice 3) {h9 : hh_}  {K2_39 : hh_ → Option (hh_)} (Q : rq_ Z none h9) (hK2_39 : ∀ (h8 : hh_), K2_39 h8 = some h9 → xx_ Z 39 [some (.ref 98), none, none] [] h8) : ∀ (n9 : Nat) (x1 : Int32) (h : hh_), ff_X8_mixOffice_2 K2_39 n9 x1 h = some h9 → xx_ Z 2 [some (.ref 98), some (.int x1), none] [] h := by
  intro n9
  induction n9 with
  | zero =>
    intro x1 h hf
    exact absurd hf (by rw [ff_X8_mixOffice_2]; exact nofun)
  | succ n9 ih =>
    intro x1 h hf
    rw [ff_X8_mixOffice_2] at hf
    refine xx_iload_n C (dd_X8_mixOffice.at 2 rfl) rfl ?_
    refine xx_aload_n C (dd_X8_mixOffice.at 3 rfl) rfl (Nat.le_of_ble_eq_true rfl) ?_
    refine xx_getI (j := 10) C ck_7 (lb_ rfl) lf_RX8_141 sh_k98 rfl (dd_X8_mixOffice.at 4 rfl) ?_
    rcases ifo_ hf with ⟨hc, hf⟩ | ⟨hc, hf⟩
    · refine xx_icmp_ge_t (tgt := 39) C (dd_X8_mixOffice.at 5 rfl) (by decide) hc ?_
      exact xx_mask [true, false, false] (hK2_39 _ hf)
    · refine xx_icmp_ge_f (tgt := 39) C (dd_X8_mixOffice.at 5 rfl) (by decide) hc ?_
      refine xx_iconst C (dd_X8_mixOffice.at 6 rfl) ic_0 ?_
      refine xx_istore_n (lv' := [_, _, _]) C (dd_X8_mixOffice.at 7 rfl) (lb_ rfl) rfl ?_
      refine xx_mask [true, true, true] (ss_X8_mixOffice_12 C Q (fun k3 hf => ?_) _ _ _ hf)
      refine xx_iinc (v := _ + (1 : Int32)) (lv' := [_, _, _]) C (dd_X8_mixOffice.at 19 rfl) (lb_ rfl) rfl (by rw [ic_1]) rfl ?_
      refine xx_goto (tgt := 2) C (dd_X8_mixOffice.at 20 rfl) (by decide) ?_
      exact xx_mask [true, true, false] (ih _ _ hf)
theorem ss_X8_mixOffice_41 {Z : zz_} (C : cx_ Z mt_X8_mixOffice 3) {h9 : hh_}  {K41_67 : hh_ → Option (hh_)} (Q : rq_ Z none h9) (hK41_67 : ∀ (h8 : hh_), K41_67 h8 = some h9 → xx_ Z 67 [some (.ref 98), none, none] [] h8) : ∀ (n9 : Nat) (x1 : Int32) (h : hh_), ff_X8_mixOffice_41 K41_67 n9 x1 h = some h9 → xx_ Z 41 [some (.ref 98), some (.int x1), none] [] h := by
  intro n9
  induction n9 with
  | zero =>
    intro x1 h hf
    exact absurd hf (by rw [ff_X8_mixOffice_41]; exact nofun)
  | succ n9 ih =>
    intro x1 h hf
    rw [ff_X8_mixOffice_41] at hf
    refine xx_iload_n C (dd_X8_mixOffice.at 23 rfl) rfl ?_
    refine xx_iconst C (dd_X8_mixOffice.at 24 rfl) ic_3 ?_
    refine xx_aload_n C (dd_X8_mixOffice.at 25 rfl) rfl (Nat.le_of_ble_eq_true rfl) ?_
    refine xx_getI (j := 11) C ck_7 (lb_ rfl) lf_RX8_144 sh_k98 rfl (dd_X8_mixOffice.at 26 rfl) ?_
    refine xx_imul C (dd_X8_mixOffice.at 27 rfl) ?_
    rcases ifo_ hf with ⟨hc, hf⟩ | ⟨hc, hf⟩
    · refine xx_icmp_ge_t (tgt := 67) C (dd_X8_mixOffice.at 28 rfl) (by decide) hc ?_
      exact xx_mask [true, false, false] (hK41_67 _ hf)
    · refine xx_icmp_ge_f (tgt := 67) C (dd_X8_mixOffice.at 28 rfl) (by decide) hc ?_
      refine xx_aload_n C (dd_X8_mixOffice.at 29 rfl) rfl (Nat.le_of_ble_eq_true rfl) ?_
      refine xx_aload_n C (dd_X8_mixOffice.at 30 rfl) rfl (Nat.le_of_ble_eq_true rfl) ?_
      refine xx_getR (j := 14) (r := 106) C ck_7 (lb_ rfl) lf_RX8_35 sh_k98 rfl (lb_ rfl) rfl (dd_X8_mixOffice.at 31 rfl) ?_
      refine xx_iload_n C (dd_X8_mixOffice.at 32 rfl) rfl ?_
      obtain ⟨g5, hf⟩ := gd_ok hf
      refine xx_iaload C (dd_X8_mixOffice.at 33 rfl) sh_k106 (bi_ok g5) ?_
      refine xx_callVv C (ss_X8_mix rfl) (dd_X8_mixOffice.at 34 rfl) ck_7 rfl sh_k98 kk_X8_mix ki_X8_mix lm_RX8_290 (lb_ rfl) rfl rfl (lb_ rfl) ?_
      refine xx_iinc (v := _ + (1 : Int32)) (lv' := [_, _, _]) C (dd_X8_mixOffice.at 35 rfl) (lb_ rfl) rfl (by rw [ic_1]) rfl ?_
      refine xx_goto (tgt := 41) C (dd_X8_mixOffice.at 36 rfl) (by decide) ?_
      exact xx_mask [true, true, false] (ih _ _ hf)
theorem ss_X8_mixOffice_69 {Z : zz_} (C : cx_ Z mt_X8_mixOffice 3) {h9 : hh_}  {K69_95 : hh_ → Option (hh_)} (Q : rq_ Z none h9) (hK69_95 : ∀ (h8 : hh_), K69_95 h8 = some h9 → xx_ Z 95 [some (.ref 98), none, none] [] h8) : ∀ (n9 : Nat) (x1 : Int32) (h : hh_), ff_X8_mixOffice_69 K69_95 n9 x1 h = some h9 → xx_ Z 69 [some (.ref 98), some (.int x1), none] [] h := by
  intro n9
  induction n9 with
  | zero =>
    intro x1 h hf
    exact absurd hf (by rw [ff_X8_mixOffice_69]; exact nofun)
  | succ n9 ih =>
    intro x1 h hf
    rw [ff_X8_mixOffice_69] at hf
    refine xx_iload_n C (dd_X8_mixOffice.at 39 rfl) rfl ?_
    refine xx_iconst C (dd_X8_mixOffice.at 40 rfl) ic_5 ?_
    refine xx_aload_n C (dd_X8_mixOffice.at 41 rfl) rfl (Nat.le_of_ble_eq_true rfl) ?_
    refine xx_getI (j := 12) C ck_7 (lb_ rfl) lf_RX8_147 sh_k98 rfl (dd_X8_mixOffice.at 42 rfl) ?_
    refine xx_imul C (dd_X8_mixOffice.at 43 rfl) ?_
    rcases ifo_ hf with ⟨hc, hf⟩ | ⟨hc, hf⟩
    · refine xx_icmp_ge_t (tgt := 95) C (dd_X8_mixOffice.at 44 rfl) (by decide) hc ?_
      exact xx_mask [true, false, false] (hK69_95 _ hf)
    · refine xx_icmp_ge_f (tgt := 95) C (dd_X8_mixOffice.at 44 rfl) (by decide) hc ?_
      refine xx_aload_n C (dd_X8_mixOffice.at 45 rfl) rfl (Nat.le_of_ble_eq_true rfl) ?_
      refine xx_aload_n C (dd_X8_mixOffice.at 46 rfl) rfl (Nat.le_of_ble_eq_true rfl) ?_
      refine xx_getR (j := 15) (r := 107) C ck_7 (lb_ rfl) lf_RX8_38 sh_k98 rfl (lb_ rfl) rfl (dd_X8_mixOffice.at 47 rfl) ?_
      refine xx_iload_n C (dd_X8_mixOffice.at 48 rfl) rfl ?_
      obtain ⟨g7, hf⟩ := gd_ok hf
      refine xx_iaload C (dd_X8_mixOffice.at 49 rfl) sh_k107 (bi_ok g7) ?_
      refine xx_callVv C (ss_X8_mix rfl) (dd_X8_mixOffice.at 50 rfl) ck_7 rfl sh_k98 kk_X8_mix ki_X8_mix lm_RX8_290 (lb_ rfl) rfl rfl (lb_ rfl) ?_
      refine xx_iinc (v := _ + (1 : Int32)) (lv' := [_, _, _]) C (dd_X8_mixOffice.at 51 rfl) (lb_ rfl) rfl (by rw [ic_1]) rfl ?_
      refine xx_goto (tgt := 69) C (dd_X8_mixOffice.at 52 rfl) (by decide) ?_
      exact xx_mask [true, true, false] (ih _ _ hf)
theorem ss_X8_mixOffice_97 {Z : zz_} (C : cx_ Z mt_X8_mixOffice 3) {h9 : hh_}   (Q : rq_ Z none h9) : ∀ (n9 : Nat) (x1 : Int32) (h : hh_), ff_X8_mixOffice_97 n9 x1 h = some h9 → xx_ Z 97 [some (.ref 98), some (.int x1), none] [] h := by
  intro n9
  induction n9 with
  | zero =>
    intro x1 h hf
    exact absurd hf (by rw [ff_X8_mixOffice_97]; exact nofun)
  | succ n9 ih =>
    intro x1 h hf
    rw [ff_X8_mixOffice_97] at hf
    refine xx_iload_n C (dd_X8_mixOffice.at 55 rfl) rfl ?_
    refine xx_iconst C (dd_X8_mixOffice.at 56 rfl) ic_3 ?_
    rcases ifo_ hf with ⟨hc, hf⟩ | ⟨hc, hf⟩
    · refine xx_icmp_ge_t (tgt := 141) C (dd_X8_mixOffice.at 57 rfl) (by decide) hc ?_
      exact xx_return C (rt_vwp hf Q) (dd_X8_mixOffice.at 78 rfl) rfl
    · refine xx_icmp_ge_f (tgt := 141) C (dd_X8_mixOffice.at 57 rfl) (by decide) hc ?_
      refine xx_aload_n C (dd_X8_mixOffice.at 58 rfl) rfl (Nat.le_of_ble_eq_true rfl) ?_
      refine xx_aload_n C (dd_X8_mixOffice.at 59 rfl) rfl (Nat.le_of_ble_eq_true rfl) ?_
      refine xx_getR (j := 23) (r := 110) C ck_7 (lb_ rfl) lf_RX8_47 sh_k98 rfl (lb_ rfl) rfl (dd_X8_mixOffice.at 60 rfl) ?_
      refine xx_sipush C (dd_X8_mixOffice.at 61 rfl) sq_1030 ?_
      refine xx_iload_n C (dd_X8_mixOffice.at 62 rfl) rfl ?_
      refine xx_imul C (dd_X8_mixOffice.at 63 rfl) ?_
      obtain ⟨g9, hf⟩ := gd_ok hf
      refine xx_iaload C (dd_X8_mixOffice.at 64 rfl) sh_k110 (bi_ok g9) ?_
      refine xx_bipush C (dd_X8_mixOffice.at 65 rfl) bq_m9 ?_
      rcases ifo_ hf with ⟨hc, hf⟩ | ⟨hc, hf⟩
      · refine xx_icmp_ne_f (tgt := 122) C (dd_X8_mixOffice.at 66 rfl) (by decide) (not_not_intro hc) ?_
        refine xx_iconst C (dd_X8_mixOffice.at 67 rfl) ic_m1 ?_
        refine xx_goto (tgt := 132) C (dd_X8_mixOffice.at 68 rfl) (by decide) ?_
        refine xx_callVv C (ss_X8_mix rfl) (dd_X8_mixOffice.at 75 rfl) ck_7 rfl sh_k98 kk_X8_mix ki_X8_mix lm_RX8_290 (lb_ rfl) rfl rfl (lb_ rfl) ?_
        refine xx_iinc (v := _ + (1 : Int32)) (lv' := [_, _, _]) C (dd_X8_mixOffice.at 76 rfl) (lb_ rfl) rfl (by rw [ic_1]) rfl ?_
        refine xx_goto (tgt := 97) C (dd_X8_mixOffice.at 77 rfl) (by decide) ?_
        exact xx_mask [true, true, false] (ih _ _ hf)
      · refine xx_icmp_ne_t (tgt := 122) C (dd_X8_mixOffice.at 66 rfl) (by decide) hc ?_
        refine xx_aload_n C (dd_X8_mixOffice.at 69 rfl) rfl (Nat.le_of_ble_eq_true rfl) ?_
        refine xx_getR (j := 23) (r := 110) C ck_7 (lb_ rfl) lf_RX8_47 sh_k98 rfl (lb_ rfl) rfl (dd_X8_mixOffice.at 70 rfl) ?_
        refine xx_sipush C (dd_X8_mixOffice.at 71 rfl) sq_1030 ?_
        refine xx_iload_n C (dd_X8_mixOffice.at 72 rfl) rfl ?_
        refine xx_imul C (dd_X8_mixOffice.at 73 rfl) ?_
        refine xx_iaload C (dd_X8_mixOffice.at 74 rfl) sh_k110 (bi_ok g9) ?_
        refine xx_callVv C (ss_X8_mix rfl) (dd_X8_mixOffice.at 75 rfl) ck_7 rfl sh_k98 kk_X8_mix ki_X8_mix lm_RX8_290 (lb_ rfl) rfl rfl (lb_ rfl) ?_
        refine xx_iinc (v := _ + (1 : Int32)) (lv' := [_, _, _]) C (dd_X8_mixOffice.at 76 rfl) (lb_ rfl) rfl (by rw [ic_1]) rfl ?_
        refine xx_goto (tgt := 97) C (dd_X8_mixOffice.at 77 rfl) (by decide) ?_
        exact xx_mask [true, true, false] (ih _ _ hf)
theorem ss_X8_mixOffice {l : Launch} {G : gt_} {h : hh_} {h9 : hh_}  (hf : ff_X8_mixOffice h = some h9) : ok_ l G 3 mt_X8_mixOffice [.ref 98] h none h9 := by
  refine ok_of pn_RX8 (lb_ rfl) (fun Z _ _ C Q => ?_)
  show xx_ Z 0 [some (.ref 98), none, none] [] h
  unfold ff_X8_mixOffice at hf
  refine xx_iconst C (dd_X8_mixOffice.at 0 rfl) ic_0 ?_
  refine xx_istore_n (lv' := [_, _, _]) C (dd_X8_mixOffice.at 1 rfl) (lb_ rfl) rfl ?_
  refine xx_mask [true, true, false] (ss_X8_mixOffice_2 C Q (fun k4 hf => ?_) _ _ _ hf)
  refine xx_iconst C (dd_X8_mixOffice.at 21 rfl) ic_0 ?_
  refine xx_istore_n (lv' := [_, _, _]) C (dd_X8_mixOffice.at 22 rfl) (lb_ rfl) rfl ?_
  refine xx_mask [true, true, false] (ss_X8_mixOffice_41 C Q (fun k6 hf => ?_) _ _ _ hf)
  refine xx_iconst C (dd_X8_mixOffice.at 37 rfl) ic_0 ?_
  refine xx_istore_n (lv' := [_, _, _]) C (dd_X8_mixOffice.at 38 rfl) (lb_ rfl) rfl ?_
  refine xx_mask [true, true, false] (ss_X8_mixOffice_69 C Q (fun k8 hf => ?_) _ _ _ hf)
  refine xx_iconst C (dd_X8_mixOffice.at 53 rfl) ic_0 ?_
  refine xx_istore_n (lv' := [_, _, _]) C (dd_X8_mixOffice.at 54 rfl) (lb_ rfl) rfl ?_
  exact xx_mask [true, true, false] (ss_X8_mixOffice_97 C Q _ _ _ hf)
theorem ss_X8_digest_9 {Z : zz_} (C : cx_ Z mt_X8_digest 4) {r9 : Int64} {h9 : hh_}  {K9_30 : hh_ → Option (Int64 × hh_)} (Q : rq_ Z (some (.long r9)) h9) (hK9_30 : ∀ (h8 : hh_), K9_30 h8 = some (r9, h9) → xx_ Z 30 [some (.ref 98), none, none] [] h8) : ∀ (n9 : Nat) (x1 : Int32) (h : hh_), ff_X8_digest_9 K9_30 n9 x1 h = some (r9, h9) → xx_ Z 9 [some (.ref 98), some (.int x1), none] [] h := by
  intro n9
  induction n9 with
  | zero =>
    intro x1 h hf
    exact absurd hf (by rw [ff_X8_digest_9]; exact nofun)
  | succ n9 ih =>
    intro x1 h hf
    rw [ff_X8_digest_9] at hf
    refine xx_iload_n C (dd_X8_digest.at 5 rfl) rfl ?_
    refine xx_bipush C (dd_X8_digest.at 6 rfl) bq_8 ?_
    rcases ifo_ hf with ⟨hc, hf⟩ | ⟨hc, hf⟩
    · refine xx_icmp_gt_t (tgt := 30) C (dd_X8_digest.at 7 rfl) (by decide) hc ?_
      exact xx_mask [true, false, false] (hK9_30 _ hf)
    · refine xx_icmp_gt_f (tgt := 30) C (dd_X8_digest.at 7 rfl) (by decide) hc ?_
      refine xx_aload_n C (dd_X8_digest.at 8 rfl) rfl (Nat.le_of_ble_eq_true rfl) ?_
      refine xx_aload_n C (dd_X8_digest.at 9 rfl) rfl (Nat.le_of_ble_eq_true rfl) ?_
      refine xx_iload_n C (dd_X8_digest.at 10 rfl) rfl ?_
      obtain ⟨v1, e2, hf⟩ := bdo_ hf
      refine xx_callVi C (ss_X8_tellsOf e2) (dd_X8_digest.at 11 rfl) ck_7 rfl sh_k98 kk_X8_tellsOf ki_X8_tellsOf lm_RX8_282 (lb_ rfl) rfl rfl (lb_ rfl) ?_
      refine xx_callVv C (ss_X8_mix rfl) (dd_X8_digest.at 12 rfl) ck_7 rfl sh_k98 kk_X8_mix ki_X8_mix lm_RX8_290 (lb_ rfl) rfl rfl (lb_ rfl) ?_
      refine xx_iinc (v := _ + (1 : Int32)) (lv' := [_, _, _]) C (dd_X8_digest.at 13 rfl) (lb_ rfl) rfl (by rw [ic_1]) rfl ?_
      refine xx_goto (tgt := 9) C (dd_X8_digest.at 14 rfl) (by decide) ?_
      exact xx_mask [true, true, false] (ih _ _ hf)
theorem ss_X8_digest_67 {Z : zz_} (C : cx_ Z mt_X8_digest 4) {r9 : Int64} {h9 : hh_} {x1 : Int32} {K67_93 : hh_ → Option (Int64 × hh_)} (Q : rq_ Z (some (.long r9)) h9) (hK67_93 : ∀ (h8 : hh_), K67_93 h8 = some (r9, h9) → xx_ Z 93 [some (.ref 98), some (.int x1), none] [] h8) : ∀ (n9 : Nat) (x2 : Int32) (h : hh_), ff_X8_digest_67 x1 K67_93 n9 x2 h = some (r9, h9) → xx_ Z 67 [some (.ref 98), some (.int x1), some (.int x2)] [] h := by
  intro n9
  induction n9 with
  | zero =>
    intro x2 h hf
    exact absurd hf (by rw [ff_X8_digest_67]; exact nofun)
  | succ n9 ih =>
    intro x2 h hf
    rw [ff_X8_digest_67] at hf
    refine xx_iload_n C (dd_X8_digest.at 37 rfl) rfl ?_
    refine xx_aload_n C (dd_X8_digest.at 38 rfl) rfl (Nat.le_of_ble_eq_true rfl) ?_
    refine xx_getR (j := 5) (r := 100) C ck_7 (lb_ rfl) lf_RX8_17 sh_k98 rfl (lb_ rfl) rfl (dd_X8_digest.at 39 rfl) ?_
    refine xx_iload_n C (dd_X8_digest.at 40 rfl) rfl ?_
    obtain ⟨g7, hf⟩ := gd_ok hf
    refine xx_iaload C (dd_X8_digest.at 41 rfl) sh_k100 (bi_ok g7) ?_
    rcases ifo_ hf with ⟨hc, hf⟩ | ⟨hc, hf⟩
    · refine xx_icmp_ge_t (tgt := 93) C (dd_X8_digest.at 42 rfl) (by decide) hc ?_
      exact xx_mask [true, true, false] (hK67_93 _ hf)
    · refine xx_icmp_ge_f (tgt := 93) C (dd_X8_digest.at 42 rfl) (by decide) hc ?_
      refine xx_aload_n C (dd_X8_digest.at 43 rfl) rfl (Nat.le_of_ble_eq_true rfl) ?_
      refine xx_aload_n C (dd_X8_digest.at 44 rfl) rfl (Nat.le_of_ble_eq_true rfl) ?_
      refine xx_iload_n C (dd_X8_digest.at 45 rfl) rfl ?_
      refine xx_iload_n C (dd_X8_digest.at 46 rfl) rfl ?_
      obtain ⟨v8, e9, hf⟩ := bdo_ hf
      refine xx_callVi C (ss_X8_rowAt e9) (dd_X8_digest.at 47 rfl) ck_7 rfl sh_k98 kk_X8_rowAt ki_X8_rowAt lm_RX8_94 (lb_ rfl) rfl rfl (lb_ rfl) ?_
      refine xx_callVv C (ss_X8_mix rfl) (dd_X8_digest.at 48 rfl) ck_7 rfl sh_k98 kk_X8_mix ki_X8_mix lm_RX8_290 (lb_ rfl) rfl rfl (lb_ rfl) ?_
      refine xx_iinc (v := _ + (1 : Int32)) (lv' := [_, _, _]) C (dd_X8_digest.at 49 rfl) (lb_ rfl) rfl (by rw [ic_1]) rfl ?_
      refine xx_goto (tgt := 67) C (dd_X8_digest.at 50 rfl) (by decide) ?_
      exact xx_mask [true, true, true] (ih _ _ hf)
theorem ss_X8_digest_62 {Z : zz_} (C : cx_ Z mt_X8_digest 4) {r9 : Int64} {h9 : hh_} {x1 : Int32} {y1 : Int32} {h : hh_} {K62_36 : Int32 → hh_ → Option (Int64 × hh_)} (Q : rq_ Z (some (.long r9)) h9) (hK62_36 : ∀ (z1 : Int32) (h8 : hh_), K62_36 z1 h8 = some (r9, h9) → xx_ Z 36 [some (.ref 98), some (.int z1), none] [] h8) (hf : ff_X8_digest_62 x1 y1 h K62_36 = some (r9, h9)) : xx_ Z 62 [some (.ref 98), some (.int x1), none] [.int y1, .ref 98] h := by
  unfold ff_X8_digest_62 at hf
  refine xx_callVv C (ss_X8_mix rfl) (dd_X8_digest.at 34 rfl) ck_7 rfl sh_k98 kk_X8_mix ki_X8_mix lm_RX8_290 (lb_ rfl) rfl rfl (lb_ rfl) ?_
  refine xx_iconst C (dd_X8_digest.at 35 rfl) ic_0 ?_
  refine xx_istore_n (lv' := [_, _, _]) C (dd_X8_digest.at 36 rfl) (lb_ rfl) rfl ?_
  refine xx_mask [true, true, true] (ss_X8_digest_67 C Q (fun k10 hf => ?_) _ _ _ hf)
  refine xx_iinc (v := _ + (1 : Int32)) (lv' := [_, _, _]) C (dd_X8_digest.at 51 rfl) (lb_ rfl) rfl (by rw [ic_1]) rfl ?_
  refine xx_goto (tgt := 36) C (dd_X8_digest.at 52 rfl) (by decide) ?_
  exact xx_mask [true, true, false] (hK62_36 _ _ hf)
theorem ss_X8_digest_36 {Z : zz_} (C : cx_ Z mt_X8_digest 4) {r9 : Int64} {h9 : hh_}  {K36_99 : hh_ → Option (Int64 × hh_)} (Q : rq_ Z (some (.long r9)) h9) (hK36_99 : ∀ (h8 : hh_), K36_99 h8 = some (r9, h9) → xx_ Z 99 [some (.ref 98), none, none] [] h8) : ∀ (n9 : Nat) (x1 : Int32) (h : hh_), ff_X8_digest_36 K36_99 n9 x1 h = some (r9, h9) → xx_ Z 36 [some (.ref 98), some (.int x1), none] [] h := by
  intro n9
  induction n9 with
  | zero =>
    intro x1 h hf
    exact absurd hf (by rw [ff_X8_digest_36]; exact nofun)
  | succ n9 ih =>
    intro x1 h hf
    rw [ff_X8_digest_36] at hf
    refine xx_iload_n C (dd_X8_digest.at 19 rfl) rfl ?_
    refine xx_bipush C (dd_X8_digest.at 20 rfl) bq_6 ?_
    rcases ifo_ hf with ⟨hc, hf⟩ | ⟨hc, hf⟩
    · refine xx_icmp_ge_t (tgt := 99) C (dd_X8_digest.at 21 rfl) (by decide) hc ?_
      exact xx_mask [true, false, false] (hK36_99 _ hf)
    · refine xx_icmp_ge_f (tgt := 99) C (dd_X8_digest.at 21 rfl) (by decide) hc ?_
      refine xx_aload_n C (dd_X8_digest.at 22 rfl) rfl (Nat.le_of_ble_eq_true rfl) ?_
      refine xx_aload_n C (dd_X8_digest.at 23 rfl) rfl (Nat.le_of_ble_eq_true rfl) ?_
      refine xx_getR (j := 5) (r := 100) C ck_7 (lb_ rfl) lf_RX8_17 sh_k98 rfl (lb_ rfl) rfl (dd_X8_digest.at 24 rfl) ?_
      refine xx_iload_n C (dd_X8_digest.at 25 rfl) rfl ?_
      obtain ⟨g6, hf⟩ := gd_ok hf
      refine xx_iaload C (dd_X8_digest.at 26 rfl) sh_k100 (bi_ok g6) ?_
      rcases ifo_ hf with ⟨hc, hf⟩ | ⟨hc, hf⟩
      · refine xx_if_ge_t (tgt := 56) C (dd_X8_digest.at 27 rfl) (by decide) hc ?_
        refine xx_aload_n C (dd_X8_digest.at 30 rfl) rfl (Nat.le_of_ble_eq_true rfl) ?_
        refine xx_getR (j := 5) (r := 100) C ck_7 (lb_ rfl) lf_RX8_17 sh_k98 rfl (lb_ rfl) rfl (dd_X8_digest.at 31 rfl) ?_
        refine xx_iload_n C (dd_X8_digest.at 32 rfl) rfl ?_
        refine xx_iaload C (dd_X8_digest.at 33 rfl) sh_k100 (bi_ok g6) ?_
        exact xx_mask [true, true, false] (ss_X8_digest_62 C Q (fun _ _ hf => ih _ _ hf) hf)
      · refine xx_if_ge_f (tgt := 56) C (dd_X8_digest.at 27 rfl) (by decide) hc ?_
        refine xx_iconst C (dd_X8_digest.at 28 rfl) ic_m1 ?_
        refine xx_goto (tgt := 62) C (dd_X8_digest.at 29 rfl) (by decide) ?_
        exact xx_mask [true, true, false] (ss_X8_digest_62 C Q (fun _ _ hf => ih _ _ hf) hf)
theorem ss_X8_digest_131 {Z : zz_} (C : cx_ Z mt_X8_digest 4) {r9 : Int64} {h9 : hh_} {x1 : Int32} {K131_162 : hh_ → Option (Int64 × hh_)} (Q : rq_ Z (some (.long r9)) h9) (hK131_162 : ∀ (h8 : hh_), K131_162 h8 = some (r9, h9) → xx_ Z 162 [some (.ref 98), some (.int x1), none] [] h8) : ∀ (n9 : Nat) (x2 : Int32) (h : hh_), ff_X8_digest_131 x1 K131_162 n9 x2 h = some (r9, h9) → xx_ Z 131 [some (.ref 98), some (.int x1), some (.int x2)] [] h := by
  intro n9
  induction n9 with
  | zero =>
    intro x2 h hf
    exact absurd hf (by rw [ff_X8_digest_131]; exact nofun)
  | succ n9 ih =>
    intro x2 h hf
    rw [ff_X8_digest_131] at hf
    refine xx_iload_n C (dd_X8_digest.at 73 rfl) rfl ?_
    refine xx_aload_n C (dd_X8_digest.at 74 rfl) rfl (Nat.le_of_ble_eq_true rfl) ?_
    refine xx_getR (j := 8) (r := 103) C ck_7 (lb_ rfl) lf_RX8_26 sh_k98 rfl (lb_ rfl) rfl (dd_X8_digest.at 75 rfl) ?_
    refine xx_iload_n C (dd_X8_digest.at 76 rfl) rfl ?_
    obtain ⟨g13, hf⟩ := gd_ok hf
    refine xx_iaload C (dd_X8_digest.at 77 rfl) sh_k103 (bi_ok g13) ?_
    rcases ifo_ hf with ⟨hc, hf⟩ | ⟨hc, hf⟩
    · refine xx_icmp_ge_t (tgt := 162) C (dd_X8_digest.at 78 rfl) (by decide) hc ?_
      exact xx_mask [true, true, false] (hK131_162 _ hf)
    · refine xx_icmp_ge_f (tgt := 162) C (dd_X8_digest.at 78 rfl) (by decide) hc ?_
      refine xx_aload_n C (dd_X8_digest.at 79 rfl) rfl (Nat.le_of_ble_eq_true rfl) ?_
      refine xx_aload_n C (dd_X8_digest.at 80 rfl) rfl (Nat.le_of_ble_eq_true rfl) ?_
      refine xx_getR (j := 9) (r := 104) C ck_7 (lb_ rfl) lf_RX8_29 sh_k98 rfl (lb_ rfl) rfl (dd_X8_digest.at 81 rfl) ?_
      refine xx_bipush C (dd_X8_digest.at 82 rfl) bq_80 ?_
      refine xx_iload_n C (dd_X8_digest.at 83 rfl) rfl ?_
      refine xx_imul C (dd_X8_digest.at 84 rfl) ?_
      refine xx_iload_n C (dd_X8_digest.at 85 rfl) rfl ?_
      refine xx_iadd C (dd_X8_digest.at 86 rfl) ?_
      obtain ⟨g14, hf⟩ := gd_ok hf
      refine xx_iaload C (dd_X8_digest.at 87 rfl) sh_k104 (bi_ok g14) ?_
      refine xx_callVv C (ss_X8_mix rfl) (dd_X8_digest.at 88 rfl) ck_7 rfl sh_k98 kk_X8_mix ki_X8_mix lm_RX8_290 (lb_ rfl) rfl rfl (lb_ rfl) ?_
      refine xx_iinc (v := _ + (1 : Int32)) (lv' := [_, _, _]) C (dd_X8_digest.at 89 rfl) (lb_ rfl) rfl (by rw [ic_1]) rfl ?_
      refine xx_goto (tgt := 131) C (dd_X8_digest.at 90 rfl) (by decide) ?_
      exact xx_mask [true, true, true] (ih _ _ hf)
theorem ss_X8_digest_126 {Z : zz_} (C : cx_ Z mt_X8_digest 4) {r9 : Int64} {h9 : hh_} {x1 : Int32} {y1 : Int32} {h : hh_} {K126_101 : Int32 → hh_ → Option (Int64 × hh_)} (Q : rq_ Z (some (.long r9)) h9) (hK126_101 : ∀ (z1 : Int32) (h8 : hh_), K126_101 z1 h8 = some (r9, h9) → xx_ Z 101 [some (.ref 98), some (.int z1), none] [] h8) (hf : ff_X8_digest_126 x1 y1 h K126_101 = some (r9, h9)) : xx_ Z 126 [some (.ref 98), some (.int x1), none] [.int y1, .ref 98] h := by
  unfold ff_X8_digest_126 at hf
  refine xx_callVv C (ss_X8_mix rfl) (dd_X8_digest.at 70 rfl) ck_7 rfl sh_k98 kk_X8_mix ki_X8_mix lm_RX8_290 (lb_ rfl) rfl rfl (lb_ rfl) ?_
  refine xx_iconst C (dd_X8_digest.at 71 rfl) ic_0 ?_
  refine xx_istore_n (lv' := [_, _, _]) C (dd_X8_digest.at 72 rfl) (lb_ rfl) rfl ?_
  refine xx_mask [true, true, true] (ss_X8_digest_131 C Q (fun k15 hf => ?_) _ _ _ hf)
  refine xx_iinc (v := _ + (1 : Int32)) (lv' := [_, _, _]) C (dd_X8_digest.at 91 rfl) (lb_ rfl) rfl (by rw [ic_1]) rfl ?_
  refine xx_goto (tgt := 101) C (dd_X8_digest.at 92 rfl) (by decide) ?_
  exact xx_mask [true, true, false] (hK126_101 _ _ hf)
theorem ss_X8_digest_101 {Z : zz_} (C : cx_ Z mt_X8_digest 4) {r9 : Int64} {h9 : hh_}   (Q : rq_ Z (some (.long r9)) h9) : ∀ (n9 : Nat) (x1 : Int32) (h : hh_), ff_X8_digest_101 n9 x1 h = some (r9, h9) → xx_ Z 101 [some (.ref 98), some (.int x1), none] [] h := by
  intro n9
  induction n9 with
  | zero =>
    intro x1 h hf
    exact absurd hf (by rw [ff_X8_digest_101]; exact nofun)
  | succ n9 ih =>
    intro x1 h hf
    rw [ff_X8_digest_101] at hf
    refine xx_iload_n C (dd_X8_digest.at 55 rfl) rfl ?_
    refine xx_iconst C (dd_X8_digest.at 56 rfl) ic_4 ?_
    rcases ifo_ hf with ⟨hc, hf⟩ | ⟨hc, hf⟩
    · refine xx_icmp_ge_t (tgt := 168) C (dd_X8_digest.at 57 rfl) (by decide) hc ?_
      refine xx_aload_n C (dd_X8_digest.at 93 rfl) rfl (Nat.le_of_ble_eq_true rfl) ?_
      refine xx_getL (j := 30) C ck_7 (lb_ rfl) lf_RX8_287 sh_k98 rfl (dd_X8_digest.at 94 rfl) ?_
      exact xx_lreturn C (rt_lwp hf Q) (dd_X8_digest.at 95 rfl) rfl
    · refine xx_icmp_ge_f (tgt := 168) C (dd_X8_digest.at 57 rfl) (by decide) hc ?_
      refine xx_aload_n C (dd_X8_digest.at 58 rfl) rfl (Nat.le_of_ble_eq_true rfl) ?_
      refine xx_aload_n C (dd_X8_digest.at 59 rfl) rfl (Nat.le_of_ble_eq_true rfl) ?_
      refine xx_getR (j := 8) (r := 103) C ck_7 (lb_ rfl) lf_RX8_26 sh_k98 rfl (lb_ rfl) rfl (dd_X8_digest.at 60 rfl) ?_
      refine xx_iload_n C (dd_X8_digest.at 61 rfl) rfl ?_
      obtain ⟨g12, hf⟩ := gd_ok hf
      refine xx_iaload C (dd_X8_digest.at 62 rfl) sh_k103 (bi_ok g12) ?_
      rcases ifo_ hf with ⟨hc, hf⟩ | ⟨hc, hf⟩
      · refine xx_if_ge_t (tgt := 120) C (dd_X8_digest.at 63 rfl) (by decide) hc ?_
        refine xx_aload_n C (dd_X8_digest.at 66 rfl) rfl (Nat.le_of_ble_eq_true rfl) ?_
        refine xx_getR (j := 8) (r := 103) C ck_7 (lb_ rfl) lf_RX8_26 sh_k98 rfl (lb_ rfl) rfl (dd_X8_digest.at 67 rfl) ?_
        refine xx_iload_n C (dd_X8_digest.at 68 rfl) rfl ?_
        refine xx_iaload C (dd_X8_digest.at 69 rfl) sh_k103 (bi_ok g12) ?_
        exact xx_mask [true, true, false] (ss_X8_digest_126 C Q (fun _ _ hf => ih _ _ hf) hf)
      · refine xx_if_ge_f (tgt := 120) C (dd_X8_digest.at 63 rfl) (by decide) hc ?_
        refine xx_iconst C (dd_X8_digest.at 64 rfl) ic_m1 ?_
        refine xx_goto (tgt := 126) C (dd_X8_digest.at 65 rfl) (by decide) ?_
        exact xx_mask [true, true, false] (ss_X8_digest_126 C Q (fun _ _ hf => ih _ _ hf) hf)
theorem ss_X8_digest {l : Launch} {G : gt_} {h : hh_} {r9 : Int64} {h9 : hh_}  (hf : ff_X8_digest h = some (r9, h9)) : ok_ l G 4 mt_X8_digest [.ref 98] h (some (.long r9)) h9 := by
  refine ok_of pn_RX8 (lb_ rfl) (fun Z _ _ C Q => ?_)
  show xx_ Z 0 [some (.ref 98), none, none] [] h
  unfold ff_X8_digest at hf
  refine xx_aload_n C (dd_X8_digest.at 0 rfl) rfl (Nat.le_of_ble_eq_true rfl) ?_
  refine xx_ldc2 C (dd_X8_digest.at 1 rfl) lc_RX8_293 ?_
  refine xx_putL (j := 30) C ck_7 (lb_ rfl) lf_RX8_287 rfl rfl sh_k98 rfl (dd_X8_digest.at 2 rfl) ?_
  refine xx_iconst C (dd_X8_digest.at 3 rfl) ic_0 ?_
  refine xx_istore_n (lv' := [_, _, _]) C (dd_X8_digest.at 4 rfl) (lb_ rfl) rfl ?_
  refine xx_mask [true, true, false] (ss_X8_digest_9 C Q (fun k3 hf => ?_) _ _ _ hf)
  refine xx_aload_n C (dd_X8_digest.at 15 rfl) rfl (Nat.le_of_ble_eq_true rfl) ?_
  obtain ⟨v4, e5, hf⟩ := bdo_ hf
  refine xx_callVv C (ss_X8_mixOffice e5) (dd_X8_digest.at 16 rfl) ck_7 rfl sh_k98 kk_X8_mixOffice ki_X8_mixOffice lm_RX8_295 (lb_ rfl) rfl rfl (lb_ rfl) ?_
  refine xx_iconst C (dd_X8_digest.at 17 rfl) ic_0 ?_
  refine xx_istore_n (lv' := [_, _, _]) C (dd_X8_digest.at 18 rfl) (lb_ rfl) rfl ?_
  refine xx_mask [true, true, false] (ss_X8_digest_36 C Q (fun k11 hf => ?_) _ _ _ hf)
  refine xx_iconst C (dd_X8_digest.at 53 rfl) ic_0 ?_
  refine xx_istore_n (lv' := [_, _, _]) C (dd_X8_digest.at 54 rfl) (lb_ rfl) rfl ?_
  exact xx_mask [true, true, false] (ss_X8_digest_101 C Q _ _ _ hf)
