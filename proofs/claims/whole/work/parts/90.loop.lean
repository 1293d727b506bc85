/-! THE CLAIM OUT OF ONE WALK OF THE LAW'S BODY. Your part is whole_start (and what it stands on); all else here is the same for every law, but numbers. -/
def R_law : String := "ThumbReaderLaw"
def lw_P (b : Addr) (xs : List Int32) (args : Array Value) (s : State) : Prop := args = #[.ref b] ∧ s.IntsAt b xs ∧ xs.length ≤ 384 ∧ (Jvm.Cond.and given_1 narrow_1).before args s = true
def lw_Q (_ : Array Value) (s : State) (o : Outcome) (t : State) : Prop := o = .returned (some (.int 1)) ∧ Framed s o t [] 600000 7302250
def lw_Z (below : List Frame) (a : Array Value) (s : State) : State → Prop := fun t => ∃ o, t.status = .running ∧ Ended t below o ∧ lw_Q a s o t
/-- the law's own end, with 1 on the stack, nothing written that was there before, its room as the claim has it -/
theorem lw_ret {p : Program} {l : Launch} {e : Env} {s : State} {m : MethodId} {below : List Frame} {meth : Method} {c : Code} {b : Nat} (hx : p.tables.exec = Jvm.exec) (hb : c.code = code) (hr : meth.sig.returnType = ret) (hlocks : meth.locks = false) {pc : Nat} {H : Heap} {ls : Array Slot} (hdg : decode code pc = .ok (.ireturn, 1)) : W p l e room_1 s m #[Value.ref b] below meth c H [] 600000 7302250 (lw_Z below #[Value.ref b] s) (F0 m pc ls [.int 1]) := by
  intro T hT X
  obtain ⟨fs, hret, hrun, hended, hW, hframe⟩ := X.leave (v := some (.int 1)) (hlocks := hlocks) (fun h => by rw [hr] at h; cases h)
  have hmeth' : T.vm.method? m = some meth := X.method'
  refine ⟨T.setFrames fs, ?_, .returned (some (.int 1)), hrun, hended, rfl, ⟨_, rfl⟩, hW, hframe⟩
  jvm_step X.here [X.here.top, hx, hb, hdg, hmeth', hr, ret, narrow_b1]
  (try refine ⟨rfl, ?_⟩); (try refine ⟨rfl, ?_⟩)
  first | (intro acts; rw [hret _ acts rfl rfl rfl]) | rw [hret _ _ rfl rfl rfl]
  exact Steps.refl _
/-- what holds at the law's entry: the machine, the code, the tables' words (any of lw_tbl by 'hts w (by decide +kernel)'), the script of L ints xs at the cell b, what the Statement gives of the start (any of its parts by flat_of_before) -/
def lw_At (p : Program) (s : State) (m : MethodId) (meth : Method) (c : Code) (b L : Nat) (xs : Nat → Int32) : Prop :=
  p.tables.exec = Jvm.exec ∧ c.code = code ∧ meth.sig.returnType = ret ∧ c.maxLocals = 4 ∧ s.vm.findClass R_law = some m.cls ∧ (∀ w ∈ lw_tbl, w.before #[Value.ref b] s = true) ∧ va_X b L xs s s.heap ∧ b < s.heap.size ∧ meth.locks = false ∧ (Jvm.Cond.and given_1 narrow_1).before #[Value.ref b] s = true
theorem arr_int {args : Array Value} {s : State} (h : (Cond.arrayClass .int).before args s = true) : ∃ (cA : ClassId) (kA : Class) (comp : ClassId), s.vm.findClass ("[" ++ FieldType.int.toString) = some cA ∧ s.vm.classes[cA]? = some kA ∧ kA.kind = .array comp .int := by
  exact Cond.arrayClass_spec h
def rho_ : Nat → Nat → Nat := (hh_up (hh_up (hh_up (hh_up (hh_up (hh_up (hh_up (hh_up (hh_up (hh_up (hh_up (hh_up (hh_up (hh_up (hh_up (hh_up (hh_up (hh_up (hh_up (hh_up (hh_up (hh_up (hh_up (hh_up (hh_up (hh_up (hh_up (hh_up (hh_up (rm2_ (hh_up (rm2_ (hh_up (rm2_ (hh_up (rm2_ (hh_up (hh_up (hh_up (hh_up (rm2_ (hh_up (rm2_ (hh_up (rm2_ (hh_up (rm2_ (hh_up (hh_up (hh_up (hh_up (hh_up (rm2_ (hh_up (rm2_ (hh_up (hh_up (hh_up (hh_up (hh_up (hh_up (rm2_ (hh_up (hh_up (hh_up (rm2_ (fun _ _ => 0) 3 6) 2 0 3) 2 1 10) 1 0 2) 12 4) 11 0 12) 11 1 17) 1 1 11) 1 2 18) 1 3 19) 20 0 21) 22 6) 20 1 22) 29 6) 20 2 29) 1 4 20) 36 0 37) 1 5 36) 1 6 38) 40 5) 39 0 40) 46 5) 39 1 46) 52 4) 39 2 52) 57 4) 39 3 57) 39 4 62) 39 5 63) 1 7 39) 65 5) 64 0 65) 71 5) 64 1 71) 77 4) 64 2 77) 82 4) 64 3 82) 64 4 87) 64 5 88) 1 8 64) 89 0 90) 89 1 91) 18 0 89) 92 0 93) 92 1 94) 18 1 92) 95 0 96) 95 1 97) 18 2 95) 98 1 99) 98 5 100) 98 6 101) 98 7 102) 98 8 103) 98 9 104) 98 13 105) 98 14 106) 98 15 107) 98 20 108) 98 22 109) 98 23 110) 98 24 111) 98 25 112) 98 26 113) 98 29 114)
def rel_ (k j : Nat) : Bool := match sh_ k with
  | (0, ci) => fk_ ci j == 2
  | (2, n) => decide (j < n)
  | (3, n) => decide (j < n)
  | _ => false
theorem rho_ok : ∀ k, k ≤ 114 → ∀ j, j < 40 → rel_ k j = true → rho_ k j = rr_ h0_ k j := by decide +kernel
theorem sh_small : ∀ k, k ≤ 114 → (sh_ k).1 = 2 ∨ (sh_ k).1 = 3 → (sh_ k).2 ≤ 40 := by decide +kernel
theorem nf_small : ∀ ci, ci < 8 → nf_ ci ≤ 40 ∧ True := by decide
theorem fk_out {ci j : Nat} (h : 40 ≤ j) : fk_ ci j ≠ 2 := by
  unfold fk_
  have : ∀ l ∈ fk_L, l.length ≤ 40 := by decide
  intro e
  by_cases hc : ci < fk_L.length
  · have h1 : (fk_L.getD ci []).length ≤ 40 := this _ (by rw [List.getD_eq_getElem?_getD, List.getElem?_eq_getElem hc]; exact List.getElem_mem hc)
    rw [List.getD_eq_getElem?_getD (l := fk_L.getD ci []), List.getElem?_eq_none (by omega)] at e
    cases e
  · rw [List.getD_eq_getElem?_getD (l := fk_L), List.getElem?_eq_none (by omega)] at e
    cases e
theorem sh_all3 : ∀ k, k ≤ 114 → (sh_ k).1 = 0 ∨ (sh_ k).1 = 1 ∨ (sh_ k).1 = 2 ∨ (sh_ k).1 = 3 ∨ (sh_ k).1 = 9 := by decide +kernel
theorem hw_start {G : gt_} {U : State} {H : Heap} (hw : hc_ G U (114, rho_, h0_) H) : hw_ G U h0_ H := by
  refine ⟨⟨hw.1.1, fun k hk => ?_, hw.1.2.2⟩, by decide, by decide, by decide⟩
  obtain ⟨c0, c1, c2, c3⟩ := hw.1.2.1 k hk
  refine ⟨fun ci s => ?_, c1, fun n s => ?_, fun n s => ?_⟩
  · refine (c0 ci s).to (fun j _ => ?_)
    show fv_ G h0_ rho_ ci k j = fv_ G h0_ (rr_ h0_) ci k j
    unfold fv_
    by_cases e0 : fk_ ci j = 0
    · rw [if_pos e0, if_pos e0]
    · by_cases e1 : fk_ ci j = 1
      · rw [if_neg e0, if_pos e1, if_neg e0, if_pos e1]
      · rw [if_neg e0, if_neg e1, if_neg e0, if_neg e1]
        by_cases e2 : fk_ ci j = 2
        · have hj : j < 40 := Nat.lt_of_not_le (fun q => fk_out q e2)
          rw [rho_ok k hk j hj (by unfold rel_; rw [s]; simp [e2])]
        · exfalso
          have : ∀ l ∈ fk_L, ∀ x ∈ l, x = 0 ∨ x = 1 ∨ x = 2 := by decide
          have hlt : j < nf_ ci := by assumption
          unfold nf_ at hlt
          unfold fk_ at e0 e1 e2
          have hc : ci < fk_L.length := by
            refine Nat.lt_of_not_le (fun q => ?_)
            rw [List.getD_eq_getElem?_getD (l := fk_L), List.getElem?_eq_none q] at hlt
            exact absurd hlt (by simp)
          have hm : fk_L.getD ci [] ∈ fk_L := by rw [List.getD_eq_getElem?_getD, List.getElem?_eq_getElem hc]; exact List.getElem_mem hc
          have hx : (fk_L.getD ci []).getD j 9 ∈ fk_L.getD ci [] := by
            generalize fk_L.getD ci [] = l at hlt
            rw [List.getD_eq_getElem?_getD, List.getElem?_eq_getElem hlt]; exact List.getElem_mem hlt
          rcases this _ hm _ hx with e | e | e
          · exact e0 e
          · exact e1 e
          · exact e2 e
  · have hn := sh_small k hk (Or.inl (by rw [s]))
    rw [s] at hn
    rw [c2 n s]
    refine congrArg some ?_
    unfold arrV
    refine congrArg (fun z => ({ cls := gt_2 G, slots := z, vm := .none } : Cell)) ?_
    refine congrArg Array.ofFn (funext fun j => congrArg (rv_ G) ?_)
    exact rho_ok k hk j.val (Nat.lt_of_lt_of_le j.isLt hn) (by unfold rel_; rw [s]; exact decide_eq_true j.isLt)
  · have hn := sh_small k hk (Or.inr (by rw [s]))
    rw [s] at hn
    rw [c3 n s]
    refine congrArg some ?_
    unfold arrV
    refine congrArg (fun z => ({ cls := gt_3 G, slots := z, vm := .none } : Cell)) ?_
    refine congrArg Array.ofFn (funext fun j => congrArg (rv_ G) ?_)
    exact rho_ok k hk j.val (Nat.lt_of_lt_of_le j.isLt hn) (by unfold rel_; rw [s]; exact decide_eq_true j.isLt)
theorem c63_ : (Int8.ofInt 63).toInt32 = 63 := by decide
theorem c6_ : (Int8.ofInt 6).toInt32 = 6 := by decide
theorem law_loop {I : hh_ → Prop} (S0 : sp_0 I) (S1 : sp_1 I) (S2 : sp_2 I) (S3 : sp_3 I) (S4 : sp_4 I) (S5 : sp_5 I) (S6 : sp_6 I) (S7 : sp_7 I) (S8 : sp_8 I) (S9 : sp_9 I) (S10 : sp_10 I) (S11 : sp_11 I) (S12 : sp_12 I) (S13 : sp_13 I) (S14 : sp_14 I) (S15 : sp_15 I) (S16 : sp_16 I) (S17 : sp_17 I) (S18 : sp_18 I) (S19 : sp_19 I) (S20 : sp_20 I) (S21 : sp_21 I) (S22 : sp_22 I) (S23 : sp_23 I) (S24 : sp_24 I) (S25 : sp_25 I) (S26 : sp_26 I) (S27 : sp_27 I) (S28 : sp_28 I) (S29 : sp_29 I) (S30 : sp_30 I) (S31 : sp_31 I) (S32 : sp_32 I) (S33 : sp_33 I) (S34 : sp_34 I) (S35 : sp_35 I) (S36 : sp_36 I) (S37 : sp_37 I) (S38 : sp_38 I) (S39 : sp_39 I) (S40 : sp_40 I) (S41 : sp_41 I) (S42 : sp_42 I) (S43 : sp_43 I) (S44 : sp_44 I) (S45 : sp_45 I) (S46 : sp_46 I) (S47 : sp_47 I) {Z : zz_} (C : cx_ Z mt_law 100) {b L : Nat} {xs : Nat → Int32} (X : lx_ Z b L xs) (hL : L ≤ 384) (hE : ∀ lv h, xx_ Z 1734 lv [.int 1] h) : ∀ (n i : Nat) (h : hh_), L + 1 ≤ i + n → i ≤ L + 6 → I h → xx_ Z 18 [some (.ref 509), some (.ref 1), some (.ref 98), some (.int (nI i))] [] h := by
  intro n
  induction n with
  | zero =>
    intro i h h1 h2 hI
    refine xx_iload_n C (dl_head.at 10 rfl) rfl ?_
    refine xx_aload_n C (dl_head.at 11 rfl) rfl (lb_ rfl) ?_
    refine xx_slen C X (dl_head.at 12 rfl) ?_
    refine xx_bipush C (dl_head.at 13 rfl) c6_ ?_
    refine xx_isub C (dl_head.at 14 rfl) ?_
    refine xx_icmp_gt_t (tgt := 1733) C (dl_head.at 15 rfl) (by decide) ?_ ?_
    · rw [Int32.lt_iff_toInt_lt, show (6 : Int32) = nI 6 from rfl, pk_sub_toInt (by omega) (by omega), nI_toInt (by omega)]
      omega
    · refine xx_iconst C (dl_tail.at 2 rfl) ic_1 ?_
      exact hE _ _
  | succ n ih =>
    intro i h h1 h2 hI
    refine xx_iload_n C (dl_head.at 10 rfl) rfl ?_
    refine xx_aload_n C (dl_head.at 11 rfl) rfl (lb_ rfl) ?_
    refine xx_slen C X (dl_head.at 12 rfl) ?_
    refine xx_bipush C (dl_head.at 13 rfl) c6_ ?_
    refine xx_isub C (dl_head.at 14 rfl) ?_
    by_cases hc : nI L - 6 < nI i
    · refine xx_icmp_gt_t (tgt := 1733) C (dl_head.at 15 rfl) (by decide) hc ?_
      refine xx_iconst C (dl_tail.at 2 rfl) ic_1 ?_
      exact hE _ _
    · refine xx_icmp_gt_f (tgt := 1733) C (dl_head.at 15 rfl) (by decide) hc ?_
      have hi : i + 6 ≤ L := by
        rw [Int32.lt_iff_toInt_lt, show (6 : Int32) = nI 6 from rfl, pk_sub_toInt (by omega) (by omega), nI_toInt (by omega)] at hc
        omega
      have hin0 : vp_in (nI i) L := vp_in_nI (by omega) (by omega)
      have hin : ∀ j : Nat, 1 ≤ j → j ≤ 5 → vp_in (nI i + Int32.ofNat j) L := fun j h1 h2 => by
        have e : nI i + Int32.ofNat j = nI (i + j) := nI_add i j
        rw [e]
        exact vp_in_nI (by omega) (by omega)
      have hK : ∀ h2, I h2 → xx_ Z 1727 [some (.ref 509), some (.ref 1), some (.ref 98), some (.int (nI i))] [] h2 := fun h2 hI2 => by
        refine xx_iinc (v := nI (i + 6)) (lv' := [_, _, _, _]) C (dl_tail.at 0 rfl) (lb_ rfl) rfl (by rw [ic_6]; exact nI_add i 6) rfl ?_
        refine xx_goto (tgt := 18) C (dl_tail.at 1 rfl) (by decide) ?_
        exact ih (i + 6) h2 (by omega) (by omega) hI2
      refine xx_aload_n C (dl_head.at 16 rfl) rfl (lb_ rfl) ?_
      refine xx_iload_n C (dl_head.at 17 rfl) rfl ?_
      refine xx_sld C X (dl_head.at 18 rfl) hin0 ?_
      refine xx_bipush C (dl_head.at 19 rfl) c63_ ?_
      refine xx_iand C (dl_head.at 20 rfl) ?_
      obtain ⟨j, hj, ej⟩ := pk_andE (xs (nI i).toNatClampNeg) (m := 63) 6 (by decide)
      rw [ej]
      match j, hj with
      | 0, _ => exact xx_tabIn (off := 207) (tgt := 240) C (dl_head.at 21 rfl) (by decide) (by decide) (by decide) (by decide) (law_0 S0 C X hin hI hK)
      | 1, _ => exact xx_tabIn (off := 240) (tgt := 273) C (dl_head.at 21 rfl) (by decide) (by decide) (by decide) (by decide) (law_1 S1 C X hin hI hK)
      | 2, _ => exact xx_tabIn (off := 283) (tgt := 316) C (dl_head.at 21 rfl) (by decide) (by decide) (by decide) (by decide) (law_2 S2 C X hin hI hK)
      | 3, _ => exact xx_tabIn (off := 316) (tgt := 349) C (dl_head.at 21 rfl) (by decide) (by decide) (by decide) (by decide) (law_3 S3 C X hin hI hK)
      | 4, _ => exact xx_tabIn (off := 339) (tgt := 372) C (dl_head.at 21 rfl) (by decide) (by decide) (by decide) (by decide) (law_4 S4 C X hin hI hK)
      | 5, _ => exact xx_tabIn (off := 402) (tgt := 435) C (dl_head.at 21 rfl) (by decide) (by decide) (by decide) (by decide) (law_5 S5 C X hin hI hK)
      | 6, _ => exact xx_tabIn (off := 425) (tgt := 458) C (dl_head.at 21 rfl) (by decide) (by decide) (by decide) (by decide) (law_6 S6 C X hin hI hK)
      | 7, _ => exact xx_tabIn (off := 458) (tgt := 491) C (dl_head.at 21 rfl) (by decide) (by decide) (by decide) (by decide) (law_7 S7 C X hin hI hK)
      | 8, _ => exact xx_tabIn (off := 501) (tgt := 534) C (dl_head.at 21 rfl) (by decide) (by decide) (by decide) (by decide) (law_8 S8 C X hin hI hK)
      | 9, _ => exact xx_tabIn (off := 524) (tgt := 557) C (dl_head.at 21 rfl) (by decide) (by decide) (by decide) (by decide) (law_9 S9 C X hin hI hK)
      | 10, _ => exact xx_tabIn (off := 547) (tgt := 580) C (dl_head.at 21 rfl) (by decide) (by decide) (by decide) (by decide) (law_10 S10 C X hin hI hK)
      | 11, _ => exact xx_tabIn (off := 580) (tgt := 613) C (dl_head.at 21 rfl) (by decide) (by decide) (by decide) (by decide) (law_11 S11 C X hin hI hK)
      | 12, _ => exact xx_tabIn (off := 613) (tgt := 646) C (dl_head.at 21 rfl) (by decide) (by decide) (by decide) (by decide) (law_12 S12 C X hin hI hK)
      | 13, _ => exact xx_tabIn (off := 646) (tgt := 679) C (dl_head.at 21 rfl) (by decide) (by decide) (by decide) (by decide) (law_13 S13 C X hin hI hK)
      | 14, _ => exact xx_tabIn (off := 679) (tgt := 712) C (dl_head.at 21 rfl) (by decide) (by decide) (by decide) (by decide) (law_14 S14 C X hin hI hK)
      | 15, _ => exact xx_tabIn (off := 712) (tgt := 745) C (dl_head.at 21 rfl) (by decide) (by decide) (by decide) (by decide) (law_15 S15 C X hin hI hK)
      | 16, _ => exact xx_tabIn (off := 745) (tgt := 778) C (dl_head.at 21 rfl) (by decide) (by decide) (by decide) (by decide) (law_16 S16 C X hin hI hK)
      | 17, _ => exact xx_tabIn (off := 768) (tgt := 801) C (dl_head.at 21 rfl) (by decide) (by decide) (by decide) (by decide) (law_17 S17 C X hin hI hK)
      | 18, _ => exact xx_tabIn (off := 801) (tgt := 834) C (dl_head.at 21 rfl) (by decide) (by decide) (by decide) (by decide) (law_18 S18 C X hin hI hK)
      | 19, _ => exact xx_tabIn (off := 824) (tgt := 857) C (dl_head.at 21 rfl) (by decide) (by decide) (by decide) (by decide) (law_19 S19 C X hin hI hK)
      | 20, _ => exact xx_tabIn (off := 847) (tgt := 880) C (dl_head.at 21 rfl) (by decide) (by decide) (by decide) (by decide) (law_20 S20 C X hin hI hK)
      | 21, _ => exact xx_tabIn (off := 870) (tgt := 903) C (dl_head.at 21 rfl) (by decide) (by decide) (by decide) (by decide) (law_21 S21 C X hin hI hK)
      | 22, _ => exact xx_tabIn (off := 913) (tgt := 946) C (dl_head.at 21 rfl) (by decide) (by decide) (by decide) (by decide) (law_22 S22 C X hin hI hK)
      | 23, _ => exact xx_tabIn (off := 956) (tgt := 989) C (dl_head.at 21 rfl) (by decide) (by decide) (by decide) (by decide) (law_23 S23 C X hin hI hK)
      | 24, _ => exact xx_tabIn (off := 989) (tgt := 1022) C (dl_head.at 21 rfl) (by decide) (by decide) (by decide) (by decide) (law_24 S24 C X hin hI hK)
      | 25, _ => exact xx_tabIn (off := 1022) (tgt := 1055) C (dl_head.at 21 rfl) (by decide) (by decide) (by decide) (by decide) (law_25 S25 C X hin hI hK)
      | 26, _ => exact xx_tabIn (off := 1065) (tgt := 1098) C (dl_head.at 21 rfl) (by decide) (by decide) (by decide) (by decide) (law_26 S26 C X hin hI hK)
      | 27, _ => exact xx_tabIn (off := 1088) (tgt := 1121) C (dl_head.at 21 rfl) (by decide) (by decide) (by decide) (by decide) (law_27 S27 C X hin hI hK)
      | 28, _ => exact xx_tabIn (off := 1121) (tgt := 1154) C (dl_head.at 21 rfl) (by decide) (by decide) (by decide) (by decide) (law_28 S28 C X hin hI hK)
      | 29, _ => exact xx_tabIn (off := 1164) (tgt := 1197) C (dl_head.at 21 rfl) (by decide) (by decide) (by decide) (by decide) (law_29 S29 C X hin hI hK)
      | 30, _ => exact xx_tabIn (off := 1207) (tgt := 1240) C (dl_head.at 21 rfl) (by decide) (by decide) (by decide) (by decide) (law_30 S30 C X hin hI hK)
      | 31, _ => exact xx_tabIn (off := 1260) (tgt := 1293) C (dl_head.at 21 rfl) (by decide) (by decide) (by decide) (by decide) (law_31 S31 C X hin hI hK)
      | 32, _ => exact xx_tabIn (off := 1293) (tgt := 1326) C (dl_head.at 21 rfl) (by decide) (by decide) (by decide) (by decide) (law_32 S32 C X hin hI hK)
      | 33, _ => exact xx_tabIn (off := 1336) (tgt := 1369) C (dl_head.at 21 rfl) (by decide) (by decide) (by decide) (by decide) (law_33 S33 C X hin hI hK)
      | 34, _ => exact xx_tabIn (off := 1369) (tgt := 1402) C (dl_head.at 21 rfl) (by decide) (by decide) (by decide) (by decide) (law_34 S34 C X hin hI hK)
      | 35, _ => exact xx_tabIn (off := 1402) (tgt := 1435) C (dl_head.at 21 rfl) (by decide) (by decide) (by decide) (by decide) (law_35 S35 C X hin hI hK)
      | 36, _ => exact xx_tabIn (off := 1425) (tgt := 1458) C (dl_head.at 21 rfl) (by decide) (by decide) (by decide) (by decide) (law_36 S36 C X hin hI hK)
      | 37, _ => exact xx_tabIn (off := 1448) (tgt := 1481) C (dl_head.at 21 rfl) (by decide) (by decide) (by decide) (by decide) (law_37 S37 C X hin hI hK)
      | 38, _ => exact xx_tabIn (off := 1481) (tgt := 1514) C (dl_head.at 21 rfl) (by decide) (by decide) (by decide) (by decide) (law_38 S38 C X hin hI hK)
      | 39, _ => exact xx_tabIn (off := 1514) (tgt := 1547) C (dl_head.at 21 rfl) (by decide) (by decide) (by decide) (by decide) (law_39 S39 C X hin hI hK)
      | 40, _ => exact xx_tabIn (off := 1537) (tgt := 1570) C (dl_head.at 21 rfl) (by decide) (by decide) (by decide) (by decide) (law_40 S40 C X hin hI hK)
      | 41, _ => exact xx_tabIn (off := 1580) (tgt := 1613) C (dl_head.at 21 rfl) (by decide) (by decide) (by decide) (by decide) (law_41 S41 C X hin hI hK)
      | 42, _ => exact xx_tabIn (off := 1593) (tgt := 1626) C (dl_head.at 21 rfl) (by decide) (by decide) (by decide) (by decide) (law_42 S42 C X hin hI hK)
      | 43, _ => exact xx_tabIn (off := 1607) (tgt := 1640) C (dl_head.at 21 rfl) (by decide) (by decide) (by decide) (by decide) (law_43 S43 C X hin hI hK)
      | 44, _ => exact xx_tabIn (off := 1621) (tgt := 1654) C (dl_head.at 21 rfl) (by decide) (by decide) (by decide) (by decide) (law_44 S44 C X hin hI hK)
      | 45, _ => exact xx_tabIn (off := 1644) (tgt := 1677) C (dl_head.at 21 rfl) (by decide) (by decide) (by decide) (by decide) (law_45 S45 C X hin hI hK)
      | 46, _ => exact xx_tabIn (off := 1657) (tgt := 1690) C (dl_head.at 21 rfl) (by decide) (by decide) (by decide) (by decide) (law_46 S46 C X hin hI hK)
      | 47, _ => exact xx_tabIn (off := 1680) (tgt := 1713) C (dl_head.at 21 rfl) (by decide) (by decide) (by decide) (by decide) (law_47 S47 C X hin hI hK)
      | j + 48, hj => exact xx_tabOut (tgt := 1727) C (dl_head.at 21 rfl) (Or.inr (by rw [nI_toInt (by omega)]; omega)) (by decide) (hK h hI)
theorem sta_0 {s : State} {b : Nat} {A : Nat → Prop} (hgv : (Jvm.Cond.and given_1 narrow_1).before #[Value.ref b] s = true) (hts : ∀ w ∈ lw_tbl, w.before #[Value.ref b] s = true) (hA : ∀ a : Nat, a < s.heap.size → ¬ A a) : ∃ t : Nat, va_T .int t (sn_ 0).2.length (fun j => .int ((sn_ 0).2.getD j 0)) A s s.heap ∧ va_Z "ThumbReader" (sn_ 0).1 "[I" (.ref t) A s s.heap := by
  have hf := flat_of_before _ hgv
  obtain ⟨t, ht, hT⟩ := va_Tof (args := #[Value.ref b]) (s := s) (tm := .static "ThumbReader" "FIGURES" "[I") (ty := .int) (N := 3) (f := fun j => .int ((sn_ 0).2.getD j 0)) (A := A) (by decide) (hf _ (by decide +kernel)) (va_eqt (hf (.eq (.length (.static "ThumbReader" "FIGURES" "[I")) (.int 3)) (by decide +kernel))) (fun j hj => by
    match j, hj with
    | 0, _ => exact va_eqt (hf (.eq (.elem (.static "ThumbReader" "FIGURES" "[I") (.int 0)) (.int (5))) (by decide +kernel))
    | 1, _ => exact va_eqt (hf (.eq (.elem (.static "ThumbReader" "FIGURES" "[I") (.int 1)) (.int (2))) (by decide +kernel))
    | 2, _ => exact va_eqt (hf (.eq (.elem (.static "ThumbReader" "FIGURES" "[I") (.int 2)) (.int (5))) (by decide +kernel))
    | j + 3, hj => exact absurd hj (by omega)) hA
  exact ⟨t, hT, va_Zof (hts (.laysStatic "ThumbReader" "FIGURES" "[I") (List.mem_of_getElem? (i := 336) (by decide +kernel))) (hts (.initialized "ThumbReader") (List.mem_of_getElem? (i := 61) (by decide +kernel))) ht hA⟩
theorem sta_1 {s : State} {b : Nat} {A : Nat → Prop} (hgv : (Jvm.Cond.and given_1 narrow_1).before #[Value.ref b] s = true) (hts : ∀ w ∈ lw_tbl, w.before #[Value.ref b] s = true) (hA : ∀ a : Nat, a < s.heap.size → ¬ A a) : ∃ t : Nat, va_T .int t (sn_ 1).2.length (fun j => .int ((sn_ 1).2.getD j 0)) A s s.heap ∧ va_Z "ThumbReader" (sn_ 1).1 "[I" (.ref t) A s s.heap := by
  have hf := flat_of_before _ hgv
  obtain ⟨t, ht, hT⟩ := va_Tof (args := #[Value.ref b]) (s := s) (tm := .static "ThumbReader" "LOWEST" "[I") (ty := .int) (N := 15) (f := fun j => .int ((sn_ 1).2.getD j 0)) (A := A) (by decide) (hf _ (by decide +kernel)) (va_eqt (hf (.eq (.length (.static "ThumbReader" "LOWEST" "[I")) (.int 15)) (by decide +kernel))) (fun j hj => by
    match j, hj with
    | 0, _ => exact va_eqt (hf (.eq (.elem (.static "ThumbReader" "LOWEST" "[I") (.int 0)) (.int (0))) (by decide +kernel))
    | 1, _ => exact va_eqt (hf (.eq (.elem (.static "ThumbReader" "LOWEST" "[I") (.int 1)) (.int (0))) (by decide +kernel))
    | 2, _ => exact va_eqt (hf (.eq (.elem (.static "ThumbReader" "LOWEST" "[I") (.int 2)) (.int (0))) (by decide +kernel))
    | 3, _ => exact va_eqt (hf (.eq (.elem (.static "ThumbReader" "LOWEST" "[I") (.int 3)) (.int (0))) (by decide +kernel))
    | 4, _ => exact va_eqt (hf (.eq (.elem (.static "ThumbReader" "LOWEST" "[I") (.int 4)) (.int (0))) (by decide +kernel))
    | 5, _ => exact va_eqt (hf (.eq (.elem (.static "ThumbReader" "LOWEST" "[I") (.int 5)) (.int (0))) (by decide +kernel))
    | 6, _ => exact va_eqt (hf (.eq (.elem (.static "ThumbReader" "LOWEST" "[I") (.int 6)) (.int (0))) (by decide +kernel))
    | 7, _ => exact va_eqt (hf (.eq (.elem (.static "ThumbReader" "LOWEST" "[I") (.int 7)) (.int (0))) (by decide +kernel))
    | 8, _ => exact va_eqt (hf (.eq (.elem (.static "ThumbReader" "LOWEST" "[I") (.int 8)) (.int (0))) (by decide +kernel))
    | 9, _ => exact va_eqt (hf (.eq (.elem (.static "ThumbReader" "LOWEST" "[I") (.int 9)) (.int (0))) (by decide +kernel))
    | 10, _ => exact va_eqt (hf (.eq (.elem (.static "ThumbReader" "LOWEST" "[I") (.int 10)) (.int (0))) (by decide +kernel))
    | 11, _ => exact va_eqt (hf (.eq (.elem (.static "ThumbReader" "LOWEST" "[I") (.int 11)) (.int (0))) (by decide +kernel))
    | 12, _ => exact va_eqt (hf (.eq (.elem (.static "ThumbReader" "LOWEST" "[I") (.int 12)) (.int (0))) (by decide +kernel))
    | 13, _ => exact va_eqt (hf (.eq (.elem (.static "ThumbReader" "LOWEST" "[I") (.int 13)) (.int (0))) (by decide +kernel))
    | 14, _ => exact va_eqt (hf (.eq (.elem (.static "ThumbReader" "LOWEST" "[I") (.int 14)) (.int (1))) (by decide +kernel))
    | j + 15, hj => exact absurd hj (by omega)) hA
  exact ⟨t, hT, va_Zof (hts (.laysStatic "ThumbReader" "LOWEST" "[I") (List.mem_of_getElem? (i := 338) (by decide +kernel))) (hts (.initialized "ThumbReader") (List.mem_of_getElem? (i := 61) (by decide +kernel))) ht hA⟩
theorem sta_2 {s : State} {b : Nat} {A : Nat → Prop} (hgv : (Jvm.Cond.and given_1 narrow_1).before #[Value.ref b] s = true) (hts : ∀ w ∈ lw_tbl, w.before #[Value.ref b] s = true) (hA : ∀ a : Nat, a < s.heap.size → ¬ A a) : ∃ t : Nat, va_T .int t (sn_ 2).2.length (fun j => .int ((sn_ 2).2.getD j 0)) A s s.heap ∧ va_Z "ThumbReader" (sn_ 2).1 "[I" (.ref t) A s s.heap := by
  have hf := flat_of_before _ hgv
  obtain ⟨t, ht, hT⟩ := va_Tof (args := #[Value.ref b]) (s := s) (tm := .static "ThumbReader" "HIGHEST" "[I") (ty := .int) (N := 15) (f := fun j => .int ((sn_ 2).2.getD j 0)) (A := A) (by decide) (hf _ (by decide +kernel)) (va_eqt (hf (.eq (.length (.static "ThumbReader" "HIGHEST" "[I")) (.int 15)) (by decide +kernel))) (fun j hj => by
    match j, hj with
    | 0, _ => exact va_eqt (hf (.eq (.elem (.static "ThumbReader" "HIGHEST" "[I") (.int 0)) (.int (5))) (by decide +kernel))
    | 1, _ => exact va_eqt (hf (.eq (.elem (.static "ThumbReader" "HIGHEST" "[I") (.int 1)) (.int (5))) (by decide +kernel))
    | 2, _ => exact va_eqt (hf (.eq (.elem (.static "ThumbReader" "HIGHEST" "[I") (.int 2)) (.int (5))) (by decide +kernel))
    | 3, _ => exact va_eqt (hf (.eq (.elem (.static "ThumbReader" "HIGHEST" "[I") (.int 3)) (.int (5))) (by decide +kernel))
    | 4, _ => exact va_eqt (hf (.eq (.elem (.static "ThumbReader" "HIGHEST" "[I") (.int 4)) (.int (3))) (by decide +kernel))
    | 5, _ => exact va_eqt (hf (.eq (.elem (.static "ThumbReader" "HIGHEST" "[I") (.int 5)) (.int (2))) (by decide +kernel))
    | 6, _ => exact va_eqt (hf (.eq (.elem (.static "ThumbReader" "HIGHEST" "[I") (.int 6)) (.int (3))) (by decide +kernel))
    | 7, _ => exact va_eqt (hf (.eq (.elem (.static "ThumbReader" "HIGHEST" "[I") (.int 7)) (.int (0))) (by decide +kernel))
    | 8, _ => exact va_eqt (hf (.eq (.elem (.static "ThumbReader" "HIGHEST" "[I") (.int 8)) (.int (0))) (by decide +kernel))
    | 9, _ => exact va_eqt (hf (.eq (.elem (.static "ThumbReader" "HIGHEST" "[I") (.int 9)) (.int (0))) (by decide +kernel))
    | 10, _ => exact va_eqt (hf (.eq (.elem (.static "ThumbReader" "HIGHEST" "[I") (.int 10)) (.int (6))) (by decide +kernel))
    | 11, _ => exact va_eqt (hf (.eq (.elem (.static "ThumbReader" "HIGHEST" "[I") (.int 11)) (.int (6))) (by decide +kernel))
    | 12, _ => exact va_eqt (hf (.eq (.elem (.static "ThumbReader" "HIGHEST" "[I") (.int 12)) (.int (6))) (by decide +kernel))
    | 13, _ => exact va_eqt (hf (.eq (.elem (.static "ThumbReader" "HIGHEST" "[I") (.int 13)) (.int (6))) (by decide +kernel))
    | 14, _ => exact va_eqt (hf (.eq (.elem (.static "ThumbReader" "HIGHEST" "[I") (.int 14)) (.int (9))) (by decide +kernel))
    | j + 15, hj => exact absurd hj (by omega)) hA
  exact ⟨t, hT, va_Zof (hts (.laysStatic "ThumbReader" "HIGHEST" "[I") (List.mem_of_getElem? (i := 340) (by decide +kernel))) (hts (.initialized "ThumbReader") (List.mem_of_getElem? (i := 61) (by decide +kernel))) ht hA⟩
theorem sta_3 {s : State} {b : Nat} {A : Nat → Prop} (hgv : (Jvm.Cond.and given_1 narrow_1).before #[Value.ref b] s = true) (hts : ∀ w ∈ lw_tbl, w.before #[Value.ref b] s = true) (hA : ∀ a : Nat, a < s.heap.size → ¬ A a) : ∃ t : Nat, va_T .int t (sn_ 3).2.length (fun j => .int ((sn_ 3).2.getD j 0)) A s s.heap ∧ va_Z "ThumbReader" (sn_ 3).1 "[I" (.ref t) A s s.heap := by
  have hf := flat_of_before _ hgv
  obtain ⟨t, ht, hT⟩ := va_Tof (args := #[Value.ref b]) (s := s) (tm := .static "ThumbReader" "LETTERS" "[I") (ty := .int) (N := 6) (f := fun j => .int ((sn_ 3).2.getD j 0)) (A := A) (by decide) (hf _ (by decide +kernel)) (va_eqt (hf (.eq (.length (.static "ThumbReader" "LETTERS" "[I")) (.int 6)) (by decide +kernel))) (fun j hj => by
    match j, hj with
    | 0, _ => exact va_eqt (hf (.eq (.elem (.static "ThumbReader" "LETTERS" "[I") (.int 0)) (.int (116))) (by decide +kernel))
    | 1, _ => exact va_eqt (hf (.eq (.elem (.static "ThumbReader" "LETTERS" "[I") (.int 1)) (.int (118))) (by decide +kernel))
    | 2, _ => exact va_eqt (hf (.eq (.elem (.static "ThumbReader" "LETTERS" "[I") (.int 2)) (.int (108))) (by decide +kernel))
    | 3, _ => exact va_eqt (hf (.eq (.elem (.static "ThumbReader" "LETTERS" "[I") (.int 3)) (.int (119))) (by decide +kernel))
    | 4, _ => exact va_eqt (hf (.eq (.elem (.static "ThumbReader" "LETTERS" "[I") (.int 4)) (.int (99))) (by decide +kernel))
    | 5, _ => exact va_eqt (hf (.eq (.elem (.static "ThumbReader" "LETTERS" "[I") (.int 5)) (.int (100))) (by decide +kernel))
    | j + 6, hj => exact absurd hj (by omega)) hA
  exact ⟨t, hT, va_Zof (hts (.laysStatic "ThumbReader" "LETTERS" "[I") (List.mem_of_getElem? (i := 349) (by decide +kernel))) (hts (.initialized "ThumbReader") (List.mem_of_getElem? (i := 61) (by decide +kernel))) ht hA⟩
theorem sta_4 {s : State} {b : Nat} {A : Nat → Prop} (hgv : (Jvm.Cond.and given_1 narrow_1).before #[Value.ref b] s = true) (hts : ∀ w ∈ lw_tbl, w.before #[Value.ref b] s = true) (hA : ∀ a : Nat, a < s.heap.size → ¬ A a) : ∃ t : Nat, va_T .int t (sn_ 4).2.length (fun j => .int ((sn_ 4).2.getD j 0)) A s s.heap ∧ va_Z "ThumbReader" (sn_ 4).1 "[I" (.ref t) A s s.heap := by
  have hf := flat_of_before _ hgv
  obtain ⟨t, ht, hT⟩ := va_Tof (args := #[Value.ref b]) (s := s) (tm := .static "ThumbReader" "MOST_ITEMS" "[I") (ty := .int) (N := 3) (f := fun j => .int ((sn_ 4).2.getD j 0)) (A := A) (by decide) (hf _ (by decide +kernel)) (va_eqt (hf (.eq (.length (.static "ThumbReader" "MOST_ITEMS" "[I")) (.int 3)) (by decide +kernel))) (fun j hj => by
    match j, hj with
    | 0, _ => exact va_eqt (hf (.eq (.elem (.static "ThumbReader" "MOST_ITEMS" "[I") (.int 0)) (.int (5))) (by decide +kernel))
    | 1, _ => exact va_eqt (hf (.eq (.elem (.static "ThumbReader" "MOST_ITEMS" "[I") (.int 1)) (.int (4))) (by decide +kernel))
    | 2, _ => exact va_eqt (hf (.eq (.elem (.static "ThumbReader" "MOST_ITEMS" "[I") (.int 2)) (.int (4))) (by decide +kernel))
    | j + 3, hj => exact absurd hj (by omega)) hA
  exact ⟨t, hT, va_Zof (hts (.laysStatic "ThumbReader" "MOST_ITEMS" "[I") (List.mem_of_getElem? (i := 351) (by decide +kernel))) (hts (.initialized "ThumbReader") (List.mem_of_getElem? (i := 61) (by decide +kernel))) ht hA⟩
theorem sta_5 {s : State} {b : Nat} {A : Nat → Prop} (hgv : (Jvm.Cond.and given_1 narrow_1).before #[Value.ref b] s = true) (hts : ∀ w ∈ lw_tbl, w.before #[Value.ref b] s = true) (hA : ∀ a : Nat, a < s.heap.size → ¬ A a) : ∃ t : Nat, va_T .int t (sn_ 5).2.length (fun j => .int ((sn_ 5).2.getD j 0)) A s s.heap ∧ va_Z "ThumbReader" (sn_ 5).1 "[I" (.ref t) A s s.heap := by
  have hf := flat_of_before _ hgv
  obtain ⟨t, ht, hT⟩ := va_Tof (args := #[Value.ref b]) (s := s) (tm := .static "ThumbReader" "ABOVE" "[I") (ty := .int) (N := 6) (f := fun j => .int ((sn_ 5).2.getD j 0)) (A := A) (by decide) (hf _ (by decide +kernel)) (va_eqt (hf (.eq (.length (.static "ThumbReader" "ABOVE" "[I")) (.int 6)) (by decide +kernel))) (fun j hj => by
    match j, hj with
    | 0, _ => exact va_eqt (hf (.eq (.elem (.static "ThumbReader" "ABOVE" "[I") (.int 0)) (.int (0))) (by decide +kernel))
    | 1, _ => exact va_eqt (hf (.eq (.elem (.static "ThumbReader" "ABOVE" "[I") (.int 1)) (.int (0))) (by decide +kernel))
    | 2, _ => exact va_eqt (hf (.eq (.elem (.static "ThumbReader" "ABOVE" "[I") (.int 2)) (.int (0))) (by decide +kernel))
    | 3, _ => exact va_eqt (hf (.eq (.elem (.static "ThumbReader" "ABOVE" "[I") (.int 3)) (.int (0))) (by decide +kernel))
    | 4, _ => exact va_eqt (hf (.eq (.elem (.static "ThumbReader" "ABOVE" "[I") (.int 4)) (.int (3))) (by decide +kernel))
    | 5, _ => exact va_eqt (hf (.eq (.elem (.static "ThumbReader" "ABOVE" "[I") (.int 5)) (.int (1))) (by decide +kernel))
    | j + 6, hj => exact absurd hj (by omega)) hA
  exact ⟨t, hT, va_Zof (hts (.laysStatic "ThumbReader" "ABOVE" "[I") (List.mem_of_getElem? (i := 401) (by decide +kernel))) (hts (.initialized "ThumbReader") (List.mem_of_getElem? (i := 61) (by decide +kernel))) ht hA⟩
theorem sta_6 {s : State} {b : Nat} {A : Nat → Prop} (hgv : (Jvm.Cond.and given_1 narrow_1).before #[Value.ref b] s = true) (hts : ∀ w ∈ lw_tbl, w.before #[Value.ref b] s = true) (hA : ∀ a : Nat, a < s.heap.size → ¬ A a) : ∃ t : Nat, va_T .int t (sn_ 6).2.length (fun j => .int ((sn_ 6).2.getD j 0)) A s s.heap ∧ va_Z "ThumbReader" (sn_ 6).1 "[I" (.ref t) A s s.heap := by
  have hf := flat_of_before _ hgv
  obtain ⟨t, ht, hT⟩ := va_Tof (args := #[Value.ref b]) (s := s) (tm := .static "ThumbReader" "MORE" "[I") (ty := .int) (N := 6) (f := fun j => .int ((sn_ 6).2.getD j 0)) (A := A) (by decide) (hf _ (by decide +kernel)) (va_eqt (hf (.eq (.length (.static "ThumbReader" "MORE" "[I")) (.int 6)) (by decide +kernel))) (fun j hj => by
    match j, hj with
    | 0, _ => exact va_eqt (hf (.eq (.elem (.static "ThumbReader" "MORE" "[I") (.int 0)) (.int (0))) (by decide +kernel))
    | 1, _ => exact va_eqt (hf (.eq (.elem (.static "ThumbReader" "MORE" "[I") (.int 1)) (.int (-1))) (by decide +kernel))
    | 2, _ => exact va_eqt (hf (.eq (.elem (.static "ThumbReader" "MORE" "[I") (.int 2)) (.int (1))) (by decide +kernel))
    | 3, _ => exact va_eqt (hf (.eq (.elem (.static "ThumbReader" "MORE" "[I") (.int 3)) (.int (0))) (by decide +kernel))
    | 4, _ => exact va_eqt (hf (.eq (.elem (.static "ThumbReader" "MORE" "[I") (.int 4)) (.int (1))) (by decide +kernel))
    | 5, _ => exact va_eqt (hf (.eq (.elem (.static "ThumbReader" "MORE" "[I") (.int 5)) (.int (-1))) (by decide +kernel))
    | j + 6, hj => exact absurd hj (by omega)) hA
  exact ⟨t, hT, va_Zof (hts (.laysStatic "ThumbReader" "MORE" "[I") (List.mem_of_getElem? (i := 425) (by decide +kernel))) (hts (.initialized "ThumbReader") (List.mem_of_getElem? (i := 61) (by decide +kernel))) ht hA⟩
theorem sta_7 {s : State} {b : Nat} {A : Nat → Prop} (hgv : (Jvm.Cond.and given_1 narrow_1).before #[Value.ref b] s = true) (hts : ∀ w ∈ lw_tbl, w.before #[Value.ref b] s = true) (hA : ∀ a : Nat, a < s.heap.size → ¬ A a) : ∃ t : Nat, va_T .int t (sn_ 7).2.length (fun j => .int ((sn_ 7).2.getD j 0)) A s s.heap ∧ va_Z "ThumbReader" (sn_ 7).1 "[I" (.ref t) A s s.heap := by
  have hf := flat_of_before _ hgv
  obtain ⟨t, ht, hT⟩ := va_Tof (args := #[Value.ref b]) (s := s) (tm := .static "ThumbReader" "MORE_AT_WISH" "[I") (ty := .int) (N := 6) (f := fun j => .int ((sn_ 7).2.getD j 0)) (A := A) (by decide) (hf _ (by decide +kernel)) (va_eqt (hf (.eq (.length (.static "ThumbReader" "MORE_AT_WISH" "[I")) (.int 6)) (by decide +kernel))) (fun j hj => by
    match j, hj with
    | 0, _ => exact va_eqt (hf (.eq (.elem (.static "ThumbReader" "MORE_AT_WISH" "[I") (.int 0)) (.int (0))) (by decide +kernel))
    | 1, _ => exact va_eqt (hf (.eq (.elem (.static "ThumbReader" "MORE_AT_WISH" "[I") (.int 1)) (.int (0))) (by decide +kernel))
    | 2, _ => exact va_eqt (hf (.eq (.elem (.static "ThumbReader" "MORE_AT_WISH" "[I") (.int 2)) (.int (0))) (by decide +kernel))
    | 3, _ => exact va_eqt (hf (.eq (.elem (.static "ThumbReader" "MORE_AT_WISH" "[I") (.int 3)) (.int (1))) (by decide +kernel))
    | 4, _ => exact va_eqt (hf (.eq (.elem (.static "ThumbReader" "MORE_AT_WISH" "[I") (.int 4)) (.int (1))) (by decide +kernel))
    | 5, _ => exact va_eqt (hf (.eq (.elem (.static "ThumbReader" "MORE_AT_WISH" "[I") (.int 5)) (.int (0))) (by decide +kernel))
    | j + 6, hj => exact absurd hj (by omega)) hA
  exact ⟨t, hT, va_Zof (hts (.laysStatic "ThumbReader" "MORE_AT_WISH" "[I") (List.mem_of_getElem? (i := 427) (by decide +kernel))) (hts (.initialized "ThumbReader") (List.mem_of_getElem? (i := 61) (by decide +kernel))) ht hA⟩
theorem sta_8 {s : State} {b : Nat} {A : Nat → Prop} (hgv : (Jvm.Cond.and given_1 narrow_1).before #[Value.ref b] s = true) (hts : ∀ w ∈ lw_tbl, w.before #[Value.ref b] s = true) (hA : ∀ a : Nat, a < s.heap.size → ¬ A a) : ∃ t : Nat, va_T .int t (sn_ 8).2.length (fun j => .int ((sn_ 8).2.getD j 0)) A s s.heap ∧ va_Z "ThumbReader" (sn_ 8).1 "[I" (.ref t) A s s.heap := by
  have hf := flat_of_before _ hgv
  obtain ⟨t, ht, hT⟩ := va_Tof (args := #[Value.ref b]) (s := s) (tm := .static "ThumbReader" "TOP_MIDDLE" "[I") (ty := .int) (N := 6) (f := fun j => .int ((sn_ 8).2.getD j 0)) (A := A) (by decide) (hf _ (by decide +kernel)) (va_eqt (hf (.eq (.length (.static "ThumbReader" "TOP_MIDDLE" "[I")) (.int 6)) (by decide +kernel))) (fun j hj => by
    match j, hj with
    | 0, _ => exact va_eqt (hf (.eq (.elem (.static "ThumbReader" "TOP_MIDDLE" "[I") (.int 0)) (.int (9))) (by decide +kernel))
    | 1, _ => exact va_eqt (hf (.eq (.elem (.static "ThumbReader" "TOP_MIDDLE" "[I") (.int 1)) (.int (9))) (by decide +kernel))
    | 2, _ => exact va_eqt (hf (.eq (.elem (.static "ThumbReader" "TOP_MIDDLE" "[I") (.int 2)) (.int (9))) (by decide +kernel))
    | 3, _ => exact va_eqt (hf (.eq (.elem (.static "ThumbReader" "TOP_MIDDLE" "[I") (.int 3)) (.int (9))) (by decide +kernel))
    | 4, _ => exact va_eqt (hf (.eq (.elem (.static "ThumbReader" "TOP_MIDDLE" "[I") (.int 4)) (.int (9))) (by decide +kernel))
    | 5, _ => exact va_eqt (hf (.eq (.elem (.static "ThumbReader" "TOP_MIDDLE" "[I") (.int 5)) (.int (3))) (by decide +kernel))
    | j + 6, hj => exact absurd hj (by omega)) hA
  exact ⟨t, hT, va_Zof (hts (.laysStatic "ThumbReader" "TOP_MIDDLE" "[I") (List.mem_of_getElem? (i := 429) (by decide +kernel))) (hts (.initialized "ThumbReader") (List.mem_of_getElem? (i := 61) (by decide +kernel))) ht hA⟩
theorem cls_ {s : State} {b : Nat} (hts : ∀ w ∈ lw_tbl, w.before #[Value.ref b] s = true) : ∃ (dC : Nat → ClassId) (dI : Nat → Nat → Nat), ∀ (c : Nat) (q : vw_C), vwCl[c]? = some q → u_Kn s q.1 q.2.1 q.2.2 (dC c) (dI c) := by
  obtain ⟨c0, i0, k0⟩ := u_known (C := RX0) (T := TX0) (N := 3) (n := 3) hts uw_0 (hts _ ii_0.1)
  obtain ⟨c1, i1, k1⟩ := u_known (C := RX2) (T := TX2) (N := 7) (n := 7) hts uw_1 (hts _ ii_1.1)
  obtain ⟨c2, i2, k2⟩ := u_known (C := RX3) (T := TX3) (N := 3) (n := 3) hts uw_2 (hts _ ii_2.1)
  obtain ⟨c3, i3, k3⟩ := u_known (C := RX4) (T := TX4) (N := 3) (n := 3) hts uw_3 (hts _ ii_3.1)
  obtain ⟨c4, i4, k4⟩ := u_known (C := RX5) (T := TX5) (N := 2) (n := 2) hts uw_4 (hts _ ii_4.1)
  obtain ⟨c5, i5, k5⟩ := u_known (C := RX6) (T := TX6) (N := 5) (n := 5) hts uw_5 (hts _ ii_5.1)
  obtain ⟨c6, i6, k6⟩ := u_known (C := RX7) (T := TX7) (N := 9) (n := 9) hts uw_6 (hts _ ii_6.1)
  obtain ⟨c7, i7, k7⟩ := u_known (C := RX8) (T := TX8) (N := 31) (n := 31) hts uw_7 (hts _ ii_7.1)
  refine ⟨fun k => if k = 0 then c0 else if k = 1 then c1 else if k = 2 then c2 else if k = 3 then c3 else if k = 4 then c4 else if k = 5 then c5 else if k = 6 then c6 else c7, fun k => if k = 0 then i0 else if k = 1 then i1 else if k = 2 then i2 else if k = 3 then i3 else if k = 4 then i4 else if k = 5 then i5 else if k = 6 then i6 else i7, ?_⟩
  intro c q hq
  match c, hq with
  | 0, hq => cases hq; exact k0
  | 1, hq => cases hq; exact k1
  | 2, hq => cases hq; exact k2
  | 3, hq => cases hq; exact k3
  | 4, hq => cases hq; exact k4
  | 5, hq => cases hq; exact k5
  | 6, hq => cases hq; exact k6
  | 7, hq => cases hq; exact k7
  | c + 8, hq => simp [vwCl] at hq
theorem xc_of_xx {p : Program} {l : Launch} {e : Env} {R : Room} {s : State} {m : MethodId} {a : Array Value} {b : List Frame} {t : Method} {c : Code} {G : gt_} {k0 n0 k n : Nat} {Q : State → Prop} {pc : Nat} {lv : List (Option Value)} {st : List Value} (K : xx_ (p, l, e, R, s, m, a, b, t, c, G, k, n, Q) pc lv st h0_) : xc_ (p, l, e, R, s, m, a, b, t, c, G, k0, n0, Q) k n pc lv st (114, rho_, h0_) := fun H locs ls hw hs hl => K H locs ls (hw_start hw) hs hl
theorem whole_from {I : hh_ → Prop} (hI0 : I h0_) (S0 : sp_0 I) (S1 : sp_1 I) (S2 : sp_2 I) (S3 : sp_3 I) (S4 : sp_4 I) (S5 : sp_5 I) (S6 : sp_6 I) (S7 : sp_7 I) (S8 : sp_8 I) (S9 : sp_9 I) (S10 : sp_10 I) (S11 : sp_11 I) (S12 : sp_12 I) (S13 : sp_13 I) (S14 : sp_14 I) (S15 : sp_15 I) (S16 : sp_16 I) (S17 : sp_17 I) (S18 : sp_18 I) (S19 : sp_19 I) (S20 : sp_20 I) (S21 : sp_21 I) (S22 : sp_22 I) (S23 : sp_23 I) (S24 : sp_24 I) (S25 : sp_25 I) (S26 : sp_26 I) (S27 : sp_27 I) (S28 : sp_28 I) (S29 : sp_29 I) (S30 : sp_30 I) (S31 : sp_31 I) (S32 : sp_32 I) (S33 : sp_33 I) (S34 : sp_34 I) (S35 : sp_35 I) (S36 : sp_36 I) (S37 : sp_37 I) (S38 : sp_38 I) (S39 : sp_39 I) (S40 : sp_40 I) (S41 : sp_41 I) (S42 : sp_42 I) (S43 : sp_43 I) (S44 : sp_44 I) (S45 : sp_45 I) (S46 : sp_46 I) (S47 : sp_47 I) {p : Program} {e : Env} {s : State} {m : MethodId} {below : List Frame} {meth : Method} {c : Code} (l : Launch) {b L : Nat} {xs : Nat → Int32} (hL : L ≤ 384) (C0 : lw_At p s m meth c b L xs) : W p l e room_1 s m #[Value.ref b] below meth c s.heap [] 0 0 (lw_Z below #[Value.ref b] s) (entryFrame m ([Value.ref b] : List Value).toArray 4) := by
  obtain ⟨hx, hb, hr, hml, hown, hts, hX, hbl, hlocks, hgv⟩ := C0
  have hA : ∀ a : Nat, a < s.heap.size → ¬ (fun q : Nat => s.heap.size - 1 < q) a := fun a ha q => by have q : s.heap.size - 1 < a := q; omega
  obtain ⟨t0, T0, Z0⟩ := sta_0 hgv hts hA
  obtain ⟨t1, T1, Z1⟩ := sta_1 hgv hts hA
  obtain ⟨t2, T2, Z2⟩ := sta_2 hgv hts hA
  obtain ⟨t3, T3, Z3⟩ := sta_3 hgv hts hA
  obtain ⟨t4, T4, Z4⟩ := sta_4 hgv hts hA
  obtain ⟨t5, T5, Z5⟩ := sta_5 hgv hts hA
  obtain ⟨t6, T6, Z6⟩ := sta_6 hgv hts hA
  obtain ⟨t7, T7, Z7⟩ := sta_7 hgv hts hA
  obtain ⟨t8, T8, Z8⟩ := sta_8 hgv hts hA
  obtain ⟨dC, dI, hKc⟩ := cls_ hts
  obtain ⟨cI, kI, cmI, fI, hkI, hkkI⟩ := arr_int (hts _ ac_int)
  obtain ⟨compA, cA, kA, hcA, -, hkA, hkkA, hfA⟩ := arrayOverA_spec (hts (.arrayOver (.array .int)) (List.mem_of_getElem? (i := 87) (by decide +kernel)))
  have hover2 := hts (.arrayOver (.object "ThumbReader$Kept")) (List.mem_of_getElem? (i := 99) (by decide +kernel))
  obtain ⟨compK, cK, kK, hcK, -, hkK, hkkK, hfK⟩ := Cond.arrayOver_spec hover2
  generalize hG : ((dC, dI, cI, cA, cK, s.heap.size - 1, fun k => if k = 0 then t0 else if k = 1 then t1 else if k = 2 then t2 else if k = 3 then t3 else if k = 4 then t4 else if k = 5 then t5 else if k = 6 then t6 else if k = 7 then t7 else if k = 8 then t8 else b) : gt_) = G
  have eB : gt_B G = s.heap.size - 1 := by rw [← hG]
  have hkn : kn_ G s := by
    rw [← hG]
    refine ⟨hKc, fun n z => ⟨fun k h => (by cases h), kI, hkI, cmI, hkkI⟩, fun n z => ⟨fun k h => (by cases h), kA, hkA, compA, hkkA⟩, fun n z => ⟨fun k h => (by cases h), kK, hkK, compK, hkkK⟩, fun w hw => ?_⟩
    have h1 := List.mem_filter.mp hw
    have h2 := hts w h1.1
    have h3 := h1.2
    unfold isNest_ at h3
    split at h3
    · exact va_Nw.of rfl h2
    · exact va_Nw.of rfl h2
    · cases h3
  have hkc : kc_ G s := by
    rw [← hG]
    exact ⟨hts (.arrayOver (.array .int)) (List.mem_of_getElem? (i := 87) (by decide +kernel)), va_AO.of hover2, fI, hfA, kK, compK, hkK, hkkK, hcK, hfK⟩
  have hsta : ∀ k, k < 9 → va_T .int (gt_S G k) (sn_ k).2.length (fun j => .int ((sn_ k).2.getD j 0)) (gt_A G) s s.heap ∧ va_Z "ThumbReader" (sn_ k).1 "[I" (.ref (gt_S G k)) (gt_A G) s s.heap := by
    rw [← hG]
    intro k hk
    match k, hk with
    | 0, _ => exact ⟨T0, Z0⟩
    | 1, _ => exact ⟨T1, Z1⟩
    | 2, _ => exact ⟨T2, Z2⟩
    | 3, _ => exact ⟨T3, Z3⟩
    | 4, _ => exact ⟨T4, Z4⟩
    | 5, _ => exact ⟨T5, Z5⟩
    | 6, _ => exact ⟨T6, Z6⟩
    | 7, _ => exact ⟨T7, Z7⟩
    | 8, _ => exact ⟨T8, Z8⟩
    | k + 9, hk => exact absurd hk (by omega)
  have hS9 : gt_S G 9 = b := by rw [← hG]; rfl
  have hw0 : hc_ G s (0, fun _ _ => 0, hz_) s.heap := by
    refine ⟨⟨by rw [eB]; omega, fun k hk => ?_, hsta⟩, fun c j _ => ⟨rfl, rfl, rfl⟩⟩
    have e : k = 0 := by have hk : k ≤ 0 := hk; omega
    subst e
    exact ⟨fun c e => (by cases e), fun n e => (by cases e), fun n e => (by cases e), fun n e => (by cases e)⟩
  have C : ∀ k n, k ≤ 600000 → n ≤ 7302250 → cx_ (p, l, e, room_1, s, m, #[Value.ref b], below, meth, c, G, k, n, lw_Z below #[Value.ref b] s) mt_law 100 := fun k n h1 h2 =>
    ⟨hx, hb, hr, hml, hown, fun w hw => hts w (List.mem_filter.mp hw).1, hkn, hlocks, lb_ rfl, lb_ rfl, h1, h2⟩
  have hl := lv_entry ([.ref b]) (n := 4) (lb_ rfl)
  rw [lg_entry_eq]
  have hlr : lr_ G (lg_sl [.ref b] ++ List.replicate (4 - (lg_sl [.ref b]).length) Slot.unset).toArray c.maxLocals [some (.ref 509), none, none, none] := by
    refine ⟨hl.1.trans hml.symm, hl.2.1, fun i v hi => ?_⟩
    match i, hi with
    | 0, hi =>
      cases hi
      rw [show cv_ G (.ref 509) = .ref (gt_S G 9) from cv_sta _ 9, hS9]
      exact hl.2.2 (0, .ref b) List.mem_cons_self
    | 1, hi => cases hi
    | 2, hi => cases hi
    | 3, hi => cases hi
    | i + 4, hi => simp at hi
  have C00 := C 0 0 (Nat.zero_le _) (Nat.zero_le _)
  have K : xc_ (p, l, e, room_1, s, m, #[Value.ref b], below, meth, c, G, 0, 0, lw_Z below #[Value.ref b] s) 0 0 0 [some (.ref 509), none, none, none] [] (0, fun _ _ => 0, hz_) := by
    refine xc_new C00 ck_6 dy_6 (q := (RX7, TX7, 9)) (List.mem_of_getElem? (i := 72) (by decide +kernel)) ii_6.1 ii_6.2 sh_k1 (lb_ rfl) (lb_ rfl) (dl_head.at 0 rfl) ?_
    refine xc_dup C00 (dl_head.at 1 rfl) rfl ?_
    refine xc_callI C00 hkc sc_X7_init_1 (dl_head.at 2 rfl) rfl rfl ⟨lb_ rfl, lb_ rfl⟩ kk_X7_init kj_X7_init (Or.inl (List.mem_of_getElem? (i := 74) (by decide +kernel))) (lb_ rfl) rfl rfl (lb_ rfl) (lb_ rfl) (lb_ rfl) ?_
    refine xc_astore_n (lv' := [_, _, _, _]) C00 (dl_head.at 3 rfl) (lb_ rfl) ⟨lb_ rfl, lb_ rfl⟩ rfl ?_
    refine xc_new C00 ck_7 dy_7 (q := (RX8, TX8, 31)) (List.mem_of_getElem? (i := 766) (by decide +kernel)) ii_7.1 ii_7.2 sh_k98 (lb_ rfl) (lb_ rfl) (dl_head.at 4 rfl) ?_
    refine xc_dup C00 (dl_head.at 5 rfl) rfl ?_
    refine xc_callI C00 hkc sc_X8_init_98 (dl_head.at 6 rfl) rfl rfl ⟨lb_ rfl, lb_ rfl⟩ kk_X8_init kj_X8_init (Or.inl (List.mem_of_getElem? (i := 768) (by decide +kernel))) (lb_ rfl) rfl rfl (lb_ rfl) (lb_ rfl) (lb_ rfl) ?_
    refine xc_astore_n (lv' := [_, _, _, _]) C00 (dl_head.at 7 rfl) (lb_ rfl) ⟨lb_ rfl, lb_ rfl⟩ rfl ?_
    refine xc_iconst C00 (dl_head.at 8 rfl) ic_0 ?_
    refine xc_istore_n (lv' := [_, _, _, _]) C00 (dl_head.at 9 rfl) (lb_ rfl) rfl ?_
    refine xc_of_xx ?_
    have X : lx_ (p, l, e, room_1, s, m, #[Value.ref b], below, meth, c, G, 114, 6140, lw_Z below #[Value.ref b] s) b L xs := ⟨hX, hS9, hbl, fun q => by have q : gt_B G < b := q; omega⟩
    refine law_loop S0 S1 S2 S3 S4 S5 S6 S7 S8 S9 S10 S11 S12 S13 S14 S15 S16 S17 S18 S19 S20 S21 S22 S23 S24 S25 S26 S27 S28 S29 S30 S31 S32 S33 S34 S35 S36 S37 S38 S39 S40 S41 S42 S43 S44 S45 S46 S47 (C _ _ (lb_ rfl) (lb_ rfl)) X hL (fun lv h H locs ls hw hs hl => ?_) (L + 1) 0 h0_ (by omega) (by omega) hI0
    refine va_forget (fun q hq => by have h7 : gt_B G < q.base := hs.2.2 q hq; show s.heap.size ≤ q.base; omega) ?_
    refine W.widen (k := 600000) (n := 7302250) (lb_ rfl) (lb_ rfl) ?_
    exact lw_ret hx hb hr hlocks (dl_tail.at 3 rfl)
  exact K s.heap [] _ hw0 va_S.rf hlr
