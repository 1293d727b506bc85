/-! ===== heap instructions over the abstract heap ===== -/
theorem uw_0 : ∀ w ∈ u_ws RX0 TX0 3, w ∈ lw_tbl := by decide +kernel
theorem uw_1 : ∀ w ∈ u_ws RX2 TX2 7, w ∈ lw_tbl := by decide +kernel
theorem uw_2 : ∀ w ∈ u_ws RX3 TX3 3, w ∈ lw_tbl := by decide +kernel
theorem uw_3 : ∀ w ∈ u_ws RX4 TX4 3, w ∈ lw_tbl := by decide +kernel
theorem uw_4 : ∀ w ∈ u_ws RX5 TX5 2, w ∈ lw_tbl := by decide +kernel
theorem uw_5 : ∀ w ∈ u_ws RX6 TX6 5, w ∈ lw_tbl := by decide +kernel
theorem uw_6 : ∀ w ∈ u_ws RX7 TX7 9, w ∈ lw_tbl := by decide +kernel
theorem uw_7 : ∀ w ∈ u_ws RX8 TX8 31, w ∈ lw_tbl := by decide +kernel
theorem uw_good {C : String} {T : u_T} {N : Nat} : ∀ w ∈ u_ws C T N, goodWord w = true := by
  intro w hw
  obtain ⟨k, -, rfl⟩ := List.mem_map.mp hw
  unfold u_lay
  split <;> rfl
/-- a class of ours: its row of the table, its types, its words -/
def ck_ (ci : Nat) (q : vw_C) (ty : Nat → FieldType) : Prop := vwCl[ci]? = some q ∧ nf_ ci = q.2.2 ∧ (∀ w ∈ u_ws q.1 q.2.1 q.2.2, w ∈ gw_) ∧ (∀ k, k < q.2.2 → parseFieldDescriptor (q.2.1 k).2.2.1 = some (ty k)) ∧ (∀ a, a < q.2.2 → ∀ b, b < q.2.2 → a ≠ b → (q.2.1 a).2.1 ≠ (q.2.1 b).2.1)
theorem ck_0 : ck_ 0 (RX0, TX0, 3) tyX0 := ⟨rfl, rfl, fun w h => gw_in (uw_0 w h) (uw_good w h), tyX0_ok, nmX0⟩
theorem ck_1 : ck_ 1 (RX2, TX2, 7) tyX2 := ⟨rfl, rfl, fun w h => gw_in (uw_1 w h) (uw_good w h), tyX2_ok, nmX2⟩
theorem ck_2 : ck_ 2 (RX3, TX3, 3) tyX3 := ⟨rfl, rfl, fun w h => gw_in (uw_2 w h) (uw_good w h), tyX3_ok, nmX3⟩
theorem ck_3 : ck_ 3 (RX4, TX4, 3) tyX4 := ⟨rfl, rfl, fun w h => gw_in (uw_3 w h) (uw_good w h), tyX4_ok, nmX4⟩
theorem ck_4 : ck_ 4 (RX5, TX5, 2) tyX5 := ⟨rfl, rfl, fun w h => gw_in (uw_4 w h) (uw_good w h), tyX5_ok, nmX5⟩
theorem ck_5 : ck_ 5 (RX6, TX6, 5) tyX6 := ⟨rfl, rfl, fun w h => gw_in (uw_5 w h) (uw_good w h), tyX6_ok, nmX6⟩
theorem ck_6 : ck_ 6 (RX7, TX7, 9) tyX7 := ⟨rfl, rfl, fun w h => gw_in (uw_6 w h) (uw_good w h), tyX7_ok, nmX7⟩
theorem ck_7 : ck_ 7 (RX8, TX8, 31) tyX8 := ⟨rfl, rfl, fun w h => gw_in (uw_7 w h) (uw_good w h), tyX8_ok, nmX8⟩
/-- the word that links a field: an own one, or a nest mate's -/
def fl_ (own : String) (idx : Nat) (r : String × String × String × Bool) : Prop := Cond.fieldLink own idx r.1 r.2.1 r.2.2.1 ∈ lw_tbl ∨ Cond.fieldLinkNest own idx r.1 r.2.1 r.2.2.1 "ThumbReader" ∈ lw_tbl
theorem nw_in {own : String} {idx : Nat} {a b c e : String} (h : Cond.fieldLinkNest own idx a b c e ∈ lw_tbl) : Cond.fieldLinkNest own idx a b c e ∈ nw_ := List.mem_filter.mpr ⟨h, rfl⟩
section YY
variable {Z : zz_} {M : mt_} {d : Nat} {pc : Nat} {lv : List (Option Value)} {st : List Value} {h : hh_} {H : Heap} {locs : List Loc} {ls : Array Slot} {rest : List Value}
theorem ww_getf (C : cx_ Z M d) {ci j o idx : Nat} {q : vw_C} {ty : Nat → FieldType} {ρ : Nat → Nat → Nat} (ck : ck_ ci q ty) (hj : j < q.2.2) (lk : fl_ M.1.cls idx (q.2.1 j)) (hc : t_OB (gt_B (z_G Z) + o) (gt_C (z_G Z) ci) (nf_ ci) (gt_I (z_G Z) ci) H (fv_ (z_G Z) h ρ ci o)) (D : decode M.2.1 pc = .ok (.getfield idx, 3))
    (K : ww_ Z H locs (F0 (z_m Z) (pc + 3) ls (fv_ (z_G Z) h ρ ci o j :: rest))) : ww_ Z H locs (F0 (z_m Z) pc ls (.ref (gt_B (z_G Z) + o) :: rest)) := by
  obtain ⟨cell, q1, q2, q3, q4⟩ := hc
  obtain ⟨hS, hfc, kC, hkC, hkind⟩ := C.kn.1 ci q ck.1
  obtain ⟨cf, kf, fi, f, hi, hsl⟩ := hS j hj
  have hst := (u_facts hfc hkC (u_lays C.ts ck.2.2.1 hj) hi).1
  have hv : cell.slots[f.slot]? = some (fv_ (z_G Z) h ρ ci o j) := by rw [hsl]; exact q4 j (by rw [ck.2.1]; exact hj)
  rcases lk with lk | lk
  · exact W.getf C.ex C.co C.ow (C.ts _ (gw_in lk rfl)) hi hst q1 (by rw [q3]; exact fun h => by cases h) hv rfl rfl D K
  · exact va_Wgetf C.ex C.co C.ow (va_Nw.use rfl (C.kn.2.2.2.2 _ (nw_in lk))) hi hst q1 (by rw [q3]; exact fun h => by cases h) hv rfl rfl D K
/-- the shape's cell in the world -/
theorem hw_.ob {G : gt_} {U : State} (hw : hw_ G U h H) {o ci : Nat} (so : sh_ o = (0, ci)) : t_OB (gt_B G + o) (gt_C G ci) (nf_ ci) (gt_I G ci) H (fv_ G h (rr_ h) ci o) := (hw.1.2.1 o (sh_rng so (by decide)).2).1 ci so
theorem hw_.ia {G : gt_} {U : State} (hw : hw_ G U h H) {o n : Nat} (so : sh_ o = (1, n)) : H[gt_B G + o]? = some (arrV (gt_1 G) n (fun j => .int (h.1 o j))) := (hw.1.2.1 o (sh_rng so (by decide)).2).2.1 n so
theorem rr_ob {o ci j : Nat} (so : sh_ o = (0, ci)) : rr_ h o j = rf_ h ci o j := by unfold rr_; rw [so]; rfl
theorem rr_ar {o t n j : Nat} (so : sh_ o = (t, n)) (ht : t ≠ 0) : rr_ h o j = re_ t o j := by
  unfold rr_
  rw [so]
  cases t with
  | zero => exact absurd rfl ht
  | succ t => rfl
theorem xx_getI (C : cx_ Z M d) {ci j o idx : Nat} {q : vw_C} {ty : Nat → FieldType} (ck : ck_ ci q ty) (hj : j < q.2.2) (lk : fl_ M.1.cls idx (q.2.1 j)) (so : sh_ o = (0, ci)) (hk : fk_ ci j = 0) (D : decode M.2.1 pc = .ok (.getfield idx, 3)) (K : xx_ Z (pc + 3) lv (.int (h.1 o j) :: st) h) : xx_ Z pc lv (.ref o :: st) h := fun H locs ls hw hs hl => by
  have hr := sh_rng so (by decide)
  rw [List.map_cons, cv_ref _ hr.1 (by omega)]
  refine ww_getf C ck hj lk (hw.ob so) D ?_
  have e : fv_ (z_G Z) h (rr_ h) ci o j = .int (h.1 o j) := by unfold fv_; rw [if_pos hk]
  rw [e]
  exact K H locs ls hw hs hl
theorem xx_getL (C : cx_ Z M d) {ci j o idx : Nat} {q : vw_C} {ty : Nat → FieldType} (ck : ck_ ci q ty) (hj : j < q.2.2) (lk : fl_ M.1.cls idx (q.2.1 j)) (so : sh_ o = (0, ci)) (hk : fk_ ci j = 1) (D : decode M.2.1 pc = .ok (.getfield idx, 3)) (K : xx_ Z (pc + 3) lv (.long (h.2.1 o j) :: st) h) : xx_ Z pc lv (.ref o :: st) h := fun H locs ls hw hs hl => by
  have hr := sh_rng so (by decide)
  rw [List.map_cons, cv_ref _ hr.1 (by omega)]
  refine ww_getf C ck hj lk (hw.ob so) D ?_
  have e : fv_ (z_G Z) h (rr_ h) ci o j = .long (h.2.1 o j) := by unfold fv_; rw [if_neg (by omega), if_pos hk]
  rw [e]
  exact K H locs ls hw hs hl
theorem rf_lt {ci k j : Nat} {G : gt_} {U : State} (hw : hw_ G U h H) (so : sh_ k = (0, ci)) (hj : rc_ ci k j < 500) : rf_ h ci k j < 500 := by
  unfold rf_
  split
  · exact hw.2.1
  · split
    · exact hw.2.2.1
    · split
      · exact hw.2.2.2
      · exact hj
theorem xx_getR (C : cx_ Z M d) {ci j o idx r : Nat} {q : vw_C} {ty : Nat → FieldType} (ck : ck_ ci q ty) (hj : j < q.2.2) (lk : fl_ M.1.cls idx (q.2.1 j)) (so : sh_ o = (0, ci)) (hk : fk_ ci j = 2) (hr0 : rc_ ci o j < 500) (e0 : rf_ h ci o j = r) (D : decode M.2.1 pc = .ok (.getfield idx, 3)) (K : xx_ Z (pc + 3) lv (.ref r :: st) h) : xx_ Z pc lv (.ref o :: st) h := fun H locs ls hw hs hl => by
  have hr := sh_rng so (by decide)
  rw [List.map_cons, cv_ref _ hr.1 (by omega)]
  refine ww_getf C ck hj lk (hw.ob so) D ?_
  have e : fv_ (z_G Z) h (rr_ h) ci o j = cv_ (z_G Z) (.ref r) := by
    unfold fv_
    rw [if_neg (by omega), if_neg (by omega), rr_ob so, ← e0, cv_rv _ (rf_lt hw so hr0)]
  rw [e]
  exact K H locs ls hw hs hl
/-- one cell changes -/
theorem hw_.upd {G : gt_} {s : State} {h' : hh_} {H' : Heap} {o : Nat} (hw : hw_ G s h H) (ho : 0 < o ∧ o ≤ 114) (hn : h'.2.2.1 < 500 ∧ h'.2.2.2.1 < 500 ∧ h'.2.2.2.2 < 500) (z : H'.size = H.size) (oq : ∀ q : Nat, q ≠ gt_B G + o → H'[q]? = H[q]?) (hc : ce_ G h' (rr_ h') H' o) (hi : ∀ k j, k ≠ o → h'.1 k j = h.1 k j) (hl : ∀ k j, k ≠ o → h'.2.1 k j = h.2.1 k j) (hr : ∀ k j, k ≠ o → rr_ h' k j = rr_ h k j) : hw_ G s h' H' := by
  refine ⟨⟨z.trans hw.1.1, fun k hk => ?_, fun k hk => ?_⟩, hn⟩
  · by_cases e : k = o
    · subst e; exact hc
    · obtain ⟨c0, c1, c2, c3⟩ := hw.1.2.1 k hk
      have eq : H'[gt_B G + k]? = H[gt_B G + k]? := oq _ (by omega)
      refine ⟨fun ci s => ?_, fun n s => ?_, fun n s => ?_, fun n s => ?_⟩
      · refine (c0 ci s).kept eq |>.to (fun j _ => ?_)
        unfold fv_
        rw [hi k j e, hl k j e, hr k j e]
      · rw [eq, c1 n s]; congr 1; congr 1; funext j; rw [hi k j e]
      · rw [eq, c2 n s]; congr 1; congr 1; funext j; rw [hr k j e]
      · rw [eq, c3 n s]; congr 1; congr 1; funext j; rw [hr k j e]
  · have h1 := hw.1.2.2 k hk
    have kq : ∀ a : Nat, a < H.size → ¬ gt_A G a → H'[a]? = H[a]? := fun a _ ha => oq a (fun e => ha (by show gt_B G < a; omega))
    exact ⟨h1.1.kept kq, h1.2.kept kq⟩
theorem ww_putf (C : cx_ Z M d) {ci j o idx : Nat} {q : vw_C} {ty : Nat → FieldType} {v : Value} (ck : ck_ ci q ty) (hj : j < q.2.2) (lk : fl_ M.1.cls idx (q.2.1 j)) (hfin : (q.2.1 j).2.2.2 = false) (hv : narrow (ty j) v = v) (hf : fits (ty j) v = true) (hw : hw_ (z_G Z) (z_s Z) h H) (so : sh_ o = (0, ci)) (D : decode M.2.1 pc = .ok (.putfield idx, 3)) (hs : va_S (gt_A (z_G Z)) (z_s Z).heap H locs)
    (K : ∀ (H' : Heap) (locs' : List Loc), H'.size = H.size → (∀ a : Nat, a ≠ gt_B (z_G Z) + o → H'[a]? = H[a]?) → t_OB (gt_B (z_G Z) + o) (gt_C (z_G Z) ci) (nf_ ci) (gt_I (z_G Z) ci) H' (updV (fv_ (z_G Z) h (rr_ h) ci o) j v) → va_S (gt_A (z_G Z)) (z_s Z).heap H' locs' → ww_ Z H' locs' (F0 (z_m Z) (pc + 3) ls rest)) : ww_ Z H locs (F0 (z_m Z) pc ls (v :: .ref (gt_B (z_G Z) + o) :: rest)) := by
  have hK : va_K (gt_C (z_G Z), gt_I (z_G Z)) vwCl [] (z_s Z) := ⟨C.kn.1, fun k x hx => by simp at hx⟩
  have hap := va_apart (own := M.1.cls) (D := (gt_C (z_G Z), gt_I (z_G Z))) C.ts ck.2.2.1 ty ck.2.2.2.1 ck.2.2.2.2 hK ck.1
  obtain ⟨cell, q1, q2, q3, q4⟩ := hw.ob so
  obtain ⟨hS, hfc, kC, hkC, hkind⟩ := C.kn.1 ci q ck.1
  obtain ⟨cf, kf, fi, f, hi, hsl⟩ := hS j hj
  have hlay := C.ts _ (ck.2.2.1 _ (u_in_lay hj))
  unfold u_lay at hlay
  rw [if_neg (by rw [hfin]; decide)] at hlay
  have hst := (u_facts hfc hkC (u_lays C.ts ck.2.2.1 hj) hi).1
  have h6 := u_store hfc hkC hkind hlay hi (ck.2.2.2.1 j hj) hv hf
  rw [ck.2.1] at q4
  have hr := sh_rng so (by decide)
  have fin : ∀ H' : Heap, H'[gt_B (z_G Z) + o]? = some (cell.setSlot f.slot v) → H'.size = H.size → (∀ a, a ≠ gt_B (z_G Z) + o → H'[a]? = H[a]?) → ww_ Z H' (locs ++ [⟨gt_B (z_G Z) + o, f.slot⟩]) (F0 (z_m Z) (pc + 3) ls rest) := fun H' e1 e2 e3 => by
    rw [hsl] at e1
    exact K H' _ e2 e3 ⟨_, e1, q2, q3, by rw [ck.2.1]; exact t_set q4 hap hj v⟩ (hs.put e2 e3 (by show gt_B (z_G Z) < _; omega))
  rcases lk with lk | lk
  · exact W.putK C.ex C.co (f := f) ⟨C.ow, C.ts _ (gw_in lk rfl), ⟨_, _, _, hi⟩, hst⟩ (by rw [q2]; exact h6) q1 q3 (by rw [hsl]; exact k2_hasslot (q4 j hj)) rfl rfl D fin
  · exact va_WputK C.ex C.co (f := f) C.ow (va_Nw.use rfl (C.kn.2.2.2.2 _ (nw_in lk))) hi hst (by rw [q2]; exact h6) q1 q3 (by rw [hsl]; exact k2_hasslot (q4 j hj)) rfl rfl D fin
theorem ce_ob {G : gt_} {ρ : Nat → Nat → Nat} {o ci : Nat} (so : sh_ o = (0, ci)) (hc : t_OB (gt_B G + o) (gt_C G ci) (nf_ ci) (gt_I G ci) H (fv_ G h ρ ci o)) : ce_ G h ρ H o :=
  ⟨fun c e => (by rw [so] at e; cases e; exact hc), fun n e => (by rw [so] at e; cases e), fun n e => (by rw [so] at e; cases e), fun n e => (by rw [so] at e; cases e)⟩
theorem ce_ia {G : gt_} {ρ : Nat → Nat → Nat} {o n : Nat} (so : sh_ o = (1, n)) (hc : H[gt_B G + o]? = some (arrV (gt_1 G) n (fun j => .int (h.1 o j)))) : ce_ G h ρ H o :=
  ⟨fun c e => (by rw [so] at e; cases e), fun n e => (by rw [so] at e; cases e; exact hc), fun n e => (by rw [so] at e; cases e), fun n e => (by rw [so] at e; cases e)⟩
theorem hh_up_ne {α : Type} {f : Nat → Nat → α} {a k b j : Nat} {v : α} (h : b ≠ a) : hh_up f a k v b j = f b j := by unfold hh_up; rw [if_neg (fun q => h q.1)]
theorem xx_putI (C : cx_ Z M d) {ci j o idx : Nat} {q : vw_C} {ty : Nat → FieldType} {v : Int32} (ck : ck_ ci q ty) (hj : j < q.2.2) (lk : fl_ M.1.cls idx (q.2.1 j)) (hfin : (q.2.1 j).2.2.2 = false) (hty : ty j = .int) (so : sh_ o = (0, ci)) (hk : fk_ ci j = 0) (D : decode M.2.1 pc = .ok (.putfield idx, 3)) (K : xx_ Z (pc + 3) lv st (hh_sI h o j v)) : xx_ Z pc lv (.int v :: .ref o :: st) h := fun H locs ls hw hs hl => by
  have hr := sh_rng so (by decide)
  rw [List.map_cons, List.map_cons, cv_ref _ hr.1 (by omega)]
  refine ww_putf C ck hj lk hfin (by rw [hty]; rfl) (by rw [hty]; rfl) hw so D hs (fun H' locs' e2 e3 e4 hs' => ?_)
  refine K H' locs' ls (hw.upd hr hw.2 e2 e3 (ce_ob so (e4.to (fun i _ => ?_))) (fun k i e => hh_up_ne e) (fun _ _ _ => rfl) (fun _ _ _ => rfl)) hs' hl
  show updV _ _ _ _ = fv_ _ _ (rr_ h) _ _ _
  unfold updV fv_ hh_sI hh_up
  by_cases e : i = j
  · subst e; simp [hk]; rfl
  · simp [e]
theorem xx_putL (C : cx_ Z M d) {ci j o idx : Nat} {q : vw_C} {ty : Nat → FieldType} {v : Int64} (ck : ck_ ci q ty) (hj : j < q.2.2) (lk : fl_ M.1.cls idx (q.2.1 j)) (hfin : (q.2.1 j).2.2.2 = false) (hty : ty j = .long) (so : sh_ o = (0, ci)) (hk : fk_ ci j = 1) (D : decode M.2.1 pc = .ok (.putfield idx, 3)) (K : xx_ Z (pc + 3) lv st (hh_sL h o j v)) : xx_ Z pc lv (.long v :: .ref o :: st) h := fun H locs ls hw hs hl => by
  have hr := sh_rng so (by decide)
  rw [List.map_cons, List.map_cons, cv_ref _ hr.1 (by omega)]
  refine ww_putf C ck hj lk hfin (by rw [hty]; rfl) (by rw [hty]; rfl) hw so D hs (fun H' locs' e2 e3 e4 hs' => ?_)
  refine K H' locs' ls (hw.upd hr hw.2 e2 e3 (ce_ob so (e4.to (fun i _ => ?_))) (fun _ _ _ => rfl) (fun k i e => hh_up_ne e) (fun _ _ _ => rfl)) hs' hl
  show updV _ _ _ _ = fv_ _ _ (rr_ h) _ _ _
  unfold updV fv_ hh_sL hh_up
  by_cases e : i = j
  · subst e; simp [hk]; rfl
  · simp [e]
theorem xx_putR (C : cx_ Z M d) {ci j o idx r : Nat} {q : vw_C} {ty : Nat → FieldType} {h' : hh_} (ck : ck_ ci q ty) (hj : j < q.2.2) (lk : fl_ M.1.cls idx (q.2.1 j)) (hfin : (q.2.1 j).2.2.2 = false) (hty : ∃ n, ty j = .object n) (so : sh_ o = (0, ci)) (hk : fk_ ci j = 2) (hr0 : 0 < r ∧ r < 500) (e1 : h'.1 = h.1) (e2 : h'.2.1 = h.2.1) (hn : h.2.2.1 < 500 ∧ h.2.2.2.1 < 500 ∧ h.2.2.2.2 < 500 → h'.2.2.1 < 500 ∧ h'.2.2.2.1 < 500 ∧ h'.2.2.2.2 < 500) (e3 : ∀ k i, rr_ h' k i = if k = o ∧ i = j then r else rr_ h k i) (D : decode M.2.1 pc = .ok (.putfield idx, 3)) (K : xx_ Z (pc + 3) lv st h') : xx_ Z pc lv (.ref r :: .ref o :: st) h := fun H locs ls hw hs hl => by
  have hr := sh_rng so (by decide)
  rw [List.map_cons, List.map_cons, cv_ref _ hr.1 (by omega), cv_ref _ hr0.1 hr0.2]
  obtain ⟨n, hty⟩ := hty
  refine ww_putf C ck hj lk hfin (by rw [hty]; rfl) (by rw [hty]; rfl) hw so D hs (fun H' locs' z2 z3 e4 hs' => ?_)
  refine K H' locs' ls (hw.upd hr (hn hw.2) z2 z3 (ce_ob so (e4.to (fun i _ => ?_))) (fun k i _ => by rw [e1]) (fun k i _ => by rw [e2]) (fun k i e => by rw [e3, if_neg (fun q => e q.1)])) hs' hl
  unfold updV fv_
  rw [e1, e2, e3]
  by_cases e : i = j
  · subst e; simp [hk, rv_, Nat.ne_of_gt hr0.1]
  · simp [e]
theorem vp_lt {i : Int32} {n : Nat} (h : vp_in i n) : i.toNatClampNeg < n := Nat.not_le.mp fun q => h (Or.inr q)
theorem xx_iaload (C : cx_ Z M d) {a n : Nat} {i : Int32} (D : decode M.2.1 pc = .ok (.iaload, 1)) (so : sh_ a = (1, n)) (hin : vp_in i n) (K : xx_ Z (pc + 1) lv (.int (h.1 a i.toNatClampNeg) :: st) h) : xx_ Z pc lv (.int i :: .ref a :: st) h := fun H locs ls hw hs hl => by
  have hr := sh_rng so (by decide)
  rw [List.map_cons, List.map_cons, cv_ref _ hr.1 (by omega)]
  exact W.iald (v := .int (h.1 a i.toNatClampNeg)) C.ex C.co (hw.ia so) (C.kn.2.1 n (fun j => .int (h.1 a j))) (fun q => by cases q) (by rw [arrV_size]; exact hin) (by rw [arrV_read _ _ (vp_lt hin)]) rfl rfl D (K H locs ls hw hs hl)
theorem xx_saload (C : cx_ Z M d) {k : Nat} {i : Int32} (D : decode M.2.1 pc = .ok (.iaload, 1)) (hk : k < 9) (hin : vp_in i (sn_ k).2.length) (K : xx_ Z (pc + 1) lv (.int ((sn_ k).2.getD i.toNatClampNeg 0) :: st) h) : xx_ Z pc lv (.int i :: .ref (500 + k) :: st) h := fun H locs ls hw hs hl => by
  rw [List.map_cons, List.map_cons, cv_sta]
  obtain ⟨cell, h1, h2, h3, h4, h5, h6, h7⟩ := (hw.1.2.2 k hk).1
  exact W.iald (v := .int ((sn_ k).2.getD i.toNatClampNeg 0)) C.ex C.co h1 h2 h3 (fun q => hin (q.imp id (fun q => Nat.le_trans h4 q))) (h6 _ (vp_lt hin)) rfl rfl D (K H locs ls hw hs hl)
theorem xx_getS (C : cx_ Z M d) {k idx : Nat} (hk : k < 9) (lk : fl_ M.1.cls idx ("ThumbReader", (sn_ k).1, "[I", true)) (D : decode M.2.1 pc = .ok (.getstatic idx, 3)) (K : xx_ Z (pc + 3) lv (.ref (500 + k) :: st) h) : xx_ Z pc lv st h := fun H locs ls hw hs hl => by
  obtain ⟨cf, kf, fi, f, a, cell, h1, h2, h3, h4, h5, h6, h7, h8⟩ := (hw.1.2.2 k hk).2
  have K1 := K H locs ls hw hs hl
  rw [List.map_cons, cv_sta] at K1
  rcases lk with lk | lk
  · exact W.gets C.ex C.co C.ow (C.ts _ (gw_in lk rfl)) h1 h2 h3 h4 h5 (fun e => by rw [e] at h6; cases h6) h7 rfl D K1
  · exact va_WgetsN C.ex C.co C.ow (va_Nw.use rfl (C.kn.2.2.2.2 _ (nw_in lk))) h1 h2 h3 h4 h5 (fun e => by rw [e] at h6; cases h6) h7 rfl D K1
theorem re_lt {t a j : Nat} (ha : a ≤ 114) (hj : j < 200) : re_ t a j < 500 ∨ t ≠ 2 := by
  unfold re_
  by_cases e : t = 2
  · left; rw [if_pos e]; omega
  · right; exact e
theorem xx_aaload (C : cx_ Z M d) {a n r : Nat} {i : Int32} (D : decode M.2.1 pc = .ok (.aaload, 1)) (so : sh_ a = (2, n)) (hin : vp_in i n) (hr0 : r < 500) (er : a + 1 + i.toNatClampNeg = r) (K : xx_ Z (pc + 1) lv (.ref r :: st) h) : xx_ Z pc lv (.int i :: .ref a :: st) h := fun H locs ls hw hs hl => by
  have hr := sh_rng so (by decide)
  rw [List.map_cons, List.map_cons, cv_ref _ hr.1 (by omega)]
  have hc := (hw.1.2.1 a hr.2).2.2.1 n so
  have e : cv_ (z_G Z) (.ref r) = rv_ (z_G Z) (rr_ h a i.toNatClampNeg) := by
    rw [cv_rv _ hr0, rr_ar so (by decide), ← er]
    rfl
  have K1 := K H locs ls hw hs hl
  rw [List.map_cons, e] at K1
  exact W.aald (v := rv_ (z_G Z) (rr_ h a i.toNatClampNeg)) (ty := .array .int) C.ex C.co hc (C.kn.2.2.1 n _) rfl (fun q => by cases q) (by rw [arrV_size]; exact hin) (by rw [arrV_read _ _ (vp_lt hin)]) rfl rfl D K1
theorem xx_kaload (C : cx_ Z M d) {a n r : Nat} {i : Int32} (D : decode M.2.1 pc = .ok (.aaload, 1)) (so : sh_ a = (3, n)) (hin : vp_in i n) (hr0 : r < 500) (er : 89 + 3 * i.toNatClampNeg = r) (K : xx_ Z (pc + 1) lv (.ref r :: st) h) : xx_ Z pc lv (.int i :: .ref a :: st) h := fun H locs ls hw hs hl => by
  have hr := sh_rng so (by decide)
  rw [List.map_cons, List.map_cons, cv_ref _ hr.1 (by omega)]
  have hc := (hw.1.2.1 a hr.2).2.2.2 n so
  have e : cv_ (z_G Z) (.ref r) = rv_ (z_G Z) (rr_ h a i.toNatClampNeg) := by
    rw [cv_rv _ hr0, rr_ar so (by decide), ← er]
    rfl
  have K1 := K H locs ls hw hs hl
  rw [List.map_cons, e] at K1
  exact W.aald (v := rv_ (z_G Z) (rr_ h a i.toNatClampNeg)) (ty := .object "ThumbReader$Kept") C.ex C.co hc (C.kn.2.2.2.1 n _) rfl (fun q => by cases q) (by rw [arrV_size]; exact hin) (by rw [arrV_read _ _ (vp_lt hin)]) rfl rfl D K1
theorem xx_alen (C : cx_ Z M d) {a n : Nat} {v : Int32} (D : decode M.2.1 pc = .ok (.arraylength, 1)) (so : sh_ a = (1, n)) (hv : Int32.ofNat n = v) (K : xx_ Z (pc + 1) lv (.int v :: st) h) : xx_ Z pc lv (.ref a :: st) h := fun H locs ls hw hs hl => by
  have hr := sh_rng so (by decide)
  rw [List.map_cons, cv_ref _ hr.1 (by omega)]
  exact W.alen C.ex C.co (hw.ia so) (C.kn.2.1 n (fun j => .int (h.1 a j))) (by rw [arrV_size]; exact hv) rfl rfl D (K H locs ls hw hs hl)
theorem hw_.setI {G : gt_} {s : State} {H' : Heap} {a n i : Nat} {v : Int32} (hw : hw_ G s h H) (so : sh_ a = (1, n)) (e1 : H'[gt_B G + a]? = some ((arrV (gt_1 G) n (fun j => .int (h.1 a j))).setSlot i (.int v))) (z : H'.size = H.size) (oq : ∀ q : Nat, q ≠ gt_B G + a → H'[q]? = H[q]?) : hw_ G s (hh_sI h a i v) H' := by
  refine hw.upd (sh_rng so (by decide)) hw.2 z oq (ce_ia so ?_) (fun k j e => hh_up_ne e) (fun _ _ _ => rfl) (fun _ _ _ => rfl)
  rw [e1, arrV_store]
  congr 1; congr 1; funext j
  unfold updV hh_sI hh_up
  by_cases e : j = i <;> simp [e]
theorem xx_iastore (C : cx_ Z M d) {a n : Nat} {i v : Int32} (D : decode M.2.1 pc = .ok (.iastore, 1)) (so : sh_ a = (1, n)) (hin : vp_in i n) (K : xx_ Z (pc + 1) lv st (hh_sI h a i.toNatClampNeg v)) : xx_ Z pc lv (.int v :: .int i :: .ref a :: st) h := fun H locs ls hw hs hl => by
  have hr := sh_rng so (by decide)
  rw [List.map_cons, List.map_cons, List.map_cons, cv_ref _ hr.1 (by omega)]
  exact W.iast C.ex C.co (hw.ia so) (C.kn.2.1 n (fun j => .int (h.1 a j))) (fun q => by cases q) (by rw [arrV_size]; exact hin) rfl rfl D (fun H' e1 e2 e3 => K H' _ ls (hw.setI so e1 e2 e3) (hs.put e2 e3 (by show gt_B (z_G Z) < _; omega)) hl)
end YY
