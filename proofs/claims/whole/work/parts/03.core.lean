/-! ===== the abstract heap: ints and longs by cell and place; the three references that change (now, draft, Scan.office) ===== -/
abbrev hh_ : Type := (Nat → Nat → Int32) × (Nat → Nat → Int64) × Nat × Nat × Nat
def hh_up {α : Type} (f : Nat → Nat → α) (a k : Nat) (v : α) : Nat → Nat → α := fun b j => if b = a ∧ j = k then v else f b j
def hh_sI (h : hh_) (a k : Nat) (v : Int32) : hh_ := (hh_up h.1 a k v, h.2)
def hh_sL (h : hh_) (a k : Nat) (v : Int64) : hh_ := (h.1, hh_up h.2.1 a k v, h.2.2)
def hh_sN (h : hh_) (v : Nat) : hh_ := (h.1, h.2.1, v, h.2.2.2)
def hh_sD (h : hh_) (v : Nat) : hh_ := (h.1, h.2.1, h.2.2.1, v, h.2.2.2.2)
def hh_sO (h : hh_) (v : Nat) : hh_ := (h.1, h.2.1, h.2.2.1, h.2.2.2.1, v)
def hh_cp (h : hh_) (a b sp dp n : Nat) : hh_ := (fun c j => if c = b then va_cpy (h.1 a) (h.1 b) sp dp n j else h.1 c j, h.2)
/-- the shapes of the cells, by the order in which the constructors make them: (0, class), (1, n) int[n], (2, n) int[n][], (3, n) Kept[n] -/
def sh_L : List (Nat × Nat) := [(9, 0), (0, 6), (0, 4), (2, 6), (1, 40), (1, 40), (1, 40), (1, 40), (1, 40), (1, 40), (1, 6), (0, 4), (2, 4), (1, 80), (1, 80), (1, 80), (1, 80), (1, 4), (3, 3), (0, 3), (0, 2), (1, 5), (2, 6), (1, 16), (1, 16), (1, 16), (1, 16), (1, 16), (1, 16), (2, 6), (1, 16), (1, 16), (1, 16), (1, 16), (1, 16), (1, 16), (0, 5), (1, 6), (1, 4),
  (0, 1), (2, 5), (1, 5), (1, 5), (1, 5), (1, 5), (1, 5), (2, 5), (1, 5), (1, 5), (1, 5), (1, 5), (1, 5), (2, 4), (1, 3), (1, 3), (1, 3), (1, 3), (2, 4), (1, 5), (1, 5), (1, 5), (1, 5), (1, 3), (1, 40),
  (0, 1), (2, 5), (1, 5), (1, 5), (1, 5), (1, 5), (1, 5), (2, 5), (1, 5), (1, 5), (1, 5), (1, 5), (1, 5), (2, 4), (1, 3), (1, 3), (1, 3), (1, 3), (2, 4), (1, 5), (1, 5), (1, 5), (1, 5), (1, 3), (1, 40),
  (0, 0), (1, 40), (1, 4), (0, 0), (1, 40), (1, 4), (0, 0), (1, 40), (1, 4),
  (0, 7), (1, 6), (1, 6), (1, 240), (1, 40), (1, 4), (1, 320), (1, 25), (1, 12), (1, 20), (1, 60), (1, 1000), (1, 3090), (1, 5), (1, 5), (1, 5), (1, 4)]
def sh_ (k : Nat) : Nat × Nat := sh_L.getD k (9, 0)
/-- the kinds of fields: 0 int, 1 long, 2 reference -/
def fk_L : List (List Nat) := [[2, 2, 0], [2, 2, 2, 2, 2, 2, 0], [2, 2, 2], [2, 0, 0], [2, 2], [2, 0, 0, 1, 1], [2, 2, 2, 2, 2, 2, 2, 2, 2], [0, 2, 0, 1, 1, 2, 2, 2, 2, 2, 0, 0, 0, 2, 2, 2, 0, 0, 0, 0, 2, 0, 2, 2, 2, 2, 2, 0, 1, 2, 1]]
def fk_ (ci j : Nat) : Nat := (fk_L.getD ci []).getD j 9
def nf_ (ci : Nat) : Nat := (fk_L.getD ci []).length
/-- the references that never change, by class, object, field -/
def rc_ (ci k j : Nat) : Nat := match ci with
  | 0 => k + [1, 2].getD j 0
  | 1 => k + [1, 7, 13, 18, 23, 24].getD j 0
  | 2 => k + [1, 2, 9].getD j 0
  | 4 => if k = 2 then [3, 10].getD j 0 else [12, 17].getD j 0
  | 5 => k + 1
  | 6 => [2, 11, 18, 19, 20, 36, 38].getD j 0
  | 7 => [0, 99, 0, 0, 0, 100, 101, 102, 103, 104, 0, 0, 0, 105, 106, 107, 0, 0, 0, 0, 108, 0, 109, 110, 111, 112, 113, 0, 0, 114, 0].getD j 0
  | _ => 0
def rf_ (h : hh_) (ci k j : Nat) : Nat := if k = 1 ∧ j = 7 then h.2.2.1 else if k = 1 ∧ j = 8 then h.2.2.2.1 else if k = 19 ∧ j = 0 then h.2.2.2.2 else rc_ ci k j
/-- elements of an array of references -/
def re_ (t k j : Nat) : Nat := if t = 2 then k + 1 + j else 89 + 3 * j
/-- static arrays: names, contents -/
def sn_L : List (String × List Int32) := [("FIGURES", [5, 2, 5]), ("LOWEST", [0, 0, 0, 0, 0, 0, 0, 0, 0, 0, 0, 0, 0, 0, 1]), ("HIGHEST", [5, 5, 5, 5, 3, 2, 3, 0, 0, 0, 6, 6, 6, 6, 9]), ("LETTERS", [116, 118, 108, 119, 99, 100]), ("MOST_ITEMS", [5, 4, 4]), ("ABOVE", [0, 0, 0, 0, 3, 1]), ("MORE", [0, -1, 1, 0, 1, -1]), ("MORE_AT_WISH", [0, 0, 0, 1, 1, 0]), ("TOP_MIDDLE", [9, 9, 9, 9, 9, 3])]
def sn_ (k : Nat) : String × List Int32 := sn_L.getD k ("", [])
/-- a run's fixed numbers: class numbers, slots, array classes, the address ahead of the first cell, the static arrays' addresses -/
abbrev gt_ : Type := (Nat → ClassId) × (Nat → Nat → Nat) × ClassId × ClassId × ClassId × Nat × (Nat → Nat)
abbrev gt_C (G : gt_) : Nat → ClassId := G.1
abbrev gt_I (G : gt_) : Nat → Nat → Nat := G.2.1
abbrev gt_1 (G : gt_) : ClassId := G.2.2.1
abbrev gt_2 (G : gt_) : ClassId := G.2.2.2.1
abbrev gt_3 (G : gt_) : ClassId := G.2.2.2.2.1
abbrev gt_B (G : gt_) : Nat := G.2.2.2.2.2.1
abbrev gt_S (G : gt_) : Nat → Nat := G.2.2.2.2.2.2
abbrev gt_A (G : gt_) : Nat → Prop := fun q => gt_B G < q
def rv_ (G : gt_) (r : Nat) : Value := if r = 0 then .null else .ref (gt_B G + r)
def cv_ (G : gt_) (v : Value) : Value := match v with
  | .ref k => if k = 0 then .null else if k < 500 then .ref (gt_B G + k) else .ref (gt_S G (k - 500))
  | v => v
theorem cv_rv (G : gt_) {r : Nat} (h : r < 500) : cv_ G (.ref r) = rv_ G r := by
  unfold cv_ rv_
  by_cases e : r = 0
  · simp [e]
  · simp [e, h]
theorem cv_ref (G : gt_) {r : Nat} (h0 : 0 < r) (h : r < 500) : cv_ G (.ref r) = .ref (gt_B G + r) := by
  unfold cv_
  simp [Nat.ne_of_gt h0, h]
theorem cv_sta (G : gt_) (k : Nat) : cv_ G (.ref (500 + k)) = .ref (gt_S G k) := by
  unfold cv_
  have h : ¬ 500 + k < 500 := by omega
  simp [h]
theorem cv_cat (G : gt_) (v : Value) : (cv_ G v).category = v.category := by
  cases v with
  | ref k => unfold cv_; by_cases e : k = 0 <;> by_cases e2 : k < 500 <;> simp [e, e2, Value.category]
  | _ => rfl
theorem sh_rng {k t n : Nat} (h : sh_ k = (t, n)) (ht : t ≠ 9) : 0 < k ∧ k ≤ 114 := by
  unfold sh_ at h
  have hl : sh_L.length = 115 := by decide
  by_cases hk : k < 115
  · refine ⟨?_, by omega⟩
    rcases Nat.eq_zero_or_pos k with e | e
    · subst e
      exact absurd (congrArg Prod.fst h).symm ht
    · exact e
  · rw [List.getD_eq_getElem?_getD, List.getElem?_eq_none (by omega)] at h
    exact absurd (congrArg Prod.fst h).symm ht
/-- a cell, as the abstract heap has it (ρ: its references) -/
def fv_ (G : gt_) (h : hh_) (ρ : Nat → Nat → Nat) (ci k j : Nat) : Value := if fk_ ci j = 0 then .int (h.1 k j) else if fk_ ci j = 1 then .long (h.2.1 k j) else rv_ G (ρ k j)
def ce_ (G : gt_) (h : hh_) (ρ : Nat → Nat → Nat) (H : Heap) (k : Nat) : Prop :=
  (∀ ci, sh_ k = (0, ci) → t_OB (gt_B G + k) (gt_C G ci) (nf_ ci) (gt_I G ci) H (fv_ G h ρ ci k)) ∧
  (∀ n, sh_ k = (1, n) → H[gt_B G + k]? = some (arrV (gt_1 G) n (fun j => .int (h.1 k j)))) ∧
  (∀ n, sh_ k = (2, n) → H[gt_B G + k]? = some (arrV (gt_2 G) n (fun j => rv_ G (ρ k j)))) ∧
  (∀ n, sh_ k = (3, n) → H[gt_B G + k]? = some (arrV (gt_3 G) n (fun j => rv_ G (ρ k j))))
def hg_ (G : gt_) (U : State) (nx : Nat) (ρ : Nat → Nat → Nat) (h : hh_) (H : Heap) : Prop :=
  H.size = gt_B G + 1 + nx ∧ (∀ k, k ≤ nx → ce_ G h ρ H k) ∧ ∀ k, k < 9 → va_T .int (gt_S G k) (sn_ k).2.length (fun j => .int ((sn_ k).2.getD j 0)) (gt_A G) U H ∧ va_Z "ThumbReader" (sn_ k).1 "[I" (.ref (gt_S G k)) (gt_A G) U H
def rr_ (h : hh_) (k j : Nat) : Nat := match sh_ k with
  | (0, ci) => rf_ h ci k j
  | (t, _) => re_ t k j
def hw_ (G : gt_) (U : State) (h : hh_) (H : Heap) : Prop := hg_ G U 114 (rr_ h) h H ∧ h.2.2.1 < 500 ∧ h.2.2.2.1 < 500 ∧ h.2.2.2.2 < 500
def isNest_ (w : Cond) : Bool := match w with
  | .fieldLinkNest _ _ _ _ _ _ => true
  | .methodLinkNest _ _ _ _ => true
  | _ => false
def nw_ : List Cond := lw_tbl.filter isNest_
def gw_ : List Cond := lw_tbl.filter goodWord
def kn_ (G : gt_) (U : State) : Prop := (∀ (c : Nat) (q : vw_C), vwCl[c]? = some q → u_Kn U q.1 q.2.1 q.2.2 (gt_C G c) (gt_I G c)) ∧ ArrOfT U (gt_1 G) .int ∧ ArrOfT U (gt_2 G) (.array .int) ∧ ArrOfT U (gt_3 G) (.object "ThumbReader$Kept") ∧ ∀ w ∈ nw_, va_Nw w U
theorem kn_.warm {G : gt_} {s U : State} (hW : s.WarmedH U.vm) (h : kn_ G s) : kn_ G U := by
  refine ⟨fun c q hq => u_Kn_moved hW.alike (h.1 c q hq), arrOfT_moved hW.alike h.2.1, arrOfT_moved hW.alike h.2.2.1, arrOfT_moved hW.alike h.2.2.2.1, fun w hw => ?_⟩
  have h1 := h.2.2.2.2 w hw
  have h2 := (List.mem_filter.mp hw).2
  unfold isNest_ at h2
  split at h2
  · exact va_Nw.warmF hW h1
  · exact va_Nw.warmM hW h1
  · cases h2
theorem kn_.same {G : gt_} {s U : State} (hv : s.vm = U.vm) (h : kn_ G s) : kn_ G U := by
  have hW : s.WarmedH U.vm := by rw [← hv]; exact State.WarmedH.refl s
  exact h.warm hW
theorem hg_.moved {G : gt_} {s U : State} {nx : Nat} {ρ : Nat → Nat → Nat} {h : hh_} {H : Heap} (hvm : s.vm.Alike U.vm) (w : hg_ G s nx ρ h H) : hg_ G U nx ρ h H :=
  ⟨w.1, w.2.1, fun k hk => ⟨(w.2.2 k hk).1.moved hvm, (w.2.2 k hk).2.moved hvm⟩⟩
theorem hw_.moved {G : gt_} {s U : State} {h : hh_} {H : Heap} (hvm : s.vm.Alike U.vm) (w : hw_ G s h H) : hw_ G U h H := ⟨w.1.moved hvm, w.2⟩
/-- locals: by slots; none: nothing is said of it -/
def lr_ (G : gt_) (ls : Array Slot) (nL : Nat) (lv : List (Option Value)) : Prop := ls.size = nL ∧ lv_wf ls ∧ ∀ (i : Nat) (v : Value), lv[i]? = some (some v) → ls[i]? = some (.val (cv_ G v))
def lc_ (lv : List (Option Value)) (i : Nat) : List (Option Value) := match i with
  | 0 => lv
  | j + 1 => match lv[j]? with
    | some (some v) => if v.category = 2 then lv.set j none else lv
    | _ => lv
def l1_ (lv : List (Option Value)) (i : Nat) (v : Value) : List (Option Value) := (lc_ lv i).set i (some v)
def l2_ (lv : List (Option Value)) (i : Nat) (v : Value) : List (Option Value) := ((lc_ lv i).set i (some v)).set (i + 1) none
def la_ (G : gt_) (lv : List (Option Value)) : List (Nat × Value) := (List.range lv.length).filterMap (fun i => match lv[i]? with | some (some v) => some (i, cv_ G v) | _ => none)
theorem la_mem {G : gt_} {lv : List (Option Value)} {i : Nat} {w : Value} : (i, w) ∈ la_ G lv ↔ ∃ v, lv[i]? = some (some v) ∧ w = cv_ G v := by
  unfold la_
  rw [List.mem_filterMap]
  constructor
  · rintro ⟨j, -, hj⟩
    split at hj
    · rename_i v hv
      cases hj
      exact ⟨v, hv, rfl⟩
    · cases hj
  · rintro ⟨v, hv, rfl⟩
    refine ⟨i, List.mem_range.mpr (List.getElem?_eq_some_iff.mp hv).1, ?_⟩
    rw [hv]
theorem lr_has {G : gt_} {ls : Array Slot} {nL : Nat} {lv : List (Option Value)} (h : lr_ G ls nL lv) : lv_has ls nL (la_ G lv) := ⟨h.1, h.2.1, fun q hq => by
  obtain ⟨v, hv, e⟩ := (la_mem (i := q.1) (w := q.2)).mp hq
  rw [e]
  exact h.2.2 _ _ hv⟩
theorem lc_get {lv : List (Option Value)} {i j : Nat} {v : Value} (h : (lc_ lv i)[j]? = some (some v)) : lv[j]? = some (some v) ∧ (j + 1 = i → ¬ v.category = 2) := by
  unfold lc_ at h
  split at h
  · exact ⟨h, fun e => by omega⟩
  · rename_i j0
    split at h
    · rename_i w hx
      by_cases hc : w.category = 2
      · rw [if_pos hc] at h
        by_cases e : j = j0
        · subst e
          rw [List.getElem?_set_self (List.getElem?_eq_some_iff.mp hx).1] at h
          cases h
        · rw [List.getElem?_set_ne (Ne.symm e)] at h
          exact ⟨h, fun e2 => by omega⟩
      · rw [if_neg hc] at h
        refine ⟨h, fun e => ?_⟩
        have e1 : j = j0 := by omega
        subst e1
        rw [hx] at h
        cases h
        exact hc
    · rename_i hn
      refine ⟨h, fun e => ?_⟩
      have e1 : j = j0 := by omega
      subst e1
      exact absurd h (hn v)
theorem lr_store1 {G : gt_} {ls : Array Slot} {nL : Nat} {lv : List (Option Value)} {i : Nat} {v : Value} (hl : ∀ q ∈ (i, cv_ G v) :: (la_ G lv).filter (fun q => !(q.1 == i) && !(q.1 + 1 == i && q.2.category == 2)), ls[q.1]? = some (.val q.2)) (hs : ls.size = nL) (hw : lv_wf ls) : lr_ G ls nL (l1_ lv i v) := by
  refine ⟨hs, hw, fun j w hj => ?_⟩
  unfold l1_ at hj
  by_cases e : j = i
  · subst e
    have h1 := hj
    by_cases hlt : j < (lc_ lv j).length
    · rw [List.getElem?_set_self hlt] at h1
      cases h1
      exact hl _ List.mem_cons_self
    · rw [List.getElem?_eq_none (by rw [List.length_set]; omega)] at h1
      cases h1
  · rw [List.getElem?_set_ne (Ne.symm e)] at hj
    obtain ⟨h1, h2⟩ := lc_get hj
    refine hl (j, cv_ G w) (List.mem_cons_of_mem _ (List.mem_filter.mpr ⟨la_mem.mpr ⟨w, h1, rfl⟩, ?_⟩))
    simp only [cv_cat]
    by_cases e2 : j + 1 = i
    · simp [e, h2 e2]
    · simp [e, e2]
theorem lr_store2 {G : gt_} {ls : Array Slot} {nL : Nat} {lv : List (Option Value)} {i : Nat} {v : Value} (hl : ∀ q ∈ (i, cv_ G v) :: (la_ G lv).filter (fun q => !(q.1 == i) && (!(q.1 == i + 1) && !(q.1 + 1 == i && q.2.category == 2))), ls[q.1]? = some (.val q.2)) (hs : ls.size = nL) (hw : lv_wf ls) : lr_ G ls nL (l2_ lv i v) := by
  refine ⟨hs, hw, fun j w hj => ?_⟩
  unfold l2_ at hj
  by_cases e3 : j = i + 1
  · subst e3
    by_cases hlt : i + 1 < ((lc_ lv i).set i (some v)).length
    · rw [List.getElem?_set_self hlt] at hj
      cases hj
    · rw [List.getElem?_eq_none (by rw [List.length_set]; omega)] at hj
      cases hj
  · rw [List.getElem?_set_ne (Ne.symm e3)] at hj
    by_cases e : j = i
    · subst e
      by_cases hlt : j < (lc_ lv j).length
      · rw [List.getElem?_set_self hlt] at hj
        cases hj
        exact hl _ List.mem_cons_self
      · rw [List.getElem?_eq_none (by rw [List.length_set]; omega)] at hj
        cases hj
    · rw [List.getElem?_set_ne (Ne.symm e)] at hj
      obtain ⟨h1, h2⟩ := lc_get hj
      refine hl (j, cv_ G w) (List.mem_cons_of_mem _ (List.mem_filter.mpr ⟨la_mem.mpr ⟨w, h1, rfl⟩, ?_⟩))
      simp only [cv_cat]
      by_cases e2 : j + 1 = i
      · simp [e, e3, h2 e2]
      · simp [e, e2, e3]
