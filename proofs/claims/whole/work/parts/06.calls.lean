/-! ===== contracts, returns, calls ===== -/
def pg_ (G : gt_) (h : hh_) (U : State) : Prop := kn_ G U ∧ hw_ G U h U.heap
def pq_ (G : gt_) (r : Option Value) (h' : hh_) : Array Value → State → Outcome → State → Prop := fun _ st o t => o = .returned (r.map (cv_ G)) ∧ pg_ G h' t ∧ va_F (gt_A G) st t
def rm_ (d : Nat) : Room := { frames := d, cells := 0, slots := 0, locals := 100 * d }
def wy_ (M : mt_) : List Cond := .code M.1 M.2.1 M.2.2.1 M.2.2.2 :: gw_
/-- THE CONTRACT of a method at depth d: with these arguments and this heap it returns r, and the heap is h' -/
def ok_ (l : Launch) (G : gt_) (d : Nat) (M : mt_) (as : List Value) (h : hh_) (r : Option Value) (h' : hh_) : Prop := Met l M.1 (wy_ M) (rm_ d) (fun v U => v = (as.map (cv_ G)).toArray ∧ pg_ G h U) (pq_ G r h') 0 0 (gt_A G)
def rq_ (Z : zz_) (r : Option Value) (h' : hh_) : Prop := z_Q Z = MQ (z_b Z) (pq_ (z_G Z) r h') (z_a Z) (z_s Z) (z_k Z) (z_n Z) (gt_A (z_G Z))
def el_ : List Value → List (Option Value)
  | [] => []
  | v :: vs => if v.category = 2 then some v :: none :: el_ vs else some v :: el_ vs
def ep_ (n : Nat) (as : List Value) : List (Option Value) := el_ as ++ List.replicate (n - (el_ as).length) none
theorem el_args (G : gt_) : ∀ (as : List Value) (pre : Nat) (i : Nat) (v : Value), (el_ as)[i]? = some (some v) → (pre + i, cv_ G v) ∈ lv_args pre (as.map (cv_ G))
  | [], pre, i, v, h => by simp [el_] at h
  | a :: as, pre, i, v, h => by
    unfold el_ at h
    rw [List.map_cons]
    unfold lv_args
    rw [cv_cat]
    by_cases hc : a.category = 2
    · rw [if_pos hc] at h
      rw [if_pos hc]
      match i, h with
      | 0, h => cases h; exact List.mem_cons_self
      | 1, h => cases h
      | i + 2, h =>
        have := el_args G as (pre + 2) i v h
        rw [show pre + (i + 2) = pre + 2 + i by omega]
        exact List.mem_cons_of_mem _ this
    · rw [if_neg hc] at h
      rw [if_neg hc]
      match i, h with
      | 0, h => cases h; exact List.mem_cons_self
      | i + 1, h =>
        have := el_args G as (pre + 1) i v h
        rw [show pre + (i + 1) = pre + 1 + i by omega]
        exact List.mem_cons_of_mem _ this
theorem el_len (G : gt_) : ∀ as : List Value, (lg_sl (as.map (cv_ G))).length = (el_ as).length
  | [] => rfl
  | a :: as => by
    have ih := el_len G as
    unfold lg_sl at ih ⊢
    rw [List.map_cons, List.flatMap_cons, List.length_append, ih, cv_cat]
    rw [el_]
    by_cases hc : a.category = 2
    · rw [if_pos hc, if_pos hc]; simp only [List.length_cons, List.length_nil]; omega
    · rw [if_neg hc, if_neg hc]; simp only [List.length_cons, List.length_nil]; omega
theorem ok_of {l : Launch} {G : gt_} {d : Nat} {M : mt_} {as : List Value} {h h' : hh_} {r : Option Value} (hy : plainName M.1.cls = true) (hlen : (el_ as).length ≤ M.2.2.1)
    (body : ∀ Z : zz_, z_l Z = l → z_G Z = G → cx_ Z M d → rq_ Z r h' → xx_ Z 0 (ep_ M.2.2.1 as) [] h) : ok_ l G d M as h r h' := by
  refine Met.ofW (cc := M.2.1) (maxL := M.2.2.1) (ret := M.2.2.2) hy rfl ?_
  intro p e s m args below meth c s₁ B hml hv
  obtain ⟨rfl, hk, hw⟩ := hv
  have C : cx_ (p, l, e, rm_ d, s, m, (as.map (cv_ G)).toArray, below, meth, c, G, 0, 0, MQ below (pq_ G r h') (as.map (cv_ G)).toArray s 0 0 (gt_A G)) M d :=
    ⟨B.exec, B.bytes, B.returns, hml, findClass_of_methodNamed B.named, fun w hw => atoms_spec (ws := wy_ M) B.pre w (List.mem_cons_of_mem _ hw), hk, B.notSynchronized, Nat.le_refl _, Nat.le_refl _, Nat.le_refl _, Nat.le_refl _⟩
  have hl := lv_entry (as.map (cv_ G)) (n := M.2.2.1) (by rw [el_len]; exact hlen)
  rw [lg_entry_eq]
  refine body (p, l, e, rm_ d, s, m, (as.map (cv_ G)).toArray, below, meth, c, G, 0, 0, MQ below (pq_ G r h') (as.map (cv_ G)).toArray s 0 0 (gt_A G)) rfl rfl C rfl s.heap [] _ hw va_S.rf ?_
  refine ⟨hl.1.trans hml.symm, hl.2.1, fun i v hi => ?_⟩
  unfold ep_ at hi
  have h1 : (el_ as)[i]? = some (some v) := by
    by_cases hlt : i < (el_ as).length
    · rw [List.getElem?_append_left hlt] at hi; exact hi
    · rw [List.getElem?_append_right (by omega)] at hi
      have := List.mem_of_getElem? hi
      rw [List.mem_replicate] at this
      cases this.2
  have h2 := el_args G as 0 i v h1
  rw [Nat.zero_add] at h2
  exact hl.2.2 _ h2
section XR
variable {Z : zz_} {M : mt_} {d : Nat} {pc : Nat} {lv : List (Option Value)} {st : List Value} {h : hh_}
theorem xx_ireturn (C : cx_ Z M d) {v : Int32} (Q : rq_ Z (some (.int v)) h) (D : decode M.2.1 pc = .ok (.ireturn, 1)) (hr : M.2.2.2 = some .int) : xx_ Z pc lv [.int v] h := fun H locs ls hw hs hl => by
  unfold ww_
  rw [Q]
  exact W.iret C.ex C.co (C.re.trans hr) (fun t ht hW => ⟨rfl, ⟨C.kn.warm hW, by rw [ht]; exact hw.moved hW.alike⟩, hs.F ht⟩) hs.2.2 D (hlocks := C.lk)
theorem xx_zreturn (C : cx_ Z M d) {v : Int32} (Q : rq_ Z (some (.int v)) h) (D : decode M.2.1 pc = .ok (.ireturn, 1)) (hr : M.2.2.2 = some .boolean) (hn : v &&& 1 = v) : xx_ Z pc lv [.int v] h := fun H locs ls hw hs hl => by
  unfold ww_
  rw [Q]
  exact W.zret C.ex C.co (C.re.trans hr) (by show Value.int (v &&& 1) = _; rw [hn]) (fun t ht hW => ⟨rfl, ⟨C.kn.warm hW, by rw [ht]; exact hw.moved hW.alike⟩, hs.F ht⟩) hs.2.2 D (hlocks := C.lk)
theorem xx_lreturn (C : cx_ Z M d) {v : Int64} (Q : rq_ Z (some (.long v)) h) (D : decode M.2.1 pc = .ok (.lreturn, 1)) (hr : M.2.2.2 = some .long) : xx_ Z pc lv [.long v] h := fun H locs ls hw hs hl => by
  unfold ww_
  rw [Q]
  exact W.lret C.ex C.co (C.re.trans hr) (fun t ht hW => ⟨rfl, ⟨C.kn.warm hW, by rw [ht]; exact hw.moved hW.alike⟩, hs.F ht⟩) hs.2.2 D (hlocks := C.lk)
theorem xx_return (C : cx_ Z M d) (Q : rq_ Z none h) (D : decode M.2.1 pc = .ok (.return_, 1)) (hr : M.2.2.2 = none) : xx_ Z pc lv [] h := fun H locs ls hw hs hl => by
  unfold ww_
  rw [Q]
  exact W.vret C.ex C.co (C.re.trans hr) (fun t ht hW => ⟨rfl, ⟨C.kn.warm hW, by rw [ht]; exact hw.moved hW.alike⟩, hs.F ht⟩) hs.2.2 D (hlocks := C.lk)
theorem ww_ran {H : Heap} {locs : List Loc} {ls : Array Slot} {st0 rest : List Value} {r : Option Value} {h1 : hh_} {a : Array Value} (hr : va_Run (z_p Z) (z_l Z) (z_e Z) (z_R Z) (z_s Z) (z_m Z) (z_a Z) (z_b Z) (z_t Z) (z_c Z) H locs (z_k Z) (z_n Z) 0 0 (F0 (z_m Z) pc ls st0) (rest.map (cv_ (z_G Z))) (pq_ (z_G Z) r h1 a) (gt_A (z_G Z))) (hs : va_S (gt_A (z_G Z)) (z_s Z).heap H locs) (hl : lr_ (z_G Z) ls (z_c Z).maxLocals lv)
    (K : xx_ Z (pc + 3) lv (r.toList ++ rest) h1) : ww_ Z H locs (F0 (z_m Z) pc ls st0) := by
  intro T hT X
  obtain ⟨v, st₀, t, T', L, h0, X', hL, e1, e2, ⟨hv, ⟨hk, hh⟩, hz, hkp⟩, stp⟩ := hr T hT X
  cases hv
  rw [h0] at hz hkp
  have hal : (z_s Z).vm.Alike t.vm := by rw [← e2]; exact X'.warmed.alike
  obtain ⟨t2, a1, b1⟩ := K T'.heap (locs ++ L) ls (by rw [e1]; exact hh.moved hal.symm)
    ⟨Nat.le_trans hs.1 (by rw [e1]; exact hz), fun q h1 h2 => by rw [e1, hkp q (Nat.lt_of_lt_of_le h1 hs.1) h2]; exact hs.2.1 q h1 h2, fun q hq => by
      rcases List.mem_append.mp hq with h | h
      · exact hs.2.2 q h
      · exact hL q h⟩ hl T' rfl X'
  refine ⟨t2, stp t2 ?_, b1⟩
  have e : (r.map (cv_ (z_G Z))).toList ++ rest.map (cv_ (z_G Z)) = (r.toList ++ rest).map (cv_ (z_G Z)) := by cases r <;> simp
  rw [e]
  exact a1
/-- a method's own words -/
def mk_ (M' : mt_) (n : Nat) : Prop := Cond.code M'.1 M'.2.1 M'.2.2.1 M'.2.2.2 ∈ lw_tbl ∧ Cond.initialized M'.1.cls ∈ lw_tbl ∧ (M'.1.cls ≠ "java/lang/invoke/MethodHandle" ∧ M'.1.cls ≠ "java/lang/invoke/VarHandle" ∧ (parseMethodDescriptor M'.1.desc).map (fun d => d.parameters.length) = some n) ∧ M'.2.2.1 ≤ 60
def mi_ (M' : mt_) : Prop := Cond.instanceMethod M'.1 ∈ lw_tbl ∧ Cond.selects M'.1.cls M'.1 M'.1 ∈ lw_tbl
theorem wy_good {M' : mt_} {n : Nat} (k : mk_ M' n) : GoodIn gw_ (wy_ M') := by
  intro w hw
  rcases List.mem_cons.mp hw with e | e
  · subst e
    exact ⟨gw_in k.1 rfl, good_of_word rfl⟩
  · exact ⟨e, good_of_word (List.mem_filter.mp e).2⟩
theorem cb_ (C : cx_ Z M d) {M' : mt_} {d' n idx : Nat} (k : mk_ M' n) (lk : Cond.methodLink M.1.cls idx M'.1 ∈ lw_tbl) (hd : d' + 1 ≤ d) : CallB (z_R Z) (z_s Z) (z_a Z) M.1.cls idx M'.1 M'.2.1 M'.2.2.1 M'.2.2.2 (wy_ M') (rm_ d') 0 0 n := by
  have hr := C.fr
  have hl := k.2.2.2
  exact callB_of n C.ts (wy_good k) rfl rfl rfl (C.ts _ (gw_in k.2.1 rfl)) (C.ts _ (gw_in lk rfl)) k.2.2.1 ⟨by show d' + 1 ≤ _; omega, by show 8 + (M'.2.2.1 + 11) + 100 * d' ≤ _; omega⟩
theorem cv_room {G : gt_} {rest : List Value} (h : (rest.map fun v => v.category).sum ≤ 8) : ((rest.map (cv_ G)).map fun v => v.category).sum ≤ 8 := by
  rw [List.map_map]
  have e : ((fun v => v.category) ∘ cv_ G : Value → Nat) = fun v => v.category := funext fun v => cv_cat G v
  rw [e]; exact h
theorem pg_blind {G : gt_} {as : List Value} {h : hh_} : FrameBlind (fun v U => v = (as.map (cv_ G)).toArray ∧ pg_ G h U) := fun a U g mk q => ⟨q.1, kn_.same (s := U) (U := U.calling g mk a) (show U.vm = (U.calling g mk a).vm from rfl) q.2.1, q.2.2.moved (U := U.calling g mk a) (Vm.Alike.refl U.vm)⟩
theorem xx_callV (C : cx_ Z M d) {M' : mt_} {d' n idx ci o : Nat} {q : vw_C} {ty : Nat → FieldType} {as rest : List Value} {r : Option Value} {h1 : hh_} (hM : ok_ (z_l Z) (z_G Z) d' M' (.ref o :: as) h r h1) (D : decode M.2.1 pc = .ok (.invokevirtual idx, 3)) (ck : ck_ ci q ty) (hq : M'.1.cls = q.1) (so : sh_ o = (0, ci)) (k : mk_ M' n) (ki : mi_ M') (lk : Cond.methodLink M.1.cls idx M'.1 ∈ lw_tbl) (hd : d' + 1 ≤ d) (hn : as.length = n) (est : as.reverse ++ .ref o :: rest = st) (hrest : (rest.map fun v => v.category).sum ≤ 8) (K : xx_ Z (pc + 3) lv (r.toList ++ rest) h1) : xx_ Z pc lv st h := fun H locs ls hw hs hl => by
  have hr := sh_rng so (by decide)
  subst est
  refine ww_ran (va_runV (As := as.map (cv_ (z_G Z))) (b := gt_B (z_G Z) + o) (C := M'.1.cls) (Ts := gw_) (own := M.1.cls) (n := n) (nL := M.2.2.1) (index := idx) (cc := M.2.1) (bytes := M'.2.1) (maxL := M'.2.2.1) (ret := M'.2.2.2) ⟨C.ex, C.co, C.ml, C.ow, C.ts⟩ hM ⟨cb_ C k lk hd, C.ts _ (gw_in ki.1 rfl), C.ts _ (gw_in ki.2 rfl)⟩ ⟨pg_blind, ?_, fun U hU hW => ⟨?_, C.kn.warm hW, by rw [hU]; exact hw.moved hW.alike⟩⟩ rfl (by rw [List.length_map]; exact hn) (hl.1.trans C.ml) ?_ (lv_room (cv_room hrest)) D ⟨C.ce.1, C.ce.2⟩) hs hl K
  · obtain ⟨cell, q1, q2, q3, q4⟩ := hw.ob so
    exact ⟨cell, q1, by rw [q3]; rfl, by rw [hq, q2]; exact (C.kn.1 ci q ck.1).2.1⟩
  · rw [List.map_cons, cv_ref _ hr.1 (by omega)]
  · show (as.reverse ++ .ref o :: rest).map (cv_ (z_G Z)) = _
    rw [List.map_append, List.map_reverse, List.map_cons, cv_ref _ hr.1 (by omega)]
theorem xx_callS (C : cx_ Z M d) {M' : mt_} {d' n idx : Nat} {as rest : List Value} {r : Option Value} {h1 : hh_} (hM : ok_ (z_l Z) (z_G Z) d' M' as h r h1) (D : decode M.2.1 pc = .ok (.invokestatic idx, 3)) (k : mk_ M' n) (ks : Cond.static M'.1 ∈ lw_tbl) (lk : Cond.methodLink M.1.cls idx M'.1 ∈ lw_tbl) (hd : d' + 1 ≤ d) (hn : as.length = n) (est : as.reverse ++ rest = st) (hrest : (rest.map fun v => v.category).sum ≤ 8) (K : xx_ Z (pc + 3) lv (r.toList ++ rest) h1) : xx_ Z pc lv st h := fun H locs ls hw hs hl => by
  subst est
  refine ww_ran (va_runS (As := as.map (cv_ (z_G Z))) (Ts := gw_) (own := M.1.cls) (n := n) (nL := M.2.2.1) (index := idx) (cc := M.2.1) (bytes := M'.2.1) (maxL := M'.2.2.1) (ret := M'.2.2.2) ⟨C.ex, C.co, C.ml, C.ow, C.ts⟩ hM ⟨cb_ C k lk hd, C.ts _ (gw_in ks rfl)⟩ ⟨pg_blind, fun U hU hW => ⟨rfl, C.kn.warm hW, by rw [hU]; exact hw.moved hW.alike⟩⟩ rfl (by rw [List.length_map]; exact hn) (hl.1.trans C.ml) ?_ (lv_room (cv_room hrest)) D ⟨C.ce.1, C.ce.2⟩) hs hl K
  show (as.reverse ++ rest).map (cv_ (z_G Z)) = _
  rw [List.map_append, List.map_reverse]
theorem cat_le : ∀ (l : List Value), (l.map fun v => v.category).sum ≤ 2 * l.length
  | [] => by simp
  | v :: l => by
    have := cat_le l
    have h2 : v.category ≤ 2 := by rcases lv_cat v with e | e <;> omega
    simp only [List.map_cons, List.sum_cons, List.length_cons]; omega
theorem m1_max : Cond.static Lib.Math.max.name ∈ lw_tbl ∧ Cond.code Lib.Math.max.name Lib.Math.max.code 2 (some .int) ∈ lw_tbl := by decide +kernel
theorem m1_min : Cond.static Lib.Math.min.name ∈ lw_tbl ∧ Cond.code Lib.Math.min.name Lib.Math.min.code 2 (some .int) ∈ lw_tbl := by decide +kernel
theorem m1_abs : Cond.static Lib.Math.abs.name ∈ lw_tbl ∧ Cond.code Lib.Math.abs.name Lib.Math.abs.code 1 (some .int) ∈ lw_tbl := by decide +kernel
theorem m1_ini : Cond.initialized "java/lang/Math" ∈ lw_tbl ∧ Cond.initialized "java/lang/System" ∈ lw_tbl ∧ Cond.native arraycopyName ∈ lw_tbl ∧ Cond.static arraycopyName ∈ lw_tbl := by decide +kernel
theorem xx_max (C : cx_ Z M d) {x y : Int32} {idx : Nat} (D : decode M.2.1 pc = .ok (.invokestatic idx, 3)) (lk : Cond.methodLink M.1.cls idx Lib.Math.max.name ∈ lw_tbl) (hd : 1 ≤ d) (hst : st.length ≤ 20) (K : xx_ Z (pc + 3) lv (.int (if x < y then y else x) :: st) h) : xx_ Z pc lv (.int y :: .int x :: st) h := fun H locs ls hw hs hl => by
  have hc := cat_le (st.map (cv_ (z_G Z)))
  rw [List.length_map] at hc
  have hf := C.fr
  exact va_mmax C.ex C.co hl.1.symm C.ow (C.ts _ (gw_in lk rfl)) (C.ts _ (gw_in m1_max.1 rfl)) (C.ts _ (gw_in m1_ini.1 rfl)) (C.ts _ (gw_in m1_max.2 rfl)) (by omega) (by omega) C.ce.1 C.ce.2 D (K H locs ls hw hs hl)
theorem xx_min (C : cx_ Z M d) {x y : Int32} {idx : Nat} (D : decode M.2.1 pc = .ok (.invokestatic idx, 3)) (lk : Cond.methodLink M.1.cls idx Lib.Math.min.name ∈ lw_tbl) (hd : 1 ≤ d) (hst : st.length ≤ 20) (K : xx_ Z (pc + 3) lv (.int (if y < x then y else x) :: st) h) : xx_ Z pc lv (.int y :: .int x :: st) h := fun H locs ls hw hs hl => by
  have hc := cat_le (st.map (cv_ (z_G Z)))
  rw [List.length_map] at hc
  have hf := C.fr
  exact va_mmin C.ex C.co hl.1.symm C.ow (C.ts _ (gw_in lk rfl)) (C.ts _ (gw_in m1_min.1 rfl)) (C.ts _ (gw_in m1_ini.1 rfl)) (C.ts _ (gw_in m1_min.2 rfl)) (by omega) (by omega) C.ce.1 C.ce.2 D (K H locs ls hw hs hl)
theorem xx_abs (C : cx_ Z M d) {x : Int32} {idx : Nat} (D : decode M.2.1 pc = .ok (.invokestatic idx, 3)) (lk : Cond.methodLink M.1.cls idx Lib.Math.abs.name ∈ lw_tbl) (hd : 1 ≤ d) (hst : st.length ≤ 20) (K : xx_ Z (pc + 3) lv (.int (if 0 ≤ x then x else 0 - x) :: st) h) : xx_ Z pc lv (.int x :: st) h := fun H locs ls hw hs hl => by
  have hc := cat_le (st.map (cv_ (z_G Z)))
  rw [List.length_map] at hc
  have hf := C.fr
  exact va_mabs C.ex C.co hl.1.symm C.ow (C.ts _ (gw_in lk rfl)) (C.ts _ (gw_in m1_abs.1 rfl)) (C.ts _ (gw_in m1_ini.1 rfl)) (C.ts _ (gw_in m1_abs.2 rfl)) (by omega) (by omega) C.ce.1 C.ce.2 D (K H locs ls hw hs hl)
theorem nn_ {z : Int32} (hz : ¬ z < 0) : z.toInt = (z.toNatClampNeg : Int) := by
  have hz0 : (0 : Int) ≤ z.toInt := by
    have := Int32.not_lt.mp hz
    simpa using Int32.le_iff_toInt_le.mp this
  show z.toInt = ((z.toInt.toNat : Nat) : Int)
  omega
theorem xx_acopy (C : cx_ Z M d) {a b n0 n1 idx : Nat} {sp dp n : Int32} (D : decode M.2.1 pc = .ok (.invokestatic idx, 3)) (lk : Cond.methodLink M.1.cls idx arraycopyName ∈ lw_tbl) (sa : sh_ a = (1, n0)) (sb : sh_ b = (1, n1)) (h1 : ¬ sp < 0) (h2 : ¬ dp < 0) (h3 : ¬ n < 0) (h4 : sp.toNatClampNeg + n.toNatClampNeg ≤ n0) (h5 : dp.toNatClampNeg + n.toNatClampNeg ≤ n1) (hd : 1 ≤ d) (hst : st.length ≤ 20) (K : xx_ Z (pc + 3) lv st (hh_cp h a b sp.toNatClampNeg dp.toNatClampNeg n.toNatClampNeg)) : xx_ Z pc lv (.int n :: .int dp :: .ref b :: .int sp :: .ref a :: st) h := fun H locs ls hw hs hl => by
  have hra := sh_rng sa (by decide)
  have hrb := sh_rng sb (by decide)
  have hc := cat_le (st.map (cv_ (z_G Z)))
  rw [List.length_map] at hc
  have hf := C.fr
  have hnw : nativeFrameWords "java/lang/System" "arraycopy" 5 ≤ 30 := by decide +kernel
  simp only [List.map_cons]
  rw [cv_ref _ hra.1 (by omega), cv_ref _ hrb.1 (by omega)]
  have hc0 := hw.ia sa
  have hc1 := hw.ia sb
  intro T hT X
  obtain ⟨-, k0, hk0, cm0, hkk0⟩ := C.kn.2.1 n0 (fun j => .int (h.1 a j))
  obtain ⟨-, k1, hk1, cm1, hkk1⟩ := C.kn.2.1 n1 (fun j => .int (h.1 b j))
  obtain ⟨vm', X', step⟩ := X.arraycopy C.ex C.ow (C.ts _ (gw_in lk rfl)) (C.ts _ (gw_in m1_ini.2.2.1 rfl)) (C.ts _ (gw_in m1_ini.2.2.2 rfl)) (C.ts _ (gw_in m1_ini.2.1 rfl)) (src := gt_B (z_G Z) + a) (dst := gt_B (z_G Z) + b) (cs := arrV (gt_1 (z_G Z)) n0 (fun j => .int (h.1 a j))) (cd := arrV (gt_1 (z_G Z)) n1 (fun j => .int (h.1 b j))) (srcPos := sp) (destPos := dp) (n := n) (by rw [hT]; exact hc0) (by rw [hT]; exact hc1)
    (fun _ h => by cases h) (fun _ h => by cases h) (fun h => by cases h) (fun h => by cases h) hk0 hk1 hkk0 hkk1 (by simp [refKind]) h1 h2 h3
    (by rw [nn_ h1, nn_ h3]; rw [arrV_size]; omega)
    (by rw [nn_ h2, nn_ h3]; rw [arrV_size]; omega)
    (fun vm₁ _ i hi => by
      have e : (arrV (gt_1 (z_G Z)) n0 (fun j => .int (h.1 a j))).slots.getD (sp.toNatClampNeg + i) .null = .int (h.1 a (sp.toNatClampNeg + i)) := by
        rw [Array.getD_eq_getD_getElem?, arrV_read _ _ (by omega)]
        rfl
      refine ⟨?_, ?_⟩
      · rw [e]; rfl
      · rw [e]; exact trivial)
    (g := F0 (z_m Z) pc ls (.int n :: .int dp :: .ref (gt_B (z_G Z) + b) :: .int sp :: .ref (gt_B (z_G Z) + a) :: st.map (cv_ (z_G Z)))) rfl hl.1 (rest := st.map (cv_ (z_G Z))) rfl (by rw [C.co]; exact D) (by omega) (by show 2 * 0 + _ + _ ≤ _; omega)
  have e1 : copied (arrV (gt_1 (z_G Z)) n0 (fun j => .int (h.1 a j))) (arrV (gt_1 (z_G Z)) n1 (fun j => .int (h.1 b j))) sp dp n = arrV (gt_1 (z_G Z)) n1 (fun j => .int (va_cpy (h.1 a) (h.1 b) sp.toNatClampNeg dp.toNatClampNeg n.toNatClampNeg j)) := va_copied (fun z => .int z) _ _ (h.1 a) (h.1 b) h4
  rw [e1] at X' step
  have hlt : gt_B (z_G Z) + b < H.size := (Array.getElem?_eq_some_iff.mp hc1).1
  generalize hcell : arrV (gt_1 (z_G Z)) n1 (fun j => .int (va_cpy (h.1 a) (h.1 b) sp.toNatClampNeg dp.toNatClampNeg n.toNatClampNeg j)) = cell at X' step
  have hheap : ((T.setVm vm').setCell (gt_B (z_G Z) + b) cell).heap = H.setIfInBounds (gt_B (z_G Z) + b) cell := by rw [← hT]; rfl
  have oq : ∀ q : Nat, q ≠ gt_B (z_G Z) + b → (H.setIfInBounds (gt_B (z_G Z) + b) cell)[q]? = H[q]? := fun q hq => by simp [Array.getElem?_setIfInBounds, Ne.symm hq]
  have hself : (H.setIfInBounds (gt_B (z_G Z) + b) cell)[gt_B (z_G Z) + b]? = some cell := by simp [Array.getElem?_setIfInBounds, hlt]
  have hw' : hw_ (z_G Z) (z_s Z) (hh_cp h a b sp.toNatClampNeg dp.toNatClampNeg n.toNatClampNeg) (H.setIfInBounds (gt_B (z_G Z) + b) cell) := by
    refine hw.upd hrb hw.2 (by simp) oq (ce_ia sb ?_) (fun k j e => ?_) (fun _ _ _ => rfl) (fun _ _ _ => rfl)
    · rw [hself, ← hcell]
      congr 1; congr 1; funext j
      unfold hh_cp
      simp
    · unfold hh_cp
      simp [e]
  obtain ⟨t, a1, b1⟩ := K _ _ ls hw' ⟨by simp; exact hs.1, fun q g1 g2 => by
      rw [oq q (fun e => g2 (by show gt_B (z_G Z) < q; omega))]
      exact hs.2.1 q g1 g2, fun q hq => by
      rcases List.mem_append.mp hq with h | h
      · exact hs.2.2 q h
      · obtain ⟨z, -, hz⟩ := List.mem_map.mp h
        rw [← hz]
        show gt_B (z_G Z) < gt_B (z_G Z) + b
        omega⟩ hl _ hheap X'
  exact ⟨t, step t a1, b1⟩
end XR
