/-! ===== the constructors: cells are made; T: how many there are, the references, the ints and longs ===== -/
abbrev tc_ : Type := Nat × (Nat → Nat → Nat) × hh_
def hc_ (G : gt_) (U : State) (T : tc_) (H : Heap) : Prop := hg_ G U T.1 T.2.1 T.2.2 H ∧ ∀ c j, T.1 < c → T.2.1 c j = 0 ∧ T.2.2.1 c j = 0 ∧ T.2.2.2.1 c j = 0
/-- what making needs of the classes -/
def kc_ (G : gt_) (U : State) : Prop := (Cond.arrayOver (.array .int)).before #[] U = true ∧ va_AO "ThumbReader$Kept" U ∧ U.vm.findClass ("[" ++ FieldType.int.toString) = some (gt_1 G) ∧ U.vm.findClass ("[" ++ (FieldType.array .int).toString) = some (gt_2 G) ∧ va_RA U (gt_3 G) (.object "ThumbReader$Kept")
theorem kc_.moved {G : gt_} {s U : State} (hvm : s.vm.Alike U.vm) (h : kc_ G s) : kc_ G U := ⟨over_moved hvm h.1, h.2.1.moved hvm, by rw [hvm.findClass]; exact h.2.2.1, by rw [hvm.findClass]; exact h.2.2.2.1, h.2.2.2.2.moved hvm⟩
def wc_ (Z : zz_) (k n : Nat) (H : Heap) (locs : List Loc) (g : JFrame) : Prop := W (z_p Z) (z_l Z) (z_e Z) (z_R Z) (z_s Z) (z_m Z) (z_a Z) (z_b Z) (z_t Z) (z_c Z) H locs k n (z_Q Z) g
def xc_ (Z : zz_) (k n pc : Nat) (lv : List (Option Value)) (st : List Value) (T : tc_) : Prop :=
  ∀ (H : Heap) (locs : List Loc) (ls : Array Slot), hc_ (z_G Z) (z_s Z) T H → va_S (gt_A (z_G Z)) (z_s Z).heap H locs → lr_ (z_G Z) ls (z_c Z).maxLocals lv → wc_ Z k n H locs (F0 (z_m Z) pc ls (st.map (cv_ (z_G Z))))
section XC
variable {Z : zz_} {M : mt_} {d : Nat} {pc k n : Nat} {lv : List (Option Value)} {st : List Value} {T : tc_}
theorem xc_iconst (C : cx_ Z M d) {i : Int} {v : Int32} (D : decode M.2.1 pc = .ok (.iconst i, 1)) (hv : Int32.ofInt i = v) (K : xc_ Z k n (pc + 1) lv (.int v :: st) T) : xc_ Z k n pc lv st T := fun H locs ls hw hs hl => lv_iconst C.ex C.co D hv (K H locs ls hw hs hl)
theorem xc_bipush (C : cx_ Z M d) {i : Int} {v : Int32} (D : decode M.2.1 pc = .ok (.bipush i, 2)) (hv : (Int8.ofInt i).toInt32 = v) (K : xc_ Z k n (pc + 2) lv (.int v :: st) T) : xc_ Z k n pc lv st T := fun H locs ls hw hs hl => lv_bipush C.ex C.co D hv (K H locs ls hw hs hl)
theorem xc_sipush (C : cx_ Z M d) {i : Int} {v : Int32} (D : decode M.2.1 pc = .ok (.sipush i, 3)) (hv : (Int16.ofInt i).toInt32 = v) (K : xc_ Z k n (pc + 3) lv (.int v :: st) T) : xc_ Z k n pc lv st T := fun H locs ls hw hs hl => lv_sipush C.ex C.co D hv (K H locs ls hw hs hl)
theorem xc_lconst (C : cx_ Z M d) {i : Fin 2} {v : Int64} (D : decode M.2.1 pc = .ok (.lconst i, 1)) (hv : Int64.ofNat (i : Nat) = v) (K : xc_ Z k n (pc + 1) lv (.long v :: st) T) : xc_ Z k n pc lv st T := fun H locs ls hw hs hl => lv_lconst C.ex C.co D hv (K H locs ls hw hs hl)
theorem xc_iload_n (C : cx_ Z M d) {i : Fin 4} {x : Int32} (D : decode M.2.1 pc = .ok (.iload_n i, 1)) (e : lv[(i : Nat)]? = some (some (.int x))) (K : xc_ Z k n (pc + 1) lv (.int x :: st) T) : xc_ Z k n pc lv st T := fun H locs ls hw hs hl => lv_iload_n C.ex C.co D rfl (hl.2.2 _ _ e) (K H locs ls hw hs hl)
theorem xc_aload_n (C : cx_ Z M d) {i : Fin 4} {x : Nat} (D : decode M.2.1 pc = .ok (.aload_n i, 1)) (e : lv[(i : Nat)]? = some (some (.ref x))) (hx : 0 < x) (K : xc_ Z k n (pc + 1) lv (.ref x :: st) T) : xc_ Z k n pc lv st T := fun H locs ls hw hs hl => by
  have h1 := K H locs ls hw hs hl
  have h2 := hl.2.2 _ _ e
  obtain ⟨a, ea⟩ : ∃ a, cv_ (z_G Z) (.ref x) = .ref a := by
    unfold cv_
    by_cases e2 : x < 500
    · exact ⟨_, by simp [Nat.ne_of_gt hx, e2]; rfl⟩
    · exact ⟨_, by simp [Nat.ne_of_gt hx, e2]; rfl⟩
  rw [ea] at h2
  rw [List.map_cons, ea] at h1
  exact lv_aload_n C.ex C.co D rfl h2 h1
theorem xc_istore_n (C : cx_ Z M d) {i : Fin 4} {x : Int32} {lv' : List (Option Value)} (D : decode M.2.1 pc = .ok (.istore_n i, 1)) (hn : (i : Nat) < M.2.2.1) (e : l1_ lv (i : Nat) (.int x) = lv') (K : xc_ Z k n (pc + 1) lv' st T) : xc_ Z k n pc lv (.int x :: st) T := fun H locs ls hw hs hl =>
  lv_istore_n C.ex C.co D rfl (lr_has hl) (by rw [C.ml]; exact hn) rfl (fun ls' h' => K H locs ls' hw hs (e ▸ lr_store1 (v := .int x) h'.2.2 h'.1 h'.2.1))
theorem xc_astore_n (C : cx_ Z M d) {i : Fin 4} {x : Nat} {lv' : List (Option Value)} (D : decode M.2.1 pc = .ok (.astore_n i, 1)) (hn : (i : Nat) < M.2.2.1) (hx : 0 < x ∧ x < 500) (e : l1_ lv (i : Nat) (.ref x) = lv') (K : xc_ Z k n (pc + 1) lv' st T) : xc_ Z k n pc lv (.ref x :: st) T := fun H locs ls hw hs hl => by
  unfold wc_
  rw [List.map_cons, cv_ref _ hx.1 hx.2]
  exact lv_astore_n C.ex C.co D rfl (lr_has hl) (by rw [C.ml]; exact hn) rfl (fun ls' h' => K H locs ls' hw hs (e ▸ lr_store1 (v := .ref x) (by rw [cv_ref _ hx.1 hx.2]; exact h'.2.2) h'.1 h'.2.1))
theorem xc_iinc (C : cx_ Z M d) {i : Nat} {j : Int} {x v : Int32} {lv' : List (Option Value)} (D : decode M.2.1 pc = .ok (.iinc i j, 3)) (hn : i < M.2.2.1) (e0 : lv[i]? = some (some (.int x))) (hv : x + Int32.ofInt j = v) (e : l1_ lv i (.int v) = lv') (K : xc_ Z k n (pc + 3) lv' st T) : xc_ Z k n pc lv st T := fun H locs ls hw hs hl => by
  obtain ⟨k, hk⟩ := List.getElem?_of_mem (la_mem (G := z_G Z) (w := .int x) |>.mpr ⟨_, e0, rfl⟩)
  exact lv_iinc C.ex C.co D (lr_has hl) hk hv (by rw [C.ml]; exact hn) rfl (fun ls' h' => K H locs ls' hw hs (e ▸ lr_store1 (v := .int v) h'.2.2 h'.1 h'.2.1))
theorem xc_imul (C : cx_ Z M d) {x y v : Int32} (D : decode M.2.1 pc = .ok (.imul, 1)) (hv : x * y = v) (K : xc_ Z k n (pc + 1) lv (.int v :: st) T) : xc_ Z k n pc lv (.int y :: .int x :: st) T := fun H locs ls hw hs hl => by
  subst hv
  exact lv_imul C.ex C.co D (K H locs ls hw hs hl)
theorem xc_dup (C : cx_ Z M d) {a : Value} (D : decode M.2.1 pc = .ok (.dup, 1)) (hc : a.category = 1) (K : xc_ Z k n (pc + 1) lv (a :: a :: st) T) : xc_ Z k n pc lv (a :: st) T := fun H locs ls hw hs hl => lv_dup C.ex C.co D ((cv_cat _ _).trans hc) (K H locs ls hw hs hl)
theorem xc_icmp_ge_t (C : cx_ Z M d) {x y : Int32} {off : Int} {tgt : Nat} (D : decode M.2.1 pc = .ok (.if_icmp .ge off, 3)) (ht : (pc : Int) + off = (tgt : Int)) (hc : y ≤ x) (K : xc_ Z k n tgt lv st T) : xc_ Z k n pc lv (.int y :: .int x :: st) T := fun H locs ls hw hs hl => lv_icmp_ge C.ex C.co D ht (fun _ => K H locs ls hw hs hl) (fun q => absurd hc q)
theorem xc_icmp_ge_f (C : cx_ Z M d) {x y : Int32} {off : Int} {tgt : Nat} (D : decode M.2.1 pc = .ok (.if_icmp .ge off, 3)) (ht : (pc : Int) + off = (tgt : Int)) (hc : ¬ y ≤ x) (K : xc_ Z k n (pc + 3) lv st T) : xc_ Z k n pc lv (.int y :: .int x :: st) T := fun H locs ls hw hs hl => lv_icmp_ge C.ex C.co D ht (fun q => absurd q hc) (fun _ => K H locs ls hw hs hl)
theorem xc_goto (C : cx_ Z M d) {off : Int} {tgt : Nat} (D : decode M.2.1 pc = .ok (.goto off, 3)) (ht : (pc : Int) + off = (tgt : Int)) (K : xc_ Z k n tgt lv st T) : xc_ Z k n pc lv st T := fun H locs ls hw hs hl => lv_goto C.ex C.co D ht (K H locs ls hw hs hl)
theorem o1_ini : Cond.instanceMethod objectInit ∈ lw_tbl ∧ Cond.code objectInit ⟨#[0xb1]⟩ 1 none ∈ lw_tbl := by decide +kernel
theorem xc_objInit (C : cx_ Z M d) {idx o : Nat} (D : decode M.2.1 pc = .ok (.invokespecial idx, 3)) (lk : Cond.methodLink M.1.cls idx objectInit ∈ lw_tbl) (ho : 0 < o ∧ o < 500) (hd : 1 ≤ d) (hst : st.length ≤ 20) (K : xc_ Z k n (pc + 3) lv st T) : xc_ Z k n pc lv (.ref o :: st) T := fun H locs ls hw hs hl => by
  have hc := cat_le (st.map (cv_ (z_G Z)))
  rw [List.length_map] at hc
  have hf := C.fr
  unfold wc_
  rw [List.map_cons, cv_ref _ ho.1 ho.2]
  exact W.objInit C.ex C.co C.ow (C.ts _ (gw_in lk rfl)) (C.ts _ (gw_in o1_ini.1 rfl)) (C.ts _ (gw_in o1_ini.2 rfl)) rfl hl.1 rfl D (by omega) (by show 2 * 0 + _ + 12 ≤ _; omega) (K H locs ls hw hs hl)
/-- a new cell at the end -/
theorem hc_.push {G : gt_} {s : State} {H H' : Heap} (hw : hc_ G s T H) (z : H'.size = H.size + 1) (oq : ∀ q : Nat, q < H.size → H'[q]? = H[q]?) (hc : ce_ G T.2.2 T.2.1 H' (T.1 + 1)) : hc_ G s (T.1 + 1, T.2) H' := by
  refine ⟨⟨by rw [z, hw.1.1]; omega, fun c hk => ?_, fun c hk => ?_⟩, fun c j h => hw.2 c j (by have h : T.1 + 1 < c := h; omega)⟩
  · by_cases e : c = T.1 + 1
    · subst e; exact hc
    · have hk : c ≤ T.1 + 1 := hk
      obtain ⟨c0, c1, c2, c3⟩ := hw.1.2.1 c (by omega)
      have eq : H'[gt_B G + c]? = H[gt_B G + c]? := oq _ (by rw [hw.1.1]; omega)
      exact ⟨fun ci q => (c0 ci q).kept eq, fun m q => by rw [eq]; exact c1 m q, fun m q => by rw [eq]; exact c2 m q, fun m q => by rw [eq]; exact c3 m q⟩
  · have h1 := hw.1.2.2 c hk
    have kq : ∀ a : Nat, a < H.size → ¬ gt_A G a → H'[a]? = H[a]? := fun a ha _ => oq a ha
    exact ⟨h1.1.kept kq, h1.2.kept kq⟩
theorem hc_.pushS {G : gt_} {s : State} {H H' : Heap} {locs : List Loc} (hs : va_S (gt_A G) s.heap H locs) (z : H.size ≤ H'.size) (oq : ∀ q : Nat, q < H.size → H'[q]? = H[q]?) : va_S (gt_A G) s.heap H' locs := ⟨Nat.le_trans hs.1 z, fun q h1 h2 => (oq q (Nat.lt_of_lt_of_le h1 hs.1)).trans (hs.2.1 q h1 h2), hs.2.2⟩
def dv_ (ci j : Nat) : Value := if fk_ ci j = 0 then .int 0 else if fk_ ci j = 1 then .long 0 else .null
theorem xc_new (C : cx_ Z M d) {ci idx : Nat} {q : vw_C} {ty : Nat → FieldType} (ck : ck_ ci q ty) (hty : ∀ j, j < q.2.2 → defaultValue (ty j) = dv_ ci j) (lk : Cond.classLink M.1.cls idx q.1 ∈ lw_tbl) (li : Cond.instantiable q.1 q.2.2 ∈ lw_tbl) (lj : Cond.initialized q.1 ∈ lw_tbl) (so : sh_ (T.1 + 1) = (0, ci)) (h1 : k + 1 ≤ (z_R Z).cells) (h2 : n + q.2.2 ≤ (z_R Z).slots) (D : decode M.2.1 pc = .ok (.new idx, 3)) (K : xc_ Z (k + 1) (n + q.2.2) (pc + 3) lv (.ref (T.1 + 1) :: st) (T.1 + 1, T.2)) : xc_ Z k n pc lv st T := fun H locs ls hw hs hl => by
  have hr := sh_rng so (by decide)
  have hKn := C.kn.1 ci q ck.1
  have hsz : H.size = gt_B (z_G Z) + (T.1 + 1) := by rw [hw.1.1]; omega
  refine W.newcK C.ex C.co C.ow (C.ts _ (gw_in lk rfl)) (C.ts _ (gw_in li rfl)) (C.ts _ (gw_in lj rfl)) rfl D h1 h2 hKn.2.1 hsz fun H1 kC hkC e1 z1 o1 => ?_
  rw [← hsz] at z1 o1
  have hb : t_OB (gt_B (z_G Z) + (T.1 + 1)) (gt_C (z_G Z) ci) q.2.2 (gt_I (z_G Z) ci) H1 (fv_ (z_G Z) T.2.2 T.2.1 ci (T.1 + 1)) := (u_born ty C.ts ck.2.2.1 hKn hkC e1 ck.2.2.2.1).to (fun j hj => by
    show defaultValue (ty j) = _
    rw [hty j hj]
    obtain ⟨a1, a2, a3⟩ := hw.2 (T.1 + 1) j (by omega)
    unfold dv_ fv_
    rw [a1, a2, a3]
    rfl)
  have K1 := K H1 locs ls (hw.push z1 o1 (ce_ob so (by rw [ck.2.1]; exact hb))) (hc_.pushS hs (by omega) o1) hl
  rw [List.map_cons, cv_ref _ hr.1 (by omega)] at K1
  exact K1
theorem xc_newa (C : cx_ Z M d) (kc : kc_ (z_G Z) (z_s Z)) {v : Int32} {N : Nat} (hv : ¬ v < 0) (hN : v.toNatClampNeg = N) (hb : N * 4 ≤ 536870912) (lk : Cond.arrayClass .int ∈ lw_tbl) (so : sh_ (T.1 + 1) = (1, N)) (h1 : k + 1 ≤ (z_R Z).cells) (h2 : n + N ≤ (z_R Z).slots) (D : decode M.2.1 pc = .ok (.newarray .int, 2)) (K : xc_ Z (k + 1) (n + N) (pc + 2) lv (.ref (T.1 + 1) :: st) (T.1 + 1, T.2)) : xc_ Z k n pc lv (.int v :: st) T := fun H locs ls hw hs hl => by
  have hr := sh_rng so (by decide)
  have hsz : H.size = gt_B (z_G Z) + (T.1 + 1) := by rw [hw.1.1]; omega
  refine va_newaK (atype := .int) C.ex C.co (C.ts _ (gw_in lk rfl)) rfl D rfl hv hN hb h1 h2 hsz fun H1 cA e1 z1 o1 _ hf => ?_
  rw [← hsz] at z1 o1
  have hcA : cA = gt_1 (z_G Z) := Option.some.inj (hf.symm.trans kc.2.2.1)
  subst hcA
  have K1 := K H1 locs ls (hw.push z1 o1 (ce_ia so (by
    rw [e1]
    congr 1; congr 1; funext j
    rw [(hw.2 (T.1 + 1) j (by omega)).2.1]
    rfl))) (hc_.pushS hs (by omega) o1) hl
  rw [List.map_cons, cv_ref _ hr.1 (by omega)] at K1
  exact K1
theorem xc_anew (C : cx_ Z M d) (kc : kc_ (z_G Z) (z_s Z)) {v : Int32} {N idx : Nat} (hv : ¬ v < 0) (hN : v.toNatClampNeg = N) (hb : N * 4 ≤ 536870912) (lk : Cond.classLink M.1.cls idx "ThumbReader$Kept" ∈ lw_tbl) (so : sh_ (T.1 + 1) = (3, N)) (h1 : k + 1 ≤ (z_R Z).cells) (h2 : n + N ≤ (z_R Z).slots) (D : decode M.2.1 pc = .ok (.anewarray idx, 3)) (K : xc_ Z (k + 1) (n + N) (pc + 3) lv (.ref (T.1 + 1) :: st) (T.1 + 1, T.2)) : xc_ Z k n pc lv (.int v :: st) T := fun H locs ls hw hs hl => by
  have hr := sh_rng so (by decide)
  have hsz : H.size = gt_B (z_G Z) + (T.1 + 1) := by rw [hw.1.1]; omega
  subst hN
  refine W.anew C.ex C.co C.ow (C.ts _ (gw_in lk rfl)) kc.2.1 rfl D rfl hv hb h1 h2 fun cA kA comp f1 f2 f3 f4 => ?_
  obtain ⟨kA', comp', -, -, -, hf⟩ := kc.2.2.2.2
  have hcA : cA = gt_3 (z_G Z) := Option.some.inj (f1.symm.trans hf)
  subst hcA
  have hself : (H.push ({ cls := gt_3 (z_G Z), slots := Array.replicate v.toNatClampNeg .null, vm := .none } : Cell))[gt_B (z_G Z) + (T.1 + 1)]? = some (arrV (gt_3 (z_G Z)) v.toNatClampNeg (fun j => rv_ (z_G Z) (T.2.1 (T.1 + 1) j))) := by
    rw [← hsz, Array.getElem?_push, if_pos rfl, arrV_new]
    congr 1; congr 1; funext j
    rw [(hw.2 (T.1 + 1) j (by omega)).1]
    rfl
  have o1 : ∀ q : Nat, q < H.size → (H.push ({ cls := gt_3 (z_G Z), slots := Array.replicate v.toNatClampNeg .null, vm := .none } : Cell))[q]? = H[q]? := fun q hq => by rw [Array.getElem?_push, if_neg (Nat.ne_of_lt hq)]
  have K1 := K _ locs ls (hw.push (H' := H.push ({ cls := gt_3 (z_G Z), slots := Array.replicate v.toNatClampNeg .null, vm := .none } : Cell)) (by simp) o1 ⟨fun c e => (by rw [so] at e; cases e), fun n e => (by rw [so] at e; cases e), fun n e => (by rw [so] at e; cases e), fun n e => (by rw [so] at e; cases e; exact hself)⟩) (hc_.pushS hs (by simp) o1) hl
  rw [List.map_cons, cv_ref _ hr.1 (by omega), ← hsz] at K1
  exact K1
/-- new int[N][K] -/
def rm2_ (ρ : Nat → Nat → Nat) (a N : Nat) : Nat → Nat → Nat := fun c j => if c = a ∧ j < N then a + 1 + j else ρ c j
theorem outer_arr (c : ClassId) (N h0 : Nat) : ∀ i : Nat, Jvm.Free.Multi.outerC c N h0 i = arrV c N (fun j => if j < i then .ref (h0 + 1 + j) else .null)
  | 0 => by
    show ({ cls := c, slots := Array.replicate N .null, vm := .none } : Cell) = _
    rw [arrV_new]
    refine congrArg (arrV c N) (funext fun j => ?_)
    simp
  | i + 1 => by
    show (Jvm.Free.Multi.outerC c N h0 i).setSlot i (.ref (h0 + 1 + i)) = _
    rw [outer_arr c N h0 i, arrV_store]
    refine congrArg (arrV c N) (funext fun j => ?_)
    by_cases e : j = i
    · subst e
      simp [updV]
    · by_cases h : j < i
      · simp [updV, e, h, Nat.lt_succ_of_lt h]
      · simp [updV, e, h, show ¬ j < i + 1 by omega]
theorem xc_mna (C : cx_ Z M d) (kc : kc_ (z_G Z) (z_s Z)) {v w : Int32} {N L idx : Nat} (hv : ¬ v < 0) (hw0 : ¬ w < 0) (hN : v.toNatClampNeg = N) (hL : w.toNatClampNeg = L) (hb1 : N * 4 ≤ 536870912) (hb2 : L * 4 ≤ 536870912) (hb3 : L ≤ 536870912) (lk : Cond.classLink M.1.cls idx "[[I" ∈ lw_tbl) (lk2 : Cond.arrayClass .int ∈ lw_tbl) (so : sh_ (T.1 + 1) = (2, N)) (si : ∀ j, j < N → sh_ (T.1 + 1 + 1 + j) = (1, L)) (h1 : k + (1 + N) ≤ (z_R Z).cells) (h2 : n + (N + N * L) ≤ (z_R Z).slots) (D : decode M.2.1 pc = .ok (.multianewarray idx 2, 4))
    (K : xc_ Z (k + 1 + N) (n + N + N * L) (pc + 4) lv (.ref (T.1 + 1) :: st) (T.1 + 1 + N, rm2_ T.2.1 (T.1 + 1) N, T.2.2)) : xc_ Z k n pc lv (.int w :: .int v :: st) T := fun H locs ls hw hs hl => by
  have hr := sh_rng so (by decide)
  have hsz : H.size = gt_B (z_G Z) + (T.1 + 1) := by rw [hw.1.1]; omega
  subst hN
  subst hL
  intro S hS Xs
  obtain ⟨vm₁, cA, comp, -, fA, fC, hO, -, X', step⟩ := Xs.multianewarray2F (ty := .int) C.ex C.ow (C.ts _ (gw_in lk rfl)) (show (Cond.arrayOver (.array .int)).before (z_a Z) (z_s Z) = true from kc.1) (C.ts _ (gw_in lk2 rfl)) (g := F0 (z_m Z) pc ls ((.int w :: .int v :: st).map (cv_ (z_G Z)))) rfl (by rw [C.co]; exact D) rfl hv hw0 hb1 hb2 hb3 rfl rfl h1 h2
  have e1 : cA = gt_2 (z_G Z) := Option.some.inj (fA.symm.trans kc.2.2.2.1)
  have e2 : comp = gt_1 (z_G Z) := Option.some.inj (fC.symm.trans kc.2.2.1)
  subst e1
  subst e2
  generalize hF : Jvm.Free.Multi.fill (S.setVm vm₁) (gt_2 (z_G Z)) (gt_1 (z_G Z)) v.toNatClampNeg w.toNatClampNeg (defaultValue .int) v.toNatClampNeg = F at X' step
  have hTh : (S.setVm vm₁).heap = H := hS
  obtain ⟨f1, f2, -, -⟩ := Jvm.Free.Multi.fill_facts (S.setVm vm₁) (gt_2 (z_G Z)) (gt_1 (z_G Z)) v.toNatClampNeg w.toNatClampNeg (defaultValue .int) v.toNatClampNeg
  rw [hF, hTh] at f1 f2
  have hold : ∀ x : Nat, x < H.size → F.heap[x]? = H[x]? := fun x hx => by
    have := Jvm.Free.Multi.fill_old (S.setVm vm₁) (gt_2 (z_G Z)) (gt_1 (z_G Z)) v.toNatClampNeg w.toNatClampNeg (defaultValue .int) (a := x) (by rw [hTh]; exact hx) v.toNatClampNeg
    rw [hF, hTh] at this
    exact this
  have hrow : ∀ j : Nat, j < v.toNatClampNeg → F.heap[H.size + 1 + j]? = some (arrV (gt_1 (z_G Z)) w.toNatClampNeg (fun _ => .int 0)) := fun j hj => by
    have := Jvm.Free.Multi.fill_inner (S.setVm vm₁) (gt_2 (z_G Z)) (gt_1 (z_G Z)) v.toNatClampNeg w.toNatClampNeg (defaultValue .int) v.toNatClampNeg j hj
    rw [hF, hTh] at this
    rw [this, Jvm.Free.Multi.innerC, arrV_new]
    rfl
  rw [outer_arr] at f2
  have hw' : hc_ (z_G Z) (z_s Z) (T.1 + 1 + v.toNatClampNeg, rm2_ T.2.1 (T.1 + 1) v.toNatClampNeg, T.2.2) F.heap := by
    refine ⟨⟨by rw [f1, hsz]; show _ = gt_B (z_G Z) + 1 + (T.1 + 1 + v.toNatClampNeg); omega, fun c hc => ?_, fun c hc => ?_⟩, fun c j hcj => ?_⟩
    · have hc : c ≤ T.1 + 1 + v.toNatClampNeg := hc
      rcases Nat.lt_trichotomy c (T.1 + 1) with e | e | e
      · obtain ⟨c0, c1, c2, c3⟩ := hw.1.2.1 c (by omega)
        have eq : F.heap[gt_B (z_G Z) + c]? = H[gt_B (z_G Z) + c]? := hold _ (by omega)
        have er : ∀ j, rm2_ T.2.1 (T.1 + 1) v.toNatClampNeg c j = T.2.1 c j := fun j => by unfold rm2_; rw [if_neg (fun q => by omega)]
        refine ⟨fun ci q => (c0 ci q).kept eq |>.to (fun j _ => ?_), fun m q => by rw [eq]; exact c1 m q, fun m q => by rw [eq, c2 m q]; exact congrArg (fun f => some (arrV (gt_2 (z_G Z)) m f)) (funext fun j => congrArg (rv_ (z_G Z)) (er j).symm), fun m q => by rw [eq, c3 m q]; exact congrArg (fun f => some (arrV (gt_3 (z_G Z)) m f)) (funext fun j => congrArg (rv_ (z_G Z)) (er j).symm)⟩
        show fv_ (z_G Z) T.2.2 T.2.1 ci c j = fv_ (z_G Z) T.2.2 (rm2_ T.2.1 (T.1 + 1) v.toNatClampNeg) ci c j
        unfold fv_
        rw [er]
      · subst e
        refine ⟨fun ci q => (by rw [so] at q; cases q), fun m q => (by rw [so] at q; cases q), fun m q => ?_, fun m q => (by rw [so] at q; cases q)⟩
        rw [so] at q
        cases q
        rw [← hsz, f2]
        refine congrArg (fun f => some (arrV (gt_2 (z_G Z)) _ f)) (funext fun j => ?_)
        show (if j < v.toNatClampNeg then _ else _) = rv_ (z_G Z) (rm2_ T.2.1 (T.1 + 1) v.toNatClampNeg (T.1 + 1) j)
        by_cases hj : j < v.toNatClampNeg
        · have e5 : rm2_ T.2.1 (T.1 + 1) v.toNatClampNeg (T.1 + 1) j = T.1 + 1 + 1 + j := by unfold rm2_; rw [if_pos ⟨rfl, hj⟩]
          rw [if_pos hj, e5]
          unfold rv_
          rw [if_neg (by omega), hsz]
          have e6 : gt_B (z_G Z) + (T.1 + 1) + 1 + j = gt_B (z_G Z) + (T.1 + 1 + 1 + j) := by omega
          exact congrArg Value.ref e6
        · have e5 : rm2_ T.2.1 (T.1 + 1) v.toNatClampNeg (T.1 + 1) j = 0 := by unfold rm2_; rw [if_neg (fun q => hj q.2)]; exact (hw.2 (T.1 + 1) j (by omega)).1
          rw [if_neg hj, e5]
          rfl
      · obtain ⟨j, rfl⟩ : ∃ j, c = T.1 + 1 + 1 + j := ⟨c - (T.1 + 2), by omega⟩
        have hj : j < v.toNatClampNeg := by omega
        have s1 := si j hj
        refine ce_ia s1 ?_
        rw [show gt_B (z_G Z) + (T.1 + 1 + 1 + j) = H.size + 1 + j by omega, hrow j hj]
        congr 1; congr 1; funext i
        rw [(hw.2 (T.1 + 1 + 1 + j) i (by omega)).2.1]
    · have g1 := hw.1.2.2 c hc
      have kq : ∀ a : Nat, a < H.size → ¬ gt_A (z_G Z) a → F.heap[a]? = H[a]? := fun a ha _ => hold a ha
      exact ⟨g1.1.kept kq, g1.2.kept kq⟩
    · have hcj : T.1 + 1 + v.toNatClampNeg < c := hcj
      have g1 := hw.2 c j (by omega)
      refine ⟨?_, g1.2⟩
      show rm2_ T.2.1 (T.1 + 1) v.toNatClampNeg c j = 0
      unfold rm2_
      rw [if_neg (fun q => by omega)]
      exact g1.1
  have K1 := K F.heap locs ls hw' (hc_.pushS hs (by omega) hold) hl
  rw [List.map_cons, cv_ref _ hr.1 (by omega), ← hsz] at K1
  obtain ⟨t, a1, b1⟩ := K1 F rfl X'
  refine ⟨t, step t ?_, b1⟩
  have e : S.heap.size = H.size := by rw [hS]
  rw [e]
  exact a1
/-- one cell changes -/
theorem hc_.upd {G : gt_} {s : State} {H H' : Heap} {ρ' : Nat → Nat → Nat} {h' : hh_} {o : Nat} (hw : hc_ G s T H) (ho : 0 < o ∧ o ≤ T.1) (z : H'.size = H.size) (oq : ∀ q : Nat, q ≠ gt_B G + o → H'[q]? = H[q]?) (hc : ce_ G h' ρ' H' o) (hi : ∀ k j, k ≠ o → h'.1 k j = T.2.2.1 k j) (hl : ∀ k j, k ≠ o → h'.2.1 k j = T.2.2.2.1 k j) (hr : ∀ k j, k ≠ o → ρ' k j = T.2.1 k j) : hc_ G s (T.1, ρ', h') H' := by
  refine ⟨⟨z.trans hw.1.1, fun k hk => ?_, fun k hk => ?_⟩, fun c j h => ?_⟩
  · by_cases e : k = o
    · subst e; exact hc
    · obtain ⟨c0, c1, c2, c3⟩ := hw.1.2.1 k hk
      have eq : H'[gt_B G + k]? = H[gt_B G + k]? := oq _ (by omega)
      refine ⟨fun ci s => ?_, fun n s => ?_, fun n s => ?_, fun n s => ?_⟩
      · refine (c0 ci s).kept eq |>.to (fun j _ => ?_)
        show fv_ G T.2.2 T.2.1 ci k j = fv_ G h' ρ' ci k j
        unfold fv_
        rw [hi k j e, hl k j e, hr k j e]
      · rw [eq, c1 n s]; exact congrArg (fun f => some (arrV (gt_1 G) n f)) (funext fun j => congrArg Value.int (hi k j e).symm)
      · rw [eq, c2 n s]; exact congrArg (fun f => some (arrV (gt_2 G) n f)) (funext fun j => congrArg (rv_ G) (hr k j e).symm)
      · rw [eq, c3 n s]; exact congrArg (fun f => some (arrV (gt_3 G) n f)) (funext fun j => congrArg (rv_ G) (hr k j e).symm)
  · have h1 := hw.1.2.2 k hk
    have kq : ∀ a : Nat, a < H.size → ¬ gt_A G a → H'[a]? = H[a]? := fun a _ ha => oq a (fun e => ha (by show gt_B G < a; omega))
    exact ⟨h1.1.kept kq, h1.2.kept kq⟩
  · have h : T.1 < c := h
    obtain ⟨a1, a2, a3⟩ := hw.2 c j h
    have e : c ≠ o := by omega
    exact ⟨(hr c j e).trans a1, (hi c j e).trans a2, (hl c j e).trans a3⟩
theorem wc_putf (C : cx_ Z M d) {ci j o idx : Nat} {q : vw_C} {ty : Nat → FieldType} {v : Value} {H : Heap} {locs : List Loc} {ls : Array Slot} {rest : List Value} (hin : (z_t Z).name = "<init>") (ck : ck_ ci q ty) (hj : j < q.2.2) (lk : Cond.fieldLink M.1.cls idx (q.2.1 j).1 (q.2.1 j).2.1 (q.2.1 j).2.2.1 ∈ lw_tbl) (hdecl : (q.2.1 j).1 = M.1.cls) (hv : narrow (ty j) v = v) (hf : fits (ty j) v = true) (hw : hc_ (z_G Z) (z_s Z) T H) (so : sh_ o = (0, ci)) (hle : o ≤ T.1) (D : decode M.2.1 pc = .ok (.putfield idx, 3)) (hs : va_S (gt_A (z_G Z)) (z_s Z).heap H locs)
    (K : ∀ (H' : Heap) (locs' : List Loc), H'.size = H.size → (∀ a : Nat, a ≠ gt_B (z_G Z) + o → H'[a]? = H[a]?) → t_OB (gt_B (z_G Z) + o) (gt_C (z_G Z) ci) (nf_ ci) (gt_I (z_G Z) ci) H' (updV (fv_ (z_G Z) T.2.2 T.2.1 ci o) j v) → va_S (gt_A (z_G Z)) (z_s Z).heap H' locs' → wc_ Z k n H' locs' (F0 (z_m Z) (pc + 3) ls rest)) : wc_ Z k n H locs (F0 (z_m Z) pc ls (v :: .ref (gt_B (z_G Z) + o) :: rest)) := by
  have hK : va_K (gt_C (z_G Z), gt_I (z_G Z)) vwCl [] (z_s Z) := ⟨C.kn.1, fun k x hx => by simp at hx⟩
  have hap := va_apart (own := M.1.cls) (D := (gt_C (z_G Z), gt_I (z_G Z))) C.ts ck.2.2.1 ty ck.2.2.2.1 ck.2.2.2.2 hK ck.1
  obtain ⟨cell, q1, q2, q3, q4⟩ := (hw.1.2.1 o hle).1 ci so
  obtain ⟨hS, hfc, kC, hkC, hkind⟩ := C.kn.1 ci q ck.1
  obtain ⟨cf, kf, fi, f, hi, hsl⟩ := hS j hj
  have hst := (u_facts hfc hkC (u_lays C.ts ck.2.2.1 hj) hi).1
  rw [ck.2.1] at q4
  have hr := sh_rng so (by decide)
  have fin : ∀ H' : Heap, H'[gt_B (z_G Z) + o]? = some (cell.setSlot f.slot v) → H'.size = H.size → (∀ a, a ≠ gt_B (z_G Z) + o → H'[a]? = H[a]?) → wc_ Z k n H' (locs ++ [⟨gt_B (z_G Z) + o, f.slot⟩]) (F0 (z_m Z) (pc + 3) ls rest) := fun H' e1 e2 e3 => by
    rw [hsl] at e1
    exact K H' _ e2 e3 ⟨_, e1, q2, q3, by rw [ck.2.1]; exact t_set q4 hap hj v⟩ (hs.put e2 e3 (by show gt_B (z_G Z) < _; omega))
  have hlay := C.ts _ (ck.2.2.1 _ (u_in_lay hj))
  unfold u_lay at hlay
  by_cases hfin : (q.2.1 j).2.2.2 = true
  · rw [if_pos hfin] at hlay
    have hcf : (z_m Z).cls = cf := by
      obtain ⟨_, _, c', _, _, _, -, -, hf', -, -, -, hown2, -⟩ := Cond.laysFinal_spec hlay
      have e1 : c' = cf := by have := hi.symm.trans hf'; simp at this; exact this.1.symm
      rw [hdecl] at hown2
      rw [← e1]; exact Option.some.inj (C.ow.symm.trans hown2)
    have h6 := u_fits hfc hkC hkind (Or.inr hlay) hi (ck.2.2.2.1 j hj) hv hf
    exact W.putFinK C.ex C.co C.ow (C.ts _ (gw_in lk rfl)) hi hst hcf hin (by rw [q2]; exact h6) q1 q3 (by rw [hsl]; exact k2_hasslot (q4 j hj)) rfl rfl D fin
  · rw [if_neg hfin] at hlay
    have h6 := u_store hfc hkC hkind hlay hi (ck.2.2.2.1 j hj) hv hf
    exact W.putK C.ex C.co (f := f) ⟨C.ow, C.ts _ (gw_in lk rfl), ⟨_, _, _, hi⟩, hst⟩ (by rw [q2]; exact h6) q1 q3 (by rw [hsl]; exact k2_hasslot (q4 j hj)) rfl rfl D fin
theorem xc_putR (C : cx_ Z M d) {ci j o idx r : Nat} {q : vw_C} {ty : Nat → FieldType} (hin : (z_t Z).name = "<init>") (ck : ck_ ci q ty) (hj : j < q.2.2) (lk : Cond.fieldLink M.1.cls idx (q.2.1 j).1 (q.2.1 j).2.1 (q.2.1 j).2.2.1 ∈ lw_tbl) (hdecl : (q.2.1 j).1 = M.1.cls) (hty : (∃ c, ty j = .object c) ∨ ∃ c, ty j = .array c) (so : sh_ o = (0, ci)) (hle : o ≤ T.1) (hk : fk_ ci j = 2) (hr0 : 0 < r ∧ r < 500) (D : decode M.2.1 pc = .ok (.putfield idx, 3)) (K : xc_ Z k n (pc + 3) lv st (T.1, hh_up T.2.1 o j r, T.2.2)) : xc_ Z k n pc lv (.ref r :: .ref o :: st) T := fun H locs ls hw hs hl => by
  have hr := sh_rng so (by decide)
  rw [List.map_cons, List.map_cons, cv_ref _ hr.1 (by omega), cv_ref _ hr0.1 hr0.2]
  refine wc_putf C hin ck hj lk hdecl (by rcases hty with ⟨c, e⟩ | ⟨c, e⟩ <;> rw [e] <;> rfl) (by rcases hty with ⟨c, e⟩ | ⟨c, e⟩ <;> rw [e] <;> rfl) hw so hle D hs (fun H' locs' e2 e3 e4 hs' => ?_)
  refine K H' locs' ls (hw.upd ⟨hr.1, hle⟩ e2 e3 (ce_ob so (e4.to (fun i _ => ?_))) (fun _ _ _ => rfl) (fun _ _ _ => rfl) (fun k i e => hh_up_ne e)) hs' hl
  unfold updV fv_ hh_up
  by_cases e : i = j
  · subst e; simp [hk, rv_, Nat.ne_of_gt hr0.1]
  · simp [e]
theorem xc_putI (C : cx_ Z M d) {ci j o idx : Nat} {q : vw_C} {ty : Nat → FieldType} {v : Int32} (hin : (z_t Z).name = "<init>") (ck : ck_ ci q ty) (hj : j < q.2.2) (lk : Cond.fieldLink M.1.cls idx (q.2.1 j).1 (q.2.1 j).2.1 (q.2.1 j).2.2.1 ∈ lw_tbl) (hdecl : (q.2.1 j).1 = M.1.cls) (hty : ty j = .int) (so : sh_ o = (0, ci)) (hle : o ≤ T.1) (hk : fk_ ci j = 0) (D : decode M.2.1 pc = .ok (.putfield idx, 3)) (K : xc_ Z k n (pc + 3) lv st (T.1, T.2.1, hh_sI T.2.2 o j v)) : xc_ Z k n pc lv (.int v :: .ref o :: st) T := fun H locs ls hw hs hl => by
  have hr := sh_rng so (by decide)
  rw [List.map_cons, List.map_cons, cv_ref _ hr.1 (by omega)]
  refine wc_putf C hin ck hj lk hdecl (by rw [hty]; rfl) (by rw [hty]; rfl) hw so hle D hs (fun H' locs' e2 e3 e4 hs' => ?_)
  refine K H' locs' ls (hw.upd ⟨hr.1, hle⟩ e2 e3 (ce_ob so (e4.to (fun i _ => ?_))) (fun k i e => hh_up_ne e) (fun _ _ _ => rfl) (fun _ _ _ => rfl)) hs' hl
  show updV _ _ _ _ = fv_ _ _ _ _ _ _
  unfold updV fv_ hh_sI hh_up
  by_cases e : i = j
  · subst e; simp [hk]; rfl
  · simp [e]
theorem xc_putL (C : cx_ Z M d) {ci j o idx : Nat} {q : vw_C} {ty : Nat → FieldType} {v : Int64} (hin : (z_t Z).name = "<init>") (ck : ck_ ci q ty) (hj : j < q.2.2) (lk : Cond.fieldLink M.1.cls idx (q.2.1 j).1 (q.2.1 j).2.1 (q.2.1 j).2.2.1 ∈ lw_tbl) (hdecl : (q.2.1 j).1 = M.1.cls) (hty : ty j = .long) (so : sh_ o = (0, ci)) (hle : o ≤ T.1) (hk : fk_ ci j = 1) (D : decode M.2.1 pc = .ok (.putfield idx, 3)) (K : xc_ Z k n (pc + 3) lv st (T.1, T.2.1, hh_sL T.2.2 o j v)) : xc_ Z k n pc lv (.long v :: .ref o :: st) T := fun H locs ls hw hs hl => by
  have hr := sh_rng so (by decide)
  rw [List.map_cons, List.map_cons, cv_ref _ hr.1 (by omega)]
  refine wc_putf C hin ck hj lk hdecl (by rw [hty]; rfl) (by rw [hty]; rfl) hw so hle D hs (fun H' locs' e2 e3 e4 hs' => ?_)
  refine K H' locs' ls (hw.upd ⟨hr.1, hle⟩ e2 e3 (ce_ob so (e4.to (fun i _ => ?_))) (fun _ _ _ => rfl) (fun k i e => hh_up_ne e) (fun _ _ _ => rfl)) hs' hl
  show updV _ _ _ _ = fv_ _ _ _ _ _ _
  unfold updV fv_ hh_sL hh_up
  by_cases e : i = j
  · subst e; simp [hk]; rfl
  · simp [e]
theorem xc_getR (C : cx_ Z M d) {ci j o idx r : Nat} {q : vw_C} {ty : Nat → FieldType} (ck : ck_ ci q ty) (hj : j < q.2.2) (lk : fl_ M.1.cls idx (q.2.1 j)) (so : sh_ o = (0, ci)) (hle : o ≤ T.1) (hk : fk_ ci j = 2) (hr0 : r < 500) (e0 : T.2.1 o j = r) (g1 : k ≤ (z_R Z).cells) (g2 : n ≤ (z_R Z).slots) (D : decode M.2.1 pc = .ok (.getfield idx, 3)) (K : xc_ Z k n (pc + 3) lv (.ref r :: st) T) : xc_ Z k n pc lv (.ref o :: st) T := fun H locs ls hw hs hl => by
  have hr := sh_rng so (by decide)
  rw [List.map_cons, cv_ref _ hr.1 (by omega)]
  have K1 := K H locs ls hw hs hl
  have e : cv_ (z_G Z) (.ref r) = fv_ (z_G Z) T.2.2 T.2.1 ci o j := by
    unfold fv_
    rw [if_neg (by omega), if_neg (by omega), e0, cv_rv _ hr0]
  rw [List.map_cons, e] at K1
  exact ww_getf (Z := (z_p Z, z_l Z, z_e Z, z_R Z, z_s Z, z_m Z, z_a Z, z_b Z, z_t Z, z_c Z, z_G Z, k, n, z_Q Z)) (d := 0) ⟨C.ex, C.co, C.re, C.ml, C.ow, C.ts, C.kn, C.lk, Nat.zero_le _, Nat.zero_le _, g1, g2⟩ ck hj lk ((hw.1.2.1 o hle).1 ci so) D K1
theorem xc_iastore (C : cx_ Z M d) {a N i0 : Nat} {i v : Int32} (D : decode M.2.1 pc = .ok (.iastore, 1)) (so : sh_ a = (1, N)) (hle : a ≤ T.1) (hin : vp_in i N) (hi0 : i.toNatClampNeg = i0) (K : xc_ Z k n (pc + 1) lv st (T.1, T.2.1, hh_sI T.2.2 a i0 v)) : xc_ Z k n pc lv (.int v :: .int i :: .ref a :: st) T := fun H locs ls hw hs hl => by
  have hr := sh_rng so (by decide)
  subst hi0
  rw [List.map_cons, List.map_cons, List.map_cons, cv_ref _ hr.1 (by omega)]
  refine W.iast C.ex C.co ((hw.1.2.1 a hle).2.1 N so) (C.kn.2.1 N _) (fun q => by cases q) (by rw [arrV_size]; exact hin) rfl rfl D (fun H' e1 e2 e3 => K H' _ ls (hw.upd ⟨hr.1, hle⟩ e2 e3 (ce_ia so ?_) (fun k j e => hh_up_ne e) (fun _ _ _ => rfl) (fun _ _ _ => rfl)) (hs.put e2 e3 (by show gt_B (z_G Z) < _; omega)) hl)
  rw [e1, arrV_store]
  refine congrArg (fun f => some (arrV (gt_1 (z_G Z)) N f)) (funext fun j => ?_)
  show updV _ _ _ _ = Value.int ((hh_sI T.2.2 a i.toNatClampNeg v).1 a j)
  unfold updV hh_sI hh_up
  by_cases e : j = i.toNatClampNeg
  · simp [e]
  · simp [e]
theorem xc_aastore (C : cx_ Z M d) (kc : kc_ (z_G Z) (z_s Z)) {a N r i0 : Nat} {i : Int32} (D : decode M.2.1 pc = .ok (.aastore, 1)) (so : sh_ a = (3, N)) (hle : a ≤ T.1) (sr : sh_ r = (0, 0)) (hlr : r ≤ T.1) (hin : vp_in i N) (hi0 : i.toNatClampNeg = i0) (K : xc_ Z k n (pc + 1) lv st (T.1, hh_up T.2.1 a i0 r, T.2.2)) : xc_ Z k n pc lv (.ref r :: .int i :: .ref a :: st) T := fun H locs ls hw hs hl => by
  have hr := sh_rng so (by decide)
  have hrr := sh_rng sr (by decide)
  subst hi0
  rw [List.map_cons, List.map_cons, List.map_cons, cv_ref _ hr.1 (by omega), cv_ref _ hrr.1 (by omega)]
  have h0 : ¬ i < 0 := fun q => hin (Or.inl q)
  obtain ⟨cellV, g1, g2, g3, -⟩ := (hw.1.2.1 r hlr).1 0 sr
  have hcls := (C.kn.1 0 _ ck_0.1).2
  obtain ⟨kA, comp, k1, k2, k3, -⟩ := kc.2.2.2.2
  have hcomp : comp = gt_C (z_G Z) 0 := Option.some.inj (k3.symm.trans hcls.1)
  subst hcomp
  obtain ⟨kC, hkC, -⟩ := hcls.2
  refine W.aast C.ex C.co ((hw.1.2.1 a hle).2.2.2 N so) (fun q h => by cases h) (fun h => by cases h) k1 k2 rfl hkC ⟨h0, by rw [arrV_size]; exact vp_lt hin⟩ g1 (fun q h => by rw [g3] at h; cases h) (by rw [g2]; exact hkC) (by rw [g2]; exact va_assign hcls) rfl rfl D fun H1 e z oq => ?_
  refine K H1 _ ls (hw.upd ⟨hr.1, hle⟩ z oq ⟨fun c e => (by rw [so] at e; cases e), fun n e => (by rw [so] at e; cases e), fun n e => (by rw [so] at e; cases e), fun n e2 => ?_⟩ (fun _ _ _ => rfl) (fun _ _ _ => rfl) (fun k j e => hh_up_ne e)) (hs.put z oq (by show gt_B (z_G Z) < _; omega)) hl
  rw [so] at e2
  cases e2
  rw [e, arrV_store]
  refine congrArg (fun f => some (arrV (gt_3 (z_G Z)) _ f)) (funext fun j => ?_)
  show updV _ _ _ _ = rv_ (z_G Z) (hh_up T.2.1 a i.toNatClampNeg r a j)
  unfold updV hh_up
  by_cases e : j = i.toNatClampNeg
  · simp [e, rv_, Nat.ne_of_gt hrr.1]
  · simp [e]
end XC
/-! ===== a constructor's contract ===== -/
def pgc_ (G : gt_) (T : tc_) (U : State) : Prop := kn_ G U ∧ kc_ G U ∧ hc_ G U T U.heap
def pqc_ (G : gt_) (T' : tc_) : Array Value → State → Outcome → State → Prop := fun _ st o t => o = .returned none ∧ pgc_ G T' t ∧ va_F (gt_A G) st t
def rmc_ (d mc ms : Nat) : Room := { frames := d, cells := mc, slots := ms, locals := 100 * d }
def okc_ (l : Launch) (G : gt_) (d mc ms : Nat) (M : mt_) (as : List Value) (T T' : tc_) : Prop := Met l M.1 (wy_ M) (rmc_ d mc ms) (fun v U => v = (as.map (cv_ G)).toArray ∧ pgc_ G T U) (pqc_ G T') mc ms (gt_A G)
theorem hc_.moved {G : gt_} {s U : State} {T : tc_} {H : Heap} (hvm : s.vm.Alike U.vm) (w : hc_ G s T H) : hc_ G U T H := ⟨w.1.moved hvm, w.2⟩
theorem okc_of {l : Launch} {G : gt_} {d mc ms : Nat} {M : mt_} {as : List Value} {T T' : tc_} (hy : plainName M.1.cls = true) (hname : M.1.name = "<init>") (hlen : (el_ as).length ≤ M.2.2.1)
    (body : ∀ Z : zz_, z_l Z = l → z_G Z = G → cx_ Z M d → kc_ (z_G Z) (z_s Z) → (z_t Z).name = "<init>" → (z_R Z).cells = mc → (z_R Z).slots = ms → z_Q Z = MQ (z_b Z) (pqc_ (z_G Z) T') (z_a Z) (z_s Z) mc ms (gt_A (z_G Z)) → xc_ Z 0 0 0 (ep_ M.2.2.1 as) [] T) : okc_ l G d mc ms M as T T' := by
  refine Met.ofW (cc := M.2.1) (maxL := M.2.2.1) (ret := M.2.2.2) hy rfl ?_
  intro p e s m args below meth c s₁ B hml hv
  obtain ⟨rfl, hk, hkc, hw⟩ := hv
  have hin : meth.name = "<init>" := by rw [(name_of_methodNamed B.named B.method).1]; exact hname
  have C : cx_ (p, l, e, rmc_ d mc ms, s, m, (as.map (cv_ G)).toArray, below, meth, c, G, 0, 0, MQ below (pqc_ G T') (as.map (cv_ G)).toArray s mc ms (gt_A G)) M d :=
    ⟨B.exec, B.bytes, B.returns, hml, findClass_of_methodNamed B.named, fun w hw => atoms_spec (ws := wy_ M) B.pre w (List.mem_cons_of_mem _ hw), hk, B.notSynchronized, Nat.le_refl _, Nat.le_refl _, Nat.zero_le _, Nat.zero_le _⟩
  have hl := lv_entry (as.map (cv_ G)) (n := M.2.2.1) (by rw [el_len]; exact hlen)
  rw [lg_entry_eq]
  refine body (p, l, e, rmc_ d mc ms, s, m, (as.map (cv_ G)).toArray, below, meth, c, G, 0, 0, MQ below (pqc_ G T') (as.map (cv_ G)).toArray s mc ms (gt_A G)) rfl rfl C hkc hin rfl rfl rfl s.heap [] _ hw va_S.rf ?_
  refine ⟨hl.1.trans hml.symm, hl.2.1, fun i v hi => ?_⟩
  unfold ep_ at hi
  have h1 : (el_ as)[i]? = some (some v) := by
    by_cases hlt : i < (el_ as).length
    · rw [List.getElem?_append_left hlt] at hi; exact hi
    · rw [List.getElem?_append_right (by omega)] at hi
      have := List.mem_of_getElem? hi
      rw [List.mem_replicate] at this
      cases this.2
  have h2 := el_args G as 0 i v h1
  rw [Nat.zero_add] at h2
  exact hl.2.2 _ h2
section XD
variable {Z : zz_} {M : mt_} {d : Nat} {pc k n : Nat} {lv : List (Option Value)} {st : List Value} {T : tc_}
theorem xc_return (C : cx_ Z M d) {mc ms : Nat} (kc : kc_ (z_G Z) (z_s Z)) (Q : z_Q Z = MQ (z_b Z) (pqc_ (z_G Z) T) (z_a Z) (z_s Z) mc ms (gt_A (z_G Z))) (h1 : k ≤ mc) (h2 : n ≤ ms) (D : decode M.2.1 pc = .ok (.return_, 1)) (hr : M.2.2.2 = none) : xc_ Z k n pc lv [] T := fun H locs ls hw hs hl => by
  unfold wc_
  rw [Q]
  refine W.widen (k := mc) (n := ms) h1 h2 ?_
  exact W.vret C.ex C.co (C.re.trans hr) (fun t ht hW => ⟨rfl, ⟨C.kn.warm hW, kc.moved hW.alike, by rw [ht]; exact hw.moved hW.alike⟩, hs.F ht⟩) hs.2.2 D (hlocks := C.lk)
theorem wc_ran {H : Heap} {locs : List Loc} {ls : Array Slot} {st0 rest : List Value} {T1 : tc_} {a : Array Value} {mc ms : Nat} (hr : va_Run (z_p Z) (z_l Z) (z_e Z) (z_R Z) (z_s Z) (z_m Z) (z_a Z) (z_b Z) (z_t Z) (z_c Z) H locs k n mc ms (F0 (z_m Z) pc ls st0) (rest.map (cv_ (z_G Z))) (pqc_ (z_G Z) T1 a) (gt_A (z_G Z))) (hs : va_S (gt_A (z_G Z)) (z_s Z).heap H locs) (hl : lr_ (z_G Z) ls (z_c Z).maxLocals lv)
    (K : xc_ Z (k + mc) (n + ms) (pc + 3) lv rest T1) : wc_ Z k n H locs (F0 (z_m Z) pc ls st0) := by
  intro T hT X
  obtain ⟨v, st₀, t, T', L, h0, X', hL, e1, e2, ⟨hv, ⟨hk, hkc, hh⟩, hz, hkp⟩, stp⟩ := hr T hT X
  cases hv
  rw [h0] at hz hkp
  have hal : (z_s Z).vm.Alike t.vm := by rw [← e2]; exact X'.warmed.alike
  obtain ⟨t2, a1, b1⟩ := K T'.heap (locs ++ L) ls (by rw [e1]; exact hh.moved hal.symm)
    ⟨Nat.le_trans hs.1 (by rw [e1]; exact hz), fun q h1 h2 => by rw [e1, hkp q (Nat.lt_of_lt_of_le h1 hs.1) h2]; exact hs.2.1 q h1 h2, fun q hq => by
      rcases List.mem_append.mp hq with h | h
      · exact hs.2.2 q h
      · exact hL q h⟩ hl T' rfl X'
  exact ⟨t2, stp t2 a1, b1⟩
theorem pgc_blind {G : gt_} {as : List Value} {T : tc_} : FrameBlind (fun v U => v = (as.map (cv_ G)).toArray ∧ pgc_ G T U) := fun a U g mk q => ⟨q.1, kn_.same (s := U) (U := U.calling g mk a) (show U.vm = (U.calling g mk a).vm from rfl) q.2.1, q.2.2.1.moved (U := U.calling g mk a) (Vm.Alike.refl U.vm), q.2.2.2.moved (U := U.calling g mk a) (Vm.Alike.refl U.vm)⟩
theorem xc_callI (C : cx_ Z M d) (kc : kc_ (z_G Z) (z_s Z)) {M' : mt_} {d' m' idx o mc ms : Nat} {as rest : List Value} {T1 : tc_} (hM : okc_ (z_l Z) (z_G Z) d' mc ms M' (.ref o :: as) T T1) (D : decode M.2.1 pc = .ok (.invokespecial idx, 3)) (hn1 : M'.1.name = "<init>") (hret : M'.2.2.2 = none) (ho : 0 < o ∧ o < 500) (km : mk_ M' m') (ki : Cond.instanceMethod M'.1 ∈ lw_tbl) (lk : Cond.methodLink M.1.cls idx M'.1 ∈ lw_tbl ∨ Cond.methodLinkNest M.1.cls idx M'.1 "ThumbReader" ∈ lw_tbl) (hd : d' + 1 ≤ d) (hn : as.length = m') (est : as.reverse ++ .ref o :: rest = st) (hrest : (rest.map fun v => v.category).sum ≤ 8) (h1 : k + mc ≤ (z_R Z).cells) (h2 : n + ms ≤ (z_R Z).slots) (K : xc_ Z (k + mc) (n + ms) (pc + 3) lv rest T1) : xc_ Z k n pc lv st T := fun H locs ls hw hs hl => by
  subst est
  have hr := C.fr
  have hl' := km.2.2.2
  have hG := wy_good km
  rw [show M' = (M'.1, M'.2.1, M'.2.2.1, none) from by rw [← hret]] at hM hG
  have hst : (F0 (z_m Z) pc ls ((as.reverse ++ .ref o :: rest).map (cv_ (z_G Z)))).stack = (as.map (cv_ (z_G Z))).reverse ++ .ref (gt_B (z_G Z) + o) :: rest.map (cv_ (z_G Z)) := by
    show (as.reverse ++ .ref o :: rest).map (cv_ (z_G Z)) = _
    rw [List.map_append, List.map_reverse, List.map_cons, cv_ref _ ho.1 ho.2]
  have hpre : PreS (z_s Z) H (fun v U => v = ((Value.ref o :: as).map (cv_ (z_G Z))).toArray ∧ pgc_ (z_G Z) T U) (.ref (gt_B (z_G Z) + o) :: as.map (cv_ (z_G Z))) := ⟨pgc_blind, fun U hU hW => ⟨by rw [List.map_cons, cv_ref _ ho.1 ho.2], C.kn.warm hW, kc.moved hW.alike, by rw [hU]; exact hw.moved hW.alike⟩⟩
  rcases lk with lk | lk
  · refine wc_ran (va_runI (As := as.map (cv_ (z_G Z))) (b := gt_B (z_G Z) + o) (Ts := gw_) (own := M.1.cls) (n := m') (nL := M.2.2.1) (index := idx) (cc := M.2.1) (bytes := M'.2.1) (maxL := M'.2.2.1) ⟨C.ex, C.co, C.ml, C.ow, C.ts⟩ hM ⟨?_, hn1, C.ts _ (gw_in ki rfl)⟩ hpre rfl (by rw [List.length_map]; exact hn) (hl.1.trans C.ml) hst (lv_room (cv_room hrest)) D ⟨h1, h2⟩) hs hl K
    exact callB_of m' C.ts hG rfl rfl rfl (C.ts _ (gw_in km.2.1 rfl)) (C.ts _ (gw_in lk rfl)) km.2.2.1 ⟨by show d' + 1 ≤ _; omega, by show 8 + (M'.2.2.1 + 11) + 100 * d' ≤ _; omega⟩
  · refine wc_ran (va_runIN (As := as.map (cv_ (z_G Z))) (b := gt_B (z_G Z) + o) (host := "ThumbReader") (Ts := gw_) (own := M.1.cls) (n := m') (nL := M.2.2.1) (index := idx) (cc := M.2.1) (bytes := M'.2.1) (maxL := M'.2.2.1) ⟨C.ex, C.co, C.ml, C.ow, C.ts⟩ hM ⟨?_, hn1, C.ts _ (gw_in ki rfl)⟩ hpre rfl (by rw [List.length_map]; exact hn) (hl.1.trans C.ml) hst (lv_room (cv_room hrest)) D ⟨h1, h2⟩) hs hl K
    exact va_cnB m' C.ts hG rfl rfl rfl (C.kn.2.2.2.2 _ (List.mem_filter.mpr ⟨lk, rfl⟩)) (C.ts _ (gw_in km.2.1 rfl)) km.2.2.1 ⟨by show d' + 1 ≤ _; omega, by show 8 + (M'.2.2.1 + 11) + 100 * d' ≤ _; omega⟩
end XD
