/-! ===== where a method stands: program, launch, environment, room, start, method, arguments, frames below, its code; the run's numbers; cells, slots, goal ===== -/
abbrev zz_ : Type := Program × Launch × Env × Room × State × MethodId × Array Value × List Frame × Method × Code × gt_ × Nat × Nat × (State → Prop)
abbrev z_p (Z : zz_) : Program := Z.1
abbrev z_l (Z : zz_) : Launch := Z.2.1
abbrev z_e (Z : zz_) : Env := Z.2.2.1
abbrev z_R (Z : zz_) : Room := Z.2.2.2.1
abbrev z_s (Z : zz_) : State := Z.2.2.2.2.1
abbrev z_m (Z : zz_) : MethodId := Z.2.2.2.2.2.1
abbrev z_a (Z : zz_) : Array Value := Z.2.2.2.2.2.2.1
abbrev z_b (Z : zz_) : List Frame := Z.2.2.2.2.2.2.2.1
abbrev z_t (Z : zz_) : Method := Z.2.2.2.2.2.2.2.2.1
abbrev z_c (Z : zz_) : Code := Z.2.2.2.2.2.2.2.2.2.1
abbrev z_G (Z : zz_) : gt_ := Z.2.2.2.2.2.2.2.2.2.2.1
abbrev z_k (Z : zz_) : Nat := Z.2.2.2.2.2.2.2.2.2.2.2.1
abbrev z_n (Z : zz_) : Nat := Z.2.2.2.2.2.2.2.2.2.2.2.2.1
abbrev z_Q (Z : zz_) : State → Prop := Z.2.2.2.2.2.2.2.2.2.2.2.2.2
/-- a method: its name, bytes, locals, what it returns -/
abbrev mt_ : Type := MethodName × ByteArray × Nat × Option FieldType
def ww_ (Z : zz_) (H : Heap) (locs : List Loc) (g : JFrame) : Prop := W (z_p Z) (z_l Z) (z_e Z) (z_R Z) (z_s Z) (z_m Z) (z_a Z) (z_b Z) (z_t Z) (z_c Z) H locs (z_k Z) (z_n Z) (z_Q Z) g
/-- THE JUDGEMENT: from here, with these locals, this stack, this heap, the goal is come to -/
def xx_ (Z : zz_) (pc : Nat) (lv : List (Option Value)) (st : List Value) (h : hh_) : Prop :=
  ∀ (H : Heap) (locs : List Loc) (ls : Array Slot), hw_ (z_G Z) (z_s Z) h H → va_S (gt_A (z_G Z)) (z_s Z).heap H locs → lr_ (z_G Z) ls (z_c Z).maxLocals lv → ww_ Z H locs (F0 (z_m Z) pc ls (st.map (cv_ (z_G Z))))
def cx_ (Z : zz_) (M : mt_) (d : Nat) : Prop :=
  (z_p Z).tables.exec = Jvm.exec ∧ (z_c Z).code = M.2.1 ∧ (z_t Z).sig.returnType = M.2.2.2 ∧ (z_c Z).maxLocals = M.2.2.1 ∧ (z_s Z).vm.findClass M.1.cls = some (z_m Z).cls ∧ (∀ w ∈ gw_, w.before (z_a Z) (z_s Z) = true) ∧ kn_ (z_G Z) (z_s Z) ∧ (z_t Z).locks = false ∧ d ≤ (z_R Z).frames ∧ 100 * d ≤ (z_R Z).locals ∧ z_k Z ≤ (z_R Z).cells ∧ z_n Z ≤ (z_R Z).slots
theorem cx_.ex {Z : zz_} {M : mt_} {d : Nat} (C : cx_ Z M d) : (z_p Z).tables.exec = Jvm.exec := C.1
theorem cx_.co {Z : zz_} {M : mt_} {d : Nat} (C : cx_ Z M d) : (z_c Z).code = M.2.1 := C.2.1
theorem cx_.re {Z : zz_} {M : mt_} {d : Nat} (C : cx_ Z M d) : (z_t Z).sig.returnType = M.2.2.2 := C.2.2.1
theorem cx_.ml {Z : zz_} {M : mt_} {d : Nat} (C : cx_ Z M d) : (z_c Z).maxLocals = M.2.2.1 := C.2.2.2.1
theorem cx_.ow {Z : zz_} {M : mt_} {d : Nat} (C : cx_ Z M d) : (z_s Z).vm.findClass M.1.cls = some (z_m Z).cls := C.2.2.2.2.1
theorem cx_.ts {Z : zz_} {M : mt_} {d : Nat} (C : cx_ Z M d) : ∀ w ∈ gw_, w.before (z_a Z) (z_s Z) = true := C.2.2.2.2.2.1
theorem cx_.kn {Z : zz_} {M : mt_} {d : Nat} (C : cx_ Z M d) : kn_ (z_G Z) (z_s Z) := C.2.2.2.2.2.2.1
theorem cx_.lk {Z : zz_} {M : mt_} {d : Nat} (C : cx_ Z M d) : (z_t Z).locks = false := C.2.2.2.2.2.2.2.1
theorem cx_.fr {Z : zz_} {M : mt_} {d : Nat} (C : cx_ Z M d) : d ≤ (z_R Z).frames ∧ 100 * d ≤ (z_R Z).locals := ⟨C.2.2.2.2.2.2.2.2.1, C.2.2.2.2.2.2.2.2.2.1⟩
theorem cx_.ce {Z : zz_} {M : mt_} {d : Nat} (C : cx_ Z M d) : z_k Z ≤ (z_R Z).cells ∧ z_n Z ≤ (z_R Z).slots := ⟨C.2.2.2.2.2.2.2.2.2.2.1, C.2.2.2.2.2.2.2.2.2.2.2⟩
/-- decode rows in a list -/
abbrev dd_ (b : ByteArray) (l : List (Nat × Instr × Nat)) : Prop := ∀ q ∈ l, decode b q.1 = .ok (q.2.1, q.2.2)
theorem dd_.at {b : ByteArray} {l : List (Nat × Instr × Nat)} (h : dd_ b l) (i : Nat) {pc : Nat} {x : Instr} {n : Nat} (e : l[i]? = some (pc, x, n)) : decode b pc = .ok (x, n) := h (pc, x, n) (List.mem_of_getElem? e)
theorem gw_in {w : Cond} (h : w ∈ lw_tbl) (hg : goodWord w = true) : w ∈ gw_ := List.mem_filter.mpr ⟨h, hg⟩
section XX
variable {Z : zz_} {M : mt_} {d : Nat} {pc : Nat} {lv : List (Option Value)} {st : List Value} {h : hh_}
theorem xx_iconst (C : cx_ Z M d) {n : Int} {v : Int32} (D : decode M.2.1 pc = .ok (.iconst n, 1)) (hv : Int32.ofInt n = v) (K : xx_ Z (pc + 1) lv (.int v :: st) h) : xx_ Z pc lv (st) h := fun H locs ls hw hs hl => lv_iconst C.ex C.co D hv (K H locs ls hw hs hl)
theorem xx_bipush (C : cx_ Z M d) {n : Int} {v : Int32} (D : decode M.2.1 pc = .ok (.bipush n, 2)) (hv : (Int8.ofInt n).toInt32 = v) (K : xx_ Z (pc + 2) lv (.int v :: st) h) : xx_ Z pc lv (st) h := fun H locs ls hw hs hl => lv_bipush C.ex C.co D hv (K H locs ls hw hs hl)
theorem xx_sipush (C : cx_ Z M d) {n : Int} {v : Int32} (D : decode M.2.1 pc = .ok (.sipush n, 3)) (hv : (Int16.ofInt n).toInt32 = v) (K : xx_ Z (pc + 3) lv (.int v :: st) h) : xx_ Z pc lv (st) h := fun H locs ls hw hs hl => lv_sipush C.ex C.co D hv (K H locs ls hw hs hl)
theorem xx_lconst (C : cx_ Z M d) {n : Fin 2} {v : Int64} (D : decode M.2.1 pc = .ok (.lconst n, 1)) (hv : Int64.ofNat (n : Nat) = v) (K : xx_ Z (pc + 1) lv (.long v :: st) h) : xx_ Z pc lv (st) h := fun H locs ls hw hs hl => lv_lconst C.ex C.co D hv (K H locs ls hw hs hl)
theorem xx_ldc2 (C : cx_ Z M d) {idx : Nat} {v : Int64} (D : decode M.2.1 pc = .ok (.ldc2_w idx, 3)) (hv : Cond.constantLong M.1.cls idx v ∈ lw_tbl) (K : xx_ Z (pc + 3) lv (.long v :: st) h) : xx_ Z pc lv (st) h := fun H locs ls hw hs hl => lv_ldc2 C.ex C.co C.ow (C.ts _ (gw_in hv rfl)) D (K H locs ls hw hs hl)
theorem xx_iload_n (C : cx_ Z M d) {k : Fin 4} {x : Int32} (D : decode M.2.1 pc = .ok (.iload_n k, 1)) (e : lv[(k : Nat)]? = some (some (.int x))) (K : xx_ Z (pc + 1) lv (.int x :: st) h) : xx_ Z pc lv (st) h := fun H locs ls hw hs hl => lv_iload_n C.ex C.co D rfl (hl.2.2 _ _ e) (K H locs ls hw hs hl)
theorem xx_iload (C : cx_ Z M d) {k : Nat} {x : Int32} (D : decode M.2.1 pc = .ok (.iload k, 2)) (e : lv[k]? = some (some (.int x))) (K : xx_ Z (pc + 2) lv (.int x :: st) h) : xx_ Z pc lv (st) h := fun H locs ls hw hs hl => lv_iload C.ex C.co D (hl.2.2 _ _ e) (K H locs ls hw hs hl)
theorem xx_lload_n (C : cx_ Z M d) {k : Fin 4} {x : Int64} (D : decode M.2.1 pc = .ok (.lload_n k, 1)) (e : lv[(k : Nat)]? = some (some (.long x))) (K : xx_ Z (pc + 1) lv (.long x :: st) h) : xx_ Z pc lv (st) h := fun H locs ls hw hs hl => lv_lload_n C.ex C.co D rfl (hl.2.2 _ _ e) (K H locs ls hw hs hl)
theorem xx_lload (C : cx_ Z M d) {k : Nat} {x : Int64} (D : decode M.2.1 pc = .ok (.lload k, 2)) (e : lv[k]? = some (some (.long x))) (K : xx_ Z (pc + 2) lv (.long x :: st) h) : xx_ Z pc lv (st) h := fun H locs ls hw hs hl => lv_lload C.ex C.co D (hl.2.2 _ _ e) (K H locs ls hw hs hl)
theorem xx_aload_n (C : cx_ Z M d) {k : Fin 4} {x : Nat} (D : decode M.2.1 pc = .ok (.aload_n k, 1)) (e : lv[(k : Nat)]? = some (some (.ref x))) (hx : 0 < x) (K : xx_ Z (pc + 1) lv (.ref x :: st) h) : xx_ Z pc lv st h := fun H locs ls hw hs hl => by
  have h1 := K H locs ls hw hs hl
  have h2 := hl.2.2 _ _ e
  obtain ⟨a, ea⟩ : ∃ a, cv_ (z_G Z) (.ref x) = .ref a := by
    unfold cv_
    by_cases e2 : x < 500
    · exact ⟨_, by simp [Nat.ne_of_gt hx, e2]; rfl⟩
    · exact ⟨_, by simp [Nat.ne_of_gt hx, e2]; rfl⟩
  rw [ea] at h2
  rw [List.map_cons, ea] at h1
  exact lv_aload_n C.ex C.co D rfl h2 h1
theorem xx_aload (C : cx_ Z M d) {k : Nat} {x : Nat} (D : decode M.2.1 pc = .ok (.aload k, 2)) (e : lv[k]? = some (some (.ref x))) (hx : 0 < x) (K : xx_ Z (pc + 2) lv (.ref x :: st) h) : xx_ Z pc lv st h := fun H locs ls hw hs hl => by
  have h1 := K H locs ls hw hs hl
  have h2 := hl.2.2 _ _ e
  obtain ⟨a, ea⟩ : ∃ a, cv_ (z_G Z) (.ref x) = .ref a := by
    unfold cv_
    by_cases e2 : x < 500
    · exact ⟨_, by simp [Nat.ne_of_gt hx, e2]; rfl⟩
    · exact ⟨_, by simp [Nat.ne_of_gt hx, e2]; rfl⟩
  rw [ea] at h2
  rw [List.map_cons, ea] at h1
  exact lv_aload C.ex C.co D h2 h1
theorem xx_istore_n (C : cx_ Z M d) {k : Fin 4} {x : Int32} {lv' : List (Option Value)} (D : decode M.2.1 pc = .ok (.istore_n k, 1)) (hn : (k : Nat) < M.2.2.1) (e : l1_ lv (k : Nat) (.int x) = lv') (K : xx_ Z (pc + 1) lv' st h) : xx_ Z pc lv (.int x :: st) h := fun H locs ls hw hs hl =>
  lv_istore_n C.ex C.co D rfl (lr_has hl) (by rw [C.ml]; exact hn) rfl (fun ls' h' => K H locs ls' hw hs (e ▸ lr_store1 (v := .int x) h'.2.2 h'.1 h'.2.1))
theorem xx_istore (C : cx_ Z M d) {k : Nat} {x : Int32} {lv' : List (Option Value)} (D : decode M.2.1 pc = .ok (.istore k, 2)) (hn : k < M.2.2.1) (e : l1_ lv k (.int x) = lv') (K : xx_ Z (pc + 2) lv' st h) : xx_ Z pc lv (.int x :: st) h := fun H locs ls hw hs hl =>
  lv_istore C.ex C.co D (lr_has hl) (by rw [C.ml]; exact hn) rfl (fun ls' h' => K H locs ls' hw hs (e ▸ lr_store1 (v := .int x) h'.2.2 h'.1 h'.2.1))
theorem xx_lstore_n (C : cx_ Z M d) {k : Fin 4} {x : Int64} {lv' : List (Option Value)} (D : decode M.2.1 pc = .ok (.lstore_n k, 1)) (hn : (k : Nat) + 1 < M.2.2.1) (e : l2_ lv (k : Nat) (.long x) = lv') (K : xx_ Z (pc + 1) lv' st h) : xx_ Z pc lv (.long x :: st) h := fun H locs ls hw hs hl =>
  lv_lstore_n C.ex C.co D rfl (lr_has hl) (by rw [C.ml]; exact hn) rfl (fun ls' h' => K H locs ls' hw hs (e ▸ lr_store2 (v := .long x) h'.2.2 h'.1 h'.2.1))
theorem xx_lstore (C : cx_ Z M d) {k : Nat} {x : Int64} {lv' : List (Option Value)} (D : decode M.2.1 pc = .ok (.lstore k, 2)) (hn : k + 1 < M.2.2.1) (e : l2_ lv k (.long x) = lv') (K : xx_ Z (pc + 2) lv' st h) : xx_ Z pc lv (.long x :: st) h := fun H locs ls hw hs hl =>
  lv_lstore C.ex C.co D (lr_has hl) (by rw [C.ml]; exact hn) rfl (fun ls' h' => K H locs ls' hw hs (e ▸ lr_store2 (v := .long x) h'.2.2 h'.1 h'.2.1))
theorem xx_astore_n (C : cx_ Z M d) {k : Fin 4} {x : Nat} {lv' : List (Option Value)} (D : decode M.2.1 pc = .ok (.astore_n k, 1)) (hn : (k : Nat) < M.2.2.1) (hx : 0 < x ∧ x < 500) (e : l1_ lv (k : Nat) (.ref x) = lv') (K : xx_ Z (pc + 1) lv' st h) : xx_ Z pc lv (.ref x :: st) h := fun H locs ls hw hs hl => by
  unfold ww_
  rw [List.map_cons, cv_ref _ hx.1 hx.2]
  exact lv_astore_n C.ex C.co D rfl (lr_has hl) (by rw [C.ml]; exact hn) rfl (fun ls' h' => K H locs ls' hw hs (e ▸ lr_store1 (v := .ref x) (by rw [cv_ref _ hx.1 hx.2]; exact h'.2.2) h'.1 h'.2.1))
theorem xx_astore (C : cx_ Z M d) {k : Nat} {x : Nat} {lv' : List (Option Value)} (D : decode M.2.1 pc = .ok (.astore k, 2)) (hn : k < M.2.2.1) (hx : 0 < x ∧ x < 500) (e : l1_ lv k (.ref x) = lv') (K : xx_ Z (pc + 2) lv' st h) : xx_ Z pc lv (.ref x :: st) h := fun H locs ls hw hs hl => by
  unfold ww_
  rw [List.map_cons, cv_ref _ hx.1 hx.2]
  exact lv_astore C.ex C.co D (lr_has hl) (by rw [C.ml]; exact hn) rfl (fun ls' h' => K H locs ls' hw hs (e ▸ lr_store1 (v := .ref x) (by rw [cv_ref _ hx.1 hx.2]; exact h'.2.2) h'.1 h'.2.1))
theorem xx_iinc (C : cx_ Z M d) {i : Nat} {n : Int} {x v : Int32} {lv' : List (Option Value)} (D : decode M.2.1 pc = .ok (.iinc i n, 3)) (hn : i < M.2.2.1) (e0 : lv[i]? = some (some (.int x))) (hv : x + Int32.ofInt n = v) (e : l1_ lv i (.int v) = lv') (K : xx_ Z (pc + 3) lv' st h) : xx_ Z pc lv st h := fun H locs ls hw hs hl => by
  obtain ⟨k, hk⟩ := List.getElem?_of_mem (la_mem (G := z_G Z) (w := .int x) |>.mpr ⟨_, e0, rfl⟩)
  exact lv_iinc C.ex C.co D (lr_has hl) hk hv (by rw [C.ml]; exact hn) rfl (fun ls' h' => K H locs ls' hw hs (e ▸ lr_store1 (v := .int v) h'.2.2 h'.1 h'.2.1))
theorem xx_iadd (C : cx_ Z M d) {x y : Int32} (D : decode M.2.1 pc = .ok (.iadd, 1)) (K : xx_ Z (pc + 1) lv (.int (x + y) :: st) h) : xx_ Z pc lv (.int y :: .int x :: st) h := fun H locs ls hw hs hl => lv_iadd C.ex C.co D (K H locs ls hw hs hl)
theorem xx_isub (C : cx_ Z M d) {x y : Int32} (D : decode M.2.1 pc = .ok (.isub, 1)) (K : xx_ Z (pc + 1) lv (.int (x - y) :: st) h) : xx_ Z pc lv (.int y :: .int x :: st) h := fun H locs ls hw hs hl => lv_isub C.ex C.co D (K H locs ls hw hs hl)
theorem xx_imul (C : cx_ Z M d) {x y : Int32} (D : decode M.2.1 pc = .ok (.imul, 1)) (K : xx_ Z (pc + 1) lv (.int (x * y) :: st) h) : xx_ Z pc lv (.int y :: .int x :: st) h := fun H locs ls hw hs hl => lv_imul C.ex C.co D (K H locs ls hw hs hl)
theorem xx_iand (C : cx_ Z M d) {x y : Int32} (D : decode M.2.1 pc = .ok (.iand, 1)) (K : xx_ Z (pc + 1) lv (.int (x &&& y) :: st) h) : xx_ Z pc lv (.int y :: .int x :: st) h := fun H locs ls hw hs hl => lv_iand C.ex C.co D (K H locs ls hw hs hl)
theorem xx_ior (C : cx_ Z M d) {x y : Int32} (D : decode M.2.1 pc = .ok (.ior, 1)) (K : xx_ Z (pc + 1) lv (.int (x ||| y) :: st) h) : xx_ Z pc lv (.int y :: .int x :: st) h := fun H locs ls hw hs hl => lv_ior C.ex C.co D (K H locs ls hw hs hl)
theorem xx_ixor (C : cx_ Z M d) {x y : Int32} (D : decode M.2.1 pc = .ok (.ixor, 1)) (K : xx_ Z (pc + 1) lv (.int (x ^^^ y) :: st) h) : xx_ Z pc lv (.int y :: .int x :: st) h := fun H locs ls hw hs hl => lv_ixor C.ex C.co D (K H locs ls hw hs hl)
theorem xx_ishl (C : cx_ Z M d) {x y : Int32} (D : decode M.2.1 pc = .ok (.ishl, 1)) (K : xx_ Z (pc + 1) lv (.int (x <<< (y &&& 31)) :: st) h) : xx_ Z pc lv (.int y :: .int x :: st) h := fun H locs ls hw hs hl => lv_ishl C.ex C.co D (K H locs ls hw hs hl)
theorem xx_ishr (C : cx_ Z M d) {x y : Int32} (D : decode M.2.1 pc = .ok (.ishr, 1)) (K : xx_ Z (pc + 1) lv (.int (x >>> (y &&& 31)) :: st) h) : xx_ Z pc lv (.int y :: .int x :: st) h := fun H locs ls hw hs hl => lv_ishr C.ex C.co D (K H locs ls hw hs hl)
theorem xx_idiv (C : cx_ Z M d) {x y : Int32} (D : decode M.2.1 pc = .ok (.idiv, 1)) (hne : ¬ y = 0) (K : xx_ Z (pc + 1) lv (.int (x / y) :: st) h) : xx_ Z pc lv (.int y :: .int x :: st) h := fun H locs ls hw hs hl => lv_idiv C.ex C.co D hne (K H locs ls hw hs hl)
theorem xx_irem (C : cx_ Z M d) {x y : Int32} (D : decode M.2.1 pc = .ok (.irem, 1)) (hne : ¬ y = 0) (K : xx_ Z (pc + 1) lv (.int (x - x / y * y) :: st) h) : xx_ Z pc lv (.int y :: .int x :: st) h := fun H locs ls hw hs hl => lv_irem C.ex C.co D hne (K H locs ls hw hs hl)
theorem xx_ladd (C : cx_ Z M d) {x y : Int64} (D : decode M.2.1 pc = .ok (.ladd, 1)) (K : xx_ Z (pc + 1) lv (.long (x + y) :: st) h) : xx_ Z pc lv (.long y :: .long x :: st) h := fun H locs ls hw hs hl => lv_ladd C.ex C.co D (K H locs ls hw hs hl)
theorem xx_lmul (C : cx_ Z M d) {x y : Int64} (D : decode M.2.1 pc = .ok (.lmul, 1)) (K : xx_ Z (pc + 1) lv (.long (x * y) :: st) h) : xx_ Z pc lv (.long y :: .long x :: st) h := fun H locs ls hw hs hl => lv_lmul C.ex C.co D (K H locs ls hw hs hl)
theorem xx_ldiv (C : cx_ Z M d) {x y : Int64} (D : decode M.2.1 pc = .ok (.ldiv, 1)) (hne : ¬ y = 0) (K : xx_ Z (pc + 1) lv (.long (x / y) :: st) h) : xx_ Z pc lv (.long y :: .long x :: st) h := fun H locs ls hw hs hl => lv_ldiv C.ex C.co D hne (K H locs ls hw hs hl)
theorem xx_lrem (C : cx_ Z M d) {x y : Int64} (D : decode M.2.1 pc = .ok (.lrem, 1)) (hne : ¬ y = 0) (K : xx_ Z (pc + 1) lv (.long (x - x / y * y) :: st) h) : xx_ Z pc lv (.long y :: .long x :: st) h := fun H locs ls hw hs hl => lv_lrem C.ex C.co D hne (K H locs ls hw hs hl)
theorem xx_lcmp (C : cx_ Z M d) {x y : Int64} (D : decode M.2.1 pc = .ok (.lcmp, 1)) (K : xx_ Z (pc + 1) lv (.int (lg_cmp x y) :: st) h) : xx_ Z pc lv (.long y :: .long x :: st) h := fun H locs ls hw hs hl => W.lcmp C.ex C.co D (K H locs ls hw hs hl)
theorem xx_i2l (C : cx_ Z M d) {x : Int32} (D : decode M.2.1 pc = .ok (.i2l, 1)) (K : xx_ Z (pc + 1) lv (.long x.toInt64 :: st) h) : xx_ Z pc lv (.int x :: st) h := fun H locs ls hw hs hl => lv_i2l C.ex C.co D rfl (K H locs ls hw hs hl)
theorem xx_l2i (C : cx_ Z M d) {x : Int64} (D : decode M.2.1 pc = .ok (.l2i, 1)) (K : xx_ Z (pc + 1) lv (.int x.toInt32 :: st) h) : xx_ Z pc lv (.long x :: st) h := fun H locs ls hw hs hl => lv_l2i C.ex C.co D rfl (K H locs ls hw hs hl)
theorem xx_i2b (C : cx_ Z M d) {x : Int32} (D : decode M.2.1 pc = .ok (.i2b, 1)) (K : xx_ Z (pc + 1) lv (.int x.toInt8.toInt32 :: st) h) : xx_ Z pc lv (.int x :: st) h := fun H locs ls hw hs hl => lv_i2b C.ex C.co D rfl (K H locs ls hw hs hl)
theorem xx_dup (C : cx_ Z M d) {a : Value} (D : decode M.2.1 pc = .ok (.dup, 1)) (hc : a.category = 1) (K : xx_ Z (pc + 1) lv (a :: a :: st) h) : xx_ Z pc lv (a :: st) h := fun H locs ls hw hs hl => lv_dup C.ex C.co D ((cv_cat _ _).trans hc) (K H locs ls hw hs hl)
theorem xx_pop (C : cx_ Z M d) {a : Value} (D : decode M.2.1 pc = .ok (.pop, 1)) (hc : a.category = 1) (K : xx_ Z (pc + 1) lv (st) h) : xx_ Z pc lv (a :: st) h := fun H locs ls hw hs hl => lv_pop C.ex C.co D ((cv_cat _ _).trans hc) (K H locs ls hw hs hl)
theorem xx_dup2 (C : cx_ Z M d) {a b : Value} (D : decode M.2.1 pc = .ok (.dup2, 1)) (hc : a.category = 1) (hc2 : b.category = 1) (K : xx_ Z (pc + 1) lv (a :: b :: a :: b :: st) h) : xx_ Z pc lv (a :: b :: st) h := fun H locs ls hw hs hl => lv_dup2_11 C.ex C.co D ((cv_cat _ _).trans hc) ((cv_cat _ _).trans hc2) (K H locs ls hw hs hl)
theorem xx_if_eq_t (C : cx_ Z M d) {x : Int32} {off : Int} {tgt : Nat} (D : decode M.2.1 pc = .ok (.ifCond .eq off, 3)) (ht : (pc : Int) + off = (tgt : Int)) (hc : x = 0) (K : xx_ Z tgt lv st h) : xx_ Z pc lv (.int x :: st) h := fun H locs ls hw hs hl => lv_if_eq C.ex C.co D ht (fun _ => K H locs ls hw hs hl) (fun q => absurd hc q)
theorem xx_if_eq_f (C : cx_ Z M d) {x : Int32} {off : Int} {tgt : Nat} (D : decode M.2.1 pc = .ok (.ifCond .eq off, 3)) (ht : (pc : Int) + off = (tgt : Int)) (hc : ¬ x = 0) (K : xx_ Z (pc + 3) lv st h) : xx_ Z pc lv (.int x :: st) h := fun H locs ls hw hs hl => lv_if_eq C.ex C.co D ht (fun q => absurd q hc) (fun _ => K H locs ls hw hs hl)
theorem xx_icmp_eq_t (C : cx_ Z M d) {x y : Int32} {off : Int} {tgt : Nat} (D : decode M.2.1 pc = .ok (.if_icmp .eq off, 3)) (ht : (pc : Int) + off = (tgt : Int)) (hc : x = y) (K : xx_ Z tgt lv st h) : xx_ Z pc lv (.int y :: .int x :: st) h := fun H locs ls hw hs hl => lv_icmp_eq C.ex C.co D ht (fun _ => K H locs ls hw hs hl) (fun q => absurd hc q)
theorem xx_icmp_eq_f (C : cx_ Z M d) {x y : Int32} {off : Int} {tgt : Nat} (D : decode M.2.1 pc = .ok (.if_icmp .eq off, 3)) (ht : (pc : Int) + off = (tgt : Int)) (hc : ¬ x = y) (K : xx_ Z (pc + 3) lv st h) : xx_ Z pc lv (.int y :: .int x :: st) h := fun H locs ls hw hs hl => lv_icmp_eq C.ex C.co D ht (fun q => absurd q hc) (fun _ => K H locs ls hw hs hl)
theorem xx_if_ne_t (C : cx_ Z M d) {x : Int32} {off : Int} {tgt : Nat} (D : decode M.2.1 pc = .ok (.ifCond .ne off, 3)) (ht : (pc : Int) + off = (tgt : Int)) (hc : ¬ x = 0) (K : xx_ Z tgt lv st h) : xx_ Z pc lv (.int x :: st) h := fun H locs ls hw hs hl => lv_if_ne C.ex C.co D ht (fun _ => K H locs ls hw hs hl) (fun q => absurd q hc)
theorem xx_if_ne_f (C : cx_ Z M d) {x : Int32} {off : Int} {tgt : Nat} (D : decode M.2.1 pc = .ok (.ifCond .ne off, 3)) (ht : (pc : Int) + off = (tgt : Int)) (hc : ¬ ¬ x = 0) (K : xx_ Z (pc + 3) lv st h) : xx_ Z pc lv (.int x :: st) h := fun H locs ls hw hs hl => lv_if_ne C.ex C.co D ht (fun q => absurd q hc) (fun _ => K H locs ls hw hs hl)
theorem xx_icmp_ne_t (C : cx_ Z M d) {x y : Int32} {off : Int} {tgt : Nat} (D : decode M.2.1 pc = .ok (.if_icmp .ne off, 3)) (ht : (pc : Int) + off = (tgt : Int)) (hc : ¬ x = y) (K : xx_ Z tgt lv st h) : xx_ Z pc lv (.int y :: .int x :: st) h := fun H locs ls hw hs hl => lv_icmp_ne C.ex C.co D ht (fun _ => K H locs ls hw hs hl) (fun q => absurd q hc)
theorem xx_icmp_ne_f (C : cx_ Z M d) {x y : Int32} {off : Int} {tgt : Nat} (D : decode M.2.1 pc = .ok (.if_icmp .ne off, 3)) (ht : (pc : Int) + off = (tgt : Int)) (hc : ¬ ¬ x = y) (K : xx_ Z (pc + 3) lv st h) : xx_ Z pc lv (.int y :: .int x :: st) h := fun H locs ls hw hs hl => lv_icmp_ne C.ex C.co D ht (fun q => absurd q hc) (fun _ => K H locs ls hw hs hl)
theorem xx_if_lt_t (C : cx_ Z M d) {x : Int32} {off : Int} {tgt : Nat} (D : decode M.2.1 pc = .ok (.ifCond .lt off, 3)) (ht : (pc : Int) + off = (tgt : Int)) (hc : x < 0) (K : xx_ Z tgt lv st h) : xx_ Z pc lv (.int x :: st) h := fun H locs ls hw hs hl => lv_if_lt C.ex C.co D ht (fun _ => K H locs ls hw hs hl) (fun q => absurd hc q)
theorem xx_if_lt_f (C : cx_ Z M d) {x : Int32} {off : Int} {tgt : Nat} (D : decode M.2.1 pc = .ok (.ifCond .lt off, 3)) (ht : (pc : Int) + off = (tgt : Int)) (hc : ¬ x < 0) (K : xx_ Z (pc + 3) lv st h) : xx_ Z pc lv (.int x :: st) h := fun H locs ls hw hs hl => lv_if_lt C.ex C.co D ht (fun q => absurd q hc) (fun _ => K H locs ls hw hs hl)
theorem xx_icmp_lt_t (C : cx_ Z M d) {x y : Int32} {off : Int} {tgt : Nat} (D : decode M.2.1 pc = .ok (.if_icmp .lt off, 3)) (ht : (pc : Int) + off = (tgt : Int)) (hc : x < y) (K : xx_ Z tgt lv st h) : xx_ Z pc lv (.int y :: .int x :: st) h := fun H locs ls hw hs hl => lv_icmp_lt C.ex C.co D ht (fun _ => K H locs ls hw hs hl) (fun q => absurd hc q)
theorem xx_icmp_lt_f (C : cx_ Z M d) {x y : Int32} {off : Int} {tgt : Nat} (D : decode M.2.1 pc = .ok (.if_icmp .lt off, 3)) (ht : (pc : Int) + off = (tgt : Int)) (hc : ¬ x < y) (K : xx_ Z (pc + 3) lv st h) : xx_ Z pc lv (.int y :: .int x :: st) h := fun H locs ls hw hs hl => lv_icmp_lt C.ex C.co D ht (fun q => absurd q hc) (fun _ => K H locs ls hw hs hl)
theorem xx_if_ge_t (C : cx_ Z M d) {x : Int32} {off : Int} {tgt : Nat} (D : decode M.2.1 pc = .ok (.ifCond .ge off, 3)) (ht : (pc : Int) + off = (tgt : Int)) (hc : 0 ≤ x) (K : xx_ Z tgt lv st h) : xx_ Z pc lv (.int x :: st) h := fun H locs ls hw hs hl => lv_if_ge C.ex C.co D ht (fun _ => K H locs ls hw hs hl) (fun q => absurd hc q)
theorem xx_if_ge_f (C : cx_ Z M d) {x : Int32} {off : Int} {tgt : Nat} (D : decode M.2.1 pc = .ok (.ifCond .ge off, 3)) (ht : (pc : Int) + off = (tgt : Int)) (hc : ¬ 0 ≤ x) (K : xx_ Z (pc + 3) lv st h) : xx_ Z pc lv (.int x :: st) h := fun H locs ls hw hs hl => lv_if_ge C.ex C.co D ht (fun q => absurd q hc) (fun _ => K H locs ls hw hs hl)
theorem xx_icmp_ge_t (C : cx_ Z M d) {x y : Int32} {off : Int} {tgt : Nat} (D : decode M.2.1 pc = .ok (.if_icmp .ge off, 3)) (ht : (pc : Int) + off = (tgt : Int)) (hc : y ≤ x) (K : xx_ Z tgt lv st h) : xx_ Z pc lv (.int y :: .int x :: st) h := fun H locs ls hw hs hl => lv_icmp_ge C.ex C.co D ht (fun _ => K H locs ls hw hs hl) (fun q => absurd hc q)
theorem xx_icmp_ge_f (C : cx_ Z M d) {x y : Int32} {off : Int} {tgt : Nat} (D : decode M.2.1 pc = .ok (.if_icmp .ge off, 3)) (ht : (pc : Int) + off = (tgt : Int)) (hc : ¬ y ≤ x) (K : xx_ Z (pc + 3) lv st h) : xx_ Z pc lv (.int y :: .int x :: st) h := fun H locs ls hw hs hl => lv_icmp_ge C.ex C.co D ht (fun q => absurd q hc) (fun _ => K H locs ls hw hs hl)
theorem xx_if_gt_t (C : cx_ Z M d) {x : Int32} {off : Int} {tgt : Nat} (D : decode M.2.1 pc = .ok (.ifCond .gt off, 3)) (ht : (pc : Int) + off = (tgt : Int)) (hc : 0 < x) (K : xx_ Z tgt lv st h) : xx_ Z pc lv (.int x :: st) h := fun H locs ls hw hs hl => lv_if_gt C.ex C.co D ht (fun _ => K H locs ls hw hs hl) (fun q => absurd hc q)
theorem xx_if_gt_f (C : cx_ Z M d) {x : Int32} {off : Int} {tgt : Nat} (D : decode M.2.1 pc = .ok (.ifCond .gt off, 3)) (ht : (pc : Int) + off = (tgt : Int)) (hc : ¬ 0 < x) (K : xx_ Z (pc + 3) lv st h) : xx_ Z pc lv (.int x :: st) h := fun H locs ls hw hs hl => lv_if_gt C.ex C.co D ht (fun q => absurd q hc) (fun _ => K H locs ls hw hs hl)
theorem xx_icmp_gt_t (C : cx_ Z M d) {x y : Int32} {off : Int} {tgt : Nat} (D : decode M.2.1 pc = .ok (.if_icmp .gt off, 3)) (ht : (pc : Int) + off = (tgt : Int)) (hc : y < x) (K : xx_ Z tgt lv st h) : xx_ Z pc lv (.int y :: .int x :: st) h := fun H locs ls hw hs hl => lv_icmp_gt C.ex C.co D ht (fun _ => K H locs ls hw hs hl) (fun q => absurd hc q)
theorem xx_icmp_gt_f (C : cx_ Z M d) {x y : Int32} {off : Int} {tgt : Nat} (D : decode M.2.1 pc = .ok (.if_icmp .gt off, 3)) (ht : (pc : Int) + off = (tgt : Int)) (hc : ¬ y < x) (K : xx_ Z (pc + 3) lv st h) : xx_ Z pc lv (.int y :: .int x :: st) h := fun H locs ls hw hs hl => lv_icmp_gt C.ex C.co D ht (fun q => absurd q hc) (fun _ => K H locs ls hw hs hl)
theorem xx_if_le_t (C : cx_ Z M d) {x : Int32} {off : Int} {tgt : Nat} (D : decode M.2.1 pc = .ok (.ifCond .le off, 3)) (ht : (pc : Int) + off = (tgt : Int)) (hc : x ≤ 0) (K : xx_ Z tgt lv st h) : xx_ Z pc lv (.int x :: st) h := fun H locs ls hw hs hl => lv_if_le C.ex C.co D ht (fun _ => K H locs ls hw hs hl) (fun q => absurd hc q)
theorem xx_if_le_f (C : cx_ Z M d) {x : Int32} {off : Int} {tgt : Nat} (D : decode M.2.1 pc = .ok (.ifCond .le off, 3)) (ht : (pc : Int) + off = (tgt : Int)) (hc : ¬ x ≤ 0) (K : xx_ Z (pc + 3) lv st h) : xx_ Z pc lv (.int x :: st) h := fun H locs ls hw hs hl => lv_if_le C.ex C.co D ht (fun q => absurd q hc) (fun _ => K H locs ls hw hs hl)
theorem xx_icmp_le_t (C : cx_ Z M d) {x y : Int32} {off : Int} {tgt : Nat} (D : decode M.2.1 pc = .ok (.if_icmp .le off, 3)) (ht : (pc : Int) + off = (tgt : Int)) (hc : x ≤ y) (K : xx_ Z tgt lv st h) : xx_ Z pc lv (.int y :: .int x :: st) h := fun H locs ls hw hs hl => lv_icmp_le C.ex C.co D ht (fun _ => K H locs ls hw hs hl) (fun q => absurd hc q)
theorem xx_icmp_le_f (C : cx_ Z M d) {x y : Int32} {off : Int} {tgt : Nat} (D : decode M.2.1 pc = .ok (.if_icmp .le off, 3)) (ht : (pc : Int) + off = (tgt : Int)) (hc : ¬ x ≤ y) (K : xx_ Z (pc + 3) lv st h) : xx_ Z pc lv (.int y :: .int x :: st) h := fun H locs ls hw hs hl => lv_icmp_le C.ex C.co D ht (fun q => absurd q hc) (fun _ => K H locs ls hw hs hl)
theorem xx_goto (C : cx_ Z M d) {off : Int} {tgt : Nat} (D : decode M.2.1 pc = .ok (.goto off, 3)) (ht : (pc : Int) + off = (tgt : Int)) (K : xx_ Z tgt lv st h) : xx_ Z pc lv st h := fun H locs ls hw hs hl => lv_goto C.ex C.co D ht (K H locs ls hw hs hl)
theorem xx_tabOut (C : cx_ Z M d) {dflt lo hi : Int} {offs : Array Int} {len : Nat} {x : Int32} {tgt : Nat} (D : decode M.2.1 pc = .ok (.tableswitch dflt lo hi offs, len)) (hc : x.toInt < lo ∨ hi < x.toInt) (ht : (pc : Int) + dflt = (tgt : Int)) (K : xx_ Z tgt lv st h) : xx_ Z pc lv (.int x :: st) h := fun H locs ls hw hs hl => lv_tableOut C.ex C.co D hc ht (K H locs ls hw hs hl)
theorem xx_tabIn (C : cx_ Z M d) {dflt lo hi : Int} {offs : Array Int} {len : Nat} {x : Int32} {off : Int} {tgt : Nat} (D : decode M.2.1 pc = .ok (.tableswitch dflt lo hi offs, len)) (h1 : ¬ x.toInt < lo) (h2 : ¬ hi < x.toInt) (ho : offs[(x.toInt - lo).toNat]? = some off) (ht : (pc : Int) + off = (tgt : Int)) (K : xx_ Z tgt lv st h) : xx_ Z pc lv (.int x :: st) h := fun H locs ls hw hs hl => lv_tableIn C.ex C.co D h1 h2 ho ht (K H locs ls hw hs hl)
end XX
