/-! ===== pieces of the functions and of their proofs ===== -/
def gd_ {α : Type} (b : Bool) (x : Option α) : Option α := if b = true then x else none
theorem gd_ok {α : Type} {b : Bool} {x : Option α} {r : α} (h : gd_ b x = some r) : b = true ∧ x = some r := by
  unfold gd_ at h
  by_cases e : b = true
  · rw [if_pos e] at h; exact ⟨e, h⟩
  · rw [if_neg e] at h; cases h
theorem ifo_ {α : Type} {c : Prop} [Decidable c] {a b x : α} (h : (if c then a else b) = x) : (c ∧ a = x) ∨ (¬ c ∧ b = x) := by
  by_cases e : c
  · rw [if_pos e] at h; exact Or.inl ⟨e, h⟩
  · rw [if_neg e] at h; exact Or.inr ⟨e, h⟩
theorem bdo_ {α β : Type} {x : Option α} {f : α → Option β} {r : β} (h : x.bind f = some r) : ∃ a, x = some a ∧ f a = some r := by
  cases x with
  | none => cases h
  | some a => exact ⟨a, rfl, h⟩
theorem pe_ {α β : Type} {p : α × β} : p = (p.1, p.2) := rfl
theorem lb_ {a b : Nat} (h : Nat.ble a b = true) : a ≤ b := Nat.le_of_ble_eq_true h
def FU_ : Nat := 5000
def bi_ (i : Int32) (n : Nat) : Bool := !(decide (i < 0) || decide (n ≤ i.toNatClampNeg))
theorem bi_ok {i : Int32} {n : Nat} (h : bi_ i n = true) : vp_in i n := by
  unfold bi_ at h
  unfold vp_in
  simpa using h
def bz_ (v : Int32) : Bool := v == 0 || v == 1
theorem bz_ok {v : Int32} (h : bz_ v = true) : v &&& 1 = v := by
  unfold bz_ at h
  rcases (Bool.or_eq_true _ _).mp h with e | e
  · rw [eq_of_beq e]; decide
  · rw [eq_of_beq e]; decide
theorem zb_0 : (0 : Int32) &&& 1 = 0 := by decide
theorem zb_1 : (1 : Int32) &&& 1 = 1 := by decide
def bn_ (v : Int32) : Bool := !(v == 0)
theorem bn_ok {v : Int32} (h : bn_ v = true) : ¬ v = 0 := by
  intro e
  subst e
  cases h
def bm_ (v : Int64) : Bool := !(v == 0)
theorem bm_ok {v : Int64} (h : bm_ v = true) : ¬ v = 0 := by
  intro e
  subst e
  cases h
def isO_ (o : Nat) : Prop := o = 39 ∨ o = 64
def bo_ (o : Nat) : Bool := o == 39 || o == 64
theorem bo_ok {o : Nat} (h : bo_ o = true) : isO_ o := by
  unfold bo_ at h
  unfold isO_
  simpa using h
def isK_ (o : Nat) : Prop := o = 89 ∨ o = 92 ∨ o = 95
theorem isO_pos {o : Nat} (h : isO_ o) : 0 < o := by rcases h with e | e <;> omega
theorem isO_lt {o : Nat} (h : isO_ o) : o < 500 := by rcases h with e | e <;> omega
theorem isK_pos {o : Nat} (h : isK_ o) : 0 < o := by rcases h with e | e | e <;> omega
theorem isK_lt {o : Nat} (h : isK_ o) : o < 500 := by rcases h with e | e | e <;> omega
theorem isK_in {i : Int32} (h : vp_in i 3) : isK_ (89 + 3 * Int32.toNatClampNeg i) := by
  have := vp_lt h
  unfold isK_
  omega
def bp_ (a : Nat) (i : Int32) : Bool := ((sh_ a).1 == 1) && bi_ i (sh_ a).2
theorem bp_sh {a : Nat} {i : Int32} (h : bp_ a i = true) : sh_ a = (1, (sh_ a).2) := by
  have h1 := (Bool.and_eq_true _ _ ▸ h : ((sh_ a).1 == 1) = true ∧ bi_ i (sh_ a).2 = true).1
  exact Prod.ext (eq_of_beq h1) rfl
theorem bp_in {a : Nat} {i : Int32} (h : bp_ a i = true) : vp_in i (sh_ a).2 := bi_ok (Bool.and_eq_true _ _ ▸ h : ((sh_ a).1 == 1) = true ∧ bi_ i (sh_ a).2 = true).2
def bc_ (sp dp n : Int32) (n0 n1 : Nat) : Bool := !(decide (sp < 0)) && (!(decide (dp < 0)) && (!(decide (n < 0)) && (decide (sp.toNatClampNeg + n.toNatClampNeg ≤ n0) && decide (dp.toNatClampNeg + n.toNatClampNeg ≤ n1))))
theorem bc_all {sp dp n : Int32} {n0 n1 : Nat} (h : bc_ sp dp n n0 n1 = true) : ¬ sp < 0 ∧ ¬ dp < 0 ∧ ¬ n < 0 ∧ sp.toNatClampNeg + n.toNatClampNeg ≤ n0 ∧ dp.toNatClampNeg + n.toNatClampNeg ≤ n1 := by
  unfold bc_ at h
  simp only [Bool.and_eq_true, Bool.not_eq_true', decide_eq_false_iff_not, decide_eq_true_eq] at h
  exact h
theorem bc_1 {sp dp n : Int32} {n0 n1 : Nat} (h : bc_ sp dp n n0 n1 = true) : ¬ sp < 0 := (bc_all h).1
theorem bc_2 {sp dp n : Int32} {n0 n1 : Nat} (h : bc_ sp dp n n0 n1 = true) : ¬ dp < 0 := (bc_all h).2.1
theorem bc_3 {sp dp n : Int32} {n0 n1 : Nat} (h : bc_ sp dp n n0 n1 = true) : ¬ n < 0 := (bc_all h).2.2.1
theorem bc_4 {sp dp n : Int32} {n0 n1 : Nat} (h : bc_ sp dp n n0 n1 = true) : sp.toNatClampNeg + n.toNatClampNeg ≤ n0 := (bc_all h).2.2.2.1
theorem bc_5 {sp dp n : Int32} {n0 n1 : Nat} (h : bc_ sp dp n n0 n1 = true) : dp.toNatClampNeg + n.toNatClampNeg ≤ n1 := (bc_all h).2.2.2.2
theorem sh_pos {k n : Nat} (h : sh_ k = (1, n)) : 0 < k := (sh_rng h (by decide)).1
theorem sh_lt {k n : Nat} (h : sh_ k = (1, n)) : k < 500 := by have := (sh_rng h (by decide)).2; omega
theorem sh_k1 : sh_ 1 = (0, 6) := rfl
theorem sh_k2 : sh_ 2 = (0, 4) := rfl
theorem sh_k3 : sh_ 3 = (2, 6) := rfl
theorem sh_k4 : sh_ 4 = (1, 40) := rfl
theorem sh_k5 : sh_ 5 = (1, 40) := rfl
theorem sh_k6 : sh_ 6 = (1, 40) := rfl
theorem sh_k7 : sh_ 7 = (1, 40) := rfl
theorem sh_k8 : sh_ 8 = (1, 40) := rfl
theorem sh_k9 : sh_ 9 = (1, 40) := rfl
theorem sh_k10 : sh_ 10 = (1, 6) := rfl
theorem sh_k11 : sh_ 11 = (0, 4) := rfl
theorem sh_k12 : sh_ 12 = (2, 4) := rfl
theorem sh_k13 : sh_ 13 = (1, 80) := rfl
theorem sh_k14 : sh_ 14 = (1, 80) := rfl
theorem sh_k15 : sh_ 15 = (1, 80) := rfl
theorem sh_k16 : sh_ 16 = (1, 80) := rfl
theorem sh_k17 : sh_ 17 = (1, 4) := rfl
theorem sh_k18 : sh_ 18 = (3, 3) := rfl
theorem sh_k19 : sh_ 19 = (0, 3) := rfl
theorem sh_k20 : sh_ 20 = (0, 2) := rfl
theorem sh_k21 : sh_ 21 = (1, 5) := rfl
theorem sh_k22 : sh_ 22 = (2, 6) := rfl
theorem sh_k23 : sh_ 23 = (1, 16) := rfl
theorem sh_k24 : sh_ 24 = (1, 16) := rfl
theorem sh_k25 : sh_ 25 = (1, 16) := rfl
theorem sh_k26 : sh_ 26 = (1, 16) := rfl
theorem sh_k27 : sh_ 27 = (1, 16) := rfl
theorem sh_k28 : sh_ 28 = (1, 16) := rfl
theorem sh_k29 : sh_ 29 = (2, 6) := rfl
theorem sh_k30 : sh_ 30 = (1, 16) := rfl
theorem sh_k31 : sh_ 31 = (1, 16) := rfl
theorem sh_k32 : sh_ 32 = (1, 16) := rfl
theorem sh_k33 : sh_ 33 = (1, 16) := rfl
theorem sh_k34 : sh_ 34 = (1, 16) := rfl
theorem sh_k35 : sh_ 35 = (1, 16) := rfl
theorem sh_k36 : sh_ 36 = (0, 5) := rfl
theorem sh_k37 : sh_ 37 = (1, 6) := rfl
theorem sh_k38 : sh_ 38 = (1, 4) := rfl
theorem sh_k39 : sh_ 39 = (0, 1) := rfl
theorem sh_k40 : sh_ 40 = (2, 5) := rfl
theorem sh_k41 : sh_ 41 = (1, 5) := rfl
theorem sh_k42 : sh_ 42 = (1, 5) := rfl
theorem sh_k43 : sh_ 43 = (1, 5) := rfl
theorem sh_k44 : sh_ 44 = (1, 5) := rfl
theorem sh_k45 : sh_ 45 = (1, 5) := rfl
theorem sh_k46 : sh_ 46 = (2, 5) := rfl
theorem sh_k47 : sh_ 47 = (1, 5) := rfl
theorem sh_k48 : sh_ 48 = (1, 5) := rfl
theorem sh_k49 : sh_ 49 = (1, 5) := rfl
theorem sh_k50 : sh_ 50 = (1, 5) := rfl
theorem sh_k51 : sh_ 51 = (1, 5) := rfl
theorem sh_k52 : sh_ 52 = (2, 4) := rfl
theorem sh_k53 : sh_ 53 = (1, 3) := rfl
theorem sh_k54 : sh_ 54 = (1, 3) := rfl
theorem sh_k55 : sh_ 55 = (1, 3) := rfl
theorem sh_k56 : sh_ 56 = (1, 3) := rfl
theorem sh_k57 : sh_ 57 = (2, 4) := rfl
theorem sh_k58 : sh_ 58 = (1, 5) := rfl
theorem sh_k59 : sh_ 59 = (1, 5) := rfl
theorem sh_k60 : sh_ 60 = (1, 5) := rfl
theorem sh_k61 : sh_ 61 = (1, 5) := rfl
theorem sh_k62 : sh_ 62 = (1, 3) := rfl
theorem sh_k63 : sh_ 63 = (1, 40) := rfl
theorem sh_k64 : sh_ 64 = (0, 1) := rfl
theorem sh_k65 : sh_ 65 = (2, 5) := rfl
theorem sh_k66 : sh_ 66 = (1, 5) := rfl
theorem sh_k67 : sh_ 67 = (1, 5) := rfl
theorem sh_k68 : sh_ 68 = (1, 5) := rfl
theorem sh_k69 : sh_ 69 = (1, 5) := rfl
theorem sh_k70 : sh_ 70 = (1, 5) := rfl
theorem sh_k71 : sh_ 71 = (2, 5) := rfl
theorem sh_k72 : sh_ 72 = (1, 5) := rfl
theorem sh_k73 : sh_ 73 = (1, 5) := rfl
theorem sh_k74 : sh_ 74 = (1, 5) := rfl
theorem sh_k75 : sh_ 75 = (1, 5) := rfl
theorem sh_k76 : sh_ 76 = (1, 5) := rfl
theorem sh_k77 : sh_ 77 = (2, 4) := rfl
theorem sh_k78 : sh_ 78 = (1, 3) := rfl
theorem sh_k79 : sh_ 79 = (1, 3) := rfl
theorem sh_k80 : sh_ 80 = (1, 3) := rfl
theorem sh_k81 : sh_ 81 = (1, 3) := rfl
theorem sh_k82 : sh_ 82 = (2, 4) := rfl
theorem sh_k83 : sh_ 83 = (1, 5) := rfl
theorem sh_k84 : sh_ 84 = (1, 5) := rfl
theorem sh_k85 : sh_ 85 = (1, 5) := rfl
theorem sh_k86 : sh_ 86 = (1, 5) := rfl
theorem sh_k87 : sh_ 87 = (1, 3) := rfl
theorem sh_k88 : sh_ 88 = (1, 40) := rfl
theorem sh_k89 : sh_ 89 = (0, 0) := rfl
theorem sh_k90 : sh_ 90 = (1, 40) := rfl
theorem sh_k91 : sh_ 91 = (1, 4) := rfl
theorem sh_k92 : sh_ 92 = (0, 0) := rfl
theorem sh_k93 : sh_ 93 = (1, 40) := rfl
theorem sh_k94 : sh_ 94 = (1, 4) := rfl
theorem sh_k95 : sh_ 95 = (0, 0) := rfl
theorem sh_k96 : sh_ 96 = (1, 40) := rfl
theorem sh_k97 : sh_ 97 = (1, 4) := rfl
theorem sh_k98 : sh_ 98 = (0, 7) := rfl
theorem sh_k99 : sh_ 99 = (1, 6) := rfl
theorem sh_k100 : sh_ 100 = (1, 6) := rfl
theorem sh_k101 : sh_ 101 = (1, 240) := rfl
theorem sh_k102 : sh_ 102 = (1, 40) := rfl
theorem sh_k103 : sh_ 103 = (1, 4) := rfl
theorem sh_k104 : sh_ 104 = (1, 320) := rfl
theorem sh_k105 : sh_ 105 = (1, 25) := rfl
theorem sh_k106 : sh_ 106 = (1, 12) := rfl
theorem sh_k107 : sh_ 107 = (1, 20) := rfl
theorem sh_k108 : sh_ 108 = (1, 60) := rfl
theorem sh_k109 : sh_ 109 = (1, 1000) := rfl
theorem sh_k110 : sh_ 110 = (1, 3090) := rfl
theorem sh_k111 : sh_ 111 = (1, 5) := rfl
theorem sh_k112 : sh_ 112 = (1, 5) := rfl
theorem sh_k113 : sh_ 113 = (1, 5) := rfl
theorem sh_k114 : sh_ 114 = (1, 4) := rfl
theorem sh_a3 : ∀ j, j < 6 → sh_ (4 + j) = (1, 40) := by decide
theorem sh_e3 {i : Int32} (h : vp_in i 6) : sh_ (4 + Int32.toNatClampNeg i) = (1, 40) := sh_a3 _ (vp_lt h)
theorem sh_a12 : ∀ j, j < 4 → sh_ (13 + j) = (1, 80) := by decide
theorem sh_e12 {i : Int32} (h : vp_in i 4) : sh_ (13 + Int32.toNatClampNeg i) = (1, 80) := sh_a12 _ (vp_lt h)
theorem sh_a22 : ∀ j, j < 6 → sh_ (23 + j) = (1, 16) := by decide
theorem sh_e22 {i : Int32} (h : vp_in i 6) : sh_ (23 + Int32.toNatClampNeg i) = (1, 16) := sh_a22 _ (vp_lt h)
theorem sh_a29 : ∀ j, j < 6 → sh_ (30 + j) = (1, 16) := by decide
theorem sh_e29 {i : Int32} (h : vp_in i 6) : sh_ (30 + Int32.toNatClampNeg i) = (1, 16) := sh_a29 _ (vp_lt h)
theorem sh_o {o : Nat} (h : isO_ o) : sh_ o = (0, 1) := by rcases h with e | e <;> subst e <;> rfl
theorem sh_o1 {o : Nat} (h : isO_ o) : sh_ (o + 1) = (2, 5) := by rcases h with e | e <;> subst e <;> rfl
theorem rc_o0 {o : Nat} (h : isO_ o) : rc_ 1 o 0 < 500 := by rcases h with e | e <;> subst e <;> decide
theorem rf_o0 {o : Nat} {h : hh_} (ho : isO_ o) : rf_ h 1 o 0 = (o + 1) := by rcases ho with e | e <;> subst e <;> rfl
theorem sh_b1 {o : Nat} (h : isO_ o) : ∀ j, j < 5 → sh_ (o + 2 + j) = (1, 5) := by rcases h with e | e <;> subst e <;> decide
theorem sh_oe1 {o : Nat} {i : Int32} (ho : isO_ o) (h : vp_in i 5) : sh_ (o + 2 + Int32.toNatClampNeg i) = (1, 5) := sh_b1 ho _ (vp_lt h)
theorem sh_o7 {o : Nat} (h : isO_ o) : sh_ (o + 7) = (2, 5) := by rcases h with e | e <;> subst e <;> rfl
theorem rc_o1 {o : Nat} (h : isO_ o) : rc_ 1 o 1 < 500 := by rcases h with e | e <;> subst e <;> decide
theorem rf_o1 {o : Nat} {h : hh_} (ho : isO_ o) : rf_ h 1 o 1 = (o + 7) := by rcases ho with e | e <;> subst e <;> rfl
theorem sh_b7 {o : Nat} (h : isO_ o) : ∀ j, j < 5 → sh_ (o + 8 + j) = (1, 5) := by rcases h with e | e <;> subst e <;> decide
theorem sh_oe7 {o : Nat} {i : Int32} (ho : isO_ o) (h : vp_in i 5) : sh_ (o + 8 + Int32.toNatClampNeg i) = (1, 5) := sh_b7 ho _ (vp_lt h)
theorem sh_o13 {o : Nat} (h : isO_ o) : sh_ (o + 13) = (2, 4) := by rcases h with e | e <;> subst e <;> rfl
theorem rc_o2 {o : Nat} (h : isO_ o) : rc_ 1 o 2 < 500 := by rcases h with e | e <;> subst e <;> decide
theorem rf_o2 {o : Nat} {h : hh_} (ho : isO_ o) : rf_ h 1 o 2 = (o + 13) := by rcases ho with e | e <;> subst e <;> rfl
theorem sh_b13 {o : Nat} (h : isO_ o) : ∀ j, j < 4 → sh_ (o + 14 + j) = (1, 3) := by rcases h with e | e <;> subst e <;> decide
theorem sh_oe13 {o : Nat} {i : Int32} (ho : isO_ o) (h : vp_in i 4) : sh_ (o + 14 + Int32.toNatClampNeg i) = (1, 3) := sh_b13 ho _ (vp_lt h)
theorem sh_o18 {o : Nat} (h : isO_ o) : sh_ (o + 18) = (2, 4) := by rcases h with e | e <;> subst e <;> rfl
theorem rc_o3 {o : Nat} (h : isO_ o) : rc_ 1 o 3 < 500 := by rcases h with e | e <;> subst e <;> decide
theorem rf_o3 {o : Nat} {h : hh_} (ho : isO_ o) : rf_ h 1 o 3 = (o + 18) := by rcases ho with e | e <;> subst e <;> rfl
theorem sh_b18 {o : Nat} (h : isO_ o) : ∀ j, j < 4 → sh_ (o + 19 + j) = (1, 5) := by rcases h with e | e <;> subst e <;> decide
theorem sh_oe18 {o : Nat} {i : Int32} (ho : isO_ o) (h : vp_in i 4) : sh_ (o + 19 + Int32.toNatClampNeg i) = (1, 5) := sh_b18 ho _ (vp_lt h)
theorem sh_o23 {o : Nat} (h : isO_ o) : sh_ (o + 23) = (1, 3) := by rcases h with e | e <;> subst e <;> rfl
theorem rc_o4 {o : Nat} (h : isO_ o) : rc_ 1 o 4 < 500 := by rcases h with e | e <;> subst e <;> decide
theorem rf_o4 {o : Nat} {h : hh_} (ho : isO_ o) : rf_ h 1 o 4 = (o + 23) := by rcases ho with e | e <;> subst e <;> rfl
theorem sh_o24 {o : Nat} (h : isO_ o) : sh_ (o + 24) = (1, 40) := by rcases h with e | e <;> subst e <;> rfl
theorem rc_o5 {o : Nat} (h : isO_ o) : rc_ 1 o 5 < 500 := by rcases h with e | e <;> subst e <;> decide
theorem rf_o5 {o : Nat} {h : hh_} (ho : isO_ o) : rf_ h 1 o 5 = (o + 24) := by rcases ho with e | e <;> subst e <;> rfl
theorem sh_kp {o : Nat} (h : isK_ o) : sh_ o = (0, 0) := by rcases h with e | e | e <;> subst e <;> rfl
theorem sh_kp0 {o : Nat} (h : isK_ o) : sh_ (o + 1) = (1, 40) := by rcases h with e | e | e <;> subst e <;> rfl
theorem rc_kp0 {o : Nat} (h : isK_ o) : rc_ 0 o 0 < 500 := by rcases h with e | e | e <;> subst e <;> decide
theorem rf_kp0 {o : Nat} {h : hh_} (ho : isK_ o) : rf_ h 0 o 0 = (o + 1) := by rcases ho with e | e | e <;> subst e <;> rfl
theorem sh_kp1 {o : Nat} (h : isK_ o) : sh_ (o + 2) = (1, 4) := by rcases h with e | e | e <;> subst e <;> rfl
theorem rc_kp1 {o : Nat} (h : isK_ o) : rc_ 0 o 1 < 500 := by rcases h with e | e | e <;> subst e <;> decide
theorem rf_kp1 {o : Nat} {h : hh_} (ho : isK_ o) : rf_ h 0 o 1 = (o + 2) := by rcases ho with e | e | e <;> subst e <;> rfl
theorem hn_N {h : hh_} {r : Nat} (hr : 0 < r ∧ r < 500) (hn : h.2.2.1 < 500 ∧ h.2.2.2.1 < 500 ∧ h.2.2.2.2 < 500) : (hh_sN h r).2.2.1 < 500 ∧ (hh_sN h r).2.2.2.1 < 500 ∧ (hh_sN h r).2.2.2.2 < 500 := ⟨hr.2, hn.2.1, hn.2.2⟩
theorem rr_N {h : hh_} {r : Nat} (k i : Nat) : rr_ (hh_sN h r) k i = if k = 1 ∧ i = 7 then r else rr_ h k i := by
  by_cases e : k = 1
  · subst e
    by_cases e2 : i = 7
    · subst e2; rfl
    · rw [if_neg (fun q => e2 q.2), rr_ob sh_k1, rr_ob sh_k1]
      unfold rf_
      simp [e2, hh_sN]
  · rw [if_neg (fun q => e q.1)]
    unfold rr_
    split
    · unfold rf_; simp [e, hh_sN]
    · rfl
theorem hn_D {h : hh_} {r : Nat} (hr : 0 < r ∧ r < 500) (hn : h.2.2.1 < 500 ∧ h.2.2.2.1 < 500 ∧ h.2.2.2.2 < 500) : (hh_sD h r).2.2.1 < 500 ∧ (hh_sD h r).2.2.2.1 < 500 ∧ (hh_sD h r).2.2.2.2 < 500 := ⟨hn.1, hr.2, hn.2.2⟩
theorem rr_D {h : hh_} {r : Nat} (k i : Nat) : rr_ (hh_sD h r) k i = if k = 1 ∧ i = 8 then r else rr_ h k i := by
  by_cases e : k = 1
  · subst e
    by_cases e2 : i = 8
    · subst e2; rfl
    · rw [if_neg (fun q => e2 q.2), rr_ob sh_k1, rr_ob sh_k1]
      unfold rf_
      simp [e2, hh_sD]
  · rw [if_neg (fun q => e q.1)]
    unfold rr_
    split
    · unfold rf_; simp [e, hh_sD]
    · rfl
theorem hn_O {h : hh_} {r : Nat} (hr : 0 < r ∧ r < 500) (hn : h.2.2.1 < 500 ∧ h.2.2.2.1 < 500 ∧ h.2.2.2.2 < 500) : (hh_sO h r).2.2.1 < 500 ∧ (hh_sO h r).2.2.2.1 < 500 ∧ (hh_sO h r).2.2.2.2 < 500 := ⟨hn.1, hn.2.1, hr.2⟩
theorem rr_O {h : hh_} {r : Nat} (k i : Nat) : rr_ (hh_sO h r) k i = if k = 19 ∧ i = 0 then r else rr_ h k i := by
  by_cases e : k = 19
  · subst e
    by_cases e2 : i = 0
    · subst e2; rfl
    · rw [if_neg (fun q => e2 q.2), rr_ob sh_k19, rr_ob sh_k19]
      unfold rf_
      simp [e2, hh_sO]
  · rw [if_neg (fun q => e q.1)]
    unfold rr_
    split
    · unfold rf_; simp [e, hh_sO]
    · rfl
theorem rt_i {Z : zz_} {v r : Int32} {h : hh_} (e : v = r) (Q : rq_ Z (some (.int r)) h) : rq_ Z (some (.int v)) h := e ▸ Q
theorem rt_ip {Z : zz_} {v r : Int32} {h : hh_} (e : some v = some r) (Q : rq_ Z (some (.int r)) h) : rq_ Z (some (.int v)) h := by cases e; exact Q
theorem rt_iw {Z : zz_} {v r : Int32} {h h' : hh_} (e : (v, h) = (r, h')) (Q : rq_ Z (some (.int r)) h') : rq_ Z (some (.int v)) h := by cases e; exact Q
theorem rt_iwp {Z : zz_} {v r : Int32} {h h' : hh_} (e : some (v, h) = some (r, h')) (Q : rq_ Z (some (.int r)) h') : rq_ Z (some (.int v)) h := by cases e; exact Q
theorem rt_l {Z : zz_} {v r : Int64} {h : hh_} (e : v = r) (Q : rq_ Z (some (.long r)) h) : rq_ Z (some (.long v)) h := e ▸ Q
theorem rt_lp {Z : zz_} {v r : Int64} {h : hh_} (e : some v = some r) (Q : rq_ Z (some (.long r)) h) : rq_ Z (some (.long v)) h := by cases e; exact Q
theorem rt_lw {Z : zz_} {v r : Int64} {h h' : hh_} (e : (v, h) = (r, h')) (Q : rq_ Z (some (.long r)) h') : rq_ Z (some (.long v)) h := by cases e; exact Q
theorem rt_lwp {Z : zz_} {v r : Int64} {h h' : hh_} (e : some (v, h) = some (r, h')) (Q : rq_ Z (some (.long r)) h') : rq_ Z (some (.long v)) h := by cases e; exact Q
theorem rt_vw {Z : zz_} {h h' : hh_} (e : h = h') (Q : rq_ Z none h') : rq_ Z none h := by cases e; exact Q
theorem rt_vwp {Z : zz_} {h h' : hh_} (e : some h = some h') (Q : rq_ Z none h') : rq_ Z none h := by cases e; exact Q
def lm_ : List Bool → List (Option Value) → List (Option Value)
  | [], _ => []
  | _, [] => []
  | true :: b, x :: l => x :: lm_ b l
  | false :: b, _ :: l => none :: lm_ b l
theorem lm_get : ∀ (b : List Bool) (l : List (Option Value)) (i : Nat) (v : Value), (lm_ b l)[i]? = some (some v) → l[i]? = some (some v)
  | [], _, i, v, h => by simp [lm_] at h
  | _ :: _, [], i, v, h => by simp [lm_] at h
  | true :: b, x :: l, 0, v, h => h
  | true :: b, x :: l, i + 1, v, h => lm_get b l i v h
  | false :: b, x :: l, 0, v, h => by simp [lm_] at h
  | false :: b, x :: l, i + 1, v, h => lm_get b l i v h
theorem xx_mask {Z : zz_} {pc : Nat} {lv : List (Option Value)} {st : List Value} {h : hh_} (b : List Bool) (K : xx_ Z pc (lm_ b lv) st h) : xx_ Z pc lv st h := fun H locs ls hw hs hl => K H locs ls hw hs ⟨hl.1, hl.2.1, fun i v e => hl.2.2 i v (lm_get b lv i v e)⟩
theorem tab_out {x : Int32} {lo hi : Int} {n : Nat} (h : ∀ k : Nat, k < n → ¬ x = Int32.ofInt (lo + k)) (e : hi = lo + n - 1) : x.toInt < lo ∨ hi < x.toInt := by
  by_cases h1 : x.toInt < lo
  · exact Or.inl h1
  · by_cases h2 : hi < x.toInt
    · exact Or.inr h2
    · exfalso
      refine h (x.toInt - lo).toNat (by omega) ?_
      rw [show lo + ((x.toInt - lo).toNat : Int) = x.toInt by omega]
      exact (Int32.ofInt_toInt x).symm
section XW
variable {Z : zz_} {M : mt_} {d : Nat} {pc : Nat} {lv : List (Option Value)} {st : List Value} {h : hh_}
theorem xx_ldcw (C : cx_ Z M d) {idx : Nat} {v : Int32} (D : decode M.2.1 pc = .ok (.ldc_w idx, 3)) (hv : Cond.constant M.1.cls idx v ∈ lw_tbl) (K : xx_ Z (pc + 3) lv (.int v :: st) h) : xx_ Z pc lv st h := fun H locs ls hw hs hl => lv_ldcw C.ex C.co C.ow (C.ts _ (gw_in hv rfl)) D (K H locs ls hw hs hl)
theorem xx_callVi (C : cx_ Z M d) {M' : mt_} {d' n idx ci o : Nat} {q : vw_C} {ty : Nat → FieldType} {as rest : List Value} {r : Int32} {h1 : hh_} (hM : ok_ (z_l Z) (z_G Z) d' M' (.ref o :: as) h (some (.int r)) h1) (D : decode M.2.1 pc = .ok (.invokevirtual idx, 3)) (ck : ck_ ci q ty) (hq : M'.1.cls = q.1) (so : sh_ o = (0, ci)) (k : mk_ M' n) (ki : mi_ M') (lk : Cond.methodLink M.1.cls idx M'.1 ∈ lw_tbl) (hd : d' + 1 ≤ d) (hn : as.length = n) (est : as.reverse ++ .ref o :: rest = st) (hrest : (rest.map fun v => v.category).sum ≤ 8) (K : xx_ Z (pc + 3) lv (.int r :: rest) h1) : xx_ Z pc lv st h := xx_callV C hM D ck hq so k ki lk hd hn est hrest K
theorem xx_callSi (C : cx_ Z M d) {M' : mt_} {d' n idx : Nat} {as rest : List Value} {r : Int32} {h1 : hh_} (hM : ok_ (z_l Z) (z_G Z) d' M' as h (some (.int r)) h1) (D : decode M.2.1 pc = .ok (.invokestatic idx, 3)) (k : mk_ M' n) (ks : Cond.static M'.1 ∈ lw_tbl) (lk : Cond.methodLink M.1.cls idx M'.1 ∈ lw_tbl) (hd : d' + 1 ≤ d) (hn : as.length = n) (est : as.reverse ++ rest = st) (hrest : (rest.map fun v => v.category).sum ≤ 8) (K : xx_ Z (pc + 3) lv (.int r :: rest) h1) : xx_ Z pc lv st h := xx_callS C hM D k ks lk hd hn est hrest K
theorem xx_callVl (C : cx_ Z M d) {M' : mt_} {d' n idx ci o : Nat} {q : vw_C} {ty : Nat → FieldType} {as rest : List Value} {r : Int64} {h1 : hh_} (hM : ok_ (z_l Z) (z_G Z) d' M' (.ref o :: as) h (some (.long r)) h1) (D : decode M.2.1 pc = .ok (.invokevirtual idx, 3)) (ck : ck_ ci q ty) (hq : M'.1.cls = q.1) (so : sh_ o = (0, ci)) (k : mk_ M' n) (ki : mi_ M') (lk : Cond.methodLink M.1.cls idx M'.1 ∈ lw_tbl) (hd : d' + 1 ≤ d) (hn : as.length = n) (est : as.reverse ++ .ref o :: rest = st) (hrest : (rest.map fun v => v.category).sum ≤ 8) (K : xx_ Z (pc + 3) lv (.long r :: rest) h1) : xx_ Z pc lv st h := xx_callV C hM D ck hq so k ki lk hd hn est hrest K
theorem xx_callSl (C : cx_ Z M d) {M' : mt_} {d' n idx : Nat} {as rest : List Value} {r : Int64} {h1 : hh_} (hM : ok_ (z_l Z) (z_G Z) d' M' as h (some (.long r)) h1) (D : decode M.2.1 pc = .ok (.invokestatic idx, 3)) (k : mk_ M' n) (ks : Cond.static M'.1 ∈ lw_tbl) (lk : Cond.methodLink M.1.cls idx M'.1 ∈ lw_tbl) (hd : d' + 1 ≤ d) (hn : as.length = n) (est : as.reverse ++ rest = st) (hrest : (rest.map fun v => v.category).sum ≤ 8) (K : xx_ Z (pc + 3) lv (.long r :: rest) h1) : xx_ Z pc lv st h := xx_callS C hM D k ks lk hd hn est hrest K
theorem xx_callVv (C : cx_ Z M d) {M' : mt_} {d' n idx ci o : Nat} {q : vw_C} {ty : Nat → FieldType} {as rest : List Value} {h1 : hh_} (hM : ok_ (z_l Z) (z_G Z) d' M' (.ref o :: as) h none h1) (D : decode M.2.1 pc = .ok (.invokevirtual idx, 3)) (ck : ck_ ci q ty) (hq : M'.1.cls = q.1) (so : sh_ o = (0, ci)) (k : mk_ M' n) (ki : mi_ M') (lk : Cond.methodLink M.1.cls idx M'.1 ∈ lw_tbl) (hd : d' + 1 ≤ d) (hn : as.length = n) (est : as.reverse ++ .ref o :: rest = st) (hrest : (rest.map fun v => v.category).sum ≤ 8) (K : xx_ Z (pc + 3) lv rest h1) : xx_ Z pc lv st h := xx_callV C hM D ck hq so k ki lk hd hn est hrest K
theorem xx_callSv (C : cx_ Z M d) {M' : mt_} {d' n idx : Nat} {as rest : List Value} {h1 : hh_} (hM : ok_ (z_l Z) (z_G Z) d' M' as h none h1) (D : decode M.2.1 pc = .ok (.invokestatic idx, 3)) (k : mk_ M' n) (ks : Cond.static M'.1 ∈ lw_tbl) (lk : Cond.methodLink M.1.cls idx M'.1 ∈ lw_tbl) (hd : d' + 1 ≤ d) (hn : as.length = n) (est : as.reverse ++ rest = st) (hrest : (rest.map fun v => v.category).sum ≤ 8) (K : xx_ Z (pc + 3) lv rest h1) : xx_ Z pc lv st h := xx_callS C hM D k ks lk hd hn est hrest K
end XW
theorem ic_m1 : Int32.ofInt (-1) = -1 := by decide
theorem ic_0 : Int32.ofInt (0) = 0 := by decide
theorem ic_1 : Int32.ofInt (1) = 1 := by decide
theorem ic_2 : Int32.ofInt (2) = 2 := by decide
theorem ic_3 : Int32.ofInt (3) = 3 := by decide
theorem ic_4 : Int32.ofInt (4) = 4 := by decide
theorem ic_5 : Int32.ofInt (5) = 5 := by decide
theorem ic_6 : Int32.ofInt (6) = 6 := by decide
theorem ic_7 : Int32.ofInt (7) = 7 := by decide
theorem ic_m9 : Int32.ofInt (-9) = -9 := by decide
theorem pn_RX0 : plainName RX0 = true := by decide +kernel
theorem pn_RX1 : plainName RX1 = true := by decide +kernel
theorem pn_RX2 : plainName RX2 = true := by decide +kernel
theorem pn_RX3 : plainName RX3 = true := by decide +kernel
theorem pn_RX4 : plainName RX4 = true := by decide +kernel
theorem pn_RX5 : plainName RX5 = true := by decide +kernel
theorem pn_RX6 : plainName RX6 = true := by decide +kernel
theorem pn_RX7 : plainName RX7 = true := by decide +kernel
theorem pn_RX8 : plainName RX8 = true := by decide +kernel
