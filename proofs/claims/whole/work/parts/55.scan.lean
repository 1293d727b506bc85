/-! ===== a text read: the class by signs, the reference by items ===== -/
def nf_k (k : Nat) : Nat := if k = 1 then 2 else 5
def lo_k (k f : Nat) : Nat := if k = 2 ∧ f = 4 then 1 else 0
def hi_k (k f : Nat) : Nat := if k = 0 then (if f = 4 then 3 else 5) else if k = 1 then (if f = 0 then 2 else 3) else (if f = 4 then 9 else 6)
def mi_k (k : Nat) : Nat := if k = 0 then 5 else 4
def cb_k (k : Nat) : Nat := if k = 0 then 2 else if k = 1 then 14 else 19
def po_k (k : Nat) : Nat := if k = 1 then 1 else 0
theorem sn0_k : ∀ k, k < 3 → (sn_ 0).2.getD k 0 = nI (nf_k k) := by decide +kernel
theorem sn1_k : ∀ k, k < 3 → ∀ f, f < nf_k k → (sn_ 1).2.getD (k * 5 + f) 0 = nI (lo_k k f) := by decide +kernel
theorem sn2_k : ∀ k, k < 3 → ∀ f, f < nf_k k → (sn_ 2).2.getD (k * 5 + f) 0 = nI (hi_k k f) := by decide +kernel
theorem sn4_k : ∀ k, k < 3 → (sn_ 4).2.getD k 0 = nI (mi_k k) := by decide +kernel
theorem b_k : ∀ k, k < 3 → ∀ f, f < nf_k k → lo_k k f ≤ hi_k k f ∧ hi_k k f ≤ 9 ∧ k * 5 + f < 15 ∧ nf_k k ≤ 5 ∧ po_k k + f < 5 := by decide +kernel
theorem z_m9 {n : Nat} (h : n < 2 ^ 31) : ¬ nI n = -9 := by
  intro v
  have v2 := congrArg Int32.toInt v
  rw [nI_toInt h, show (-9 : Int32).toInt = -9 from rfl] at v2
  omega
/-- a figure taken by the class -/
theorem z_tF {o k f c : Nat} {a1 : Int32} {h : hh_} (bo : bo_ o = true) (eo : h.2.2.2.2 = o) (hk : k < 3) (hf : f < nf_k k) (hc : c < mi_k k) (e1 : h.1 19 1 = nI k) (e2 : h.1 19 2 = nI (nf_k k - f)) (e3 : h.1 (o + 23) k = nI (c + 1)) (ho : o = 39 ∨ o = 64) :
    (∃ v, lo_k k f ≤ v ∧ v ≤ hi_k k f ∧ a1 - 48 = nI v ∧ ff_X8_in (a1 - 48) (nI (lo_k k f)) (nI (hi_k k f)) = 1 ∧ ff_X4_takesFigure a1 h = some (1, hh_sI (hh_sI h (o + cb_k k + c) (po_k k + f) (nI v)) 19 2 (nI (nf_k k - (f + 1))))) ∨ (ff_X8_in (a1 - 48) (nI (lo_k k f)) (nI (hi_k k f)) = 0 ∧ ff_X4_takesFigure a1 h = some (0, h)) := by
  obtain ⟨b1, b2, b3, b4, b5⟩ := b_k k hk f hf
  have sub : nI (nf_k k) - nI (nf_k k - f) = nI f := by rw [pk_sub (by omega)]; exact congrArg nI (by omega)
  have low : ff_X4_takesFigure a1 h = if (a1 - 48) < nI (lo_k k f) then some (0, h) else if (a1 - 48) ≤ nI (hi_k k f) then some (1, hh_sI (hh_sI h (o + cb_k k + c) (po_k k + f) (a1 - 48)) 19 2 (nI (nf_k k - (f + 1)))) else some (0, h) := by
    have s2 : nI (nf_k k - f) - 1 = nI (nf_k k - (f + 1)) := by
      rw [show (1 : Int32) = nI 1 from rfl, pk_sub (by omega)]
      exact congrArg nI (by omega)
    have sc : nI (c + 1) - 1 = nI c := pk_sub (a := c + 1) (b := 1) (by omega)
    unfold ff_X4_takesFigure
    rw [e1, e2, gd_n hk (by decide), nI_clamp (show k < 2 ^ 31 by omega), sn0_k k hk, sub, show (5 : Int32) = nI 5 from rfl, pk_mul, nI_add, gd_n b3 (by decide), nI_clamp (show k * 5 + f < 2 ^ 31 by omega), sn1_k k hk f hf, sn2_k k hk f hf, eo, gd_t bo, e3, sc]
    rcases (show k = 0 ∨ k = 1 ∨ k = 2 by omega) with rfl | rfl | rfl
    · have hc : c < 5 := hc
      have hf : f < 5 := hf
      rw [if_pos (show nI 0 = 0 from rfl), gd_n hc (by decide), gd_n hf (by decide), nI_clamp (by omega), nI_clamp (by omega), sI_ne (show 19 ≠ o + 2 + c by omega), e2, s2]
      rw [show po_k 0 + f = f from Nat.zero_add f]
      rfl
    · have hc : c < 4 := hc
      have hf : f < 2 := hf
      rw [if_neg (show ¬ nI 1 = 0 by decide), if_pos (show nI 1 = 1 from rfl), gd_n hc (by decide), show (1 : Int32) + nI f = nI (1 + f) from nI_add 1 f, gd_n (show 1 + f < 3 by omega) (by decide), nI_clamp (by omega), nI_clamp (by omega), sI_ne (show 19 ≠ o + 14 + c by omega), e2, s2]
      rfl
    · have hc : c < 4 := hc
      have hf : f < 5 := hf
      rw [if_neg (show ¬ nI 2 = 0 by decide), if_neg (show ¬ nI 2 = 1 by decide), gd_n hc (by decide), gd_n hf (by decide), nI_clamp (by omega), nI_clamp (by omega), sI_ne (show 19 ≠ o + 19 + c by omega), e2, s2]
      rw [show po_k 2 + f = f from Nat.zero_add f]
      rfl
  rcases r1_ (a1 - 48) (lo_k k f) (hi_k k f) b1 (by omega) with ⟨v, h1, h2, ev, q1, q2, q3⟩ | ⟨q1, q3⟩
  · refine Or.inl ⟨v, h1, h2, ev, q3, ?_⟩
    rw [low, if_neg q1, if_pos (by rw [ev]; exact nI_le h2 (by omega)), ev]
  · refine Or.inr ⟨q3, ?_⟩
    rw [low]
    rcases q1 with q | ⟨q, q2⟩
    · rw [if_pos q]
    · rw [if_neg q, if_neg]
      rw [Int32.lt_iff_toInt_lt] at q2
      rw [Int32.le_iff_toInt_le]
      omega
/-- the texts: the class's and the reference's -/
def zC_ (o r n : Nat) (S : Nat → Int32) (h : hh_) : Prop := h.2.2.2.2 = o ∧ ∀ x, x < n → h.1 (13 + r) x = S x
def zM_ (r n : Nat) (S : Nat → Int32) (h : hh_) : Prop := h.1 103 r = nI n ∧ ∀ x, x < n → h.1 104 (80 * r + x) = S x
theorem zC_.fr {o r n : Nat} {S : Nat → Int32} {h h' : hh_} (e2 : h'.2 = h.2) (e : ∀ x, h'.1 (13 + r) x = h.1 (13 + r) x) (Z : zC_ o r n S h) : zC_ o r n S h' := ⟨by rw [e2]; exact Z.1, fun x hx => by rw [e]; exact Z.2 x hx⟩
theorem zM_.fr {r n : Nat} {S : Nat → Int32} {h h' : hh_} (e1 : ∀ x, h'.1 103 x = h.1 103 x) (e : ∀ x, h'.1 104 x = h.1 104 x) (Z : zM_ r n S h) : zM_ r n S h' := ⟨by rw [e1]; exact Z.1, fun x hx => by rw [e]; exact Z.2 x hx⟩
theorem sh13 : ∀ r, r < 4 → sh_ (13 + r) = (1, 80) := by decide +kernel
theorem bp_t {r x : Nat} (hr : r < 4) (hx : x < 80) : bp_ (13 + r) (nI x) = true := by
  unfold bp_
  rw [sh13 r hr]
  exact bi_t hx (by decide)
def zK_ (n : Nat) (k7 : hh_) : Option (Int32 × hh_) := if 0 < (k7.1 19 2) then some (nI n, k7) else gd_ (bo_ k7.2.2.2.2) <| if (k7.1 (k7.2.2.2.2 + 23) (Int32.toNatClampNeg (0 : Int32))) = 0 then some (nI n, k7) else some ((-9 : Int32), k7)
theorem z_he {r n x : Nat} {S : Nat → Int32} {h : hh_} (hr : r < 4) (hn : n ≤ 80) (Z : zM_ r n S h) (hx : x ≤ n) (e : h.1 98 16 = nI x) : ff_X8_here (nI r) h = some (if x < n then S x else -9) := by
  unfold ff_X8_here
  rw [gd_n hr (by decide), nI_clamp (by omega), Z.1, e]
  by_cases q : x < n
  · rw [if_neg (nI_ge q (by omega)), if_pos q, show (80 : Int32) = nI 80 from rfl, pk_mul, nI_add, gd_n (by omega) (by decide), nI_clamp (by omega), Z.2 x q]
  · rw [if_pos (nI_le (by omega) (by omega)), if_neg q]
/-- one figure in both -/
theorem z_f1 {o r n x k f c q m : Nat} {S : Nat → Int32} {hC hM : hh_} (bo : bo_ o = true) (ho : o = 39 ∨ o = 64) (hr : r < 4) (hn : n ≤ 80) (ZC : zC_ o r n S hC) (ZM : zM_ r n S hM) (hk : k < 3) (hf : f < nf_k k) (hc : c < mi_k k) (e1 : hC.1 19 1 = nI k) (e2 : hC.1 19 2 = nI (nf_k k - f)) (e3 : hC.1 (o + 23) k = nI (c + 1)) (eM : hM.1 98 16 = nI x) (hx : x ≤ n) (hq : q < 60) :
    (ff_X4_into_51 (13 + r) (nI n) (zK_ n) (m + (n - x) + 1) (nI x) hC = some (nI x, hC) ∧ ff_X8_figure (nI r) (nI q) (nI (lo_k k f)) (nI (hi_k k f)) hM = some (0, hM)) ∨
    (x < n ∧ ∃ v, lo_k k f ≤ v ∧ v ≤ hi_k k f ∧ ff_X4_into_51 (13 + r) (nI n) (zK_ n) (m + (n - x) + 1) (nI x) hC = ff_X4_into_51 (13 + r) (nI n) (zK_ n) (m + (n - (x + 1)) + 1) (nI (x + 1)) (hh_sI (hh_sI hC (o + cb_k k + c) (po_k k + f) (nI v)) 19 2 (nI (nf_k k - (f + 1)))) ∧ ff_X8_figure (nI r) (nI q) (nI (lo_k k f)) (nI (hi_k k f)) hM = some (1, hh_sI (hh_sI hM 108 q (nI v)) 98 16 (nI (x + 1)))) := by
  obtain ⟨b1, b2, b3, b4, b5⟩ := b_k k hk f hf
  have he := z_he hr hn ZM hx eM
  by_cases xn : x < n
  · rw [if_pos xn] at he
    have step : ff_X4_into_51 (13 + r) (nI n) (zK_ n) (m + (n - x) + 1) (nI x) hC = (ff_X4_takesFigure (S x) hC).bind fun v3 => (gd_ (bz_ v3.1) (some (v3.1, v3.2))).bind fun v5 => if v5.1 = 0 then some (nI x, v5.2) else ff_X4_into_51 (13 + r) (nI n) (zK_ n) (m + (n - (x + 1)) + 1) (nI (x + 1)) v5.2 := by
      rw [show m + (n - x) + 1 = (m + (n - (x + 1)) + 1) + 1 by omega, ff_X4_into_51, if_neg (nI_ge xn (by omega)), gd_t (bp_t hr (by omega)), nI_clamp (by omega), ZC.2 x xn, nI_1]
      unfold ff_X4_goesOn
      rw [e2, if_neg (show ¬ nI (nf_k k - f) ≤ 0 from nI_ge (a := 0) (by omega) (by omega)), Option.bind_assoc]
    rcases z_tF (a1 := S x) bo ZC.1 hk hf hc e1 e2 e3 ho with ⟨v, h1, h2, ev, w1, w2⟩ | ⟨w1, w2⟩
    · refine Or.inr ⟨xn, v, h1, h2, ?_, ?_⟩
      · rw [step, w2, Option.bind_some, gd_t bz_1, Option.bind_some, if_neg n10]
      · unfold ff_X8_figure
        rw [he, Option.bind_some, w1, if_neg n10, gd_n hq (by decide), nI_clamp (by omega), ev, sI_ne (by decide), eM, nI_1]
    · refine Or.inl ⟨?_, ?_⟩
      · rw [step, w2, Option.bind_some, gd_t bz_0, Option.bind_some, if_pos rfl]
      · unfold ff_X8_figure
        rw [he, Option.bind_some, w1, if_pos rfl]
  · have xe : x = n := by omega
    subst xe
    rw [if_neg xn] at he
    refine Or.inl ⟨?_, ?_⟩
    · rw [ff_X4_into_51, if_pos (nI_le (by omega) (by omega)), zK_, e2, if_pos (show (0 : Int32) < nI (nf_k k - f) from nI_lt (a := 0) (by omega) (by omega))]
    · unfold ff_X8_figure
      rw [he, Option.bind_some, show (-9 : Int32) - 48 = -57 from rfl, in_f (Or.inl (by
        rw [Int32.lt_iff_toInt_lt, nI_toInt (by omega), show (-57 : Int32).toInt = -57 from rfl]
        omega)), if_pos rfl]
/-- what the scans leave -/
def fC2_ (o : Nat) (h h' : hh_) : Prop := h'.2 = h.2 ∧ ∀ c j, c ≠ 19 → ¬ (o ≤ c ∧ c ≤ o + 24) → h'.1 c j = h.1 c j
def fM2_ (h h' : hh_) : Prop := h'.2 = h.2 ∧ ∀ c j, c ≠ 108 → ¬ (c = 98 ∧ 16 ≤ j ∧ j ≤ 19) → h'.1 c j = h.1 c j
theorem fC2_.t {o : Nat} {h1 h2 h3 : hh_} (A : fC2_ o h1 h2) (B : fC2_ o h2 h3) : fC2_ o h1 h3 := ⟨B.1.trans A.1, fun c j q1 q2 => (B.2 c j q1 q2).trans (A.2 c j q1 q2)⟩
theorem fM2_.t {h1 h2 h3 : hh_} (A : fM2_ h1 h2) (B : fM2_ h2 h3) : fM2_ h1 h3 := ⟨B.1.trans A.1, fun c j q1 q2 => (B.2 c j q1 q2).trans (A.2 c j q1 q2)⟩
theorem fC2_.r {o : Nat} {h : hh_} : fC2_ o h h := ⟨rfl, fun _ _ _ _ => rfl⟩
theorem fM2_.r {h : hh_} : fM2_ h h := ⟨rfl, fun _ _ _ _ => rfl⟩
/-- a run of figures of one item: from f on, item c of kind k; in the reference from place b + f -/
def zF_ (o r n : Nat) (S : Nat → Int32) (k c b f d x m : Nat) (hC hM : hh_) (R : (Int32 → hh_ → Option (Int32 × hh_)) → Option (Int32 × hh_)) : Prop :=
  (∃ y hM', y ≤ n ∧ (∃ hC', ff_X4_into_51 (13 + r) (nI n) (zK_ n) (m + (n - x) + 1) (nI x) hC = some (nI y, hC') ∧ fC2_ o hC hC') ∧ (∀ KM, R KM = KM 0 hM') ∧ hM'.1 98 16 = nI y ∧ fM2_ hM hM' ∧ ∀ j, 17 ≤ j → j ≤ 19 → hM'.1 98 j = hM.1 98 j) ∨
  (x + d ≤ n ∧ ∃ hC' hM', ff_X4_into_51 (13 + r) (nI n) (zK_ n) (m + (n - x) + 1) (nI x) hC = ff_X4_into_51 (13 + r) (nI n) (zK_ n) (m + (n - (x + d)) + 1) (nI (x + d)) hC' ∧ (∀ KM, R KM = KM 1 hM') ∧ hM'.1 98 16 = nI (x + d) ∧ hC'.1 19 1 = nI k ∧ hC'.1 19 2 = nI 0 ∧ hC'.2 = hC.2 ∧ hM'.2 = hM.2 ∧
    (∀ y j, y ≠ 19 → ¬ (y = o + cb_k k + c ∧ po_k k + f ≤ j) → hC'.1 y j = hC.1 y j) ∧ (∀ y j, ¬ (y = 98 ∧ j = 16) → ¬ (y = 108 ∧ b + f ≤ j ∧ j < b + f + d) → hM'.1 y j = hM.1 y j) ∧
    ∀ j, f ≤ j → j < f + d → ∃ v, lo_k k j ≤ v ∧ v ≤ hi_k k j ∧ hC'.1 (o + cb_k k + c) (po_k k + j) = nI v ∧ hM'.1 108 (b + j) = nI v)
theorem zF_0 {o r n : Nat} {S : Nat → Int32} {k c b f x m : Nat} {hC hM : hh_} (hx : x ≤ n) (e1 : hC.1 19 1 = nI k) (e2 : hC.1 19 2 = nI 0) (eM : hM.1 98 16 = nI x) : zF_ o r n S k c b f 0 x m hC hM (fun KM => KM 1 hM) :=
  Or.inr ⟨hx, hC, hM, rfl, fun _ => rfl, eM, e1, e2, rfl, rfl, fun _ _ _ _ => rfl, fun _ _ _ _ => rfl, fun j h1 h2 => absurd h2 (by omega)⟩
/-- one figure more in front: G what the reference does with this figure, R with the rest -/
theorem zF_s {o r n k c b f d x m : Nat} {S : Nat → Int32} {hC hM : hh_} {R : (Int32 → hh_ → Option (Int32 × hh_)) → Option (Int32 × hh_)} (bo : bo_ o = true) (ho : o = 39 ∨ o = 64) (hr : r < 4) (hn : n ≤ 80) (ZC : zC_ o r n S hC) (ZM : zM_ r n S hM) (hk : k < 3) (hf : f + (d + 1) = nf_k k) (hc : c < mi_k k) (e1 : hC.1 19 1 = nI k) (e2 : hC.1 19 2 = nI (d + 1)) (e3 : hC.1 (o + 23) k = nI (c + 1)) (eM : hM.1 98 16 = nI x) (hx : x ≤ n) (hq : b + f < 60)
    (R0 : ff_X8_figure (nI r) (nI (b + f)) (nI (lo_k k f)) (nI (hi_k k f)) hM = some (0, hM) → ∀ KM, R KM = KM 0 hM)
    (R1 : ∀ v, lo_k k f ≤ v → v ≤ hi_k k f → x < n → ff_X8_figure (nI r) (nI (b + f)) (nI (lo_k k f)) (nI (hi_k k f)) hM = some (1, hh_sI (hh_sI hM 108 (b + f) (nI v)) 98 16 (nI (x + 1))) → ∃ R', (∀ KM, R KM = R' KM) ∧ zF_ o r n S k c b (f + 1) d (x + 1) m (hh_sI (hh_sI hC (o + cb_k k + c) (po_k k + f) (nI v)) 19 2 (nI d)) (hh_sI (hh_sI hM 108 (b + f) (nI v)) 98 16 (nI (x + 1))) R') :
    zF_ o r n S k c b f (d + 1) x m hC hM R := by
  have e2' : hC.1 19 2 = nI (nf_k k - f) := by rw [e2]; exact congrArg nI (by omega)
  have ed : nf_k k - (f + 1) = d := by omega
  rcases z_f1 (m := m) (q := b + f) bo ho hr hn ZC ZM hk (by omega) hc e1 e2' e3 eM hx hq with ⟨w1, w2⟩ | ⟨xn, v, l1, l2, w1, w2⟩
  · exact Or.inl ⟨x, hM, hx, ⟨hC, w1, fC2_.r⟩, R0 w2, eM, fM2_.r, fun _ _ _ => rfl⟩
  · rw [ed] at w1
    obtain ⟨R', er, Z⟩ := R1 v l1 l2 xn w2
    have ck : cb_k k + c ≤ 24 := by unfold cb_k; unfold mi_k at hc; split at hc <;> split <;> (try split) <;> omega
    rcases Z with ⟨y, hM', hy, ⟨hC', u1, u2⟩, u3, u4, u5, u6⟩ | ⟨hd, hC', hM', u1, u2, u3, u4, u5, u6, u7, u8, u9, u10⟩
    · refine Or.inl ⟨y, hM', hy, ⟨hC', w1.trans u1, u2.1, fun a j q1 q2 => ?_⟩, fun KM => (er KM).trans (u3 KM), u4, ⟨u5.1, fun a j q1 q2 => ?_⟩, fun j h1 h2 => ?_⟩
      · rw [u2.2 a j q1 q2, sI_ne q1, sI_ne (by omega)]
      · rw [u5.2 a j q1 q2]
        by_cases y9 : a = 98
        · subst y9
          rw [sI_nj (by omega), sI_ne (by decide)]
        · rw [sI_ne y9, sI_ne q1]
      · rw [u6 j h1 h2, sI_nj (by omega), sI_ne (by decide)]
    · refine Or.inr ⟨by omega, hC', hM', ?_, fun KM => (er KM).trans (u2 KM), ?_, u4, u5, u6, u7, fun y j q1 q2 => ?_, fun y j q1 q2 => ?_, fun j h1 h2 => ?_⟩
      · rw [w1, u1, show x + 1 + d = x + (d + 1) by omega]
      · rw [u3, show x + 1 + d = x + (d + 1) by omega]
      · rw [u8 y j q1 (by omega), sI_ne q1]
        by_cases y9 : y = o + cb_k k + c
        · rw [y9, sI_nj (by omega)]
        · rw [sI_ne y9]
      · rw [u9 y j q1 (by omega)]
        have e9 : ∀ h : hh_, (hh_sI h 98 16 (nI (x + 1))).1 y j = h.1 y j := fun h => by
          by_cases y9 : y = 98
          · rw [sI_nj (fun z => q1 ⟨y9, z⟩)]
          · rw [sI_ne y9]
        rw [e9]
        by_cases y9 : y = 108
        · rw [sI_nj (by omega)]
        · rw [sI_ne y9]
      · by_cases jf : j = f
        · subst jf
          refine ⟨v, l1, l2, ?_, ?_⟩
          · rw [u8 _ _ (by omega) (by omega), sI_ne (by omega), sI_eq]
          · rw [u9 _ _ (by omega) (by omega), sI_ne (by decide), sI_eq]
        · exact u10 j (by omega) (by omega)
/-! the reference's runs of figures -/
theorem z_hd {o r n c : Nat} {S : Nat → Int32} (bo : bo_ o = true) (ho : o = 39 ∨ o = 64) (hr : r < 4) (hn : n ≤ 80) (hc : c < 5) : ∀ (d f x m mm : Nat) (hC hM : hh_), f + d = 5 → zC_ o r n S hC → zM_ r n S hM → hC.1 19 1 = nI 0 → hC.1 19 2 = nI d → hC.1 (o + 23) 0 = nI (c + 1) → hM.1 98 16 = nI x → x ≤ n → hM.1 98 17 = nI c → zF_ o r n S 0 c (5 * c) f d x m hC hM (fun KM => ff_X8_readsHead_36 (nI r) KM (mm + d + 1) 1 (nI f) hM) := by
  intro d
  induction d with
  | zero =>
    intro f x m mm hC hM e ZC ZM e1 e2 e3 eM hx e17
    have w := zF_0 (o := o) (r := r) (n := n) (S := S) (k := 0) (c := c) (b := 5 * c) (f := f) (m := m) hx e1 e2 eM
    have er : (fun KM => ff_X8_readsHead_36 (nI r) KM (mm + 0 + 1) 1 (nI f) hM) = fun KM => KM 1 hM := funext fun KM => by
      rw [ff_X8_readsHead_36, if_pos (show (5 : Int32) ≤ nI f from nI_le (a := 5) (by omega) (by omega))]
    rw [er]
    exact w
  | succ d ih =>
    intro f x m mm hC hM e ZC ZM e1 e2 e3 eM hx e17
    have un : ∀ KM, ff_X8_readsHead_36 (nI r) KM (mm + (d + 1) + 1) 1 (nI f) hM = (ff_X8_figure (nI r) (nI (5 * c + f)) (nI (lo_k 0 f)) (nI (hi_k 0 f)) hM).bind fun v => ff_X8_readsHead_36 (nI r) KM (mm + d + 1) v.1 (nI (f + 1)) v.2 := by
      intro KM
      rw [show mm + (d + 1) + 1 = (mm + d + 1) + 1 by omega, ff_X8_readsHead_36, if_neg (show ¬ (5 : Int32) ≤ nI f from nI_ge (b := 5) (by omega) (by omega)), if_neg n10, e17, show (5 : Int32) = nI 5 from rfl, pk_mul, nI_add, nI_1]
      by_cases q : 4 ≤ f
      · have f4 : f = 4 := by omega
        subst f4
        rw [if_pos (by decide)]
        rfl
      · rw [if_neg (show ¬ (4 : Int32) ≤ nI f from nI_ge (b := 4) (by omega) (by omega)), show hi_k 0 f = 5 by unfold hi_k; rw [if_pos rfl, if_neg (by omega)], show lo_k 0 f = 0 by unfold lo_k; rw [if_neg (by omega)]]
        rfl
    refine zF_s bo ho hr hn ZC ZM (by decide) e hc e1 e2 e3 eM hx (by omega) (fun w KM => ?_) (fun v l1 l2 xn w => ?_)
    · rw [un, w, Option.bind_some]
      show ff_X8_readsHead_36 (nI r) KM (mm + d + 1) 0 (nI (f + 1)) hM = _
      rw [ff_X8_readsHead_36]
      by_cases q : (5 : Int32) ≤ nI (f + 1)
      · rw [if_pos q]
      · rw [if_neg q, if_pos rfl]
    · refine ⟨fun KM => ff_X8_readsHead_36 (nI r) KM (mm + d + 1) 1 (nI (f + 1)) (hh_sI (hh_sI hM 108 (5 * c + f) (nI v)) 98 16 (nI (x + 1))), fun KM => ?_, ?_⟩
      · rw [un, w, Option.bind_some]
      · refine ih (f + 1) (x + 1) m mm _ _ (by omega) (ZC.fr (h := hC) rfl (fun y => by rw [sI_ne (by omega), sI_ne (by unfold cb_k; rw [if_pos rfl]; omega)])) (ZM.fr (fun y => by rw [sI_ne (by decide), sI_ne (by decide)]) (fun y => by rw [sI_ne (by decide), sI_ne (by decide)])) ?_ sI_eq ?_ sI_eq (by omega) ?_
        · rw [sI_nj (by decide), sI_ne (by omega)]; exact e1
        · rw [sI_ne (by omega), sI_ne (by unfold cb_k; rw [if_pos rfl]; omega)]; exact e3
        · rw [sI_nj (by decide), sI_ne (by decide)]; exact e17
theorem z_po {o r n c : Nat} {S : Nat → Int32} (bo : bo_ o = true) (ho : o = 39 ∨ o = 64) (hr : r < 4) (hn : n ≤ 80) (hc : c < 4) : ∀ (d f x m mm : Nat) (hC hM : hh_), f + d = 5 → zC_ o r n S hC → zM_ r n S hM → hC.1 19 1 = nI 2 → hC.1 19 2 = nI d → hC.1 (o + 23) 2 = nI (c + 1) → hM.1 98 16 = nI x → x ≤ n → hM.1 98 19 = nI c → zF_ o r n S 2 c (37 + 5 * c) f d x m hC hM (fun KM => ff_X8_readsPost_31 (nI r) KM (mm + d + 1) 1 (nI f) hM) := by
  have ck : cb_k 2 = 19 := rfl
  intro d
  induction d with
  | zero =>
    intro f x m mm hC hM e ZC ZM e1 e2 e3 eM hx e17
    have w := zF_0 (o := o) (r := r) (n := n) (S := S) (k := 2) (c := c) (b := 37 + 5 * c) (f := f) (m := m) hx e1 e2 eM
    have er : (fun KM => ff_X8_readsPost_31 (nI r) KM (mm + 0 + 1) 1 (nI f) hM) = fun KM => KM 1 hM := funext fun KM => by
      rw [ff_X8_readsPost_31, if_pos (show (5 : Int32) ≤ nI f from nI_le (a := 5) (by omega) (by omega))]
    rw [er]
    exact w
  | succ d ih =>
    intro f x m mm hC hM e ZC ZM e1 e2 e3 eM hx e17
    have un : ∀ KM, ff_X8_readsPost_31 (nI r) KM (mm + (d + 1) + 1) 1 (nI f) hM = (ff_X8_figure (nI r) (nI (37 + 5 * c + f)) (nI (lo_k 2 f)) (nI (hi_k 2 f)) hM).bind fun v => ff_X8_readsPost_31 (nI r) KM (mm + d + 1) v.1 (nI (f + 1)) v.2 := by
      intro KM
      rw [show mm + (d + 1) + 1 = (mm + d + 1) + 1 by omega, ff_X8_readsPost_31, if_neg (show ¬ (5 : Int32) ≤ nI f from nI_ge (b := 5) (by omega) (by omega)), if_neg n10, e17, show (5 : Int32) = nI 5 from rfl, pk_mul, show (37 : Int32) = nI 37 from rfl, nI_add, nI_add]
      unfold ff_X8_readsPost_63
      rw [nI_1]
      by_cases q : 4 ≤ f
      · have f4 : f = 4 := by omega
        subst f4
        rw [if_pos (by decide), if_pos (by decide)]
        rfl
      · rw [if_neg (show ¬ (4 : Int32) ≤ nI f from nI_ge (b := 4) (by omega) (by omega)), if_neg (show ¬ (4 : Int32) ≤ nI f from nI_ge (b := 4) (by omega) (by omega)), show hi_k 2 f = 6 by unfold hi_k; rw [if_neg (by decide), if_neg (by decide), if_neg (by omega)], show lo_k 2 f = 0 by unfold lo_k; rw [if_neg (by omega)]]
        rfl
    refine zF_s bo ho hr hn ZC ZM (by decide) e hc e1 e2 e3 eM hx (by omega) (fun w KM => ?_) (fun v l1 l2 xn w => ?_)
    · rw [un, w, Option.bind_some]
      show ff_X8_readsPost_31 (nI r) KM (mm + d + 1) 0 (nI (f + 1)) hM = _
      rw [ff_X8_readsPost_31]
      by_cases q : (5 : Int32) ≤ nI (f + 1)
      · rw [if_pos q]
      · rw [if_neg q, if_pos rfl]
    · refine ⟨fun KM => ff_X8_readsPost_31 (nI r) KM (mm + d + 1) 1 (nI (f + 1)) (hh_sI (hh_sI hM 108 (37 + 5 * c + f) (nI v)) 98 16 (nI (x + 1))), fun KM => ?_, ?_⟩
      · rw [un, w, Option.bind_some]
      · refine ih (f + 1) (x + 1) m mm _ _ (by omega) (ZC.fr (h := hC) rfl (fun y => by rw [sI_ne (by omega), sI_ne (by omega)])) (ZM.fr (fun y => by rw [sI_ne (by decide), sI_ne (by decide)]) (fun y => by rw [sI_ne (by decide), sI_ne (by decide)])) ?_ sI_eq ?_ sI_eq (by omega) ?_
        · rw [sI_nj (by decide), sI_ne (by omega)]; exact e1
        · rw [sI_ne (by omega), sI_ne (by omega)]; exact e3
        · rw [sI_nj (by decide), sI_ne (by decide)]; exact e17
theorem z_th {o r n c x m : Nat} {S : Nat → Int32} {hC hM : hh_} (bo : bo_ o = true) (ho : o = 39 ∨ o = 64) (hr : r < 4) (hn : n ≤ 80) (hc : c < 4) (ZC : zC_ o r n S hC) (ZM : zM_ r n S hM) (e1 : hC.1 19 1 = nI 1) (e2 : hC.1 19 2 = nI 2) (e3 : hC.1 (o + 23) 1 = nI (c + 1)) (eM : hM.1 98 16 = nI x) (hx : x ≤ n) : zF_ o r n S 1 c (25 + 3 * c + 1) 0 2 x m hC hM (fun KM => (ff_X8_figure (nI r) (nI (25 + 3 * c + 1)) 0 2 hM).bind fun v4 => if v4.1 = 0 then KM 0 v4.2 else (ff_X8_figure (nI r) (nI (25 + 3 * c + 2)) 0 3 v4.2).bind fun v9 => if v9.1 = 0 then KM 0 v9.2 else KM 1 v9.2) := by
  have ck : cb_k 1 = 14 := rfl
  refine zF_s bo ho hr hn ZC ZM (by decide) rfl hc e1 e2 e3 eM hx (by omega) (fun w KM => ?_) (fun v l1 l2 xn w => ?_)
  · have w' : ff_X8_figure (nI r) (nI (25 + 3 * c + 1)) 0 2 hM = some (0, hM) := w
    rw [w', Option.bind_some, if_pos rfl]
  · have w' : ff_X8_figure (nI r) (nI (25 + 3 * c + 1)) 0 2 hM = some (1, hh_sI (hh_sI hM 108 (25 + 3 * c + 1 + 0) (nI v)) 98 16 (nI (x + 1))) := w
    refine ⟨fun KM => (ff_X8_figure (nI r) (nI (25 + 3 * c + 2)) 0 3 (hh_sI (hh_sI hM 108 (25 + 3 * c + 1 + 0) (nI v)) 98 16 (nI (x + 1)))).bind fun v9 => if v9.1 = 0 then KM 0 v9.2 else KM 1 v9.2, fun KM => ?_, ?_⟩
    · rw [w', Option.bind_some, if_neg n10]
    · refine zF_s bo ho hr hn (ZC.fr (h := hC) rfl (fun y => by rw [sI_ne (by omega), sI_ne (by omega)])) (ZM.fr (fun y => by rw [sI_ne (by decide), sI_ne (by decide)]) (fun y => by rw [sI_ne (by decide), sI_ne (by decide)])) (by decide) rfl hc ?_ sI_eq ?_ sI_eq (by omega) (by omega) (fun u KM => ?_) (fun v' l1' l2' xn' u => ?_)
      · rw [sI_nj (by decide), sI_ne (by omega)]; exact e1
      · rw [sI_ne (by omega), sI_ne (by omega)]; exact e3
      · have u' : ff_X8_figure (nI r) (nI (25 + 3 * c + 2)) 0 3 (hh_sI (hh_sI hM 108 (25 + 3 * c + 1 + 0) (nI v)) 98 16 (nI (x + 1))) = some (0, hh_sI (hh_sI hM 108 (25 + 3 * c + 1 + 0) (nI v)) 98 16 (nI (x + 1))) := u
        rw [u', Option.bind_some, if_pos rfl]
      · refine ⟨fun KM => KM 1 _, fun KM => ?_, zF_0 (by omega) ?_ sI_eq sI_eq⟩
        · have u' : ff_X8_figure (nI r) (nI (25 + 3 * c + 2)) 0 3 (hh_sI (hh_sI hM 108 (25 + 3 * c + 1 + 0) (nI v)) 98 16 (nI (x + 1))) = some (1, hh_sI (hh_sI (hh_sI (hh_sI hM 108 (25 + 3 * c + 1 + 0) (nI v)) 98 16 (nI (x + 1))) 108 (25 + 3 * c + 1 + (0 + 1)) (nI v')) 98 16 (nI (x + 1 + 1))) := u
          rw [u', Option.bind_some, if_neg n10]
        · rw [sI_nj (by decide), sI_ne (by omega), sI_nj (by decide), sI_ne (by omega)]; exact e1
