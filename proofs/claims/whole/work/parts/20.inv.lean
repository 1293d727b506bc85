/-! ===== the invariant between the class's cells and the reference's ===== -/
theorem sI_ne {h : hh_} {a i k j : Nat} {v : Int32} (e : k ≠ a) : (hh_sI h a i v).1 k j = h.1 k j := hh_up_ne e
theorem sI_nj {h : hh_} {a i k j : Nat} {v : Int32} (e : j ≠ i) : (hh_sI h a i v).1 k j = h.1 k j := by
  show hh_up h.1 a i v k j = _
  unfold hh_up
  rw [if_neg (fun q => e q.2)]
theorem sI_eq {h : hh_} {a i : Nat} {v : Int32} : (hh_sI h a i v).1 a i = v := by
  show hh_up h.1 a i v a i = _
  unfold hh_up
  rw [if_pos ⟨rfl, rfl⟩]
theorem sI_if {h : hh_} {a i j : Nat} {v : Int32} : (hh_sI h a i v).1 a j = if j = i then v else h.1 a j := by
  by_cases e : j = i
  · subst e; rw [if_pos rfl, sI_eq]
  · rw [if_neg e, sI_nj e]
theorem sL_ne {h : hh_} {a i k j : Nat} {v : Int64} (e : k ≠ a) : (hh_sL h a i v).2.1 k j = h.2.1 k j := hh_up_ne e
theorem sL_nj {h : hh_} {a i k j : Nat} {v : Int64} (e : j ≠ i) : (hh_sL h a i v).2.1 k j = h.2.1 k j := by
  show hh_up h.2.1 a i v k j = _
  unfold hh_up
  rw [if_neg (fun q => e q.2)]
theorem sL_eq {h : hh_} {a i : Nat} {v : Int64} : (hh_sL h a i v).2.1 a i = v := by
  show hh_up h.2.1 a i v a i = _
  unfold hh_up
  rw [if_pos ⟨rfl, rfl⟩]
theorem hh_ext {h h' : hh_} (e1 : ∀ k j, h.1 k j = h'.1 k j) (e2 : ∀ k j, h.2.1 k j = h'.2.1 k j) (e3 : h.2.2 = h'.2.2) : h = h' := by
  obtain ⟨a, b, c⟩ := h
  obtain ⟨a', b', c'⟩ := h'
  have h1 : a = a' := funext fun k => funext fun j => e1 k j
  have h2 : b = b' := funext fun k => funext fun j => e2 k j
  have h3 : c = c' := e3
  rw [h1, h2, h3]
/-- what was told -/
def iT_ (h : hh_) : Prop := h.1 36 1 = h.1 98 0 ∧ h.1 36 2 = h.1 98 2 ∧ h.2.1 36 3 = h.2.1 98 3 ∧ h.2.1 36 4 = h.2.1 98 4 ∧ ∀ f, f < 6 → h.1 37 f = h.1 99 f
/-- rows: cs the sizes, cb the first row, of the class; ms, mb of the reference; w how wide -/
def rw_ (h : hh_) (cs cb ms mb w r : Nat) : Prop := (h.1 cs r = -1 ∧ h.1 ms r = -9) ∨ ∃ n, n ≤ w ∧ h.1 cs r = nI n ∧ h.1 ms r = nI n ∧ ∀ i, i < n → h.1 (cb + r) i = h.1 mb (w * r + i)
def iR_ (h : hh_) : Prop := ∀ r, r < 6 → rw_ h 10 4 100 101 40 r
def iX_ (h : hh_) : Prop := ∀ r, r < 4 → rw_ h 17 13 103 104 80 r
/-- an office's data: how many HEADS, THUMBS, POSTS; their numbers -/
abbrev od_ : Type := Nat × Nat × Nat × (Nat → Nat → Nat) × (Nat → Nat → Nat) × (Nat → Nat → Nat)
abbrev d_m (D : od_) : Nat := D.1
abbrev d_t (D : od_) : Nat := D.2.1
abbrev d_p (D : od_) : Nat := D.2.2.1
abbrev d_H (D : od_) : Nat → Nat → Nat := D.2.2.2.1
abbrev d_T (D : od_) : Nat → Nat → Nat := D.2.2.2.2.1
abbrev d_P (D : od_) : Nat → Nat → Nat := D.2.2.2.2.2
def oK_ (D : od_) : Prop := d_m D ≤ 5 ∧ d_t D ≤ 4 ∧ d_p D ≤ 4 ∧ (0 < d_t D → 0 < d_m D) ∧ (∀ i, i < d_m D → (∀ j, j < 4 → d_H D i j ≤ 5) ∧ d_H D i 4 ≤ 3) ∧ (∀ t, t < d_t D → d_T D t 0 ≤ 5 ∧ d_T D t 1 ≤ 2 ∧ d_T D t 2 ≤ 3) ∧ ∀ p, p < d_p D → (∀ j, j < 4 → d_P D p j ≤ 6) ∧ 1 ≤ d_P D p 4 ∧ d_P D p 4 ≤ 9
/-- the class's office o holds D -/
def oC_ (o : Nat) (h : hh_) (D : od_) : Prop := h.1 (o + 23) 0 = nI (d_m D) ∧ h.1 (o + 23) 1 = nI (d_t D) ∧ h.1 (o + 23) 2 = nI (d_p D) ∧ (∀ i, i < d_m D → ∀ j, j < 5 → h.1 (o + 8 + i) j = nI (d_H D i j)) ∧ (∀ t, t < d_t D → ∀ j, j < 3 → h.1 (o + 14 + t) j = nI (d_T D t j)) ∧ ∀ p, p < d_p D → ∀ j, j < 5 → h.1 (o + 19 + p) j = nI (d_P D p j)
/-- the reference holds D -/
def oM_ (h : hh_) (D : od_) : Prop := h.1 98 10 = nI (d_m D) ∧ h.1 98 11 = nI (d_t D) ∧ h.1 98 12 = nI (d_p D) ∧ (∀ i, i < d_m D → ∀ j, j < 5 → h.1 105 (5 * i + j) = nI (d_H D i j)) ∧ (∀ t, t < d_t D → ∀ j, j < 3 → h.1 106 (3 * t + j) = nI (d_T D t j)) ∧ ∀ p, p < d_p D → ∀ j, j < 5 → h.1 107 (5 * p + j) = nI (d_P D p j)
/-- a DEED done to HEADS: its code is 8 times the HEAD, and what it does -/
def ap_ (c : Nat) (H : Nat → Nat → Nat) : Nat → Nat → Nat := fun i j =>
  if i = c / 8 then (if 5 ≤ c % 8 then (if j = 4 then c % 8 - 5 else H i j) else if j < 4 ∧ (c % 8 = 4 ∨ c % 8 = j) then min 5 (H i j + 1) else H i j) else H i j
def rp_ (F : Nat → Nat → Nat) (ds : Nat → Nat) : Nat → Nat → Nat → Nat
  | 0 => F
  | d + 1 => ap_ (ds d) (rp_ F ds d)
/-- HEADS at the start, DEEDS (codes cd in cell a), their pictures in the reference's cell b from place p on, each 25 long -/
def dd2_ (h : hh_) (m : Nat) (F : Nat → Nat → Nat) (ds : Nat → Nat) (n a b p : Nat) : Prop := n ≤ 40 ∧ (∀ d, d < n → h.1 a d = nI (ds d) ∧ ds d / 8 < m ∧ ds d < 40) ∧ ∀ d, d < n → ∀ i, i < m → ∀ j, j < 5 → h.1 b (p + (25 * d + (5 * i + j))) = nI (rp_ F ds d i j)
/-- a kept office -/
def kp_ (h : hh_) (m t : Nat) (F : Nat → Nat → Nat) (k : Nat) : Prop := (h.1 (89 + 3 * k) 2 = -1 ∧ h.1 110 (1030 * k) = -9) ∨ ∃ (n : Nat) (ds : Nat → Nat), h.1 (89 + 3 * k) 2 = nI n ∧ h.1 110 (1030 * k) = nI n ∧ dd2_ h m F ds n (90 + 3 * k) 110 (1030 * k + 30) ∧ (∀ i, i < m → ∀ j, j < 5 → h.1 110 (1030 * k + 5 + (5 * i + j)) = nI (rp_ F ds n i j)) ∧ ∀ x, x < t → ∃ e, e ≤ 2 ∧ h.1 (91 + 3 * k) x = nI e ∧ h.1 110 (1030 * k + 1 + x) = nI e
def iO_ (h : hh_) : Prop := ((h.2.2.1 = 39 ∧ h.2.2.2.1 = 64) ∨ (h.2.2.1 = 64 ∧ h.2.2.2.1 = 39)) ∧ ∃ (D : od_) (F : Nat → Nat → Nat) (ds : Nat → Nat) (n : Nat), oK_ D ∧ oC_ h.2.2.1 h D ∧ oM_ h D ∧
  h.1 h.2.2.1 6 = nI n ∧ h.1 98 21 = nI n ∧ dd2_ h (d_m D) F ds n (h.2.2.1 + 24) 109 0 ∧ (∀ i, i < d_m D → ∀ j, j < 5 → h.1 (h.2.2.1 + 2 + i) j = nI (F i j)) ∧ (∀ i, i < d_m D → (∀ j, j < 4 → F i j ≤ 5) ∧ F i 4 ≤ 3) ∧ (∀ i, i < d_m D → ∀ j, j < 5 → d_H D i j = rp_ F ds n i j) ∧ (d_m D = 0 → n = 0) ∧ ∀ k, k < 3 → kp_ h (d_m D) (d_t D) F k
def inv_ (h : hh_) : Prop := iT_ h ∧ iR_ h ∧ iX_ h ∧ iO_ h
/-! frames -/
theorem rw_.fr {h h' : hh_} {cs cb ms mb w r : Nat} (e1 : h'.1 cs r = h.1 cs r) (e2 : h'.1 ms r = h.1 ms r) (e3 : ∀ i, h'.1 (cb + r) i = h.1 (cb + r) i) (e4 : ∀ i, h'.1 mb (w * r + i) = h.1 mb (w * r + i)) (H : rw_ h cs cb ms mb w r) : rw_ h' cs cb ms mb w r := by
  rcases H with ⟨a, b⟩ | ⟨n, hn, a, b, c⟩
  · exact Or.inl ⟨e1.trans a, e2.trans b⟩
  · exact Or.inr ⟨n, hn, e1.trans a, e2.trans b, fun i hi => by rw [e3, e4]; exact c i hi⟩
theorem iR_.fr {h h' : hh_} (e : ∀ k j, (4 ≤ k ∧ k ≤ 10) ∨ k = 100 ∨ k = 101 → h'.1 k j = h.1 k j) (H : iR_ h) : iR_ h' := fun r hr => (H r hr).fr (e _ _ (by omega)) (e _ _ (by omega)) (fun i => e _ _ (by omega)) (fun i => e _ _ (by omega))
theorem iX_.fr {h h' : hh_} (e : ∀ k j, (13 ≤ k ∧ k ≤ 17) ∨ k = 103 ∨ k = 104 → h'.1 k j = h.1 k j) (H : iX_ h) : iX_ h' := fun r hr => (H r hr).fr (e _ _ (by omega)) (e _ _ (by omega)) (fun i => e _ _ (by omega)) (fun i => e _ _ (by omega))
theorem iT_.fr {h h' : hh_} (e : ∀ k j, k = 36 ∨ k = 37 ∨ k = 99 ∨ (k = 98 ∧ (j = 0 ∨ j = 2)) → h'.1 k j = h.1 k j) (e2 : ∀ k j, k = 36 ∨ (k = 98 ∧ (j = 3 ∨ j = 4)) → h'.2.1 k j = h.2.1 k j) (H : iT_ h) : iT_ h' := by
  obtain ⟨a, b, c, d, f⟩ := H
  refine ⟨?_, ?_, ?_, ?_, fun g hg => ?_⟩
  · rw [e 36 1 (by omega), e 98 0 (by omega)]; exact a
  · rw [e 36 2 (by omega), e 98 2 (by omega)]; exact b
  · rw [e2 36 3 (by omega), e2 98 3 (by omega)]; exact c
  · rw [e2 36 4 (by omega), e2 98 4 (by omega)]; exact d
  · rw [e 37 g (by omega), e 99 g (by omega)]; exact f g hg
theorem dd2_.fr {h h' : hh_} {m n a b p : Nat} {F : Nat → Nat → Nat} {ds : Nat → Nat} (ea : ∀ j, h'.1 a j = h.1 a j) (eb : ∀ j, h'.1 b j = h.1 b j) (H : dd2_ h m F ds n a b p) : dd2_ h' m F ds n a b p :=
  ⟨H.1, fun d hd => by rw [ea]; exact H.2.1 d hd, fun d hd i hi j hj => by rw [eb]; exact H.2.2 d hd i hi j hj⟩
theorem kp_.fr {h h' : hh_} {m t k : Nat} {F : Nat → Nat → Nat} (hk : k < 3) (e : ∀ c j, (89 ≤ c ∧ c ≤ 97) ∨ c = 110 → h'.1 c j = h.1 c j) (H : kp_ h m t F k) : kp_ h' m t F k := by
  rcases H with ⟨a, b⟩ | ⟨n, ds, a, b, c, d, f⟩
  · exact Or.inl ⟨by rw [e _ _ (by omega)]; exact a, by rw [e _ _ (by omega)]; exact b⟩
  · refine Or.inr ⟨n, ds, by rw [e _ _ (by omega)]; exact a, by rw [e _ _ (by omega)]; exact b, c.fr (fun j => e _ _ (by omega)) (fun j => e _ _ (by omega)), fun i hi j hj => by rw [e _ _ (by omega)]; exact d i hi j hj, fun x hx => ?_⟩
    obtain ⟨q, hq, h1, h2⟩ := f x hx
    exact ⟨q, hq, by rw [e _ _ (by omega)]; exact h1, by rw [e _ _ (by omega)]; exact h2⟩
theorem oC_.fr {h h' : hh_} {o : Nat} {D : od_} (K : oK_ D) (e : ∀ c j, o ≤ c ∧ c ≤ o + 24 → h'.1 c j = h.1 c j) (H : oC_ o h D) : oC_ o h' D := by
  obtain ⟨a, b, c, d, f, g⟩ := H
  have k1 := K.1
  have k2 := K.2.1
  have k3 := K.2.2.1
  exact ⟨by rw [e _ _ (by omega)]; exact a, by rw [e _ _ (by omega)]; exact b, by rw [e _ _ (by omega)]; exact c, fun i hi j hj => by rw [e _ _ (by omega)]; exact d i hi j hj, fun i hi j hj => by rw [e _ _ (by omega)]; exact f i hi j hj, fun i hi j hj => by rw [e _ _ (by omega)]; exact g i hi j hj⟩
theorem oM_.fr {h h' : hh_} {D : od_} (e : ∀ c j, c = 105 ∨ c = 106 ∨ c = 107 ∨ (c = 98 ∧ (j = 10 ∨ j = 11 ∨ j = 12)) → h'.1 c j = h.1 c j) (H : oM_ h D) : oM_ h' D := by
  obtain ⟨a, b, c, d, f, g⟩ := H
  exact ⟨by rw [e _ _ (by omega)]; exact a, by rw [e _ _ (by omega)]; exact b, by rw [e _ _ (by omega)]; exact c, fun i hi j hj => by rw [e _ _ (by omega)]; exact d i hi j hj, fun i hi j hj => by rw [e _ _ (by omega)]; exact f i hi j hj, fun i hi j hj => by rw [e _ _ (by omega)]; exact g i hi j hj⟩
/-- the cells that the office's part of the invariant speaks of -/
def fO_ (h : hh_) (k j : Nat) : Prop := (h.2.2.1 ≤ k ∧ k ≤ h.2.2.1 + 24) ∨ (89 ≤ k ∧ k ≤ 97) ∨ k = 105 ∨ k = 106 ∨ k = 107 ∨ k = 109 ∨ k = 110 ∨ (k = 98 ∧ (j = 10 ∨ j = 11 ∨ j = 12 ∨ j = 21))
theorem iO_.fr {h h' : hh_} (er : h'.2.2.1 = h.2.2.1 ∧ h'.2.2.2.1 = h.2.2.2.1) (e : ∀ k j, fO_ h k j → h'.1 k j = h.1 k j) (H : iO_ h) : iO_ h' := by
  obtain ⟨hn, D, F, ds, n, k1, k2, k3, k4, k5, k6, k7, k8, k9, k10, k11⟩ := H
  unfold iO_
  rw [er.1, er.2]
  have km := k1.1
  refine ⟨hn, D, F, ds, n, k1, k2.fr k1 (fun c j hc => e _ _ (Or.inl hc)), k3.fr (fun c j hc => e _ _ (by unfold fO_; omega)), by rw [e _ _ (by unfold fO_; omega)]; exact k4, by rw [e _ _ (by unfold fO_; omega)]; exact k5, k6.fr (fun j => e _ _ (by unfold fO_; omega)) (fun j => e _ _ (by unfold fO_; omega)), fun i hi j hj => by rw [e _ _ (by unfold fO_; omega)]; exact k7 i hi j hj, k8, k9, k10, fun k hk => (k11 k hk).fr hk (fun c j hc => e _ _ (by unfold fO_; omega))⟩
theorem iO_.nw {h : hh_} (H : iO_ h) : (h.2.2.1 = 39 ∨ h.2.2.1 = 64) := by rcases H.1 with q | q <;> omega
theorem iO_.nwB {h : hh_} (H : iO_ h) : bo_ h.2.2.1 = true := by
  unfold bo_
  rcases H.nw with q | q <;> rw [q] <;> rfl
/-! refusals, tellings -/
def cre_ (f : Nat) (h : hh_) : hh_ := hh_sI (hh_sI h 36 1 (nI f)) 37 f (h.1 37 f + 1)
def mre_ (f : Nat) (h : hh_) : hh_ := hh_sI (hh_sI h 98 0 (nI f)) 99 f (h.1 99 f + 1)
theorem bi_t {n N : Nat} (h : n < N) (hN : N < 2 ^ 31) : bi_ (nI n) N = true := by
  unfold bi_
  have h1 : ¬ nI n < 0 := nI_pos (by omega)
  simp only [nI_clamp (show n < 2 ^ 31 by omega), h1, decide_false, Bool.false_or, Bool.not_eq_true', decide_eq_false_iff_not]
  omega
theorem gd_t {α : Type} {b : Bool} {x : Option α} (h : b = true) : gd_ b x = x := by unfold gd_; rw [if_pos h]
theorem gd_n {α : Type} {n N : Nat} {x : Option α} (h : n < N) (hN : N < 2 ^ 31) : gd_ (bi_ (nI n) N) x = x := gd_t (bi_t h hN)
theorem fu_ (m : Nat) (h : m ≤ 4999) : ∃ k, FU_ = k + m + 1 := ⟨4999 - m, by unfold FU_; omega⟩
theorem ref_C {f : Nat} (hf : f < 6) (h : hh_) : ff_X6_refuse (nI f) h = some (-3, cre_ f h) := by
  unfold ff_X6_refuse
  rw [gd_n hf (by decide), nI_clamp (by omega), sI_ne (by decide)]
  rfl
theorem ref_M {f : Nat} (hf : f < 6) (h : hh_) : ff_X8_meet (nI f) h = some (-3, mre_ f h) := by
  unfold ff_X8_meet
  rw [gd_n hf (by decide), nI_clamp (by omega), sI_ne (by decide)]
  rfl
theorem cre_I {f k j : Nat} {h : hh_} (h1 : k ≠ 36) (h2 : k ≠ 37) : (cre_ f h).1 k j = h.1 k j := by unfold cre_; rw [sI_ne h2, sI_ne h1]
theorem cre_2 {f : Nat} {h : hh_} : (cre_ f h).2 = h.2 := rfl
theorem mre_I {f k j : Nat} {h : hh_} (h1 : k ≠ 98) (h2 : k ≠ 99) : (mre_ f h).1 k j = h.1 k j := by unfold mre_; rw [sI_ne h2, sI_ne h1]
theorem mre_98 {f j : Nat} {h : hh_} (h1 : j ≠ 0) : (mre_ f h).1 98 j = h.1 98 j := by unfold mre_; rw [sI_ne (by decide), sI_nj h1]
theorem cre_37 {f g : Nat} {h : hh_} : (cre_ f h).1 37 g = if g = f then h.1 37 f + 1 else h.1 37 g := by unfold cre_; rw [sI_if, sI_ne (by decide)]
theorem mre_99 {f g : Nat} {h : hh_} : (mre_ f h).1 99 g = if g = f then h.1 99 f + 1 else h.1 99 g := by unfold mre_; rw [sI_if, sI_ne (by decide)]
theorem fO_out {h : hh_} (H : iO_ h) {k j : Nat} (q : fO_ h k j) : k ≠ 36 ∧ k ≠ 37 ∧ k ≠ 99 ∧ k ≠ 38 ∧ ¬ (k < 39) ∧ (k = 98 → j = 10 ∨ j = 11 ∨ j = 12 ∨ j = 21) := by
  have := H.nw
  unfold fO_ at q
  omega
theorem inv_ref {h : hh_} (H : inv_ h) {f : Nat} (hf : f < 6) : inv_ (mre_ f (cre_ f h)) := by
  obtain ⟨hT, hR, hX, hO⟩ := H
  refine ⟨?_, hR.fr (fun k j q => ?_), hX.fr (fun k j q => ?_), iO_.fr (h := h) ⟨rfl, rfl⟩ (fun k j q => ?_) hO⟩
  · obtain ⟨a, b, c, d, e⟩ := hT
    refine ⟨?_, ?_, c, d, fun g hg => ?_⟩
    · unfold mre_ cre_
      rw [sI_ne (by decide), sI_ne (by decide), sI_ne (by decide), sI_eq, sI_ne (by decide), sI_eq]
    · unfold mre_ cre_
      rw [sI_ne (by decide), sI_ne (by decide), sI_ne (by decide), sI_nj (by decide), sI_ne (by decide), sI_nj (by decide), sI_ne (by decide), sI_ne (by decide)]
      exact b
    · rw [mre_I (by decide) (by decide), mre_99, cre_37, cre_I (by decide) (by decide), cre_I (by decide) (by decide)]
      by_cases eg : g = f
      · subst eg
        rw [if_pos rfl, if_pos rfl, e g hg]
      · rw [if_neg eg, if_neg eg]
        exact e g hg
  · rw [mre_I (by omega) (by omega), cre_I (by omega) (by omega)]
  · rw [mre_I (by omega) (by omega), cre_I (by omega) (by omega)]
  · have w := fO_out hO q
    unfold mre_
    rw [sI_ne (by omega)]
    by_cases e98 : k = 98
    · rw [sI_nj (by omega), cre_I (by omega) (by omega)]
    · rw [sI_ne e98, cre_I (by omega) (by omega)]
def cte_ (v : Int32) (h : hh_) : hh_ := hh_sI h 36 2 v
def mte_ (v : Int32) (h : hh_) : hh_ := hh_sI h 98 2 v
theorem inv_tell {h : hh_} (H : inv_ h) (v : Int32) : inv_ (mte_ v (cte_ v h)) := by
  obtain ⟨hT, hR, hX, hO⟩ := H
  refine ⟨?_, hR.fr (fun k j q => ?_), hX.fr (fun k j q => ?_), iO_.fr (h := h) ⟨rfl, rfl⟩ (fun k j q => ?_) hO⟩
  · obtain ⟨a, b, c, d, e⟩ := hT
    unfold mte_ cte_
    refine ⟨?_, ?_, c, d, fun g hg => ?_⟩
    · rw [sI_ne (by decide), sI_nj (by decide), sI_nj (by decide), sI_ne (by decide)]; exact a
    · rw [sI_ne (by decide), sI_eq, sI_eq]
    · rw [sI_ne (by decide), sI_ne (by decide), sI_ne (by decide), sI_ne (by decide)]; exact e g hg
  · unfold mte_ cte_; rw [sI_ne (by omega), sI_ne (by omega)]
  · unfold mte_ cte_; rw [sI_ne (by omega), sI_ne (by omega)]
  · have w := fO_out hO q
    unfold mte_ cte_
    by_cases e98 : k = 98
    · rw [sI_nj (by omega), sI_ne (by omega)]
    · rw [sI_ne e98, sI_ne (by omega)]
