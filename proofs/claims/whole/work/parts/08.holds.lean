/-! what the changing calls do to the picture and to the cells that hold it -/
section
variable {L c : Nat → Nat} {an al : Nat → Int32} {s o x : Nat}
theorem cd_ST_put (h : cd_ST L c an al) : cd_ST (cd_up L s (L s + 1)) (cd_up c (12 * s + L s) x) (upd an s (nI (L s + 1))) (upd al (12 * s + L s) (nI x)) := by
  refine ⟨fun t ht => ?_, fun t k ht hk => ?_⟩
  · by_cases e : t = s
    · subst e; rw [cd_up_s, pk_us]
    · rw [cd_up_n e, pk_un e]; exact h.1 t ht
  · by_cases e : 12 * t + k = 12 * s + L s
    · rw [e, cd_up_s, pk_us]
    · rw [cd_up_n e, pk_un e]
      by_cases z : t = s
      · subst z; rw [cd_up_s] at hk; exact h.2 t k ht (by omega)
      · rw [cd_up_n z] at hk; exact h.2 t k ht hk
theorem cd_ST_take (h : cd_ST L c an al) {n : Nat} (hn : L s = n + 1) : cd_ST (cd_up L s n) c (upd an s (nI n)) al := by
  refine ⟨fun t ht => ?_, fun t k ht hk => ?_⟩
  · by_cases e : t = s
    · subst e; rw [cd_up_s, pk_us]
    · rw [cd_up_n e, pk_un e]; exact h.1 t ht
  · by_cases z : t = s
    · subst z; rw [cd_up_s] at hk; exact h.2 t k ht (by omega)
    · rw [cd_up_n z] at hk; exact h.2 t k ht hk
def cd_cp {α : Type} (a : Nat → α) (s o k : Nat) : Nat → α := fun i => if 12 * s ≤ i ∧ i < 12 * s + k then a (12 * o + (i - 12 * s)) else a i
theorem cd_cp_i {α : Type} {a : Nat → α} {k j : Nat} (h : j < k) : cd_cp a s o k (12 * s + j) = a (12 * o + j) := by
  unfold cd_cp
  rw [if_pos (by omega), show 12 * s + j - 12 * s = j by omega]
theorem cd_cp_n {α : Type} {a : Nat → α} {k i : Nat} (h : ¬ (12 * s ≤ i ∧ i < 12 * s + k)) : cd_cp a s o k i = a i := by
  unfold cd_cp
  rw [if_neg h]
theorem cd_cp_0 {a : Nat → Int32} : cd_cp a s o 0 = a := by
  funext i
  exact cd_cp_n (by omega)
theorem cd_cp_r {a : Nat → Int32} {k : Nat} (h : k < 12) : cd_cp a s o k (12 * o + k) = a (12 * o + k) := by
  by_cases z : o = s
  · subst z
    exact cd_cp_n (by omega)
  · exact cd_cp_n (by omega)
theorem cd_cp_s {a : Nat → Int32} {k : Nat} (h : k < 12) : upd (cd_cp a s o k) (12 * s + k) (cd_cp a s o k (12 * o + k)) = cd_cp a s o (k + 1) := by
  rw [cd_cp_r h]
  funext i
  by_cases e : i = 12 * s + k
  · subst e
    rw [pk_us, cd_cp_i (by omega)]
  · rw [pk_un e]
    by_cases z : 12 * s ≤ i ∧ i < 12 * s + k
    · obtain ⟨j, rfl⟩ : ∃ j, i = 12 * s + j := ⟨i - 12 * s, by omega⟩
      rw [cd_cp_i (by omega), cd_cp_i (by omega)]
    · rw [cd_cp_n z, cd_cp_n (by omega)]
theorem cd_ST_copy (h : cd_ST L c an al) (hs : s < 10) (ho : o < 10) (hL : ∀ t, t < 10 → L t ≤ 12) {k : Nat} (hk : L o ≤ k) (hk2 : k ≤ 12) :
    cd_ST (cd_up L s (L o)) (cd_cp c s o 12) (upd an s (nI (L o))) (cd_cp al s o k) := by
  have := hL o ho
  refine ⟨fun t ht => ?_, fun t j ht hj => ?_⟩
  · by_cases e : t = s
    · subst e; rw [cd_up_s, pk_us]
    · rw [cd_up_n e, pk_un e]; exact h.1 t ht
  · by_cases z : t = s
    · subst z
      rw [cd_up_s] at hj
      rw [cd_cp_i (by omega), cd_cp_i (by omega)]
      exact h.2 o j ho hj
    · rw [cd_up_n z] at hj
      have := hL t ht
      rw [cd_cp_n (by omega), cd_cp_n (by omega)]
      exact h.2 t j ht hj
end
section
variable {m bw sh tp : Nat} {L c : Nat → Nat} {G : Nat → Option (Nat × Option Nat)} {s o x : Nat}
theorem cd_D_put (h : cd_D m bw sh tp L c G) (hL : L s < 12) (hx : x < 10) : cd_D m bw sh tp (cd_up L s (L s + 1)) (cd_up c (12 * s + L s) x) G := by
  obtain ⟨h1, h2, h3, h4, h5, h6, h7⟩ := h
  refine ⟨h1, h2, h3, h4, h5, fun t ht => ?_, fun t k ht hk => ?_⟩
  · by_cases e : t = s
    · subst e; rw [cd_up_s]; omega
    · rw [cd_up_n e]; exact h6 t ht
  · by_cases e : 12 * t + k = 12 * s + L s
    · rw [e, cd_up_s]; exact hx
    · rw [cd_up_n e]
      by_cases z : t = s
      · subst z; rw [cd_up_s] at hk; exact h7 t k ht (by omega)
      · rw [cd_up_n z] at hk; exact h7 t k ht hk
theorem cd_D_take (h : cd_D m bw sh tp L c G) {n : Nat} (hn : L s = n + 1) : cd_D m bw sh tp (cd_up L s n) c G := by
  obtain ⟨h1, h2, h3, h4, h5, h6, h7⟩ := h
  refine ⟨h1, h2, h3, h4, h5, fun t ht => ?_, fun t k ht hk => ?_⟩
  · by_cases e : t = s
    · subst e; rw [cd_up_s]; have := h6 t ht; omega
    · rw [cd_up_n e]; exact h6 t ht
  · by_cases z : t = s
    · subst z; rw [cd_up_s] at hk; exact h7 t k ht (by omega)
    · rw [cd_up_n z] at hk; exact h7 t k ht hk
theorem cd_D_copy (h : cd_D m bw sh tp L c G) (ho : o < 10) : cd_D m bw sh tp (cd_up L s (L o)) (cd_cp c s o 12) G := by
  obtain ⟨h1, h2, h3, h4, h5, h6, h7⟩ := h
  have := h6 o ho
  refine ⟨h1, h2, h3, h4, h5, fun t ht => ?_, fun t k ht hk => ?_⟩
  · by_cases e : t = s
    · subst e; rw [cd_up_s]; omega
    · rw [cd_up_n e]; exact h6 t ht
  · by_cases z : t = s
    · subst z
      rw [cd_up_s] at hk
      rw [cd_cp_i (by omega)]
      exact h7 o k ho hk
    · rw [cd_up_n z] at hk
      have := h6 t ht
      rw [cd_cp_n (by omega)]
      exact h7 t k ht hk
theorem cd_D_G (h : cd_D m bw sh tp L c G) {m' : Nat} {G' : Nat → Option (Nat × Option Nat)} (hm : m' ≤ 6) (hG : cd_OK G') : cd_D m' bw sh tp L c G' := by
  obtain ⟨h1, h2, h3, h4, h5, h6, h7⟩ := h
  exact ⟨hm, h2, h3, h4, hG, h6, h7⟩
theorem cd_D_set (h : cd_D m bw sh tp L c G) {bw' sh' tp' : Nat} (h1 : bw' ≤ 1) (h2 : sh' ≤ 1) (h3 : tp' ≤ 30) : cd_D m bw' sh' tp' L c G := by
  obtain ⟨k1, k2, k3, k4, k5, k6, k7⟩ := h
  exact ⟨k1, h1, h2, h3, k5, k6, k7⟩
end
section
variable {m : Nat} {G : Nat → Option (Nat × Option Nat)} {W A : Nat → Nat} {B : Nat → Option Nat} {aw ae : Nat → Int32}
/-- the component's cells, its table named -/
def cd_XC (m : Nat) (W A : Nat → Nat) (B : Nat → Option Nat) (aw ae : Nat → Int32) : Prop :=
  (∀ p, p < 10 + m → aw p = nI (W p) ∧ ae (2 * p) = nI (A p) ∧ ae (2 * p + 1) = cd_en (B p)) ∧ (∀ p, 10 + m ≤ p → p < 16 → ae (2 * p) = -1 ∧ ae (2 * p + 1) = -1)
theorem cd_XT_i (h : cd_TB m G W A B) (h2 : cd_XC m W A B aw ae) : cd_XT m G aw ae := ⟨W, A, B, h, h2.1, h2.2⟩
theorem cd_XT_set (h : cd_TB m G W A B) (h2 : cd_XC m W A B aw ae) {p a : Nat} {b : Option Nat} (hp : p < 10 + m) :
    cd_XT m (cd_up G (W p) (some (a, b))) (upd aw p (nI (W p))) (upd (upd ae (2 * p) (nI a)) (2 * p + 1) (cd_en b)) := by
  refine ⟨W, cd_up A p a, cd_up B p b, cd_TB_set h hp a b, fun q hq => ?_, fun q hq hq2 => ?_⟩
  · by_cases e : q = p
    · subst e
      rw [pk_us, pk_un (by omega), pk_us, pk_us, cd_up_s, cd_up_s]
      exact ⟨rfl, rfl, rfl⟩
    · rw [pk_un e, pk_un (by omega), pk_un (by omega), pk_un (by omega), pk_un (by omega), cd_up_n e, cd_up_n e]
      exact h2.1 q hq
  · rw [pk_un (by omega), pk_un (by omega), pk_un (by omega), pk_un (by omega)]
    exact h2.2 q hq hq2
theorem cd_XT_new (h : cd_TB m G W A B) (h2 : cd_XC m W A B aw ae) {w a : Nat} {b : Option Nat} (hw : w ≤ 1330) (hn : G w = none) :
    cd_XT (m + 1) (cd_up G w (some (a, b))) (upd aw (10 + m) (nI w)) (upd (upd ae (2 * (10 + m)) (nI a)) (2 * (10 + m) + 1) (cd_en b)) := by
  refine ⟨cd_up W (10 + m) w, cd_up A (10 + m) a, cd_up B (10 + m) b, cd_TB_new h hw hn a b, fun q hq => ?_, fun q hq hq2 => ?_⟩
  · by_cases e : q = 10 + m
    · subst e
      rw [pk_us, pk_un (by omega), pk_us, pk_us, cd_up_s, cd_up_s, cd_up_s]
      exact ⟨rfl, rfl, rfl⟩
    · rw [pk_un e, pk_un (by omega), pk_un (by omega), pk_un (by omega), pk_un (by omega), cd_up_n e, cd_up_n e, cd_up_n e]
      exact h2.1 q (by omega)
  · rw [pk_un (by omega), pk_un (by omega), pk_un (by omega), pk_un (by omega)]
    exact h2.2 q (by omega) hq2
theorem cd_XT_swap (h : cd_TB (m + 1) G W A B) (h2 : cd_XC (m + 1) W A B aw ae) {p : Nat} (h10 : 10 ≤ p) (hp : p < 10 + (m + 1)) :
    cd_XT m (cd_up G (W p) none) (upd (upd aw p (aw (10 + m))) (10 + m) (-1))
      (upd (upd (upd (upd ae (2 * p) (ae (2 * (10 + m)))) (2 * p + 1) (ae (2 * (10 + m) + 1))) (2 * (10 + m)) (-1)) (2 * (10 + m) + 1) (-1)) := by
  refine ⟨_, _, _, cd_TB_swap h h10 hp, fun q hq => ?_, fun q hq hq2 => ?_⟩
  · rw [pk_un (show q ≠ 10 + m by omega), pk_un (show 2 * q ≠ 2 * (10 + m) + 1 by omega), pk_un (show 2 * q ≠ 2 * (10 + m) by omega), pk_un (show 2 * q ≠ 2 * p + 1 by omega), pk_un (show 2 * q + 1 ≠ 2 * (10 + m) + 1 by omega), pk_un (show 2 * q + 1 ≠ 2 * (10 + m) by omega)]
    by_cases e : q = p
    · subst e
      rw [pk_us, pk_us, pk_us, cd_up_s, cd_up_s, cd_up_s]
      exact h2.1 (10 + m) (by omega)
    · rw [pk_un e, pk_un (by omega), pk_un (by omega), pk_un (by omega), cd_up_n e, cd_up_n e, cd_up_n e]
      exact h2.1 q (by omega)
  · by_cases e : q = 10 + m
    · subst e
      rw [pk_un (by omega), pk_us, pk_us]
      exact ⟨rfl, rfl⟩
    · rw [pk_un (show 2 * q ≠ 2 * (10 + m) + 1 by omega), pk_un (show 2 * q ≠ 2 * (10 + m) by omega), pk_un (show 2 * q ≠ 2 * p + 1 by omega), pk_un (show 2 * q ≠ 2 * p by omega),
        pk_un (show 2 * q + 1 ≠ 2 * (10 + m) + 1 by omega), pk_un (show 2 * q + 1 ≠ 2 * (10 + m) by omega), pk_un (show 2 * q + 1 ≠ 2 * p + 1 by omega), pk_un (show 2 * q + 1 ≠ 2 * p by omega)]
      exact h2.2 q (by omega) hq2
theorem cd_XC_k (hm : m ≤ 6) (h2 : cd_XC m W A B aw ae) : ∀ k, k < 32 → ae k = cd_en (cd_cl m A B k) := cd_XT_cells hm (fun p hp => ⟨(h2.1 p hp).2.1, (h2.1 p hp).2.2⟩) h2.2
/-- makeRoom's cells, then the moved letter's -/
theorem cd_XT_tG (h : cd_TB m G W A B) (h2 : cd_XC m W A B aw ae) {a b l : Nat} (hm : m ≤ 6) (hb : b < 10) {ae' : Nat → Int32} (he : ∀ k, k < 32 → ae' k = cd_en ((cd_cl m A B k).map (cd_gx a l))) :
    cd_XT m (cd_tG G a b l) (upd aw b (nI (b + 1))) (upd (upd ae' (2 * b) (nI (cd_bl a l))) (2 * b + 1) (-1)) := by
  refine ⟨W, _, _, cd_TB_tG h hb, fun q hq => ?_, fun q hq hq2 => ?_⟩
  · by_cases e : q = b
    · subst e
      rw [pk_us, pk_un (by omega), pk_us, pk_us, cd_up_s, cd_up_s, h.2.1 q hb]
      exact ⟨rfl, rfl, rfl⟩
    · rw [pk_un e, pk_un (by omega), pk_un (by omega), pk_un (by omega), pk_un (by omega), cd_up_n e, cd_up_n e, he _ (by omega), he _ (by omega), cd_cl_0 hq, cd_cl_1 hq]
      exact ⟨(h2.1 q hq).1, rfl, rfl⟩
  · rw [pk_un (by omega), pk_un (by omega), pk_un (by omega), pk_un (by omega), he _ (by omega), he _ (by omega), cd_cl_n (by omega), cd_cl_n (by omega)]
    exact ⟨rfl, rfl⟩
end
