/-! the component's small methods -/
theorem cd_lo {x : Int32} {b : Nat} (h : x < 0) (hb : b < 2 ^ 31) : x < nI b := by
  rw [Int32.lt_iff_toInt_lt] at h ⊢
  rw [nI_toInt hb]
  have h0 : (0 : Int32).toInt = 0 := by decide
  omega
theorem cd_hi {x : Int32} {a b : Nat} (h : nI b ≤ x) (hab : a < b) (hb : b < 2 ^ 31) : nI a < x := by
  rw [Int32.le_iff_toInt_le, nI_toInt hb] at h
  rw [Int32.lt_iff_toInt_lt, nI_toInt (by omega)]
  omega
theorem cd_hi_le {x : Int32} {a b : Nat} (h : nI b ≤ x) (hab : a ≤ b) (hb : b < 2 ^ 31) : nI a ≤ x := by
  rw [Int32.le_iff_toInt_le, nI_toInt hb] at h
  rw [Int32.le_iff_toInt_le, nI_toInt (by omega)]
  omega
theorem cd_nle {x : Int32} {a : Nat} (h : nI a < x) : ¬ x ≤ nI a := Int32.not_le.mpr h
theorem cd_nlt {x : Int32} {a : Nat} (h : nI a ≤ x) : ¬ x < nI a := Int32.not_lt.mpr h
theorem xx_slot_t {post : Int32 → Prop} {s : Nat} (h : s < 10) (k : post 1) : wpX_isSlot post (nI s) :=
  br_f (nI_pos (by omega)) (br_f (nI_ge (b := 10) h (by decide)) k)
theorem xx_slot_f {post : Int32 → Prop} {x : Int32} (h : x < 0 ∨ nI 10 ≤ x) (k : post 0) : wpX_isSlot post x :=
  br_c (fun _ => k) (fun z => br_t (h.resolve_left z) k)
theorem xx_let_t {post : Int32 → Prop} {s : Nat} (h : s < 10) (k : post 1) : wpX_isLetter post (nI s) :=
  br_f (nI_pos (by omega)) (br_f (nI_ge (b := 10) h (by decide)) k)
theorem xx_let_f {post : Int32 → Prop} {x : Int32} (h : x < 0 ∨ nI 10 ≤ x) (k : post 0) : wpX_isLetter post x :=
  br_c (fun _ => k) (fun z => br_t (h.resolve_left z) k)
theorem xx_str_t {post : Int32 → Prop} {s : Nat} (h1 : 1 ≤ s) (h4 : s ≤ 4) (k : post 1) : wpX_isStrength post (nI s) :=
  br_f (nI_nlt (b := 1) h1 (by omega)) (br_f (nI_nlt (a := 4) h4 (by decide)) k)
theorem xx_str_f {post : Int32 → Prop} {x : Int32} (h : x < 1 ∨ 4 < x) (k : post 0) : wpX_isStrength post x :=
  br_c (fun _ => k) (fun z => br_t (h.resolve_left z) k)
theorem cd_str (x : Int32) : (x < 1 ∨ 4 < x) ∨ ∃ s : Nat, 1 ≤ s ∧ s ≤ 4 ∧ x = nI s := by
  rcases pk_ix x (n := 5) (by decide) with h | h | ⟨j, hj, rfl⟩
  · exact Or.inl (Or.inl (cd_lo (b := 1) h (by decide)))
  · exact Or.inl (Or.inr (cd_hi (a := 4) h (by decide) (by decide)))
  · by_cases z : j = 0
    · subst z
      exact Or.inl (Or.inl (by decide))
    · exact Or.inr ⟨j, by omega, by omega, rfl⟩
section
variable {w : Nat}
theorem cd_wl_a (h1 : w % 11 = 0) : cd_wl w = 0 := by unfold cd_wl; rw [if_pos h1]
theorem cd_wl_b (h1 : ¬ w % 11 = 0) (h2 : w / 11 % 11 = 0) (h3 : w / 11 / 11 = 0) : cd_wl w = 1 := by unfold cd_wl; rw [if_neg h1, if_pos h3, if_pos h2]
theorem cd_wl_c (h1 : ¬ w % 11 = 0) (h2 : w / 11 % 11 = 0) (h3 : ¬ w / 11 / 11 = 0) : cd_wl w = 0 := by unfold cd_wl; rw [if_neg h1, if_neg h3, if_pos h2]
theorem cd_wl_d (h1 : ¬ w % 11 = 0) (h2 : ¬ w / 11 % 11 = 0) (h3 : w / 11 / 11 = 0) : cd_wl w = 2 := by unfold cd_wl; rw [if_neg h1, if_pos h3, if_neg h2]
theorem cd_wl_e (h1 : ¬ w % 11 = 0) (h2 : ¬ w / 11 % 11 = 0) (h3 : ¬ w / 11 / 11 = 0) : cd_wl w = 3 := by unfold cd_wl; rw [if_neg h1, if_neg h3, if_neg h2]
end
theorem xx_wl_f {post : Int32 → Prop} {x : Int32} (h : x < 0 ∨ nI 1331 ≤ x) (k : post 0) : wpX_wordLength post x :=
  br_c (fun _ => k) (fun z => br_t (h.elim (fun y => absurd (cd_lo (b := 1) y (by decide)) z) (fun y => cd_hi (a := 1330) y (by decide) (by decide))) k)
theorem xx_wl_t {post : Int32 → Prop} {w : Nat} (h : w < 1331) (k : post (nI (cd_wl w))) : wpX_wordLength post (nI w) := by
  have e1 : nI w - nI w / 11 * 11 = nI (w % 11) := pk_rem (d := 11) (by omega) (by decide) (by decide)
  have e2 : nI w / 11 = nI (w / 11) := pk_div (d := 11) (by omega) (by decide) (by decide)
  have e3 : nI (w / 11) - nI (w / 11) / 11 * 11 = nI (w / 11 % 11) := pk_rem (d := 11) (by omega) (by decide) (by decide)
  have e4 : nI (w / 11) / 11 = nI (w / 11 / 11) := pk_div (d := 11) (by omega) (by decide) (by decide)
  refine pk_lt w 1 (fun z => ?_) (fun z => br_f (nI_nlt (a := 1330) (by omega) (by decide)) ⟨by decide, pk_eq (w % 11) 0 (fun y => ?_) (fun y => ⟨by decide, by decide, pk_eq (w / 11 % 11) 0 (fun x => ⟨by decide, by decide, pk_eq (w / 11 / 11) 0 (fun t => ?_) (fun t => ?_) (by rw [e2, e4])⟩) (fun x => ⟨by decide, by decide, pk_eq (w / 11 / 11) 0 (fun t => ?_) (fun t => ?_) (by rw [e2, e4])⟩) (by rw [e2, e3])⟩) e1⟩)
  · rw [cd_wl_a (by omega)] at k; exact k
  · rw [cd_wl_a y] at k; exact k
  · rw [cd_wl_b y x t] at k; exact br_t rfl (br_t rfl k)
  · rw [cd_wl_c y x t] at k; exact br_f (by decide) (br_t rfl k)
  · rw [cd_wl_d y x t] at k; exact br_t rfl (br_f (by decide) k)
  · rw [cd_wl_e y x t] at k; exact br_f (by decide) (br_f (by decide) k)
theorem cd_wt_b (e l : Nat) : cd_wt e l ≤ e := by
  unfold cd_wt
  split
  · omega
  · split <;> omega
theorem cd_l3 {l : Nat} (h1 : 1 ≤ l) (h3 : l ≤ 3) : l = 1 ∨ l = 2 ∨ l = 3 := by omega
theorem xx_wt {post : Int32 → Prop} {e l : Nat} (he : e < 2 ^ 31) (h1 : 1 ≤ l) (h3 : l ≤ 3) (k : post (nI (cd_wt e l))) : wpX_weightOf post (nI e) (nI l) := by
  rcases cd_l3 h1 h3 with rfl | rfl | rfl
  · have e1 : nI e - nI e / 32 * 32 = nI (cd_wt e 1) := pk_rem (d := 32) he (by decide) (by decide)
    rw [← e1] at k
    exact br_t rfl ⟨by decide, k⟩
  · have e1 : (nI e - nI e / 256 * 256) / 32 = nI (cd_wt e 2) := by
      have e2 : nI e - nI e / 256 * 256 = nI (e % 256) := pk_rem (d := 256) he (by decide) (by decide)
      have e3 : nI (e % 256) / 32 = nI (e % 256 / 32) := pk_div (d := 32) (by omega) (by decide) (by decide)
      rw [e2, e3]
      show nI (e % 256 / 32) = nI (e / 32 % 8)
      exact congrArg nI (by omega)
    rw [← e1] at k
    exact br_f (by decide) (br_t rfl ⟨by decide, by decide, k⟩)
  · have e1 : nI e / 256 = nI (cd_wt e 3) := pk_div (d := 256) he (by decide) (by decide)
    rw [← e1] at k
    exact br_f (by decide) (br_f (by decide) ⟨by decide, k⟩)
theorem xx_un {post : Int32 → Prop} {l : Nat} (h1 : 1 ≤ l) (h3 : l ≤ 3) (k : post (nI (cd_un l))) : wpX_unitOf post (nI l) := by
  rcases cd_l3 h1 h3 with rfl | rfl | rfl
  · exact br_t rfl k
  · exact br_f (by decide) (br_t rfl k)
  · exact br_f (by decide) (br_f (by decide) k)
theorem xx_mx {post : Int32 → Prop} {l : Nat} (h1 : 1 ≤ l) (h3 : l ≤ 3) (k : post (nI (cd_mx l))) : wpX_greatestWeight post (nI l) := by
  rcases cd_l3 h1 h3 with rfl | rfl | rfl
  · exact br_t rfl k
  · exact br_f (by decide) (br_t rfl k)
  · exact br_f (by decide) (br_f (by decide) k)
theorem xx_el_f {post : Int32 → Prop} {x : Int32} (h : x < 0) (k : post 0) : wpX_isElement post x := br_t h k
theorem xx_el {post : Int32 → Prop} {e : Nat} (he : e < 2 ^ 31) (k1 : cd_V e → post 1) (k0 : ¬ cd_V e → post 0) : wpX_isElement post (nI e) := by
  have b1 := cd_wt_b e 1
  have b3 := cd_wt_b e 3
  have w1 : cd_wt e 1 = e % 32 := rfl
  have w3 : cd_wt e 3 = e / 256 := rfl
  refine br_f (nI_pos he) (xx_wt (l := 1) he (by decide) (by decide) (pk_lt 30 (cd_wt e 1) (fun z => k0 (fun v => ?_)) (fun z => xx_wt (l := 3) he (by decide) (by decide) (pk_lt 3 (cd_wt e 3) (fun y => k0 (fun v => ?_)) (fun y => k1 ⟨?_, ?_⟩)))))
  · have := v.2; omega
  · have := v.1; omega
  · omega
  · omega
section
variable {m bw sh tp : Nat} {al an aw ae e1 e2 e3 e4 ek el : Nat → Int32}
theorem xx_set {post : SX → Prop} {p : Nat} {w a b : Int32} (h : p < 16) (k : post (nI m, nI bw, nI sh, nI tp, al, an, (upd aw p w), (upd (upd ae (2 * p) a) (2 * p + 1) b), e1, e2, e3, e4, ek, el)) : wpX_setEntry post (nI m, nI bw, nI sh, nI tp, al, an, aw, ae, e1, e2, e3, e4, ek, el) (nI p) w a b :=
  ⟨vp_in_nI h (by omega), nm_r (e' := upd aw p w) (by rw [nI_clamp (by omega)]) ⟨pk_in (2 * p) 32 (by omega) (cd_2p p), nm_r (e' := upd ae (2 * p) a) (by rw [pk_cl (2 * p) (cd_2p p)])
    ⟨pk_in (2 * p + 1) 32 (by omega) (cd_2q p), nm_r (e' := upd (upd ae (2 * p) a) (2 * p + 1) b) (by rw [pk_cl (2 * p + 1) (cd_2q p)]) k⟩⟩⟩
variable {G : Nat → Option (Nat × Option Nat)} {W A : Nat → Nat} {B : Nat → Option Nat}
theorem xx_eo_l {post : Int32 → Prop} {w : Nat} (hT : cd_TB m G W A B) (hC : cd_XC m W A B aw ae) (hm : m ≤ 6) (hw : w < 2 ^ 31) (k1 : ∀ p, p < 10 + m → W p = w → post (nI p)) (k0 : G w = none → post (-1)) :
    ∀ d i, i + d = 10 + m → (∀ p, p < i → ¬ W p = w) → wX_entryOf_2 post (nI w) (nI m) (nI bw) (nI sh) (nI tp) al an aw ae e1 e2 e3 e4 ek el (d + 1) (nI i) := by
  intro d
  induction d with
  | zero =>
    intro i hi hn
    exact br_t (by rw [cd_10]; exact nI_le (by omega) (by omega)) (k0 (cd_TB_none hT (fun p hp => hn p (by omega))))
  | succ d ih =>
    intro i hi hn
    have e : aw (nI i).toNatClampNeg = nI (W i) := by rw [nI_clamp (by omega)]; exact (hC.1 i (by omega)).1
    have hW := (hT.1 i (by omega)).1
    refine br_f (by rw [cd_10]; exact nI_ge (by omega) (by omega)) ⟨vp_in_nI (by omega) (by omega), pk_eq (W i) w (fun z => ?_) (fun z => ?_) e⟩
    · exact k1 i (by omega) z
    · refine nm_r (nI_1 i) (ih (i + 1) (by omega) (fun p hp => ?_))
      by_cases q : p = i
      · subst q; exact z
      · exact hn p (by omega)
theorem xx_eo {post : Int32 → Prop} {w : Nat} (hT : cd_TB m G W A B) (hC : cd_XC m W A B aw ae) (hm : m ≤ 6) (hw : w < 2 ^ 31) (k1 : ∀ p, p < 10 + m → W p = w → post (nI p)) (k0 : G w = none → post (-1)) :
    wpX_entryOf post (nI m, nI bw, nI sh, nI tp, al, an, aw, ae, e1, e2, e3, e4, ek, el) (nI w) :=
  ⟨10 + m + 1, xx_eo_l hT hC hm hw k1 k0 (10 + m) 0 (by omega) (fun p hp => absurd hp (Nat.not_lt_zero p))⟩
end
