/-! settings; the start; the relation's table, both sides -/
section
variable {m bw sh tp : Nat} {al an aw ae e1 e2 e3 e4 ek el : Nat → Int32} {post : Int32 → SX → Prop}
theorem xq_st1 {x y z : Int32} (h : x < 0 ∨ nI 2 ≤ x) (k : post (-1) (nI m, nI bw, nI sh, nI tp, al, an, aw, ae, e1, e2, e3, e4, ek, el)) : wpX_settings post (nI m, nI bw, nI sh, nI tp, al, an, aw, ae, e1, e2, e3, e4, ek, el) x y z :=
  br_c (fun _ => k) (fun q => br_t (cd_hi (a := 1) (h.resolve_left q) (by decide) (by decide)) k)
theorem xq_st2 {s : Nat} {y z : Int32} (hs : s < 2) (h : y < 0 ∨ nI 2 ≤ y) (k : post (-1) (nI m, nI bw, nI sh, nI tp, al, an, aw, ae, e1, e2, e3, e4, ek, el)) : wpX_settings post (nI m, nI bw, nI sh, nI tp, al, an, aw, ae, e1, e2, e3, e4, ek, el) (nI s) y z :=
  br_f (nI_pos (by omega)) (br_f (nI_nlt (a := 1) (by omega) (by decide)) (br_c (fun _ => k) (fun q => br_f (cd_nle (a := 1) (cd_hi (h.resolve_left q) (by decide) (by decide))) k)))
theorem xq_st3 {s t : Nat} {z : Int32} (hs : s < 2) (ht : t < 2) (h : z < 0 ∨ nI 31 ≤ z) (k : post (-2) (nI m, nI bw, nI sh, nI tp, al, an, aw, ae, e1, e2, e3, e4, ek, el)) : wpX_settings post (nI m, nI bw, nI sh, nI tp, al, an, aw, ae, e1, e2, e3, e4, ek, el) (nI s) (nI t) z :=
  br_f (nI_pos (by omega)) (br_f (nI_nlt (a := 1) (by omega) (by decide)) (br_f (nI_pos (by omega)) (br_t (nI_le (b := 1) (by omega) (by decide)) (br_c (fun _ => k) (fun q => br_f (cd_nle (a := 30) (cd_hi (h.resolve_left q) (by decide) (by decide))) k)))))
theorem xq_st4 {s t r : Nat} (hs : s < 2) (ht : t < 2) (hr : r < 31) (k : post 1 (nI m, (nI s), (nI t), (nI r), al, an, aw, ae, e1, e2, e3, e4, ek, el)) : wpX_settings post (nI m, nI bw, nI sh, nI tp, al, an, aw, ae, e1, e2, e3, e4, ek, el) (nI s) (nI t) (nI r) :=
  br_f (nI_pos (by omega)) (br_f (nI_nlt (a := 1) (by omega) (by decide)) (br_f (nI_pos (by omega)) (br_t (nI_le (b := 1) (by omega) (by decide)) (br_f (nI_pos (by omega)) (br_t (nI_le (b := 30) (by omega) (by decide)) k)))))
end
section
variable {m bw sh tp : Nat} {fm : Int32} {vn vl vw vc vo vt g1 g2 g3 g4 gs gk : Nat → Int32} {post : Int32 → SY → Prop}
theorem yq_st1 {x y z : Int32} (h : x < 0 ∨ nI 2 ≤ x) (k : post (-1) (nI m, nI bw, nI sh, nI tp, fm, vn, vl, vw, vc, vo, vt, g1, g2, g3, g4, gs, gk)) : wpY_settings post (nI m, nI bw, nI sh, nI tp, fm, vn, vl, vw, vc, vo, vt, g1, g2, g3, g4, gs, gk) x y z :=
  br_c (fun _ => k) (fun q => br_t (cd_hi (a := 1) (h.resolve_left q) (by decide) (by decide)) k)
theorem yq_st2 {s : Nat} {y z : Int32} (hs : s < 2) (h : y < 0 ∨ nI 2 ≤ y) (k : post (-1) (nI m, nI bw, nI sh, nI tp, fm, vn, vl, vw, vc, vo, vt, g1, g2, g3, g4, gs, gk)) : wpY_settings post (nI m, nI bw, nI sh, nI tp, fm, vn, vl, vw, vc, vo, vt, g1, g2, g3, g4, gs, gk) (nI s) y z :=
  br_f (nI_pos (by omega)) (br_f (nI_nlt (a := 1) (by omega) (by decide)) (br_c (fun _ => k) (fun q => br_f (cd_nle (a := 1) (cd_hi (h.resolve_left q) (by decide) (by decide))) k)))
theorem yq_st3 {s t : Nat} {z : Int32} (hs : s < 2) (ht : t < 2) (h : z < 0 ∨ nI 31 ≤ z) (k : post (-2) (nI m, nI bw, nI sh, nI tp, fm, vn, vl, vw, vc, vo, vt, g1, g2, g3, g4, gs, gk)) : wpY_settings post (nI m, nI bw, nI sh, nI tp, fm, vn, vl, vw, vc, vo, vt, g1, g2, g3, g4, gs, gk) (nI s) (nI t) z :=
  br_f (nI_pos (by omega)) (br_f (nI_nlt (a := 1) (by omega) (by decide)) (br_f (nI_pos (by omega)) (br_t (nI_le (b := 1) (by omega) (by decide)) (br_c (fun _ => k) (fun q => br_f (cd_nle (a := 30) (cd_hi (h.resolve_left q) (by decide) (by decide))) k)))))
theorem yq_st4 {s t r : Nat} (hs : s < 2) (ht : t < 2) (hr : r < 31) (k : post 1 (nI m, (nI s), (nI t), (nI r), fm, vn, vl, vw, vc, vo, vt, g1, g2, g3, g4, gs, gk)) : wpY_settings post (nI m, nI bw, nI sh, nI tp, fm, vn, vl, vw, vc, vo, vt, g1, g2, g3, g4, gs, gk) (nI s) (nI t) (nI r) :=
  br_f (nI_pos (by omega)) (br_f (nI_nlt (a := 1) (by omega) (by decide)) (br_f (nI_pos (by omega)) (br_t (nI_le (b := 1) (by omega) (by decide)) (br_f (nI_pos (by omega)) (br_t (nI_le (b := 30) (by omega) (by decide)) k)))))
end
theorem cd_lvl (x : Int32) : (x < 1 ∨ 3 < x) ∨ ∃ s : Nat, 1 ≤ s ∧ s ≤ 3 ∧ x = nI s := by
  rcases pk_ix x (n := 4) (by decide) with h | h | ⟨j, hj, rfl⟩
  · exact Or.inl (Or.inl (cd_lo (b := 1) h (by decide)))
  · exact Or.inl (Or.inr (cd_hi (a := 3) h (by decide) (by decide)))
  · by_cases z : j = 0
    · subst z
      exact Or.inl (Or.inl (by decide))
    · exact Or.inr ⟨j, by omega, by omega, rfl⟩
theorem cd_in (x : Int32) {n : Nat} (hn : n < 2 ^ 31) : (x < 0 ∨ nI n ≤ x) ∨ ∃ j : Nat, j < n ∧ x = nI j := by
  rcases pk_ix x hn with h | h | h
  · exact Or.inl (Or.inl h)
  · exact Or.inl (Or.inr h)
  · exact Or.inr h
theorem cd_TB_A {m m' : Nat} {G : Nat → Option (Nat × Option Nat)} {W A W' A' : Nat → Nat} {B B' : Nat → Option Nat} (h : cd_TB m G W A B) (h' : cd_TB m' G W' A' B') {a : Nat} (ha : a < 10) : A' a = A a := by
  have e := (h.1 a (by omega)).2
  have e' := (h'.1 a (by omega)).2
  rw [h.2.1 a ha] at e
  rw [h'.2.1 a ha, e] at e'
  exact (congrArg Prod.fst (Option.some.inj e')).symm
theorem cd_TB_10 {m : Nat} {G : Nat → Option (Nat × Option Nat)} {W A : Nat → Nat} {B : Nat → Option Nat} (h : cd_TB m G W A B) {w : Nat} (hw : 2 ≤ cd_wl w) (p : Nat) (e : W p = w) : 10 ≤ p := by
  by_cases z : p < 10
  · rw [h.2.1 p z] at e
    have := cd_wl_1 z
    rw [e] at this
    omega
  · omega
/-! the start -/
theorem x0_2 {post : SX → Prop} (K : ∀ aw ae, cd_XC 0 (fun p => p + 1) (fun p => p + 1 + 288) (fun _ => none) aw ae → post ((nI 0), (nI 0), (nI 0), (nI 0), (fun _ => 0), (fun _ => 0), aw, ae, (fun _ => 0), (fun _ => 0), (fun _ => 0), (fun _ => 0), (fun _ => 0), (fun _ => 0))) :
    ∀ d i aw ae, i + d = 16 → 10 ≤ i → (∀ p, p < 10 → aw p = nI (p + 1) ∧ ae (2 * p) = nI (p + 1 + 288) ∧ ae (2 * p + 1) = -1) → (∀ p, 10 ≤ p → p < i → ae (2 * p) = -1 ∧ ae (2 * p + 1) = -1) →
      wX_init_141 post (d + 1) (nI i) (nI 0) (nI 0) (nI 0) (nI 0) (fun _ => 0) (fun _ => 0) aw ae (fun _ => 0) (fun _ => 0) (fun _ => 0) (fun _ => 0) (fun _ => 0) (fun _ => 0) := by
  intro d
  induction d with
  | zero =>
    intro i aw ae hi h10 h1 h2
    obtain rfl : i = 16 := by omega
    exact br_t (by decide) (K aw ae ⟨fun p hp => h1 p (by omega), fun p hp hp2 => h2 p (by omega) hp2⟩)
  | succ d ih =>
    intro i aw ae hi h10 h1 h2
    refine br_f (nI_ge (b := 16) (by omega) (by decide)) ?_
    refine xx_set (p := i) (by omega) (nm_r (nI_1 i) (ih (i + 1) _ _ (by omega) (by omega) (fun p hp => ?_) (fun p hp hp2 => ?_)))
    · rw [pk_un (by omega), pk_un (by omega), pk_un (by omega), pk_un (by omega), pk_un (by omega)]
      exact h1 p hp
    · by_cases z : p = i
      · subst z
        rw [pk_un (by omega), pk_us, pk_us]
        exact ⟨rfl, rfl⟩
      · rw [pk_un (by omega), pk_un (by omega), pk_un (by omega), pk_un (by omega)]
        exact h2 p hp (by omega)
theorem x0_1 {post : SX → Prop} (K : ∀ aw ae, cd_XC 0 (fun p => p + 1) (fun p => p + 1 + 288) (fun _ => none) aw ae → post ((nI 0), (nI 0), (nI 0), (nI 0), (fun _ => 0), (fun _ => 0), aw, ae, (fun _ => 0), (fun _ => 0), (fun _ => 0), (fun _ => 0), (fun _ => 0), (fun _ => 0))) :
    ∀ d i aw ae, i + d = 10 → (∀ p, p < i → aw p = nI (p + 1) ∧ ae (2 * p) = nI (p + 1 + 288) ∧ ae (2 * p + 1) = -1) →
      wX_init_107 post (d + 1) (nI i) (nI 0) (nI 0) (nI 0) (nI 0) (fun _ => 0) (fun _ => 0) aw ae (fun _ => 0) (fun _ => 0) (fun _ => 0) (fun _ => 0) (fun _ => 0) (fun _ => 0) := by
  intro d
  induction d with
  | zero =>
    intro i aw ae hi h1
    obtain rfl : i = 10 := by omega
    exact br_t (by decide) ⟨7, x0_2 K 6 10 aw ae (by omega) (by omega) h1 (fun p hp hp2 => absurd hp2 (by omega))⟩
  | succ d ih =>
    intro i aw ae hi h1
    have e : nI i + 1 + 32 + 256 = nI (i + 1 + 288) := by
      show nI i + nI 1 + nI 32 + nI 256 = _
      rw [nI_add, nI_add, nI_add]
    refine br_f (nI_ge (b := 10) (by omega) (by decide)) ?_
    refine xx_set (p := i) (by omega) (nm_r (nI_1 i) (ih (i + 1) _ _ (by omega) (fun p hp => ?_)))
    by_cases z : p = i
    · subst z
      rw [pk_us, pk_un (by omega), pk_us, pk_us, e]
      exact ⟨nI_1 p, rfl, rfl⟩
    · rw [pk_un (by omega), pk_un (by omega), pk_un (by omega), pk_un (by omega), pk_un (by omega)]
      exact h1 p (by omega)
theorem y0_1 {post : SY → Prop} (K : ∀ vw vc vo, cd_YC 0 (fun p => p + 1) (fun p => p + 1 + 288) (fun _ => none) vw vc vo (fun _ => 0) → post ((nI 0), (nI 0), (nI 0), (nI 0), 0, (fun _ => 0), (fun _ => 0), vw, vc, vo, (fun _ => 0), (fun _ => 0), (fun _ => 0), (fun _ => 0), (fun _ => 0), (fun _ => 0), (fun _ => 0))) :
    ∀ d i vw vc vo, i + d = 10 → (∀ p, p < i → vw p = nI (p + 1) ∧ vo p = nI (p + 1 + 288) ∧ vc p = 1) →
      wY_init_102 post (nI 0) (nI 0) (nI 0) (nI 0) 0 (d + 1) (nI i) (fun _ => 0) (fun _ => 0) vw vc vo (fun _ => 0) (fun _ => 0) (fun _ => 0) (fun _ => 0) (fun _ => 0) (fun _ => 0) (fun _ => 0) := by
  intro d
  induction d with
  | zero =>
    intro i vw vc vo hi h1
    obtain rfl : i = 10 := by omega
    exact br_t (by decide) (K vw vc vo (fun p hp => ⟨(h1 p (by omega)).1, (h1 p (by omega)).2.1, (h1 p (by omega)).2.2, fun e he => by cases he⟩))
  | succ d ih =>
    intro i vw vc vo hi h1
    have e : nI i + 1 + 32 + 256 = nI (i + 1 + 288) := by
      show nI i + nI 1 + nI 32 + nI 256 = _
      rw [nI_add, nI_add, nI_add]
    have vi : vp_in (nI i) 16 := vp_in_nI (by omega) (by omega)
    have ec : (nI i).toNatClampNeg = i := nI_clamp (by omega)
    refine br_f (nI_ge (b := 10) (by omega) (by decide)) ⟨vi, nm_r (e' := upd vw i (nI (i + 1))) (by rw [ec, nI_1]) ⟨vi, nm_r (e' := upd vc i 1) (by rw [ec]) ⟨vi, nm_r (e' := upd vo i (nI (i + 1 + 288))) (by rw [ec, e]) (nm_r (nI_1 i) (ih (i + 1) _ _ _ (by omega) (fun p hp => ?_)))⟩⟩⟩
    by_cases z : p = i
    · subst z
      rw [pk_us, pk_us, pk_us]
      exact ⟨rfl, rfl, rfl⟩
    · rw [pk_un z, pk_un z, pk_un z]
      exact h1 p (by omega)
