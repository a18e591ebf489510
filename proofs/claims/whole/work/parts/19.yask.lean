/-! the reference: the questions -/
section
variable {m bw sh tp : Nat} {fm : Int32} {vn vl vw vc vo vt g1 g2 g3 g4 gs gk : Nat → Int32} {G : Nat → Option (Nat × Option Nat)} {W A : Nat → Nat} {B : Nat → Option Nat} {L c : Nat → Nat}
theorem yy_ms {post : SY → Prop} {x : Int32} {side s n : Nat} (hx : x = nI (L s)) (hD : cd_D m bw sh tp L c G) (hS : cd_ST L c vn vl) (hT : cd_TB m G W A B) (hC : cd_YC m W A B vw vc vo vt) (hside : side < 2) (hs : s < 10) (hn : n ≤ 4)
    (K : ∀ fm a1 a2 a3 a4 bs bk, cd_KT (110 * side) side bk bs (cd_K sh tp bw L c G n s) → (∀ j J, ¬ j = side → cd_KT (110 * j) j gk gs J → cd_KT (110 * j) j bk bs J) → post (nI m, nI bw, nI sh, nI tp, fm, vn, vl, vw, vc, vo, vt, a1, a2, a3, a4, bs, bk)) :
    wpY_makeKey post (nI m, nI bw, nI sh, nI tp, fm, vn, vl, vw, vc, vo, vt, g1, g2, g3, g4, gs, gk) (nI side) (nI s) 0 x (nI n) :=
  yy_mk (p := 0) rfl hx hT hC hD.1 hD.2.2.2.2.1 hD.2.2.1 hD.2.2.2.1 hD.2.1 hside hs (Nat.zero_le _) (hD.2.2.2.2.2.1 s hs) (cd_CL_0 hD hS hs (Nat.le_refl _)) hn K
theorem yy_cp {post : Int32 → SY → Prop} {i j n : Nat} (hD : cd_D m bw sh tp L c G) (hS : cd_ST L c vn vl) (hT : cd_TB m G W A B) (hC : cd_YC m W A B vw vc vo vt) (hi : i < 10) (hj : j < 10) (hn : n ≤ 4)
    (K : ∀ fm a1 a2 a3 a4 bs bk, post (cd_cm (cd_K sh tp bw L c G n i) (cd_K sh tp bw L c G n j)) (nI m, nI bw, nI sh, nI tp, fm, vn, vl, vw, vc, vo, vt, a1, a2, a3, a4, bs, bk)) : wpY_compared post (nI m, nI bw, nI sh, nI tp, fm, vn, vl, vw, vc, vo, vt, g1, g2, g3, g4, gs, gk) (nI i) (nI j) (nI n) := by
  refine ⟨vp_in_nI hi (by omega), yy_ms (side := 0) (by rw [nI_clamp (by omega)]; exact hS.1 i hi) hD hS hT hC (by omega) hi hn (fun fm a1 a2 a3 a4 bs bk hK hfr => ?_)⟩
  refine ⟨vp_in_nI hj (by omega), yy_ms (side := 1) (by rw [nI_clamp (by omega)]; exact hS.1 j hj) hD hS hT hC (by omega) hj hn (fun fm b1 b2 b3 b4 ds dk hK' hfr' => ?_)⟩
  exact yy_or (hfr' 0 _ (by omega) hK) hK' (K fm b1 b2 b3 b4 ds dk)
theorem yy_rk {post : Int32 → SY → Prop} {s n : Nat} (hD : cd_D m bw sh tp L c G) (hS : cd_ST L c vn vl) (hT : cd_TB m G W A B) (hC : cd_YC m W A B vw vc vo vt) (hs : s < 10) (hn : n ≤ 4)
    (K : ∀ fm a1 a2 a3 a4 bs bk, post (nI (cd_rk sh tp bw L c G n s)) (nI m, nI bw, nI sh, nI tp, fm, vn, vl, vw, vc, vo, vt, a1, a2, a3, a4, bs, bk)) :
    ∀ d i fm a1 a2 a3 a4 bs bk, i + d = 10 → wY_rank_27 post (nI s) (nI n) (d + 1) (nI (cd_ct (fun i => cd_lt sh tp bw L c G n i s) i)) (nI i) (nI m) (nI bw) (nI sh) (nI tp) fm vn vl vw vc vo vt a1 a2 a3 a4 bs bk := by
  intro d
  induction d with
  | zero =>
    intro i fm a1 a2 a3 a4 bs bk hi
    obtain rfl : i = 10 := by omega
    exact br_t (by decide) (K fm a1 a2 a3 a4 bs bk)
  | succ d ih =>
    intro i fm a1 a2 a3 a4 bs bk hi
    refine br_f (nI_ge (b := 10) (by omega) (by decide)) (yy_cp hD hS hT hC (by omega) hs hn (fun fm b1 b2 b3 b4 ds dk => ?_))
    have go := ih (i + 1) fm b1 b2 b3 b4 ds dk (by omega)
    refine br_c (fun z => nm_r (nI_1 i) ?_) (fun z => nm_r (nI_1 _) (nm_r (nI_1 i) ?_))
    · rw [cd_ct_f (P := fun i => cd_lt sh tp bw L c G n i s) (decide_eq_false (Int32.not_lt.mpr z))] at go; exact go
    · rw [cd_ct_t (P := fun i => cd_lt sh tp bw L c G n i s) (decide_eq_true (Int32.not_le.mp z))] at go; exact go
theorem yy_pl_l {post : Int32 → SY → Prop} {s n : Nat} (hD : cd_D m bw sh tp L c G) (hS : cd_ST L c vn vl) (hT : cd_TB m G W A B) (hC : cd_YC m W A B vw vc vo vt) (hs : s < 10) (hn : n ≤ 4)
    (K : ∀ fm a1 a2 a3 a4 bs bk, post (nI (cd_po sh tp bw L c G n s)) (nI m, nI bw, nI sh, nI tp, fm, vn, vl, vw, vc, vo, vt, a1, a2, a3, a4, bs, bk)) :
    ∀ d i fm a1 a2 a3 a4 bs bk, i + d = 10 → wY_placeOf_5 post (nI s) (nI n) (d + 1) (nI (cd_ct (fun i => cd_lt sh tp bw L c G n i s || (cd_eq sh tp bw L c G n i s && decide (i < s))) i)) (nI i) (nI m) (nI bw) (nI sh) (nI tp) fm vn vl vw vc vo vt a1 a2 a3 a4 bs bk := by
  intro d
  induction d with
  | zero =>
    intro i fm a1 a2 a3 a4 bs bk hi
    obtain rfl : i = 10 := by omega
    exact br_t (by decide) (K fm a1 a2 a3 a4 bs bk)
  | succ d ih =>
    intro i fm a1 a2 a3 a4 bs bk hi
    refine br_f (nI_ge (b := 10) (by omega) (by decide)) (yy_cp hD hS hT hC (by omega) hs hn (fun fm b1 b2 b3 b4 ds dk => ?_))
    have go := ih (i + 1) fm b1 b2 b3 b4 ds dk (by omega)
    have P : ∀ i, (fun i => cd_lt sh tp bw L c G n i s || (cd_eq sh tp bw L c G n i s && decide (i < s))) i = (decide (cd_cm (cd_K sh tp bw L c G n i) (cd_K sh tp bw L c G n s) < 0) || (decide (cd_cm (cd_K sh tp bw L c G n i) (cd_K sh tp bw L c G n s) = 0) && decide (i < s))) := fun i => rfl
    generalize (fun i => cd_lt sh tp bw L c G n i s || (cd_eq sh tp bw L c G n i s && decide (i < s))) = Q at go P ⊢
    refine br_c (fun z => nm_r (nI_1 _) (nm_r (nI_1 i) ?_)) (fun z => br_c (fun y => pk_le s i (fun t => nm_r (nI_1 i) ?_) (fun t => nm_r (nI_1 _) (nm_r (nI_1 i) ?_))) (fun y => nm_r (nI_1 i) ?_))
    · rw [cd_ct_t (by rw [P, decide_eq_true z]; rfl)] at go; exact go
    · rw [cd_ct_f (by rw [P, decide_eq_false z, decide_eq_false (show ¬ i < s by omega), Bool.and_false]; rfl)] at go; exact go
    · rw [cd_ct_t (by rw [P, decide_eq_true y, decide_eq_true (show i < s by omega), Bool.and_true, Bool.or_true])] at go; exact go
    · rw [cd_ct_f (by rw [P, decide_eq_false z, decide_eq_false y]; rfl)] at go; exact go
theorem yy_nt {post : Int32 → SY → Prop} {k n : Nat} (hD : cd_D m bw sh tp L c G) (hS : cd_ST L c vn vl) (hT : cd_TB m G W A B) (hC : cd_YC m W A B vw vc vo vt) (hk : k < 10) (hn : n ≤ 4)
    (K : ∀ fm a1 a2 a3 a4 bs bk, post (nI (cd_nt sh tp bw L c G n k)) (nI m, nI bw, nI sh, nI tp, fm, vn, vl, vw, vc, vo, vt, a1, a2, a3, a4, bs, bk)) :
    ∀ d i fm a1 a2 a3 a4 bs bk, i + d = 10 → wY_nth_29 post (nI k) (nI n) (d + 1) (nI (cd_la (fun s => decide (cd_po sh tp bw L c G n s = k)) i)) (nI i) (nI m) (nI bw) (nI sh) (nI tp) fm vn vl vw vc vo vt a1 a2 a3 a4 bs bk := by
  intro d
  induction d with
  | zero =>
    intro i fm a1 a2 a3 a4 bs bk hi
    obtain rfl : i = 10 := by omega
    exact br_t (by decide) (K fm a1 a2 a3 a4 bs bk)
  | succ d ih =>
    intro i fm a1 a2 a3 a4 bs bk hi
    have b1 : cd_po sh tp bw L c G n i ≤ 10 := cd_ct_le _ 10
    refine br_f (nI_ge (b := 10) (by omega) (by decide)) ⟨11, yy_pl_l (s := i) hD hS hT hC (by omega) hn (fun fm b1 b2 b3 b4 ds dk => ?_) 10 0 fm a1 a2 a3 a4 bs bk (by omega)⟩
    have go := ih (i + 1) fm b1 b2 b3 b4 ds dk (by omega)
    refine pk_eq (cd_po sh tp bw L c G n i) k (fun z => nm_r (nI_1 i) ?_) (fun z => nm_r (nI_1 i) ?_)
    · rw [cd_la_t (P := fun s => decide (cd_po sh tp bw L c G n s = k)) (decide_eq_true z)] at go; exact go
    · rw [cd_la_f (P := fun s => decide (cd_po sh tp bw L c G n s = k)) (decide_eq_false z)] at go; exact go
theorem yy_k27 {post : Int32 → SY → Prop} {J : Int32 → Int32 → cd_17A} {x2 : Int32} {i n : Nat} (hD : cd_D m bw sh tp L c G) (hS : cd_ST L c vn vl) (hT : cd_TB m G W A B) (hC : cd_YC m W A B vw vc vo vt) (hi : i < 10) (hn : n ≤ 4)
    (K1 : cd_fs sh tp bw L c G n i = true → ∀ fm a1 a2 a3 a4 bs bk, J (x2 + 1) (nI (i + 1)) (nI m) (nI bw) (nI sh) (nI tp) fm vn vl vw vc vo vt a1 a2 a3 a4 bs bk)
    (K0 : cd_fs sh tp bw L c G n i = false → ∀ fm a1 a2 a3 a4 bs bk, J x2 (nI (i + 1)) (nI m) (nI bw) (nI sh) (nI tp) fm vn vl vw vc vo vt a1 a2 a3 a4 bs bk) :
    ∀ d j fm a1 a2 a3 a4 bs bk, j + d = i → wY_kinds_27 post J (nI n) x2 (nI i) (d + 1) (cd_bi (cd_al (fun j => !(cd_eq sh tp bw L c G n j i)) j)) (nI j) (nI m) (nI bw) (nI sh) (nI tp) fm vn vl vw vc vo vt a1 a2 a3 a4 bs bk := by
  intro d
  induction d with
  | zero =>
    intro j fm a1 a2 a3 a4 bs bk hj
    obtain rfl : j = i := by omega
    cases z : cd_fs sh tp bw L c G n j with
    | true =>
      have e : cd_bi (cd_al (fun j' => !(cd_eq sh tp bw L c G n j' j)) j) = 1 := cd_bi_t z
      rw [e]
      exact br_t (nI_le (Nat.le_refl _) (by omega)) (br_f cd_n10 (nm_e (nm_r (nI_1 j) (K1 z fm a1 a2 a3 a4 bs bk))))
    | false =>
      have e : cd_bi (cd_al (fun j' => !(cd_eq sh tp bw L c G n j' j)) j) = 0 := cd_bi_f z
      rw [e]
      exact br_t (nI_le (Nat.le_refl _) (by omega)) (br_t rfl (nm_r (nI_1 j) (K0 z fm a1 a2 a3 a4 bs bk)))
  | succ d ih =>
    intro j fm a1 a2 a3 a4 bs bk hj
    have P : ∀ j, (fun j => !(cd_eq sh tp bw L c G n j i)) j = !(cd_eq sh tp bw L c G n i j) := fun j => by
      show (!(cd_eq sh tp bw L c G n j i)) = _
      rw [cd_eq_c]
    generalize (fun j => !(cd_eq sh tp bw L c G n j i)) = Q at ih P ⊢
    cases z : cd_al Q j with
    | true =>
      refine br_f (nI_ge (by omega) (by omega)) (br_f cd_n10 (yy_cp hD hS hT hC hi (by omega) hn (fun fm b1 b2 b3 b4 ds dk => ?_)))
      have go := ih (j + 1) fm b1 b2 b3 b4 ds dk (by omega)
      refine br_c (fun y => nm_r (nI_1 j) ?_) (fun y => nm_r (nI_1 j) ?_)
      · rw [cd_al_f (by rw [P]; unfold cd_eq; rw [decide_eq_true y]; rfl)] at go; exact go
      · rw [cd_al_t (by rw [P]; unfold cd_eq; rw [decide_eq_false y]; rfl), z] at go; exact go
    | false =>
      have go := ih (j + 1) fm a1 a2 a3 a4 bs bk (by omega)
      have e : cd_al Q (j + 1) = false := by simp only [cd_al, z, Bool.false_and]
      rw [e] at go
      exact br_f (nI_ge (by omega) (by omega)) (br_t rfl (nm_r (nI_1 j) go))
theorem yy_kn {post : Int32 → SY → Prop} {n : Nat} (hD : cd_D m bw sh tp L c G) (hS : cd_ST L c vn vl) (hT : cd_TB m G W A B) (hC : cd_YC m W A B vw vc vo vt) (hn : n ≤ 4)
    (K : ∀ fm a1 a2 a3 a4 bs bk, post (nI (cd_kn sh tp bw L c G n)) (nI m, nI bw, nI sh, nI tp, fm, vn, vl, vw, vc, vo, vt, a1, a2, a3, a4, bs, bk)) :
    ∀ d i fm a1 a2 a3 a4 bs bk, i + d = 10 → wY_kinds_15 post (nI n) (d + 1) (nI (cd_ct (fun s => cd_fs sh tp bw L c G n s) i)) (nI i) (nI m) (nI bw) (nI sh) (nI tp) fm vn vl vw vc vo vt a1 a2 a3 a4 bs bk := by
  intro d
  induction d with
  | zero =>
    intro i fm a1 a2 a3 a4 bs bk hi
    obtain rfl : i = 10 := by omega
    exact br_t (by decide) (K fm a1 a2 a3 a4 bs bk)
  | succ d ih =>
    intro i fm a1 a2 a3 a4 bs bk hi
    refine br_f (nI_ge (b := 10) (by omega) (by decide)) ⟨i + 1, yy_k27 hD hS hT hC (by omega) hn (fun z fm b1 b2 b3 b4 ds dk => ?_) (fun z fm b1 b2 b3 b4 ds dk => ?_) i 0 fm a1 a2 a3 a4 bs bk (by omega)⟩
    · have go := ih (i + 1) fm b1 b2 b3 b4 ds dk (by omega)
      rw [cd_ct_t (P := fun s => cd_fs sh tp bw L c G n s) z] at go
      rw [nI_1]
      exact go
    · have go := ih (i + 1) fm b1 b2 b3 b4 ds dk (by omega)
      rw [cd_ct_f (P := fun s => cd_fs sh tp bw L c G n s) z] at go
      exact go
theorem yy_62 {post : Int32 → SY → Prop} {J : Int32 → cd_17A} {x : Int32} {i j p n : Nat} (hD : cd_D m bw sh tp L c G) (hS : cd_ST L c vn vl) (hT : cd_TB m G W A B) (hC : cd_YC m W A B vw vc vo vt) (hi : i < 10) (hj : j < 10) (hn : n ≤ 4) (hx : ¬ nI p < x)
    (K0 : cd_mr sh tp bw L c G n i j p = false → ∀ fm a1 a2 a3 a4 bs bk, cd_KT (110 * 1) 1 bk bs (cd_K sh tp bw L c G n j) → J (nI (p + 1)) (nI m) (nI bw) (nI sh) (nI tp) fm vn vl vw vc vo vt a1 a2 a3 a4 bs bk)
    (K1 : cd_mr sh tp bw L c G n i j p = true → ∀ fm a1 a2 a3 a4 bs bk, post (nI p) (nI m, nI bw, nI sh, nI tp, fm, vn, vl, vw, vc, vo, vt, a1, a2, a3, a4, bs, bk)) :
    ∀ d y fm a1 a2 a3 a4 bs bk, p + y + d = L i + 1 → cd_KT (110 * 1) 1 bk bs (cd_K sh tp bw L c G n j) → (∀ t, t < y → ¬ cd_KE sh tp bw G c (12 * i + p) (12 * i + p + t) n = cd_K sh tp bw L c G n j) →
      wY_find_62 post J (nI i) (nI n) x (nI p) (d + 1) (nI (p + y)) (nI m) (nI bw) (nI sh) (nI tp) fm vn vl vw vc vo vt a1 a2 a3 a4 bs bk := by
  have hL := hD.2.2.2.2.2.1 i hi
  have eL : vn (nI i).toNatClampNeg = nI (L i) := by rw [nI_clamp (by omega)]; exact hS.1 i hi
  intro d
  induction d with
  | zero =>
    intro y fm a1 a2 a3 a4 bs bk hy hK h
    exact ⟨vp_in_nI hi (by omega), br_t (by rw [eL]; exact nI_lt (by omega) (by omega)) (nm_r (nI_1 p) (K0 (cd_mr_no (fun t ht => h t (by omega))) fm a1 a2 a3 a4 bs bk hK))⟩
  | succ d ih =>
    intro y fm a1 a2 a3 a4 bs bk hy hK h
    refine ⟨vp_in_nI hi (by omega), br_f (by rw [eL]; exact nI_nlt (by omega) (by omega)) (br_f hx ?_)⟩
    refine yy_mk (side := 0) (p := p) (q := p + y) rfl rfl hT hC hD.1 hD.2.2.2.2.1 hD.2.2.1 hD.2.2.2.1 hD.2.1 (by omega) hi (by omega) (by omega) (cd_CL_s hD hS hi (by omega)) hn (fun fm b1 b2 b3 b4 ds dk hR hfr => ?_)
    have hK' := hfr 1 _ (by omega) hK
    rw [← Nat.add_assoc] at hR
    refine yy_or hR hK' (br_c (fun z => ?_) (fun z => nm_r (nI_1 _) (ih (y + 1) fm b1 b2 b3 b4 ds dk (by omega) hK' (fun t ht => ?_))))
    · exact K1 (cd_mr_yes (d := y) (by omega) ((cd_cm_0 _ _).mp z)) fm b1 b2 b3 b4 ds dk
    · by_cases q : t = y
      · subst q; exact fun e => z ((cd_cm_0 _ _).mpr e)
      · exact h t (by omega)
theorem yy_fn {post : Int32 → SY → Prop} {x : Int32} {i j n : Nat} (hD : cd_D m bw sh tp L c G) (hS : cd_ST L c vn vl) (hT : cd_TB m G W A B) (hC : cd_YC m W A B vw vc vo vt) (hi : i < 10) (hj : j < 10) (hn : n ≤ 4) :
    ∀ d p fm a1 a2 a3 a4 bs bk, p + d = L i + 1 → cd_KT (110 * 1) 1 bk bs (cd_K sh tp bw L c G n j) → (∀ fm a1 a2 a3 a4 bs bk, post (cd_fd (cd_fp sh tp bw L c G n i j x) d p) (nI m, nI bw, nI sh, nI tp, fm, vn, vl, vw, vc, vo, vt, a1, a2, a3, a4, bs, bk)) →
      wY_find_47 post (nI i) (nI n) x (d + 1) (nI p) (nI m) (nI bw) (nI sh) (nI tp) fm vn vl vw vc vo vt a1 a2 a3 a4 bs bk := by
  have hL := hD.2.2.2.2.2.1 i hi
  have eL : vn (nI i).toNatClampNeg = nI (L i) := by rw [nI_clamp (by omega)]; exact hS.1 i hi
  intro d
  induction d with
  | zero =>
    intro p fm a1 a2 a3 a4 bs bk hp hK H
    exact ⟨vp_in_nI hi (by omega), br_t (by rw [eL]; exact nI_lt (by omega) (by omega)) (H fm a1 a2 a3 a4 bs bk)⟩
  | succ d ih =>
    intro p fm a1 a2 a3 a4 bs bk hp hK H
    refine ⟨vp_in_nI hi (by omega), br_f (by rw [eL]; exact nI_nlt (by omega) (by omega)) ?_⟩
    by_cases z : nI p < x
    · refine ⟨1, vp_in_nI hi (by omega), br_f (by rw [eL]; exact nI_nlt (by omega) (by omega)) (br_t z (nm_r (nI_1 p) (ih (p + 1) fm a1 a2 a3 a4 bs bk (by omega) hK (fun fm b1 b2 b3 b4 ds dk => ?_))))⟩
      have h := H fm b1 b2 b3 b4 ds dk
      rw [cd_fd_n (cd_fp_f (Int32.not_le.mpr z))] at h
      exact h
    · have e := cd_fp_t (sh := sh) (tp := tp) (bw := bw) (L := L) (c := c) (G := G) (n := n) (i := i) (j := j) (Int32.not_lt.mp z)
      refine ⟨L i + 1 - p + 1, yy_62 hD hS hT hC hi hj hn z (fun w fm b1 b2 b3 b4 ds dk hK' => ih (p + 1) fm b1 b2 b3 b4 ds dk (by omega) hK' (fun fm c1 c2 c3 c4 es ek => ?_)) (fun w fm b1 b2 b3 b4 ds dk => ?_) (L i + 1 - p) 0 fm a1 a2 a3 a4 bs bk (by omega) hK (fun t ht => absurd ht (Nat.not_lt_zero t))⟩
      · have h := H fm c1 c2 c3 c4 es ek
        rw [cd_fd_n (by rw [e]; exact w)] at h
        exact h
      · have h := H fm b1 b2 b3 b4 ds dk
        rw [cd_fd_t (by rw [e]; exact w)] at h
        exact h
end
