/-! the component: the questions -/
theorem cd_CL_s {m bw sh tp : Nat} {L c : Nat → Nat} {G : Nat → Option (Nat × Option Nat)} {an al : Nat → Int32} {s i j : Nat} (hD : cd_D m bw sh tp L c G) (hS : cd_ST L c an al) (hs : s < 10) (hj : j ≤ L s) : cd_CL c al (12 * s + i) (12 * s + j) := fun x h1 h2 => by
  obtain ⟨k, rfl⟩ : ∃ k, x = 12 * s + k := ⟨x - 12 * s, by omega⟩
  exact ⟨hS.2 s k hs (by omega), hD.2.2.2.2.2.2 s k hs (by omega)⟩
theorem cd_CL_0 {m bw sh tp : Nat} {L c : Nat → Nat} {G : Nat → Option (Nat × Option Nat)} {an al : Nat → Int32} {s j : Nat} (hD : cd_D m bw sh tp L c G) (hS : cd_ST L c an al) (hs : s < 10) (hj : j ≤ L s) : cd_CL c al (12 * s) (12 * s + j) := cd_CL_s (i := 0) hD hS hs hj
section
variable {m bw sh tp : Nat} {al an aw ae e1 e2 e3 e4 ek el : Nat → Int32} {G : Nat → Option (Nat × Option Nat)} {W A : Nat → Nat} {B : Nat → Option Nat} {L c : Nat → Nat}
theorem xx_wke {post : SX → Prop} {x y : Int32} {key p q n : Nat} (hx : x = nI p) (hy : y = nI q) (hD : cd_D m bw sh tp L c G) (hT : cd_TB m G W A B) (hC : cd_XC m W A B aw ae) (hkey : key < 11) (hpq : p ≤ q) (hq : q ≤ p + 12) (hq2 : q ≤ 120) (hc : cd_CL c al p q) (hn1 : 1 ≤ n) (hn : n ≤ 4)
    (K : ∀ a1 a2 a3 a4 ak al', cd_KT (99 * key) key ak al' (cd_KE sh tp bw G c p q n) → (∀ j J, ¬ j = key → cd_KT (99 * j) j ek el J → cd_KT (99 * j) j ak al' J) → post (nI m, nI bw, nI sh, nI tp, al, an, aw, ae, a1, a2, a3, a4, ak, al')) :
    wpX_writeKey post (nI m, nI bw, nI sh, nI tp, al, an, aw, ae, e1, e2, e3, e4, ek, el) (nI key) x y (nI n) := by
  subst hx hy
  exact xx_wk hT hC hD.1 hD.2.2.2.2.1 hD.2.2.1 hD.2.2.2.1 hD.2.1 hkey hpq hq hq2 hc hn1 hn K
theorem xx_ws {post : SX → Prop} {s n : Nat} (hD : cd_D m bw sh tp L c G) (hS : cd_ST L c an al) (hT : cd_TB m G W A B) (hC : cd_XC m W A B aw ae) (hs : s < 10) (hn1 : 1 ≤ n) (hn : n ≤ 4)
    (K : ∀ a1 a2 a3 a4 ak al', cd_KT (99 * s) s ak al' (cd_K sh tp bw L c G n s) → (∀ j J, ¬ j = s → cd_KT (99 * j) j ek el J → cd_KT (99 * j) j ak al' J) → post (nI m, nI bw, nI sh, nI tp, al, an, aw, ae, a1, a2, a3, a4, ak, al')) :
    wpX_writeSlotKey post (nI m, nI bw, nI sh, nI tp, al, an, aw, ae, e1, e2, e3, e4, ek, el) (nI s) (nI n) := by
  have hL := hD.2.2.2.2.2.1 s hs
  refine nm_r (cd_i12s s) ⟨vp_in_nI hs (by omega), ?_⟩
  exact xx_wke rfl (by rw [nI_clamp (by omega), hS.1 s hs]; exact nI_add _ _) hD hT hC (by omega) (by omega) (by omega) (by omega) (cd_CL_0 hD hS hs (Nat.le_refl _)) hn1 hn K
theorem xx_wa_l {post : SX → Prop} {n : Nat} (hD : cd_D m bw sh tp L c G) (hS : cd_ST L c an al) (hT : cd_TB m G W A B) (hC : cd_XC m W A B aw ae) (hn1 : 1 ≤ n) (hn : n ≤ 4)
    (K : ∀ a1 a2 a3 a4 ak al', (∀ j, j < 10 → cd_KT (99 * j) j ak al' (cd_K sh tp bw L c G n j)) → post (nI m, nI bw, nI sh, nI tp, al, an, aw, ae, a1, a2, a3, a4, ak, al')) :
    ∀ d i a1 a2 a3 a4 ak al', i + d = 10 → (∀ j, j < i → cd_KT (99 * j) j ak al' (cd_K sh tp bw L c G n j)) → wX_writeAllSlotKeys_2 post (nI n) (d + 1) (nI i) (nI m) (nI bw) (nI sh) (nI tp) al an aw ae a1 a2 a3 a4 ak al' := by
  intro d
  induction d with
  | zero =>
    intro i a1 a2 a3 a4 ak al' hi h
    exact br_t (nI_le (a := 10) (by omega) (by omega)) (K a1 a2 a3 a4 ak al' (fun j hj => h j (by omega)))
  | succ d ih =>
    intro i a1 a2 a3 a4 ak al' hi h
    have hL := hD.2.2.2.2.2.1 i (by omega)
    refine br_f (nI_ge (b := 10) (by omega) (by decide)) (nm_r (cd_i12s i) ⟨vp_in_nI (by omega) (by omega), ?_⟩)
    refine xx_wke rfl (by rw [nI_clamp (by omega), hS.1 i (by omega)]; exact nI_add _ _) hD hT hC (by omega) (by omega) (by omega) (by omega) (cd_CL_0 hD hS (by omega) (Nat.le_refl _)) hn1 hn (fun b1 b2 b3 b4 bk bl hK hfr => ?_)
    refine nm_r (nI_1 i) (ih (i + 1) b1 b2 b3 b4 bk bl (by omega) (fun j hj => ?_))
    by_cases z : j = i
    · subst z; exact hK
    · exact hfr j _ z (h j (by omega))
theorem xx_wa {post : SX → Prop} {n : Nat} (hD : cd_D m bw sh tp L c G) (hS : cd_ST L c an al) (hT : cd_TB m G W A B) (hC : cd_XC m W A B aw ae) (hn1 : 1 ≤ n) (hn : n ≤ 4)
    (K : ∀ a1 a2 a3 a4 ak al', (∀ j, j < 10 → cd_KT (99 * j) j ak al' (cd_K sh tp bw L c G n j)) → post (nI m, nI bw, nI sh, nI tp, al, an, aw, ae, a1, a2, a3, a4, ak, al')) : wpX_writeAllSlotKeys post (nI m, nI bw, nI sh, nI tp, al, an, aw, ae, e1, e2, e3, e4, ek, el) (nI n) :=
  ⟨11, xx_wa_l hD hS hT hC hn1 hn K 10 0 e1 e2 e3 e4 ek el (by omega) (fun j hj => absurd hj (Nat.not_lt_zero j))⟩
theorem xx_cmp_l {post : Int32 → Prop} {i j : Nat} {R J : List Nat} (hi : i < 11) (hj : j < 11) (h1 : cd_KT (99 * i) i ek el R) (h2 : cd_KT (99 * j) j ek el J) :
    ∀ d x, x + d = R.length → x ≤ J.length → post (cd_cm (R.drop x) (J.drop x)) → wX_compareKeys_18 post (nI i) (nI j) (nI R.length) (nI J.length) (nI m) (nI bw) (nI sh) (nI tp) al an aw ae e1 e2 e3 e4 ek el (d + 1) (nI x) := by
  obtain ⟨h1a, h1b, h1c, h1d⟩ := h1
  obtain ⟨h2a, h2b, h2c, h2d⟩ := h2
  intro d
  induction d with
  | zero =>
    intro x hx hxj k
    refine br_t (nI_le (by omega) (by omega)) (pk_eq R.length J.length (fun z => ?_) (fun z => pk_le J.length R.length (fun y => absurd y (by omega)) (fun y => ?_)))
    · rw [cd_cm_e0 (by omega) (by omega)] at k; exact k
    · rw [cd_cm_el (by omega) (by omega)] at k; exact k
  | succ d ih =>
    intro x hx hxj k
    refine br_f (nI_ge (by omega) (by omega)) (pk_le J.length x (fun z => pk_eq R.length J.length (fun y => absurd y (by omega)) (fun y => pk_le J.length R.length (fun t => ?_) (fun t => absurd t (by omega)))) (fun z => ?_))
    · rw [cd_cm_eg (by omega) (by omega)] at k; exact k
    · have b1 := cd_getD_b h1d x
      have b2 := cd_getD_b h2d x
      refine ⟨pk_in (99 * i + x) 1089 (by omega) (cd_i99 i x), nm_r (e' := nI (R.getD x 0)) (by rw [pk_cl (99 * i + x) (cd_i99 i x)]; exact h1a x (by omega)) ⟨pk_in (99 * j + x) 1089 (by omega) (cd_i99 j x), nm_r (e' := nI (J.getD x 0)) (by rw [pk_cl (99 * j + x) (cd_i99 j x)]; exact h2a x (by omega))
        (pk_eq (R.getD x 0) (J.getD x 0) (fun y => nm_r (nI_1 x) (ih (x + 1) (by omega) (by omega) ?_)) (fun y => pk_le (J.getD x 0) (R.getD x 0) (fun t => ?_) (fun t => ?_)))⟩⟩
      · rw [cd_cm_s (by omega) (by omega) y] at k; exact k
      · rw [cd_cm_g (by omega) (by omega) (by omega)] at k; exact k
      · rw [cd_cm_l (by omega) (by omega) (by omega)] at k; exact k
theorem xx_cmp {post : Int32 → Prop} {i j : Nat} {R J : List Nat} (hi : i < 11) (hj : j < 11) (h1 : cd_KT (99 * i) i ek el R) (h2 : cd_KT (99 * j) j ek el J) (k : post (cd_cm R J)) : wpX_compareKeys post (nI m, nI bw, nI sh, nI tp, al, an, aw, ae, e1, e2, e3, e4, ek, el) (nI i) (nI j) :=
  ⟨vp_in_nI hi (by omega), nm_r (e' := nI R.length) (by rw [nI_clamp (by omega)]; exact h1.2.1) ⟨vp_in_nI hj (by omega), nm_r (e' := nI J.length) (by rw [nI_clamp (by omega)]; exact h2.2.1) ⟨R.length + 1, xx_cmp_l hi hj h1 h2 R.length 0 (by omega) (Nat.zero_le _) k⟩⟩⟩
/-! places, kinds -/
theorem xx_pl_l {post : Int32 → Prop} {s n : Nat} (hs : s < 10) (hK : ∀ j, j < 10 → cd_KT (99 * j) j ek el (cd_K sh tp bw L c G n j)) (k : post (nI (cd_po sh tp bw L c G n s))) :
    ∀ d i, i + d = 10 → wX_placeInOrder_4 post (nI s) (nI m) (nI bw) (nI sh) (nI tp) al an aw ae e1 e2 e3 e4 ek el (d + 1) (nI (cd_ct (fun i => cd_lt sh tp bw L c G n i s || (cd_eq sh tp bw L c G n i s && decide (i < s))) i)) (nI i) := by
  intro d
  induction d with
  | zero =>
    intro i hi
    obtain rfl : i = 10 := by omega
    exact br_t (by decide) k
  | succ d ih =>
    intro i hi
    have go := ih (i + 1) (by omega)
    have P : ∀ i, (fun i => cd_lt sh tp bw L c G n i s || (cd_eq sh tp bw L c G n i s && decide (i < s))) i = (decide (cd_cm (cd_K sh tp bw L c G n i) (cd_K sh tp bw L c G n s) < 0) || (decide (cd_cm (cd_K sh tp bw L c G n i) (cd_K sh tp bw L c G n s) = 0) && decide (i < s))) := fun i => rfl
    generalize (fun i => cd_lt sh tp bw L c G n i s || (cd_eq sh tp bw L c G n i s && decide (i < s))) = Q at go P ⊢
    refine br_f (nI_ge (b := 10) (by omega) (by decide)) (xx_cmp (by omega) (by omega) (hK i (by omega)) (hK s hs) (br_c (fun z => nm_r (nI_1 _) (nm_r (nI_1 i) ?_)) (fun z => br_c (fun y => pk_le s i (fun t => nm_r (nI_1 i) ?_) (fun t => nm_r (nI_1 _) (nm_r (nI_1 i) ?_))) (fun y => nm_r (nI_1 i) ?_))))
    · rw [cd_ct_t (by rw [P, decide_eq_true z]; rfl)] at go; exact go
    · rw [cd_ct_f (by rw [P, decide_eq_false z, decide_eq_false (show ¬ i < s by omega), Bool.and_false]; rfl)] at go; exact go
    · rw [cd_ct_t (by rw [P, decide_eq_true y, decide_eq_true (show i < s by omega), Bool.and_true, Bool.or_true])] at go; exact go
    · rw [cd_ct_f (by rw [P, decide_eq_false z, decide_eq_false y]; rfl)] at go; exact go
theorem xx_pl {post : Int32 → Prop} {s n : Nat} (hs : s < 10) (hK : ∀ j, j < 10 → cd_KT (99 * j) j ek el (cd_K sh tp bw L c G n j)) (k : post (nI (cd_po sh tp bw L c G n s))) : wpX_placeInOrder post (nI m, nI bw, nI sh, nI tp, al, an, aw, ae, e1, e2, e3, e4, ek, el) (nI s) :=
  ⟨11, xx_pl_l hs hK k 10 0 (by omega)⟩
theorem xx_fk_l {post : Int32 → Prop} {s n : Nat} (hs : s < 10) (hK : ∀ j, j < 10 → cd_KT (99 * j) j ek el (cd_K sh tp bw L c G n j)) (k : post (cd_bi (cd_fs sh tp bw L c G n s))) :
    ∀ d i, i + d = s → (∀ j, j < i → cd_eq sh tp bw L c G n j s = false) → wX_isFirstOfItsKind_2 post (nI s) (nI m) (nI bw) (nI sh) (nI tp) al an aw ae e1 e2 e3 e4 ek el (d + 1) (nI i) := by
  intro d
  induction d with
  | zero =>
    intro i hi h
    obtain rfl : i = s := by omega
    have e : cd_fs sh tp bw L c G n i = true := cd_al_all _ _ (fun j hj => by rw [h j hj]; rfl)
    rw [e] at k
    exact br_t (nI_le (Nat.le_refl _) (by omega)) k
  | succ d ih =>
    intro i hi h
    refine br_f (nI_ge (by omega) (by omega)) (xx_cmp (by omega) (by omega) (hK i (by omega)) (hK s hs) (br_c (fun z => ?_) (fun z => nm_r (nI_1 i) (ih (i + 1) (by omega) (fun j hj => ?_)))))
    · have e : cd_fs sh tp bw L c G n s = false := cd_al_no _ i (by unfold cd_eq; rw [decide_eq_true z]; rfl) s (by omega)
      rw [e] at k
      exact k
    · by_cases q : j = i
      · subst q; exact decide_eq_false z
      · exact h j (by omega)
theorem xx_fk {post : Int32 → Prop} {s n : Nat} (hs : s < 10) (hK : ∀ j, j < 10 → cd_KT (99 * j) j ek el (cd_K sh tp bw L c G n j)) (k : post (cd_bi (cd_fs sh tp bw L c G n s))) : wpX_isFirstOfItsKind post (nI m, nI bw, nI sh, nI tp, al, an, aw, ae, e1, e2, e3, e4, ek, el) (nI s) :=
  ⟨s + 1, xx_fk_l hs hK k s 0 (by omega) (fun j hj => absurd hj (Nat.not_lt_zero j))⟩
/-! rows that match -/
theorem xx_sm_l {post : Int32 → SX → Prop} {i j p n : Nat} (hD : cd_D m bw sh tp L c G) (hS : cd_ST L c an al) (hT : cd_TB m G W A B) (hC : cd_XC m W A B aw ae) (hn1 : 1 ≤ n) (hn : n ≤ 4) (hi : i < 10) (hj : j < 10)
    (K : ∀ a1 a2 a3 a4 ak al', cd_KT (99 * j) j ak al' (cd_K sh tp bw L c G n j) → post (cd_bi (cd_mr sh tp bw L c G n i j p)) (nI m, nI bw, nI sh, nI tp, al, an, aw, ae, a1, a2, a3, a4, ak, al')) :
    ∀ d x a1 a2 a3 a4 ak al', p + x + d = L i + 1 → cd_KT (99 * j) j ak al' (cd_K sh tp bw L c G n j) → (∀ y, y < x → ¬ cd_KE sh tp bw G c (12 * i + p) (12 * i + p + y) n = cd_K sh tp bw L c G n j) →
      wX_someRowMatches_9 post (nI i) (nI p) (nI j) (nI n) (nI (12 * i)) (d + 1) (nI (p + x)) (nI m) (nI bw) (nI sh) (nI tp) al an aw ae a1 a2 a3 a4 ak al' := by
  have hL := hD.2.2.2.2.2.1 i hi
  have eL : an (nI i).toNatClampNeg = nI (L i) := by rw [nI_clamp (by omega)]; exact hS.1 i hi
  intro d
  induction d with
  | zero =>
    intro x a1 a2 a3 a4 ak al' hx hK h
    have k := K a1 a2 a3 a4 ak al' hK
    rw [cd_mr_no (fun y hy => h y (by omega))] at k
    exact ⟨vp_in_nI hi (by omega), br_t (by rw [eL]; exact nI_lt (by omega) (by omega)) k⟩
  | succ d ih =>
    intro x a1 a2 a3 a4 ak al' hx hK h
    refine ⟨vp_in_nI hi (by omega), br_f (by rw [eL]; exact nI_nlt (by omega) (by omega)) ?_⟩
    refine xx_wke (key := 10) (p := 12 * i + p) (q := 12 * i + p + x) (nI_add _ _) (by rw [nI_add, Nat.add_assoc]) hD hT hC (by omega) (by omega) (by omega) (by omega) (by rw [Nat.add_assoc]; exact cd_CL_s hD hS hi (by omega)) hn1 hn (fun b1 b2 b3 b4 bk bl hR hfr => ?_)
    have hK' := hfr j _ (by omega) hK
    refine xx_cmp (i := 10) (by omega) (by omega) hR hK' (br_c (fun z => ?_) (fun z => nm_r (nI_1 _) (ih (x + 1) b1 b2 b3 b4 bk bl (by omega) hK' (fun y hy => ?_))))
    · have k := K b1 b2 b3 b4 bk bl hK'
      rw [cd_mr_yes (d := x) (by omega) ((cd_cm_0 _ _).mp z)] at k
      exact k
    · by_cases q : y = x
      · subst q; exact fun t => z ((cd_cm_0 _ _).mpr t)
      · exact h y (by omega)
theorem xx_sm {post : Int32 → SX → Prop} {i j p n : Nat} (hD : cd_D m bw sh tp L c G) (hS : cd_ST L c an al) (hT : cd_TB m G W A B) (hC : cd_XC m W A B aw ae) (hn1 : 1 ≤ n) (hn : n ≤ 4) (hi : i < 10) (hj : j < 10) (hp : p ≤ L i)
    (hK : cd_KT (99 * j) j ek el (cd_K sh tp bw L c G n j))
    (K : ∀ a1 a2 a3 a4 ak al', cd_KT (99 * j) j ak al' (cd_K sh tp bw L c G n j) → post (cd_bi (cd_mr sh tp bw L c G n i j p)) (nI m, nI bw, nI sh, nI tp, al, an, aw, ae, a1, a2, a3, a4, ak, al')) : wpX_someRowMatches post (nI m, nI bw, nI sh, nI tp, al, an, aw, ae, e1, e2, e3, e4, ek, el) (nI i) (nI p) (nI j) (nI n) :=
  nm_r (cd_i12s i) ⟨L i + 1 - p + 1, xx_sm_l hD hS hT hC hn1 hn hi hj K (L i + 1 - p) 0 e1 e2 e3 e4 ek el (by omega) hK (fun y hy => absurd hy (Nat.not_lt_zero y))⟩
theorem xx_fn_l {post : Int32 → SX → Prop} {i j n : Nat} {P : Nat → Bool} (hD : cd_D m bw sh tp L c G) (hS : cd_ST L c an al) (hT : cd_TB m G W A B) (hC : cd_XC m W A B aw ae) (hn1 : 1 ≤ n) (hn : n ≤ 4) (hi : i < 10) (hj : j < 10) :
    ∀ d p a1 a2 a3 a4 ak al', p + d = L i + 1 → cd_KT (99 * j) j ak al' (cd_K sh tp bw L c G n j) → (∀ y, p ≤ y → y ≤ L i → P y = cd_mr sh tp bw L c G n i j y) → (∀ a1 a2 a3 a4 ak al', post (cd_fd P d p) (nI m, nI bw, nI sh, nI tp, al, an, aw, ae, a1, a2, a3, a4, ak, al')) →
      wX_find_46 post (nI i) (nI j) (nI n) (d + 1) (nI p) (nI m) (nI bw) (nI sh) (nI tp) al an aw ae a1 a2 a3 a4 ak al' := by
  have hL := hD.2.2.2.2.2.1 i hi
  have eL : an (nI i).toNatClampNeg = nI (L i) := by rw [nI_clamp (by omega)]; exact hS.1 i hi
  intro d
  induction d with
  | zero =>
    intro p a1 a2 a3 a4 ak al' hp hK hP H
    exact ⟨vp_in_nI hi (by omega), br_t (by rw [eL]; exact nI_lt (by omega) (by omega)) (H a1 a2 a3 a4 ak al')⟩
  | succ d ih =>
    intro p a1 a2 a3 a4 ak al' hp hK hP H
    refine ⟨vp_in_nI hi (by omega), br_f (by rw [eL]; exact nI_nlt (by omega) (by omega)) ?_⟩
    refine xx_sm hD hS hT hC hn1 hn hi hj (by omega) hK (fun b1 b2 b3 b4 bk bl hK' => ?_)
    cases z : cd_mr sh tp bw L c G n i j p with
    | true =>
      have h := H b1 b2 b3 b4 bk bl
      rw [cd_fd_t (by rw [hP p (Nat.le_refl _) (by omega)]; exact z)] at h
      exact br_f cd_n10 h
    | false =>
      refine br_t rfl (nm_r (nI_1 p) (ih (p + 1) b1 b2 b3 b4 bk bl (by omega) hK' (fun y hy hy2 => hP y (by omega) hy2) (fun c1 c2 c3 c4 ck cl => ?_)))
      have h := H c1 c2 c3 c4 ck cl
      rw [cd_fd_n (by rw [hP p (Nat.le_refl _) (by omega)]; exact z)] at h
      exact h
end
