/-! the component's questions, as they are called -/
section
variable {m bw sh tp : Nat} {al an aw ae e1 e2 e3 e4 ek el : Nat → Int32} {G : Nat → Option (Nat × Option Nat)} {W A : Nat → Nat} {B : Nat → Option Nat} {L c : Nat → Nat} {post : Int32 → SX → Prop}
theorem xq_el1 {x : Int32} (h : x < 0 ∨ nI 10 ≤ x) (k : post (-2) (nI m, nI bw, nI sh, nI tp, al, an, aw, ae, e1, e2, e3, e4, ek, el)) : wpX_elements post (nI m, nI bw, nI sh, nI tp, al, an, aw, ae, e1, e2, e3, e4, ek, el) x := by
  unfold wpX_elements
  exact xx_slot_f h (br_t rfl k)
theorem xq_el2 {s : Nat} (hD : cd_D m bw sh tp L c G) (hS : cd_ST L c an al) (hT : cd_TB m G W A B) (hC : cd_XC m W A B aw ae) (hs : s < 10)
    (K : ∀ a1 a2 a3, post (nI (cd_EL G c (12 * s) (12 * s + L s)).length) (nI m, nI bw, nI sh, nI tp, al, an, aw, ae, a1, a2, a3, e4, ek, el)) : wpX_elements post (nI m, nI bw, nI sh, nI tp, al, an, aw, ae, e1, e2, e3, e4, ek, el) (nI s) := by
  unfold wpX_elements
  have hL := hD.2.2.2.2.2.1 s hs
  refine xx_slot_t hs (br_f cd_n10 (nm_r (cd_i12s s) ⟨vp_in_nI hs (by omega), ?_⟩))
  rw [cd_ST_l hS hs, nI_add]
  exact xx_ga hT hC hD.1 hD.2.2.2.2.1 (by omega) (by omega) (by omega) (cd_CL_0 hD hS hs (Nat.le_refl _)) (fun a1 a2 a3 _ => K a1 a2 a3)
theorem xq_cmp1 {x y z : Int32} (h : (x < 0 ∨ nI 10 ≤ x) ∨ (∃ s, s < 10 ∧ x = nI s) ∧ (y < 0 ∨ nI 10 ≤ y)) (k : post (-2) (nI m, nI bw, nI sh, nI tp, al, an, aw, ae, e1, e2, e3, e4, ek, el)) : wpX_compare post (nI m, nI bw, nI sh, nI tp, al, an, aw, ae, e1, e2, e3, e4, ek, el) x y z := by
  unfold wpX_compare
  rcases h with h | ⟨⟨s, hs, rfl⟩, h⟩
  · exact xx_slot_f h (br_t rfl k)
  · refine xx_slot_t hs (br_f cd_n10 ?_)
    exact xx_slot_f h (br_t rfl k)
theorem xq_cmp2 {i j : Nat} {z : Int32} (hi : i < 10) (hj : j < 10) (h : z < 1 ∨ 4 < z) (k : post (-3) (nI m, nI bw, nI sh, nI tp, al, an, aw, ae, e1, e2, e3, e4, ek, el)) : wpX_compare post (nI m, nI bw, nI sh, nI tp, al, an, aw, ae, e1, e2, e3, e4, ek, el) (nI i) (nI j) z := by
  unfold wpX_compare
  refine xx_slot_t hi (br_f cd_n10 ?_)
  refine xx_slot_t hj (br_f cd_n10 ?_)
  exact xx_str_f h (br_t rfl k)
theorem xq_cmp3 {i j n : Nat} (hD : cd_D m bw sh tp L c G) (hS : cd_ST L c an al) (hT : cd_TB m G W A B) (hC : cd_XC m W A B aw ae) (hi : i < 10) (hj : j < 10) (hn1 : 1 ≤ n) (hn : n ≤ 4)
    (K : ∀ a1 a2 a3 a4 ak al', post (cd_cm (cd_K sh tp bw L c G n i) (cd_K sh tp bw L c G n j)) (nI m, nI bw, nI sh, nI tp, al, an, aw, ae, a1, a2, a3, a4, ak, al')) : wpX_compare post (nI m, nI bw, nI sh, nI tp, al, an, aw, ae, e1, e2, e3, e4, ek, el) (nI i) (nI j) (nI n) := by
  unfold wpX_compare
  refine xx_slot_t hi (br_f cd_n10 ?_)
  refine xx_slot_t hj (br_f cd_n10 ?_)
  refine xx_str_t hn1 hn (br_f cd_n10 ?_)
  refine xx_ws hD hS hT hC hi hn1 hn (fun a1 a2 a3 a4 ak al' h1 f1 => ?_)
  refine xx_ws hD hS hT hC hj hn1 hn (fun b1 b2 b3 b4 bk bl h2 f2 => ?_)
  refine xx_cmp (by omega) (by omega) ?_ h2 (K b1 b2 b3 b4 bk bl)
  by_cases z : i = j
  · subst z; exact h2
  · exact f2 i _ z h1
theorem xq_ks1 {x z : Int32} (h : x < 0 ∨ nI 10 ≤ x) (k : post (-2) (nI m, nI bw, nI sh, nI tp, al, an, aw, ae, e1, e2, e3, e4, ek, el)) : wpX_keySize post (nI m, nI bw, nI sh, nI tp, al, an, aw, ae, e1, e2, e3, e4, ek, el) x z := by
  unfold wpX_keySize
  exact xx_slot_f h (br_t rfl k)
theorem xq_ks2 {i : Nat} {z : Int32} (hi : i < 10) (h : z < 1 ∨ 4 < z) (k : post (-3) (nI m, nI bw, nI sh, nI tp, al, an, aw, ae, e1, e2, e3, e4, ek, el)) : wpX_keySize post (nI m, nI bw, nI sh, nI tp, al, an, aw, ae, e1, e2, e3, e4, ek, el) (nI i) z := by
  unfold wpX_keySize
  refine xx_slot_t hi (br_f cd_n10 ?_)
  exact xx_str_f h (br_t rfl k)
theorem xq_ks3 {i n : Nat} (hD : cd_D m bw sh tp L c G) (hS : cd_ST L c an al) (hT : cd_TB m G W A B) (hC : cd_XC m W A B aw ae) (hi : i < 10) (hn1 : 1 ≤ n) (hn : n ≤ 4)
    (K : ∀ a1 a2 a3 a4 ak al', post (nI (cd_K sh tp bw L c G n i).length) (nI m, nI bw, nI sh, nI tp, al, an, aw, ae, a1, a2, a3, a4, ak, al')) : wpX_keySize post (nI m, nI bw, nI sh, nI tp, al, an, aw, ae, e1, e2, e3, e4, ek, el) (nI i) (nI n) := by
  unfold wpX_keySize
  refine xx_slot_t hi (br_f cd_n10 ?_)
  refine xx_str_t hn1 hn (br_f cd_n10 ?_)
  refine xx_ws hD hS hT hC hi hn1 hn (fun a1 a2 a3 a4 ak al' h1 f1 => ⟨vp_in_nI (by omega) (by omega), ?_⟩)
  rw [cd_ns hi, h1.2.1]
  exact K a1 a2 a3 a4 ak al'
theorem xq_ka1 {x y z : Int32} (h : x < 0 ∨ nI 10 ≤ x) (k : post (-2) (nI m, nI bw, nI sh, nI tp, al, an, aw, ae, e1, e2, e3, e4, ek, el)) : wpX_keyAt post (nI m, nI bw, nI sh, nI tp, al, an, aw, ae, e1, e2, e3, e4, ek, el) x y z := by
  unfold wpX_keyAt
  exact xx_slot_f h (br_t rfl k)
theorem xq_ka2 {i : Nat} {y z : Int32} (hi : i < 10) (h : y < 1 ∨ 4 < y) (k : post (-3) (nI m, nI bw, nI sh, nI tp, al, an, aw, ae, e1, e2, e3, e4, ek, el)) : wpX_keyAt post (nI m, nI bw, nI sh, nI tp, al, an, aw, ae, e1, e2, e3, e4, ek, el) (nI i) y z := by
  unfold wpX_keyAt
  refine xx_slot_t hi (br_f cd_n10 ?_)
  exact xx_str_f h (br_t rfl k)
theorem xq_ka3 {i n : Nat} {z : Int32} (hD : cd_D m bw sh tp L c G) (hS : cd_ST L c an al) (hT : cd_TB m G W A B) (hC : cd_XC m W A B aw ae) (hi : i < 10) (hn1 : 1 ≤ n) (hn : n ≤ 4) (h : z < 0 ∨ nI (cd_K sh tp bw L c G n i).length ≤ z)
    (K : ∀ a1 a2 a3 a4 ak al', post (-4) (nI m, nI bw, nI sh, nI tp, al, an, aw, ae, a1, a2, a3, a4, ak, al')) : wpX_keyAt post (nI m, nI bw, nI sh, nI tp, al, an, aw, ae, e1, e2, e3, e4, ek, el) (nI i) (nI n) z := by
  unfold wpX_keyAt
  refine xx_slot_t hi (br_f cd_n10 ?_)
  refine xx_str_t hn1 hn (br_f cd_n10 ?_)
  refine xx_ws hD hS hT hC hi hn1 hn (fun a1 a2 a3 a4 ak al' h1 f1 => br_c (fun _ => K a1 a2 a3 a4 ak al') (fun q => ⟨vp_in_nI (by omega) (by omega), br_f ?_ (K a1 a2 a3 a4 ak al')⟩))
  rw [cd_ns hi, h1.2.1]
  exact Int32.not_lt.mpr (h.resolve_left q)
theorem xq_ka4 {i n p : Nat} (hD : cd_D m bw sh tp L c G) (hS : cd_ST L c an al) (hT : cd_TB m G W A B) (hC : cd_XC m W A B aw ae) (hi : i < 10) (hn1 : 1 ≤ n) (hn : n ≤ 4) (h : p < (cd_K sh tp bw L c G n i).length)
    (K : ∀ a1 a2 a3 a4 ak al', post (nI ((cd_K sh tp bw L c G n i).getD p 0)) (nI m, nI bw, nI sh, nI tp, al, an, aw, ae, a1, a2, a3, a4, ak, al')) : wpX_keyAt post (nI m, nI bw, nI sh, nI tp, al, an, aw, ae, e1, e2, e3, e4, ek, el) (nI i) (nI n) (nI p) := by
  unfold wpX_keyAt
  refine xx_slot_t hi (br_f cd_n10 ?_)
  refine xx_str_t hn1 hn (br_f cd_n10 ?_)
  refine xx_ws hD hS hT hC hi hn1 hn (fun a1 a2 a3 a4 ak al' h1 f1 => ?_)
  obtain ⟨q1, q2, q3, q4⟩ := h1
  refine br_f (nI_pos (by omega)) ⟨vp_in_nI (by omega) (by omega), br_t (by rw [cd_ns hi, q2]; exact nI_lt h (by omega)) ⟨pk_in (99 * i + p) 1089 (by omega) (cd_i99 i p), ?_⟩⟩
  rw [pk_cl (99 * i + p) (cd_i99 i p), q1 p h]
  exact K a1 a2 a3 a4 ak al'
/-! rank, nth, kinds -/
theorem xq_rk_l {s n : Nat} (hs : s < 10) (hK : ∀ j, j < 10 → cd_KT (99 * j) j ek el (cd_K sh tp bw L c G n j)) (k : post (nI (cd_rk sh tp bw L c G n s)) (nI m, nI bw, nI sh, nI tp, al, an, aw, ae, e1, e2, e3, e4, ek, el)) :
    ∀ d i, i + d = 10 → wX_rank_30 post (nI s) (nI m) (nI bw) (nI sh) (nI tp) al an aw ae e1 e2 e3 e4 ek el (d + 1) (nI (cd_ct (fun i => cd_lt sh tp bw L c G n i s) i)) (nI i) := by
  intro d
  induction d with
  | zero =>
    intro i hi
    obtain rfl : i = 10 := by omega
    exact br_t (by decide) k
  | succ d ih =>
    intro i hi
    have go := ih (i + 1) (by omega)
    refine br_f (nI_ge (b := 10) (by omega) (by decide)) (xx_cmp (by omega) (by omega) (hK i (by omega)) (hK s hs) (br_c (fun z => nm_r (nI_1 i) ?_) (fun z => nm_r (nI_1 _) (nm_r (nI_1 i) ?_))))
    · rw [cd_ct_f (P := fun i => cd_lt sh tp bw L c G n i s) (decide_eq_false (Int32.not_lt.mpr z))] at go; exact go
    · rw [cd_ct_t (P := fun i => cd_lt sh tp bw L c G n i s) (decide_eq_true (Int32.not_le.mp z))] at go; exact go
theorem xq_rk1 {x z : Int32} (h : x < 0 ∨ nI 10 ≤ x) (k : post (-2) (nI m, nI bw, nI sh, nI tp, al, an, aw, ae, e1, e2, e3, e4, ek, el)) : wpX_rank post (nI m, nI bw, nI sh, nI tp, al, an, aw, ae, e1, e2, e3, e4, ek, el) x z := by
  unfold wpX_rank
  exact xx_slot_f h (br_t rfl k)
theorem xq_rk2 {i : Nat} {z : Int32} (hi : i < 10) (h : z < 1 ∨ 4 < z) (k : post (-3) (nI m, nI bw, nI sh, nI tp, al, an, aw, ae, e1, e2, e3, e4, ek, el)) : wpX_rank post (nI m, nI bw, nI sh, nI tp, al, an, aw, ae, e1, e2, e3, e4, ek, el) (nI i) z := by
  unfold wpX_rank
  refine xx_slot_t hi (br_f cd_n10 ?_)
  exact xx_str_f h (br_t rfl k)
theorem xq_rk3 {i n : Nat} (hD : cd_D m bw sh tp L c G) (hS : cd_ST L c an al) (hT : cd_TB m G W A B) (hC : cd_XC m W A B aw ae) (hi : i < 10) (hn1 : 1 ≤ n) (hn : n ≤ 4)
    (K : ∀ a1 a2 a3 a4 ak al', post (nI (cd_rk sh tp bw L c G n i)) (nI m, nI bw, nI sh, nI tp, al, an, aw, ae, a1, a2, a3, a4, ak, al')) : wpX_rank post (nI m, nI bw, nI sh, nI tp, al, an, aw, ae, e1, e2, e3, e4, ek, el) (nI i) (nI n) := by
  unfold wpX_rank
  refine xx_slot_t hi (br_f cd_n10 ?_)
  refine xx_str_t hn1 hn (br_f cd_n10 ?_)
  exact xx_wa hD hS hT hC hn1 hn (fun a1 a2 a3 a4 ak al' hK => ⟨11, xq_rk_l hi hK (K a1 a2 a3 a4 ak al') 10 0 (by omega)⟩)
theorem xq_nt_l {k n : Nat} (hk : k < 10) (hK : ∀ j, j < 10 → cd_KT (99 * j) j ek el (cd_K sh tp bw L c G n j)) (K : post (nI (cd_nt sh tp bw L c G n k)) (nI m, nI bw, nI sh, nI tp, al, an, aw, ae, e1, e2, e3, e4, ek, el)) :
    ∀ d i, i + d = 10 → wX_nth_33 post (nI k) (nI m) (nI bw) (nI sh) (nI tp) al an aw ae e1 e2 e3 e4 ek el (d + 1) (nI (cd_la (fun s => decide (cd_po sh tp bw L c G n s = k)) i)) (nI i) := by
  intro d
  induction d with
  | zero =>
    intro i hi
    obtain rfl : i = 10 := by omega
    exact br_t (by decide) K
  | succ d ih =>
    intro i hi
    have b1 : cd_po sh tp bw L c G n i ≤ 10 := cd_ct_le _ 10
    have go := ih (i + 1) (by omega)
    refine br_f (nI_ge (b := 10) (by omega) (by decide)) (xx_pl (by omega) hK (pk_eq (cd_po sh tp bw L c G n i) k (fun z => nm_r (nI_1 i) ?_) (fun z => nm_r (nI_1 i) ?_)))
    · rw [cd_la_t (P := fun s => decide (cd_po sh tp bw L c G n s = k)) (decide_eq_true z)] at go; exact go
    · rw [cd_la_f (P := fun s => decide (cd_po sh tp bw L c G n s = k)) (decide_eq_false z)] at go; exact go
theorem xq_nt1 {x z : Int32} (h : z < 1 ∨ 4 < z) (k : post (-3) (nI m, nI bw, nI sh, nI tp, al, an, aw, ae, e1, e2, e3, e4, ek, el)) : wpX_nth post (nI m, nI bw, nI sh, nI tp, al, an, aw, ae, e1, e2, e3, e4, ek, el) x z := by
  unfold wpX_nth
  exact xx_str_f h (br_t rfl k)
theorem xq_nt2 {x : Int32} {n : Nat} (hn1 : 1 ≤ n) (hn : n ≤ 4) (h : x < 0 ∨ nI 10 ≤ x) (k : post (-4) (nI m, nI bw, nI sh, nI tp, al, an, aw, ae, e1, e2, e3, e4, ek, el)) : wpX_nth post (nI m, nI bw, nI sh, nI tp, al, an, aw, ae, e1, e2, e3, e4, ek, el) x (nI n) := by
  unfold wpX_nth
  refine xx_str_t hn1 hn (br_f cd_n10 ?_)
  exact br_c (fun _ => k) (fun q => br_f (Int32.not_lt.mpr (h.resolve_left q)) k)
theorem xq_nt3 {i n : Nat} (hD : cd_D m bw sh tp L c G) (hS : cd_ST L c an al) (hT : cd_TB m G W A B) (hC : cd_XC m W A B aw ae) (hi : i < 10) (hn1 : 1 ≤ n) (hn : n ≤ 4)
    (K : ∀ a1 a2 a3 a4 ak al', post (nI (cd_nt sh tp bw L c G n i)) (nI m, nI bw, nI sh, nI tp, al, an, aw, ae, a1, a2, a3, a4, ak, al')) : wpX_nth post (nI m, nI bw, nI sh, nI tp, al, an, aw, ae, e1, e2, e3, e4, ek, el) (nI i) (nI n) := by
  unfold wpX_nth
  refine xx_str_t hn1 hn (br_f cd_n10 (br_f (nI_pos (by omega)) (br_t (nI_lt (b := 10) hi (by decide)) ?_)))
  exact xx_wa hD hS hT hC hn1 hn (fun a1 a2 a3 a4 ak al' hK => ⟨11, xq_nt_l hi hK (K a1 a2 a3 a4 ak al') 10 0 (by omega)⟩)
theorem xq_kn_l {n : Nat} (hK : ∀ j, j < 10 → cd_KT (99 * j) j ek el (cd_K sh tp bw L c G n j)) (K : post (nI (cd_kn sh tp bw L c G n)) (nI m, nI bw, nI sh, nI tp, al, an, aw, ae, e1, e2, e3, e4, ek, el)) :
    ∀ d i, i + d = 10 → wX_kinds_19 post (nI m) (nI bw) (nI sh) (nI tp) al an aw ae e1 e2 e3 e4 ek el (d + 1) (nI (cd_ct (fun s => cd_fs sh tp bw L c G n s) i)) (nI i) := by
  intro d
  induction d with
  | zero =>
    intro i hi
    obtain rfl : i = 10 := by omega
    exact br_t (by decide) K
  | succ d ih =>
    intro i hi
    have go := ih (i + 1) (by omega)
    refine br_f (nI_ge (b := 10) (by omega) (by decide)) (xx_fk (s := i) (n := n) (by omega) hK ?_)
    cases z : cd_fs sh tp bw L c G n i with
    | true =>
      rw [cd_ct_t (P := fun s => cd_fs sh tp bw L c G n s) z] at go
      exact br_f cd_n10 (nm_r (nI_1 _) (nm_r (nI_1 i) go))
    | false =>
      rw [cd_ct_f (P := fun s => cd_fs sh tp bw L c G n s) z] at go
      exact br_t rfl (nm_r (nI_1 i) go)
theorem xq_kn1 {z : Int32} (h : z < 1 ∨ 4 < z) (k : post (-3) (nI m, nI bw, nI sh, nI tp, al, an, aw, ae, e1, e2, e3, e4, ek, el)) : wpX_kinds post (nI m, nI bw, nI sh, nI tp, al, an, aw, ae, e1, e2, e3, e4, ek, el) z := by
  unfold wpX_kinds
  exact xx_str_f h (br_t rfl k)
theorem xq_kn2 {n : Nat} (hD : cd_D m bw sh tp L c G) (hS : cd_ST L c an al) (hT : cd_TB m G W A B) (hC : cd_XC m W A B aw ae) (hn1 : 1 ≤ n) (hn : n ≤ 4)
    (K : ∀ a1 a2 a3 a4 ak al', post (nI (cd_kn sh tp bw L c G n)) (nI m, nI bw, nI sh, nI tp, al, an, aw, ae, a1, a2, a3, a4, ak, al')) : wpX_kinds post (nI m, nI bw, nI sh, nI tp, al, an, aw, ae, e1, e2, e3, e4, ek, el) (nI n) := by
  unfold wpX_kinds
  refine xx_str_t hn1 hn (br_f cd_n10 ?_)
  exact xx_wa hD hS hT hC hn1 hn (fun a1 a2 a3 a4 ak al' hK => ⟨11, xq_kn_l hK (K a1 a2 a3 a4 ak al') 10 0 (by omega)⟩)
/-! find -/
theorem xq_fn1 {x y z t : Int32} (h : (x < 0 ∨ nI 10 ≤ x) ∨ (∃ s, s < 10 ∧ x = nI s) ∧ (y < 0 ∨ nI 10 ≤ y)) (k : post (-2) (nI m, nI bw, nI sh, nI tp, al, an, aw, ae, e1, e2, e3, e4, ek, el)) : wpX_find post (nI m, nI bw, nI sh, nI tp, al, an, aw, ae, e1, e2, e3, e4, ek, el) x y z t := by
  unfold wpX_find
  rcases h with h | ⟨⟨s, hs, rfl⟩, h⟩
  · exact xx_slot_f h (br_t rfl k)
  · refine xx_slot_t hs (br_f cd_n10 ?_)
    exact xx_slot_f h (br_t rfl k)
theorem xq_fn2 {i j : Nat} {z t : Int32} (hi : i < 10) (hj : j < 10) (h : z < 1 ∨ 4 < z) (k : post (-3) (nI m, nI bw, nI sh, nI tp, al, an, aw, ae, e1, e2, e3, e4, ek, el)) : wpX_find post (nI m, nI bw, nI sh, nI tp, al, an, aw, ae, e1, e2, e3, e4, ek, el) (nI i) (nI j) z t := by
  unfold wpX_find
  refine xx_slot_t hi (br_f cd_n10 ?_)
  refine xx_slot_t hj (br_f cd_n10 ?_)
  exact xx_str_f h (br_t rfl k)
theorem xq_fn3 {i j n : Nat} {x : Int32} (hD : cd_D m bw sh tp L c G) (hS : cd_ST L c an al) (hT : cd_TB m G W A B) (hC : cd_XC m W A B aw ae) (hi : i < 10) (hj : j < 10) (hn1 : 1 ≤ n) (hn : n ≤ 4)
    (K : ∀ a1 a2 a3 a4 ak al', post (cd_fn sh tp bw L c G n i j x) (nI m, nI bw, nI sh, nI tp, al, an, aw, ae, a1, a2, a3, a4, ak, al')) : wpX_find post (nI m, nI bw, nI sh, nI tp, al, an, aw, ae, e1, e2, e3, e4, ek, el) (nI i) (nI j) (nI n) x := by
  unfold wpX_find
  have hL := hD.2.2.2.2.2.1 i hi
  refine xx_slot_t hi (br_f cd_n10 ?_)
  refine xx_slot_t hj (br_f cd_n10 ?_)
  refine xx_str_t hn1 hn (br_f cd_n10 ?_)
  refine xx_ws hD hS hT hC hj hn1 hn (fun a1 a2 a3 a4 ak al' h1 f1 => ?_)
  rcases cd_wc x with h | ⟨f, hf, rfl⟩
  · refine br_f (Int32.not_le.mpr h) ⟨L i + 1 + 1, xx_fn_l (P := cd_fp sh tp bw L c G n i j x) hD hS hT hC hn1 hn hi hj (L i + 1) 0 a1 a2 a3 a4 ak al' (by omega) h1 (fun y _ hy => cd_fp_t (Int32.le_of_lt (cd_lo h (by omega)))) K⟩
  · refine br_t (nI_pos' hf) ?_
    by_cases hfl : f ≤ L i + 1
    · refine ⟨L i + 1 - f + 1, xx_fn_l (P := cd_fp sh tp bw L c G n i j (nI f)) hD hS hT hC hn1 hn hi hj (L i + 1 - f) f a1 a2 a3 a4 ak al' (by omega) h1 (fun y hy hy2 => cd_fp_t (nI_le hy (by omega))) (fun b1 b2 b3 b4 bk bl => ?_)⟩
      · have := K b1 b2 b3 b4 bk bl
        rw [cd_fn_at hfl rfl hL] at this
        exact this
    · have := K a1 a2 a3 a4 ak al'
      rw [cd_fn_no (fun q hq => by rw [nI_leI (by omega) (by omega)]; omega)] at this
      exact ⟨1, vp_in_nI hi (by omega), br_t (by rw [cd_ST_l hS hi]; exact nI_lt (by omega) hf) this⟩
end
