/-! the component: room behind an anchor -/
theorem cd_gb_i {e a l : Nat} (h1 : 1 ≤ l) (h3 : l ≤ 3) : cd_gb e a l ↔ (∀ j, 1 ≤ j → j < l → cd_wt e j = cd_wt a j) ∧ cd_wt a l < cd_wt e l := by
  unfold cd_gb
  constructor
  · intro h
    refine ⟨fun j hj hl => ?_, h.2.2⟩
    have hj' : j = 1 ∨ j = 2 := by omega
    rcases hj' with rfl | rfl
    · exact h.1.resolve_left (by omega)
    · exact h.2.1.resolve_left (by omega)
  · intro h
    refine ⟨?_, ?_, h.2⟩
    · by_cases z : l ≤ 1
      · exact Or.inl z
      · exact Or.inr (h.1 1 (by omega) (by omega))
    · by_cases z : l ≤ 2
      · exact Or.inl z
      · exact Or.inr (h.1 2 (by omega) (by omega))
theorem xx_gb_l {post : Int32 → Prop} {e a l : Nat} (he : e < 1024) (ha : a < 1024) (h1 : 1 ≤ l) (h3 : l ≤ 3) (k1 : cd_gb e a l → post 1) (k0 : ¬ cd_gb e a l → post 0) :
    ∀ d i, i + d = l → 1 ≤ i → (∀ j, 1 ≤ j → j < i → cd_wt e j = cd_wt a j) → wX_growsBehind_9 post (nI e) (nI a) (nI l) (d + 1) (nI i) := by
  intro d
  induction d with
  | zero =>
    intro i hi h1i hj
    have hil : i = l := by omega
    subst hil
    have b1 := cd_wt_b e i
    have b2 := cd_wt_b a i
    refine br_t (nI_le (Nat.le_refl _) (by omega)) (xx_wt (by omega) h1 h3 (xx_wt (by omega) h1 h3 (pk_le (cd_wt e i) (cd_wt a i) (fun z => k0 (fun y => ?_)) (fun z => k1 ((cd_gb_i h1 h3).mpr ⟨hj, z⟩)))))
    have := ((cd_gb_i h1 h3).mp y).2
    omega
  | succ d ih =>
    intro i hi h1i hj
    have b1 := cd_wt_b e i
    have b2 := cd_wt_b a i
    refine br_f (nI_ge (by omega) (by omega)) (xx_wt (by omega) h1i (by omega) (xx_wt (by omega) h1i (by omega) (pk_eq (cd_wt e i) (cd_wt a i) (fun z => nm_r (nI_1 i) (ih (i + 1) (by omega) (by omega) (fun j g1 g2 => ?_))) (fun z => k0 (fun y => z (((cd_gb_i h1 h3).mp y).1 i h1i (by omega)))))))
    by_cases q : j = i
    · subst q; exact z
    · exact hj j g1 (by omega)
theorem xx_gb {post : Int32 → Prop} {e a l : Nat} (he : e < 1024) (ha : a < 1024) (h1 : 1 ≤ l) (h3 : l ≤ 3) (k1 : cd_gb e a l → post 1) (k0 : ¬ cd_gb e a l → post 0) : wpX_growsBehind post (nI e) (nI a) (nI l) :=
  br_f (cd_1 e he) ⟨l - 1 + 1, xx_gb_l he ha h1 h3 k1 k0 (l - 1) 1 (by omega) (by omega) (fun j g1 g2 => absurd g2 (by omega))⟩
theorem xx_gb_n {post : Int32 → Prop} {a l : Int32} (k : post 0) : wpX_growsBehind post (-1) a l := br_t rfl k
theorem xx_gbo {post : Int32 → Prop} {x : Int32} {o : Option Nat} {a l : Nat} (hx : x = cd_en o) (ho : ∀ e, o = some e → e < 1024) (ha : a < 1024) (h1 : 1 ≤ l) (h3 : l ≤ 3)
    (k1 : ∀ e, o = some e → cd_gb e a l → post 1) (k0 : (∀ e, o = some e → ¬ cd_gb e a l) → post 0) : wpX_growsBehind post x (nI a) (nI l) := by
  subst hx
  cases o with
  | none => exact xx_gb_n (k0 (fun e he => by cases he))
  | some e => exact xx_gb (ho e rfl) ha h1 h3 (fun g => k1 e rfl g) (fun g => k0 (fun e' he => by cases he; exact g))
theorem xx_wte {post : Int32 → Prop} {x : Int32} {e l : Nat} (hx : x = nI e) (he : e < 2 ^ 31) (h1 : 1 ≤ l) (h3 : l ≤ 3) (k : post (nI (cd_wt e l))) : wpX_weightOf post x (nI l) := by
  subst hx
  exact xx_wt he h1 h3 k
theorem xx_bl {post : Int32 → Prop} {a l : Nat} (ha : a < 1024) (h1 : 1 ≤ l) (h3 : l ≤ 3) (k : post (nI (cd_bl a l))) : wpX_elementBehind post (nI a) (nI l) := by
  refine xx_wt (l := 1) (by omega) (by decide) (by decide) (xx_wt (l := 2) (by omega) (by decide) (by decide) ?_)
  rcases cd_l3 h1 h3 with rfl | rfl | rfl
  · have e : nI (cd_wt a 1) + 1 + 32 + 256 = nI (cd_bl a 1) := by
      show nI (cd_wt a 1) + nI 1 + nI 32 + nI 256 = _
      rw [nI_add, nI_add, nI_add]
      rfl
    rw [← e] at k
    exact br_t rfl k
  · have e : nI (cd_wt a 1) + 32 * (nI (cd_wt a 2) + 1) + 256 = nI (cd_bl a 2) := by
      show nI (cd_wt a 1) + nI 32 * (nI (cd_wt a 2) + nI 1) + nI 256 = _
      rw [nI_add, pk_mul, nI_add, nI_add]
      rfl
    rw [← e] at k
    exact br_f (by decide) (br_t rfl k)
  · have e : nI a + 256 = nI (cd_bl a 3) := by
      show nI a + nI 256 = nI (a % 32 + 32 * (a / 32 % 8) + 256 * (a / 256 + 1))
      rw [nI_add]
      exact congrArg nI (by omega)
    rw [← e] at k
    exact br_f (by decide) (br_f (by decide) k)
section
variable {m bw sh tp : Nat} {al an aw ae e1 e2 e3 e4 ek el : Nat → Int32} {G : Nat → Option (Nat × Option Nat)} {W A : Nat → Nat} {B : Nat → Option Nat}
theorem xx_can_l {post : Int32 → Prop} {a l : Nat} (hT : cd_TB m G W A B) (hC : cd_XC m W A B aw ae) (hm : m ≤ 6) (hG : cd_OK G) (ha : a < 1024) (h1 : 1 ≤ l) (h3 : l ≤ 3) (h0 : cd_wt a l < cd_mx l)
    (k1 : cd_fit G a l → post 1) (k0 : ¬ cd_fit G a l → post 0) :
    ∀ d i, i + d = 32 → (∀ k, k < i → ∀ e, cd_cl m A B k = some e → cd_fit1 a l e) → wX_canMakeRoom_19 post (nI a) (nI l) (nI (cd_mx l)) (nI m) (nI bw) (nI sh) (nI tp) al an aw ae e1 e2 e3 e4 ek el (d + 1) (nI i) := by
  intro d
  induction d with
  | zero =>
    intro i hi hf
    exact br_t (nI_le (a := 32) (by omega) (by omega)) (k1 ((cd_fit_cl hT hm).mpr ⟨h0, fun k hk => hf k (by omega)⟩))
  | succ d ih =>
    intro i hi hf
    have hmx : cd_mx l ≤ 30 := by unfold cd_mx; split <;> (try split) <;> omega
    have ea : ae (nI i).toNatClampNeg = cd_en (cd_cl m A B i) := by rw [nI_clamp (by omega)]; exact cd_XC_k hm hC i (by omega)
    refine br_f (nI_ge (b := 32) (by omega) (by decide)) ⟨vp_in_nI (by omega) (by omega), nm_r ea ?_⟩
    have nx : (∀ e, cd_cl m A B i = some e → cd_fit1 a l e) → ∀ k, k < i + 1 → ∀ e', cd_cl m A B k = some e' → cd_fit1 a l e' := fun g k hk e' he => by
      by_cases q : k = i
      · subst q; exact g e' he
      · exact hf k (by omega) e' he
    refine xx_gbo rfl (fun e z => (cd_cl_V hT hG z).1) ha h1 h3 (fun e z g => ?_) (fun g => br_t rfl (nm_r (nI_1 i) (ih (i + 1) (by omega) (nx (fun e z g' => absurd g' (g e z))))))
    have hv := (cd_cl_V hT hG z).1
    have b1 := cd_wt_b e l
    refine br_f cd_n10 (xx_wte (e := e) (by rw [z]; rfl) (by omega) h1 h3 (pk_lt (cd_wt e l) (cd_mx l) (fun y => nm_r (nI_1 i) (ih (i + 1) (by omega) (nx (fun e' z' _ => ?_)))) (fun y => k0 (fun f => ?_))))
    · rw [z] at z'; cases z'; exact y
    · have := ((cd_fit_cl hT hm).mp f).2 i (by omega) e z g
      omega
theorem xx_can {post : Int32 → Prop} {a l : Nat} (hT : cd_TB m G W A B) (hC : cd_XC m W A B aw ae) (hm : m ≤ 6) (hG : cd_OK G) (ha : a < 1024) (h1 : 1 ≤ l) (h3 : l ≤ 3)
    (k1 : cd_fit G a l → post 1) (k0 : ¬ cd_fit G a l → post 0) : wpX_canMakeRoom post (nI m, nI bw, nI sh, nI tp, al, an, aw, ae, e1, e2, e3, e4, ek, el) (nI a) (nI l) := by
  have hmx : cd_mx l ≤ 30 := by unfold cd_mx; split <;> (try split) <;> omega
  have b1 := cd_wt_b a l
  unfold wpX_canMakeRoom
  refine xx_mx h1 h3 ?_
  refine xx_wt (by omega) h1 h3 ?_
  exact (pk_lt (cd_wt a l) (cd_mx l) (fun z => ⟨33, xx_can_l hT hC hm hG ha h1 h3 z k1 k0 32 0 (by omega) (fun k hk => absurd hk (Nat.not_lt_zero k))⟩) (fun z => k0 (fun f => absurd f.1 (by omega))))
theorem xx_mk_l {post : SX → Prop} {a l : Nat} (hT : cd_TB m G W A B) (hm : m ≤ 6) (hG : cd_OK G) (ha : a < 1024) (h1 : 1 ≤ l) (h3 : l ≤ 3)
    (K : ∀ ae', (∀ k, k < 32 → ae' k = cd_en ((cd_cl m A B k).map (cd_gx a l))) → post (nI m, nI bw, nI sh, nI tp, al, an, aw, ae', e1, e2, e3, e4, ek, el)) :
    ∀ d i ae', i + d = 32 → (∀ k, k < i → ae' k = cd_en ((cd_cl m A B k).map (cd_gx a l))) → (∀ k, i ≤ k → k < 32 → ae' k = cd_en (cd_cl m A B k)) → wX_makeRoom_8 post (nI a) (nI l) (nI (cd_un l)) (nI m) (nI bw) (nI sh) (nI tp) (d + 1) (nI i) al an aw ae' e1 e2 e3 e4 ek el := by
  intro d
  induction d with
  | zero =>
    intro i ae' hi hf hg
    exact br_t (nI_le (a := 32) (by omega) (by omega)) (K ae' (fun k hk => hf k (by omega)))
  | succ d ih =>
    intro i ae' hi hf hg
    have ea : ae' (nI i).toNatClampNeg = cd_en (cd_cl m A B i) := by rw [nI_clamp (by omega)]; exact hg i (by omega) (by omega)
    have ei : ae' i = cd_en (cd_cl m A B i) := hg i (by omega) (by omega)
    have vi : vp_in (nI i) 32 := vp_in_nI (by omega) (by omega)
    have same : cd_en (cd_cl m A B i) = cd_en ((cd_cl m A B i).map (cd_gx a l)) → wX_makeRoom_8 post (nI a) (nI l) (nI (cd_un l)) (nI m) (nI bw) (nI sh) (nI tp) (d + 1) (nI (i + 1)) al an aw ae' e1 e2 e3 e4 ek el := fun g => by
      refine ih (i + 1) ae' (by omega) (fun k hk => ?_) (fun k hk hk2 => hg k (by omega) hk2)
      by_cases q : k = i
      · subst q; rw [ei]; exact g
      · exact hf k (by omega)
    refine br_f (nI_ge (b := 32) (by omega) (by decide)) ⟨vi, ?_⟩
    refine xx_gbo ea (fun e z => (cd_cl_V hT hG z).1) ha h1 h3 (fun e z g => br_f cd_n10 ⟨vi, vi, nm_r (e' := upd ae' i (nI (cd_gx a l e))) ?_ (nm_r (nI_1 i) (ih (i + 1) _ (by omega) (fun k hk => ?_) (fun k hk hk2 => ?_)))⟩) (fun g => br_t rfl (nm_r (nI_1 i) (same ?_)))
    · rw [nI_clamp (by omega), ei, z, cd_gx_t g]
      exact congrArg (upd ae' i) (nI_add e (cd_un l))
    · by_cases q : k = i
      · subst q; rw [pk_us, z]; rfl
      · rw [pk_un q]; exact hf k (by omega)
    · rw [pk_un (by omega)]; exact hg k (by omega) hk2
    · cases z : cd_cl m A B i with
      | none => rfl
      | some e =>
        show nI e = nI (cd_gx a l e)
        rw [cd_gx_f (g e z)]
theorem xx_mk {post : SX → Prop} {a l : Nat} (hT : cd_TB m G W A B) (hC : cd_XC m W A B aw ae) (hm : m ≤ 6) (hG : cd_OK G) (ha : a < 1024) (h1 : 1 ≤ l) (h3 : l ≤ 3)
    (K : ∀ ae', (∀ k, k < 32 → ae' k = cd_en ((cd_cl m A B k).map (cd_gx a l))) → post (nI m, nI bw, nI sh, nI tp, al, an, aw, ae', e1, e2, e3, e4, ek, el)) : wpX_makeRoom post (nI m, nI bw, nI sh, nI tp, al, an, aw, ae, e1, e2, e3, e4, ek, el) (nI a) (nI l) := by
  unfold wpX_makeRoom
  refine xx_un h1 h3 ?_
  exact ⟨33, xx_mk_l hT hm hG ha h1 h3 K 32 0 ae (by omega) (fun k hk => absurd hk (Nat.not_lt_zero k)) (fun k _ hk => cd_XC_k hm hC k hk)⟩
end
