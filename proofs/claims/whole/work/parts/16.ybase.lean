/-! the reference's small methods -/
section
variable {m bw sh tp : Nat} {fm : Int32} {vn vl vw vc vo vt g1 g2 g3 g4 gs gk : Nat → Int32}
theorem yy_slot_t {post : Int32 → Prop} {s : Nat} (h : s < 10) (k : post 1) : wpY_isSlot post (nI m, nI bw, nI sh, nI tp, fm, vn, vl, vw, vc, vo, vt, g1, g2, g3, g4, gs, gk) (nI s) :=
  br_f (nI_pos (by omega)) (br_f (nI_nlt (a := 9) (by omega) (by decide)) k)
theorem yy_slot_f {post : Int32 → Prop} {x : Int32} (h : x < 0 ∨ nI 10 ≤ x) (k : post 0) : wpY_isSlot post (nI m, nI bw, nI sh, nI tp, fm, vn, vl, vw, vc, vo, vt, g1, g2, g3, g4, gs, gk) x :=
  br_c (fun _ => k) (fun z => br_t (cd_hi (a := 9) (h.resolve_left z) (by decide) (by decide)) k)
theorem yy_str_t {post : Int32 → Prop} {s : Nat} (h1 : 1 ≤ s) (h4 : s ≤ 4) (k : post 1) : wpY_isStrength post (nI m, nI bw, nI sh, nI tp, fm, vn, vl, vw, vc, vo, vt, g1, g2, g3, g4, gs, gk) (nI s) :=
  br_f (nI_nlt (b := 1) h1 (by omega)) (br_f (nI_nlt (a := 4) h4 (by decide)) k)
theorem yy_str_f {post : Int32 → Prop} {x : Int32} (h : x < 1 ∨ 4 < x) (k : post 0) : wpY_isStrength post (nI m, nI bw, nI sh, nI tp, fm, vn, vl, vw, vc, vo, vt, g1, g2, g3, g4, gs, gk) x :=
  br_c (fun _ => k) (fun z => br_t (h.resolve_left z) k)
theorem yy_ls {post : Int32 → Prop} {n k r : Nat} (hr : r < 2 ^ 31) (hk : k < 3) (h0 : 0 < r % 11) (h : wY_lengthOf_4 post (nI m) (nI bw) (nI sh) (nI tp) fm vn vl vw vc vo vt g1 g2 g3 g4 gs gk n (nI (k + 1)) (nI (r / 11))) : wY_lengthOf_4 post (nI m) (nI bw) (nI sh) (nI tp) fm vn vl vw vc vo vt g1 g2 g3 g4 gs gk (n + 1) (nI k) (nI r) := by
  have e1 : nI r - nI r / 11 * 11 = nI (r % 11) := pk_rem (d := 11) hr (by decide) (by decide)
  have e2 : nI r / 11 = nI (r / 11) := pk_div (d := 11) hr (by decide) (by decide)
  refine br_f (nI_nle (by omega) hr) (br_f (nI_ge (b := 3) hk (by decide)) ⟨by decide, br_f ?_ ⟨by decide, nm_r e2 (nm_r (nI_1 k) h)⟩⟩)
  rw [e1]
  exact nI_nle h0 (by omega)
theorem yy_lx {post : Int32 → Prop} {n k r : Nat} (hr : r < 2 ^ 31) (hk : k ≤ 3) (hx : k = 3 ∨ r % 11 = 0) (k1 : r = 0 → post (nI k)) (k0 : ¬ r = 0 → post 0) : wY_lengthOf_4 post (nI m) (nI bw) (nI sh) (nI tp) fm vn vl vw vc vo vt g1 g2 g3 g4 gs gk (n + 1) (nI k) (nI r) := by
  have e1 : nI r - nI r / 11 * 11 = nI (r % 11) := pk_rem (d := 11) hr (by decide) (by decide)
  have E : wY_lengthOf_31 post (nI k) (nI r) (nI m) (nI bw) (nI sh) (nI tp) fm vn vl vw vc vo vt g1 g2 g3 g4 gs gk := pk_eq r 0 k1 k0
  exact pk_le r 0 (fun _ => E) (fun z => pk_le 3 k (fun _ => E) (fun y => ⟨by decide, pk_le (r % 11) 0 (fun _ => E) (fun t => absurd t (by omega)) e1⟩))
def cd_wk (w : Nat) : Nat := if w < 1331 then cd_wl w else 0
theorem cd_wk_t {w : Nat} (h : w < 1331) : cd_wk w = cd_wl w := if_pos h
theorem cd_wk_f {w : Nat} (h : ¬ w < 1331) : cd_wk w = 0 := if_neg h
theorem yy_len {post : Int32 → Prop} {w : Nat} (hw : w < 2 ^ 31) (k : post (nI (cd_wk w))) : wpY_lengthOf post (nI m, nI bw, nI sh, nI tp, fm, vn, vl, vw, vc, vo, vt, g1, g2, g3, g4, gs, gk) (nI w) := by
  refine ⟨4, ?_⟩
  by_cases h1 : w % 11 = 0
  · have e : cd_wk w = 0 := by
      by_cases z : w < 1331
      · rw [cd_wk_t z, cd_wl_a h1]
      · exact cd_wk_f z
    rw [e] at k
    exact yy_lx (k := 0) hw (by decide) (Or.inr h1) (fun _ => k) (fun _ => k)
  refine yy_ls (k := 0) hw (by decide) (by omega) ?_
  by_cases h2 : w / 11 % 11 = 0
  · refine yy_lx (k := 0 + 1) (by omega) (by decide) (Or.inr h2) (fun y => ?_) (fun y => ?_)
    · rw [cd_wk_t (by omega), cd_wl_b h1 h2 (by omega)] at k
      exact k
    · have e : cd_wk w = 0 := by
        by_cases z : w < 1331
        · rw [cd_wk_t z, cd_wl_c h1 h2 (by omega)]
        · exact cd_wk_f z
      rw [e] at k
      exact k
  refine yy_ls (k := 0 + 1) (by omega) (by decide) (by omega) ?_
  by_cases h3 : w / 11 / 11 % 11 = 0
  · refine yy_lx (k := 0 + 1 + 1) (by omega) (by decide) (Or.inr h3) (fun y => ?_) (fun y => ?_)
    · rw [cd_wk_t (by omega), cd_wl_d h1 h2 y] at k
      exact k
    · rw [cd_wk_f (by omega)] at k
      exact k
  refine yy_ls (k := 0 + 1 + 1) (by omega) (by decide) (by omega) ?_
  refine yy_lx (k := 0 + 1 + 1 + 1) (by omega) (by decide) (Or.inl rfl) (fun y => ?_) (fun y => ?_)
  · rw [cd_wk_t (by omega), cd_wl_e h1 h2 (by omega)] at k
    exact k
  · rw [cd_wk_f (by omega)] at k
    exact k
theorem cd_neg {x : Int32} (h : x < 0) : x ≤ 0 ∧ ¬ x = 0 := by
  refine ⟨Int32.le_of_lt h, fun e => ?_⟩
  rw [e] at h
  exact absurd h (by decide)
theorem yy_len_n {post : Int32 → Prop} {x : Int32} (h : x < 0) (k : post 0) : wpY_lengthOf post (nI m, nI bw, nI sh, nI tp, fm, vn, vl, vw, vc, vo, vt, g1, g2, g3, g4, gs, gk) x := ⟨1, br_t (cd_neg h).1 (br_f (cd_neg h).2 k)⟩
theorem yy_wt {post : Int32 → Prop} {e l : Nat} {x : Int32} (hx : x = nI e) (he : e < 2 ^ 31) (h1 : 1 ≤ l) (h3 : l ≤ 3) (k : post (nI (cd_wt e l))) : wpY_weight post (nI m, nI bw, nI sh, nI tp, fm, vn, vl, vw, vc, vo, vt, g1, g2, g3, g4, gs, gk) x (nI l) := by
  subst hx
  rcases cd_l3 h1 h3 with rfl | rfl | rfl
  · have e1 : nI e - nI e / 32 * 32 = nI (cd_wt e 1) := pk_rem (d := 32) he (by decide) (by decide)
    rw [← e1] at k
    exact br_t rfl ⟨by decide, k⟩
  · have e1 : nI e / 32 - nI e / 32 / 8 * 8 = nI (cd_wt e 2) := by
      have e2 : nI e / 32 = nI (e / 32) := pk_div (d := 32) he (by decide) (by decide)
      have e3 : nI (e / 32) - nI (e / 32) / 8 * 8 = nI (e / 32 % 8) := pk_rem (d := 8) (by omega) (by decide) (by decide)
      rw [e2, e3]
      rfl
    rw [← e1] at k
    exact br_f (by decide) (br_t rfl ⟨by decide, by decide, k⟩)
  · have e1 : nI e / 256 = nI (cd_wt e 3) := pk_div (d := 256) he (by decide) (by decide)
    rw [← e1] at k
    exact br_f (by decide) (br_f (by decide) ⟨by decide, k⟩)
theorem yy_un {post : Int32 → Prop} {l : Nat} (h1 : 1 ≤ l) (h3 : l ≤ 3) (k : post (nI (cd_un l))) : wpY_unit post (nI m, nI bw, nI sh, nI tp, fm, vn, vl, vw, vc, vo, vt, g1, g2, g3, g4, gs, gk) (nI l) := by
  rcases cd_l3 h1 h3 with rfl | rfl | rfl
  · exact br_t rfl k
  · exact br_f (by decide) (br_t rfl k)
  · exact br_f (by decide) (br_f (by decide) k)
theorem yy_mx {post : Int32 → Prop} {l : Nat} (h1 : 1 ≤ l) (h3 : l ≤ 3) (k : post (nI (cd_mx l))) : wpY_most post (nI m, nI bw, nI sh, nI tp, fm, vn, vl, vw, vc, vo, vt, g1, g2, g3, g4, gs, gk) (nI l) := by
  rcases cd_l3 h1 h3 with rfl | rfl | rfl
  · exact br_t rfl k
  · exact br_f (by decide) (br_t rfl k)
  · exact br_f (by decide) (br_f (by decide) k)
theorem yy_el_f {post : Int32 → Prop} {x : Int32} (h : x < 0) (k : post 0) : wpY_isElement post (nI m, nI bw, nI sh, nI tp, fm, vn, vl, vw, vc, vo, vt, g1, g2, g3, g4, gs, gk) x := br_t h k
theorem yy_el {post : Int32 → Prop} {e : Nat} (he : e < 2 ^ 31) (k1 : cd_V e → post 1) (k0 : ¬ cd_V e → post 0) : wpY_isElement post (nI m, nI bw, nI sh, nI tp, fm, vn, vl, vw, vc, vo, vt, g1, g2, g3, g4, gs, gk) (nI e) := by
  have e1 : nI e - nI e / 32 * 32 = nI (e % 32) := pk_rem (d := 32) he (by decide) (by decide)
  refine br_f (nI_pos he) (pk_le 1024 e (fun z => k0 (fun v => ?_)) (fun z => ⟨by decide, pk_lt 30 (e % 32) (fun y => k0 (fun v => ?_)) (fun y => k1 ⟨z, y⟩) rfl e1⟩))
  · have := v.1; omega
  · have := v.2; omega
theorem yy_gb_l {post : Int32 → Prop} {e a l : Nat} (he : e < 1024) (ha : a < 1024) (h1 : 1 ≤ l) (h3 : l ≤ 3) (k1 : cd_gb e a l → post 1) (k0 : ¬ cd_gb e a l → post 0) :
    ∀ d i x, i + d = l → 1 ≤ i → ((x = 1 ∧ ∀ j, 1 ≤ j → j < i → cd_wt e j = cd_wt a j) ∨ (x = 0 ∧ ¬ cd_gb e a l)) → wY_isBehind_6 post (nI e) (nI a) (nI l) (nI m) (nI bw) (nI sh) (nI tp) fm vn vl vw vc vo vt g1 g2 g3 g4 gs gk (d + 1) x (nI i) := by
  intro d
  induction d with
  | zero =>
    intro i x hi h1i hj
    have hil : i = l := by omega
    subst hil
    have b1 := cd_wt_b e i
    have b2 := cd_wt_b a i
    rcases hj with ⟨rfl, hj⟩ | ⟨rfl, hj⟩
    · refine br_t (nI_le (Nat.le_refl _) (by omega)) (br_f cd_n10 (yy_wt rfl (by omega) h1 h3 (yy_wt rfl (by omega) h1 h3 (pk_le (cd_wt e i) (cd_wt a i) (fun z => k0 (fun y => ?_)) (fun z => k1 ((cd_gb_i h1 h3).mpr ⟨hj, z⟩))))))
      have := ((cd_gb_i h1 h3).mp y).2
      omega
    · exact br_t (nI_le (Nat.le_refl _) (by omega)) (br_t rfl (k0 hj))
  | succ d ih =>
    intro i x hi h1i hj
    have b1 := cd_wt_b e i
    have b2 := cd_wt_b a i
    rcases hj with ⟨rfl, hj⟩ | ⟨rfl, hj⟩
    · refine br_f (nI_ge (by omega) (by omega)) (br_f cd_n10 (yy_wt rfl (by omega) h1i (by omega) (yy_wt rfl (by omega) h1i (by omega) (pk_eq (cd_wt e i) (cd_wt a i) (fun z => nm_r (nI_1 i) (ih (i + 1) 1 (by omega) (by omega) (Or.inl ⟨rfl, fun j q1 q2 => ?_⟩))) (fun z => nm_r (nI_1 i) (ih (i + 1) 0 (by omega) (by omega) (Or.inr ⟨rfl, fun y => z (((cd_gb_i h1 h3).mp y).1 i h1i (by omega))⟩)))))))
      by_cases q : j = i
      · subst q; exact z
      · exact hj j q1 (by omega)
    · exact br_f (nI_ge (by omega) (by omega)) (br_t rfl (nm_r (nI_1 i) (ih (i + 1) 0 (by omega) (by omega) (Or.inr ⟨rfl, hj⟩))))
theorem yy_gb {post : Int32 → Prop} {e a l : Nat} {x : Int32} (hx : x = nI e) (he : e < 1024) (ha : a < 1024) (h1 : 1 ≤ l) (h3 : l ≤ 3) (k1 : cd_gb e a l → post 1) (k0 : ¬ cd_gb e a l → post 0) : wpY_isBehind post (nI m, nI bw, nI sh, nI tp, fm, vn, vl, vw, vc, vo, vt, g1, g2, g3, g4, gs, gk) x (nI a) (nI l) := by
  subst hx
  exact ⟨l - 1 + 1, yy_gb_l he ha h1 h3 k1 k0 (l - 1) 1 1 (by omega) (by omega) (Or.inl ⟨rfl, fun j q1 q2 => absurd q2 (by omega)⟩)⟩
variable {G : Nat → Option (Nat × Option Nat)} {W A : Nat → Nat} {B : Nat → Option Nat}
theorem yy_eo_l {post : Int32 → Prop} {w : Nat} (hT : cd_TB m G W A B) (hC : cd_YC m W A B vw vc vo vt) (hm : m ≤ 6) (hw : w < 2 ^ 31) (k1 : ∀ p, p < 10 + m → W p = w → post (nI p)) (k0 : G w = none → post (-1)) :
    ∀ d i, i + d = 10 + m → (∀ p, p < i → ¬ W p = w) → wY_entryOf_2 post (nI w) (nI m) (nI bw) (nI sh) (nI tp) fm vn vl vw vc vo vt g1 g2 g3 g4 gs gk (d + 1) (nI i) := by
  intro d
  induction d with
  | zero =>
    intro i hi hn
    exact br_t (by rw [cd_10]; exact nI_le (by omega) (by omega)) (k0 (cd_TB_none hT (fun p hp => hn p (by omega))))
  | succ d ih =>
    intro i hi hn
    have e : vw (nI i).toNatClampNeg = nI (W i) := by rw [nI_clamp (by omega)]; exact (hC i (by omega)).1
    have hW := (hT.1 i (by omega)).1
    refine br_f (by rw [cd_10]; exact nI_ge (by omega) (by omega)) ⟨vp_in_nI (by omega) (by omega), pk_eq (W i) w (fun z => ?_) (fun z => ?_) e⟩
    · exact k1 i (by omega) z
    · refine nm_r (nI_1 i) (ih (i + 1) (by omega) (fun p hp => ?_))
      by_cases q : p = i
      · subst q; exact z
      · exact hn p (by omega)
theorem yy_eo {post : Int32 → Prop} {w : Nat} (hT : cd_TB m G W A B) (hC : cd_YC m W A B vw vc vo vt) (hm : m ≤ 6) (hw : w < 2 ^ 31) (k1 : ∀ p, p < 10 + m → W p = w → post (nI p)) (k0 : G w = none → post (-1)) :
    wpY_entryOf post (nI m, nI bw, nI sh, nI tp, fm, vn, vl, vw, vc, vo, vt, g1, g2, g3, g4, gs, gk) (nI w) :=
  ⟨10 + m + 1, yy_eo_l hT hC hm hw k1 k0 (10 + m) 0 (by omega) (fun p hp => absurd hp (Nat.not_lt_zero p))⟩
end
