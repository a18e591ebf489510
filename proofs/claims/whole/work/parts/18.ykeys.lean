/-! the reference: keys -/
def cd_Fl (sh tp : Nat) (l : List Nat) (lev k : Nat) : Nat := if lev = 1 then cd_F1 sh tp l k else if lev = 2 then cd_F2 sh tp l k else if lev = 3 then cd_F3 sh tp l k else cd_F4 sh tp l k
theorem cd_W_b {sh tp bw : Nat} {l : List Nat} {lev k : Nat} (h : lev = 2) (hb : bw = 1) : cd_W sh tp bw l lev k = cd_Fl sh tp l lev (l.length - 1 - k) := by
  subst h
  show (if bw = 1 then _ else _) = _
  rw [if_pos hb]
  rfl
theorem cd_W_n {sh tp bw : Nat} {l : List Nat} {lev k : Nat} (h : ¬ (lev = 2 ∧ bw = 1)) : cd_W sh tp bw l lev k = cd_Fl sh tp l lev k := by
  unfold cd_W cd_Fl
  by_cases h1 : lev = 1
  · rw [if_pos h1, if_pos h1]
  · rw [if_neg h1, if_neg h1]
    by_cases h2 : lev = 2
    · rw [if_pos h2, if_pos h2, if_neg (fun q => h ⟨h2, q⟩)]
    · rw [if_neg h2, if_neg h2]
section
variable {m bw sh tp : Nat} {fm : Int32} {vn vl vw vc vo vt g1 g2 g3 g4 gs gk : Nat → Int32} {G : Nat → Option (Nat × Option Nat)} {W A : Nat → Nat} {B : Nat → Option Nat} {c : Nat → Nat}
theorem yy_lv {post : Int32 → Prop} {x : Int32} {l : List Nat} {i lev : Nat} (hx : x = nI i) (hi : i < l.length) (hl : l.length ≤ 24) (h1 : 1 ≤ lev) (h4 : lev ≤ 4) (hF : cd_AF sh tp l g1 g2 g3 g4) (k : post (nI (cd_Fl sh tp l lev i))) : wpY_levelOf post (nI m, nI bw, nI sh, nI tp, fm, vn, vl, vw, vc, vo, vt, g1, g2, g3, g4, gs, gk) x (nI lev) := by
  subst hx
  have vi : vp_in (nI i) 24 := vp_in_nI (by omega) (by omega)
  have ec : (nI i).toNatClampNeg = i := nI_clamp (by omega)
  obtain ⟨q1, q2, q3, q4⟩ := hF i hi
  have hv : lev = 1 ∨ lev = 2 ∨ lev = 3 ∨ lev = 4 := by omega
  rcases hv with rfl | rfl | rfl | rfl
  · exact br_t rfl ⟨vi, by rw [ec, q1]; exact k⟩
  · exact br_f (by decide) (br_t rfl ⟨vi, by rw [ec, q2]; exact k⟩)
  · exact br_f (by decide) (br_f (by decide) (br_t rfl ⟨vi, by rw [ec, q3]; exact k⟩))
  · exact br_f (by decide) (br_f (by decide) (br_f (by decide) ⟨vi, by rw [ec, q4]; exact k⟩))
theorem yy_an {post : SY → Prop} {side x : Nat} {r : List Nat} (hs : side < 2) (hr : r.length < 110) (hg : gs side = nI r.length) (k : post (nI m, nI bw, nI sh, nI tp, fm, vn, vl, vw, vc, vo, vt, g1, g2, g3, g4, (upd gs side (nI (r.length + 1))), (upd gk (110 * side + r.length) (nI x)))) : wpY_addNumber post (nI m, nI bw, nI sh, nI tp, fm, vn, vl, vw, vc, vo, vt, g1, g2, g3, g4, gs, gk) (nI side) (nI x) := by
  have vi : vp_in (nI side) 2 := vp_in_nI hs (by omega)
  have ec : (nI side).toNatClampNeg = side := nI_clamp (by omega)
  have ei : 110 * nI side + gs (nI side).toNatClampNeg = nI (110 * side + r.length) := by rw [ec, hg]; exact cd_j110 side r.length
  exact ⟨vi, pk_in (110 * side + r.length) 220 (by omega) ei, nm_r (e' := upd gk (110 * side + r.length) (nI x)) (by rw [pk_cl (110 * side + r.length) ei]) ⟨vi, vi, nm_r (e' := upd gs side (nI (r.length + 1))) (by rw [ec, hg, nI_1]) k⟩⟩
/-- a key under way in the reference's cells -/
def cd_YK (side : Nat) (gs gk : Nat → Int32) (R : List Nat) (bs bk : Nat → Int32) : Prop := cd_HD bk (110 * side) R ∧ bs side = nI R.length ∧ cd_FR (110 * side) 110 gk bk ∧ ∀ j, ¬ j = side → bs j = gs j
theorem cd_YK_put {side x : Nat} {gs gk bs bk : Nat → Int32} {R : List Nat} (h : cd_YK side gs gk R bs bk) (hR : R.length < 110) : cd_YK side gs gk (R ++ [x]) (upd bs side (nI (R.length + 1))) (upd bk (110 * side + R.length) (nI x)) := by
  obtain ⟨h1, h2, h3, h4⟩ := h
  refine ⟨cd_HD_put h1, ?_, cd_FR_u h3 (by omega) (by omega), fun j hj => by rw [pk_un hj]; exact h4 j hj⟩
  rw [pk_us, List.length_append]
  rfl
theorem yy_78 {post : SY → Prop} {J18 J40 : Int32 → cd_17A} {x5 z : Int32} {side lev i k : Nat} {l : List Nat} {R : List Nat} {bs bk : Nat → Int32} (hz : z = nI i) (hi : i < l.length) (hl : l.length ≤ 24) (h1 : 1 ≤ lev) (h4 : lev ≤ 4) (hF : cd_AF sh tp l g1 g2 g3 g4) (hs : side < 2) (hR : R.length < 110) (hY : cd_YK side gs gk R bs bk)
    (kJ : ∀ bs bk, cd_YK side gs gk (R ++ (if cd_Fl sh tp l lev i = 0 then [] else [cd_Fl sh tp l lev i])) bs bk → J40 (nI (k + 1)) (nI m) (nI bw) (nI sh) (nI tp) fm vn vl vw vc vo vt g1 g2 g3 g4 bs bk) : wY_makeKey_78 post J18 J40 (nI side) x5 (nI lev) (nI k) z (nI m) (nI bw) (nI sh) (nI tp) fm vn vl vw vc vo vt g1 g2 g3 g4 bs bk := by
  have hb : cd_Fl sh tp l lev i ≤ 31 := by
    unfold cd_Fl
    split
    · exact cd_F1_b sh tp l i
    · split
      · exact cd_F2_b sh tp l i
      · split
        · exact cd_F3_b sh tp l i
        · exact cd_F4_b sh tp l i
  unfold wY_makeKey_78
  refine yy_lv hz hi hl h1 h4 hF ?_
  refine pk_le (cd_Fl sh tp l lev i) 0 (fun z0 => nm_r (nI_1 k) ?_) (fun z0 => yy_an (r := R) hs hR hY.2.1 (nm_r (nI_1 k) ?_))
  · have h := kJ bs bk
    rw [if_pos (by omega), List.append_nil] at h
    exact h hY
  · have h := kJ (upd bs side (nI (R.length + 1))) (upd bk (110 * side + R.length) (nI (cd_Fl sh tp l lev i)))
    rw [if_neg (by omega)] at h
    exact h (cd_YK_put hY hR)
theorem yy_40 {post : SY → Prop} {J18 : Int32 → cd_17A} {x5 : Int32} {side lev : Nat} {l R : List Nat} (hl : l.length ≤ 24) (h1 : 1 ≤ lev) (h4 : lev ≤ 4) (hF : cd_AF sh tp l g1 g2 g3 g4) (hs : side < 2) (hbw : bw ≤ 1) (hR : R.length + l.length < 110)
    (K : ∀ bs bk, cd_YK side gs gk (R ++ cd_flt (cd_W sh tp bw l lev) l.length) bs bk → J18 (nI (lev + 1)) (nI m) (nI bw) (nI sh) (nI tp) (nI l.length) vn vl vw vc vo vt g1 g2 g3 g4 bs bk) :
    ∀ d k bs bk, k + d = l.length → cd_YK side gs gk (R ++ cd_flt (cd_W sh tp bw l lev) k) bs bk → wY_makeKey_40 post J18 (nI side) x5 (nI lev) (d + 1) (nI k) (nI m) (nI bw) (nI sh) (nI tp) (nI l.length) vn vl vw vc vo vt g1 g2 g3 g4 bs bk := by
  intro d
  induction d with
  | zero =>
    intro k bs bk hk hY
    have hkl : k = l.length := by omega
    subst hkl
    exact br_t (nI_le (Nat.le_refl _) (by omega)) (nm_r (nI_1 lev) (K bs bk hY))
  | succ d ih =>
    intro k bs bk hk hY
    have hlen : (R ++ cd_flt (cd_W sh tp bw l lev) k).length ≤ R.length + k := by rw [List.length_append]; have := cd_flt_le (cd_W sh tp bw l lev) k; omega
    have nx : ∀ i, cd_W sh tp bw l lev k = cd_Fl sh tp l lev i → ∀ bs bk, cd_YK side gs gk ((R ++ cd_flt (cd_W sh tp bw l lev) k) ++ (if cd_Fl sh tp l lev i = 0 then [] else [cd_Fl sh tp l lev i])) bs bk → wY_makeKey_40 post J18 (nI side) x5 (nI lev) (d + 1) (nI (k + 1)) (nI m) (nI bw) (nI sh) (nI tp) (nI l.length) vn vl vw vc vo vt g1 g2 g3 g4 bs bk := fun i hi bs bk h => by
      refine ih (k + 1) bs bk (by omega) ?_
      rw [List.append_assoc, ← hi] at h
      exact h
    have go76 : ¬ (lev = 2 ∧ bw = 1) → wY_makeKey_76 post J18 (wY_makeKey_40 post J18 (nI side) x5 (nI lev) (d + 1)) (nI side) x5 (nI lev) (nI k) (nI m) (nI bw) (nI sh) (nI tp) (nI l.length) vn vl vw vc vo vt g1 g2 g3 g4 bs bk := fun h =>
      yy_78 rfl (by omega) hl h1 h4 hF hs (by omega) hY (nx k (cd_W_n h))
    refine br_f (nI_ge (by omega) (by omega)) (pk_eq lev 2 (fun z => pk_eq bw 1 (fun y => ?_) (fun y => go76 (fun q => y q.2))) (fun z => go76 (fun q => z q.1)))
    refine yy_78 (i := l.length - 1 - k) ?_ (by omega) hl h1 h4 hF hs (by omega) hY (nx _ (cd_W_b z y))
    show nI l.length - nI 1 - nI k = nI (l.length - 1 - k)
    rw [pk_sub (by omega), pk_sub (by omega)]
theorem cd_KK_s (sh tp bw : Nat) (l : List Nat) (t : Nat) : cd_KK sh tp bw l (t + 1) = (cd_KK sh tp bw l t ++ (if t + 1 = 1 then [] else [0])) ++ cd_flt (cd_W sh tp bw l (t + 1)) l.length := by
  show cd_KK sh tp bw l t ++ ((if t + 1 = 1 then [] else [0]) ++ _) = _
  rw [List.append_assoc]
theorem yy_18 {post : SY → Prop} {side n : Nat} {l : List Nat} (hl : l.length ≤ 24) (hn : n ≤ 4) (hF : cd_AF sh tp l g1 g2 g3 g4) (hs : side < 2) (hbw : bw ≤ 1)
    (K : ∀ bs bk, cd_YK side gs gk (cd_KK sh tp bw l n) bs bk → post (nI m, nI bw, nI sh, nI tp, (nI l.length), vn, vl, vw, vc, vo, vt, g1, g2, g3, g4, bs, bk)) :
    ∀ d t bs bk, t + d = n → cd_YK side gs gk (cd_KK sh tp bw l t) bs bk → wY_makeKey_18 post (nI side) (nI n) (d + 1) (nI (t + 1)) (nI m) (nI bw) (nI sh) (nI tp) (nI l.length) vn vl vw vc vo vt g1 g2 g3 g4 bs bk := by
  intro d
  induction d with
  | zero =>
    intro t bs bk ht hY
    obtain rfl : t = n := by omega
    exact br_t (nI_lt (by omega) (by omega)) (K bs bk hY)
  | succ d ih =>
    intro t bs bk ht hY
    have h99 := cd_KK_99 (sh := sh) (tp := tp) (bw := bw) hl t (by omega)
    have hlen : (cd_KK sh tp bw l t).length ≤ t * l.length + t := by
      cases t with
      | zero => exact Nat.zero_le _
      | succ t => have := cd_KK_le sh tp bw l t; omega
    have ht4 : t = 0 ∨ t = 1 ∨ t = 2 ∨ t = 3 := by omega
    have hlen2 : (cd_KK sh tp bw l t).length + l.length ≤ 100 := by
      rcases ht4 with rfl | rfl | rfl | rfl <;> omega
    refine br_f (nI_nlt (by omega) (by omega)) (pk_le (t + 1) 1 (fun z => ?_) (fun z => ?_))
    · obtain rfl : t = 0 := by omega
      refine ⟨l.length + 1, yy_40 (gs := gs) (gk := gk) (R := []) hl (by omega) (by omega) hF hs hbw (by show 0 + l.length < 110; omega) (fun bs bk h => ih (0 + 1) bs bk (by omega) ?_) l.length 0 bs bk (by omega) ?_⟩
      · rw [cd_KK_s]
        exact h
      · exact hY
    · have e7 : (cd_KK sh tp bw l t ++ [0]).length = (cd_KK sh tp bw l t).length + 1 := by rw [List.length_append]; rfl
      refine yy_an (x := 0) (r := cd_KK sh tp bw l t) hs (by omega) hY.2.1 ⟨l.length + 1, yy_40 (gs := gs) (gk := gk) (R := cd_KK sh tp bw l t ++ [0]) hl (by omega) (by omega) hF hs hbw (by omega) (fun bs bk h => ih (t + 1) bs bk (by omega) ?_) l.length 0 _ _ (by omega) ?_⟩
      · rw [cd_KK_s, if_neg (by omega)]
        exact h
      · show cd_YK side gs gk ((cd_KK sh tp bw l t ++ [0]) ++ []) _ _
        rw [List.append_nil]
        exact cd_YK_put hY (by omega)
theorem yy_mk {post : SY → Prop} {x y : Int32} {side s p q n : Nat} (hx : x = nI p) (hy : y = nI q) (hT : cd_TB m G W A B) (hC : cd_YC m W A B vw vc vo vt) (hm : m ≤ 6) (hG : cd_OK G) (hsh : sh ≤ 1) (htp : tp ≤ 30) (hbw : bw ≤ 1) (hside : side < 2) (hs : s < 10) (hpq : p ≤ q) (hq : q ≤ 12) (hc : cd_CL c vl (12 * s + p) (12 * s + q)) (hn : n ≤ 4)
    (K : ∀ fm a1 a2 a3 a4 bs bk, cd_KT (110 * side) side bk bs (cd_KE sh tp bw G c (12 * s + p) (12 * s + q) n) → (∀ j J, ¬ j = side → cd_KT (110 * j) j gk gs J → cd_KT (110 * j) j bk bs J) → post (nI m, nI bw, nI sh, nI tp, fm, vn, vl, vw, vc, vo, vt, a1, a2, a3, a4, bs, bk)) :
    wpY_makeKey post (nI m, nI bw, nI sh, nI tp, fm, vn, vl, vw, vc, vo, vt, g1, g2, g3, g4, gs, gk) (nI side) (nI s) x y (nI n) := by
  subst hx hy
  have hl : (cd_EL G c (12 * s + p) (12 * s + q)).length ≤ 24 := cd_EL_12 (by omega)
  unfold wpY_makeKey
  refine yy_fe hT hC hm hG hsh htp hs hpq hq hc (fun a1 a2 a3 a4 hF => ?_)
  refine ⟨vp_in_nI hside (by omega), nm_r (e' := upd gs side 0) (by rw [nI_clamp (by omega)]) ⟨n + 1, ?_⟩⟩
  refine yy_18 (gs := gs) (gk := gk) hl hn hF hside hbw (fun bs bk hY => ?_) n 0 _ _ (by omega) ⟨cd_HD_nil, pk_us, cd_FR_r, fun j hj => pk_un hj⟩
  refine K _ a1 a2 a3 a4 bs bk ⟨hY.1, hY.2.1, cd_KK_99 hl n hn, cd_KK_b sh tp bw _ n⟩ (fun j J hj hJ => cd_KT_fr hJ hY.2.2.1 (by omega) (hY.2.2.2 j hj))
theorem yy_or_l {post : Int32 → Prop} {R J : List Nat} (h1 : cd_KT (110 * 0) 0 gk gs R) (h2 : cd_KT (110 * 1) 1 gk gs J) :
    ∀ d x, x + d = R.length → x ≤ J.length → post (cd_cm (R.drop x) (J.drop x)) → wY_order_2 post (nI m) (nI bw) (nI sh) (nI tp) fm vn vl vw vc vo vt g1 g2 g3 g4 gs gk (d + 1) (nI x) := by
  obtain ⟨h1a, h1b, h1c, h1d⟩ := h1
  obtain ⟨h2a, h2b, h2c, h2d⟩ := h2
  intro d
  induction d with
  | zero =>
    intro x hx hxj k
    refine br_t (by rw [h1b]; exact nI_le (by omega) (by omega)) (pk_le J.length R.length (fun z => pk_le R.length J.length (fun y => ?_) (fun y => absurd y (by omega)) h1b h2b) (fun z => ?_) h2b h1b)
    · rw [cd_cm_e0 (by omega) (by omega)] at k; exact k
    · rw [cd_cm_el (by omega) (by omega)] at k; exact k
  | succ d ih =>
    intro x hx hxj k
    refine br_f (by rw [h1b]; exact nI_ge (by omega) (by omega)) (pk_le J.length x (fun z => pk_le J.length R.length (fun y => pk_le R.length J.length (fun t => absurd t (by omega)) (fun t => ?_) h1b h2b) (fun y => absurd y (by omega)) h2b h1b) (fun z => ?_) h2b)
    · rw [cd_cm_eg (by omega) (by omega)] at k; exact k
    · have b1 := cd_getD_b h1d x
      have b2 := cd_getD_b h2d x
      have v1 : vp_in (nI x) 220 := vp_in_nI (by omega) (by omega)
      have e0 : 110 + nI x = nI (110 + x) := nI_add 110 x
      have v2 : vp_in (110 + nI x) 220 := pk_in (110 + x) 220 (by omega) e0
      have k1 : gk (nI x).toNatClampNeg = nI (R.getD x 0) := by rw [nI_clamp (by omega)]; have := h1a x (by omega); rw [Nat.mul_zero, Nat.zero_add] at this; exact this
      have k2 : gk (110 + nI x).toNatClampNeg = nI (J.getD x 0) := by rw [pk_cl (110 + x) e0]; exact h2a x (by omega)
      refine ⟨v1, v2, pk_eq (R.getD x 0) (J.getD x 0) (fun y => nm_r (nI_1 x) (ih (x + 1) (by omega) (by omega) ?_)) (fun y => ⟨v1, v2, pk_le (J.getD x 0) (R.getD x 0) (fun t => ?_) (fun t => ?_) k2 k1⟩) k1 k2⟩
      · rw [cd_cm_s (by omega) (by omega) y] at k; exact k
      · rw [cd_cm_g (by omega) (by omega) (by omega)] at k; exact k
      · rw [cd_cm_l (by omega) (by omega) (by omega)] at k; exact k
theorem yy_or {post : Int32 → Prop} {R J : List Nat} (h1 : cd_KT (110 * 0) 0 gk gs R) (h2 : cd_KT (110 * 1) 1 gk gs J) (k : post (cd_cm R J)) : wpY_order post (nI m, nI bw, nI sh, nI tp, fm, vn, vl, vw, vc, vo, vt, g1, g2, g3, g4, gs, gk) :=
  ⟨R.length + 1, yy_or_l h1 h2 R.length 0 (by omega) (Nat.zero_le _) k⟩
end
