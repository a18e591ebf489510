/-! what is owed -/
theorem i_up {k : Nat} {u : SX} {v : SY} (h : i_Rel k u v) : i_Rel (k + 5) u v := h
theorem i_vc0 : wpX_init (fun u => wpY_init (fun v => i_Rel 0 u v)) := by
  refine ⟨11, x0_1 (fun aw ae hX => ?_) 10 0 (fun _ => 0) (fun _ => 0) (by omega) (fun p hp => absurd hp (Nat.not_lt_zero p))⟩
  refine ⟨11, y0_1 (fun vw vc vo hY => ?_) 10 0 (fun _ => 0) (fun _ => 0) (fun _ => 0) (by omega) (fun p hp => absurd hp (Nat.not_lt_zero p))⟩
  exact cd_R cd_D_0 cd_ST_0 (cd_XT_i cd_TB_0 hX) cd_ST_0 (cd_YT_i cd_TB_0 hY)
theorem i_vc_put {k : Nat} {u : SX} {v : SY} (I : i_Rel k u v) (hk : k + 5 ≤ 2560) (v1 : Int32) (v2 : Int32) : wpX_put (fun r u' => wpY_put (fun r' v' => r' = r ∧ i_Rel (k + 5) u' v') v v1 v2) u v1 v2 := by
  obtain ⟨m, bw, sh, tp, L, c, G, al, an, aw, ae, e1, e2, e3, e4, ek, el, fm, vn, vl, vw, vc, vo, vt, g1, g2, g3, g4, gs, gk, rfl, rfl, hD, hSx, hX, hSy, hY⟩ := I
  rcases cd_in v1 (n := 10) (by decide) with h | ⟨s, hs, rfl⟩
  · exact xq_put1 h (yq_put1 h ⟨rfl, cd_R hD hSx hX hSy hY⟩)
  rcases cd_in v2 (n := 10) (by decide) with h | ⟨x, hx, rfl⟩
  · exact xq_put2 hs h (yq_put2 hs h ⟨rfl, cd_R hD hSx hX hSy hY⟩)
  have hL := hD.2.2.2.2.2.1 s hs
  by_cases z : L s < 12
  · exact xq_put4 hSx hs hx z (yq_put4 hSy hs hx z ⟨rfl, cd_R (cd_D_put hD z hx) (cd_ST_put hSx) hX (cd_ST_put hSy) hY⟩)
  · exact xq_put3 hSx hs hx hL z (yq_put3 hSy hs hx hL z ⟨rfl, cd_R hD hSx hX hSy hY⟩)
theorem i_vc_take {k : Nat} {u : SX} {v : SY} (I : i_Rel k u v) (hk : k + 5 ≤ 2560) (v1 : Int32) : wpX_take (fun r u' => wpY_take (fun r' v' => r' = r ∧ i_Rel (k + 5) u' v') v v1) u v1 := by
  obtain ⟨m, bw, sh, tp, L, c, G, al, an, aw, ae, e1, e2, e3, e4, ek, el, fm, vn, vl, vw, vc, vo, vt, g1, g2, g3, g4, gs, gk, rfl, rfl, hD, hSx, hX, hSy, hY⟩ := I
  rcases cd_in v1 (n := 10) (by decide) with h | ⟨s, hs, rfl⟩
  · exact xq_take1 h (yq_take1 h ⟨rfl, cd_R hD hSx hX hSy hY⟩)
  have hL := hD.2.2.2.2.2.1 s hs
  by_cases z : L s = 0
  · exact xq_take2 hSx hs z (yq_take2 hSy hs z ⟨rfl, cd_R hD hSx hX hSy hY⟩)
  · obtain ⟨n, hn⟩ : ∃ n, L s = n + 1 := ⟨L s - 1, by omega⟩
    exact xq_take3 hSx hs hL hn (yq_take3 hSy hs hL hn ⟨rfl, cd_R (cd_D_take hD hn) (cd_ST_take hSx hn) hX (cd_ST_take hSy hn) hY⟩)
theorem i_vc_copy {k : Nat} {u : SX} {v : SY} (I : i_Rel k u v) (hk : k + 5 ≤ 2560) (v1 : Int32) (v2 : Int32) : wpX_copy (fun r u' => wpY_copy (fun r' v' => r' = r ∧ i_Rel (k + 5) u' v') v v1 v2) u v1 v2 := by
  obtain ⟨m, bw, sh, tp, L, c, G, al, an, aw, ae, e1, e2, e3, e4, ek, el, fm, vn, vl, vw, vc, vo, vt, g1, g2, g3, g4, gs, gk, rfl, rfl, hD, hSx, hX, hSy, hY⟩ := I
  rcases cd_in v1 (n := 10) (by decide) with h | ⟨s, hs, rfl⟩
  · exact xq_copy1 h (yq_copy1 h ⟨rfl, cd_R hD hSx hX hSy hY⟩)
  rcases cd_in v2 (n := 10) (by decide) with h | ⟨o, ho, rfl⟩
  · exact xq_copy2 hs h (yq_copy2 hs h ⟨rfl, cd_R hD hSx hX hSy hY⟩)
  have hL := hD.2.2.2.2.2.1
  exact xq_copy3 hSx hs ho (yq_copy3 hSy hs ho (hL o ho) ⟨rfl, cd_R (cd_D_copy hD ho) (cd_ST_copy hSx hs ho hL (hL o ho) (Nat.le_refl _)) hX (cd_ST_copy hSy hs ho hL (Nat.le_refl _) (hL o ho)) hY⟩)
theorem i_vc_entry {k : Nat} {u : SX} {v : SY} (I : i_Rel k u v) (hk : k + 5 ≤ 2560) (v1 : Int32) (v2 : Int32) (v3 : Int32) : wpX_entry (fun r u' => wpY_entry (fun r' v' => r' = r ∧ i_Rel (k + 5) u' v') v v1 v2 v3) u v1 v2 v3 := by
  obtain ⟨m, bw, sh, tp, L, c, G, al, an, aw, ae, e1, e2, e3, e4, ek, el, fm, vn, vl, vw, vc, vo, vt, g1, g2, g3, g4, gs, gk, rfl, rfl, hD, hSx, hX, hSy, hY⟩ := I
  obtain ⟨W, A, B, hT, hC1, hC2⟩ := id hX
  have hC : cd_XC m W A B aw ae := ⟨hC1, hC2⟩
  obtain ⟨W', A', B', hT', hC'⟩ := id hY
  have R : ∀ fm', i_Rel (k + 5) (nI m, nI bw, nI sh, nI tp, al, an, aw, ae, e1, e2, e3, e4, ek, el) (nI m, nI bw, nI sh, nI tp, fm', vn, vl, vw, vc, vo, vt, g1, g2, g3, g4, gs, gk) := fun fm' => cd_R hD hSx hX hSy hY
  have hm := hD.1
  have hG := hD.2.2.2.2.1
  have bad : (v1 < 0 ∨ ∃ w : Nat, w < 2 ^ 31 ∧ v1 = nI w ∧ cd_wk w = 0) ∨ ∃ w : Nat, w < 1331 ∧ v1 = nI w ∧ ¬ cd_wl w = 0 := by
    rcases cd_wc v1 with h | ⟨w, hw, rfl⟩
    · exact Or.inl (Or.inl h)
    · by_cases z : cd_wk w = 0
      · exact Or.inl (Or.inr ⟨w, hw, rfl, z⟩)
      · by_cases y : w < 1331
        · rw [cd_wk_t y] at z
          exact Or.inr ⟨w, y, rfl, z⟩
        · exact absurd (cd_wk_f y) z
  rcases bad with h | ⟨w, hw, rfl, hl⟩
  · exact xq_entry1 h (yq_entry1 h ⟨rfl, R _⟩)
  rcases cd_ec v2 with h | ⟨a, ha, rfl⟩
  · exact xq_entry2 hw hl h (yq_entry2 hw hl h ⟨rfl, R _⟩)
  have two : ((v3 < 0 ∨ ∃ e : Nat, e < 2 ^ 31 ∧ v3 = nI e ∧ ¬ cd_V e) ∧ ¬ v3 = -1) ∨ ∃ b : Option Nat, v3 = cd_en b ∧ ∀ e, b = some e → cd_V e := by
    by_cases z : v3 = -1
    · exact Or.inr ⟨none, z, fun e he => by cases he⟩
    · rcases cd_ec v3 with h | ⟨e, he, rfl⟩
      · exact Or.inl ⟨h, z⟩
      · exact Or.inr ⟨some e, rfl, fun e' he' => by cases he'; exact he⟩
  rcases two with ⟨h, h1⟩ | ⟨b, rfl, hb⟩
  · exact xq_entry3 hw hl ha h h1 (yq_entry3 hw hl ha h h1 ⟨rfl, R _⟩)
  refine xq_entry_go hw hl ha hb ?_
  rcases Classical.em (G w = none) with z | z
  · by_cases y : m = 6
    · exact xq_entry4 hT hC y hw z (yq_entry_go hw hl ha hb (yq_entry4 hT' hC' y hw z ⟨rfl, R _⟩))
    · exact xq_entry5 hT hC (by omega) hw z (yq_entry_go hw hl ha hb (yq_entry5 hT' hC' (by omega) hw z hb ⟨rfl, cd_R (cd_D_G hD (by omega) (cd_OK_up hG ha hb)) hSx (cd_XT_new hT hC (by omega) z) hSy (cd_YT_new hT' hC' (by omega) z)⟩))
  · refine xq_entry6 hT hC hm hw z (fun p hp e => yq_entry_go hw hl ha hb (yq_entry6 hT' hC' hm hw z hb (fun q hq e' => ⟨rfl, ?_⟩)))
    subst e
    have x1 := cd_XT_set hT hC (a := a) (b := b) hp
    have y1 := cd_YT_set hT' hC' (a := a) (b := b) hq
    rw [e'] at y1
    exact cd_R (cd_D_G hD hm (cd_OK_up hG ha hb)) hSx x1 hSy y1
theorem i_vc_forget {k : Nat} {u : SX} {v : SY} (I : i_Rel k u v) (hk : k + 5 ≤ 2560) (v1 : Int32) : wpX_forget (fun r u' => wpY_forget (fun r' v' => r' = r ∧ i_Rel (k + 5) u' v') v v1) u v1 := by
  obtain ⟨m, bw, sh, tp, L, c, G, al, an, aw, ae, e1, e2, e3, e4, ek, el, fm, vn, vl, vw, vc, vo, vt, g1, g2, g3, g4, gs, gk, rfl, rfl, hD, hSx, hX, hSy, hY⟩ := I
  obtain ⟨W, A, B, hT, hC1, hC2⟩ := id hX
  have hC : cd_XC m W A B aw ae := ⟨hC1, hC2⟩
  obtain ⟨W', A', B', hT', hC'⟩ := id hY
  have R : i_Rel (k + 5) (nI m, nI bw, nI sh, nI tp, al, an, aw, ae, e1, e2, e3, e4, ek, el) (nI m, nI bw, nI sh, nI tp, fm, vn, vl, vw, vc, vo, vt, g1, g2, g3, g4, gs, gk) := cd_R hD hSx hX hSy hY
  have hm := hD.1
  have hG := hD.2.2.2.2.1
  have bad : (v1 < 0 ∨ ∃ w : Nat, w < 2 ^ 31 ∧ v1 = nI w ∧ cd_wk w < 2) ∨ ∃ w : Nat, w < 1331 ∧ v1 = nI w ∧ 2 ≤ cd_wl w := by
    rcases cd_wc v1 with h | ⟨w, hw, rfl⟩
    · exact Or.inl (Or.inl h)
    · by_cases z : cd_wk w < 2
      · exact Or.inl (Or.inr ⟨w, hw, rfl, z⟩)
      · by_cases y : w < 1331
        · rw [cd_wk_t y] at z
          exact Or.inr ⟨w, y, rfl, by omega⟩
        · rw [cd_wk_f y] at z
          exact absurd z (by omega)
  rcases bad with h | ⟨w, hw, rfl, hl⟩
  · exact xq_forget1 h (yq_forget1 h ⟨rfl, R⟩)
  rcases Classical.em (G w = none) with z | z
  · exact xq_forget2 hT hC hm hw hl z (yq_forget2 hT' hC' hm hw hl z ⟨rfl, R⟩)
  · obtain ⟨p0, hp0, e0⟩ := hT.2.2.2 w z
    have h10 := cd_TB_10 hT hl p0 e0
    obtain ⟨n, rfl⟩ : ∃ n, m = n + 1 := ⟨m - 1, by omega⟩
    refine xq_forget3 hT hC (by omega) hw hl z (fun p hp e => yq_forget3 hT' hC' (by omega) hw hl z (fun q _ e' => cd_TB_10 hT' hl q e') (fun q hq e' => ⟨rfl, ?_⟩))
    have x1 := cd_XT_swap hT hC (cd_TB_10 hT hl p e) hp
    have y1 := cd_YT_shift hT' hC' (cd_TB_10 hT' hl q e') hq
    rw [e] at x1
    rw [e'] at y1
    exact cd_R (cd_D_G hD (by omega) (cd_OK_no hG hl)) hSx x1 hSy y1
theorem i_vc_tailor {k : Nat} {u : SX} {v : SY} (I : i_Rel k u v) (hk : k + 5 ≤ 2560) (v1 : Int32) (v2 : Int32) (v3 : Int32) : wpX_tailor (fun r u' => wpY_tailor (fun r' v' => r' = r ∧ i_Rel (k + 5) u' v') v v1 v2 v3) u v1 v2 v3 := by
  obtain ⟨m, bw, sh, tp, L, c, G, al, an, aw, ae, e1, e2, e3, e4, ek, el, fm, vn, vl, vw, vc, vo, vt, g1, g2, g3, g4, gs, gk, rfl, rfl, hD, hSx, hX, hSy, hY⟩ := I
  obtain ⟨W, A, B, hT, hC1, hC2⟩ := id hX
  have hC : cd_XC m W A B aw ae := ⟨hC1, hC2⟩
  obtain ⟨W', A', B', hT', hC'⟩ := id hY
  have R : i_Rel (k + 5) (nI m, nI bw, nI sh, nI tp, al, an, aw, ae, e1, e2, e3, e4, ek, el) (nI m, nI bw, nI sh, nI tp, fm, vn, vl, vw, vc, vo, vt, g1, g2, g3, g4, gs, gk) := cd_R hD hSx hX hSy hY
  have hm := hD.1
  have hG := hD.2.2.2.2.1
  rcases cd_in v1 (n := 10) (by decide) with h | ⟨a, ha, rfl⟩
  · exact xq_tailor1 (Or.inl h) (yq_tailor1 (Or.inl h) ⟨rfl, R⟩)
  rcases cd_in v2 (n := 10) (by decide) with h | ⟨b, hb, rfl⟩
  · exact xq_tailor1 (Or.inr (Or.inl ⟨h, a, ha, rfl⟩)) (yq_tailor1 (Or.inr (Or.inl ⟨h, a, ha, rfl⟩)) ⟨rfl, R⟩)
  by_cases hab : a = b
  · subst hab
    exact xq_tailor1 (Or.inr (Or.inr ⟨a, ha, rfl, rfl⟩)) (yq_tailor1 (Or.inr (Or.inr ⟨a, ha, rfl, rfl⟩)) ⟨rfl, R⟩)
  rcases cd_lvl v3 with h | ⟨l, h1, h3, rfl⟩
  · exact xq_tailor2 ha hb hab h (yq_tailor2 ha hb hab h ⟨rfl, R⟩)
  have eA := cd_TB_A hT hT' ha
  have hV := (cd_TB_V hT hG (p := a) (by omega)).1
  rcases Classical.em (cd_fit G (A a) l) with f | f
  · refine xq_tailor4 hT hC hm hG ha hb hab h1 h3 f (fun aw' ae' hX' => yq_tailor_go hT' hC' hm hG ha hb hab h1 h3 (fun f' vc' vo' vt' hY' => ?_) (fun f' => absurd f (by rw [← eA]; exact f')))
    rw [eA] at hY' ⊢
    exact ⟨rfl, cd_R (cd_D_G hD hm (cd_OK_tG hG h1 h3 hV f)) hSx hX' hSy hY'⟩
  · exact xq_tailor3 hT hC hm hG ha hb hab h1 h3 f (yq_tailor_go hT' hC' hm hG ha hb hab h1 h3 (fun f' => absurd f' (by rw [eA]; exact f)) (fun _ => ⟨rfl, R⟩))
theorem i_vc_settings {k : Nat} {u : SX} {v : SY} (I : i_Rel k u v) (hk : k + 5 ≤ 2560) (v1 : Int32) (v2 : Int32) (v3 : Int32) : wpX_settings (fun r u' => wpY_settings (fun r' v' => r' = r ∧ i_Rel (k + 5) u' v') v v1 v2 v3) u v1 v2 v3 := by
  obtain ⟨m, bw, sh, tp, L, c, G, al, an, aw, ae, e1, e2, e3, e4, ek, el, fm, vn, vl, vw, vc, vo, vt, g1, g2, g3, g4, gs, gk, rfl, rfl, hD, hSx, hX, hSy, hY⟩ := I
  rcases cd_in v1 (n := 2) (by decide) with h | ⟨s, hs, rfl⟩
  · exact xq_st1 h (yq_st1 h ⟨rfl, cd_R hD hSx hX hSy hY⟩)
  rcases cd_in v2 (n := 2) (by decide) with h | ⟨t, ht, rfl⟩
  · exact xq_st2 hs h (yq_st2 hs h ⟨rfl, cd_R hD hSx hX hSy hY⟩)
  rcases cd_in v3 (n := 31) (by decide) with h | ⟨r, hr, rfl⟩
  · exact xq_st3 hs ht h (yq_st3 hs ht h ⟨rfl, cd_R hD hSx hX hSy hY⟩)
  exact xq_st4 hs ht hr (yq_st4 hs ht hr ⟨rfl, cd_R (cd_D_set hD (by omega) (by omega) (by omega)) hSx hX hSy hY⟩)
theorem i_vc_elements {k : Nat} {u : SX} {v : SY} (I : i_Rel k u v) (hk : k + 5 ≤ 2560) (v1 : Int32) : wpX_elements (fun r u' => wpY_elements (fun r' v' => r' = r ∧ i_Rel (k + 5) u' v') v v1) u v1 := by
  obtain ⟨m, bw, sh, tp, L, c, G, al, an, aw, ae, e1, e2, e3, e4, ek, el, fm, vn, vl, vw, vc, vo, vt, g1, g2, g3, g4, gs, gk, rfl, rfl, hD, hSx, hX, hSy, hY⟩ := I
  obtain ⟨W, A, B, hT, hC1, hC2⟩ := id hX
  have hC : cd_XC m W A B aw ae := ⟨hC1, hC2⟩
  obtain ⟨W', A', B', hT', hC'⟩ := id hY
  rcases cd_in v1 (n := 10) (by decide) with h | ⟨s, hs, rfl⟩
  · exact xq_el1 h (yq_el1 h ⟨rfl, cd_R hD hSx hX hSy hY⟩)
  exact xq_el2 hD hSx hT hC hs (fun a1 a2 a3 => yq_el2 hD hSy hT' hC' hs (fun fm b1 b2 b3 b4 e => ⟨e, cd_R hD hSx hX hSy hY⟩))
theorem i_vc_compare {k : Nat} {u : SX} {v : SY} (I : i_Rel k u v) (hk : k + 5 ≤ 2560) (v1 : Int32) (v2 : Int32) (v3 : Int32) : wpX_compare (fun r u' => wpY_compare (fun r' v' => r' = r ∧ i_Rel (k + 5) u' v') v v1 v2 v3) u v1 v2 v3 := by
  obtain ⟨m, bw, sh, tp, L, c, G, al, an, aw, ae, e1, e2, e3, e4, ek, el, fm, vn, vl, vw, vc, vo, vt, g1, g2, g3, g4, gs, gk, rfl, rfl, hD, hSx, hX, hSy, hY⟩ := I
  obtain ⟨W, A, B, hT, hC1, hC2⟩ := id hX
  have hC : cd_XC m W A B aw ae := ⟨hC1, hC2⟩
  obtain ⟨W', A', B', hT', hC'⟩ := id hY
  rcases cd_in v1 (n := 10) (by decide) with h | ⟨i, hi, rfl⟩
  · exact xq_cmp1 (Or.inl h) (yq_cmp1 (Or.inl h) ⟨rfl, cd_R hD hSx hX hSy hY⟩)
  rcases cd_in v2 (n := 10) (by decide) with h | ⟨j, hj, rfl⟩
  · exact xq_cmp1 (Or.inr ⟨⟨i, hi, rfl⟩, h⟩) (yq_cmp1 (Or.inr ⟨⟨i, hi, rfl⟩, h⟩) ⟨rfl, cd_R hD hSx hX hSy hY⟩)
  rcases cd_str v3 with h | ⟨n, h1, h4, rfl⟩
  · exact xq_cmp2 hi hj h (yq_cmp2 hi hj h ⟨rfl, cd_R hD hSx hX hSy hY⟩)
  exact xq_cmp3 hD hSx hT hC hi hj h1 h4 (fun a1 a2 a3 a4 ak al' => yq_cmp3 hD hSy hT' hC' hi hj h1 h4 (fun fm b1 b2 b3 b4 bs bk => ⟨rfl, cd_R hD hSx hX hSy hY⟩))
theorem i_vc_keySize {k : Nat} {u : SX} {v : SY} (I : i_Rel k u v) (hk : k + 5 ≤ 2560) (v1 : Int32) (v2 : Int32) : wpX_keySize (fun r u' => wpY_keySize (fun r' v' => r' = r ∧ i_Rel (k + 5) u' v') v v1 v2) u v1 v2 := by
  obtain ⟨m, bw, sh, tp, L, c, G, al, an, aw, ae, e1, e2, e3, e4, ek, el, fm, vn, vl, vw, vc, vo, vt, g1, g2, g3, g4, gs, gk, rfl, rfl, hD, hSx, hX, hSy, hY⟩ := I
  obtain ⟨W, A, B, hT, hC1, hC2⟩ := id hX
  have hC : cd_XC m W A B aw ae := ⟨hC1, hC2⟩
  obtain ⟨W', A', B', hT', hC'⟩ := id hY
  rcases cd_in v1 (n := 10) (by decide) with h | ⟨i, hi, rfl⟩
  · exact xq_ks1 h (yq_ks1 h ⟨rfl, cd_R hD hSx hX hSy hY⟩)
  rcases cd_str v2 with h | ⟨n, h1, h4, rfl⟩
  · exact xq_ks2 hi h (yq_ks2 hi h ⟨rfl, cd_R hD hSx hX hSy hY⟩)
  exact xq_ks3 hD hSx hT hC hi h1 h4 (fun a1 a2 a3 a4 ak al' => yq_ks3 hD hSy hT' hC' hi h1 h4 (fun fm b1 b2 b3 b4 bs bk => ⟨rfl, cd_R hD hSx hX hSy hY⟩))
theorem i_vc_keyAt {k : Nat} {u : SX} {v : SY} (I : i_Rel k u v) (hk : k + 5 ≤ 2560) (v1 : Int32) (v2 : Int32) (v3 : Int32) : wpX_keyAt (fun r u' => wpY_keyAt (fun r' v' => r' = r ∧ i_Rel (k + 5) u' v') v v1 v2 v3) u v1 v2 v3 := by
  obtain ⟨m, bw, sh, tp, L, c, G, al, an, aw, ae, e1, e2, e3, e4, ek, el, fm, vn, vl, vw, vc, vo, vt, g1, g2, g3, g4, gs, gk, rfl, rfl, hD, hSx, hX, hSy, hY⟩ := I
  obtain ⟨W, A, B, hT, hC1, hC2⟩ := id hX
  have hC : cd_XC m W A B aw ae := ⟨hC1, hC2⟩
  obtain ⟨W', A', B', hT', hC'⟩ := id hY
  rcases cd_in v1 (n := 10) (by decide) with h | ⟨i, hi, rfl⟩
  · exact xq_ka1 h (yq_ka1 h ⟨rfl, cd_R hD hSx hX hSy hY⟩)
  rcases cd_str v2 with h | ⟨n, h1, h4, rfl⟩
  · exact xq_ka2 hi h (yq_ka2 hi h ⟨rfl, cd_R hD hSx hX hSy hY⟩)
  have h99 : (cd_K sh tp bw L c G n i).length ≤ 99 := cd_KE_99 (by have := hD.2.2.2.2.2.1 i hi; omega) h4
  rcases cd_in v3 (n := (cd_K sh tp bw L c G n i).length) (by omega) with h | ⟨p, hp, rfl⟩
  · exact xq_ka3 hD hSx hT hC hi h1 h4 h (fun a1 a2 a3 a4 ak al' => yq_ka3 hD hSy hT' hC' hi h1 h4 h (fun fm b1 b2 b3 b4 bs bk => ⟨rfl, cd_R hD hSx hX hSy hY⟩))
  exact xq_ka4 hD hSx hT hC hi h1 h4 hp (fun a1 a2 a3 a4 ak al' => yq_ka4 hD hSy hT' hC' hi h1 h4 hp (fun fm b1 b2 b3 b4 bs bk => ⟨rfl, cd_R hD hSx hX hSy hY⟩))
theorem i_vc_rank {k : Nat} {u : SX} {v : SY} (I : i_Rel k u v) (hk : k + 5 ≤ 2560) (v1 : Int32) (v2 : Int32) : wpX_rank (fun r u' => wpY_rank (fun r' v' => r' = r ∧ i_Rel (k + 5) u' v') v v1 v2) u v1 v2 := by
  obtain ⟨m, bw, sh, tp, L, c, G, al, an, aw, ae, e1, e2, e3, e4, ek, el, fm, vn, vl, vw, vc, vo, vt, g1, g2, g3, g4, gs, gk, rfl, rfl, hD, hSx, hX, hSy, hY⟩ := I
  obtain ⟨W, A, B, hT, hC1, hC2⟩ := id hX
  have hC : cd_XC m W A B aw ae := ⟨hC1, hC2⟩
  obtain ⟨W', A', B', hT', hC'⟩ := id hY
  rcases cd_in v1 (n := 10) (by decide) with h | ⟨i, hi, rfl⟩
  · exact xq_rk1 h (yq_rk1 h ⟨rfl, cd_R hD hSx hX hSy hY⟩)
  rcases cd_str v2 with h | ⟨n, h1, h4, rfl⟩
  · exact xq_rk2 hi h (yq_rk2 hi h ⟨rfl, cd_R hD hSx hX hSy hY⟩)
  exact xq_rk3 hD hSx hT hC hi h1 h4 (fun a1 a2 a3 a4 ak al' => yq_rk3 hD hSy hT' hC' hi h1 h4 (fun fm b1 b2 b3 b4 bs bk => ⟨rfl, cd_R hD hSx hX hSy hY⟩))
theorem i_vc_nth {k : Nat} {u : SX} {v : SY} (I : i_Rel k u v) (hk : k + 5 ≤ 2560) (v1 : Int32) (v2 : Int32) : wpX_nth (fun r u' => wpY_nth (fun r' v' => r' = r ∧ i_Rel (k + 5) u' v') v v1 v2) u v1 v2 := by
  obtain ⟨m, bw, sh, tp, L, c, G, al, an, aw, ae, e1, e2, e3, e4, ek, el, fm, vn, vl, vw, vc, vo, vt, g1, g2, g3, g4, gs, gk, rfl, rfl, hD, hSx, hX, hSy, hY⟩ := I
  obtain ⟨W, A, B, hT, hC1, hC2⟩ := id hX
  have hC : cd_XC m W A B aw ae := ⟨hC1, hC2⟩
  obtain ⟨W', A', B', hT', hC'⟩ := id hY
  rcases cd_str v2 with h | ⟨n, h1, h4, rfl⟩
  · exact xq_nt1 h (yq_nt1 h ⟨rfl, cd_R hD hSx hX hSy hY⟩)
  rcases cd_in v1 (n := 10) (by decide) with h | ⟨i, hi, rfl⟩
  · exact xq_nt2 h1 h4 h (yq_nt2 h1 h4 h ⟨rfl, cd_R hD hSx hX hSy hY⟩)
  exact xq_nt3 hD hSx hT hC hi h1 h4 (fun a1 a2 a3 a4 ak al' => yq_nt3 hD hSy hT' hC' hi h1 h4 (fun fm b1 b2 b3 b4 bs bk => ⟨rfl, cd_R hD hSx hX hSy hY⟩))
theorem i_vc_kinds {k : Nat} {u : SX} {v : SY} (I : i_Rel k u v) (hk : k + 5 ≤ 2560) (v1 : Int32) : wpX_kinds (fun r u' => wpY_kinds (fun r' v' => r' = r ∧ i_Rel (k + 5) u' v') v v1) u v1 := by
  obtain ⟨m, bw, sh, tp, L, c, G, al, an, aw, ae, e1, e2, e3, e4, ek, el, fm, vn, vl, vw, vc, vo, vt, g1, g2, g3, g4, gs, gk, rfl, rfl, hD, hSx, hX, hSy, hY⟩ := I
  obtain ⟨W, A, B, hT, hC1, hC2⟩ := id hX
  have hC : cd_XC m W A B aw ae := ⟨hC1, hC2⟩
  obtain ⟨W', A', B', hT', hC'⟩ := id hY
  rcases cd_str v1 with h | ⟨n, h1, h4, rfl⟩
  · exact xq_kn1 h (yq_kn1 h ⟨rfl, cd_R hD hSx hX hSy hY⟩)
  exact xq_kn2 hD hSx hT hC h1 h4 (fun a1 a2 a3 a4 ak al' => yq_kn2 hD hSy hT' hC' h1 h4 (fun fm b1 b2 b3 b4 bs bk => ⟨rfl, cd_R hD hSx hX hSy hY⟩))
theorem i_vc_find {k : Nat} {u : SX} {v : SY} (I : i_Rel k u v) (hk : k + 5 ≤ 2560) (v1 : Int32) (v2 : Int32) (v3 : Int32) (v4 : Int32) : wpX_find (fun r u' => wpY_find (fun r' v' => r' = r ∧ i_Rel (k + 5) u' v') v v1 v2 v3 v4) u v1 v2 v3 v4 := by
  obtain ⟨m, bw, sh, tp, L, c, G, al, an, aw, ae, e1, e2, e3, e4, ek, el, fm, vn, vl, vw, vc, vo, vt, g1, g2, g3, g4, gs, gk, rfl, rfl, hD, hSx, hX, hSy, hY⟩ := I
  obtain ⟨W, A, B, hT, hC1, hC2⟩ := id hX
  have hC : cd_XC m W A B aw ae := ⟨hC1, hC2⟩
  obtain ⟨W', A', B', hT', hC'⟩ := id hY
  rcases cd_in v1 (n := 10) (by decide) with h | ⟨i, hi, rfl⟩
  · exact xq_fn1 (Or.inl h) (yq_fn1 (Or.inl h) ⟨rfl, cd_R hD hSx hX hSy hY⟩)
  rcases cd_in v2 (n := 10) (by decide) with h | ⟨j, hj, rfl⟩
  · exact xq_fn1 (Or.inr ⟨⟨i, hi, rfl⟩, h⟩) (yq_fn1 (Or.inr ⟨⟨i, hi, rfl⟩, h⟩) ⟨rfl, cd_R hD hSx hX hSy hY⟩)
  rcases cd_str v3 with h | ⟨n, h1, h4, rfl⟩
  · exact xq_fn2 hi hj h (yq_fn2 hi hj h ⟨rfl, cd_R hD hSx hX hSy hY⟩)
  exact xq_fn3 hD hSx hT hC hi hj h1 h4 (fun a1 a2 a3 a4 ak al' => yq_fn3 hD hSy hT' hC' hi hj h1 h4 (fun fm b1 b2 b3 b4 bs bk => ⟨rfl, cd_R hD hSx hX hSy hY⟩))
