/-! the reference's tailor and its questions, as they are called -/
section
variable {m bw sh tp : Nat} {fm : Int32} {vn vl vw vc vo vt g1 g2 g3 g4 gs gk : Nat → Int32} {G : Nat → Option (Nat × Option Nat)} {W A : Nat → Nat} {B : Nat → Option Nat} {L c : Nat → Nat} {post : Int32 → SY → Prop}
theorem cd_mx_b (l : Nat) : cd_mx l ≤ 30 := by unfold cd_mx; split <;> (try split) <;> omega
theorem yq_tailor1 {x y z : Int32} (h : (x < 0 ∨ nI 10 ≤ x) ∨ ((y < 0 ∨ nI 10 ≤ y) ∧ ∃ s, s < 10 ∧ x = nI s) ∨ (∃ s, s < 10 ∧ x = nI s ∧ y = nI s)) (k : post (-1) (nI m, nI bw, nI sh, nI tp, fm, vn, vl, vw, vc, vo, vt, g1, g2, g3, g4, gs, gk)) : wpY_tailor post (nI m, nI bw, nI sh, nI tp, fm, vn, vl, vw, vc, vo, vt, g1, g2, g3, g4, gs, gk) x y z := by
  rcases h with h | ⟨h, s, hs, rfl⟩ | ⟨s, hs, rfl, rfl⟩
  · exact br_c (fun _ => k) (fun q => br_t (cd_hi (a := 9) (h.resolve_left q) (by decide) (by decide)) k)
  · exact br_f (nI_pos (by omega)) (br_f (nI_nlt (a := 9) (by omega) (by decide)) (br_c (fun _ => k) (fun q => br_t (cd_hi (a := 9) (h.resolve_left q) (by decide) (by decide)) k)))
  · exact br_f (nI_pos (by omega)) (br_f (nI_nlt (a := 9) (by omega) (by decide)) (br_f (nI_pos (by omega)) (br_f (nI_nlt (a := 9) (by omega) (by decide)) (br_t rfl k))))
theorem yq_tailor2 {a b : Nat} {z : Int32} (ha : a < 10) (hb : b < 10) (hab : ¬ a = b) (h : z < 1 ∨ 3 < z) (k : post (-2) (nI m, nI bw, nI sh, nI tp, fm, vn, vl, vw, vc, vo, vt, g1, g2, g3, g4, gs, gk)) : wpY_tailor post (nI m, nI bw, nI sh, nI tp, fm, vn, vl, vw, vc, vo, vt, g1, g2, g3, g4, gs, gk) (nI a) (nI b) z :=
  br_f (nI_pos (by omega)) (br_f (nI_nlt (a := 9) (by omega) (by decide)) (br_f (nI_pos (by omega)) (br_f (nI_nlt (a := 9) (by omega) (by decide)) (br_f (fun e => hab ((nI_eq (by omega) (by omega)).mp e))
    (br_c (fun _ => k) (fun q => br_f (Int32.not_le.mpr (h.resolve_left q)) k))))))
theorem yy_77 {q b l : Nat} (hT : cd_TB m G W A B) (hC : cd_YC m W A B vw vc vo vt) (hm : m ≤ 6) (hG : cd_OK G) (hq : q < 1024) (h1 : 1 ≤ l) (h3 : l ≤ 3)
    (K1 : cd_fit G q l → ∃ n, wY_tailor_209 post (nI b) (nI l) (nI q) (nI m) (nI bw) (nI sh) (nI tp) fm n 0 vn vl vw vc vo vt g1 g2 g3 g4 gs gk) (K0 : ¬ cd_fit G q l → post (-3) (nI m, nI bw, nI sh, nI tp, fm, vn, vl, vw, vc, vo, vt, g1, g2, g3, g4, gs, gk)) :
    ∀ d i x, i + d = 10 + m → ((x = 1 ∧ cd_wt q l < cd_mx l ∧ ∀ p, p < i → cd_fit1 q l (A p) ∧ ∀ e, B p = some e → cd_fit1 q l e) ∨ (x = 0 ∧ ¬ cd_fit G q l)) →
      wY_tailor_77 post (nI b) (nI l) (nI q) (nI (cd_mx l)) (nI m) (nI bw) (nI sh) (nI tp) fm vn vl vw vc vo vt g1 g2 g3 g4 gs gk (d + 1) x (nI i) := by
  have hmx := cd_mx_b l
  intro d
  induction d with
  | zero =>
    intro i x hi h
    rcases h with ⟨rfl, h0, hf⟩ | ⟨rfl, hf⟩
    · exact br_t (by rw [cd_10]; exact nI_le (by omega) (by omega)) (br_f cd_n10 (K1 ((cd_fit_TB hT).mpr ⟨h0, fun p hp => hf p (by omega)⟩)))
    · exact br_t (by rw [cd_10]; exact nI_le (by omega) (by omega)) (br_t rfl (K0 hf))
  | succ d ih =>
    intro i x hi h
    have vi : vp_in (nI i) 16 := vp_in_nI (by omega) (by omega)
    have ec : (nI i).toNatClampNeg = i := nI_clamp (by omega)
    have gb : ¬ (10 + nI m) ≤ nI i := by rw [cd_10]; exact nI_ge (by omega) (by omega)
    obtain ⟨c1, c2, c3, c4⟩ := hC i (by omega)
    obtain ⟨hV1, hV2⟩ := cd_TB_V hT hG (p := i) (by omega)
    have no : ¬ cd_fit G q l → wY_tailor_77 post (nI b) (nI l) (nI q) (nI (cd_mx l)) (nI m) (nI bw) (nI sh) (nI tp) fm vn vl vw vc vo vt g1 g2 g3 g4 gs gk (d + 1) 0 (nI (i + 1)) := fun hf => ih (i + 1) 0 (by omega) (Or.inr ⟨rfl, hf⟩)
    rcases h with ⟨rfl, h0, hf⟩ | ⟨rfl, hf⟩
    · have e1 : vo (nI i).toNatClampNeg = nI (A i) := by rw [ec]; exact c2
      have b1 := cd_wt_b (A i) l
      have b2 := cd_wt_le (l := l) hV1
      have hA1 := hV1.1
      have go2 : cd_fit1 q l (A i) → wY_tailor_133 post (wY_tailor_77 post (nI b) (nI l) (nI q) (nI (cd_mx l)) (nI m) (nI bw) (nI sh) (nI tp) fm vn vl vw vc vo vt g1 g2 g3 g4 gs gk (d + 1)) (nI b) (nI l) (nI q) (nI (cd_mx l)) (nI i) 1 (nI m) (nI bw) (nI sh) (nI tp) fm vn vl vw vc vo vt g1 g2 g3 g4 gs gk := fun hA => by
        have yes : (∀ e, B i = some e → cd_fit1 q l e) → wY_tailor_77 post (nI b) (nI l) (nI q) (nI (cd_mx l)) (nI m) (nI bw) (nI sh) (nI tp) fm vn vl vw vc vo vt g1 g2 g3 g4 gs gk (d + 1) 1 (nI (i + 1)) := fun hB => ih (i + 1) 1 (by omega) (Or.inl ⟨rfl, h0, fun p hp => by
          by_cases z : p = i
          · subst z; exact ⟨hA, hB⟩
          · exact hf p (by omega)⟩)
        refine br_f cd_n10 ⟨vi, ?_⟩
        cases z : B i with
        | none =>
          rw [z] at c3
          exact br_f (by rw [ec, c3]; decide) (nm_r (nI_1 i) (yes (fun e he => by rw [z] at he; cases he)))
        | some e =>
          rw [z] at c3
          have hVe := hV2 e z
          have b3 := cd_wt_b e l
          have b4 := cd_wt_le (l := l) hVe
          have hE1 := hVe.1
          have e2 : vt (nI i).toNatClampNeg = nI e := by rw [ec]; exact c4 e z
          refine br_t (by rw [ec, c3]; rfl) ⟨vi, yy_gb e2 hVe.1 hq h1 h3 (fun g => br_f cd_n10 ⟨vi, yy_wt e2 (by omega) h1 h3 (pk_eq (cd_wt e l) (cd_mx l) (fun t => nm_r (nI_1 i) (no (fun f => ?_))) (fun t => nm_r (nI_1 i) (yes (fun e' he' _ => ?_))))⟩) (fun g => br_t rfl (nm_r (nI_1 i) (yes (fun e' he' g' => ?_))))⟩
          · have := (((cd_fit_TB hT).mp f).2 i (by omega)).2 e z g
            omega
          · rw [z] at he'; cases he'; omega
          · rw [z] at he'; cases he'; exact absurd g' g
      refine br_f gb (br_f cd_n10 ⟨vi, yy_gb e1 hV1.1 hq h1 h3 (fun g => br_f cd_n10 ⟨vi, yy_wt e1 (by omega) h1 h3 (pk_eq (cd_wt (A i) l) (cd_mx l) (fun t => br_t rfl (nm_r (nI_1 i) (no (fun f => ?_)))) (fun t => go2 (fun _ => by omega)))⟩) (fun g => br_t rfl (go2 (fun g' => absurd g' g)))⟩)
      have := (((cd_fit_TB hT).mp f).2 i (by omega)).1 g
      omega
    · exact br_f gb (br_t rfl (br_t rfl (nm_r (nI_1 i) (no hf))))
theorem yy_209 {q b l : Nat} (hT : cd_TB m G W A B) (hC : cd_YC m W A B vw vc vo vt) (hm : m ≤ 6) (hG : cd_OK G) (hq : q < 1024) (hb : b < 10) (h1 : 1 ≤ l) (h3 : l ≤ 3)
    (K : ∀ vc' vo' vt', cd_YT m (cd_tG G q b l) vw vc' vo' vt' → post (nI (cd_bl q l)) (nI m, nI bw, nI sh, nI tp, fm, vn, vl, vw, vc', vo', vt', g1, g2, g3, g4, gs, gk)) :
    ∀ d i vo' vt', i + d = 10 + m → (∀ p, p < i → vo' p = nI (cd_gx q l (A p)) ∧ ∀ e, B p = some e → vt' p = nI (cd_gx q l e)) → (∀ p, i ≤ p → p < 10 + m → vo' p = nI (A p) ∧ ∀ e, B p = some e → vt' p = nI e) →
      wY_tailor_209 post (nI b) (nI l) (nI q) (nI m) (nI bw) (nI sh) (nI tp) fm (d + 1) (nI i) vn vl vw vc vo' vt' g1 g2 g3 g4 gs gk := by
  intro d
  induction d with
  | zero =>
    intro i vo' vt' hi hf hg
    have vb : vp_in (nI b) 16 := vp_in_nI (by omega) (by omega)
    have eb : (nI b).toNatClampNeg = b := nI_clamp (by omega)
    have k := K _ _ _ (cd_YT_tG hT hC hb (fun p hp => (hf p (by omega)).1) (fun p hp => (hf p (by omega)).2))
    have w1 := cd_wt_b q 1
    have fin : ∀ x : Int32, x = nI (cd_bl q l) → vp_in (nI b) 16 ∧ ∀ y : Nat → Int32, y = upd vo' (nI b).toNatClampNeg x → (vp_in (nI b) 16 ∧ post (y (nI b).toNatClampNeg) (nI m, nI bw, nI sh, nI tp, fm, vn, vl, vw, (upd vc b 1), y, vt', g1, g2, g3, g4, gs, gk)) := fun x hx => by
      subst hx
      refine ⟨vb, nm_r (e' := upd vo' b (nI (cd_bl q l))) (by rw [eb]) ⟨vb, ?_⟩⟩
      rw [eb, pk_us]
      exact k
    refine br_t (by rw [cd_10]; exact nI_le (by omega) (by omega)) (yy_wt (l := 1) rfl (by omega) (by decide) (by decide) (yy_wt (l := 2) rfl (by omega) (by decide) (by decide) (yy_wt (l := 3) rfl (by omega) (by decide) (by decide) ⟨vb, nm_r (e' := upd vc b 1) (by rw [eb]) ?_⟩)))
    rcases cd_l3 h1 h3 with rfl | rfl | rfl
    · refine br_t rfl (fin _ ?_)
      show nI (cd_wt q 1) + nI 1 + nI 32 + nI 256 = _
      rw [nI_add, nI_add, nI_add]
      rfl
    · refine br_f (by decide) (br_t rfl (fin _ ?_))
      show nI (cd_wt q 1) + nI 32 * (nI (cd_wt q 2) + nI 1) + nI 256 = _
      rw [nI_add, pk_mul, nI_add, nI_add]
      rfl
    · refine br_f (by decide) (br_f (by decide) (fin _ ?_))
      show nI (cd_wt q 1) + nI 32 * nI (cd_wt q 2) + nI 256 * (nI (cd_wt q 3) + nI 1) = _
      rw [nI_add, pk_mul, pk_mul, nI_add, nI_add]
      rfl
  | succ d ih =>
    intro i vo' vt' hi hf hg
    have vi : vp_in (nI i) 16 := vp_in_nI (by omega) (by omega)
    have ec : (nI i).toNatClampNeg = i := nI_clamp (by omega)
    obtain ⟨c1, c2, c3, c4⟩ := hC i (by omega)
    obtain ⟨hV1, hV2⟩ := cd_TB_V hT hG (p := i) (by omega)
    obtain ⟨o1, o2⟩ := hg i (by omega) (by omega)
    have e1 : vo' (nI i).toNatClampNeg = nI (A i) := by rw [ec]; exact o1
    have nx : ∀ t, (∀ e, B i = some e → t = nI (cd_gx q l e)) → wY_tailor_209 post (nI b) (nI l) (nI q) (nI m) (nI bw) (nI sh) (nI tp) fm (d + 1) (nI (i + 1)) vn vl vw vc (upd vo' i (nI (cd_gx q l (A i)))) (upd vt' i t) g1 g2 g3 g4 gs gk := fun t ht => by
      refine ih (i + 1) _ _ (by omega) (fun p hp => ?_) (fun p hp hp2 => ?_)
      · by_cases z : p = i
        · subst z; rw [pk_us, pk_us]; exact ⟨rfl, ht⟩
        · rw [pk_un z, pk_un z]; exact hf p (by omega)
      · rw [pk_un (by omega), pk_un (by omega)]; exact hg p (by omega) hp2
    have go : ∀ z0 : Int32, z0 = nI (cd_gx q l (A i)) → wY_tailor_267 post (wY_tailor_209 post (nI b) (nI l) (nI q) (nI m) (nI bw) (nI sh) (nI tp) fm (d + 1)) (nI b) (nI l) (nI q) (nI i) z0 (nI i) (nI m) (nI bw) (nI sh) (nI tp) fm vn vl vw vc vo' vt' g1 g2 g3 g4 gs gk := fun z0 hz => by
      subst hz
      refine ⟨vi, nm_r (e' := upd vo' i (nI (cd_gx q l (A i)))) (by rw [ec]) ⟨vi, ?_⟩⟩
      cases z : B i with
      | none =>
        rw [z] at c3
        exact br_f (by rw [ec, c3]; decide) ⟨vi, vi, nm_r (e' := upd vt' i (vt' i)) (by rw [ec]) (nm_r (nI_1 i) (nx _ (fun e he => by rw [z] at he; cases he)))⟩
      | some e =>
        rw [z] at c3
        have hVe := hV2 e z
        have e2 : vt' (nI i).toNatClampNeg = nI e := by rw [ec]; exact o2 e z
        refine br_t (by rw [ec, c3]; rfl) ⟨vi, yy_gb e2 hVe.1 hq h1 h3 (fun g => br_f cd_n10 ⟨vi, yy_un h1 h3 ⟨vi, nm_r (e' := upd vt' i (nI (cd_gx q l e))) ?_ (nm_r (nI_1 i) (nx _ (fun e' he' => ?_)))⟩⟩) (fun g => br_t rfl ⟨vi, vi, nm_r (e' := upd vt' i (vt' i)) (by rw [ec]) (nm_r (nI_1 i) (nx _ (fun e' he' => ?_)))⟩)⟩
        · rw [e2, ec, cd_gx_t g]
          exact congrArg (upd vt' i) (nI_add e (cd_un l))
        · rw [z] at he'; cases he'; rfl
        · rw [z] at he'; cases he'; rw [cd_gx_f g]; exact o2 e z
    refine br_f (by rw [cd_10]; exact nI_ge (by omega) (by omega)) ⟨vi, yy_gb e1 hV1.1 hq h1 h3 (fun g => br_f cd_n10 ⟨vi, yy_un h1 h3 (go _ ?_)⟩) (fun g => br_t rfl ⟨vi, go _ ?_⟩)⟩
    · rw [e1, cd_gx_t g]; exact nI_add (A i) (cd_un l)
    · rw [e1, cd_gx_f g]
theorem yq_tailor_go {a b l : Nat} (hT : cd_TB m G W A B) (hC : cd_YC m W A B vw vc vo vt) (hm : m ≤ 6) (hG : cd_OK G) (ha : a < 10) (hb : b < 10) (hab : ¬ a = b) (h1 : 1 ≤ l) (h3 : l ≤ 3)
    (K1 : cd_fit G (A a) l → ∀ vc' vo' vt', cd_YT m (cd_tG G (A a) b l) vw vc' vo' vt' → post (nI (cd_bl (A a) l)) (nI m, nI bw, nI sh, nI tp, fm, vn, vl, vw, vc', vo', vt', g1, g2, g3, g4, gs, gk)) (K0 : ¬ cd_fit G (A a) l → post (-3) (nI m, nI bw, nI sh, nI tp, fm, vn, vl, vw, vc, vo, vt, g1, g2, g3, g4, gs, gk)) : wpY_tailor post (nI m, nI bw, nI sh, nI tp, fm, vn, vl, vw, vc, vo, vt, g1, g2, g3, g4, gs, gk) (nI a) (nI b) (nI l) := by
  have hV := (cd_TB_V hT hG (p := a) (by omega)).1
  have hq := hV.1
  have hmx := cd_mx_b l
  have bw1 := cd_wt_b (A a) l
  have J : cd_fit G (A a) l → ∃ n, wY_tailor_209 post (nI b) (nI l) (nI (A a)) (nI m) (nI bw) (nI sh) (nI tp) fm n 0 vn vl vw vc vo vt g1 g2 g3 g4 gs gk := fun f =>
    ⟨10 + m + 1, yy_209 hT hC hm hG hq hb h1 h3 (K1 f) (10 + m) 0 vo vt (by omega) (fun p hp => absurd hp (Nat.not_lt_zero p)) (fun p _ hp => ⟨(hC p hp).2.1, (hC p hp).2.2.2⟩)⟩
  refine br_f (nI_pos (by omega)) (br_f (nI_nlt (a := 9) (by omega) (by decide)) (br_f (nI_pos (by omega)) (br_f (nI_nlt (a := 9) (by omega) (by decide)) (br_f (fun e => hab ((nI_eq (by omega) (by omega)).mp e)) (br_f (nI_nlt (b := 1) h1 (by omega)) (br_t (nI_le (b := 3) h3 (by decide)) ⟨vp_in_nI (by omega) (by omega), nm_r (e' := nI (A a)) (by rw [nI_clamp (by omega)]; exact (hC a (by omega)).2.1) ?_⟩))))))
  refine yy_mx h1 h3 ?_
  refine yy_wt rfl (by omega) h1 h3 ?_
  refine pk_le (cd_mx l) (cd_wt (A a) l) (fun z => ⟨10 + m + 1, yy_77 hT hC hm hG hq h1 h3 J K0 (10 + m) 0 0 (by omega) (Or.inr ⟨rfl, fun f => ?_⟩)⟩) (fun z => ⟨10 + m + 1, yy_77 hT hC hm hG hq h1 h3 J K0 (10 + m) 0 1 (by omega) (Or.inl ⟨rfl, z, fun p hp => absurd hp (Nat.not_lt_zero p)⟩)⟩)
  have := f.1
  omega
/-! the questions -/
theorem yq_el1 {x : Int32} (h : x < 0 ∨ nI 10 ≤ x) (k : post (-2) (nI m, nI bw, nI sh, nI tp, fm, vn, vl, vw, vc, vo, vt, g1, g2, g3, g4, gs, gk)) : wpY_elements post (nI m, nI bw, nI sh, nI tp, fm, vn, vl, vw, vc, vo, vt, g1, g2, g3, g4, gs, gk) x := by
  unfold wpY_elements
  exact yy_slot_f h (br_t rfl k)
theorem yq_el2 {s : Nat} (hD : cd_D m bw sh tp L c G) (hS : cd_ST L c vn vl) (hT : cd_TB m G W A B) (hC : cd_YC m W A B vw vc vo vt) (hs : s < 10)
    (K : ∀ fm a1 a2 a3 a4, fm = nI (cd_EL G c (12 * s) (12 * s + L s)).length → post fm (nI m, nI bw, nI sh, nI tp, fm, vn, vl, vw, vc, vo, vt, a1, a2, a3, a4, gs, gk)) : wpY_elements post (nI m, nI bw, nI sh, nI tp, fm, vn, vl, vw, vc, vo, vt, g1, g2, g3, g4, gs, gk) (nI s) := by
  unfold wpY_elements
  refine yy_slot_t hs (br_f cd_n10 ⟨vp_in_nI hs (by omega), ?_⟩)
  rw [cd_ST_l hS hs]
  exact yy_fe (p := 0) hT hC hD.1 hD.2.2.2.2.1 hD.2.2.1 hD.2.2.2.1 hs (Nat.zero_le _) (hD.2.2.2.2.2.1 s hs) (cd_CL_0 hD hS hs (Nat.le_refl _)) (fun a1 a2 a3 a4 _ => K _ a1 a2 a3 a4 rfl)
theorem yq_cmp1 {x y z : Int32} (h : (x < 0 ∨ nI 10 ≤ x) ∨ (∃ s, s < 10 ∧ x = nI s) ∧ (y < 0 ∨ nI 10 ≤ y)) (k : post (-2) (nI m, nI bw, nI sh, nI tp, fm, vn, vl, vw, vc, vo, vt, g1, g2, g3, g4, gs, gk)) : wpY_compare post (nI m, nI bw, nI sh, nI tp, fm, vn, vl, vw, vc, vo, vt, g1, g2, g3, g4, gs, gk) x y z := by
  unfold wpY_compare
  rcases h with h | ⟨⟨s, hs, rfl⟩, h⟩
  · exact yy_slot_f h (br_t rfl k)
  · refine yy_slot_t hs (br_f cd_n10 ?_)
    exact yy_slot_f h (br_t rfl k)
theorem yq_cmp2 {i j : Nat} {z : Int32} (hi : i < 10) (hj : j < 10) (h : z < 1 ∨ 4 < z) (k : post (-3) (nI m, nI bw, nI sh, nI tp, fm, vn, vl, vw, vc, vo, vt, g1, g2, g3, g4, gs, gk)) : wpY_compare post (nI m, nI bw, nI sh, nI tp, fm, vn, vl, vw, vc, vo, vt, g1, g2, g3, g4, gs, gk) (nI i) (nI j) z := by
  unfold wpY_compare
  refine yy_slot_t hi (br_f cd_n10 ?_)
  refine yy_slot_t hj (br_f cd_n10 ?_)
  exact yy_str_f h (br_t rfl k)
theorem yq_cmp3 {i j n : Nat} (hD : cd_D m bw sh tp L c G) (hS : cd_ST L c vn vl) (hT : cd_TB m G W A B) (hC : cd_YC m W A B vw vc vo vt) (hi : i < 10) (hj : j < 10) (hn1 : 1 ≤ n) (hn : n ≤ 4)
    (K : ∀ fm a1 a2 a3 a4 bs bk, post (cd_cm (cd_K sh tp bw L c G n i) (cd_K sh tp bw L c G n j)) (nI m, nI bw, nI sh, nI tp, fm, vn, vl, vw, vc, vo, vt, a1, a2, a3, a4, bs, bk)) : wpY_compare post (nI m, nI bw, nI sh, nI tp, fm, vn, vl, vw, vc, vo, vt, g1, g2, g3, g4, gs, gk) (nI i) (nI j) (nI n) := by
  unfold wpY_compare
  refine yy_slot_t hi (br_f cd_n10 ?_)
  refine yy_slot_t hj (br_f cd_n10 ?_)
  refine yy_str_t hn1 hn (br_f cd_n10 ?_)
  exact yy_cp hD hS hT hC hi hj hn K
theorem yq_ks1 {x z : Int32} (h : x < 0 ∨ nI 10 ≤ x) (k : post (-2) (nI m, nI bw, nI sh, nI tp, fm, vn, vl, vw, vc, vo, vt, g1, g2, g3, g4, gs, gk)) : wpY_keySize post (nI m, nI bw, nI sh, nI tp, fm, vn, vl, vw, vc, vo, vt, g1, g2, g3, g4, gs, gk) x z := by
  unfold wpY_keySize
  exact yy_slot_f h (br_t rfl k)
theorem yq_ks2 {i : Nat} {z : Int32} (hi : i < 10) (h : z < 1 ∨ 4 < z) (k : post (-3) (nI m, nI bw, nI sh, nI tp, fm, vn, vl, vw, vc, vo, vt, g1, g2, g3, g4, gs, gk)) : wpY_keySize post (nI m, nI bw, nI sh, nI tp, fm, vn, vl, vw, vc, vo, vt, g1, g2, g3, g4, gs, gk) (nI i) z := by
  unfold wpY_keySize
  refine yy_slot_t hi (br_f cd_n10 ?_)
  exact yy_str_f h (br_t rfl k)
theorem yq_ks3 {i n : Nat} (hD : cd_D m bw sh tp L c G) (hS : cd_ST L c vn vl) (hT : cd_TB m G W A B) (hC : cd_YC m W A B vw vc vo vt) (hi : i < 10) (hn1 : 1 ≤ n) (hn : n ≤ 4)
    (K : ∀ fm a1 a2 a3 a4 bs bk, post (nI (cd_K sh tp bw L c G n i).length) (nI m, nI bw, nI sh, nI tp, fm, vn, vl, vw, vc, vo, vt, a1, a2, a3, a4, bs, bk)) : wpY_keySize post (nI m, nI bw, nI sh, nI tp, fm, vn, vl, vw, vc, vo, vt, g1, g2, g3, g4, gs, gk) (nI i) (nI n) := by
  unfold wpY_keySize
  refine yy_slot_t hi (br_f cd_n10 ?_)
  refine yy_str_t hn1 hn (br_f cd_n10 ⟨vp_in_nI hi (by omega), ?_⟩)
  refine yy_ms (side := 0) (cd_ST_l hS hi) hD hS hT hC (by omega) hi hn (fun fm a1 a2 a3 a4 bs bk h1 _ => ?_)
  have := K fm a1 a2 a3 a4 bs bk
  rw [← h1.2.1] at this
  exact this
theorem yq_ka1 {x y z : Int32} (h : x < 0 ∨ nI 10 ≤ x) (k : post (-2) (nI m, nI bw, nI sh, nI tp, fm, vn, vl, vw, vc, vo, vt, g1, g2, g3, g4, gs, gk)) : wpY_keyAt post (nI m, nI bw, nI sh, nI tp, fm, vn, vl, vw, vc, vo, vt, g1, g2, g3, g4, gs, gk) x y z := by
  unfold wpY_keyAt
  exact yy_slot_f h (br_t rfl k)
theorem yq_ka2 {i : Nat} {y z : Int32} (hi : i < 10) (h : y < 1 ∨ 4 < y) (k : post (-3) (nI m, nI bw, nI sh, nI tp, fm, vn, vl, vw, vc, vo, vt, g1, g2, g3, g4, gs, gk)) : wpY_keyAt post (nI m, nI bw, nI sh, nI tp, fm, vn, vl, vw, vc, vo, vt, g1, g2, g3, g4, gs, gk) (nI i) y z := by
  unfold wpY_keyAt
  refine yy_slot_t hi (br_f cd_n10 ?_)
  exact yy_str_f h (br_t rfl k)
theorem yq_ka3 {i n : Nat} {z : Int32} (hD : cd_D m bw sh tp L c G) (hS : cd_ST L c vn vl) (hT : cd_TB m G W A B) (hC : cd_YC m W A B vw vc vo vt) (hi : i < 10) (hn1 : 1 ≤ n) (hn : n ≤ 4) (h : z < 0 ∨ nI (cd_K sh tp bw L c G n i).length ≤ z)
    (K : ∀ fm a1 a2 a3 a4 bs bk, post (-4) (nI m, nI bw, nI sh, nI tp, fm, vn, vl, vw, vc, vo, vt, a1, a2, a3, a4, bs, bk)) : wpY_keyAt post (nI m, nI bw, nI sh, nI tp, fm, vn, vl, vw, vc, vo, vt, g1, g2, g3, g4, gs, gk) (nI i) (nI n) z := by
  unfold wpY_keyAt
  refine yy_slot_t hi (br_f cd_n10 ?_)
  refine yy_str_t hn1 hn (br_f cd_n10 ⟨vp_in_nI hi (by omega), ?_⟩)
  refine yy_ms (side := 0) (cd_ST_l hS hi) hD hS hT hC (by omega) hi hn (fun fm a1 a2 a3 a4 bs bk h1 _ => br_c (fun _ => K fm a1 a2 a3 a4 bs bk) (fun q => br_t ?_ (K fm a1 a2 a3 a4 bs bk)))
  rw [h1.2.1]
  exact h.resolve_left q
theorem yq_ka4 {i n p : Nat} (hD : cd_D m bw sh tp L c G) (hS : cd_ST L c vn vl) (hT : cd_TB m G W A B) (hC : cd_YC m W A B vw vc vo vt) (hi : i < 10) (hn1 : 1 ≤ n) (hn : n ≤ 4) (h : p < (cd_K sh tp bw L c G n i).length)
    (K : ∀ fm a1 a2 a3 a4 bs bk, post (nI ((cd_K sh tp bw L c G n i).getD p 0)) (nI m, nI bw, nI sh, nI tp, fm, vn, vl, vw, vc, vo, vt, a1, a2, a3, a4, bs, bk)) : wpY_keyAt post (nI m, nI bw, nI sh, nI tp, fm, vn, vl, vw, vc, vo, vt, g1, g2, g3, g4, gs, gk) (nI i) (nI n) (nI p) := by
  unfold wpY_keyAt
  refine yy_slot_t hi (br_f cd_n10 ?_)
  refine yy_str_t hn1 hn (br_f cd_n10 ⟨vp_in_nI hi (by omega), ?_⟩)
  refine yy_ms (side := 0) (cd_ST_l hS hi) hD hS hT hC (by omega) hi hn (fun fm a1 a2 a3 a4 bs bk h1 _ => ?_)
  obtain ⟨q1, q2, q3, q4⟩ := h1
  refine br_f (nI_pos (by omega)) (br_f (by rw [q2]; exact nI_ge h (by omega)) ⟨vp_in_nI (by omega) (by omega), ?_⟩)
  have e := q1 p h
  rw [Nat.mul_zero, Nat.zero_add] at e
  rw [nI_clamp (by omega), e]
  exact K fm a1 a2 a3 a4 bs bk
theorem yq_rk1 {x z : Int32} (h : x < 0 ∨ nI 10 ≤ x) (k : post (-2) (nI m, nI bw, nI sh, nI tp, fm, vn, vl, vw, vc, vo, vt, g1, g2, g3, g4, gs, gk)) : wpY_rank post (nI m, nI bw, nI sh, nI tp, fm, vn, vl, vw, vc, vo, vt, g1, g2, g3, g4, gs, gk) x z := by
  unfold wpY_rank
  exact yy_slot_f h (br_t rfl k)
theorem yq_rk2 {i : Nat} {z : Int32} (hi : i < 10) (h : z < 1 ∨ 4 < z) (k : post (-3) (nI m, nI bw, nI sh, nI tp, fm, vn, vl, vw, vc, vo, vt, g1, g2, g3, g4, gs, gk)) : wpY_rank post (nI m, nI bw, nI sh, nI tp, fm, vn, vl, vw, vc, vo, vt, g1, g2, g3, g4, gs, gk) (nI i) z := by
  unfold wpY_rank
  refine yy_slot_t hi (br_f cd_n10 ?_)
  exact yy_str_f h (br_t rfl k)
theorem yq_rk3 {i n : Nat} (hD : cd_D m bw sh tp L c G) (hS : cd_ST L c vn vl) (hT : cd_TB m G W A B) (hC : cd_YC m W A B vw vc vo vt) (hi : i < 10) (hn1 : 1 ≤ n) (hn : n ≤ 4)
    (K : ∀ fm a1 a2 a3 a4 bs bk, post (nI (cd_rk sh tp bw L c G n i)) (nI m, nI bw, nI sh, nI tp, fm, vn, vl, vw, vc, vo, vt, a1, a2, a3, a4, bs, bk)) : wpY_rank post (nI m, nI bw, nI sh, nI tp, fm, vn, vl, vw, vc, vo, vt, g1, g2, g3, g4, gs, gk) (nI i) (nI n) := by
  unfold wpY_rank
  refine yy_slot_t hi (br_f cd_n10 ?_)
  refine yy_str_t hn1 hn (br_f cd_n10 ?_)
  exact ⟨11, yy_rk hD hS hT hC hi hn K 10 0 fm g1 g2 g3 g4 gs gk (by omega)⟩
theorem yq_nt1 {x z : Int32} (h : z < 1 ∨ 4 < z) (k : post (-3) (nI m, nI bw, nI sh, nI tp, fm, vn, vl, vw, vc, vo, vt, g1, g2, g3, g4, gs, gk)) : wpY_nth post (nI m, nI bw, nI sh, nI tp, fm, vn, vl, vw, vc, vo, vt, g1, g2, g3, g4, gs, gk) x z := by
  unfold wpY_nth
  exact yy_str_f h (br_t rfl k)
theorem yq_nt2 {x : Int32} {n : Nat} (hn1 : 1 ≤ n) (hn : n ≤ 4) (h : x < 0 ∨ nI 10 ≤ x) (k : post (-4) (nI m, nI bw, nI sh, nI tp, fm, vn, vl, vw, vc, vo, vt, g1, g2, g3, g4, gs, gk)) : wpY_nth post (nI m, nI bw, nI sh, nI tp, fm, vn, vl, vw, vc, vo, vt, g1, g2, g3, g4, gs, gk) x (nI n) := by
  unfold wpY_nth
  refine yy_str_t hn1 hn (br_f cd_n10 ?_)
  exact br_c (fun _ => k) (fun q => br_f (cd_nle (a := 9) (cd_hi (h.resolve_left q) (by decide) (by decide))) k)
theorem yq_nt3 {i n : Nat} (hD : cd_D m bw sh tp L c G) (hS : cd_ST L c vn vl) (hT : cd_TB m G W A B) (hC : cd_YC m W A B vw vc vo vt) (hi : i < 10) (hn1 : 1 ≤ n) (hn : n ≤ 4)
    (K : ∀ fm a1 a2 a3 a4 bs bk, post (nI (cd_nt sh tp bw L c G n i)) (nI m, nI bw, nI sh, nI tp, fm, vn, vl, vw, vc, vo, vt, a1, a2, a3, a4, bs, bk)) : wpY_nth post (nI m, nI bw, nI sh, nI tp, fm, vn, vl, vw, vc, vo, vt, g1, g2, g3, g4, gs, gk) (nI i) (nI n) := by
  unfold wpY_nth
  refine yy_str_t hn1 hn (br_f cd_n10 (br_f (nI_pos (by omega)) (br_t (nI_le (b := 9) (by omega) (by decide)) ?_)))
  exact ⟨11, yy_nt hD hS hT hC hi hn K 10 0 fm g1 g2 g3 g4 gs gk (by omega)⟩
theorem yq_kn1 {z : Int32} (h : z < 1 ∨ 4 < z) (k : post (-3) (nI m, nI bw, nI sh, nI tp, fm, vn, vl, vw, vc, vo, vt, g1, g2, g3, g4, gs, gk)) : wpY_kinds post (nI m, nI bw, nI sh, nI tp, fm, vn, vl, vw, vc, vo, vt, g1, g2, g3, g4, gs, gk) z := by
  unfold wpY_kinds
  exact yy_str_f h (br_t rfl k)
theorem yq_kn2 {n : Nat} (hD : cd_D m bw sh tp L c G) (hS : cd_ST L c vn vl) (hT : cd_TB m G W A B) (hC : cd_YC m W A B vw vc vo vt) (hn1 : 1 ≤ n) (hn : n ≤ 4)
    (K : ∀ fm a1 a2 a3 a4 bs bk, post (nI (cd_kn sh tp bw L c G n)) (nI m, nI bw, nI sh, nI tp, fm, vn, vl, vw, vc, vo, vt, a1, a2, a3, a4, bs, bk)) : wpY_kinds post (nI m, nI bw, nI sh, nI tp, fm, vn, vl, vw, vc, vo, vt, g1, g2, g3, g4, gs, gk) (nI n) := by
  unfold wpY_kinds
  refine yy_str_t hn1 hn (br_f cd_n10 ?_)
  exact ⟨11, yy_kn hD hS hT hC hn K 10 0 fm g1 g2 g3 g4 gs gk (by omega)⟩
theorem yq_fn1 {x y z t : Int32} (h : (x < 0 ∨ nI 10 ≤ x) ∨ (∃ s, s < 10 ∧ x = nI s) ∧ (y < 0 ∨ nI 10 ≤ y)) (k : post (-2) (nI m, nI bw, nI sh, nI tp, fm, vn, vl, vw, vc, vo, vt, g1, g2, g3, g4, gs, gk)) : wpY_find post (nI m, nI bw, nI sh, nI tp, fm, vn, vl, vw, vc, vo, vt, g1, g2, g3, g4, gs, gk) x y z t := by
  unfold wpY_find
  rcases h with h | ⟨⟨s, hs, rfl⟩, h⟩
  · exact yy_slot_f h (br_t rfl k)
  · refine yy_slot_t hs (br_f cd_n10 ?_)
    exact yy_slot_f h (br_t rfl k)
theorem yq_fn2 {i j : Nat} {z t : Int32} (hi : i < 10) (hj : j < 10) (h : z < 1 ∨ 4 < z) (k : post (-3) (nI m, nI bw, nI sh, nI tp, fm, vn, vl, vw, vc, vo, vt, g1, g2, g3, g4, gs, gk)) : wpY_find post (nI m, nI bw, nI sh, nI tp, fm, vn, vl, vw, vc, vo, vt, g1, g2, g3, g4, gs, gk) (nI i) (nI j) z t := by
  unfold wpY_find
  refine yy_slot_t hi (br_f cd_n10 ?_)
  refine yy_slot_t hj (br_f cd_n10 ?_)
  exact yy_str_f h (br_t rfl k)
theorem yq_fn3 {i j n : Nat} {x : Int32} (hD : cd_D m bw sh tp L c G) (hS : cd_ST L c vn vl) (hT : cd_TB m G W A B) (hC : cd_YC m W A B vw vc vo vt) (hi : i < 10) (hj : j < 10) (hn1 : 1 ≤ n) (hn : n ≤ 4)
    (K : ∀ fm a1 a2 a3 a4 bs bk, post (cd_fn sh tp bw L c G n i j x) (nI m, nI bw, nI sh, nI tp, fm, vn, vl, vw, vc, vo, vt, a1, a2, a3, a4, bs, bk)) : wpY_find post (nI m, nI bw, nI sh, nI tp, fm, vn, vl, vw, vc, vo, vt, g1, g2, g3, g4, gs, gk) (nI i) (nI j) (nI n) x := by
  unfold wpY_find
  refine yy_slot_t hi (br_f cd_n10 ?_)
  refine yy_slot_t hj (br_f cd_n10 ?_)
  refine yy_str_t hn1 hn (br_f cd_n10 ⟨vp_in_nI hj (by omega), ?_⟩)
  refine yy_ms (side := 1) (cd_ST_l hS hj) hD hS hT hC (by omega) hj hn (fun fm a1 a2 a3 a4 bs bk h1 _ => ?_)
  exact ⟨L i + 1 + 1, yy_fn hD hS hT hC hi hj hn (L i + 1) 0 fm a1 a2 a3 a4 bs bk (by omega) h1 K⟩
end
