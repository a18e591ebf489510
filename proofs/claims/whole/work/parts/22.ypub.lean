/-! the reference's public methods, case by case -/
section
variable {m bw sh tp : Nat} {fm : Int32} {vn vl vw vc vo vt g1 g2 g3 g4 gs gk : Nat → Int32} {G : Nat → Option (Nat × Option Nat)} {W A : Nat → Nat} {B : Nat → Option Nat} {L c : Nat → Nat} {post : Int32 → SY → Prop}
theorem yy_elb {post : Int32 → Prop} {x : Int32} (h : x < 0 ∨ ∃ e : Nat, e < 2 ^ 31 ∧ x = nI e ∧ ¬ cd_V e) (k : post 0) : wpY_isElement post (nI m, nI bw, nI sh, nI tp, fm, vn, vl, vw, vc, vo, vt, g1, g2, g3, g4, gs, gk) x := by
  rcases h with h | ⟨e, he, rfl, hv⟩
  · exact yy_el_f h k
  · exact yy_el he (fun v => absurd v hv) (fun _ => k)
theorem yy_elg {post : Int32 → Prop} {e : Nat} (h : cd_V e) (k : post 1) : wpY_isElement post (nI m, nI bw, nI sh, nI tp, fm, vn, vl, vw, vc, vo, vt, g1, g2, g3, g4, gs, gk) (nI e) := yy_el (by have := h.1; omega) (fun _ => k) (fun v => absurd h v)
theorem yq_put1 {x y : Int32} (h : x < 0 ∨ nI 10 ≤ x) (k : post (-2) (nI m, nI bw, nI sh, nI tp, fm, vn, vl, vw, vc, vo, vt, g1, g2, g3, g4, gs, gk)) : wpY_put post (nI m, nI bw, nI sh, nI tp, fm, vn, vl, vw, vc, vo, vt, g1, g2, g3, g4, gs, gk) x y := by
  unfold wpY_put
  exact yy_slot_f h (br_t rfl k)
theorem yq_put2 {s : Nat} {y : Int32} (hs : s < 10) (h : y < 0 ∨ nI 10 ≤ y) (k : post (-4) (nI m, nI bw, nI sh, nI tp, fm, vn, vl, vw, vc, vo, vt, g1, g2, g3, g4, gs, gk)) : wpY_put post (nI m, nI bw, nI sh, nI tp, fm, vn, vl, vw, vc, vo, vt, g1, g2, g3, g4, gs, gk) (nI s) y := by
  unfold wpY_put
  refine yy_slot_t hs (br_f cd_n10 ?_)
  exact br_c (fun _ => k) (fun q => br_f (cd_nle (a := 9) (cd_hi (h.resolve_left q) (by decide) (by decide))) k)
theorem yq_put3 {s x : Nat} (hS : cd_ST L c vn vl) (hs : s < 10) (hx : x < 10) (hl : L s ≤ 12) (h : ¬ L s < 12) (k : post (-5) (nI m, nI bw, nI sh, nI tp, fm, vn, vl, vw, vc, vo, vt, g1, g2, g3, g4, gs, gk)) : wpY_put post (nI m, nI bw, nI sh, nI tp, fm, vn, vl, vw, vc, vo, vt, g1, g2, g3, g4, gs, gk) (nI s) (nI x) := by
  unfold wpY_put
  refine yy_slot_t hs (br_f cd_n10 ?_)
  exact br_f (nI_pos (by omega)) (br_t (nI_le (b := 9) (by omega) (by decide)) ⟨vp_in_nI hs (by omega), br_t (by rw [cd_ST_l hS hs, show L s = 12 by omega]; rfl) k⟩)
theorem yq_put4 {s x : Nat} (hS : cd_ST L c vn vl) (hs : s < 10) (hx : x < 10) (h : L s < 12) (k : post (nI (L s + 1)) (nI m, nI bw, nI sh, nI tp, fm, (upd vn s (nI (L s + 1))), (upd vl (12 * s + L s) (nI x)), vw, vc, vo, vt, g1, g2, g3, g4, gs, gk)) : wpY_put post (nI m, nI bw, nI sh, nI tp, fm, vn, vl, vw, vc, vo, vt, g1, g2, g3, g4, gs, gk) (nI s) (nI x) := by
  unfold wpY_put
  refine yy_slot_t hs (br_f cd_n10 ?_)
  have vi : vp_in (nI s) 10 := vp_in_nI hs (by omega)
  have eL := cd_ST_l hS hs
  have ei : 12 * nI s + vn (nI s).toNatClampNeg = nI (12 * s + L s) := by rw [eL]; exact cd_j12 s (L s)
  refine br_f (nI_pos (by omega)) (br_t (nI_le (b := 9) (by omega) (by decide)) ⟨vi, pk_eq (L s) 12 (fun z => absurd z (by omega)) (fun _ => ⟨vi, pk_in (12 * s + L s) 120 (by omega) ei, nm_r (e' := upd vl (12 * s + L s) (nI x)) (by rw [pk_cl (12 * s + L s) ei]) ⟨vi, vi, nm_r (e' := upd vn s (nI (L s + 1))) (by rw [eL, cd_ns hs, nI_1]) ⟨vi, ?_⟩⟩⟩) eL⟩)
  rw [cd_ns hs, pk_us]
  exact k
theorem yq_take1 {x : Int32} (h : x < 0 ∨ nI 10 ≤ x) (k : post (-2) (nI m, nI bw, nI sh, nI tp, fm, vn, vl, vw, vc, vo, vt, g1, g2, g3, g4, gs, gk)) : wpY_take post (nI m, nI bw, nI sh, nI tp, fm, vn, vl, vw, vc, vo, vt, g1, g2, g3, g4, gs, gk) x := by
  unfold wpY_take
  exact yy_slot_f h (br_t rfl k)
theorem yq_take2 {s : Nat} (hS : cd_ST L c vn vl) (hs : s < 10) (h : L s = 0) (k : post (-4) (nI m, nI bw, nI sh, nI tp, fm, vn, vl, vw, vc, vo, vt, g1, g2, g3, g4, gs, gk)) : wpY_take post (nI m, nI bw, nI sh, nI tp, fm, vn, vl, vw, vc, vo, vt, g1, g2, g3, g4, gs, gk) (nI s) := by
  unfold wpY_take
  refine yy_slot_t hs (br_f cd_n10 ?_)
  exact ⟨vp_in_nI hs (by omega), br_t (by rw [cd_ST_l hS hs, h]; rfl) k⟩
theorem yq_take3 {s n : Nat} (hS : cd_ST L c vn vl) (hs : s < 10) (hl : L s ≤ 12) (h : L s = n + 1) (k : post (nI (c (12 * s + n))) (nI m, nI bw, nI sh, nI tp, fm, (upd vn s (nI n)), vl, vw, vc, vo, vt, g1, g2, g3, g4, gs, gk)) : wpY_take post (nI m, nI bw, nI sh, nI tp, fm, vn, vl, vw, vc, vo, vt, g1, g2, g3, g4, gs, gk) (nI s) := by
  unfold wpY_take
  refine yy_slot_t hs (br_f cd_n10 ?_)
  have vi : vp_in (nI s) 10 := vp_in_nI hs (by omega)
  have eL := cd_ST_l hS hs
  have ei : 12 * nI s + (upd vn s (nI n)) (nI s).toNatClampNeg = nI (12 * s + n) := by rw [cd_ns hs, pk_us]; exact cd_j12 s n
  refine ⟨vi, br_f (by rw [eL, h]; exact nI_ne0 (by omega) (by omega)) ⟨vi, vi, nm_r (e' := upd vn s (nI n)) (by rw [eL, cd_ns hs, h, nI_pred]) ⟨vi, pk_in (12 * s + n) 120 (by omega) ei, ?_⟩⟩⟩
  rw [pk_cl (12 * s + n) ei, hS.2 s n hs (by omega)]
  exact k
theorem yq_copy1 {x y : Int32} (h : x < 0 ∨ nI 10 ≤ x) (k : post (-2) (nI m, nI bw, nI sh, nI tp, fm, vn, vl, vw, vc, vo, vt, g1, g2, g3, g4, gs, gk)) : wpY_copy post (nI m, nI bw, nI sh, nI tp, fm, vn, vl, vw, vc, vo, vt, g1, g2, g3, g4, gs, gk) x y := by
  unfold wpY_copy
  exact yy_slot_f h (br_t rfl k)
theorem yq_copy2 {s : Nat} {y : Int32} (hs : s < 10) (h : y < 0 ∨ nI 10 ≤ y) (k : post (-2) (nI m, nI bw, nI sh, nI tp, fm, vn, vl, vw, vc, vo, vt, g1, g2, g3, g4, gs, gk)) : wpY_copy post (nI m, nI bw, nI sh, nI tp, fm, vn, vl, vw, vc, vo, vt, g1, g2, g3, g4, gs, gk) (nI s) y := by
  unfold wpY_copy
  refine yy_slot_t hs (br_f cd_n10 ?_)
  exact yy_slot_f h (br_t rfl k)
theorem yq_copy_l {s o : Nat} (hS : cd_ST L c vn vl) (hs : s < 10) (ho : o < 10) (hl : L o ≤ 12) (k : post (nI (L o)) (nI m, nI bw, nI sh, nI tp, fm, (upd vn s (nI (L o))), (cd_cp vl s o (L o)), vw, vc, vo, vt, g1, g2, g3, g4, gs, gk)) :
    ∀ d i, i + d = L o → wY_copy_33 post (nI s) (nI o) (nI m) (nI bw) (nI sh) (nI tp) fm (d + 1) (nI i) (upd vn s (nI (L o))) (cd_cp vl s o i) vw vc vo vt g1 g2 g3 g4 gs gk := by
  have eo : upd vn s (nI (L o)) (nI o).toNatClampNeg = nI (L o) := by
    rw [cd_ns ho]
    by_cases z : o = s
    · subst z; exact pk_us
    · rw [pk_un z]; exact hS.1 o ho
  intro d
  induction d with
  | zero =>
    intro i hi
    obtain rfl : i = L o := by omega
    refine ⟨vp_in_nI ho (by omega), br_t (by rw [eo]; exact nI_le (Nat.le_refl _) (by omega)) ⟨vp_in_nI hs (by omega), ?_⟩⟩
    rw [cd_ns hs, pk_us]
    exact k
  | succ d ih =>
    intro i hi
    refine ⟨vp_in_nI ho (by omega), br_f (by rw [eo]; exact nI_ge (by omega) (by omega)) ⟨pk_in (12 * o + i) 120 (by omega) (cd_j12 o i), pk_in (12 * s + i) 120 (by omega) (cd_j12 s i), nm_r (e' := cd_cp vl s o (i + 1)) ?_ (nm_r (nI_1 i) (ih (i + 1) (by omega)))⟩⟩
    rw [pk_cl (12 * s + i) (cd_j12 s i), pk_cl (12 * o + i) (cd_j12 o i)]
    exact cd_cp_s (by omega)
theorem yq_copy3 {s o : Nat} (hS : cd_ST L c vn vl) (hs : s < 10) (ho : o < 10) (hl : L o ≤ 12) (k : post (nI (L o)) (nI m, nI bw, nI sh, nI tp, fm, (upd vn s (nI (L o))), (cd_cp vl s o (L o)), vw, vc, vo, vt, g1, g2, g3, g4, gs, gk)) : wpY_copy post (nI m, nI bw, nI sh, nI tp, fm, vn, vl, vw, vc, vo, vt, g1, g2, g3, g4, gs, gk) (nI s) (nI o) := by
  unfold wpY_copy
  refine yy_slot_t hs (br_f cd_n10 ?_)
  refine yy_slot_t ho (br_f cd_n10 ⟨vp_in_nI ho (by omega), vp_in_nI hs (by omega), nm_r (e' := upd vn s (nI (L o))) (by rw [cd_ST_l hS ho, cd_ns hs]) ?_⟩)
  have := yq_copy_l (m := m) (bw := bw) (sh := sh) (tp := tp) (fm := fm) (vw := vw) (vc := vc) (vo := vo) (vt := vt) (g1 := g1) (g2 := g2) (g3 := g3) (g4 := g4) (gs := gs) (gk := gk) hS hs ho hl k (L o) 0 (by omega)
  rw [cd_cp_0] at this
  exact ⟨L o + 1, this⟩
/-! entry, forget -/
theorem yq_entry1 {x y z : Int32} (h : x < 0 ∨ ∃ w : Nat, w < 2 ^ 31 ∧ x = nI w ∧ cd_wk w = 0) (k : post (-1) (nI m, nI bw, nI sh, nI tp, fm, vn, vl, vw, vc, vo, vt, g1, g2, g3, g4, gs, gk)) : wpY_entry post (nI m, nI bw, nI sh, nI tp, fm, vn, vl, vw, vc, vo, vt, g1, g2, g3, g4, gs, gk) x y z := by
  unfold wpY_entry
  rcases h with h | ⟨w, hw, rfl, h0⟩
  · exact yy_len_n h (br_t rfl k)
  · exact yy_len hw (br_t (by rw [h0]; rfl) k)
theorem cd_wk_nz {w : Nat} (hw : w < 1331) (h : ¬ cd_wl w = 0) : ¬ nI (cd_wk w) = 0 := by
  rw [cd_wk_t hw]
  exact cd_wl_nz h
theorem yq_entry2 {w : Nat} {y z : Int32} (hw : w < 1331) (hl : ¬ cd_wl w = 0) (h : y < 0 ∨ ∃ e : Nat, e < 2 ^ 31 ∧ y = nI e ∧ ¬ cd_V e) (k : post (-2) (nI m, nI bw, nI sh, nI tp, fm, vn, vl, vw, vc, vo, vt, g1, g2, g3, g4, gs, gk)) : wpY_entry post (nI m, nI bw, nI sh, nI tp, fm, vn, vl, vw, vc, vo, vt, g1, g2, g3, g4, gs, gk) (nI w) y z := by
  unfold wpY_entry
  refine yy_len (by omega) (br_f (cd_wk_nz hw hl) ?_)
  exact yy_elb h (br_t rfl k)
theorem yq_entry3 {w a : Nat} {z : Int32} (hw : w < 1331) (hl : ¬ cd_wl w = 0) (ha : cd_V a) (h : z < 0 ∨ ∃ e : Nat, e < 2 ^ 31 ∧ z = nI e ∧ ¬ cd_V e) (h1 : ¬ z = -1) (k : post (-2) (nI m, nI bw, nI sh, nI tp, fm, vn, vl, vw, vc, vo, vt, g1, g2, g3, g4, gs, gk)) : wpY_entry post (nI m, nI bw, nI sh, nI tp, fm, vn, vl, vw, vc, vo, vt, g1, g2, g3, g4, gs, gk) (nI w) (nI a) z := by
  unfold wpY_entry
  refine yy_len (by omega) (br_f (cd_wk_nz hw hl) ?_)
  refine yy_elg ha (br_f cd_n10 ?_)
  exact yy_elb h (br_t rfl (br_f h1 k))
theorem yq_entry_go {w a : Nat} {b : Option Nat} (hw : w < 1331) (hl : ¬ cd_wl w = 0) (ha : cd_V a) (hb : ∀ e, b = some e → cd_V e) (k : wY_entry_34 post (nI w) (nI a) (cd_en b) (nI m) (nI bw) (nI sh) (nI tp) fm vn vl vw vc vo vt g1 g2 g3 g4 gs gk) : wpY_entry post (nI m, nI bw, nI sh, nI tp, fm, vn, vl, vw, vc, vo, vt, g1, g2, g3, g4, gs, gk) (nI w) (nI a) (cd_en b) := by
  unfold wpY_entry
  refine yy_len (by omega) (br_f (cd_wk_nz hw hl) ?_)
  refine yy_elg ha (br_f cd_n10 ?_)
  cases b with
  | none => exact yy_el_f (by decide) (br_t rfl (br_t rfl k))
  | some e => exact yy_elg (hb e rfl) (br_f cd_n10 k)
theorem yq_entry4 {w : Nat} {y z : Int32} (hT : cd_TB m G W A B) (hC : cd_YC m W A B vw vc vo vt) (hm : m = 6) (hw : w < 1331) (h : G w = none) (k : post (-3) (nI m, nI bw, nI sh, nI tp, fm, vn, vl, vw, vc, vo, vt, g1, g2, g3, g4, gs, gk)) : wY_entry_34 post (nI w) y z (nI m) (nI bw) (nI sh) (nI tp) fm vn vl vw vc vo vt g1 g2 g3 g4 gs gk := by
  unfold wY_entry_34
  refine yy_eo hT hC (by omega) (by omega) (fun p hp e => absurd h (by rw [← e]; exact cd_TB_some hT hp)) (fun _ => br_f (by decide) (br_t ?_ k))
  rw [hm]
  rfl
theorem yq_82 {p : Nat} {w y : Int32} {b : Option Nat} (hp : p < 16) (hb : ∀ e, b = some e → cd_V e) (k : post (nI m) (nI m, nI bw, nI sh, nI tp, fm, vn, vl, (upd vw p w), (upd vc p (cd_cn b)), (upd vo p y), (upd vt p (cd_en b)), g1, g2, g3, g4, gs, gk)) : wY_entry_82 post w y (cd_en b) (nI p) (nI m) (nI bw) (nI sh) (nI tp) fm vn vl vw vc vo vt g1 g2 g3 g4 gs gk := by
  have vi : vp_in (nI p) 16 := vp_in_nI hp (by omega)
  have ec : (nI p).toNatClampNeg = p := nI_clamp (by omega)
  refine ⟨vi, nm_r (e' := upd vw p w) (by rw [ec]) ?_⟩
  cases b with
  | none => exact br_t rfl ⟨vi, nm_r (e' := upd vc p 1) (by rw [ec]) ⟨vi, nm_r (e' := upd vo p y) (by rw [ec]) ⟨vi, nm_r (e' := upd vt p (cd_en none)) (by rw [ec]) k⟩⟩⟩
  | some e => exact br_f (cd_1 e (hb e rfl).1) ⟨vi, nm_r (e' := upd vc p 2) (by rw [ec]) ⟨vi, nm_r (e' := upd vo p y) (by rw [ec]) ⟨vi, nm_r (e' := upd vt p (cd_en (some e))) (by rw [ec]) k⟩⟩⟩
theorem yq_entry5 {w : Nat} {y : Int32} {b : Option Nat} (hT : cd_TB m G W A B) (hC : cd_YC m W A B vw vc vo vt) (hm : m < 6) (hw : w < 1331) (h : G w = none) (hb : ∀ e, b = some e → cd_V e) (k : post (nI (m + 1)) ((nI (m + 1)), nI bw, nI sh, nI tp, fm, vn, vl, (upd vw (10 + m) (nI w)), (upd vc (10 + m) (cd_cn b)), (upd vo (10 + m) y), (upd vt (10 + m) (cd_en b)), g1, g2, g3, g4, gs, gk)) : wY_entry_34 post (nI w) y (cd_en b) (nI m) (nI bw) (nI sh) (nI tp) fm vn vl vw vc vo vt g1 g2 g3 g4 gs gk := by
  unfold wY_entry_34
  exact yy_eo hT hC (by omega) (by omega) (fun p hp e => absurd h (by rw [← e]; exact cd_TB_some hT hp)) (fun _ => br_f (by decide) (pk_eq m 6 (fun z => absurd z (by omega)) (fun _ => br_f (by decide) (nm_r (cd_10 m) (nm_r (nI_1 m) (yq_82 (by omega) hb k))))))
theorem yq_entry6 {w : Nat} {y : Int32} {b : Option Nat} (hT : cd_TB m G W A B) (hC : cd_YC m W A B vw vc vo vt) (hm : m ≤ 6) (hw : w < 1331) (h : ¬ G w = none) (hb : ∀ e, b = some e → cd_V e) (k : ∀ p, p < 10 + m → W p = w → post (nI m) (nI m, nI bw, nI sh, nI tp, fm, vn, vl, (upd vw p (nI w)), (upd vc p (cd_cn b)), (upd vo p y), (upd vt p (cd_en b)), g1, g2, g3, g4, gs, gk)) : wY_entry_34 post (nI w) y (cd_en b) (nI m) (nI bw) (nI sh) (nI tp) fm vn vl vw vc vo vt g1 g2 g3 g4 gs gk := by
  unfold wY_entry_34
  exact yy_eo hT hC (by omega) (by omega) (fun p hp e => br_t (nI_pos' (by omega)) (br_t (nI_pos' (by omega)) (yq_82 (by omega) hb (k p hp e)))) (fun e => absurd e h)
theorem yq_forget1 {x : Int32} (h : x < 0 ∨ ∃ w : Nat, w < 2 ^ 31 ∧ x = nI w ∧ cd_wk w < 2) (k : post (-1) (nI m, nI bw, nI sh, nI tp, fm, vn, vl, vw, vc, vo, vt, g1, g2, g3, g4, gs, gk)) : wpY_forget post (nI m, nI bw, nI sh, nI tp, fm, vn, vl, vw, vc, vo, vt, g1, g2, g3, g4, gs, gk) x := by
  unfold wpY_forget
  rcases h with h | ⟨w, hw, rfl, h0⟩
  · exact yy_len_n h (br_f (by decide) k)
  · exact yy_len hw (br_f (nI_ge (b := 2) h0 (by decide)) k)
theorem yq_forget2 {w : Nat} (hT : cd_TB m G W A B) (hC : cd_YC m W A B vw vc vo vt) (hm : m ≤ 6) (hw : w < 1331) (hl : 2 ≤ cd_wl w) (h : G w = none) (k : post (-2) (nI m, nI bw, nI sh, nI tp, fm, vn, vl, vw, vc, vo, vt, g1, g2, g3, g4, gs, gk)) : wpY_forget post (nI m, nI bw, nI sh, nI tp, fm, vn, vl, vw, vc, vo, vt, g1, g2, g3, g4, gs, gk) (nI w) := by
  unfold wpY_forget
  have := cd_wl_le w
  refine yy_len (by omega) (br_t (by rw [cd_wk_t hw]; exact nI_le (a := 2) hl (by omega)) ?_)
  exact yy_eo hT hC (by omega) (by omega) (fun p hp e => absurd h (by rw [← e]; exact cd_TB_some hT hp)) (fun _ => br_f (by decide) k)
theorem yq_forget_l {p : Nat} (hm : m < 6) (h10 : 10 ≤ p)
    (k : post (nI m) (nI m, nI bw, nI sh, nI tp, fm, vn, vl, (cd_sf vw p (10 + m)), (cd_sf vc p (10 + m)), (cd_sf vo p (10 + m)), (cd_sf vt p (10 + m)), g1, g2, g3, g4, gs, gk)) :
    ∀ d i, p ≤ i → i + d = 10 + m → wY_forget_36 post (nI m) (nI bw) (nI sh) (nI tp) fm (d + 1) (nI i) vn vl (cd_sf vw p i) (cd_sf vc p i) (cd_sf vo p i) (cd_sf vt p i) g1 g2 g3 g4 gs gk := by
  intro d
  induction d with
  | zero =>
    intro i hpi hi
    obtain rfl : i = 10 + m := by omega
    exact br_t (by rw [cd_10]; exact nI_le (Nat.le_refl _) (by omega)) k
  | succ d ih =>
    intro i hpi hi
    have v1 : vp_in (nI i + 1) 16 := pk_in (i + 1) 16 (by omega) (nI_1 i)
    have v0 : vp_in (nI i) 16 := vp_in_nI (by omega) (by omega)
    have c0 : (nI i).toNatClampNeg = i := nI_clamp (by omega)
    have c1 : (nI i + 1).toNatClampNeg = i + 1 := pk_cl (i + 1) (nI_1 i)
    exact br_f (by rw [cd_10]; exact nI_ge (by omega) (by omega)) ⟨v1, v0, nm_r (e' := cd_sf vw p (i + 1)) (by rw [c0, c1]; exact cd_sf_s hpi) ⟨v1, v0, nm_r (e' := cd_sf vc p (i + 1)) (by rw [c0, c1]; exact cd_sf_s hpi) ⟨v1, v0, nm_r (e' := cd_sf vo p (i + 1)) (by rw [c0, c1]; exact cd_sf_s hpi)
      ⟨v1, v0, nm_r (e' := cd_sf vt p (i + 1)) (by rw [c0, c1]; exact cd_sf_s hpi) (nm_r (nI_1 i) (ih (i + 1) (by omega) (by omega)))⟩⟩⟩⟩
theorem yq_forget3 {w : Nat} (hT : cd_TB (m + 1) G W A B) (hC : cd_YC (m + 1) W A B vw vc vo vt) (hm : m < 6) (hw : w < 1331) (hl : 2 ≤ cd_wl w) (h : ¬ G w = none) (hp10 : ∀ p, p < 10 + (m + 1) → W p = w → 10 ≤ p)
    (k : ∀ p, p < 10 + (m + 1) → W p = w → post (nI m) (nI m, nI bw, nI sh, nI tp, fm, vn, vl, (cd_sf vw p (10 + m)), (cd_sf vc p (10 + m)), (cd_sf vo p (10 + m)), (cd_sf vt p (10 + m)), g1, g2, g3, g4, gs, gk)) :
    wpY_forget post ((nI (m + 1)), nI bw, nI sh, nI tp, fm, vn, vl, vw, vc, vo, vt, g1, g2, g3, g4, gs, gk) (nI w) := by
  unfold wpY_forget
  have := cd_wl_le w
  refine yy_len (by omega) (br_t (by rw [cd_wk_t hw]; exact nI_le (a := 2) hl (by omega)) ?_)
  refine yy_eo hT hC (by omega) (by omega) (fun p hp e => br_t (nI_pos' (by omega)) (nm_r (nI_pred m) ?_)) (fun e => absurd e h)
  have go := yq_forget_l (bw := bw) (sh := sh) (tp := tp) (fm := fm) (vn := vn) (vl := vl) (g1 := g1) (g2 := g2) (g3 := g3) (g4 := g4) (gs := gs) (gk := gk) hm (hp10 p hp e) (k p hp e) (10 + m - p) p (Nat.le_refl _) (by omega)
  rw [cd_sf_0, cd_sf_0, cd_sf_0, cd_sf_0] at go
  exact ⟨_, go⟩
end
