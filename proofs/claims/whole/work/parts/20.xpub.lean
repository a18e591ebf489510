/-! the component's public methods, case by case -/
theorem cd_ns {s : Nat} (h : s < 10) : (nI s).toNatClampNeg = s := nI_clamp (by omega)
theorem cd_ST_l {L c : Nat → Nat} {an al : Nat → Int32} (h : cd_ST L c an al) {s : Nat} (hs : s < 10) : an (nI s).toNatClampNeg = nI (L s) := by
  rw [cd_ns hs]
  exact h.1 s hs
theorem xx_wlk {post : Int32 → Prop} {w : Nat} (hw : w < 2 ^ 31) (k : post (nI (cd_wk w))) : wpX_wordLength post (nI w) := by
  by_cases z : w < 1331
  · rw [cd_wk_t z] at k
    exact xx_wl_t z k
  · rw [cd_wk_f z] at k
    exact xx_wl_f (Or.inr (nI_le (by omega) hw)) k
theorem cd_wc (x : Int32) : x < 0 ∨ ∃ w : Nat, w < 2 ^ 31 ∧ x = nI w := by
  by_cases h : x < 0
  · exact Or.inl h
  · exact Or.inr (nI_of h)
theorem xx_elb {post : Int32 → Prop} {x : Int32} (h : x < 0 ∨ ∃ e : Nat, e < 2 ^ 31 ∧ x = nI e ∧ ¬ cd_V e) (k : post 0) : wpX_isElement post x := by
  rcases h with h | ⟨e, he, rfl, hv⟩
  · exact xx_el_f h k
  · exact xx_el he (fun v => absurd v hv) (fun _ => k)
theorem xx_elg {post : Int32 → Prop} {e : Nat} (h : cd_V e) (k : post 1) : wpX_isElement post (nI e) := xx_el (by have := h.1; omega) (fun _ => k) (fun v => absurd h v)
theorem cd_ec (x : Int32) : (x < 0 ∨ ∃ e : Nat, e < 2 ^ 31 ∧ x = nI e ∧ ¬ cd_V e) ∨ ∃ e : Nat, cd_V e ∧ x = nI e := by
  rcases cd_wc x with h | ⟨e, he, rfl⟩
  · exact Or.inl (Or.inl h)
  · rcases Classical.em (cd_V e) with v | v
    · exact Or.inr ⟨e, v, rfl⟩
    · exact Or.inl (Or.inr ⟨e, he, rfl, v⟩)
section
variable {m bw sh tp : Nat} {al an aw ae e1 e2 e3 e4 ek el : Nat → Int32} {G : Nat → Option (Nat × Option Nat)} {W A : Nat → Nat} {B : Nat → Option Nat} {L c : Nat → Nat} {post : Int32 → SX → Prop}
theorem xq_put1 {x y : Int32} (h : x < 0 ∨ nI 10 ≤ x) (k : post (-2) (nI m, nI bw, nI sh, nI tp, al, an, aw, ae, e1, e2, e3, e4, ek, el)) : wpX_put post (nI m, nI bw, nI sh, nI tp, al, an, aw, ae, e1, e2, e3, e4, ek, el) x y := by
  unfold wpX_put
  exact xx_slot_f h (br_t rfl k)
theorem xq_put2 {s : Nat} {y : Int32} (hs : s < 10) (h : y < 0 ∨ nI 10 ≤ y) (k : post (-4) (nI m, nI bw, nI sh, nI tp, al, an, aw, ae, e1, e2, e3, e4, ek, el)) : wpX_put post (nI m, nI bw, nI sh, nI tp, al, an, aw, ae, e1, e2, e3, e4, ek, el) (nI s) y := by
  unfold wpX_put
  refine xx_slot_t hs (br_f cd_n10 ?_)
  exact xx_let_f h (br_t rfl k)
theorem xq_put3 {s x : Nat} (hS : cd_ST L c an al) (hs : s < 10) (hx : x < 10) (hl : L s ≤ 12) (h : ¬ L s < 12) (k : post (-5) (nI m, nI bw, nI sh, nI tp, al, an, aw, ae, e1, e2, e3, e4, ek, el)) : wpX_put post (nI m, nI bw, nI sh, nI tp, al, an, aw, ae, e1, e2, e3, e4, ek, el) (nI s) (nI x) := by
  unfold wpX_put
  refine xx_slot_t hs (br_f cd_n10 ?_)
  refine xx_let_t hx (br_f cd_n10 ?_)
  exact ⟨vp_in_nI hs (by omega), pk_lt (L s) 12 (fun z => absurd z h) (fun _ => k) (cd_ST_l hS hs)⟩
theorem xq_put4 {s x : Nat} (hS : cd_ST L c an al) (hs : s < 10) (hx : x < 10) (h : L s < 12) (k : post (nI (L s + 1)) (nI m, nI bw, nI sh, nI tp, (upd al (12 * s + L s) (nI x)), (upd an s (nI (L s + 1))), aw, ae, e1, e2, e3, e4, ek, el)) : wpX_put post (nI m, nI bw, nI sh, nI tp, al, an, aw, ae, e1, e2, e3, e4, ek, el) (nI s) (nI x) := by
  unfold wpX_put
  refine xx_slot_t hs (br_f cd_n10 ?_)
  refine xx_let_t hx (br_f cd_n10 ?_)
  have vi : vp_in (nI s) 10 := vp_in_nI hs (by omega)
  have eL := cd_ST_l hS hs
  have ei : nI s * 12 + an (nI s).toNatClampNeg = nI (12 * s + L s) := by rw [eL]; exact cd_i12 s (L s)
  refine ⟨vi, br_t (by rw [eL]; exact nI_lt (b := 12) h (by decide)) ⟨vi, pk_in (12 * s + L s) 120 (by omega) ei, nm_r (e' := upd al (12 * s + L s) (nI x)) (by rw [pk_cl (12 * s + L s) ei]) ⟨vi, vi, nm_r (e' := upd an s (nI (L s + 1))) (by rw [eL, cd_ns hs, nI_1]) ⟨vi, ?_⟩⟩⟩⟩
  rw [cd_ns hs, pk_us]
  exact k
theorem xq_take1 {x : Int32} (h : x < 0 ∨ nI 10 ≤ x) (k : post (-2) (nI m, nI bw, nI sh, nI tp, al, an, aw, ae, e1, e2, e3, e4, ek, el)) : wpX_take post (nI m, nI bw, nI sh, nI tp, al, an, aw, ae, e1, e2, e3, e4, ek, el) x := by
  unfold wpX_take
  exact xx_slot_f h (br_t rfl k)
theorem xq_take2 {s : Nat} (hS : cd_ST L c an al) (hs : s < 10) (h : L s = 0) (k : post (-4) (nI m, nI bw, nI sh, nI tp, al, an, aw, ae, e1, e2, e3, e4, ek, el)) : wpX_take post (nI m, nI bw, nI sh, nI tp, al, an, aw, ae, e1, e2, e3, e4, ek, el) (nI s) := by
  unfold wpX_take
  refine xx_slot_t hs (br_f cd_n10 ?_)
  exact ⟨vp_in_nI hs (by omega), br_f (by rw [cd_ST_l hS hs, h]; decide) k⟩
theorem xq_take3 {s n : Nat} (hS : cd_ST L c an al) (hs : s < 10) (hl : L s ≤ 12) (h : L s = n + 1) (k : post (nI (c (12 * s + n))) (nI m, nI bw, nI sh, nI tp, al, (upd an s (nI n)), aw, ae, e1, e2, e3, e4, ek, el)) : wpX_take post (nI m, nI bw, nI sh, nI tp, al, an, aw, ae, e1, e2, e3, e4, ek, el) (nI s) := by
  unfold wpX_take
  refine xx_slot_t hs (br_f cd_n10 ?_)
  have vi : vp_in (nI s) 10 := vp_in_nI hs (by omega)
  have eL := cd_ST_l hS hs
  have ei : nI s * 12 + (upd an s (nI n)) (nI s).toNatClampNeg = nI (12 * s + n) := by rw [cd_ns hs, pk_us]; exact cd_i12 s n
  refine ⟨vi, br_t (by rw [eL, h]; exact nI_lt (a := 0) (by omega) (by omega)) ⟨vi, vi, nm_r (e' := upd an s (nI n)) (by rw [eL, cd_ns hs, h, nI_pred]) ⟨vi, pk_in (12 * s + n) 120 (by omega) ei, ?_⟩⟩⟩
  rw [pk_cl (12 * s + n) ei, hS.2 s n hs (by omega)]
  exact k
theorem xq_copy1 {x y : Int32} (h : x < 0 ∨ nI 10 ≤ x) (k : post (-2) (nI m, nI bw, nI sh, nI tp, al, an, aw, ae, e1, e2, e3, e4, ek, el)) : wpX_copy post (nI m, nI bw, nI sh, nI tp, al, an, aw, ae, e1, e2, e3, e4, ek, el) x y := by
  unfold wpX_copy
  exact xx_slot_f h (br_t rfl k)
theorem xq_copy2 {s : Nat} {y : Int32} (hs : s < 10) (h : y < 0 ∨ nI 10 ≤ y) (k : post (-2) (nI m, nI bw, nI sh, nI tp, al, an, aw, ae, e1, e2, e3, e4, ek, el)) : wpX_copy post (nI m, nI bw, nI sh, nI tp, al, an, aw, ae, e1, e2, e3, e4, ek, el) (nI s) y := by
  unfold wpX_copy
  refine xx_slot_t hs (br_f cd_n10 ?_)
  exact xx_slot_f h (br_t rfl k)
theorem xq_copy_l {s o : Nat} (hS : cd_ST L c an al) (hs : s < 10) (ho : o < 10) (k : post (nI (L o)) (nI m, nI bw, nI sh, nI tp, (cd_cp al s o 12), (upd an s (nI (L o))), aw, ae, e1, e2, e3, e4, ek, el)) :
    ∀ d i, i + d = 12 → wX_copy_19 post (nI s) (nI o) (nI m) (nI bw) (nI sh) (nI tp) (d + 1) (nI i) (cd_cp al s o i) an aw ae e1 e2 e3 e4 ek el := by
  intro d
  induction d with
  | zero =>
    intro i hi
    obtain rfl : i = 12 := by omega
    refine br_t (by decide) ⟨vp_in_nI ho (by omega), vp_in_nI hs (by omega), nm_r (e' := upd an s (nI (L o))) (by rw [cd_ST_l hS ho, cd_ns hs]) ⟨vp_in_nI hs (by omega), ?_⟩⟩
    rw [cd_ns hs, pk_us]
    exact k
  | succ d ih =>
    intro i hi
    refine br_f (nI_ge (b := 12) (by omega) (by decide)) ⟨pk_in (12 * o + i) 120 (by omega) (cd_i12 o i), pk_in (12 * s + i) 120 (by omega) (cd_i12 s i), nm_r (e' := cd_cp al s o (i + 1)) ?_ (nm_r (nI_1 i) (ih (i + 1) (by omega)))⟩
    rw [pk_cl (12 * s + i) (cd_i12 s i), pk_cl (12 * o + i) (cd_i12 o i)]
    exact cd_cp_s (by omega)
theorem xq_copy3 {s o : Nat} (hS : cd_ST L c an al) (hs : s < 10) (ho : o < 10) (k : post (nI (L o)) (nI m, nI bw, nI sh, nI tp, (cd_cp al s o 12), (upd an s (nI (L o))), aw, ae, e1, e2, e3, e4, ek, el)) : wpX_copy post (nI m, nI bw, nI sh, nI tp, al, an, aw, ae, e1, e2, e3, e4, ek, el) (nI s) (nI o) := by
  unfold wpX_copy
  refine xx_slot_t hs (br_f cd_n10 ?_)
  refine xx_slot_t ho (br_f cd_n10 ?_)
  have := xq_copy_l (m := m) (bw := bw) (sh := sh) (tp := tp) (aw := aw) (ae := ae) (e1 := e1) (e2 := e2) (e3 := e3) (e4 := e4) (ek := ek) (el := el) hS hs ho k 12 0 (by omega)
  rw [cd_cp_0] at this
  exact ⟨13, this⟩
/-! entry, forget -/
theorem xq_entry1 {x y z : Int32} (h : x < 0 ∨ ∃ w : Nat, w < 2 ^ 31 ∧ x = nI w ∧ cd_wk w = 0) (k : post (-1) (nI m, nI bw, nI sh, nI tp, al, an, aw, ae, e1, e2, e3, e4, ek, el)) : wpX_entry post (nI m, nI bw, nI sh, nI tp, al, an, aw, ae, e1, e2, e3, e4, ek, el) x y z := by
  unfold wpX_entry
  rcases h with h | ⟨w, hw, rfl, h0⟩
  · exact xx_wl_f (Or.inl h) (br_t rfl k)
  · exact xx_wlk hw (br_t (by rw [h0]; rfl) k)
theorem cd_wl_nz {w : Nat} (h : ¬ cd_wl w = 0) : ¬ nI (cd_wl w) = 0 := nI_ne0 (by omega) (by have := cd_wl_le w; omega)
theorem xq_entry2 {w : Nat} {y z : Int32} (hw : w < 1331) (hl : ¬ cd_wl w = 0) (h : y < 0 ∨ ∃ e : Nat, e < 2 ^ 31 ∧ y = nI e ∧ ¬ cd_V e) (k : post (-2) (nI m, nI bw, nI sh, nI tp, al, an, aw, ae, e1, e2, e3, e4, ek, el)) : wpX_entry post (nI m, nI bw, nI sh, nI tp, al, an, aw, ae, e1, e2, e3, e4, ek, el) (nI w) y z := by
  unfold wpX_entry
  refine xx_wl_t hw (br_f (cd_wl_nz hl) ?_)
  exact xx_elb h (br_t rfl k)
theorem xq_entry3 {w a : Nat} {z : Int32} (hw : w < 1331) (hl : ¬ cd_wl w = 0) (ha : cd_V a) (h : z < 0 ∨ ∃ e : Nat, e < 2 ^ 31 ∧ z = nI e ∧ ¬ cd_V e) (h1 : ¬ z = -1) (k : post (-2) (nI m, nI bw, nI sh, nI tp, al, an, aw, ae, e1, e2, e3, e4, ek, el)) : wpX_entry post (nI m, nI bw, nI sh, nI tp, al, an, aw, ae, e1, e2, e3, e4, ek, el) (nI w) (nI a) z := by
  unfold wpX_entry
  refine xx_wl_t hw (br_f (cd_wl_nz hl) ?_)
  refine xx_elg ha (br_f cd_n10 (br_f h1 ?_))
  exact xx_elb h (br_t rfl k)
theorem xq_entry_go {w a : Nat} {b : Option Nat} (hw : w < 1331) (hl : ¬ cd_wl w = 0) (ha : cd_V a) (hb : ∀ e, b = some e → cd_V e) (k : wX_entry_31 post (nI w) (nI a) (cd_en b) (nI m) (nI bw) (nI sh) (nI tp) al an aw ae e1 e2 e3 e4 ek el) : wpX_entry post (nI m, nI bw, nI sh, nI tp, al, an, aw, ae, e1, e2, e3, e4, ek, el) (nI w) (nI a) (cd_en b) := by
  unfold wpX_entry
  refine xx_wl_t hw (br_f (cd_wl_nz hl) ?_)
  refine xx_elg ha (br_f cd_n10 ?_)
  cases b with
  | none => exact br_t rfl k
  | some e =>
    refine br_f (cd_1 e (hb e rfl).1) ?_
    exact xx_elg (hb e rfl) (br_f cd_n10 k)
theorem xq_entry4 {w : Nat} {y z : Int32} (hT : cd_TB m G W A B) (hC : cd_XC m W A B aw ae) (hm : m = 6) (hw : w < 1331) (h : G w = none) (k : post (-3) (nI m, nI bw, nI sh, nI tp, al, an, aw, ae, e1, e2, e3, e4, ek, el)) : wX_entry_31 post (nI w) y z (nI m) (nI bw) (nI sh) (nI tp) al an aw ae e1 e2 e3 e4 ek el := by
  unfold wX_entry_31
  refine xx_eo hT hC (by omega) (by omega) (fun p hp e => absurd h (by rw [← e]; exact cd_TB_some hT hp)) (fun _ => br_t rfl (br_f ?_ k))
  rw [hm]
  decide
theorem xq_entry5 {w : Nat} {y z : Int32} (hT : cd_TB m G W A B) (hC : cd_XC m W A B aw ae) (hm : m < 6) (hw : w < 1331) (h : G w = none) (k : post (nI (m + 1)) ((nI (m + 1)), nI bw, nI sh, nI tp, al, an, (upd aw (10 + m) (nI w)), (upd (upd ae (2 * (10 + m)) y) (2 * (10 + m) + 1) z), e1, e2, e3, e4, ek, el)) : wX_entry_31 post (nI w) y z (nI m) (nI bw) (nI sh) (nI tp) al an aw ae e1 e2 e3 e4 ek el := by
  unfold wX_entry_31
  refine xx_eo hT hC (by omega) (by omega) (fun p hp e => absurd h (by rw [← e]; exact cd_TB_some hT hp)) (fun _ => br_t rfl (br_t (nI_lt (b := 6) hm (by decide)) (nm_r (cd_10 m) (nm_r (nI_1 m) ?_))))
  exact xx_set (by omega) k
theorem xq_entry6 {w : Nat} {y z : Int32} (hT : cd_TB m G W A B) (hC : cd_XC m W A B aw ae) (hm : m ≤ 6) (hw : w < 1331) (h : ¬ G w = none) (k : ∀ p, p < 10 + m → W p = w → post (nI m) (nI m, nI bw, nI sh, nI tp, al, an, (upd aw p (nI w)), (upd (upd ae (2 * p) y) (2 * p + 1) z), e1, e2, e3, e4, ek, el)) : wX_entry_31 post (nI w) y z (nI m) (nI bw) (nI sh) (nI tp) al an aw ae e1 e2 e3 e4 ek el := by
  unfold wX_entry_31
  refine xx_eo hT hC (by omega) (by omega) (fun p hp e => br_f (cd_1 p (by omega)) ?_) (fun e => absurd e h)
  exact xx_set (by omega) (k p hp e)
theorem xq_forget1 {x : Int32} (h : x < 0 ∨ ∃ w : Nat, w < 2 ^ 31 ∧ x = nI w ∧ cd_wk w < 2) (k : post (-1) (nI m, nI bw, nI sh, nI tp, al, an, aw, ae, e1, e2, e3, e4, ek, el)) : wpX_forget post (nI m, nI bw, nI sh, nI tp, al, an, aw, ae, e1, e2, e3, e4, ek, el) x := by
  unfold wpX_forget
  rcases h with h | ⟨w, hw, rfl, h0⟩
  · exact xx_wl_f (Or.inl h) (br_f (by decide) k)
  · exact xx_wlk hw (br_f (nI_ge (b := 2) h0 (by decide)) k)
theorem xq_forget2 {w : Nat} (hT : cd_TB m G W A B) (hC : cd_XC m W A B aw ae) (hm : m ≤ 6) (hw : w < 1331) (hl : 2 ≤ cd_wl w) (h : G w = none) (k : post (-2) (nI m, nI bw, nI sh, nI tp, al, an, aw, ae, e1, e2, e3, e4, ek, el)) : wpX_forget post (nI m, nI bw, nI sh, nI tp, al, an, aw, ae, e1, e2, e3, e4, ek, el) (nI w) := by
  unfold wpX_forget
  have := cd_wl_le w
  refine xx_wl_t hw (br_t (nI_le (a := 2) hl (by omega)) ?_)
  exact xx_eo hT hC (by omega) (by omega) (fun p hp e => absurd h (by rw [← e]; exact cd_TB_some hT hp)) (fun _ => br_t rfl k)
theorem xq_forget3 {w : Nat} (hT : cd_TB (m + 1) G W A B) (hC : cd_XC (m + 1) W A B aw ae) (hm : m < 6) (hw : w < 1331) (hl : 2 ≤ cd_wl w) (h : ¬ G w = none)
    (k : ∀ p, p < 10 + (m + 1) → W p = w → post (nI m) (nI m, nI bw, nI sh, nI tp, al, an, (upd (upd aw p (aw (10 + m))) (10 + m) (-1)), (upd (upd (upd (upd ae (2 * p) (ae (2 * (10 + m)))) (2 * p + 1) (ae (2 * (10 + m) + 1))) (2 * (10 + m)) (-1)) (2 * (10 + m) + 1) (-1)), e1, e2, e3, e4, ek, el)) :
    wpX_forget post ((nI (m + 1)), nI bw, nI sh, nI tp, al, an, aw, ae, e1, e2, e3, e4, ek, el) (nI w) := by
  unfold wpX_forget
  have := cd_wl_le w
  refine xx_wl_t hw (br_t (nI_le (a := 2) hl (by omega)) ?_)
  refine xx_eo hT hC (by omega) (by omega) (fun p hp e => br_f (cd_1 p (by omega)) (nm_r (nI_pred m) (nm_r (cd_10 m) ⟨vp_in_nI (by omega) (by omega), pk_in (2 * (10 + m)) 32 (by omega) (cd_2p (10 + m)), pk_in (2 * (10 + m) + 1) 32 (by omega) (cd_2q (10 + m)), ?_⟩))) (fun e => absurd e h)
  rw [nI_clamp (show 10 + m < 2 ^ 31 by omega), pk_cl (2 * (10 + m)) (cd_2p (10 + m)), pk_cl (2 * (10 + m) + 1) (cd_2q (10 + m))]
  refine xx_set (by omega) ?_
  exact xx_set (by omega) (k p hp e)
/-! tailor -/
theorem xq_tailor1 {x y z : Int32} (h : (x < 0 ∨ nI 10 ≤ x) ∨ ((y < 0 ∨ nI 10 ≤ y) ∧ ∃ s, s < 10 ∧ x = nI s) ∨ (∃ s, s < 10 ∧ x = nI s ∧ y = nI s)) (k : post (-1) (nI m, nI bw, nI sh, nI tp, al, an, aw, ae, e1, e2, e3, e4, ek, el)) : wpX_tailor post (nI m, nI bw, nI sh, nI tp, al, an, aw, ae, e1, e2, e3, e4, ek, el) x y z := by
  unfold wpX_tailor
  rcases h with h | ⟨h, s, hs, rfl⟩ | ⟨s, hs, rfl, rfl⟩
  · exact xx_let_f h (br_t rfl k)
  · refine xx_let_t hs (br_f cd_n10 ?_)
    exact xx_let_f h (br_t rfl k)
  · refine xx_let_t hs (br_f cd_n10 ?_)
    exact xx_let_t hs (br_f cd_n10 (br_t rfl k))
theorem xq_tailor2 {a b : Nat} {z : Int32} (ha : a < 10) (hb : b < 10) (hab : ¬ a = b) (h : z < 1 ∨ 3 < z) (k : post (-2) (nI m, nI bw, nI sh, nI tp, al, an, aw, ae, e1, e2, e3, e4, ek, el)) : wpX_tailor post (nI m, nI bw, nI sh, nI tp, al, an, aw, ae, e1, e2, e3, e4, ek, el) (nI a) (nI b) z := by
  unfold wpX_tailor
  refine xx_let_t ha (br_f cd_n10 ?_)
  refine xx_let_t hb (br_f cd_n10 (br_f (fun e => hab ((nI_eq (by omega) (by omega)).mp e)) ?_))
  exact br_c (fun _ => k) (fun q => br_f (Int32.not_le.mpr (h.resolve_left q)) k)
theorem xq_tailor3 {a b l : Nat} (hT : cd_TB m G W A B) (hC : cd_XC m W A B aw ae) (hm : m ≤ 6) (hG : cd_OK G) (ha : a < 10) (hb : b < 10) (hab : ¬ a = b) (h1 : 1 ≤ l) (h3 : l ≤ 3) (h : ¬ cd_fit G (A a) l) (k : post (-3) (nI m, nI bw, nI sh, nI tp, al, an, aw, ae, e1, e2, e3, e4, ek, el)) : wpX_tailor post (nI m, nI bw, nI sh, nI tp, al, an, aw, ae, e1, e2, e3, e4, ek, el) (nI a) (nI b) (nI l) := by
  unfold wpX_tailor
  have hV := (cd_TB_V hT hG (p := a) (by omega)).1
  refine xx_let_t ha (br_f cd_n10 ?_)
  refine xx_let_t hb (br_f cd_n10 (br_f (fun e => hab ((nI_eq (by omega) (by omega)).mp e)) (br_f (nI_nlt (b := 1) h1 (by omega)) (br_t (nI_le (b := 3) h3 (by decide)) ⟨pk_in (2 * a) 32 (by omega) (cd_2p a), nm_r (e' := nI (A a)) (by rw [pk_cl (2 * a) (cd_2p a)]; exact (hC.1 a (by omega)).2.1) ?_⟩))))
  exact xx_can hT hC hm hG hV.1 h1 h3 (fun f => absurd f h) (fun _ => br_t rfl k)
theorem xq_tailor4 {a b l : Nat} (hT : cd_TB m G W A B) (hC : cd_XC m W A B aw ae) (hm : m ≤ 6) (hG : cd_OK G) (ha : a < 10) (hb : b < 10) (hab : ¬ a = b) (h1 : 1 ≤ l) (h3 : l ≤ 3) (h : cd_fit G (A a) l)
    (k : ∀ aw' ae', cd_XT m (cd_tG G (A a) b l) aw' ae' → post (nI (cd_bl (A a) l)) (nI m, nI bw, nI sh, nI tp, al, an, aw', ae', e1, e2, e3, e4, ek, el)) : wpX_tailor post (nI m, nI bw, nI sh, nI tp, al, an, aw, ae, e1, e2, e3, e4, ek, el) (nI a) (nI b) (nI l) := by
  unfold wpX_tailor
  have hV := (cd_TB_V hT hG (p := a) (by omega)).1
  refine xx_let_t ha (br_f cd_n10 ?_)
  refine xx_let_t hb (br_f cd_n10 (br_f (fun e => hab ((nI_eq (by omega) (by omega)).mp e)) (br_f (nI_nlt (b := 1) h1 (by omega)) (br_t (nI_le (b := 3) h3 (by decide)) ⟨pk_in (2 * a) 32 (by omega) (cd_2p a), nm_r (e' := nI (A a)) (by rw [pk_cl (2 * a) (cd_2p a)]; exact (hC.1 a (by omega)).2.1) ?_⟩))))
  refine xx_can hT hC hm hG hV.1 h1 h3 (fun _ => br_f cd_n10 ?_) (fun f => absurd h f)
  refine xx_mk hT hC hm hG hV.1 h1 h3 (fun ae' he => ?_)
  refine xx_bl hV.1 h1 h3 ?_
  rw [nI_1]
  exact xx_set (by omega) (k _ _ (cd_XT_tG hT hC hm hb he))
end
