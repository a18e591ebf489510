/-! the reference: elements of a row of letters -/
def cd_A4 (l : List Nat) (a1 a2 a3 a4 : Nat → Int32) : Prop := cd_A3 l a1 a2 a3 ∧ ∀ k, k < l.length → a4 k = 0
abbrev cd_17A : Type := Int32 → Int32 → Int32 → Int32 → Int32 → (Nat → Int32) → (Nat → Int32) → (Nat → Int32) → (Nat → Int32) → (Nat → Int32) → (Nat → Int32) → (Nat → Int32) → (Nat → Int32) → (Nat → Int32) → (Nat → Int32) → (Nat → Int32) → (Nat → Int32) → Prop
theorem cd_jx (s p n : Nat) : 12 * nI s + nI p + nI (n + 1) - 1 = nI (12 * s + p + n) := by
  rw [cd_j12, nI_add]
  exact nI_pred (12 * s + p + n)
section
variable {m bw sh tp : Nat} {fm : Int32} {vn vl vw vc vo vt g1 g2 g3 g4 gs gk : Nat → Int32} {G : Nat → Option (Nat × Option Nat)} {W A : Nat → Nat} {B : Nat → Option Nat} {c : Nat → Nat}
theorem yy_ad {post : SY → Prop} {l : List Nat} {e : Nat} {x : Int32} (hx : x = nI e) (hl : l.length < 24) (he : cd_V e) (hA : cd_A4 l g1 g2 g3 g4)
    (k : ∀ a1 a2 a3 a4, cd_A4 (l ++ [e]) a1 a2 a3 a4 → post (nI m, nI bw, nI sh, nI tp, (nI (l ++ [e]).length), vn, vl, vw, vc, vo, vt, a1, a2, a3, a4, gs, gk)) : wpY_addElement post (nI m, nI bw, nI sh, nI tp, (nI l.length), vn, vl, vw, vc, vo, vt, g1, g2, g3, g4, gs, gk) x := by
  have vi : vp_in (nI l.length) 24 := vp_in_nI hl (by omega)
  have ec : (nI l.length).toNatClampNeg = l.length := nI_clamp (by omega)
  have he1 := he.1
  have e5 : nI (l ++ [e]).length = nI (l.length + 1) := by rw [List.length_append]; rfl
  have k' := k _ _ _ (upd g4 l.length 0) ⟨cd_A3_put hA.1 he, fun j hj => by
    by_cases z : j = l.length
    · subst z; exact pk_us
    · rw [pk_un z]
      rw [List.length_append, List.length_cons, List.length_nil] at hj
      exact hA.2 j (by omega)⟩
  rw [e5] at k'
  unfold wpY_addElement
  refine yy_wt (l := 1) hx (by omega) (by decide) (by decide) ?_
  refine ⟨vi, nm_r (e' := upd g1 l.length (nI (e % 32))) (by rw [ec]; rfl) ?_⟩
  refine yy_wt (l := 2) hx (by omega) (by decide) (by decide) ?_
  refine ⟨vi, nm_r (e' := upd g2 l.length (nI (e / 32 % 8))) (by rw [ec]; rfl) ?_⟩
  refine yy_wt (l := 3) hx (by omega) (by decide) (by decide) ?_
  exact ⟨vi, nm_r (e' := upd g3 l.length (nI (e / 256))) (by rw [ec]; rfl) ⟨vi, nm_r (e' := upd g4 l.length 0) (by rw [ec]) (nm_r (nI_1 l.length) k')⟩⟩
theorem yy_153 {post : SY → Prop} {J : Int32 → cd_17A} {x1 x3 : Int32} {p n : Nat} (hn : 1 ≤ n) (hn3 : n ≤ 3) (k : J (nI (p + n)) (nI m) (nI bw) (nI sh) (nI tp) fm vn vl vw vc vo vt g1 g2 g3 g4 gs gk) : wY_findElements_153 post J x1 x3 (nI p) (nI n) (nI m) (nI bw) (nI sh) (nI tp) fm vn vl vw vc vo vt g1 g2 g3 g4 gs gk :=
  br_f (nI_nle (by omega) (by omega)) (nm_r (nI_add p n) k)
theorem yy_120 {post : SY → Prop} {J : Int32 → cd_17A} {x1 x3 : Int32} {p n f : Nat} {l : List Nat} (hT : cd_TB m G W A B) (hC : cd_YC m W A B vw vc vo vt) (hm : m ≤ 6) (hG : cd_OK G) (hf : f < 10 + m) (hn : 1 ≤ n) (hn3 : n ≤ 3) (hl : l.length + 2 ≤ 24) (hA : cd_A4 l g1 g2 g3 g4)
    (k : ∀ a1 a2 a3 a4, cd_A4 ((l ++ [A f]) ++ (B f).toList) a1 a2 a3 a4 → J (nI (p + n)) (nI m) (nI bw) (nI sh) (nI tp) (nI ((l ++ [A f]) ++ (B f).toList).length) vn vl vw vc vo vt a1 a2 a3 a4 gs gk) :
    wY_findElements_120 post J x1 x3 (nI p) (nI f) (nI n) (nI m) (nI bw) (nI sh) (nI tp) (nI l.length) vn vl vw vc vo vt g1 g2 g3 g4 gs gk := by
  have vi : vp_in (nI f) 16 := vp_in_nI (by omega) (by omega)
  have ec : (nI f).toNatClampNeg = f := nI_clamp (by omega)
  obtain ⟨c1, c2, c3, c4⟩ := hC f hf
  have hV := cd_TB_V hT hG hf
  have e5 : (l ++ [A f]).length = l.length + 1 := by rw [List.length_append]; rfl
  refine ⟨vi, yy_ad (e := A f) (by rw [ec]; exact c2) (by omega) hV.1 hA (fun a1 a2 a3 a4 hA1 => ⟨vi, ?_⟩)⟩
  cases z : B f with
  | none =>
    rw [z] at c3 k
    have e6 : (l ++ [A f]) ++ (none : Option Nat).toList = l ++ [A f] := List.append_nil _
    rw [e6] at k
    exact br_f (by rw [ec, c3]; decide) (yy_153 hn hn3 (k a1 a2 a3 a4 hA1))
  | some y =>
    rw [z] at c3 k
    exact br_t (by rw [ec, c3]; rfl) ⟨vi, yy_ad (e := y) (by rw [ec]; exact c4 y z) (by omega) (hV.2 y z) hA1 (fun b1 b2 b3 b4 hB => yy_153 hn hn3 (k b1 b2 b3 b4 hB))⟩
theorem yy_29_3 {post : SY → Prop} {J : Int32 → cd_17A} {s p q f n : Nat} (hT : cd_TB m G W A B) (hC : cd_YC m W A B vw vc vo vt) (hm : m ≤ 6) (hs : s < 10) (hq : q ≤ 12) (hp : p < q) (hc : cd_CL c vl (12 * s + p) (12 * s + q)) (hw : p + 2 ≤ q)
    (hf : f < 10 + m) (H : (p + 3 ≤ q → G (cd_w3 c (12 * s + p)) = none) → W f = cd_wd c (12 * s + p) (cd_mt G c (12 * s + p) (12 * s + q)) ∧ n = cd_mt G c (12 * s + p) (12 * s + q))
    (k : ∀ f, f < 10 + m → W f = cd_wd c (12 * s + p) (cd_mt G c (12 * s + p) (12 * s + q)) → wY_findElements_120 post J (nI s) (nI q) (nI p) (nI f) (nI (cd_mt G c (12 * s + p) (12 * s + q))) (nI m) (nI bw) (nI sh) (nI tp) fm vn vl vw vc vo vt g1 g2 g3 g4 gs gk) :
    wY_findElements_29 post J (nI s) (nI q) (nI p) (nI m) (nI bw) (nI sh) (nI tp) fm vn vl vw vc vo vt g1 g2 g3 g4 gs gk 2 (nI f) (nI n) (nI (cd_w2 c (12 * s + p))) 121 3 := by
  have e0 : nI p + 3 = nI (p + 3) := nI_add p 3
  have ex : 12 * nI s + nI p + 3 - 1 = nI (12 * s + p + 2) := cd_jx s p 2
  have hb0 := (hc (12 * s + p) (by omega) (by omega)).2
  have hb1 := (hc (12 * s + p + 1) (by omega) (by omega)).2
  have kf : ((p + 3 ≤ q → G (cd_w3 c (12 * s + p)) = none)) → wY_findElements_120 post J (nI s) (nI q) (nI p) (nI f) (nI n) (nI m) (nI bw) (nI sh) (nI tp) fm vn vl vw vc vo vt g1 g2 g3 g4 gs gk := fun h3 => by
    have h := H h3
    rw [h.2]
    exact k f hf h.1
  refine br_f (by decide) (pk_lt q (p + 3) (fun z => kf (fun y => absurd y (by omega))) (fun z => ?_) rfl e0)
  have hc2 := hc (12 * s + p + 2) (by omega) (by omega)
  have hb2 := hc2.2
  have hw3 : cd_w3 c (12 * s + p) < 2 ^ 31 := by unfold cd_w3; omega
  refine ⟨pk_in (12 * s + p + 2) 120 (by omega) ex, nm_r (e' := nI (cd_w3 c (12 * s + p))) ?_ (nm_r (e' := 1331) (by decide) (yy_eo hT hC hm hw3 (fun f3 hf3 h3 => br_f (nI_pos (by omega)) (br_f (nI_pos (by omega)) (nm_r (e' := 4) (by decide) (br_t (by decide) ?_))))
    (fun hn => br_t (by decide) (br_t (by decide) (nm_r (e' := 4) (by decide) (br_t (by decide) (kf (fun _ => hn))))))))⟩
  · rw [pk_cl (12 * s + p + 2) ex, hc2.1]
    show nI (cd_w2 c (12 * s + p)) + nI 121 * (nI (c (12 * s + p + 2)) + nI 1) = nI (cd_w3 c (12 * s + p))
    rw [nI_add, pk_mul, nI_add]
    rfl
  · have hm3 : cd_mt G c (12 * s + p) (12 * s + q) = 3 := cd_lw3 (by omega) (h3 ▸ cd_TB_some hT hf3)
    have := k f3 hf3 (by rw [cd_wd3 hm3]; exact h3)
    rw [hm3] at this
    exact this
theorem yy_29_2 {post : SY → Prop} {J : Int32 → cd_17A} {s p q : Nat} (hT : cd_TB m G W A B) (hC : cd_YC m W A B vw vc vo vt) (hm : m ≤ 6) (hs : s < 10) (hq : q ≤ 12) (hp : p < q) (hc : cd_CL c vl (12 * s + p) (12 * s + q))
    (k : ∀ f, f < 10 + m → W f = cd_wd c (12 * s + p) (cd_mt G c (12 * s + p) (12 * s + q)) → wY_findElements_120 post J (nI s) (nI q) (nI p) (nI f) (nI (cd_mt G c (12 * s + p) (12 * s + q))) (nI m) (nI bw) (nI sh) (nI tp) fm vn vl vw vc vo vt g1 g2 g3 g4 gs gk) :
    wY_findElements_29 post J (nI s) (nI q) (nI p) (nI m) (nI bw) (nI sh) (nI tp) fm vn vl vw vc vo vt g1 g2 g3 g4 gs gk 3 (nI (c (12 * s + p))) 1 (nI (cd_w1 c (12 * s + p))) 11 2 := by
  have e0 : nI p + 2 = nI (p + 2) := nI_add p 2
  have ex : 12 * nI s + nI p + 2 - 1 = nI (12 * s + p + 1) := cd_jx s p 1
  have hb0 := (hc (12 * s + p) (by omega) (by omega)).2
  have hW1 : W (c (12 * s + p)) = cd_w1 c (12 * s + p) := hT.2.1 _ hb0
  refine br_f (by decide) (pk_lt q (p + 2) (fun z => ?_) (fun z => ?_) rfl e0)
  · have hm1 : cd_mt G c (12 * s + p) (12 * s + q) = 1 := cd_lw1 (fun y => absurd y (by omega)) (fun y => absurd y (by omega))
    have := k (c (12 * s + p)) (by omega) (by rw [cd_wd1 hm1]; exact hW1)
    rw [hm1] at this
    exact this
  have hc1 := hc (12 * s + p + 1) (by omega) (by omega)
  have hb1 := hc1.2
  have hw2 : cd_w2 c (12 * s + p) < 2 ^ 31 := by unfold cd_w2; omega
  refine ⟨pk_in (12 * s + p + 1) 120 (by omega) ex, nm_r (e' := nI (cd_w2 c (12 * s + p))) ?_ (nm_r (e' := 121) (by decide) (yy_eo hT hC hm hw2
    (fun f2 hf2 h2 => br_f (nI_pos (by omega)) (br_f (nI_pos (by omega)) (nm_r (e' := 3) (by decide) (yy_29_3 (n := 2) hT hC hm hs hq hp hc (by omega) hf2 (fun h3 => ?_) k))))
    (fun hn => br_t (by decide) (br_t (by decide) (nm_r (e' := 3) (by decide) (yy_29_3 (n := 1) (f := c (12 * s + p)) hT hC hm hs hq hp hc (by omega) (by omega) (fun h3 => ?_) k))))))⟩
  · rw [pk_cl (12 * s + p + 1) ex, hc1.1]
    show nI (cd_w1 c (12 * s + p)) + nI 11 * (nI (c (12 * s + p + 1)) + nI 1) = nI (cd_w2 c (12 * s + p))
    rw [nI_add, pk_mul, nI_add]
    rfl
  · have hm2 : cd_mt G c (12 * s + p) (12 * s + q) = 2 := cd_lw2 (fun y => h3 (by omega)) (by omega) (h2 ▸ cd_TB_some hT hf2)
    exact ⟨by rw [cd_wd2 hm2]; exact h2, hm2.symm⟩
  · have hm1 : cd_mt G c (12 * s + p) (12 * s + q) = 1 := cd_lw1 (fun y => h3 (by omega)) (fun _ => hn)
    exact ⟨by rw [cd_wd1 hm1]; exact hW1, hm1.symm⟩
theorem yy_29 {post : SY → Prop} {J : Int32 → cd_17A} {s p q : Nat} (hT : cd_TB m G W A B) (hC : cd_YC m W A B vw vc vo vt) (hm : m ≤ 6) (hs : s < 10) (hq : q ≤ 12) (hp : p < q) (hc : cd_CL c vl (12 * s + p) (12 * s + q))
    (k : ∀ f, f < 10 + m → W f = cd_wd c (12 * s + p) (cd_mt G c (12 * s + p) (12 * s + q)) → wY_findElements_120 post J (nI s) (nI q) (nI p) (nI f) (nI (cd_mt G c (12 * s + p) (12 * s + q))) (nI m) (nI bw) (nI sh) (nI tp) fm vn vl vw vc vo vt g1 g2 g3 g4 gs gk) :
    wY_findElements_29 post J (nI s) (nI q) (nI p) (nI m) (nI bw) (nI sh) (nI tp) fm vn vl vw vc vo vt g1 g2 g3 g4 gs gk 4 (-1) 0 0 1 1 := by
  have e0 : nI p + 1 = nI (p + 1) := nI_add p 1
  have ex : 12 * nI s + nI p + 1 - 1 = nI (12 * s + p + 0) := cd_jx s p 0
  have hc0 := hc (12 * s + p) (by omega) (by omega)
  have hb0 := hc0.2
  have hw1 : cd_w1 c (12 * s + p) < 2 ^ 31 := by unfold cd_w1; omega
  refine br_f (by decide) (br_f (by rw [e0]; exact nI_nlt (by omega) (by omega)) ⟨pk_in (12 * s + p + 0) 120 (by omega) ex, nm_r (e' := nI (cd_w1 c (12 * s + p))) ?_ (nm_r (e' := 11) (by decide) (yy_eo hT hC hm hw1
    (fun f1 hf1 h1 => ?_) (fun hn => ?_)))⟩)
  · rw [pk_cl (12 * s + p + 0) ex, Nat.add_zero, hc0.1]
    show nI 0 + nI 1 * (nI (c (12 * s + p)) + nI 1) = nI (cd_w1 c (12 * s + p))
    rw [nI_add, pk_mul, nI_add, Nat.one_mul, Nat.zero_add]
    rfl
  · have : f1 = c (12 * s + p) := hT.2.2.1 _ _ hf1 (by omega) (by rw [h1, hT.2.1 _ hb0]; rfl)
    subst this
    exact br_f (nI_pos (by omega)) (br_f (nI_pos (by omega)) (nm_r (e' := 2) (by decide) (yy_29_2 hT hC hm hs hq hp hc k)))
  · exfalso
    have := cd_TB_some hT (p := c (12 * s + p)) (by omega)
    rw [hT.2.1 _ hb0] at this
    exact this hn
/-! shifting -/
theorem yy_148 {post : SY → Prop} {J : Int32 → Int32 → cd_17A} {vb lb : Bool} {n : Nat} (k : J (cd_bi (vb || lb)) (nI (n + 1)) (nI m) (nI bw) (nI sh) (nI tp) fm vn vl vw vc vo vt g1 g2 g3 g4 gs gk) : wY_shift_148 post J (nI n) (cd_bi vb) (cd_bi lb) (nI m) (nI bw) (nI sh) (nI tp) fm vn vl vw vc vo vt g1 g2 g3 g4 gs gk := by
  cases vb with
  | true => exact br_f cd_n10 (nm_r (nI_1 n) k)
  | false =>
    cases lb with
    | true => exact br_t rfl (br_f cd_n10 (nm_r (nI_1 n) k))
    | false => exact br_t rfl (br_t rfl (nm_r (nI_1 n) k))
theorem yy_143 {post : SY → Prop} {J : Int32 → Int32 → cd_17A} {vb lb : Bool} {n : Nat} (hn : n < 24) (k : J (cd_bi (vb || lb)) (nI (n + 1)) (nI m) (nI bw) (nI sh) (nI tp) fm vn vl vw vc vo vt (upd g1 n 0) (upd g2 n 0) (upd g3 n 0) g4 gs gk) : wY_shift_143 post J (nI n) (cd_bi vb) (cd_bi lb) (nI m) (nI bw) (nI sh) (nI tp) fm vn vl vw vc vo vt g1 g2 g3 g4 gs gk := by
  have vi : vp_in (nI n) 24 := vp_in_nI hn (by omega)
  have ec : (nI n).toNatClampNeg = n := nI_clamp (by omega)
  exact ⟨vi, nm_r (e' := upd g1 n 0) (by rw [ec]) ⟨vi, nm_r (e' := upd g2 n 0) (by rw [ec]) ⟨vi, nm_r (e' := upd g3 n 0) (by rw [ec]) (yy_148 k)⟩⟩⟩
theorem yy_67 {post : SY → Prop} {J : Int32 → Int32 → cd_17A} {l : List Nat} {vb lb : Bool} {n : Nat} (hl : l.length ≤ 24) (hn : n < l.length) (hs : sh = 1) (hA : cd_AH sh tp l g1 g2 g3 g4 n) (hb : cd_am tp l (n + 1) = (vb || lb)) (hlb : vb = false → lb = true → cd_f1 l n = 0)
    (kJ : ∀ a1 a2 a3 a4, cd_AH sh tp l a1 a2 a3 a4 (n + 1) → J (cd_bi (cd_am tp l (n + 1))) (nI (n + 1)) (nI m) (nI bw) (nI sh) (nI tp) fm vn vl vw vc vo vt a1 a2 a3 a4 gs gk) : wY_shift_67 post J (nI n) (cd_bi vb) (cd_bi lb) (nI m) (nI bw) (nI sh) (nI tp) fm vn vl vw vc vo vt g1 g2 g3 g4 gs gk := by
  have vi : vp_in (nI n) 24 := vp_in_nI (by omega) (by omega)
  have ec : (nI n).toNatClampNeg = n := nI_clamp (by omega)
  obtain ⟨q1, q2, q3⟩ := hA.2 n (Nat.le_refl _) hn
  have b1 := cd_f1_b l n
  have b2 := cd_f2_b l n
  have b3 := cd_f3_b l n
  have es : g1 (nI n).toNatClampNeg + g2 (nI n).toNatClampNeg + g3 (nI n).toNatClampNeg = nI (cd_f1 l n + cd_f2 l n + cd_f3 l n) := by rw [ec, q1, q2, q3, nI_add, nI_add]
  have big : (vb || lb) = true → ∀ x : Int32, x = nI (cd_f1 l n) → J (cd_bi (vb || lb)) (nI (n + 1)) (nI m) (nI bw) (nI sh) (nI tp) fm vn vl vw vc vo vt (upd g1 n 0) (upd g2 n 0) (upd g3 n 0) (upd g4 n x) gs gk := fun h x hx => by
    rw [h] at hb
    obtain ⟨F1, F2, F3, F4⟩ := cd_F_t hs hb
    rw [h, ← hb]
    refine kJ _ _ _ _ (cd_AH_s hA ?_ ?_ ?_ ?_ (fun k hk => ?_))
    · rw [pk_us, F1]; rfl
    · rw [pk_us, F2]; rfl
    · rw [pk_us, F3]; rfl
    · rw [pk_us, F4, hx]
    · rw [pk_un hk, pk_un hk, pk_un hk, pk_un hk]; exact ⟨rfl, rfl, rfl, rfl⟩
  have sml : (vb || lb) = false → ∀ x : Int32, x = nI (cd_F4 sh tp l n) → J (cd_bi (vb || lb)) (nI (n + 1)) (nI m) (nI bw) (nI sh) (nI tp) fm vn vl vw vc vo vt g1 g2 g3 (upd g4 n x) gs gk := fun h x hx => by
    rw [h] at hb
    obtain ⟨F1, F2, F3⟩ := cd_F_f hs hb
    rw [h, ← hb]
    refine kJ _ _ _ _ (cd_AH_s hA ?_ ?_ ?_ ?_ (fun k hk => ?_))
    · rw [F1]; exact q1
    · rw [F2]; exact q2
    · rw [F3]; exact q3
    · rw [pk_us, hx]
    · rw [pk_un hk]; exact ⟨rfl, rfl, rfl, rfl⟩
  refine ⟨vi, vi, vi, ?_⟩
  cases vb with
  | true =>
    have t : ∀ z : Int32, wY_shift_97 post J (nI n) (cd_bi true) (cd_bi lb) z (nI m) (nI bw) (nI sh) (nI tp) fm vn vl vw vc vo vt g1 g2 g3 g4 gs gk := fun z =>
      br_f cd_n10 ⟨vi, vi, nm_r (e' := upd g4 n (nI (cd_f1 l n))) (by rw [ec, q1]) (br_f cd_n10 (yy_143 (by omega) (big rfl _ rfl)))⟩
    exact br_c (fun _ => t 1) (fun _ => t 0)
  | false =>
    cases lb with
    | true =>
      have hf0 := hlb rfl rfl
      have t : ∀ z : Int32, wY_shift_97 post J (nI n) (cd_bi false) (cd_bi true) z (nI m) (nI bw) (nI sh) (nI tp) fm vn vl vw vc vo vt g1 g2 g3 g4 gs gk := fun z =>
        br_t rfl (br_f cd_n10 ⟨vi, nm_r (e' := upd g4 n 0) (by rw [ec]) (br_t rfl (br_f cd_n10 (yy_143 (by omega) (big rfl _ (by rw [hf0]; rfl)))))⟩)
      exact br_c (fun _ => t 1) (fun _ => t 0)
    | false =>
      refine pk_eq (cd_f1 l n + cd_f2 l n + cd_f3 l n) 0 (fun z => br_t rfl (br_t rfl (br_f cd_n10 ⟨vi, nm_r (e' := upd g4 n 0) (by rw [ec]) (br_t rfl (br_t rfl (yy_148 (sml rfl _ ?_))))⟩)))
        (fun z => br_t rfl (br_t rfl (br_t rfl ⟨vi, nm_r (e' := upd g4 n 31) (by rw [ec]) (br_t rfl (br_t rfl (yy_148 (sml rfl _ ?_))))⟩))) es
      · rw [cd_F4_0 hs hb ⟨by omega, by omega, by omega⟩]; rfl
      · rw [cd_F4_1 hs hb (fun q => z (by omega))]; rfl
theorem yy_sh_l {post : SY → Prop} {l : List Nat} (hl : l.length ≤ 24) (hs : sh = 1) (htp : tp ≤ 30)
    (K : ∀ a1 a2 a3 a4, cd_AF sh tp l a1 a2 a3 a4 → post (nI m, nI bw, nI sh, nI tp, (nI l.length), vn, vl, vw, vc, vo, vt, a1, a2, a3, a4, gs, gk)) :
    ∀ d i a1 a2 a3 a4, i + d = l.length → cd_AH sh tp l a1 a2 a3 a4 i → wY_shift_4 post (d + 1) (cd_bi (cd_am tp l i)) (nI i) (nI m) (nI bw) (nI sh) (nI tp) (nI l.length) vn vl vw vc vo vt a1 a2 a3 a4 gs gk := by
  intro d
  induction d with
  | zero =>
    intro i a1 a2 a3 a4 hi hA
    have hil : i = l.length := by omega
    subst hil
    exact br_t (nI_le (Nat.le_refl _) (by omega)) (K a1 a2 a3 a4 (cd_AH_e hA))
  | succ d ih =>
    intro i a1 a2 a3 a4 hi hA
    have vi : vp_in (nI i) 24 := vp_in_nI (by omega) (by omega)
    have ec : (nI i).toNatClampNeg = i := nI_clamp (by omega)
    obtain ⟨q1, q2, q3⟩ := hA.2 i (Nat.le_refl _) (by omega)
    have b1 := cd_f1_b l i
    have e1 : a1 (nI i).toNatClampNeg = nI (cd_f1 l i) := by rw [ec]; exact q1
    have go : ∀ vb lb : Bool, cd_am tp l (i + 1) = (vb || lb) → (vb = false → lb = true → cd_f1 l i = 0) → wY_shift_67 post (wY_shift_4 post (d + 1)) (nI i) (cd_bi vb) (cd_bi lb) (nI m) (nI bw) (nI sh) (nI tp) (nI l.length) vn vl vw vc vo vt a1 a2 a3 a4 gs gk := fun vb lb h1 h2 =>
      yy_67 hl (by omega) hs hA h1 h2 (fun c1 c2 c3 c4 hc => ih (i + 1) c1 c2 c3 c4 (by omega) hc)
    refine br_f (nI_ge (by omega) (by omega)) (br_t (by rw [hs]; rfl) ⟨vi, pk_lt (cd_f1 l i) 1 (fun z => ?_) (fun z => ⟨vi, pk_lt tp (cd_f1 l i) (fun y => ?_) (fun y => ?_) rfl e1⟩) e1⟩)
    · have h0 : cd_f1 l i = 0 := by omega
      have ha := cd_am_0 (tp := tp) h0
      cases w : cd_am tp l i with
      | true => exact ⟨vi, br_t (by rw [e1, h0]; rfl) (br_f cd_n10 (go false true (by rw [ha, w]; rfl) (fun _ _ => h0)))⟩
      | false => exact ⟨vi, br_t (by rw [e1, h0]; rfl) (br_t rfl (go false false (by rw [ha, w]; rfl) (fun _ q => by cases q)))⟩
    · exact ⟨vi, br_f (by rw [e1]; exact nI_ne0 (by omega) (by omega)) (go false false (by rw [cd_am_f (by omega) (by omega)]; rfl) (fun _ q => by cases q))⟩
    · exact ⟨vi, br_f (by rw [e1]; exact nI_ne0 (by omega) (by omega)) (go true false (by rw [cd_am_t (by omega) (by omega)]; rfl) (fun q => by cases q))⟩
theorem yy_sh {post : SY → Prop} {l : List Nat} (hl : l.length ≤ 24) (hsh : sh ≤ 1) (htp : tp ≤ 30) (hA : cd_A4 l g1 g2 g3 g4)
    (K : ∀ a1 a2 a3 a4, cd_AF sh tp l a1 a2 a3 a4 → post (nI m, nI bw, nI sh, nI tp, (nI l.length), vn, vl, vw, vc, vo, vt, a1, a2, a3, a4, gs, gk)) : wpY_shift post (nI m, nI bw, nI sh, nI tp, (nI l.length), vn, vl, vw, vc, vo, vt, g1, g2, g3, g4, gs, gk) := by
  by_cases hs : sh = 1
  · exact ⟨l.length + 1, yy_sh_l hl hs htp K l.length 0 g1 g2 g3 g4 (by omega) (cd_AH_0 hA.1)⟩
  · have hAF : cd_AF sh tp l g1 g2 g3 g4 := fun k hk => by
      obtain ⟨F1, F2, F3, F4⟩ := cd_F_0 (sh := sh) (tp := tp) (l := l) (k := k) (by omega)
      obtain ⟨q1, q2, q3⟩ := hA.1 k hk
      rw [F1, F2, F3, F4]
      exact ⟨q1, q2, q3, hA.2 k hk⟩
    exact ⟨1, br_c (fun _ => K g1 g2 g3 g4 hAF) (fun _ => br_f (fun q => hs (by rw [show (1 : Int32) = nI 1 from rfl, nI_eq (by omega) (by omega)] at q; exact q)) (K g1 g2 g3 g4 hAF))⟩
theorem yy_fe_l {post : SY → Prop} {s p0 q : Nat} (hT : cd_TB m G W A B) (hC : cd_YC m W A B vw vc vo vt) (hm : m ≤ 6) (hG : cd_OK G) (hsh : sh ≤ 1) (htp : tp ≤ 30) (hs : s < 10) (hq : q ≤ 12) (hc : cd_CL c vl (12 * s + p0) (12 * s + q))
    (K : ∀ a1 a2 a3 a4, cd_AF sh tp (cd_EL G c (12 * s + p0) (12 * s + q)) a1 a2 a3 a4 → post (nI m, nI bw, nI sh, nI tp, (nI (cd_EL G c (12 * s + p0) (12 * s + q)).length), vn, vl, vw, vc, vo, vt, a1, a2, a3, a4, gs, gk)) :
    ∀ d p l a1 a2 a3 a4, q ≤ p + d → p0 ≤ p → p ≤ q → cd_A4 l a1 a2 a3 a4 → l ++ cd_EL G c (12 * s + p) (12 * s + q) = cd_EL G c (12 * s + p0) (12 * s + q) → l.length ≤ 2 * (p - p0) →
      wY_findElements_8 post (nI s) (nI q) (d + 1) (nI p) (nI m) (nI bw) (nI sh) (nI tp) (nI l.length) vn vl vw vc vo vt a1 a2 a3 a4 gs gk := by
  have h24 : (cd_EL G c (12 * s + p0) (12 * s + q)).length ≤ 24 := cd_EL_12 (by omega)
  intro d
  induction d with
  | zero =>
    intro p l a1 a2 a3 a4 hd h1 h2 hA h h5
    rw [cd_EL_nil (by omega), List.append_nil] at h
    subst h
    exact br_t (nI_le (by omega) (by omega)) (yy_sh h24 hsh htp hA K)
  | succ d ih =>
    intro p l a1 a2 a3 a4 hd h1 h2 hA h h5
    refine pk_le q p (fun z => ?_) (fun z => ⟨4, ?_⟩)
    · rw [cd_EL_nil (by omega), List.append_nil] at h
      subst h
      exact yy_sh h24 hsh htp hA K
    · have hc' : cd_CL c vl (12 * s + p) (12 * s + q) := fun x hx1 hx2 => hc x (by omega) hx2
      refine yy_29 hT hC hm hs hq z hc' (fun f hf hW => ?_)
      have hm1 := cd_mt_pos G c (12 * s + p) (12 * s + q)
      have hm2 := cd_mt_q (G := G) (c := c) (p := 12 * s + p) (q := 12 * s + q) (by omega)
      have hm3 : cd_mt G c (12 * s + p) (12 * s + q) ≤ 3 := by unfold cd_mt; split <;> (try split) <;> omega
      have hgo := cd_EL_go hT hf hW (by omega) h
      have el2 : ((l ++ [A f]) ++ (B f).toList).length ≤ l.length + 2 := by
        rw [List.length_append, List.length_append]
        cases B f with
        | none => show l.length + 1 + 0 ≤ _; omega
        | some x => show l.length + 1 + 1 ≤ _; omega
      refine yy_120 hT hC hm hG hf hm1 hm3 (by omega) hA (fun b1 b2 b3 b4 hB => ?_)
      rw [Nat.add_assoc] at hgo
      exact ih (p + cd_mt G c (12 * s + p) (12 * s + q)) _ b1 b2 b3 b4 (by omega) (by omega) (by omega) hB hgo (by omega)
theorem yy_fe {post : SY → Prop} {s p q : Nat} (hT : cd_TB m G W A B) (hC : cd_YC m W A B vw vc vo vt) (hm : m ≤ 6) (hG : cd_OK G) (hsh : sh ≤ 1) (htp : tp ≤ 30) (hs : s < 10) (hpq : p ≤ q) (hq : q ≤ 12) (hc : cd_CL c vl (12 * s + p) (12 * s + q))
    (K : ∀ a1 a2 a3 a4, cd_AF sh tp (cd_EL G c (12 * s + p) (12 * s + q)) a1 a2 a3 a4 → post (nI m, nI bw, nI sh, nI tp, (nI (cd_EL G c (12 * s + p) (12 * s + q)).length), vn, vl, vw, vc, vo, vt, a1, a2, a3, a4, gs, gk)) : wpY_findElements post (nI m, nI bw, nI sh, nI tp, fm, vn, vl, vw, vc, vo, vt, g1, g2, g3, g4, gs, gk) (nI s) (nI p) (nI q) :=
  ⟨q - p + 1, yy_fe_l hT hC hm hG hsh htp hs hq hc K (q - p) p [] g1 g2 g3 g4 (by omega) (Nat.le_refl _) hpq ⟨cd_A3_nil, fun k hk => absurd hk (Nat.not_lt_zero k)⟩ (List.nil_append _) (Nat.zero_le _)⟩
end
