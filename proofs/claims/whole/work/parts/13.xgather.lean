/-! the component: elements of a row of letters -/
def cd_CL (c : Nat → Nat) (al : Nat → Int32) (p q : Nat) : Prop := ∀ i, p ≤ i → i < q → al i = nI (c i) ∧ c i < 10
theorem xx_wle {post : Int32 → Prop} {x : Int32} {w : Nat} (hx : x = nI w) (h : w < 1331) (k : post (nI (cd_wl w))) : wpX_wordLength post x := by
  subst hx
  exact xx_wl_t h k
section
variable {m bw sh tp : Nat} {al an aw ae e1 e2 e3 e4 ek el : Nat → Int32} {G : Nat → Option (Nat × Option Nat)} {W A : Nat → Nat} {B : Nat → Option Nat} {c : Nat → Nat}
theorem xx_long2 {post : Int32 → Prop} {p q f : Nat} (hT : cd_TB m G W A B) (hC : cd_XC m W A B aw ae) (hm : m ≤ 6) (hq : q ≤ 120) (hp : p < q) (hc : cd_CL c al p q)
    (hf : f < 10 + m) (H : (p + 3 ≤ q → G (cd_w3 c p) = none) → W f = cd_wd c p (cd_mt G c p q)) (hw : p + 2 ≤ q)
    (k : ∀ f, f < 10 + m → W f = cd_wd c p (cd_mt G c p q) → post (nI f)) : wX_longestEntryAt_24 post (nI p) (nI q) (nI m) (nI bw) (nI sh) (nI tp) al an aw ae e1 e2 e3 e4 ek el 2 (nI f) (nI (cd_w2 c p)) 121 2 := by
  have e0 : nI p + 2 = nI (p + 2) := nI_add p 2
  have hb0 := (hc p (by omega) (by omega)).2
  have hb1 := (hc (p + 1) (by omega) (by omega)).2
  refine br_f (by decide) (pk_le q (p + 2) (fun z => k f hf (H (fun y => absurd y (by omega)))) (fun z => ?_) rfl e0)
  have hc2 := hc (p + 2) (by omega) (by omega)
  have hb2 := hc2.2
  have hw3 : cd_w3 c p < 2 ^ 31 := by unfold cd_w3; omega
  refine ⟨pk_in (p + 2) 120 (by omega) e0, nm_r (e' := nI (cd_w3 c p)) ?_ (nm_r (e' := 1331) (by decide) (xx_eo hT hC hm hw3 (fun f3 hf3 h3 => br_f (cd_1 f3 (by omega)) (nm_r (e' := 3) (by decide) (br_t (by decide) (k f3 hf3 ?_))))
    (fun hn => br_t rfl (nm_r (e' := 3) (by decide) (br_t (by decide) (k f hf (H (fun _ => hn))))))))⟩
  · rw [pk_cl (p + 2) e0, hc2.1]
    show nI (cd_w2 c p) + nI 121 * (nI (c (p + 2)) + nI 1) = nI (cd_w3 c p)
    rw [nI_add, pk_mul, nI_add]
    rfl
  · rw [cd_wd3 (cd_lw3 (by omega) (h3 ▸ cd_TB_some hT hf3))]
    exact h3
theorem xx_long {post : Int32 → Prop} {p q : Nat} (hT : cd_TB m G W A B) (hC : cd_XC m W A B aw ae) (hm : m ≤ 6) (hq : q ≤ 120) (hp : p < q) (hc : cd_CL c al p q)
    (k : ∀ f, f < 10 + m → W f = cd_wd c p (cd_mt G c p q) → post (nI f)) : wpX_longestEntryAt post (nI m, nI bw, nI sh, nI tp, al, an, aw, ae, e1, e2, e3, e4, ek, el) (nI p) (nI q) := by
  have hc0 := hc p (by omega) (by omega)
  have hb0 := hc0.2
  have ec : (nI p).toNatClampNeg = p := nI_clamp (by omega)
  have vi : vp_in (nI p) 120 := vp_in_nI (by omega) (by omega)
  refine ⟨vi, nm_r (e' := nI (c p)) (by rw [ec]; exact hc0.1) ⟨vi, nm_r (e' := nI (cd_w1 c p)) (by rw [ec, hc0.1]; exact nI_1 (c p)) ⟨3, ?_⟩⟩⟩
  have hW1 : W (c p) = cd_w1 c p := hT.2.1 (c p) hb0
  refine br_f (by decide) (pk_le q (p + 1) (fun z => k (c p) (by omega) ?_) (fun z => ?_) rfl (nI_1 p))
  · rw [cd_wd1 (cd_lw1 (fun y => absurd y (by omega)) (fun y => absurd y (by omega)))]
    exact hW1
  have hc1 := hc (p + 1) (by omega) (by omega)
  have hb1 := hc1.2
  have hw2 : cd_w2 c p < 2 ^ 31 := by unfold cd_w2; omega
  refine ⟨pk_in (p + 1) 120 (by omega) (nI_1 p), nm_r (e' := nI (cd_w2 c p)) ?_ (nm_r (e' := 121) (by decide) (xx_eo hT hC hm hw2
    (fun f2 hf2 h2 => br_f (cd_1 f2 (by omega)) (nm_r (e' := 2) (by decide) (xx_long2 hT hC hm hq hp hc hf2 (fun h3 => ?_) (by omega) k)))
    (fun hn => br_t rfl (nm_r (e' := 2) (by decide) (xx_long2 hT hC hm hq hp hc (f := c p) (by omega) (fun h3 => ?_) (by omega) k)))))⟩
  · rw [pk_cl (p + 1) (nI_1 p), hc1.1]
    show nI (cd_w1 c p) + nI 11 * (nI (c (p + 1)) + nI 1) = nI (cd_w2 c p)
    rw [nI_add, pk_mul, nI_add]
    rfl
  · rw [cd_wd2 (cd_lw2 h3 (by omega) (h2 ▸ cd_TB_some hT hf2))]
    exact h2
  · rw [cd_wd1 (cd_lw1 h3 (fun _ => hn))]
    exact hW1
theorem xx_ad {post : Int32 → SX → Prop} {l : List Nat} {e : Nat} {x : Int32} (hx : x = nI e) (hl : l.length < 24) (he : cd_V e) (hA : cd_A3 l e1 e2 e3)
    (k : ∀ a1 a2 a3, cd_A3 (l ++ [e]) a1 a2 a3 → post (nI (l ++ [e]).length) (nI m, nI bw, nI sh, nI tp, al, an, aw, ae, a1, a2, a3, e4, ek, el)) : wpX_addElement post (nI m, nI bw, nI sh, nI tp, al, an, aw, ae, e1, e2, e3, e4, ek, el) (nI l.length) x := by
  subst hx
  have vi : vp_in (nI l.length) 24 := vp_in_nI hl (by omega)
  have ec : (nI l.length).toNatClampNeg = l.length := nI_clamp (by omega)
  have he1 := he.1
  have e5 : nI (l ++ [e]).length = nI l.length + 1 := by rw [nI_1, List.length_append]; rfl
  have k' := k _ _ _ (cd_A3_put hA he)
  rw [e5] at k'
  exact br_f (cd_1 e he.1) (br_t (nI_lt (b := 24) hl (by decide)) (xx_wt (l := 1) (by omega) (by decide) (by decide) ⟨vi, nm_r (e' := upd e1 l.length (nI (e % 32))) (by rw [ec]; rfl)
    (xx_wt (l := 2) (by omega) (by decide) (by decide) ⟨vi, nm_r (e' := upd e2 l.length (nI (e / 32 % 8))) (by rw [ec]; rfl)
      (xx_wt (l := 3) (by omega) (by decide) (by decide) ⟨vi, nm_r (e' := upd e3 l.length (nI (e / 256))) (by rw [ec]; rfl) k'⟩)⟩)⟩))
theorem xx_ado {post : Int32 → SX → Prop} {l : List Nat} {o : Option Nat} {x : Int32} (hx : x = cd_en o) (hl : l.length < 24) (he : ∀ e, o = some e → cd_V e) (hA : cd_A3 l e1 e2 e3)
    (k : ∀ a1 a2 a3, cd_A3 (l ++ o.toList) a1 a2 a3 → post (nI (l ++ o.toList).length) (nI m, nI bw, nI sh, nI tp, al, an, aw, ae, a1, a2, a3, e4, ek, el)) : wpX_addElement post (nI m, nI bw, nI sh, nI tp, al, an, aw, ae, e1, e2, e3, e4, ek, el) (nI l.length) x := by
  cases o with
  | none =>
    subst hx
    have k' := k e1 e2 e3 (by show cd_A3 (l ++ []) e1 e2 e3; rw [List.append_nil]; exact hA)
    have e5 : l ++ (none : Option Nat).toList = l := List.append_nil l
    rw [e5] at k'
    exact br_t rfl k'
  | some e => exact xx_ad hx hl (he e rfl) hA k
theorem xx_ga_l {post : Int32 → SX → Prop} {p q : Nat} (hT : cd_TB m G W A B) (hC : cd_XC m W A B aw ae) (hm : m ≤ 6) (hG : cd_OK G) (hq : q ≤ p + 12) (hq2 : q ≤ 120) (hc : cd_CL c al p q)
    (K : ∀ a1 a2 a3, cd_A3 (cd_EL G c p q) a1 a2 a3 → post (nI (cd_EL G c p q).length) (nI m, nI bw, nI sh, nI tp, al, an, aw, ae, a1, a2, a3, e4, ek, el)) :
    ∀ d i j l a1 a2 a3, i + d = q → p ≤ i → i ≤ j → j ≤ q → cd_A3 l a1 a2 a3 → l ++ cd_EL G c j q = cd_EL G c p q → l.length ≤ 2 * (j - p) →
      wX_gatherElements_8 post (nI q) (d + 1) (nI l.length) (nI j) (nI i) (nI m) (nI bw) (nI sh) (nI tp) al an aw ae a1 a2 a3 e4 ek el := by
  intro d
  induction d with
  | zero =>
    intro i j l a1 a2 a3 hi h1 h2 h3 hA h h5
    rw [cd_EL_nil (by omega), List.append_nil] at h
    subst h
    exact br_t (nI_le (by omega) (by omega)) (K a1 a2 a3 hA)
  | succ d ih =>
    intro i j l a1 a2 a3 hi h1 h2 h3 hA h h5
    refine br_f (nI_ge (by omega) (by omega)) (pk_eq i j (fun z => ?_) (fun z => nm_r (nI_1 i) (ih (i + 1) j l a1 a2 a3 (by omega) (by omega) (by omega) h3 hA h h5)))
    subst z
    have hc' : cd_CL c al i q := fun x hx1 hx2 => hc x (by omega) hx2
    refine xx_long hT hC hm hq2 (by omega) hc' (fun f hf hW => ?_)
    have hcf := hC.1 f hf
    have hV := cd_TB_V hT hG hf
    have hWf := (hT.1 f hf).1
    have hm1 := cd_mt_pos G c i q
    have hm2 := cd_mt_q (G := G) (c := c) (p := i) (q := q) (by omega)
    have hlen : cd_wl (W f) = cd_mt G c i q := by rw [hW]; exact cd_wd_len (fun x hx1 hx2 => (hc' x hx1 hx2).2) (by omega)
    have hgo := cd_EL_go hT hf hW (by omega) h
    have el1 : (l ++ [A f]).length = l.length + 1 := by rw [List.length_append]; rfl
    have el2 : ((l ++ [A f]) ++ (B f).toList).length ≤ l.length + 2 := by
      rw [List.length_append, el1]
      cases B f with
      | none => show l.length + 1 + 0 ≤ _; omega
      | some x => show l.length + 1 + 1 ≤ _; omega
    refine ⟨pk_in (2 * f) 32 (by omega) (cd_2p f), xx_ad (e := A f) (by rw [pk_cl (2 * f) (cd_2p f)]; exact hcf.2.1) (by omega) hV.1 hA (fun b1 b2 b3 hB => ?_)⟩
    refine ⟨pk_in (2 * f + 1) 32 (by omega) (cd_2q f), xx_ado (o := B f) (by rw [pk_cl (2 * f + 1) (cd_2q f)]; exact hcf.2.2) (by omega) hV.2 hB (fun d1 d2 d3 hD => ?_)⟩
    refine ⟨vp_in_nI (by omega) (by omega), xx_wle (w := W f) (by rw [nI_clamp (by omega)]; exact hcf.1) (by omega) ?_⟩
    refine nm_r (e' := nI (i + cd_mt G c i q)) (by rw [hlen]; exact nI_add _ _) (nm_r (nI_1 i) ?_)
    exact ih (i + 1) (i + cd_mt G c i q) _ d1 d2 d3 (by omega) (by omega) (by omega) (by omega) hD hgo (by omega)
theorem xx_ga {post : Int32 → SX → Prop} {p q : Nat} (hT : cd_TB m G W A B) (hC : cd_XC m W A B aw ae) (hm : m ≤ 6) (hG : cd_OK G) (hpq : p ≤ q) (hq : q ≤ p + 12) (hq2 : q ≤ 120) (hc : cd_CL c al p q)
    (K : ∀ a1 a2 a3, cd_A3 (cd_EL G c p q) a1 a2 a3 → post (nI (cd_EL G c p q).length) (nI m, nI bw, nI sh, nI tp, al, an, aw, ae, a1, a2, a3, e4, ek, el)) : wpX_gatherElements post (nI m, nI bw, nI sh, nI tp, al, an, aw, ae, e1, e2, e3, e4, ek, el) (nI p) (nI q) :=
  ⟨q - p + 1, xx_ga_l hT hC hm hG hq hq2 hc K (q - p) p p [] e1 e2 e3 (by omega) (Nat.le_refl _) (Nat.le_refl _) hpq cd_A3_nil (List.nil_append _) (Nat.zero_le _)⟩
/-! the fourth weights -/
theorem cd_AH_z {sh tp : Nat} {l : List Nat} {a1 a2 a3 a4 : Nat → Int32} {n : Nat} {x : Int32} (h : cd_AH sh tp l a1 a2 a3 a4 n) : cd_AH sh tp l a1 a2 a3 (upd a4 n x) n :=
  ⟨fun k hk => by rw [pk_un (by omega)]; exact h.1 k hk, h.2⟩
abbrev cd_10A : Type := (Nat → Int32) → (Nat → Int32) → (Nat → Int32) → (Nat → Int32) → (Nat → Int32) → (Nat → Int32) → (Nat → Int32) → (Nat → Int32) → (Nat → Int32) → (Nat → Int32) → Prop
theorem xx_f52 {post : SX → Prop} {J : Int32 → Int32 → cd_10A} {x1 : Int32} {n : Nat} {l : List Nat} (hl : l.length ≤ 24) (hn : n < l.length) (hs : sh = 1) (hA : cd_AH sh tp l e1 e2 e3 e4 n) (h4 : e4 n = 0)
    (kJ : ∀ a1 a2 a3 a4, cd_AH sh tp l a1 a2 a3 a4 (n + 1) → J (cd_bi (cd_am tp l (n + 1))) (nI (n + 1)) al an aw ae a1 a2 a3 a4 ek el) :
    wX_setFourthWeights_52 post J x1 (cd_bi (cd_am tp l (n + 1))) (nI n) (nI m) (nI bw) (nI sh) (nI tp) al an aw ae e1 e2 e3 e4 ek el := by
  have vi : vp_in (nI n) 24 := vp_in_nI (by omega) (by omega)
  have ec : (nI n).toNatClampNeg = n := nI_clamp (by omega)
  obtain ⟨g1, g2, g3⟩ := hA.2 n (Nat.le_refl _) hn
  have b1 := cd_f1_b l n
  have b2 := cd_f2_b l n
  have b3 := cd_f3_b l n
  cases z : cd_am tp l (n + 1) with
  | true =>
    obtain ⟨F1, F2, F3, F4⟩ := cd_F_t hs z
    rw [z] at kJ
    refine br_f cd_n10 ⟨vi, vi, nm_r (e' := upd e4 n (e1 n)) (by rw [ec]) ⟨vi, nm_r (e' := upd e1 n 0) (by rw [ec]) ⟨vi, nm_r (e' := upd e2 n 0) (by rw [ec]) ⟨vi, nm_r (e' := upd e3 n 0) (by rw [ec]) (nm_r (nI_1 n) (kJ _ _ _ _ (cd_AH_s hA ?_ ?_ ?_ ?_ (fun k hk => ?_))))⟩⟩⟩⟩
    · rw [pk_us, F1]; rfl
    · rw [pk_us, F2]; rfl
    · rw [pk_us, F3]; rfl
    · rw [pk_us, F4, g1]
    · rw [pk_un hk, pk_un hk, pk_un hk, pk_un hk]; exact ⟨rfl, rfl, rfl, rfl⟩
  | false =>
    obtain ⟨F1, F2, F3⟩ := cd_F_f hs z
    rw [z] at kJ
    have hB : ¬ (cd_f1 l n = 0 ∧ cd_f2 l n = 0 ∧ cd_f3 l n = 0) → J (cd_bi false) (nI (n + 1)) al an aw ae e1 e2 e3 (upd e4 n 31) ek el := fun q => by
      refine kJ _ _ _ _ (cd_AH_s hA ?_ ?_ ?_ ?_ (fun k hk => ?_))
      · rw [F1]; exact g1
      · rw [F2]; exact g2
      · rw [F3]; exact g3
      · rw [pk_us, cd_F4_1 hs z q]; rfl
      · rw [pk_un hk]; exact ⟨rfl, rfl, rfl, rfl⟩
    refine br_t rfl ⟨vi, pk_eq (cd_f1 l n) 0 (fun y1 => ⟨vi, pk_eq (cd_f2 l n) 0 (fun y2 => ⟨vi, pk_eq (cd_f3 l n) 0 (fun y3 => nm_r (nI_1 n) (kJ _ _ _ _ (cd_AH_s hA ?_ ?_ ?_ ?_ (fun k hk => ⟨rfl, rfl, rfl, rfl⟩))))
      (fun y3 => ⟨vi, nm_r (e' := upd e4 n 31) (by rw [ec]) (nm_r (nI_1 n) (hB (fun q => y3 q.2.2)))⟩) (by rw [ec]; exact g3)⟩)
      (fun y2 => ⟨vi, nm_r (e' := upd e4 n 31) (by rw [ec]) (nm_r (nI_1 n) (hB (fun q => y2 q.2.1)))⟩) (by rw [ec]; exact g2)⟩)
      (fun y1 => ⟨vi, nm_r (e' := upd e4 n 31) (by rw [ec]) (nm_r (nI_1 n) (hB (fun q => y1 q.1)))⟩) (by rw [ec]; exact g1)⟩
    · rw [F1]; exact g1
    · rw [F2]; exact g2
    · rw [F3]; exact g3
    · rw [cd_F4_0 hs z ⟨y1, y2, y3⟩]; exact h4
theorem xx_f4_l {post : SX → Prop} {l : List Nat} (hl : l.length ≤ 24) (hsh : sh ≤ 1) (htp : tp ≤ 30)
    (K : ∀ a1 a2 a3 a4, cd_AF sh tp l a1 a2 a3 a4 → post (nI m, nI bw, nI sh, nI tp, al, an, aw, ae, a1, a2, a3, a4, ek, el)) :
    ∀ d i a1 a2 a3 a4 x2, i + d = l.length → (sh = 1 → x2 = cd_bi (cd_am tp l i)) → cd_AH sh tp l a1 a2 a3 a4 i → wX_setFourthWeights_4 post (nI l.length) (nI m) (nI bw) (nI sh) (nI tp) (d + 1) x2 (nI i) al an aw ae a1 a2 a3 a4 ek el := by
  intro d
  induction d with
  | zero =>
    intro i a1 a2 a3 a4 x2 hi hx hA
    have hil : i = l.length := by omega
    subst hil
    exact br_t (nI_le (Nat.le_refl _) (by omega)) (K a1 a2 a3 a4 (cd_AH_e hA))
  | succ d ih =>
    intro i a1 a2 a3 a4 x2 hi hx hA
    have vi : vp_in (nI i) 24 := vp_in_nI (by omega) (by omega)
    have ec : (nI i).toNatClampNeg = i := nI_clamp (by omega)
    have hA0 := cd_AH_z (x := 0) hA
    obtain ⟨g1, g2, g3⟩ := hA.2 i (Nat.le_refl _) (by omega)
    have b1 := cd_f1_b l i
    refine br_f (nI_ge (by omega) (by omega)) ⟨vi, nm_r (e' := upd a4 i 0) (by rw [ec]) (pk_eq sh 1 (fun hs => ?_) (fun hs => ?_))⟩
    · have go := xx_f52 (post := post) (J := wX_setFourthWeights_4 post (nI l.length) (nI m) (nI bw) (nI sh) (nI tp) (d + 1)) (x1 := nI l.length) (al := al) (an := an) (aw := aw) (ae := ae) (ek := ek) (el := el) (m := m) (bw := bw) hl (show i < l.length by omega) hs hA0 pk_us (fun c1 c2 c3 c4 hc => ih (i + 1) c1 c2 c3 c4 _ (by omega) (fun _ => rfl) hc)
      refine ⟨vi, pk_eq (cd_f1 l i) 0 (fun y => ?_) (fun y => ⟨vi, pk_lt tp (cd_f1 l i) (fun t => ?_) (fun t => ?_) rfl (by rw [ec]; exact g1)⟩) (by rw [ec]; exact g1)⟩
      · rw [hx hs, ← cd_am_0 y]
        exact go
      · rw [cd_am_f y (by omega)] at go
        exact go
      · rw [cd_am_t y (by omega)] at go
        exact go
    · obtain ⟨F1, F2, F3, F4⟩ := cd_F_0 (sh := sh) (tp := tp) (l := l) (k := i) (by omega)
      refine nm_r (nI_1 i) (ih (i + 1) a1 a2 a3 _ x2 (by omega) (fun q => absurd q hs) (cd_AH_s hA0 ?_ ?_ ?_ ?_ (fun k hk => ⟨rfl, rfl, rfl, rfl⟩)))
      · rw [F1]; exact g1
      · rw [F2]; exact g2
      · rw [F3]; exact g3
      · rw [F4]; exact pk_us
theorem xx_f4 {post : SX → Prop} {l : List Nat} (hl : l.length ≤ 24) (hsh : sh ≤ 1) (htp : tp ≤ 30) (hA : cd_A3 l e1 e2 e3)
    (K : ∀ a1 a2 a3 a4, cd_AF sh tp l a1 a2 a3 a4 → post (nI m, nI bw, nI sh, nI tp, al, an, aw, ae, a1, a2, a3, a4, ek, el)) : wpX_setFourthWeights post (nI m, nI bw, nI sh, nI tp, al, an, aw, ae, e1, e2, e3, e4, ek, el) (nI l.length) :=
  ⟨l.length + 1, xx_f4_l hl hsh htp K l.length 0 e1 e2 e3 e4 0 (by omega) (fun _ => rfl) (cd_AH_0 hA)⟩
end
