/-! the component: keys -/
section
variable {m bw sh tp : Nat} {al an aw ae e1 e2 e3 e4 ek el : Nat → Int32}
theorem xx_ap1_l {post : Int32 → SX → Prop} {b n : Nat} {l0 : List Nat} {g : Nat → Nat} (hn : n ≤ 24) (hg : ∀ k, k < n → e1 k = nI (g k)) (hgb : ∀ k, g k ≤ 31) (hb : b + 99 ≤ 1089) (hl : l0.length + n ≤ 99)
    (K : ∀ ak, cd_HD ak b (l0 ++ cd_flt g n) → cd_FR b 99 ek ak → post (nI (b + (l0 ++ cd_flt g n).length)) (nI m, nI bw, nI sh, nI tp, al, an, aw, ae, e1, e2, e3, e4, ak, el)) :
    ∀ d i ak, i + d = n → cd_HD ak b (l0 ++ cd_flt g i) → cd_FR b 99 ek ak → wX_appendWeights__firsts_6 post (nI n) (nI m) (nI bw) (nI sh) (nI tp) (d + 1) (nI (b + (l0 ++ cd_flt g i).length)) (nI i) al an aw ae e1 e2 e3 e4 ak el := by
  intro d
  induction d with
  | zero =>
    intro i ak hi hH hF
    have hil : i = n := by omega
    subst hil
    exact br_t (nI_le (Nat.le_refl _) (by omega)) (K ak hH hF)
  | succ d ih =>
    intro i ak hi hH hF
    have vi : vp_in (nI i) 24 := vp_in_nI (by omega) (by omega)
    have ei : e1 (nI i).toNatClampNeg = nI (g i) := by rw [nI_clamp (by omega)]; exact hg i (by omega)
    have b1 := hgb i
    have hlen : (l0 ++ cd_flt g i).length ≤ l0.length + i := by rw [List.length_append]; have := cd_flt_le g i; omega
    refine br_f (nI_ge (by omega) (by omega)) ⟨vi, pk_eq (g i) 0 (fun z => ?_) (fun z => ⟨vi, pk_in (b + (l0 ++ cd_flt g i).length) 1089 (by omega), ?_⟩) ei⟩
    · have := ih (i + 1) ak (by omega) (by rw [cd_flt_0 z]; exact hH) hF
      rw [cd_flt_0 z] at this
      exact nm_r (nI_1 i) this
    · have e6 : l0 ++ cd_flt g (i + 1) = (l0 ++ cd_flt g i) ++ [g i] := by rw [cd_flt_1 z, List.append_assoc]
      have := ih (i + 1) (upd ak (b + (l0 ++ cd_flt g i).length) (nI (g i))) (by omega) (by rw [e6]; exact cd_HD_put hH) (cd_FR_u hF (by omega) (by omega))
      rw [e6, show b + ((l0 ++ cd_flt g i) ++ [g i]).length = b + (l0 ++ cd_flt g i).length + 1 by rw [List.length_append (as := l0 ++ cd_flt g i)]; rfl] at this
      refine nm_r (e' := upd ak (b + (l0 ++ cd_flt g i).length) (nI (g i))) ?_ (nm_r (nI_1 _) (nm_r (nI_1 i) this))
      rw [ei, nI_clamp (by omega)]
theorem xx_ap1 {post : Int32 → SX → Prop} {x : Int32} {b n : Nat} {l0 : List Nat} {g : Nat → Nat} (hx : x = nI (b + l0.length)) (hn : n ≤ 24) (hg : ∀ k, k < n → e1 k = nI (g k)) (hgb : ∀ k, g k ≤ 31) (hb : b + 99 ≤ 1089) (hl : l0.length + n ≤ 99) (hH : cd_HD ek b l0)
    (K : ∀ ak, cd_HD ak b (l0 ++ cd_flt g n) → cd_FR b 99 ek ak → post (nI (b + (l0 ++ cd_flt g n).length)) (nI m, nI bw, nI sh, nI tp, al, an, aw, ae, e1, e2, e3, e4, ak, el)) : wpX_appendWeights__firsts post (nI m, nI bw, nI sh, nI tp, al, an, aw, ae, e1, e2, e3, e4, ek, el) x (nI n) := by
  subst hx
  have h0 : l0 ++ cd_flt g 0 = l0 := List.append_nil l0
  have := xx_ap1_l (m := m) (bw := bw) (sh := sh) (tp := tp) (al := al) (an := an) (aw := aw) (ae := ae) (e1 := e1) (e2 := e2) (e3 := e3) (e4 := e4) (el := el) hn hg hgb hb hl K n 0 ek (by omega) (by rw [h0]; exact hH) cd_FR_r
  rw [h0] at this
  exact ⟨n + 1, this⟩
theorem xx_ap2_l {post : Int32 → SX → Prop} {b n : Nat} {l0 : List Nat} {g : Nat → Nat} (hn : n ≤ 24) (hg : ∀ k, k < n → e2 k = nI (g k)) (hgb : ∀ k, g k ≤ 31) (hb : b + 99 ≤ 1089) (hl : l0.length + n ≤ 99)
    (K : ∀ ak, cd_HD ak b (l0 ++ cd_flt g n) → cd_FR b 99 ek ak → post (nI (b + (l0 ++ cd_flt g n).length)) (nI m, nI bw, nI sh, nI tp, al, an, aw, ae, e1, e2, e3, e4, ak, el)) :
    ∀ d i ak, i + d = n → cd_HD ak b (l0 ++ cd_flt g i) → cd_FR b 99 ek ak → wX_appendWeights__seconds_6 post (nI n) (nI m) (nI bw) (nI sh) (nI tp) (d + 1) (nI (b + (l0 ++ cd_flt g i).length)) (nI i) al an aw ae e1 e2 e3 e4 ak el := by
  intro d
  induction d with
  | zero =>
    intro i ak hi hH hF
    have hil : i = n := by omega
    subst hil
    exact br_t (nI_le (Nat.le_refl _) (by omega)) (K ak hH hF)
  | succ d ih =>
    intro i ak hi hH hF
    have vi : vp_in (nI i) 24 := vp_in_nI (by omega) (by omega)
    have ei : e2 (nI i).toNatClampNeg = nI (g i) := by rw [nI_clamp (by omega)]; exact hg i (by omega)
    have b1 := hgb i
    have hlen : (l0 ++ cd_flt g i).length ≤ l0.length + i := by rw [List.length_append]; have := cd_flt_le g i; omega
    refine br_f (nI_ge (by omega) (by omega)) ⟨vi, pk_eq (g i) 0 (fun z => ?_) (fun z => ⟨vi, pk_in (b + (l0 ++ cd_flt g i).length) 1089 (by omega), ?_⟩) ei⟩
    · have := ih (i + 1) ak (by omega) (by rw [cd_flt_0 z]; exact hH) hF
      rw [cd_flt_0 z] at this
      exact nm_r (nI_1 i) this
    · have e6 : l0 ++ cd_flt g (i + 1) = (l0 ++ cd_flt g i) ++ [g i] := by rw [cd_flt_1 z, List.append_assoc]
      have := ih (i + 1) (upd ak (b + (l0 ++ cd_flt g i).length) (nI (g i))) (by omega) (by rw [e6]; exact cd_HD_put hH) (cd_FR_u hF (by omega) (by omega))
      rw [e6, show b + ((l0 ++ cd_flt g i) ++ [g i]).length = b + (l0 ++ cd_flt g i).length + 1 by rw [List.length_append (as := l0 ++ cd_flt g i)]; rfl] at this
      refine nm_r (e' := upd ak (b + (l0 ++ cd_flt g i).length) (nI (g i))) ?_ (nm_r (nI_1 _) (nm_r (nI_1 i) this))
      rw [ei, nI_clamp (by omega)]
theorem xx_ap2 {post : Int32 → SX → Prop} {x : Int32} {b n : Nat} {l0 : List Nat} {g : Nat → Nat} (hx : x = nI (b + l0.length)) (hn : n ≤ 24) (hg : ∀ k, k < n → e2 k = nI (g k)) (hgb : ∀ k, g k ≤ 31) (hb : b + 99 ≤ 1089) (hl : l0.length + n ≤ 99) (hH : cd_HD ek b l0)
    (K : ∀ ak, cd_HD ak b (l0 ++ cd_flt g n) → cd_FR b 99 ek ak → post (nI (b + (l0 ++ cd_flt g n).length)) (nI m, nI bw, nI sh, nI tp, al, an, aw, ae, e1, e2, e3, e4, ak, el)) : wpX_appendWeights__seconds post (nI m, nI bw, nI sh, nI tp, al, an, aw, ae, e1, e2, e3, e4, ek, el) x (nI n) := by
  subst hx
  have h0 : l0 ++ cd_flt g 0 = l0 := List.append_nil l0
  have := xx_ap2_l (m := m) (bw := bw) (sh := sh) (tp := tp) (al := al) (an := an) (aw := aw) (ae := ae) (e1 := e1) (e2 := e2) (e3 := e3) (e4 := e4) (el := el) hn hg hgb hb hl K n 0 ek (by omega) (by rw [h0]; exact hH) cd_FR_r
  rw [h0] at this
  exact ⟨n + 1, this⟩
theorem xx_ap3_l {post : Int32 → SX → Prop} {b n : Nat} {l0 : List Nat} {g : Nat → Nat} (hn : n ≤ 24) (hg : ∀ k, k < n → e3 k = nI (g k)) (hgb : ∀ k, g k ≤ 31) (hb : b + 99 ≤ 1089) (hl : l0.length + n ≤ 99)
    (K : ∀ ak, cd_HD ak b (l0 ++ cd_flt g n) → cd_FR b 99 ek ak → post (nI (b + (l0 ++ cd_flt g n).length)) (nI m, nI bw, nI sh, nI tp, al, an, aw, ae, e1, e2, e3, e4, ak, el)) :
    ∀ d i ak, i + d = n → cd_HD ak b (l0 ++ cd_flt g i) → cd_FR b 99 ek ak → wX_appendWeights__thirds_6 post (nI n) (nI m) (nI bw) (nI sh) (nI tp) (d + 1) (nI (b + (l0 ++ cd_flt g i).length)) (nI i) al an aw ae e1 e2 e3 e4 ak el := by
  intro d
  induction d with
  | zero =>
    intro i ak hi hH hF
    have hil : i = n := by omega
    subst hil
    exact br_t (nI_le (Nat.le_refl _) (by omega)) (K ak hH hF)
  | succ d ih =>
    intro i ak hi hH hF
    have vi : vp_in (nI i) 24 := vp_in_nI (by omega) (by omega)
    have ei : e3 (nI i).toNatClampNeg = nI (g i) := by rw [nI_clamp (by omega)]; exact hg i (by omega)
    have b1 := hgb i
    have hlen : (l0 ++ cd_flt g i).length ≤ l0.length + i := by rw [List.length_append]; have := cd_flt_le g i; omega
    refine br_f (nI_ge (by omega) (by omega)) ⟨vi, pk_eq (g i) 0 (fun z => ?_) (fun z => ⟨vi, pk_in (b + (l0 ++ cd_flt g i).length) 1089 (by omega), ?_⟩) ei⟩
    · have := ih (i + 1) ak (by omega) (by rw [cd_flt_0 z]; exact hH) hF
      rw [cd_flt_0 z] at this
      exact nm_r (nI_1 i) this
    · have e6 : l0 ++ cd_flt g (i + 1) = (l0 ++ cd_flt g i) ++ [g i] := by rw [cd_flt_1 z, List.append_assoc]
      have := ih (i + 1) (upd ak (b + (l0 ++ cd_flt g i).length) (nI (g i))) (by omega) (by rw [e6]; exact cd_HD_put hH) (cd_FR_u hF (by omega) (by omega))
      rw [e6, show b + ((l0 ++ cd_flt g i) ++ [g i]).length = b + (l0 ++ cd_flt g i).length + 1 by rw [List.length_append (as := l0 ++ cd_flt g i)]; rfl] at this
      refine nm_r (e' := upd ak (b + (l0 ++ cd_flt g i).length) (nI (g i))) ?_ (nm_r (nI_1 _) (nm_r (nI_1 i) this))
      rw [ei, nI_clamp (by omega)]
theorem xx_ap3 {post : Int32 → SX → Prop} {x : Int32} {b n : Nat} {l0 : List Nat} {g : Nat → Nat} (hx : x = nI (b + l0.length)) (hn : n ≤ 24) (hg : ∀ k, k < n → e3 k = nI (g k)) (hgb : ∀ k, g k ≤ 31) (hb : b + 99 ≤ 1089) (hl : l0.length + n ≤ 99) (hH : cd_HD ek b l0)
    (K : ∀ ak, cd_HD ak b (l0 ++ cd_flt g n) → cd_FR b 99 ek ak → post (nI (b + (l0 ++ cd_flt g n).length)) (nI m, nI bw, nI sh, nI tp, al, an, aw, ae, e1, e2, e3, e4, ak, el)) : wpX_appendWeights__thirds post (nI m, nI bw, nI sh, nI tp, al, an, aw, ae, e1, e2, e3, e4, ek, el) x (nI n) := by
  subst hx
  have h0 : l0 ++ cd_flt g 0 = l0 := List.append_nil l0
  have := xx_ap3_l (m := m) (bw := bw) (sh := sh) (tp := tp) (al := al) (an := an) (aw := aw) (ae := ae) (e1 := e1) (e2 := e2) (e3 := e3) (e4 := e4) (el := el) hn hg hgb hb hl K n 0 ek (by omega) (by rw [h0]; exact hH) cd_FR_r
  rw [h0] at this
  exact ⟨n + 1, this⟩
theorem xx_ap4_l {post : Int32 → SX → Prop} {b n : Nat} {l0 : List Nat} {g : Nat → Nat} (hn : n ≤ 24) (hg : ∀ k, k < n → e4 k = nI (g k)) (hgb : ∀ k, g k ≤ 31) (hb : b + 99 ≤ 1089) (hl : l0.length + n ≤ 99)
    (K : ∀ ak, cd_HD ak b (l0 ++ cd_flt g n) → cd_FR b 99 ek ak → post (nI (b + (l0 ++ cd_flt g n).length)) (nI m, nI bw, nI sh, nI tp, al, an, aw, ae, e1, e2, e3, e4, ak, el)) :
    ∀ d i ak, i + d = n → cd_HD ak b (l0 ++ cd_flt g i) → cd_FR b 99 ek ak → wX_appendWeights__fourths_6 post (nI n) (nI m) (nI bw) (nI sh) (nI tp) (d + 1) (nI (b + (l0 ++ cd_flt g i).length)) (nI i) al an aw ae e1 e2 e3 e4 ak el := by
  intro d
  induction d with
  | zero =>
    intro i ak hi hH hF
    have hil : i = n := by omega
    subst hil
    exact br_t (nI_le (Nat.le_refl _) (by omega)) (K ak hH hF)
  | succ d ih =>
    intro i ak hi hH hF
    have vi : vp_in (nI i) 24 := vp_in_nI (by omega) (by omega)
    have ei : e4 (nI i).toNatClampNeg = nI (g i) := by rw [nI_clamp (by omega)]; exact hg i (by omega)
    have b1 := hgb i
    have hlen : (l0 ++ cd_flt g i).length ≤ l0.length + i := by rw [List.length_append]; have := cd_flt_le g i; omega
    refine br_f (nI_ge (by omega) (by omega)) ⟨vi, pk_eq (g i) 0 (fun z => ?_) (fun z => ⟨vi, pk_in (b + (l0 ++ cd_flt g i).length) 1089 (by omega), ?_⟩) ei⟩
    · have := ih (i + 1) ak (by omega) (by rw [cd_flt_0 z]; exact hH) hF
      rw [cd_flt_0 z] at this
      exact nm_r (nI_1 i) this
    · have e6 : l0 ++ cd_flt g (i + 1) = (l0 ++ cd_flt g i) ++ [g i] := by rw [cd_flt_1 z, List.append_assoc]
      have := ih (i + 1) (upd ak (b + (l0 ++ cd_flt g i).length) (nI (g i))) (by omega) (by rw [e6]; exact cd_HD_put hH) (cd_FR_u hF (by omega) (by omega))
      rw [e6, show b + ((l0 ++ cd_flt g i) ++ [g i]).length = b + (l0 ++ cd_flt g i).length + 1 by rw [List.length_append (as := l0 ++ cd_flt g i)]; rfl] at this
      refine nm_r (e' := upd ak (b + (l0 ++ cd_flt g i).length) (nI (g i))) ?_ (nm_r (nI_1 _) (nm_r (nI_1 i) this))
      rw [ei, nI_clamp (by omega)]
theorem xx_ap4 {post : Int32 → SX → Prop} {x : Int32} {b n : Nat} {l0 : List Nat} {g : Nat → Nat} (hx : x = nI (b + l0.length)) (hn : n ≤ 24) (hg : ∀ k, k < n → e4 k = nI (g k)) (hgb : ∀ k, g k ≤ 31) (hb : b + 99 ≤ 1089) (hl : l0.length + n ≤ 99) (hH : cd_HD ek b l0)
    (K : ∀ ak, cd_HD ak b (l0 ++ cd_flt g n) → cd_FR b 99 ek ak → post (nI (b + (l0 ++ cd_flt g n).length)) (nI m, nI bw, nI sh, nI tp, al, an, aw, ae, e1, e2, e3, e4, ak, el)) : wpX_appendWeights__fourths post (nI m, nI bw, nI sh, nI tp, al, an, aw, ae, e1, e2, e3, e4, ek, el) x (nI n) := by
  subst hx
  have h0 : l0 ++ cd_flt g 0 = l0 := List.append_nil l0
  have := xx_ap4_l (m := m) (bw := bw) (sh := sh) (tp := tp) (al := al) (an := an) (aw := aw) (ae := ae) (e1 := e1) (e2 := e2) (e3 := e3) (e4 := e4) (el := el) hn hg hgb hb hl K n 0 ek (by omega) (by rw [h0]; exact hH) cd_FR_r
  rw [h0] at this
  exact ⟨n + 1, this⟩
theorem xx_bk_l {post : Int32 → SX → Prop} {b n : Nat} {l0 : List Nat} {g : Nat → Nat} (hn : n ≤ 24) (hg : ∀ k, k < n → e2 k = nI (g k)) (hgb : ∀ k, g k ≤ 31) (hb : b + 99 ≤ 1089) (hl : l0.length + n ≤ 99)
    (K : ∀ ak, cd_HD ak b (l0 ++ cd_flt (fun k => g (n - 1 - k)) n) → cd_FR b 99 ek ak → post (nI (b + (l0 ++ cd_flt (fun k => g (n - 1 - k)) n).length)) (nI m, nI bw, nI sh, nI tp, al, an, aw, ae, e1, e2, e3, e4, ak, el)) :
    ∀ d i ak, i + d = n → cd_HD ak b (l0 ++ cd_flt (fun k => g (n - 1 - k)) i) → cd_FR b 99 ek ak → wX_appendWeightsBackwards__seconds_8 post (nI m) (nI bw) (nI sh) (nI tp) (d + 1) (nI (b + (l0 ++ cd_flt (fun k => g (n - 1 - k)) i).length)) (nI d + (-1)) al an aw ae e1 e2 e3 e4 ak el := by
  intro d
  induction d with
  | zero =>
    intro i ak hi hH hF
    have hil : i = n := by omega
    subst hil
    exact br_t (by decide) (K ak hH hF)
  | succ d ih =>
    intro i ak hi hH hF
    rw [pk_m1]
    have hd : n - 1 - i = d := by omega
    have vi : vp_in (nI d) 24 := vp_in_nI (by omega) (by omega)
    have ei : e2 (nI d).toNatClampNeg = nI (g (n - 1 - i)) := by rw [nI_clamp (by omega), hd]; exact hg d (by omega)
    have b1 := hgb (n - 1 - i)
    have hlen : (l0 ++ cd_flt (fun k => g (n - 1 - k)) i).length ≤ l0.length + i := by rw [List.length_append]; have := cd_flt_le (fun k => g (n - 1 - k)) i; omega
    refine br_f (nI_pos (by omega)) ⟨vi, pk_eq (g (n - 1 - i)) 0 (fun z => ?_) (fun z => ⟨vi, pk_in (b + (l0 ++ cd_flt (fun k => g (n - 1 - k)) i).length) 1089 (by omega), ?_⟩) ei⟩
    · have z' : (fun k => g (n - 1 - k)) i = 0 := z
      have := ih (i + 1) ak (by omega) (by rw [cd_flt_0 (g := fun k => g (n - 1 - k)) z']; exact hH) hF
      rw [cd_flt_0 (g := fun k => g (n - 1 - k)) z'] at this
      exact nm_e this
    · have e6 : l0 ++ cd_flt (fun k => g (n - 1 - k)) (i + 1) = (l0 ++ cd_flt (fun k => g (n - 1 - k)) i) ++ [g (n - 1 - i)] := by rw [cd_flt_1 (g := fun k => g (n - 1 - k)) z, List.append_assoc]
      have := ih (i + 1) (upd ak (b + (l0 ++ cd_flt (fun k => g (n - 1 - k)) i).length) (nI (g (n - 1 - i)))) (by omega) (by rw [e6]; exact cd_HD_put hH) (cd_FR_u hF (by omega) (by omega))
      rw [e6, show b + ((l0 ++ cd_flt (fun k => g (n - 1 - k)) i) ++ [g (n - 1 - i)]).length = b + (l0 ++ cd_flt (fun k => g (n - 1 - k)) i).length + 1 by rw [List.length_append (as := l0 ++ cd_flt (fun k => g (n - 1 - k)) i)]; rfl] at this
      refine nm_r (e' := upd ak (b + (l0 ++ cd_flt (fun k => g (n - 1 - k)) i).length) (nI (g (n - 1 - i)))) ?_ (nm_r (nI_1 _) (nm_e this))
      rw [ei, nI_clamp (by omega)]
theorem xx_bk {post : Int32 → SX → Prop} {x : Int32} {b n : Nat} {l0 : List Nat} {g : Nat → Nat} (hx : x = nI (b + l0.length)) (hn : n ≤ 24) (hg : ∀ k, k < n → e2 k = nI (g k)) (hgb : ∀ k, g k ≤ 31) (hb : b + 99 ≤ 1089) (hl : l0.length + n ≤ 99) (hH : cd_HD ek b l0)
    (K : ∀ ak, cd_HD ak b (l0 ++ cd_flt (fun k => g (n - 1 - k)) n) → cd_FR b 99 ek ak → post (nI (b + (l0 ++ cd_flt (fun k => g (n - 1 - k)) n).length)) (nI m, nI bw, nI sh, nI tp, al, an, aw, ae, e1, e2, e3, e4, ak, el)) : wpX_appendWeightsBackwards__seconds post (nI m, nI bw, nI sh, nI tp, al, an, aw, ae, e1, e2, e3, e4, ek, el) x (nI n) := by
  subst hx
  have h0 : l0 ++ cd_flt (fun k => g (n - 1 - k)) 0 = l0 := List.append_nil l0
  have := xx_bk_l (m := m) (bw := bw) (sh := sh) (tp := tp) (al := al) (an := an) (aw := aw) (ae := ae) (e1 := e1) (e2 := e2) (e3 := e3) (e4 := e4) (el := el) hn hg hgb hb hl K n 0 ek (by omega) (by rw [h0]; exact hH) cd_FR_r
  rw [h0] at this
  exact nm_r (e' := nI n + (-1)) (Int32.sub_eq_add_neg _ _) ⟨n + 1, this⟩
/-! writing a key -/
variable {G : Nat → Option (Nat × Option Nat)} {W A : Nat → Nat} {B : Nat → Option Nat} {c : Nat → Nat}
theorem xx_k149 {post : SX → Prop} {key : Nat} {ak : Nat → Int32} {R : List Nat} (hkey : key < 11) (hR : R.length ≤ 99) (hRb : ∀ x ∈ R, x ≤ 31) (hH : cd_HD ak (99 * key) R) (hF : cd_FR (99 * key) 99 ek ak)
    (K : ∀ ak al', cd_KT (99 * key) key ak al' R → (∀ j J, ¬ j = key → cd_KT (99 * j) j ek el J → cd_KT (99 * j) j ak al' J) → post (nI m, nI bw, nI sh, nI tp, al, an, aw, ae, e1, e2, e3, e4, ak, al')) :
    wX_writeKey_149 post (nI key) (nI (99 * key)) (nI (99 * key + R.length)) (nI m) (nI bw) (nI sh) (nI tp) al an aw ae e1 e2 e3 e4 ak el := by
  refine ⟨vp_in_nI hkey (by omega), nm_r (e' := upd el key (nI R.length)) ?_ (K _ _ ⟨hH, pk_us, hR, hRb⟩ (fun j J hj hJ => cd_KT_fr hJ hF (by omega) (pk_un hj)))⟩
  rw [nI_clamp (by omega), pk_sub (by omega), Nat.add_sub_cancel_left]
theorem xx_k119 {post : SX → Prop} {key n s : Nat} {ak : Nat → Int32} {l : List Nat} (hkey : key < 11) (hl : l.length ≤ 24) (hn : n ≤ 4) (hs : (s = n ∧ n ≤ 3) ∨ (s = 3 ∧ n = 4)) (hF4 : cd_AF sh tp l e1 e2 e3 e4)
    (hH : cd_HD ak (99 * key) (cd_KK sh tp bw l s)) (hF : cd_FR (99 * key) 99 ek ak)
    (K : ∀ ak al', cd_KT (99 * key) key ak al' (cd_KK sh tp bw l n) → (∀ j J, ¬ j = key → cd_KT (99 * j) j ek el J → cd_KT (99 * j) j ak al' J) → post (nI m, nI bw, nI sh, nI tp, al, an, aw, ae, e1, e2, e3, e4, ak, al')) :
    wX_writeKey_119 post (nI key) (nI n) (nI l.length) (nI (99 * key)) (nI (99 * key + (cd_KK sh tp bw l s).length)) (nI m) (nI bw) (nI sh) (nI tp) al an aw ae e1 e2 e3 e4 ak el := by
  have h99 := cd_KK_99 (sh := sh) (tp := tp) (bw := bw) hl n hn
  have hb := cd_KK_b sh tp bw l n
  refine pk_lt n 4 (fun z => ?_) (fun z => ?_)
  · obtain rfl : s = n := by omega
    exact xx_k149 hkey h99 hb hH hF K
  · obtain rfl : s = 3 := by omega
    obtain rfl : n = 4 := by omega
    have h3 : (cd_KK sh tp bw l 3).length ≤ (2 + 1) * l.length + 2 := cd_KK_le sh tp bw l 2
    have e7 : (cd_KK sh tp bw l 3 ++ [0]).length = (cd_KK sh tp bw l 3).length + 1 := by rw [List.length_append]; rfl
    refine ⟨pk_in (99 * key + (cd_KK sh tp bw l 3).length) 1089 (by omega), nm_r (e' := upd ak (99 * key + (cd_KK sh tp bw l 3).length) (nI 0)) (by rw [nI_clamp (by omega)]; rfl) ?_⟩
    refine xx_ap4 (l0 := cd_KK sh tp bw l 3 ++ [0]) (g := cd_F4 sh tp l) (by rw [e7, nI_1]; rfl) hl (fun k hk => (hF4 k hk).2.2.2) (cd_F4_b sh tp l) (by omega) (by omega) (cd_HD_put hH) (fun ak' hH' hF' => ?_)
    rw [← cd_KK_4 sh tp bw l] at hH' ⊢
    exact xx_k149 hkey h99 hb hH' (cd_FR_t (cd_FR_u hF (by omega) (by omega)) hF') K
theorem xx_k89 {post : SX → Prop} {key n s : Nat} {ak : Nat → Int32} {l : List Nat} (hkey : key < 11) (hl : l.length ≤ 24) (hn : n ≤ 4) (hs : (s = n ∧ n ≤ 2) ∨ (s = 2 ∧ 3 ≤ n)) (hF4 : cd_AF sh tp l e1 e2 e3 e4)
    (hH : cd_HD ak (99 * key) (cd_KK sh tp bw l s)) (hF : cd_FR (99 * key) 99 ek ak)
    (K : ∀ ak al', cd_KT (99 * key) key ak al' (cd_KK sh tp bw l n) → (∀ j J, ¬ j = key → cd_KT (99 * j) j ek el J → cd_KT (99 * j) j ak al' J) → post (nI m, nI bw, nI sh, nI tp, al, an, aw, ae, e1, e2, e3, e4, ak, al')) :
    wX_writeKey_89 post (nI key) (nI n) (nI l.length) (nI (99 * key)) (nI (99 * key + (cd_KK sh tp bw l s).length)) (nI m) (nI bw) (nI sh) (nI tp) al an aw ae e1 e2 e3 e4 ak el := by
  refine pk_lt n 3 (fun z => ?_) (fun z => ?_)
  · obtain rfl : s = n := by omega
    exact xx_k119 hkey hl hn (Or.inl ⟨rfl, by omega⟩) hF4 hH hF K
  · obtain rfl : s = 2 := by omega
    have h3 : (cd_KK sh tp bw l 2).length ≤ (1 + 1) * l.length + 1 := cd_KK_le sh tp bw l 1
    have e7 : (cd_KK sh tp bw l 2 ++ [0]).length = (cd_KK sh tp bw l 2).length + 1 := by rw [List.length_append]; rfl
    refine ⟨pk_in (99 * key + (cd_KK sh tp bw l 2).length) 1089 (by omega), nm_r (e' := upd ak (99 * key + (cd_KK sh tp bw l 2).length) (nI 0)) (by rw [nI_clamp (by omega)]; rfl) ?_⟩
    refine xx_ap3 (l0 := cd_KK sh tp bw l 2 ++ [0]) (g := cd_F3 sh tp l) (by rw [e7, nI_1]; rfl) hl (fun k hk => (hF4 k hk).2.2.1) (cd_F3_b sh tp l) (by omega) (by omega) (cd_HD_put hH) (fun ak' hH' hF' => ?_)
    rw [← cd_KK_3 sh tp bw l] at hH' ⊢
    exact xx_k119 hkey hl hn (by omega) hF4 hH' (cd_FR_t (cd_FR_u hF (by omega) (by omega)) hF') K
theorem xx_wk {post : SX → Prop} {key p q n : Nat} (hT : cd_TB m G W A B) (hC : cd_XC m W A B aw ae) (hm : m ≤ 6) (hG : cd_OK G) (hsh : sh ≤ 1) (htp : tp ≤ 30) (hbw : bw ≤ 1) (hkey : key < 11) (hpq : p ≤ q) (hq : q ≤ p + 12) (hq2 : q ≤ 120) (hc : cd_CL c al p q) (hn1 : 1 ≤ n) (hn : n ≤ 4)
    (K : ∀ a1 a2 a3 a4 ak al', cd_KT (99 * key) key ak al' (cd_KE sh tp bw G c p q n) → (∀ j J, ¬ j = key → cd_KT (99 * j) j ek el J → cd_KT (99 * j) j ak al' J) → post (nI m, nI bw, nI sh, nI tp, al, an, aw, ae, a1, a2, a3, a4, ak, al')) :
    wpX_writeKey post (nI m, nI bw, nI sh, nI tp, al, an, aw, ae, e1, e2, e3, e4, ek, el) (nI key) (nI p) (nI q) (nI n) := by
  have hl : (cd_EL G c p q).length ≤ 24 := cd_EL_12 hq
  unfold cd_KE at K
  unfold wpX_writeKey
  refine xx_ga hT hC hm hG hpq hq hq2 hc (fun a1 a2 a3 hA => ?_)
  generalize cd_EL G c p q = l at hl hA K ⊢
  refine xx_f4 hl hsh htp hA (fun b1 b2 b3 b4 hF4 => ?_)
  refine nm_r (cd_i99s key) ?_
  refine xx_ap1 (l0 := []) (b := 99 * key) (g := cd_F1 sh tp l) rfl hl (fun k hk => (hF4 k hk).1) (cd_F1_b sh tp l) (by omega) (by show 0 + l.length ≤ 99; omega) cd_HD_nil (fun ak hH hF => ?_)
  rw [List.nil_append, ← cd_KK_1 sh tp bw l] at hH ⊢
  refine pk_lt n 2 (fun z => ?_) (fun z => ?_)
  · obtain rfl : n = 1 := by omega
    exact xx_k89 hkey hl hn (by omega) hF4 hH hF (fun ak' al' => K b1 b2 b3 b4 ak' al')
  · have h3 : (cd_KK sh tp bw l 1).length ≤ (0 + 1) * l.length + 0 := cd_KK_le sh tp bw l 0
    have e7 : (cd_KK sh tp bw l 1 ++ [0]).length = (cd_KK sh tp bw l 1).length + 1 := by rw [List.length_append]; rfl
    refine ⟨pk_in (99 * key + (cd_KK sh tp bw l 1).length) 1089 (by omega), nm_r (e' := upd ak (99 * key + (cd_KK sh tp bw l 1).length) (nI 0)) (by rw [nI_clamp (by omega)]; rfl) ?_⟩
    refine pk_eq bw 1 (fun hb => ?_) (fun hb => ?_)
    · refine xx_bk (l0 := cd_KK sh tp bw l 1 ++ [0]) (g := cd_F2 sh tp l) (by rw [e7, nI_1]; rfl) hl (fun k hk => (hF4 k hk).2.1) (cd_F2_b sh tp l) (by omega) (by omega) (cd_HD_put hH) (fun ak' hH' hF' => ?_)
      rw [← cd_KK_2b sh tp bw l hb] at hH' ⊢
      exact xx_k89 (s := 2) hkey hl hn (by omega) hF4 hH' (cd_FR_t (cd_FR_u hF (by omega) (by omega)) hF') (fun ak' al' => K b1 b2 b3 b4 ak' al')
    · refine xx_ap2 (l0 := cd_KK sh tp bw l 1 ++ [0]) (g := cd_F2 sh tp l) (by rw [e7, nI_1]; rfl) hl (fun k hk => (hF4 k hk).2.1) (cd_F2_b sh tp l) (by omega) (by omega) (cd_HD_put hH) (fun ak' hH' hF' => ?_)
      rw [← cd_KK_2 sh tp bw l hb] at hH' ⊢
      exact xx_k89 (s := 2) hkey hl hn (by omega) hF4 hH' (cd_FR_t (cd_FR_u hF (by omega) (by omega)) hF') (fun ak' al' => K b1 b2 b3 b4 ak' al')
end
