/-! small arithmetic over nI, the longest word by cases, the relation -/
theorem cd_i12 (s k : Nat) : nI s * 12 + nI k = nI (12 * s + k) := by
  show nI s * nI 12 + nI k = _
  rw [pk_mul, nI_add, Nat.mul_comm]
theorem cd_i12s (s : Nat) : nI s * 12 = nI (12 * s) := by
  show nI s * nI 12 = _
  rw [pk_mul, Nat.mul_comm]
theorem cd_j12 (s k : Nat) : 12 * nI s + nI k = nI (12 * s + k) := by
  show nI 12 * nI s + nI k = _
  rw [pk_mul, nI_add]
theorem cd_j12s (s : Nat) : 12 * nI s = nI (12 * s) := pk_mul 12 s
theorem cd_i99 (s k : Nat) : nI s * 99 + nI k = nI (99 * s + k) := by
  show nI s * nI 99 + nI k = _
  rw [pk_mul, nI_add, Nat.mul_comm]
theorem cd_i99s (s : Nat) : nI s * 99 = nI (99 * s) := by
  show nI s * nI 99 = _
  rw [pk_mul, Nat.mul_comm]
theorem cd_j110 (s k : Nat) : 110 * nI s + nI k = nI (110 * s + k) := by
  show nI 110 * nI s + nI k = _
  rw [pk_mul, nI_add]
theorem cd_2p (p : Nat) : 2 * nI p = nI (2 * p) := pk_mul 2 p
theorem cd_2q (p : Nat) : 2 * nI p + 1 = nI (2 * p + 1) := by rw [cd_2p, nI_1]
theorem cd_10 (p : Nat) : 10 + nI p = nI (10 + p) := nI_add 10 p
theorem cd_rd {a : Nat → Int32} {x : Int32} (n : Nat) (hx : x = nI n := by rfl) (hn : n < 2 ^ 31 := by omega) : a x.toNatClampNeg = a n := by
  subst hx
  rw [nI_clamp hn]
theorem cd_n10 : ¬ (1 : Int32) = 0 := by decide
theorem cd_n1m : ¬ (-1 : Int32) = 0 := by decide
theorem cd_TB_none {m : Nat} {G : Nat → Option (Nat × Option Nat)} {W A : Nat → Nat} {B : Nat → Option Nat} {w : Nat} (h : cd_TB m G W A B) (hn : ∀ p, p < 10 + m → ¬ W p = w) : G w = none := by
  cases z : G w with
  | none => rfl
  | some x =>
    obtain ⟨p, hp, e⟩ := h.2.2.2 w (by rw [z]; exact fun q => by cases q)
    exact absurd e (hn p hp)
theorem cd_TB_some {m : Nat} {G : Nat → Option (Nat × Option Nat)} {W A : Nat → Nat} {B : Nat → Option Nat} {p : Nat} (h : cd_TB m G W A B) (hp : p < 10 + m) : ¬ G (W p) = none := by
  rw [(h.1 p hp).2]
  exact fun q => by cases q
section
variable {G : Nat → Option (Nat × Option Nat)} {c : Nat → Nat} {p q : Nat}
theorem cd_lw3 (h : p + 3 ≤ q) (z : ¬ G (cd_w3 c p) = none) : cd_mt G c p q = 3 := by
  unfold cd_mt
  rw [if_pos ⟨h, z⟩]
theorem cd_lw2 (h3 : p + 3 ≤ q → G (cd_w3 c p) = none) (h : p + 2 ≤ q) (z : ¬ G (cd_w2 c p) = none) : cd_mt G c p q = 2 := by
  unfold cd_mt
  rw [if_neg (fun x => x.2 (h3 x.1)), if_pos ⟨h, z⟩]
theorem cd_lw1 (h3 : p + 3 ≤ q → G (cd_w3 c p) = none) (h2 : p + 2 ≤ q → G (cd_w2 c p) = none) : cd_mt G c p q = 1 := by
  unfold cd_mt
  rw [if_neg (fun x => x.2 (h3 x.1)), if_neg (fun x => x.2 (h2 x.1))]
theorem cd_wd3 (h : cd_mt G c p q = 3) : cd_wd c p (cd_mt G c p q) = cd_w3 c p := by rw [h]; rfl
theorem cd_wd2 (h : cd_mt G c p q = 2) : cd_wd c p (cd_mt G c p q) = cd_w2 c p := by rw [h]; rfl
theorem cd_wd1 (h : cd_mt G c p q = 1) : cd_wd c p (cd_mt G c p q) = cd_w1 c p := by rw [h]; rfl
end
theorem cd_EL_go {m : Nat} {G : Nat → Option (Nat × Option Nat)} {W A : Nat → Nat} {B : Nat → Option Nat} {c : Nat → Nat} {i q f : Nat} {l R : List Nat} (h : cd_TB m G W A B) (hf : f < 10 + m) (hW : W f = cd_wd c i (cd_mt G c i q)) (hi : i < q)
    (e : l ++ cd_EL G c i q = R) : ((l ++ [A f]) ++ (B f).toList) ++ cd_EL G c (i + cd_mt G c i q) q = R := by
  rw [← e, cd_EL_cons hi, ← hW, cd_TB_at h hf]
  simp only [List.append_assoc, List.cons_append, List.nil_append]
def i_Rel (_ : Nat) (u : SX) (v : SY) : Prop :=
  ∃ (m bw sh tp : Nat) (L c : Nat → Nat) (G : Nat → Option (Nat × Option Nat)) (al an aw ae e1 e2 e3 e4 ek el : Nat → Int32) (fm : Int32) (vn vl vw vc vo vt g1 g2 g3 g4 gs gk : Nat → Int32),
    u = (nI m, nI bw, nI sh, nI tp, al, an, aw, ae, e1, e2, e3, e4, ek, el) ∧
    v = (nI m, nI bw, nI sh, nI tp, fm, vn, vl, vw, vc, vo, vt, g1, g2, g3, g4, gs, gk) ∧
    cd_D m bw sh tp L c G ∧ cd_ST L c an al ∧ cd_XT m G aw ae ∧ cd_ST L c vn vl ∧ cd_YT m G vw vc vo vt
theorem cd_R {k m bw sh tp : Nat} {L c : Nat → Nat} {G : Nat → Option (Nat × Option Nat)} {al an aw ae e1 e2 e3 e4 ek el : Nat → Int32} {fm : Int32} {vn vl vw vc vo vt g1 g2 g3 g4 gs gk : Nat → Int32}
    (hD : cd_D m bw sh tp L c G) (h1 : cd_ST L c an al) (h2 : cd_XT m G aw ae) (h3 : cd_ST L c vn vl) (h4 : cd_YT m G vw vc vo vt) :
    i_Rel k (nI m, nI bw, nI sh, nI tp, al, an, aw, ae, e1, e2, e3, e4, ek, el) (nI m, nI bw, nI sh, nI tp, fm, vn, vl, vw, vc, vo, vt, g1, g2, g3, g4, gs, gk) :=
  ⟨m, bw, sh, tp, L, c, G, al, an, aw, ae, e1, e2, e3, e4, ek, el, fm, vn, vl, vw, vc, vo, vt, g1, g2, g3, g4, gs, gk, rfl, rfl, hD, h1, h2, h3, h4⟩
