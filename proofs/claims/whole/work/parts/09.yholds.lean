/-! the reference's cells; the start -/
section
variable {m : Nat} {G : Nat → Option (Nat × Option Nat)} {W A : Nat → Nat} {B : Nat → Option Nat} {vw vc vo vt : Nat → Int32}
def cd_YC (m : Nat) (W A : Nat → Nat) (B : Nat → Option Nat) (vw vc vo vt : Nat → Int32) : Prop :=
  ∀ p, p < 10 + m → vw p = nI (W p) ∧ vo p = nI (A p) ∧ vc p = cd_cn (B p) ∧ ∀ e, B p = some e → vt p = nI e
theorem cd_YT_i (h : cd_TB m G W A B) (h2 : cd_YC m W A B vw vc vo vt) : cd_YT m G vw vc vo vt := ⟨W, A, B, h, h2⟩
theorem cd_YT_set (h : cd_TB m G W A B) (h2 : cd_YC m W A B vw vc vo vt) {p a : Nat} {b : Option Nat} (hp : p < 10 + m) :
    cd_YT m (cd_up G (W p) (some (a, b))) (upd vw p (nI (W p))) (upd vc p (cd_cn b)) (upd vo p (nI a)) (upd vt p (cd_en b)) := by
  refine ⟨W, cd_up A p a, cd_up B p b, cd_TB_set h hp a b, fun q hq => ?_⟩
  by_cases e : q = p
  · subst e
    rw [pk_us, pk_us, pk_us, pk_us, cd_up_s, cd_up_s]
    exact ⟨rfl, rfl, rfl, fun e he => by rw [he]; rfl⟩
  · rw [pk_un e, pk_un e, pk_un e, pk_un e, cd_up_n e, cd_up_n e]
    exact h2 q hq
theorem cd_YT_new (h : cd_TB m G W A B) (h2 : cd_YC m W A B vw vc vo vt) {w a : Nat} {b : Option Nat} (hw : w ≤ 1330) (hn : G w = none) :
    cd_YT (m + 1) (cd_up G w (some (a, b))) (upd vw (10 + m) (nI w)) (upd vc (10 + m) (cd_cn b)) (upd vo (10 + m) (nI a)) (upd vt (10 + m) (cd_en b)) := by
  refine ⟨cd_up W (10 + m) w, cd_up A (10 + m) a, cd_up B (10 + m) b, cd_TB_new h hw hn a b, fun q hq => ?_⟩
  by_cases e : q = 10 + m
  · subst e
    rw [pk_us, pk_us, pk_us, pk_us, cd_up_s, cd_up_s, cd_up_s]
    exact ⟨rfl, rfl, rfl, fun e he => by rw [he]; rfl⟩
  · rw [pk_un e, pk_un e, pk_un e, pk_un e, cd_up_n e, cd_up_n e, cd_up_n e]
    exact h2 q (by omega)
def cd_sf (a : Nat → Int32) (e k : Nat) : Nat → Int32 := fun i => if e ≤ i ∧ i < k then a (i + 1) else a i
theorem cd_sf_0 {a : Nat → Int32} {e : Nat} : cd_sf a e e = a := by
  funext i
  exact if_neg (by omega)
theorem cd_sf_s {a : Nat → Int32} {e k : Nat} (h : e ≤ k) : upd (cd_sf a e k) k (cd_sf a e k (k + 1)) = cd_sf a e (k + 1) := by
  funext i
  by_cases z : i = k
  · subst z
    rw [pk_us]
    unfold cd_sf
    rw [if_neg (by omega), if_pos (by omega)]
  · rw [pk_un z]
    unfold cd_sf
    by_cases y : e ≤ i ∧ i < k
    · rw [if_pos y, if_pos (by omega)]
    · rw [if_neg y, if_neg (by omega)]
theorem cd_sf_e {a : Nat → Int32} {e n q : Nat} (hq : q < n) : cd_sf a e n q = if q < e then a q else a (q + 1) := by
  unfold cd_sf
  by_cases z : q < e
  · rw [if_neg (by omega), if_pos z]
  · rw [if_pos (by omega), if_neg z]
theorem cd_YT_shift (h : cd_TB (m + 1) G W A B) (h2 : cd_YC (m + 1) W A B vw vc vo vt) {p : Nat} (h10 : 10 ≤ p) (hp : p < 10 + (m + 1)) :
    cd_YT m (cd_up G (W p) none) (cd_sf vw p (10 + m)) (cd_sf vc p (10 + m)) (cd_sf vo p (10 + m)) (cd_sf vt p (10 + m)) := by
  refine ⟨_, _, _, cd_TB_shift h h10 hp, fun q hq => ?_⟩
  rw [cd_sf_e hq, cd_sf_e hq, cd_sf_e hq, cd_sf_e hq]
  by_cases z : q < p
  · simp only [if_pos z]
    exact h2 q (by omega)
  · simp only [if_neg z]
    exact h2 (q + 1) (by omega)
theorem cd_cn_map (b : Option Nat) (g : Nat → Nat) : cd_cn (b.map g) = cd_cn b := by cases b <;> rfl
theorem cd_YT_tG (h : cd_TB m G W A B) (h2 : cd_YC m W A B vw vc vo vt) {a b l : Nat} (hb : b < 10) {vo' vt' : Nat → Int32}
    (ho : ∀ p, p < 10 + m → vo' p = nI (cd_gx a l (A p))) (ht : ∀ p, p < 10 + m → ∀ e, B p = some e → vt' p = nI (cd_gx a l e)) :
    cd_YT m (cd_tG G a b l) vw (upd vc b 1) (upd vo' b (nI (cd_bl a l))) vt' := by
  refine ⟨W, _, _, cd_TB_tG h hb, fun q hq => ?_⟩
  by_cases e : q = b
  · subst e
    rw [pk_us, pk_us, cd_up_s, cd_up_s]
    exact ⟨(h2 q hq).1, rfl, rfl, fun e he => by cases he⟩
  · rw [pk_un e, pk_un e, cd_up_n e, cd_up_n e, cd_cn_map]
    refine ⟨(h2 q hq).1, ho q hq, (h2 q hq).2.2.1, fun x hx => ?_⟩
    cases z : B q with
    | none => rw [z] at hx; cases hx
    | some y =>
      rw [z] at hx
      cases hx
      exact ht q hq y z
end
/-- the start -/
def cd_G0 (w : Nat) : Option (Nat × Option Nat) := if 1 ≤ w ∧ w ≤ 10 then some (w + 288, none) else none
theorem cd_G0_t {w : Nat} (h : 1 ≤ w ∧ w ≤ 10) : cd_G0 w = some (w + 288, none) := if_pos h
theorem cd_TB_0 : cd_TB 0 cd_G0 (fun p => p + 1) (fun p => p + 1 + 288) (fun _ => none) := by
  refine ⟨fun p hp => ⟨?_, cd_G0_t ?_⟩, fun x hx => rfl, fun p q hp hq e => ?_, fun w hw => ?_⟩
  · show p + 1 ≤ 1330; omega
  · show 1 ≤ p + 1 ∧ p + 1 ≤ 10; omega
  · have : p + 1 = q + 1 := e
    omega
  · by_cases z : 1 ≤ w ∧ w ≤ 10
    · exact ⟨w - 1, by omega, by show w - 1 + 1 = w; omega⟩
    · exact absurd (if_neg z) hw
theorem cd_OK_0 : cd_OK cd_G0 := by
  refine ⟨fun w a b e => ?_, fun x hx e => ?_⟩
  · by_cases z : 1 ≤ w ∧ w ≤ 10
    · rw [cd_G0_t z] at e
      cases e
      refine ⟨⟨by omega, by omega⟩, fun e he => by cases he⟩
    · have : cd_G0 w = none := if_neg z
      rw [this] at e
      cases e
  · rw [cd_G0_t (by omega)] at e
    cases e
theorem cd_D_0 : cd_D 0 0 0 0 (fun _ => 0) (fun _ => 0) cd_G0 :=
  ⟨by omega, by omega, by omega, by omega, cd_OK_0, fun _ _ => Nat.zero_le _, fun _ _ _ _ => Nat.zero_lt_succ _⟩
theorem cd_ST_0 : cd_ST (fun _ => 0) (fun _ => 0) (fun _ => 0) (fun _ => 0) := ⟨fun _ _ => rfl, fun _ _ _ _ => rfl⟩
