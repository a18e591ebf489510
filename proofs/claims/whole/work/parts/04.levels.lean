/-! levels: what grows behind an anchor a at level l (1 to 3), by how much, up to where -/
def cd_wt (e l : Nat) : Nat := if l = 1 then e % 32 else if l = 2 then e / 32 % 8 else e / 256
def cd_un (l : Nat) : Nat := if l = 1 then 1 else if l = 2 then 32 else 256
def cd_mx (l : Nat) : Nat := if l = 1 then 30 else if l = 2 then 7 else 3
def cd_gb (e a l : Nat) : Prop := (l ≤ 1 ∨ cd_wt e 1 = cd_wt a 1) ∧ (l ≤ 2 ∨ cd_wt e 2 = cd_wt a 2) ∧ cd_wt a l < cd_wt e l
noncomputable def cd_gx (a l e : Nat) : Nat := @ite Nat (cd_gb e a l) (Classical.propDecidable _) (e + cd_un l) e
theorem cd_gx_t {a l e : Nat} (h : cd_gb e a l) : cd_gx a l e = e + cd_un l := by unfold cd_gx; rw [if_pos h]
theorem cd_gx_f {a l e : Nat} (h : ¬ cd_gb e a l) : cd_gx a l e = e := by unfold cd_gx; rw [if_neg h]
def cd_bl (a l : Nat) : Nat := if l = 1 then a % 32 + 1 + 32 + 256 else if l = 2 then a % 32 + 32 * (a / 32 % 8 + 1) + 256 else a % 32 + 32 * (a / 32 % 8) + 256 * (a / 256 + 1)
def cd_fit1 (a l e : Nat) : Prop := cd_gb e a l → cd_wt e l < cd_mx l
/-- there is room at level l behind a -/
def cd_fit (G : Nat → Option (Nat × Option Nat)) (a l : Nat) : Prop :=
  cd_wt a l < cd_mx l ∧ ∀ w x y, G w = some (x, y) → cd_fit1 a l x ∧ ∀ e, y = some e → cd_fit1 a l e
theorem cd_V_gx {a l e : Nat} (h1 : 1 ≤ l) (h3 : l ≤ 3) (he : cd_V e) (hf : cd_fit1 a l e) : cd_V (cd_gx a l e) := by
  rcases Classical.em (cd_gb e a l) with z | z
  · have hw := hf z
    rw [cd_gx_t z]
    obtain ⟨g1, g2⟩ := he
    unfold cd_V
    unfold cd_wt cd_mx at hw
    unfold cd_un
    have hl : l = 1 ∨ l = 2 ∨ l = 3 := by omega
    rcases hl with rfl | rfl | rfl
    · simp only [if_true] at hw ⊢; omega
    · simp at hw ⊢; omega
    · simp at hw ⊢; omega
  · rw [cd_gx_f z]; exact he
theorem cd_V_bl {a l : Nat} (h1 : 1 ≤ l) (h3 : l ≤ 3) (ha : cd_V a) (hf : cd_wt a l < cd_mx l) : cd_V (cd_bl a l) := by
  obtain ⟨g1, g2⟩ := ha
  unfold cd_V
  unfold cd_wt cd_mx at hf
  unfold cd_bl
  have hl : l = 1 ∨ l = 2 ∨ l = 3 := by omega
  rcases hl with rfl | rfl | rfl
  · simp only [if_true] at hf ⊢; omega
  · simp at hf ⊢; omega
  · simp at hf ⊢; omega
/-- the table behind tailor(a's letter, b, l) -/
noncomputable def cd_tG (G : Nat → Option (Nat × Option Nat)) (a b l : Nat) : Nat → Option (Nat × Option Nat) :=
  cd_up (fun w => (G w).map (fun x => (cd_gx a l x.1, x.2.map (cd_gx a l)))) (b + 1) (some (cd_bl a l, none))
theorem cd_OK_up {G : Nat → Option (Nat × Option Nat)} (h : cd_OK G) {w a : Nat} {b : Option Nat} (ha : cd_V a) (hb : ∀ e, b = some e → cd_V e) : cd_OK (cd_up G w (some (a, b))) := by
  obtain ⟨h1, h2⟩ := h
  refine ⟨fun v x y e => ?_, fun x hx => ?_⟩
  · by_cases z : v = w
    · rw [z, cd_up_s] at e
      cases e
      exact ⟨ha, hb⟩
    · rw [cd_up_n z] at e; exact h1 v x y e
  · by_cases z : x + 1 = w
    · rw [z, cd_up_s]; exact fun q => by cases q
    · rw [cd_up_n z]; exact h2 x hx
theorem cd_OK_no {G : Nat → Option (Nat × Option Nat)} (h : cd_OK G) {w : Nat} (hw : 2 ≤ cd_wl w) : cd_OK (cd_up G w none) := by
  obtain ⟨h1, h2⟩ := h
  refine ⟨fun v x y e => ?_, fun x hx => ?_⟩
  · by_cases z : v = w
    · rw [z, cd_up_s] at e; cases e
    · rw [cd_up_n z] at e; exact h1 v x y e
  · have : ¬ x + 1 = w := fun z => by have := cd_wl_1 hx; rw [z] at this; omega
    rw [cd_up_n this]; exact h2 x hx
theorem cd_OK_map {G : Nat → Option (Nat × Option Nat)} (h : cd_OK G) {g : Nat → Nat} (hg : ∀ w x y, G w = some (x, y) → cd_V (g x) ∧ ∀ e, y = some e → cd_V (g e)) :
    cd_OK (fun w => (G w).map (fun x => (g x.1, x.2.map g))) := by
  obtain ⟨h1, h2⟩ := h
  refine ⟨fun v x y e => ?_, fun x hx e => h2 x hx ?_⟩
  · dsimp only at e
    cases z : G v with
    | none => rw [z] at e; cases e
    | some q =>
      obtain ⟨q1, q2⟩ := q
      rw [z] at e
      have k := hg v q1 q2 z
      cases e
      refine ⟨k.1, fun e' he' => ?_⟩
      cases q2 with
      | none => cases he'
      | some q3 => cases he'; exact k.2 q3 rfl
  · dsimp only at e
    cases z : G (x + 1) with
    | none => rfl
    | some q => rw [z] at e; cases e
