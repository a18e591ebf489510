/-! the table of entries: places 0 .. 9 + m, each with a word W, a first element A, perhaps a second one B -/
def cd_up {α : Type} (f : Nat → α) (p : Nat) (x : α) : Nat → α := fun q => if q = p then x else f q
theorem cd_up_s {α : Type} {f : Nat → α} {p : Nat} {x : α} : cd_up f p x p = x := if_pos rfl
theorem cd_up_n {α : Type} {f : Nat → α} {p q : Nat} {x : α} (h : ¬ q = p) : cd_up f p x q = f q := if_neg h
def cd_TB (m : Nat) (G : Nat → Option (Nat × Option Nat)) (W A : Nat → Nat) (B : Nat → Option Nat) : Prop :=
  (∀ p, p < 10 + m → W p ≤ 1330 ∧ G (W p) = some (A p, B p)) ∧ (∀ x, x < 10 → W x = x + 1) ∧
  (∀ p q, p < 10 + m → q < 10 + m → W p = W q → p = q) ∧ (∀ w, ¬ G w = none → ∃ p, p < 10 + m ∧ W p = w)
section
variable {m : Nat} {G : Nat → Option (Nat × Option Nat)} {W A : Nat → Nat} {B : Nat → Option Nat}
theorem cd_TB_set {p : Nat} (h : cd_TB m G W A B) (hp : p < 10 + m) (a : Nat) (b : Option Nat) :
    cd_TB m (cd_up G (W p) (some (a, b))) W (cd_up A p a) (cd_up B p b) := by
  obtain ⟨h1, h2, h3, h4⟩ := h
  refine ⟨fun q hq => ⟨(h1 q hq).1, ?_⟩, h2, h3, fun w hw => ?_⟩
  · by_cases e : q = p
    · subst e; rw [cd_up_s, cd_up_s, cd_up_s]
    · rw [cd_up_n e, cd_up_n e, cd_up_n (fun z => e (h3 q p hq hp z))]; exact (h1 q hq).2
  · by_cases e : w = W p
    · exact ⟨p, hp, e.symm⟩
    · rw [cd_up_n e] at hw; exact h4 w hw
theorem cd_TB_ne {w q : Nat} (h : cd_TB m G W A B) (hn : G w = none) (hq : q < 10 + m) : ¬ W q = w := fun e => by
  have := (h.1 q hq).2
  rw [e, hn] at this
  exact absurd this (by simp)
theorem cd_TB_new {w : Nat} (h : cd_TB m G W A B) (hw : w ≤ 1330) (hn : G w = none) (a : Nat) (b : Option Nat) :
    cd_TB (m + 1) (cd_up G w (some (a, b))) (cd_up W (10 + m) w) (cd_up A (10 + m) a) (cd_up B (10 + m) b) := by
  have hne : ∀ q, q < 10 + m → ¬ W q = w := fun q hq => cd_TB_ne h hn hq
  obtain ⟨h1, h2, h3, h4⟩ := h
  refine ⟨fun q hq => ?_, fun x hx => ?_, fun p q hp hq e => ?_, fun v hv => ?_⟩
  · by_cases e : q = 10 + m
    · subst e; rw [cd_up_s, cd_up_s, cd_up_s, cd_up_s]; exact ⟨hw, rfl⟩
    · rw [cd_up_n e, cd_up_n e, cd_up_n e, cd_up_n (hne q (by omega))]; exact h1 q (by omega)
  · rw [cd_up_n (by omega)]; exact h2 x hx
  · by_cases ep : p = 10 + m
    · by_cases eq : q = 10 + m
      · omega
      · rw [ep, cd_up_s, cd_up_n eq] at e; exact absurd e.symm (hne q (by omega))
    · by_cases eq : q = 10 + m
      · rw [eq, cd_up_s, cd_up_n ep] at e; exact absurd e (hne p (by omega))
      · rw [cd_up_n ep, cd_up_n eq] at e; exact h3 p q (by omega) (by omega) e
  · by_cases e : v = w
    · exact ⟨10 + m, by omega, by rw [cd_up_s, e]⟩
    · rw [cd_up_n e] at hv
      obtain ⟨p, hp, hpe⟩ := h4 v hv
      exact ⟨p, by omega, by rw [cd_up_n (by omega)]; exact hpe⟩
theorem cd_TB_swap {p : Nat} (h : cd_TB (m + 1) G W A B) (h10 : 10 ≤ p) (hp : p < 10 + (m + 1)) :
    cd_TB m (cd_up G (W p) none) (cd_up W p (W (10 + m))) (cd_up A p (A (10 + m))) (cd_up B p (B (10 + m))) := by
  obtain ⟨h1, h2, h3, h4⟩ := h
  refine ⟨fun q hq => ?_, fun x hx => ?_, fun r q hr hq e => ?_, fun v hv => ?_⟩
  · by_cases e : q = p
    · subst e
      rw [cd_up_s, cd_up_s, cd_up_s, cd_up_n (fun z => by have := h3 _ _ (by omega) hp z; omega)]
      exact h1 _ (by omega)
    · rw [cd_up_n e, cd_up_n e, cd_up_n e, cd_up_n (fun z => e (h3 _ _ (by omega) hp z))]
      exact h1 q (by omega)
  · rw [cd_up_n (by omega)]; exact h2 x hx
  · by_cases er : r = p
    · by_cases eq : q = p
      · omega
      · rw [er, cd_up_s, cd_up_n eq] at e
        have := h3 _ _ (by omega) (by omega) e; omega
    · by_cases eq : q = p
      · rw [eq, cd_up_s, cd_up_n er] at e
        have := h3 _ _ (by omega) (by omega) e; omega
      · rw [cd_up_n er, cd_up_n eq] at e; exact h3 r q (by omega) (by omega) e
  · by_cases e : v = W p
    · rw [e, cd_up_s] at hv; exact absurd rfl hv
    · rw [cd_up_n e] at hv
      obtain ⟨r, hr, hre⟩ := h4 v hv
      have hrp : ¬ r = p := fun z => e (by rw [← hre, z])
      by_cases er : r = 10 + m
      · exact ⟨p, by omega, by rw [cd_up_s, ← er]; exact hre⟩
      · exact ⟨r, by omega, by rw [cd_up_n hrp]; exact hre⟩
theorem cd_TB_shift {p : Nat} (h : cd_TB (m + 1) G W A B) (h10 : 10 ≤ p) (hp : p < 10 + (m + 1)) :
    cd_TB m (cd_up G (W p) none) (fun q => if q < p then W q else W (q + 1)) (fun q => if q < p then A q else A (q + 1)) (fun q => if q < p then B q else B (q + 1)) := by
  obtain ⟨h1, h2, h3, h4⟩ := h
  refine ⟨fun q hq => ?_, fun x hx => ?_, fun r q hr hq e => ?_, fun v hv => ?_⟩
  · dsimp only
    by_cases e : q < p
    · rw [if_pos e, if_pos e, if_pos e, cd_up_n (fun z => by have := h3 _ _ (by omega) hp z; omega)]
      exact h1 _ (by omega)
    · rw [if_neg e, if_neg e, if_neg e, cd_up_n (fun z => by have := h3 _ _ (by omega) hp z; omega)]
      exact h1 _ (by omega)
  · dsimp only
    rw [if_pos (by omega)]; exact h2 x hx
  · dsimp only at e
    by_cases er : r < p
    · by_cases eq : q < p
      · rw [if_pos er, if_pos eq] at e; exact h3 _ _ (by omega) (by omega) e
      · rw [if_pos er, if_neg eq] at e
        have := h3 _ _ (by omega) (by omega) e; omega
    · by_cases eq : q < p
      · rw [if_neg er, if_pos eq] at e
        have := h3 _ _ (by omega) (by omega) e; omega
      · rw [if_neg er, if_neg eq] at e
        have := h3 _ _ (by omega) (by omega) e; omega
  · by_cases e : v = W p
    · rw [e, cd_up_s] at hv; exact absurd rfl hv
    · rw [cd_up_n e] at hv
      obtain ⟨r, hr, hre⟩ := h4 v hv
      have hrp : ¬ r = p := fun z => e (by rw [← hre, z])
      by_cases er : r < p
      · exact ⟨r, by omega, by dsimp only; rw [if_pos er]; exact hre⟩
      · refine ⟨r - 1, by omega, ?_⟩
        dsimp only
        rw [if_neg (by omega), show r - 1 + 1 = r by omega]; exact hre
theorem cd_TB_map (h : cd_TB m G W A B) (g : Nat → Nat) :
    cd_TB m (fun w => (G w).map (fun x => (g x.1, x.2.map g))) W (fun p => g (A p)) (fun p => (B p).map g) := by
  obtain ⟨h1, h2, h3, h4⟩ := h
  refine ⟨fun q hq => ⟨(h1 q hq).1, ?_⟩, h2, h3, fun w hw => h4 w (fun z => hw ?_)⟩
  · dsimp only; rw [(h1 q hq).2]; rfl
  · dsimp only; rw [z]; rfl
end
/-- the component's cells hold a table -/
def cd_en : Option Nat → Int32
  | none => -1
  | some e => nI e
def cd_XT (m : Nat) (G : Nat → Option (Nat × Option Nat)) (aw ae : Nat → Int32) : Prop :=
  ∃ W A B, cd_TB m G W A B ∧ (∀ p, p < 10 + m → aw p = nI (W p) ∧ ae (2 * p) = nI (A p) ∧ ae (2 * p + 1) = cd_en (B p)) ∧
    (∀ p, 10 + m ≤ p → p < 16 → ae (2 * p) = -1 ∧ ae (2 * p + 1) = -1)
/-- the reference's cells hold one -/
def cd_cn : Option Nat → Int32
  | none => 1
  | some _ => 2
def cd_YT (m : Nat) (G : Nat → Option (Nat × Option Nat)) (vw vc vo vt : Nat → Int32) : Prop :=
  ∃ W A B, cd_TB m G W A B ∧ (∀ p, p < 10 + m → vw p = nI (W p) ∧ vo p = nI (A p) ∧ vc p = cd_cn (B p) ∧ ∀ e, B p = some e → vt p = nI e)
/-- what holds of the picture itself -/
def cd_D (m bw sh tp : Nat) (L c : Nat → Nat) (G : Nat → Option (Nat × Option Nat)) : Prop :=
  m ≤ 6 ∧ bw ≤ 1 ∧ sh ≤ 1 ∧ tp ≤ 30 ∧ cd_OK G ∧ (∀ s, s < 10 → L s ≤ 12) ∧ (∀ s k, s < 10 → k < L s → c (12 * s + k) < 10)
/-- the strings in the cells -/
def cd_ST (L c : Nat → Nat) (an al : Nat → Int32) : Prop :=
  (∀ s, s < 10 → an s = nI (L s)) ∧ (∀ s k, s < 10 → k < L s → al (12 * s + k) = nI (c (12 * s + k)))
