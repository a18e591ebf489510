/-! counting, step by step -/
section
variable {P : Nat → Bool} {n i : Nat}
theorem cd_ct_t (h : P n = true) : cd_ct P (n + 1) = cd_ct P n + 1 := by simp only [cd_ct, if_pos h]
theorem cd_ct_f (h : P n = false) : cd_ct P (n + 1) = cd_ct P n := by
  have h' : ¬ P n = true := by rw [h]; decide
  simp only [cd_ct, if_neg h', Nat.add_zero]
theorem cd_la_t (h : P n = true) : cd_la P (n + 1) = n := by simp only [cd_la, if_pos h]
theorem cd_la_f (h : P n = false) : cd_la P (n + 1) = cd_la P n := by
  have h' : ¬ P n = true := by rw [h]; decide
  simp only [cd_la, if_neg h']
theorem cd_al_t (h : P n = true) : cd_al P (n + 1) = cd_al P n := by simp only [cd_al, h, Bool.and_true]
theorem cd_al_f (h : P n = false) : cd_al P (n + 1) = false := by simp only [cd_al, h, Bool.and_false]
theorem cd_la_lt (P : Nat → Bool) : ∀ n, cd_la P n ≤ n
  | 0 => Nat.le_refl _
  | n + 1 => by
    have := cd_la_lt P n
    simp only [cd_la]
    split <;> omega
theorem cd_al_no (P : Nat → Bool) (i : Nat) (h : P i = false) : ∀ n, i < n → cd_al P n = false
  | 0, hn => absurd hn (Nat.not_lt_zero i)
  | n + 1, hn => by
    by_cases z : i = n
    · subst z; exact cd_al_f h
    · simp only [cd_al, cd_al_no P i h n (by omega), Bool.false_and]
theorem cd_al_all (P : Nat → Bool) : ∀ n, (∀ i, i < n → P i = true) → cd_al P n = true
  | 0, _ => rfl
  | n + 1, h => by
    rw [cd_al_t (h n (by omega))]
    exact cd_al_all P n (fun i hi => h i (by omega))
end
theorem cd_bi_t {b : Bool} (h : b = true) : cd_bi b = 1 := by rw [h]; rfl
theorem cd_bi_f {b : Bool} (h : b = false) : cd_bi b = 0 := by rw [h]; rfl
theorem cd_bi_n (b : Bool) : narrow .boolean (.int (cd_bi b)) = .int (cd_bi b) := by cases b <;> rfl
/-! where find ends -/
section
variable (sh tp bw : Nat) (L c : Nat → Nat) (G : Nat → Option (Nat × Option Nat)) (n i j : Nat) (x : Int32)
def cd_fp (p : Nat) : Bool := decide (x ≤ nI p) && cd_mr sh tp bw L c G n i j p
def cd_fn : Int32 := cd_fd (cd_fp sh tp bw L c G n i j x) (L i + 1) 0
end
section
variable {sh tp bw : Nat} {L c : Nat → Nat} {G : Nat → Option (Nat × Option Nat)} {n i j p : Nat} {x : Int32}
theorem cd_fp_t (h : x ≤ nI p) : cd_fp sh tp bw L c G n i j x p = cd_mr sh tp bw L c G n i j p := by
  unfold cd_fp
  rw [decide_eq_true h, Bool.true_and]
theorem cd_fp_f (h : ¬ x ≤ nI p) : cd_fp sh tp bw L c G n i j x p = false := by
  unfold cd_fp
  rw [decide_eq_false h, Bool.false_and]
theorem cd_mr_no (h : ∀ d, p + d ≤ L i → ¬ cd_KE sh tp bw G c (12 * i + p) (12 * i + p + d) n = cd_K sh tp bw L c G n j) : cd_mr sh tp bw L c G n i j p = false := by
  unfold cd_mr
  rw [cd_al_all _ _ (fun d hd => by rw [decide_eq_false (h d (by omega))]; rfl)]
  rfl
theorem cd_mr_yes {d : Nat} (hd : p + d ≤ L i) (h : cd_KE sh tp bw G c (12 * i + p) (12 * i + p + d) n = cd_K sh tp bw L c G n j) : cd_mr sh tp bw L c G n i j p = true := by
  unfold cd_mr
  rw [cd_al_no _ d (by rw [decide_eq_true h]; rfl) _ (by omega)]
  rfl
/-- a 'from' of f: the places before it are no answers -/
theorem cd_fn_at {f : Nat} (hf : f ≤ L i + 1) (hx : x = nI f) (hL : L i ≤ 12) : cd_fn sh tp bw L c G n i j x = cd_fd (cd_fp sh tp bw L c G n i j x) (L i + 1 - f) f := by
  unfold cd_fn
  have := cd_fd_s (P := cd_fp sh tp bw L c G n i j x) f (L i + 1 - f) 0 (fun k _ hk => cd_fp_f (by rw [hx, nI_leI (by omega) (by omega)]; omega))
  rw [show f + (L i + 1 - f) = L i + 1 by omega, Nat.zero_add] at this
  exact this
theorem cd_fn_no (hx : ∀ k, k ≤ L i → ¬ x ≤ nI k) : cd_fn sh tp bw L c G n i j x = -4 :=
  cd_fd_f _ _ (fun k _ hk => cd_fp_f (hx k (by omega)))
end
theorem cd_fd_t {P : Nat → Bool} {n p : Nat} (h : P p = true) : cd_fd P (n + 1) p = nI p := by simp only [cd_fd, if_pos h]
theorem cd_fd_n {P : Nat → Bool} {n p : Nat} (h : P p = false) : cd_fd P (n + 1) p = cd_fd P n (p + 1) := by
  have h' : ¬ P p = true := by rw [h]; decide
  simp only [cd_fd, if_neg h']
