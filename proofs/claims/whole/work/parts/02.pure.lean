/-! the pure picture of a desk: words, entries, elements of a row of letters, weights, keys, their order -/
def cd_w1 (c : Nat → Nat) (p : Nat) : Nat := c p + 1
def cd_w2 (c : Nat → Nat) (p : Nat) : Nat := c p + 1 + 11 * (c (p + 1) + 1)
def cd_w3 (c : Nat → Nat) (p : Nat) : Nat := c p + 1 + 11 * (c (p + 1) + 1) + 121 * (c (p + 2) + 1)
def cd_wl (w : Nat) : Nat := if w % 11 = 0 then 0 else if w / 11 / 11 = 0 then (if w / 11 % 11 = 0 then 1 else 2) else (if w / 11 % 11 = 0 then 0 else 3)
theorem cd_wl_1 {x : Nat} (h : x < 10) : cd_wl (x + 1) = 1 := by
  unfold cd_wl
  rw [if_neg (by omega), if_pos (by omega), if_pos (by omega)]
theorem cd_wl_2 {x y : Nat} (h : x < 10) (hy : y < 10) : cd_wl (x + 1 + 11 * (y + 1)) = 2 := by
  unfold cd_wl
  rw [if_neg (by omega), if_pos (by omega), if_neg (by omega)]
theorem cd_wl_3 {x y z : Nat} (h : x < 10) (hy : y < 10) (hz : z < 10) : cd_wl (x + 1 + 11 * (y + 1) + 121 * (z + 1)) = 3 := by
  unfold cd_wl
  rw [if_neg (by omega), if_neg (by omega), if_neg (by omega)]
theorem cd_wl_le (w : Nat) : cd_wl w ≤ 3 := by
  unfold cd_wl
  split
  · omega
  · split
    · split <;> omega
    · split <;> omega
theorem cd_wl_inv1 {w : Nat} (h : cd_wl w = 1) : ∃ x, x < 10 ∧ w = x + 1 := by
  unfold cd_wl at h
  split at h
  · omega
  · split at h
    · split at h
      · exact ⟨w - 1, by omega, by omega⟩
      · omega
    · split at h <;> omega
/-- an element's number -/
def cd_V (e : Nat) : Prop := e < 1024 ∧ e % 32 ≤ 30
/-- the elements of an entry -/
def cd_eg : Option (Nat × Option Nat) → List Nat
  | none => []
  | some (a, none) => [a]
  | some (a, some b) => [a, b]
theorem cd_eg_le (x : Option (Nat × Option Nat)) : (cd_eg x).length ≤ 2 := by
  rcases x with _ | ⟨a, _ | b⟩
  · exact Nat.zero_le _
  · exact Nat.le_succ _
  · exact Nat.le_refl _
/-- entries are of elements, and each letter has one -/
def cd_OK (G : Nat → Option (Nat × Option Nat)) : Prop :=
  (∀ w a b, G w = some (a, b) → cd_V a ∧ ∀ e, b = some e → cd_V e) ∧ (∀ x, x < 10 → ¬ G (x + 1) = none)
section
variable (G : Nat → Option (Nat × Option Nat)) (c : Nat → Nat)
/-- how many letters the longest word with an entry has, at p, ahead of q -/
def cd_mt (p q : Nat) : Nat :=
  if p + 3 ≤ q ∧ ¬ G (cd_w3 c p) = none then 3 else if p + 2 ≤ q ∧ ¬ G (cd_w2 c p) = none then 2 else 1
def cd_wd (p n : Nat) : Nat := if n = 3 then cd_w3 c p else if n = 2 then cd_w2 c p else cd_w1 c p
def cd_es (q : Nat) : Nat → Nat → List Nat
  | 0, _ => []
  | n + 1, p => if p < q then cd_eg (G (cd_wd c p (cd_mt G c p q))) ++ cd_es q n (p + cd_mt G c p q) else []
/-- the elements of the letters from p to before q -/
def cd_EL (p q : Nat) : List Nat := cd_es G c q (q - p) p
end
theorem cd_mt_pos (G : Nat → Option (Nat × Option Nat)) (c : Nat → Nat) (p q : Nat) : 1 ≤ cd_mt G c p q := by
  unfold cd_mt
  split
  · omega
  · split <;> omega
theorem cd_mt_q {G : Nat → Option (Nat × Option Nat)} {c : Nat → Nat} {p q : Nat} (h : p < q) : p + cd_mt G c p q ≤ q := by
  unfold cd_mt
  split
  · omega
  · split <;> omega
theorem cd_es_n (G : Nat → Option (Nat × Option Nat)) (c : Nat → Nat) (q : Nat) : ∀ n n' p, q - p ≤ n → q - p ≤ n' → cd_es G c q n p = cd_es G c q n' p := by
  intro n
  induction n with
  | zero =>
    intro n' p h h'
    cases n' with
    | zero => rfl
    | succ n' => simp only [cd_es]; rw [if_neg (by omega)]
  | succ n ih =>
    intro n' p h h'
    cases n' with
    | zero => simp only [cd_es]; rw [if_neg (by omega)]
    | succ n' =>
      simp only [cd_es]
      have := cd_mt_pos G c p q
      by_cases z : p < q
      · rw [if_pos z, if_pos z, ih n' _ (by omega) (by omega)]
      · rw [if_neg z, if_neg z]
theorem cd_EL_nil {G : Nat → Option (Nat × Option Nat)} {c : Nat → Nat} {p q : Nat} (h : q ≤ p) : cd_EL G c p q = [] := by
  unfold cd_EL
  rw [show q - p = 0 by omega]
  rfl
theorem cd_EL_cons {G : Nat → Option (Nat × Option Nat)} {c : Nat → Nat} {p q : Nat} (h : p < q) :
    cd_EL G c p q = cd_eg (G (cd_wd c p (cd_mt G c p q))) ++ cd_EL G c (p + cd_mt G c p q) q := by
  have := cd_mt_pos G c p q
  unfold cd_EL
  rw [cd_es_n G c q (q - (p + cd_mt G c p q)) (q - p - 1) _ (by omega) (by omega)]
  obtain ⟨n, hn⟩ : ∃ n, q - p = n + 1 := ⟨q - p - 1, by omega⟩
  rw [hn]
  simp only [cd_es]
  rw [if_pos h]
  rfl
/-- weights -/
def cd_f1 (l : List Nat) (k : Nat) : Nat := l.getD k 0 % 32
def cd_f2 (l : List Nat) (k : Nat) : Nat := l.getD k 0 / 32 % 8
def cd_f3 (l : List Nat) (k : Nat) : Nat := l.getD k 0 / 256 % 4
def cd_am (tp : Nat) (l : List Nat) : Nat → Bool
  | 0 => false
  | k + 1 => if cd_f1 l k = 0 then cd_am tp l k else decide (cd_f1 l k ≤ tp)
section
variable (sh tp bw : Nat) (l : List Nat)
def cd_F1 (k : Nat) : Nat := if sh = 1 ∧ cd_am tp l (k + 1) = true then 0 else cd_f1 l k
def cd_F2 (k : Nat) : Nat := if sh = 1 ∧ cd_am tp l (k + 1) = true then 0 else cd_f2 l k
def cd_F3 (k : Nat) : Nat := if sh = 1 ∧ cd_am tp l (k + 1) = true then 0 else cd_f3 l k
def cd_F4 (k : Nat) : Nat := if sh = 1 then (if cd_am tp l (k + 1) = true then cd_f1 l k else if cd_f1 l k = 0 ∧ cd_f2 l k = 0 ∧ cd_f3 l k = 0 then 0 else 31) else 0
def cd_W (lev k : Nat) : Nat := if lev = 1 then cd_F1 sh tp l k else if lev = 2 then (if bw = 1 then cd_F2 sh tp l (l.length - 1 - k) else cd_F2 sh tp l k) else if lev = 3 then cd_F3 sh tp l k else cd_F4 sh tp l k
end
def cd_flt (g : Nat → Nat) : Nat → List Nat
  | 0 => []
  | n + 1 => cd_flt g n ++ (if g n = 0 then [] else [g n])
theorem cd_flt_le (g : Nat → Nat) : ∀ n, (cd_flt g n).length ≤ n
  | 0 => Nat.le_refl _
  | n + 1 => by
    have := cd_flt_le g n
    simp only [cd_flt, List.length_append]
    split
    · simp only [List.length_nil]; omega
    · simp only [List.length_cons, List.length_nil]; omega
theorem cd_flt_0 {g : Nat → Nat} {n : Nat} (h : g n = 0) : cd_flt g (n + 1) = cd_flt g n := by
  simp only [cd_flt, if_pos h, List.append_nil]
theorem cd_flt_1 {g : Nat → Nat} {n : Nat} (h : ¬ g n = 0) : cd_flt g (n + 1) = cd_flt g n ++ [g n] := by
  simp only [cd_flt, if_neg h]
theorem cd_flt_b {g : Nat → Nat} {b : Nat} (hg : ∀ k, g k ≤ b) : ∀ n, ∀ x ∈ cd_flt g n, x ≤ b
  | 0 => fun x hx => absurd hx (List.not_mem_nil)
  | n + 1 => fun x hx => by
    by_cases z : g n = 0
    · rw [cd_flt_0 z] at hx; exact cd_flt_b hg n x hx
    · rw [cd_flt_1 z, List.mem_append] at hx
      rcases hx with hx | hx
      · exact cd_flt_b hg n x hx
      · rw [List.mem_singleton] at hx; rw [hx]; exact hg n
section
variable (sh tp bw : Nat) (l : List Nat)
def cd_KP (lev : Nat) : List Nat := (if lev = 1 then [] else [0]) ++ cd_flt (cd_W sh tp bw l lev) l.length
def cd_KK : Nat → List Nat
  | 0 => []
  | n + 1 => cd_KK n ++ cd_KP sh tp bw l (n + 1)
end
theorem cd_W_le (sh tp bw : Nat) (l : List Nat) (lev k : Nat) : cd_W sh tp bw l lev k ≤ 31 := by
  have h1 : ∀ k, cd_f1 l k ≤ 31 := fun k => by unfold cd_f1; omega
  have h2 : ∀ k, cd_f2 l k ≤ 31 := fun k => by unfold cd_f2; omega
  have h3 : ∀ k, cd_f3 l k ≤ 31 := fun k => by unfold cd_f3; omega
  have g1 : ∀ k, cd_F1 sh tp l k ≤ 31 := fun k => by
    unfold cd_F1; split
    · omega
    · exact h1 k
  have g2 : ∀ k, cd_F2 sh tp l k ≤ 31 := fun k => by
    unfold cd_F2; split
    · omega
    · exact h2 k
  have g3 : ∀ k, cd_F3 sh tp l k ≤ 31 := fun k => by
    unfold cd_F3; split
    · omega
    · exact h3 k
  have g4 : ∀ k, cd_F4 sh tp l k ≤ 31 := fun k => by
    unfold cd_F4; split
    · split
      · exact h1 k
      · split <;> omega
    · omega
  unfold cd_W
  split
  · exact g1 k
  · split
    · split
      · exact g2 _
      · exact g2 _
    · split
      · exact g3 k
      · exact g4 k
theorem cd_KP_le (sh tp bw : Nat) (l : List Nat) (lev : Nat) : (cd_KP sh tp bw l lev).length ≤ l.length + 1 := by
  have := cd_flt_le (cd_W sh tp bw l lev) l.length
  unfold cd_KP
  rw [List.length_append]
  split
  · simp only [List.length_nil]; omega
  · simp only [List.length_cons, List.length_nil]; omega
theorem cd_KP1_le (sh tp bw : Nat) (l : List Nat) : (cd_KP sh tp bw l 1).length ≤ l.length := by
  have := cd_flt_le (cd_W sh tp bw l 1) l.length
  unfold cd_KP
  rw [List.length_append, if_pos rfl]
  simp only [List.length_nil]; omega
theorem cd_KK_b (sh tp bw : Nat) (l : List Nat) : ∀ n, ∀ x ∈ cd_KK sh tp bw l n, x ≤ 31
  | 0 => fun x hx => absurd hx (List.not_mem_nil)
  | n + 1 => fun x hx => by
    simp only [cd_KK, cd_KP, List.mem_append] at hx
    rcases hx with hx | hx | hx
    · exact cd_KK_b sh tp bw l n x hx
    · split at hx
      · exact absurd hx (List.not_mem_nil)
      · rw [List.mem_singleton] at hx; omega
    · exact cd_flt_b (cd_W_le sh tp bw l (n + 1)) _ x hx
theorem cd_KK_le (sh tp bw : Nat) (l : List Nat) : ∀ n, (cd_KK sh tp bw l (n + 1)).length ≤ (n + 1) * l.length + n
  | 0 => by
    have h : (cd_KP sh tp bw l (0 + 1)).length ≤ l.length := cd_KP1_le sh tp bw l
    simp only [cd_KK, List.nil_append]; omega
  | n + 1 => by
    have h := cd_KK_le sh tp bw l n
    have := cd_KP_le sh tp bw l (n + 1 + 1)
    rw [cd_KK, List.length_append, Nat.succ_mul (n + 1)]
    omega
/-- an array holds a list from b on -/
def cd_HD (a : Nat → Int32) (b : Nat) (l : List Nat) : Prop := ∀ i, i < l.length → a (b + i) = nI (l.getD i 0)
theorem cd_gl {l r : List Nat} {i : Nat} (h : i < l.length) : (l ++ r).getD i 0 = l.getD i 0 := by
  rw [List.getD_eq_getElem?_getD, List.getD_eq_getElem?_getD, List.getElem?_append_left h]
theorem cd_gr {l : List Nat} {x : Nat} : (l ++ [x]).getD l.length 0 = x := by
  rw [List.getD_eq_getElem?_getD, List.getElem?_concat_length]; rfl
theorem cd_HD_nil {a : Nat → Int32} {b : Nat} : cd_HD a b [] := fun i h => absurd h (Nat.not_lt_zero i)
theorem cd_HD_put {a : Nat → Int32} {b x : Nat} {l : List Nat} (h : cd_HD a b l) : cd_HD (upd a (b + l.length) (nI x)) b (l ++ [x]) := by
  intro i hi
  rw [List.length_append, List.length_cons, List.length_nil] at hi
  by_cases e : i = l.length
  · subst e; rw [cd_gr]; exact if_pos rfl
  · rw [cd_gl (by omega), ← h i (by omega)]; exact if_neg (by omega)
theorem cd_HD_cg {a a' : Nat → Int32} {b : Nat} {l : List Nat} (h : cd_HD a b l) (e : ∀ i, i < l.length → a' (b + i) = a (b + i)) : cd_HD a' b l :=
  fun i hi => (e i hi).trans (h i hi)
/-- the order of two keys -/
def cd_cm : List Nat → List Nat → Int32
  | [], [] => 0
  | [], _ :: _ => -1
  | _ :: _, [] => 1
  | x :: xs, y :: ys => if x = y then cd_cm xs ys else if x < y then -1 else 1
theorem cd_cm_0 : ∀ l r, cd_cm l r = 0 ↔ l = r
  | [], [] => by simp [cd_cm]
  | [], _ :: _ => by
    have : ¬ (-1 : Int32) = 0 := by decide
    simp [cd_cm, this]
  | _ :: _, [] => by
    have : ¬ (1 : Int32) = 0 := by decide
    simp [cd_cm, this]
  | x :: xs, y :: ys => by
    have h1 : ¬ (-1 : Int32) = 0 := by decide
    have h2 : ¬ (1 : Int32) = 0 := by decide
    have := cd_cm_0 xs ys
    simp only [cd_cm, List.cons.injEq]
    by_cases e : x = y
    · rw [if_pos e, this]; exact ⟨fun h => ⟨e, h⟩, fun h => h.2⟩
    · rw [if_neg e]
      refine ⟨fun h => ?_, fun h => absurd h.1 e⟩
      by_cases z : x < y
      · rw [if_pos z] at h; exact absurd h h1
      · rw [if_neg z] at h; exact absurd h h2
theorem cd_dr {l : List Nat} {k : Nat} (h : k < l.length) : l.drop k = l.getD k 0 :: l.drop (k + 1) := by
  rw [List.drop_eq_getElem_cons h, List.getD_eq_getElem?_getD, List.getElem?_eq_getElem h]; rfl
theorem cd_mem {l : List Nat} {k : Nat} (h : k < l.length) : l.getD k 0 ∈ l := by
  rw [List.getD_eq_getElem?_getD, List.getElem?_eq_getElem h]; exact List.getElem_mem h
/-- counts, the last one, the first one -/
def cd_ct (P : Nat → Bool) : Nat → Nat
  | 0 => 0
  | n + 1 => cd_ct P n + (if P n = true then 1 else 0)
def cd_la (P : Nat → Bool) : Nat → Nat
  | 0 => 0
  | n + 1 => if P n = true then n else cd_la P n
def cd_al (P : Nat → Bool) : Nat → Bool
  | 0 => true
  | n + 1 => cd_al P n && P n
def cd_fd (P : Nat → Bool) : Nat → Nat → Int32
  | 0, _ => -4
  | n + 1, p => if P p = true then nI p else cd_fd P n (p + 1)
theorem cd_ct_le (P : Nat → Bool) : ∀ n, cd_ct P n ≤ n
  | 0 => Nat.le_refl _
  | n + 1 => by have := cd_ct_le P n; simp only [cd_ct]; split <;> omega
theorem cd_fd_f {P : Nat → Bool} : ∀ n p, (∀ i, p ≤ i → i < p + n → P i = false) → cd_fd P n p = -4
  | 0, _, _ => rfl
  | n + 1, p, h => by
    simp only [cd_fd]
    rw [if_neg (by rw [h p (by omega) (by omega)]; decide)]
    exact cd_fd_f n (p + 1) (fun i h1 h2 => h i (by omega) (by omega))
theorem cd_fd_s {P : Nat → Bool} : ∀ d n p, (∀ i, p ≤ i → i < p + d → P i = false) → cd_fd P (d + n) p = cd_fd P n (p + d)
  | 0, n, p, _ => by rw [Nat.zero_add]; rfl
  | d + 1, n, p, h => by
    rw [show d + 1 + n = (d + n) + 1 by omega]
    simp only [cd_fd]
    rw [if_neg (by rw [h p (by omega) (by omega)]; decide), cd_fd_s d n (p + 1) (fun i h1 h2 => h i (by omega) (by omega)), show p + 1 + d = p + (d + 1) by omega]
