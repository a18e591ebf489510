section
/-! rows pasted from kit/rows/PURE-ROWS -/
theorem pk_us {f : Nat → Int32} {k : Nat} {x : Int32} : upd f k x k = x := if_pos rfl
theorem pk_un {f : Nat → Int32} {k j : Nat} {x : Int32} (h : j ≠ k) : upd f k x j = f j := if_neg h
theorem pk_sub {a b : Nat} (h : b ≤ a) : nI a - nI b = nI (a - b) := by
  obtain ⟨c, rfl⟩ : ∃ c, a = c + b := ⟨a - b, by omega⟩
  rw [← nI_add, Int32.add_sub_cancel, Nat.add_sub_cancel]
theorem pk_m1 (n : Nat) : nI (n + 1) + (-1) = nI n := by
  rw [← nI_1, Int32.add_assoc, show (1 : Int32) + (-1) = 0 from rfl, Int32.add_zero]
theorem pk_mul (a b : Nat) : nI a * nI b = nI (a * b) := (Int32.ofNat_mul a b).symm
theorem pk_div {a d : Nat} (ha : a < 2 ^ 31) (h0 : 0 < d) (hd : d < 2 ^ 31) : nI a / nI d = nI (a / d) := by
  apply Int32.toInt_inj.mp
  rw [lg_idiv_nonneg (by rw [nI_toInt ha]; omega) (by rw [nI_toInt hd]; omega), nI_toInt ha, nI_toInt hd, nI_toInt (Nat.lt_of_le_of_lt (Nat.div_le_self a d) ha)]
  first | rfl | exact (Int.natCast_ediv _ _).symm
theorem pk_rem {a d : Nat} (ha : a < 2 ^ 31) (h0 : 0 < d) (hd : d < 2 ^ 31) : nI a - nI a / nI d * nI d = nI (a % d) := by
  rw [pk_div ha h0 hd, pk_mul, pk_sub (Nat.div_mul_le_self a d)]
  exact congrArg nI (by have := Nat.div_add_mod' a d; omega)
theorem pk_sub_toInt {a b : Nat} (ha : a < 2 ^ 30) (hb : b < 2 ^ 30) : (nI a - nI b).toInt = (a : Int) - b := by
  rw [Int32.toInt_sub, nI_toInt (by omega), nI_toInt (by omega)]
  exact Int.bmod_eq_of_le (by omega) (by omega)
theorem pk_sneg {a b : Nat} (hb : b < 2 ^ 30) (h : a < b) : nI a - nI b < 0 := by
  rw [Int32.lt_iff_toInt_lt, pk_sub_toInt (by omega) hb, show (0 : Int32).toInt = 0 from by decide]
  omega
theorem pk_ix (x : Int32) {n : Nat} (hn : n < 2 ^ 31) : x < 0 ∨ nI n ≤ x ∨ ∃ j : Nat, j < n ∧ x = nI j := by
  by_cases h : x < 0
  · exact Or.inl h
  · obtain ⟨j, hj, rfl⟩ := nI_of h
    by_cases h2 : j < n
    · exact Or.inr (Or.inr ⟨j, h2, rfl⟩)
    · exact Or.inr (Or.inl (nI_le (by omega) hj))
theorem pk_le {x y : Int32} {A B : Prop} (a b : Nat) (f : a ≤ b → A) (g : b < a → B) (hx : x = nI a := by rfl) (hy : y = nI b := by rfl) (ha : a < 2 ^ 31 := by omega) (hb : b < 2 ^ 31 := by omega) : (x ≤ y → A) ∧ (¬ x ≤ y → B) := by
  subst hx hy
  rw [nI_leI ha hb]
  exact ⟨f, fun z => g (by omega)⟩
theorem pk_lt {x y : Int32} {A B : Prop} (a b : Nat) (f : a < b → A) (g : b ≤ a → B) (hx : x = nI a := by rfl) (hy : y = nI b := by rfl) (ha : a < 2 ^ 31 := by omega) (hb : b < 2 ^ 31 := by omega) : (x < y → A) ∧ (¬ x < y → B) := by
  subst hx hy
  rw [nI_ltI ha hb]
  exact ⟨f, fun z => g (by omega)⟩
theorem pk_eq {x y : Int32} {A B : Prop} (a b : Nat) (f : a = b → A) (g : a ≠ b → B) (hx : x = nI a := by rfl) (hy : y = nI b := by rfl) (ha : a < 2 ^ 31 := by omega) (hb : b < 2 ^ 31 := by omega) : (x = y → A) ∧ (¬ x = y → B) := by
  subst hx hy
  rw [nI_eq ha hb]
  exact ⟨f, g⟩
theorem pk_in {x : Int32} (n N : Nat) (h : n < N) (hx : x = nI n := by rfl) (hN : N < 2 ^ 31 := by omega) : vp_in x N := by
  subst hx
  exact vp_in_nI h hN
theorem pk_cl {x : Int32} (n : Nat) (hx : x = nI n := by rfl) (h : n < 2 ^ 31 := by omega) : x.toNatClampNeg = n := by
  subst hx
  exact nI_clamp h
theorem pk_loop {σ : Type} (W : Nat → Nat → σ → Prop) (I : Nat → σ → Prop) (e i0 : Nat) (s : σ) (hi : i0 ≤ e) (h0 : I i0 s) (hx : ∀ n s, I e s → W (n + 1) e s)
    (hs : ∀ n i s, i < e → I i s → (∀ s', I (i + 1) s' → W n (i + 1) s') → W (n + 1) i s) : ∃ n, W n i0 s :=
  ⟨e + 1, loop_i W I e hx hs (e + 1) i0 s hi (by omega) h0⟩
theorem pk_loopD {σ : Type} (W : Nat → Nat → σ → Prop) (I : Nat → σ → Prop) (hx : ∀ n s, I 0 s → W (n + 1) 0 s)
    (hs : ∀ n i s, I (i + 1) s → (∀ s', I i s' → W n i s') → W (n + 1) (i + 1) s) : ∀ (e : Nat) (s : σ), I e s → W (e + 1) e s := by
  intro e
  induction e with
  | zero => exact fun s h => hx 0 s h
  | succ e ih => exact fun s h => hs (e + 1) e s h (fun s' h' => ih s' h')
theorem ek_if {c d A B : Prop} (e : c ↔ d) (f : d → A) (g : ¬ d → B) : (c → A) ∧ (¬ c → B) :=
  ⟨fun z => f (e.mp z), fun z => g (fun y => z (e.mpr y))⟩
theorem ek_v {α : Sort _} {P : α → Prop} {a b : α} (e : a = b) (h : P b) : P a := e ▸ h
end
section
/-! the pure picture of a desk: words, entries, elements of a row of letters, weights, keys, their order -/
def cd_w1 (c : Nat → Nat) (p : Nat) : Nat := c p + 1
def cd_w2 (c : Nat → Nat) (p : Nat) : Nat := c p + 1 + 11 * (c (p + 1) + 1)
def cd_w3 (c : Nat → Nat) (p : Nat) : Nat := c p + 1 + 11 * (c (p + 1) + 1) + 121 * (c (p + 2) + 1)
def cd_wl (w : Nat) : Nat := if w % 11 = 0 then 0 else if w / 11 / 11 = 0 then (if w / 11 % 11 = 0 then 1 else 2) else (if w / 11 % 11 = 0 then 0 else 3)
theorem cd_wl_1 {x : Nat} (h : x < 10) : cd_wl (x + 1) = 1 := by
  unfold cd_wl
  rw [if_neg (by omega), if_pos (by omega), if_pos (by omega)]
theorem cd_wl_2 {x y : Nat} (h : x < 10) (hy : y < 10) : cd_wl (x + 1 + 11 * (y + 1)) = 2 := by
  unfold cd_wl
  rw [if_neg (by omega), if_pos (by omega), if_neg (by omega)]
theorem cd_wl_3 {x y z : Nat} (h : x < 10) (hy : y < 10) (hz : z < 10) : cd_wl (x + 1 + 11 * (y + 1) + 121 * (z + 1)) = 3 := by
  unfold cd_wl
  rw [if_neg (by omega), if_neg (by omega), if_neg (by omega)]
theorem cd_wl_le (w : Nat) : cd_wl w ≤ 3 := by
  unfold cd_wl
  split
  · omega
  · split
    · split <;> omega
    · split <;> omega
theorem cd_wl_inv1 {w : Nat} (h : cd_wl w = 1) : ∃ x, x < 10 ∧ w = x + 1 := by
  unfold cd_wl at h
  split at h
  · omega
  · split at h
    · split at h
      · exact ⟨w - 1, by omega, by omega⟩
      · omega
    · split at h <;> omega
/-- an element's number -/
def cd_V (e : Nat) : Prop := e < 1024 ∧ e % 32 ≤ 30
/-- the elements of an entry -/
def cd_eg : Option (Nat × Option Nat) → List Nat
  | none => []
  | some (a, none) => [a]
  | some (a, some b) => [a, b]
theorem cd_eg_le (x : Option (Nat × Option Nat)) : (cd_eg x).length ≤ 2 := by
  rcases x with _ | ⟨a, _ | b⟩
  · exact Nat.zero_le _
  · exact Nat.le_succ _
  · exact Nat.le_refl _
/-- entries are of elements, and each letter has one -/
def cd_OK (G : Nat → Option (Nat × Option Nat)) : Prop :=
  (∀ w a b, G w = some (a, b) → cd_V a ∧ ∀ e, b = some e → cd_V e) ∧ (∀ x, x < 10 → ¬ G (x + 1) = none)
section
variable (G : Nat → Option (Nat × Option Nat)) (c : Nat → Nat)
/-- how many letters the longest word with an entry has, at p, ahead of q -/
def cd_mt (p q : Nat) : Nat :=
  if p + 3 ≤ q ∧ ¬ G (cd_w3 c p) = none then 3 else if p + 2 ≤ q ∧ ¬ G (cd_w2 c p) = none then 2 else 1
def cd_wd (p n : Nat) : Nat := if n = 3 then cd_w3 c p else if n = 2 then cd_w2 c p else cd_w1 c p
def cd_es (q : Nat) : Nat → Nat → List Nat
  | 0, _ => []
  | n + 1, p => if p < q then cd_eg (G (cd_wd c p (cd_mt G c p q))) ++ cd_es q n (p + cd_mt G c p q) else []
/-- the elements of the letters from p to before q -/
def cd_EL (p q : Nat) : List Nat := cd_es G c q (q - p) p
end
theorem cd_mt_pos (G : Nat → Option (Nat × Option Nat)) (c : Nat → Nat) (p q : Nat) : 1 ≤ cd_mt G c p q := by
  unfold cd_mt
  split
  · omega
  · split <;> omega
theorem cd_mt_q {G : Nat → Option (Nat × Option Nat)} {c : Nat → Nat} {p q : Nat} (h : p < q) : p + cd_mt G c p q ≤ q := by
  unfold cd_mt
  split
  · omega
  · split <;> omega
theorem cd_es_n (G : Nat → Option (Nat × Option Nat)) (c : Nat → Nat) (q : Nat) : ∀ n n' p, q - p ≤ n → q - p ≤ n' → cd_es G c q n p = cd_es G c q n' p := by
  intro n
  induction n with
  | zero =>
    intro n' p h h'
    cases n' with
    | zero => rfl
    | succ n' => simp only [cd_es]; rw [if_neg (by omega)]
  | succ n ih =>
    intro n' p h h'
    cases n' with
    | zero => simp only [cd_es]; rw [if_neg (by omega)]
    | succ n' =>
      simp only [cd_es]
      have := cd_mt_pos G c p q
      by_cases z : p < q
      · rw [if_pos z, if_pos z, ih n' _ (by omega) (by omega)]
      · rw [if_neg z, if_neg z]
theorem cd_EL_nil {G : Nat → Option (Nat × Option Nat)} {c : Nat → Nat} {p q : Nat} (h : q ≤ p) : cd_EL G c p q = [] := by
  unfold cd_EL
  rw [show q - p = 0 by omega]
  rfl
theorem cd_EL_cons {G : Nat → Option (Nat × Option Nat)} {c : Nat → Nat} {p q : Nat} (h : p < q) :
    cd_EL G c p q = cd_eg (G (cd_wd c p (cd_mt G c p q))) ++ cd_EL G c (p + cd_mt G c p q) q := by
  have := cd_mt_pos G c p q
  unfold cd_EL
  rw [cd_es_n G c q (q - (p + cd_mt G c p q)) (q - p - 1) _ (by omega) (by omega)]
  obtain ⟨n, hn⟩ : ∃ n, q - p = n + 1 := ⟨q - p - 1, by omega⟩
  rw [hn]
  simp only [cd_es]
  rw [if_pos h]
  rfl
/-- weights -/
def cd_f1 (l : List Nat) (k : Nat) : Nat := l.getD k 0 % 32
def cd_f2 (l : List Nat) (k : Nat) : Nat := l.getD k 0 / 32 % 8
def cd_f3 (l : List Nat) (k : Nat) : Nat := l.getD k 0 / 256 % 4
def cd_am (tp : Nat) (l : List Nat) : Nat → Bool
  | 0 => false
  | k + 1 => if cd_f1 l k = 0 then cd_am tp l k else decide (cd_f1 l k ≤ tp)
section
variable (sh tp bw : Nat) (l : List Nat)
def cd_F1 (k : Nat) : Nat := if sh = 1 ∧ cd_am tp l (k + 1) = true then 0 else cd_f1 l k
def cd_F2 (k : Nat) : Nat := if sh = 1 ∧ cd_am tp l (k + 1) = true then 0 else cd_f2 l k
def cd_F3 (k : Nat) : Nat := if sh = 1 ∧ cd_am tp l (k + 1) = true then 0 else cd_f3 l k
def cd_F4 (k : Nat) : Nat := if sh = 1 then (if cd_am tp l (k + 1) = true then cd_f1 l k else if cd_f1 l k = 0 ∧ cd_f2 l k = 0 ∧ cd_f3 l k = 0 then 0 else 31) else 0
def cd_W (lev k : Nat) : Nat := if lev = 1 then cd_F1 sh tp l k else if lev = 2 then (if bw = 1 then cd_F2 sh tp l (l.length - 1 - k) else cd_F2 sh tp l k) else if lev = 3 then cd_F3 sh tp l k else cd_F4 sh tp l k
end
def cd_flt (g : Nat → Nat) : Nat → List Nat
  | 0 => []
  | n + 1 => cd_flt g n ++ (if g n = 0 then [] else [g n])
theorem cd_flt_le (g : Nat → Nat) : ∀ n, (cd_flt g n).length ≤ n
  | 0 => Nat.le_refl _
  | n + 1 => by
    have := cd_flt_le g n
    simp only [cd_flt, List.length_append]
    split
    · simp only [List.length_nil]; omega
    · simp only [List.length_cons, List.length_nil]; omega
theorem cd_flt_0 {g : Nat → Nat} {n : Nat} (h : g n = 0) : cd_flt g (n + 1) = cd_flt g n := by
  simp only [cd_flt, if_pos h, List.append_nil]
theorem cd_flt_1 {g : Nat → Nat} {n : Nat} (h : ¬ g n = 0) : cd_flt g (n + 1) = cd_flt g n ++ [g n] := by
  simp only [cd_flt, if_neg h]
theorem cd_flt_b {g : Nat → Nat} {b : Nat} (hg : ∀ k, g k ≤ b) : ∀ n, ∀ x ∈ cd_flt g n, x ≤ b
  | 0 => fun x hx => absurd hx (List.not_mem_nil)
  | n + 1 => fun x hx => by
    by_cases z : g n = 0
    · rw [cd_flt_0 z] at hx; exact cd_flt_b hg n x hx
    · rw [cd_flt_1 z, List.mem_append] at hx
      rcases hx with hx | hx
      · exact cd_flt_b hg n x hx
      · rw [List.mem_singleton] at hx; rw [hx]; exact hg n
section
variable (sh tp bw : Nat) (l : List Nat)
def cd_KP (lev : Nat) : List Nat := (if lev = 1 then [] else [0]) ++ cd_flt (cd_W sh tp bw l lev) l.length
def cd_KK : Nat → List Nat
  | 0 => []
  | n + 1 => cd_KK n ++ cd_KP sh tp bw l (n + 1)
end
theorem cd_W_le (sh tp bw : Nat) (l : List Nat) (lev k : Nat) : cd_W sh tp bw l lev k ≤ 31 := by
  have h1 : ∀ k, cd_f1 l k ≤ 31 := fun k => by unfold cd_f1; omega
  have h2 : ∀ k, cd_f2 l k ≤ 31 := fun k => by unfold cd_f2; omega
  have h3 : ∀ k, cd_f3 l k ≤ 31 := fun k => by unfold cd_f3; omega
  have g1 : ∀ k, cd_F1 sh tp l k ≤ 31 := fun k => by
    unfold cd_F1; split
    · omega
    · exact h1 k
  have g2 : ∀ k, cd_F2 sh tp l k ≤ 31 := fun k => by
    unfold cd_F2; split
    · omega
    · exact h2 k
  have g3 : ∀ k, cd_F3 sh tp l k ≤ 31 := fun k => by
    unfold cd_F3; split
    · omega
    · exact h3 k
  have g4 : ∀ k, cd_F4 sh tp l k ≤ 31 := fun k => by
    unfold cd_F4; split
    · split
      · exact h1 k
      · split <;> omega
    · omega
  unfold cd_W
  split
  · exact g1 k
  · split
    · split
      · exact g2 _
      · exact g2 _
    · split
      · exact g3 k
      · exact g4 k
theorem cd_KP_le (sh tp bw : Nat) (l : List Nat) (lev : Nat) : (cd_KP sh tp bw l lev).length ≤ l.length + 1 := by
  have := cd_flt_le (cd_W sh tp bw l lev) l.length
  unfold cd_KP
  rw [List.length_append]
  split
  · simp only [List.length_nil]; omega
  · simp only [List.length_cons, List.length_nil]; omega
theorem cd_KP1_le (sh tp bw : Nat) (l : List Nat) : (cd_KP sh tp bw l 1).length ≤ l.length := by
  have := cd_flt_le (cd_W sh tp bw l 1) l.length
  unfold cd_KP
  rw [List.length_append, if_pos rfl]
  simp only [List.length_nil]; omega
theorem cd_KK_b (sh tp bw : Nat) (l : List Nat) : ∀ n, ∀ x ∈ cd_KK sh tp bw l n, x ≤ 31
  | 0 => fun x hx => absurd hx (List.not_mem_nil)
  | n + 1 => fun x hx => by
    simp only [cd_KK, cd_KP, List.mem_append] at hx
    rcases hx with hx | hx | hx
    · exact cd_KK_b sh tp bw l n x hx
    · split at hx
      · exact absurd hx (List.not_mem_nil)
      · rw [List.mem_singleton] at hx; omega
    · exact cd_flt_b (cd_W_le sh tp bw l (n + 1)) _ x hx
theorem cd_KK_le (sh tp bw : Nat) (l : List Nat) : ∀ n, (cd_KK sh tp bw l (n + 1)).length ≤ (n + 1) * l.length + n
  | 0 => by
    have h : (cd_KP sh tp bw l (0 + 1)).length ≤ l.length := cd_KP1_le sh tp bw l
    simp only [cd_KK, List.nil_append]; omega
  | n + 1 => by
    have h := cd_KK_le sh tp bw l n
    have := cd_KP_le sh tp bw l (n + 1 + 1)
    rw [cd_KK, List.length_append, Nat.succ_mul (n + 1)]
    omega
/-- an array holds a list from b on -/
def cd_HD (a : Nat → Int32) (b : Nat) (l : List Nat) : Prop := ∀ i, i < l.length → a (b + i) = nI (l.getD i 0)
theorem cd_gl {l r : List Nat} {i : Nat} (h : i < l.length) : (l ++ r).getD i 0 = l.getD i 0 := by
  rw [List.getD_eq_getElem?_getD, List.getD_eq_getElem?_getD, List.getElem?_append_left h]
theorem cd_gr {l : List Nat} {x : Nat} : (l ++ [x]).getD l.length 0 = x := by
  rw [List.getD_eq_getElem?_getD, List.getElem?_concat_length]; rfl
theorem cd_HD_nil {a : Nat → Int32} {b : Nat} : cd_HD a b [] := fun i h => absurd h (Nat.not_lt_zero i)
theorem cd_HD_put {a : Nat → Int32} {b x : Nat} {l : List Nat} (h : cd_HD a b l) : cd_HD (upd a (b + l.length) (nI x)) b (l ++ [x]) := by
  intro i hi
  rw [List.length_append, List.length_cons, List.length_nil] at hi
  by_cases e : i = l.length
  · subst e; rw [cd_gr]; exact if_pos rfl
  · rw [cd_gl (by omega), ← h i (by omega)]; exact if_neg (by omega)
theorem cd_HD_cg {a a' : Nat → Int32} {b : Nat} {l : List Nat} (h : cd_HD a b l) (e : ∀ i, i < l.length → a' (b + i) = a (b + i)) : cd_HD a' b l :=
  fun i hi => (e i hi).trans (h i hi)
/-- the order of two keys -/
def cd_cm : List Nat → List Nat → Int32
  | [], [] => 0
  | [], _ :: _ => -1
  | _ :: _, [] => 1
  | x :: xs, y :: ys => if x = y then cd_cm xs ys else if x < y then -1 else 1
theorem cd_cm_0 : ∀ l r, cd_cm l r = 0 ↔ l = r
  | [], [] => by simp [cd_cm]
  | [], _ :: _ => by
    have : ¬ (-1 : Int32) = 0 := by decide
    simp [cd_cm, this]
  | _ :: _, [] => by
    have : ¬ (1 : Int32) = 0 := by decide
    simp [cd_cm, this]
  | x :: xs, y :: ys => by
    have h1 : ¬ (-1 : Int32) = 0 := by decide
    have h2 : ¬ (1 : Int32) = 0 := by decide
    have := cd_cm_0 xs ys
    simp only [cd_cm, List.cons.injEq]
    by_cases e : x = y
    · rw [if_pos e, this]; exact ⟨fun h => ⟨e, h⟩, fun h => h.2⟩
    · rw [if_neg e]
      refine ⟨fun h => ?_, fun h => absurd h.1 e⟩
      by_cases z : x < y
      · rw [if_pos z] at h; exact absurd h h1
      · rw [if_neg z] at h; exact absurd h h2
theorem cd_dr {l : List Nat} {k : Nat} (h : k < l.length) : l.drop k = l.getD k 0 :: l.drop (k + 1) := by
  rw [List.drop_eq_getElem_cons h, List.getD_eq_getElem?_getD, List.getElem?_eq_getElem h]; rfl
theorem cd_mem {l : List Nat} {k : Nat} (h : k < l.length) : l.getD k 0 ∈ l := by
  rw [List.getD_eq_getElem?_getD, List.getElem?_eq_getElem h]; exact List.getElem_mem h
/-- counts, the last one, the first one -/
def cd_ct (P : Nat → Bool) : Nat → Nat
  | 0 => 0
  | n + 1 => cd_ct P n + (if P n = true then 1 else 0)
def cd_la (P : Nat → Bool) : Nat → Nat
  | 0 => 0
  | n + 1 => if P n = true then n else cd_la P n
def cd_al (P : Nat → Bool) : Nat → Bool
  | 0 => true
  | n + 1 => cd_al P n && P n
def cd_fd (P : Nat → Bool) : Nat → Nat → Int32
  | 0, _ => -4
  | n + 1, p => if P p = true then nI p else cd_fd P n (p + 1)
theorem cd_ct_le (P : Nat → Bool) : ∀ n, cd_ct P n ≤ n
  | 0 => Nat.le_refl _
  | n + 1 => by have := cd_ct_le P n; simp only [cd_ct]; split <;> omega
theorem cd_fd_f {P : Nat → Bool} : ∀ n p, (∀ i, p ≤ i → i < p + n → P i = false) → cd_fd P n p = -4
  | 0, _, _ => rfl
  | n + 1, p, h => by
    simp only [cd_fd]
    rw [if_neg (by rw [h p (by omega) (by omega)]; decide)]
    exact cd_fd_f n (p + 1) (fun i h1 h2 => h i (by omega) (by omega))
theorem cd_fd_s {P : Nat → Bool} : ∀ d n p, (∀ i, p ≤ i → i < p + d → P i = false) → cd_fd P (d + n) p = cd_fd P n (p + d)
  | 0, n, p, _ => by rw [Nat.zero_add]; rfl
  | d + 1, n, p, h => by
    rw [show d + 1 + n = (d + n) + 1 by omega]
    simp only [cd_fd]
    rw [if_neg (by rw [h p (by omega) (by omega)]; decide), cd_fd_s d n (p + 1) (fun i h1 h2 => h i (by omega) (by omega)), show p + 1 + d = p + (d + 1) by omega]
end
section
/-! the table of entries: places 0 .. 9 + m, each with a word W, a first element A, perhaps a second one B -/
def cd_up {α : Type} (f : Nat → α) (p : Nat) (x : α) : Nat → α := fun q => if q = p then x else f q
theorem cd_up_s {α : Type} {f : Nat → α} {p : Nat} {x : α} : cd_up f p x p = x := if_pos rfl
theorem cd_up_n {α : Type} {f : Nat → α} {p q : Nat} {x : α} (h : ¬ q = p) : cd_up f p x q = f q := if_neg h
def cd_TB (m : Nat) (G : Nat → Option (Nat × Option Nat)) (W A : Nat → Nat) (B : Nat → Option Nat) : Prop :=
  (∀ p, p < 10 + m → W p ≤ 1330 ∧ G (W p) = some (A p, B p)) ∧ (∀ x, x < 10 → W x = x + 1) ∧
  (∀ p q, p < 10 + m → q < 10 + m → W p = W q → p = q) ∧ (∀ w, ¬ G w = none → ∃ p, p < 10 + m ∧ W p = w)
section
variable {m : Nat} {G : Nat → Option (Nat × Option Nat)} {W A : Nat → Nat} {B : Nat → Option Nat}
theorem cd_TB_set {p : Nat} (h : cd_TB m G W A B) (hp : p < 10 + m) (a : Nat) (b : Option Nat) :
    cd_TB m (cd_up G (W p) (some (a, b))) W (cd_up A p a) (cd_up B p b) := by
  obtain ⟨h1, h2, h3, h4⟩ := h
  refine ⟨fun q hq => ⟨(h1 q hq).1, ?_⟩, h2, h3, fun w hw => ?_⟩
  · by_cases e : q = p
    · subst e; rw [cd_up_s, cd_up_s, cd_up_s]
    · rw [cd_up_n e, cd_up_n e, cd_up_n (fun z => e (h3 q p hq hp z))]; exact (h1 q hq).2
  · by_cases e : w = W p
    · exact ⟨p, hp, e.symm⟩
    · rw [cd_up_n e] at hw; exact h4 w hw
theorem cd_TB_ne {w q : Nat} (h : cd_TB m G W A B) (hn : G w = none) (hq : q < 10 + m) : ¬ W q = w := fun e => by
  have := (h.1 q hq).2
  rw [e, hn] at this
  exact absurd this (by simp)
theorem cd_TB_new {w : Nat} (h : cd_TB m G W A B) (hw : w ≤ 1330) (hn : G w = none) (a : Nat) (b : Option Nat) :
    cd_TB (m + 1) (cd_up G w (some (a, b))) (cd_up W (10 + m) w) (cd_up A (10 + m) a) (cd_up B (10 + m) b) := by
  have hne : ∀ q, q < 10 + m → ¬ W q = w := fun q hq => cd_TB_ne h hn hq
  obtain ⟨h1, h2, h3, h4⟩ := h
  refine ⟨fun q hq => ?_, fun x hx => ?_, fun p q hp hq e => ?_, fun v hv => ?_⟩
  · by_cases e : q = 10 + m
    · subst e; rw [cd_up_s, cd_up_s, cd_up_s, cd_up_s]; exact ⟨hw, rfl⟩
    · rw [cd_up_n e, cd_up_n e, cd_up_n e, cd_up_n (hne q (by omega))]; exact h1 q (by omega)
  · rw [cd_up_n (by omega)]; exact h2 x hx
  · by_cases ep : p = 10 + m
    · by_cases eq : q = 10 + m
      · omega
      · rw [ep, cd_up_s, cd_up_n eq] at e; exact absurd e.symm (hne q (by omega))
    · by_cases eq : q = 10 + m
      · rw [eq, cd_up_s, cd_up_n ep] at e; exact absurd e (hne p (by omega))
      · rw [cd_up_n ep, cd_up_n eq] at e; exact h3 p q (by omega) (by omega) e
  · by_cases e : v = w
    · exact ⟨10 + m, by omega, by rw [cd_up_s, e]⟩
    · rw [cd_up_n e] at hv
      obtain ⟨p, hp, hpe⟩ := h4 v hv
      exact ⟨p, by omega, by rw [cd_up_n (by omega)]; exact hpe⟩
theorem cd_TB_swap {p : Nat} (h : cd_TB (m + 1) G W A B) (h10 : 10 ≤ p) (hp : p < 10 + (m + 1)) :
    cd_TB m (cd_up G (W p) none) (cd_up W p (W (10 + m))) (cd_up A p (A (10 + m))) (cd_up B p (B (10 + m))) := by
  obtain ⟨h1, h2, h3, h4⟩ := h
  refine ⟨fun q hq => ?_, fun x hx => ?_, fun r q hr hq e => ?_, fun v hv => ?_⟩
  · by_cases e : q = p
    · subst e
      rw [cd_up_s, cd_up_s, cd_up_s, cd_up_n (fun z => by have := h3 _ _ (by omega) hp z; omega)]
      exact h1 _ (by omega)
    · rw [cd_up_n e, cd_up_n e, cd_up_n e, cd_up_n (fun z => e (h3 _ _ (by omega) hp z))]
      exact h1 q (by omega)
  · rw [cd_up_n (by omega)]; exact h2 x hx
  · by_cases er : r = p
    · by_cases eq : q = p
      · omega
      · rw [er, cd_up_s, cd_up_n eq] at e
        have := h3 _ _ (by omega) (by omega) e; omega
    · by_cases eq : q = p
      · rw [eq, cd_up_s, cd_up_n er] at e
        have := h3 _ _ (by omega) (by omega) e; omega
      · rw [cd_up_n er, cd_up_n eq] at e; exact h3 r q (by omega) (by omega) e
  · by_cases e : v = W p
    · rw [e, cd_up_s] at hv; exact absurd rfl hv
    · rw [cd_up_n e] at hv
      obtain ⟨r, hr, hre⟩ := h4 v hv
      have hrp : ¬ r = p := fun z => e (by rw [← hre, z])
      by_cases er : r = 10 + m
      · exact ⟨p, by omega, by rw [cd_up_s, ← er]; exact hre⟩
      · exact ⟨r, by omega, by rw [cd_up_n hrp]; exact hre⟩
theorem cd_TB_shift {p : Nat} (h : cd_TB (m + 1) G W A B) (h10 : 10 ≤ p) (hp : p < 10 + (m + 1)) :
    cd_TB m (cd_up G (W p) none) (fun q => if q < p then W q else W (q + 1)) (fun q => if q < p then A q else A (q + 1)) (fun q => if q < p then B q else B (q + 1)) := by
  obtain ⟨h1, h2, h3, h4⟩ := h
  refine ⟨fun q hq => ?_, fun x hx => ?_, fun r q hr hq e => ?_, fun v hv => ?_⟩
  · dsimp only
    by_cases e : q < p
    · rw [if_pos e, if_pos e, if_pos e, cd_up_n (fun z => by have := h3 _ _ (by omega) hp z; omega)]
      exact h1 _ (by omega)
    · rw [if_neg e, if_neg e, if_neg e, cd_up_n (fun z => by have := h3 _ _ (by omega) hp z; omega)]
      exact h1 _ (by omega)
  · dsimp only
    rw [if_pos (by omega)]; exact h2 x hx
  · dsimp only at e
    by_cases er : r < p
    · by_cases eq : q < p
      · rw [if_pos er, if_pos eq] at e; exact h3 _ _ (by omega) (by omega) e
      · rw [if_pos er, if_neg eq] at e
        have := h3 _ _ (by omega) (by omega) e; omega
    · by_cases eq : q < p
      · rw [if_neg er, if_pos eq] at e
        have := h3 _ _ (by omega) (by omega) e; omega
      · rw [if_neg er, if_neg eq] at e
        have := h3 _ _ (by omega) (by omega) e; omega
  · by_cases e : v = W p
    · rw [e, cd_up_s] at hv; exact absurd rfl hv
    · rw [cd_up_n e] at hv
      obtain ⟨r, hr, hre⟩ := h4 v hv
      have hrp : ¬ r = p := fun z => e (by rw [← hre, z])
      by_cases er : r < p
      · exact ⟨r, by omega, by dsimp only; rw [if_pos er]; exact hre⟩
      · refine ⟨r - 1, by omega, ?_⟩
        dsimp only
        rw [if_neg (by omega), show r - 1 + 1 = r by omega]; exact hre
theorem cd_TB_map (h : cd_TB m G W A B) (g : Nat → Nat) :
    cd_TB m (fun w => (G w).map (fun x => (g x.1, x.2.map g))) W (fun p => g (A p)) (fun p => (B p).map g) := by
  obtain ⟨h1, h2, h3, h4⟩ := h
  refine ⟨fun q hq => ⟨(h1 q hq).1, ?_⟩, h2, h3, fun w hw => h4 w (fun z => hw ?_)⟩
  · dsimp only; rw [(h1 q hq).2]; rfl
  · dsimp only; rw [z]; rfl
end
/-- the component's cells hold a table -/
def cd_en : Option Nat → Int32
  | none => -1
  | some e => nI e
def cd_XT (m : Nat) (G : Nat → Option (Nat × Option Nat)) (aw ae : Nat → Int32) : Prop :=
  ∃ W A B, cd_TB m G W A B ∧ (∀ p, p < 10 + m → aw p = nI (W p) ∧ ae (2 * p) = nI (A p) ∧ ae (2 * p + 1) = cd_en (B p)) ∧
    (∀ p, 10 + m ≤ p → p < 16 → ae (2 * p) = -1 ∧ ae (2 * p + 1) = -1)
/-- the reference's cells hold one -/
def cd_cn : Option Nat → Int32
  | none => 1
  | some _ => 2
def cd_YT (m : Nat) (G : Nat → Option (Nat × Option Nat)) (vw vc vo vt : Nat → Int32) : Prop :=
  ∃ W A B, cd_TB m G W A B ∧ (∀ p, p < 10 + m → vw p = nI (W p) ∧ vo p = nI (A p) ∧ vc p = cd_cn (B p) ∧ ∀ e, B p = some e → vt p = nI e)
/-- what holds of the picture itself -/
def cd_D (m bw sh tp : Nat) (L c : Nat → Nat) (G : Nat → Option (Nat × Option Nat)) : Prop :=
  m ≤ 6 ∧ bw ≤ 1 ∧ sh ≤ 1 ∧ tp ≤ 30 ∧ cd_OK G ∧ (∀ s, s < 10 → L s ≤ 12) ∧ (∀ s k, s < 10 → k < L s → c (12 * s + k) < 10)
/-- the strings in the cells -/
def cd_ST (L c : Nat → Nat) (an al : Nat → Int32) : Prop :=
  (∀ s, s < 10 → an s = nI (L s)) ∧ (∀ s k, s < 10 → k < L s → al (12 * s + k) = nI (c (12 * s + k)))
end
section
/-! levels: what grows behind an anchor a at level l (1 to 3), by how much, up to where -/
def cd_wt (e l : Nat) : Nat := if l = 1 then e % 32 else if l = 2 then e / 32 % 8 else e / 256
def cd_un (l : Nat) : Nat := if l = 1 then 1 else if l = 2 then 32 else 256
def cd_mx (l : Nat) : Nat := if l = 1 then 30 else if l = 2 then 7 else 3
def cd_gb (e a l : Nat) : Prop := (l ≤ 1 ∨ cd_wt e 1 = cd_wt a 1) ∧ (l ≤ 2 ∨ cd_wt e 2 = cd_wt a 2) ∧ cd_wt a l < cd_wt e l
noncomputable def cd_gx (a l e : Nat) : Nat := @ite Nat (cd_gb e a l) (Classical.propDecidable _) (e + cd_un l) e
theorem cd_gx_t {a l e : Nat} (h : cd_gb e a l) : cd_gx a l e = e + cd_un l := by unfold cd_gx; rw [if_pos h]
theorem cd_gx_f {a l e : Nat} (h : ¬ cd_gb e a l) : cd_gx a l e = e := by unfold cd_gx; rw [if_neg h]
def cd_bl (a l : Nat) : Nat := if l = 1 then a % 32 + 1 + 32 + 256 else if l = 2 then a % 32 + 32 * (a / 32 % 8 + 1) + 256 else a % 32 + 32 * (a / 32 % 8) + 256 * (a / 256 + 1)
def cd_fit1 (a l e : Nat) : Prop := cd_gb e a l → cd_wt e l < cd_mx l
/-- there is room at level l behind a -/
def cd_fit (G : Nat → Option (Nat × Option Nat)) (a l : Nat) : Prop :=
  cd_wt a l < cd_mx l ∧ ∀ w x y, G w = some (x, y) → cd_fit1 a l x ∧ ∀ e, y = some e → cd_fit1 a l e
theorem cd_V_gx {a l e : Nat} (h1 : 1 ≤ l) (h3 : l ≤ 3) (he : cd_V e) (hf : cd_fit1 a l e) : cd_V (cd_gx a l e) := by
  rcases Classical.em (cd_gb e a l) with z | z
  · have hw := hf z
    rw [cd_gx_t z]
    obtain ⟨g1, g2⟩ := he
    unfold cd_V
    unfold cd_wt cd_mx at hw
    unfold cd_un
    have hl : l = 1 ∨ l = 2 ∨ l = 3 := by omega
    rcases hl with rfl | rfl | rfl
    · simp only [if_true] at hw ⊢; omega
    · simp at hw ⊢; omega
    · simp at hw ⊢; omega
  · rw [cd_gx_f z]; exact he
theorem cd_V_bl {a l : Nat} (h1 : 1 ≤ l) (h3 : l ≤ 3) (ha : cd_V a) (hf : cd_wt a l < cd_mx l) : cd_V (cd_bl a l) := by
  obtain ⟨g1, g2⟩ := ha
  unfold cd_V
  unfold cd_wt cd_mx at hf
  unfold cd_bl
  have hl : l = 1 ∨ l = 2 ∨ l = 3 := by omega
  rcases hl with rfl | rfl | rfl
  · simp only [if_true] at hf ⊢; omega
  · simp at hf ⊢; omega
  · simp at hf ⊢; omega
/-- the table behind tailor(a's letter, b, l) -/
noncomputable def cd_tG (G : Nat → Option (Nat × Option Nat)) (a b l : Nat) : Nat → Option (Nat × Option Nat) :=
  cd_up (fun w => (G w).map (fun x => (cd_gx a l x.1, x.2.map (cd_gx a l)))) (b + 1) (some (cd_bl a l, none))
theorem cd_OK_up {G : Nat → Option (Nat × Option Nat)} (h : cd_OK G) {w a : Nat} {b : Option Nat} (ha : cd_V a) (hb : ∀ e, b = some e → cd_V e) : cd_OK (cd_up G w (some (a, b))) := by
  obtain ⟨h1, h2⟩ := h
  refine ⟨fun v x y e => ?_, fun x hx => ?_⟩
  · by_cases z : v = w
    · rw [z, cd_up_s] at e
      cases e
      exact ⟨ha, hb⟩
    · rw [cd_up_n z] at e; exact h1 v x y e
  · by_cases z : x + 1 = w
    · rw [z, cd_up_s]; exact fun q => by cases q
    · rw [cd_up_n z]; exact h2 x hx
theorem cd_OK_no {G : Nat → Option (Nat × Option Nat)} (h : cd_OK G) {w : Nat} (hw : 2 ≤ cd_wl w) : cd_OK (cd_up G w none) := by
  obtain ⟨h1, h2⟩ := h
  refine ⟨fun v x y e => ?_, fun x hx => ?_⟩
  · by_cases z : v = w
    · rw [z, cd_up_s] at e; cases e
    · rw [cd_up_n z] at e; exact h1 v x y e
  · have : ¬ x + 1 = w := fun z => by have := cd_wl_1 hx; rw [z] at this; omega
    rw [cd_up_n this]; exact h2 x hx
theorem cd_OK_map {G : Nat → Option (Nat × Option Nat)} (h : cd_OK G) {g : Nat → Nat} (hg : ∀ w x y, G w = some (x, y) → cd_V (g x) ∧ ∀ e, y = some e → cd_V (g e)) :
    cd_OK (fun w => (G w).map (fun x => (g x.1, x.2.map g))) := by
  obtain ⟨h1, h2⟩ := h
  refine ⟨fun v x y e => ?_, fun x hx e => h2 x hx ?_⟩
  · dsimp only at e
    cases z : G v with
    | none => rw [z] at e; cases e
    | some q =>
      obtain ⟨q1, q2⟩ := q
      rw [z] at e
      have k := hg v q1 q2 z
      cases e
      refine ⟨k.1, fun e' he' => ?_⟩
      cases q2 with
      | none => cases he'
      | some q3 => cases he'; exact k.2 q3 rfl
  · dsimp only at e
    cases z : G (x + 1) with
    | none => rfl
    | some q => rw [z] at e; cases e
end
section
/-! more of the picture: bounds of element lists, cells of the table, room -/
theorem cd_EL_le (G : Nat → Option (Nat × Option Nat)) (c : Nat → Nat) (q : Nat) : ∀ d p, q - p ≤ d → (cd_EL G c p q).length ≤ 2 * (q - p) := by
  intro d
  induction d with
  | zero =>
    intro p h
    rw [cd_EL_nil (by omega)]
    exact Nat.zero_le _
  | succ d ih =>
    intro p h
    by_cases z : p < q
    · have h1 := cd_mt_pos G c p q
      have h2 := cd_mt_q (G := G) (c := c) z
      have h3 := ih (p + cd_mt G c p q) (by omega)
      have h4 := cd_eg_le (G (cd_wd c p (cd_mt G c p q)))
      rw [cd_EL_cons z, List.length_append]
      omega
    · rw [cd_EL_nil (by omega)]
      exact Nat.zero_le _
theorem cd_EL_12 {G : Nat → Option (Nat × Option Nat)} {c : Nat → Nat} {p q : Nat} (h : q ≤ p + 12) : (cd_EL G c p q).length ≤ 24 := by
  have := cd_EL_le G c q (q - p) p (Nat.le_refl _)
  omega
theorem cd_KK_99 {sh tp bw : Nat} {l : List Nat} (h0 : l.length ≤ 24) : ∀ n, n ≤ 4 → (cd_KK sh tp bw l n).length ≤ 99
  | 0, _ => Nat.zero_le _
  | 1, _ => by
    have h : (cd_KK sh tp bw l 1).length ≤ (0 + 1) * l.length + 0 := cd_KK_le sh tp bw l 0
    omega
  | 2, _ => by
    have h : (cd_KK sh tp bw l 2).length ≤ (1 + 1) * l.length + 1 := cd_KK_le sh tp bw l 1
    omega
  | 3, _ => by
    have h : (cd_KK sh tp bw l 3).length ≤ (2 + 1) * l.length + 2 := cd_KK_le sh tp bw l 2
    omega
  | 4, _ => by
    have h : (cd_KK sh tp bw l 4).length ≤ (3 + 1) * l.length + 3 := cd_KK_le sh tp bw l 3
    omega
/-- the key of the letters from p to before q -/
def cd_KE (sh tp bw : Nat) (G : Nat → Option (Nat × Option Nat)) (c : Nat → Nat) (p q n : Nat) : List Nat := cd_KK sh tp bw (cd_EL G c p q) n
theorem cd_KE_99 {sh tp bw : Nat} {G : Nat → Option (Nat × Option Nat)} {c : Nat → Nat} {p q n : Nat} (h : q ≤ p + 12) (hn : n ≤ 4) : (cd_KE sh tp bw G c p q n).length ≤ 99 :=
  cd_KK_99 (cd_EL_12 h) n hn
theorem cd_KE_b (sh tp bw : Nat) (G : Nat → Option (Nat × Option Nat)) (c : Nat → Nat) (p q n : Nat) : ∀ x ∈ cd_KE sh tp bw G c p q n, x ≤ 31 := cd_KK_b sh tp bw _ n
theorem cd_getD_b {l : List Nat} {b : Nat} (h : ∀ x ∈ l, x ≤ b) (i : Nat) : l.getD i 0 ≤ b := by
  by_cases z : i < l.length
  · exact h _ (cd_mem z)
  · rw [List.getD_eq_getElem?_getD, List.getElem?_eq_none (by omega)]
    exact Nat.zero_le _
/-- the longest word at a place of letters below ten has an entry -/
theorem cd_wd_some {G : Nat → Option (Nat × Option Nat)} {c : Nat → Nat} {p q : Nat} (hG : cd_OK G) (hc : c p < 10) : ¬ G (cd_wd c p (cd_mt G c p q)) = none := by
  unfold cd_mt
  split
  · rename_i h
    exact h.2
  · split
    · rename_i h
      exact h.2
    · exact hG.2 (c p) hc
theorem cd_wd_len {G : Nat → Option (Nat × Option Nat)} {c : Nat → Nat} {p q : Nat} (hc : ∀ i, p ≤ i → i < q → c i < 10) (h : p < q) : cd_wl (cd_wd c p (cd_mt G c p q)) = cd_mt G c p q := by
  have h0 := hc p (Nat.le_refl _) h
  unfold cd_mt
  split
  · rename_i z
    exact cd_wl_3 h0 (hc _ (by omega) (by omega)) (hc _ (by omega) (by omega))
  · split
    · rename_i z
      exact cd_wl_2 h0 (hc _ (by omega) (by omega))
    · exact cd_wl_1 h0
/-- the elements at a place of the table -/
theorem cd_eg_some (a : Nat) (b : Option Nat) : cd_eg (some (a, b)) = a :: b.toList := by
  cases b <;> rfl
theorem cd_TB_at {m : Nat} {G : Nat → Option (Nat × Option Nat)} {W A : Nat → Nat} {B : Nat → Option Nat} (h : cd_TB m G W A B) {p : Nat} (hp : p < 10 + m) : cd_eg (G (W p)) = A p :: (B p).toList := by
  rw [(h.1 p hp).2, cd_eg_some]
theorem cd_TB_V {m : Nat} {G : Nat → Option (Nat × Option Nat)} {W A : Nat → Nat} {B : Nat → Option Nat} (h : cd_TB m G W A B) (hG : cd_OK G) {p : Nat} (hp : p < 10 + m) : cd_V (A p) ∧ ∀ e, B p = some e → cd_V e :=
  hG.1 _ _ _ (h.1 p hp).2
theorem cd_wt_le {e l : Nat} (h : cd_V e) : cd_wt e l ≤ cd_mx l := by
  obtain ⟨h1, h2⟩ := h
  unfold cd_wt cd_mx
  split
  · exact h2
  · split <;> omega
theorem cd_fit_TB {m : Nat} {G : Nat → Option (Nat × Option Nat)} {W A : Nat → Nat} {B : Nat → Option Nat} (h : cd_TB m G W A B) {a l : Nat} :
    cd_fit G a l ↔ cd_wt a l < cd_mx l ∧ ∀ p, p < 10 + m → cd_fit1 a l (A p) ∧ ∀ e, B p = some e → cd_fit1 a l e := by
  constructor
  · intro f
    exact ⟨f.1, fun p hp => f.2 _ _ _ (h.1 p hp).2⟩
  · intro f
    refine ⟨f.1, fun w x y e => ?_⟩
    obtain ⟨p, hp, rfl⟩ := h.2.2.2 w (by rw [e]; exact fun z => by cases z)
    have k := (h.1 p hp).2
    rw [e] at k
    cases k
    exact f.2 p hp
theorem cd_TB_tG {m : Nat} {G : Nat → Option (Nat × Option Nat)} {W A : Nat → Nat} {B : Nat → Option Nat} (h : cd_TB m G W A B) {a b l : Nat} (hb : b < 10) :
    cd_TB m (cd_tG G a b l) W (cd_up (fun p => cd_gx a l (A p)) b (cd_bl a l)) (cd_up (fun p => (B p).map (cd_gx a l)) b none) := by
  have k := cd_TB_set (cd_TB_map h (cd_gx a l)) (p := b) (by omega) (cd_bl a l) none
  rw [h.2.1 b hb] at k
  exact k
theorem cd_OK_tG {G : Nat → Option (Nat × Option Nat)} {a b l : Nat} (h : cd_OK G) (h1 : 1 ≤ l) (h3 : l ≤ 3) (ha : cd_V a) (f : cd_fit G a l) : cd_OK (cd_tG G a b l) := by
  refine cd_OK_up (cd_OK_map h (fun w x y e => ?_)) (cd_V_bl h1 h3 ha f.1) (fun e he => by cases he)
  have k := h.1 w x y e
  have k2 := f.2 w x y e
  exact ⟨cd_V_gx h1 h3 k.1 k2.1, fun z hz => cd_V_gx h1 h3 (k.2 z hz) (k2.2 z hz)⟩
/-- the component's cells of elements, one by one -/
def cd_cl (m : Nat) (A : Nat → Nat) (B : Nat → Option Nat) (k : Nat) : Option Nat := if k < 2 * (10 + m) then (if k % 2 = 0 then some (A (k / 2)) else B (k / 2)) else none
theorem cd_cl_0 {m : Nat} {A : Nat → Nat} {B : Nat → Option Nat} {p : Nat} (h : p < 10 + m) : cd_cl m A B (2 * p) = some (A p) := by
  unfold cd_cl
  rw [if_pos (by omega), if_pos (by omega), show 2 * p / 2 = p by omega]
theorem cd_cl_1 {m : Nat} {A : Nat → Nat} {B : Nat → Option Nat} {p : Nat} (h : p < 10 + m) : cd_cl m A B (2 * p + 1) = B p := by
  unfold cd_cl
  rw [if_pos (by omega), if_neg (by omega), show (2 * p + 1) / 2 = p by omega]
theorem cd_cl_n {m : Nat} {A : Nat → Nat} {B : Nat → Option Nat} {k : Nat} (h : 2 * (10 + m) ≤ k) : cd_cl m A B k = none := by
  unfold cd_cl
  rw [if_neg (by omega)]
theorem cd_cl_map {m : Nat} {A : Nat → Nat} {B : Nat → Option Nat} {g : Nat → Nat} (k : Nat) : cd_cl m (fun p => g (A p)) (fun p => (B p).map g) k = (cd_cl m A B k).map g := by
  unfold cd_cl
  split
  · split <;> rfl
  · rfl
theorem cd_cl_V {m : Nat} {G : Nat → Option (Nat × Option Nat)} {W A : Nat → Nat} {B : Nat → Option Nat} (h : cd_TB m G W A B) (hG : cd_OK G) {k e : Nat} (he : cd_cl m A B k = some e) : cd_V e := by
  unfold cd_cl at he
  split at he
  · split at he
    · cases he
      exact (cd_TB_V h hG (by omega)).1
    · exact (cd_TB_V h hG (by omega)).2 e he
  · cases he
theorem cd_fit_cl {m : Nat} {G : Nat → Option (Nat × Option Nat)} {W A : Nat → Nat} {B : Nat → Option Nat} (h : cd_TB m G W A B) {a l : Nat} (hm : m ≤ 6) :
    cd_fit G a l ↔ cd_wt a l < cd_mx l ∧ ∀ k, k < 32 → ∀ e, cd_cl m A B k = some e → cd_fit1 a l e := by
  rw [cd_fit_TB h]
  constructor
  · intro f
    refine ⟨f.1, fun k hk e he => ?_⟩
    unfold cd_cl at he
    split at he
    · split at he
      · cases he
        exact (f.2 _ (by omega)).1
      · exact (f.2 _ (by omega)).2 e he
    · cases he
  · intro f
    refine ⟨f.1, fun p hp => ⟨f.2 (2 * p) (by omega) _ (cd_cl_0 hp), fun e he => f.2 (2 * p + 1) (by omega) e ?_⟩⟩
    rw [cd_cl_1 hp]
    exact he
theorem cd_XT_cells {m : Nat} {A : Nat → Nat} {B : Nat → Option Nat} {ae : Nat → Int32} (hm : m ≤ 6) (h1 : ∀ p, p < 10 + m → ae (2 * p) = nI (A p) ∧ ae (2 * p + 1) = cd_en (B p)) (h2 : ∀ p, 10 + m ≤ p → p < 16 → ae (2 * p) = -1 ∧ ae (2 * p + 1) = -1) :
    ∀ k, k < 32 → ae k = cd_en (cd_cl m A B k) := by
  intro k hk
  obtain ⟨p, hp⟩ : ∃ p, k = 2 * p ∨ k = 2 * p + 1 := ⟨k / 2, by omega⟩
  by_cases z : p < 10 + m
  · rcases hp with rfl | rfl
    · rw [cd_cl_0 z]; exact (h1 p z).1
    · rw [cd_cl_1 z]; exact (h1 p z).2
  · rw [cd_cl_n (by omega)]
    rcases hp with rfl | rfl
    · exact (h2 p (by omega) (by omega)).1
    · exact (h2 p (by omega) (by omega)).2
/-- small numbers -/
theorem cd_1 : ∀ e, e < 1024 → ¬ nI e = -1 := by decide +kernel
theorem cd_en_n {e : Nat} (h : e < 1024) : ¬ cd_en (some e) = -1 := cd_1 e h
end
section
/-! frames, keys in cells, weights in cells, the order step by step -/
def cd_FR (b n : Nat) (a a' : Nat → Int32) : Prop := ∀ i, (i < b ∨ b + n ≤ i) → a' i = a i
theorem cd_FR_r {b n : Nat} {a : Nat → Int32} : cd_FR b n a a := fun _ _ => rfl
theorem cd_FR_t {b n : Nat} {a a' a'' : Nat → Int32} (h : cd_FR b n a a') (h' : cd_FR b n a' a'') : cd_FR b n a a'' := fun i hi => (h' i hi).trans (h i hi)
theorem cd_FR_u {b n j : Nat} {a a' : Nat → Int32} {x : Int32} (h : cd_FR b n a a') (h1 : b ≤ j) (h2 : j < b + n) : cd_FR b n a (upd a' j x) := fun i hi => by
  rw [pk_un (by omega)]; exact h i hi
/-- a key, from cell b on, its length in cell j -/
def cd_KT (b j : Nat) (ak al : Nat → Int32) (K : List Nat) : Prop := cd_HD ak b K ∧ al j = nI K.length ∧ K.length ≤ 99 ∧ ∀ x ∈ K, x ≤ 31
theorem cd_KT_fr {b j b' n : Nat} {ak al ak' al' : Nat → Int32} {K : List Nat} (h : cd_KT b j ak al K) (f : cd_FR b' n ak ak') (hb : b + 99 ≤ b' ∨ b' + n ≤ b) (e : al' j = al j) : cd_KT b j ak' al' K := by
  obtain ⟨h1, h2, h3, h4⟩ := h
  exact ⟨cd_HD_cg h1 (fun i hi => f _ (by omega)), e.trans h2, h3, h4⟩
/-- weights in cells -/
def cd_A3 (l : List Nat) (a1 a2 a3 : Nat → Int32) : Prop := ∀ k, k < l.length → a1 k = nI (cd_f1 l k) ∧ a2 k = nI (cd_f2 l k) ∧ a3 k = nI (cd_f3 l k)
theorem cd_A3_nil {a1 a2 a3 : Nat → Int32} : cd_A3 [] a1 a2 a3 := fun k h => absurd h (Nat.not_lt_zero k)
theorem cd_A3_put {l : List Nat} {a1 a2 a3 : Nat → Int32} {e : Nat} (h : cd_A3 l a1 a2 a3) (he : cd_V e) :
    cd_A3 (l ++ [e]) (upd a1 l.length (nI (e % 32))) (upd a2 l.length (nI (e / 32 % 8))) (upd a3 l.length (nI (e / 256))) := by
  intro k hk
  rw [List.length_append, List.length_cons, List.length_nil] at hk
  unfold cd_f1 cd_f2 cd_f3
  by_cases z : k = l.length
  · subst z
    rw [cd_gr, pk_us, pk_us, pk_us]
    obtain ⟨g1, g2⟩ := he
    exact ⟨rfl, rfl, by rw [show e / 256 % 4 = e / 256 by omega]⟩
  · rw [cd_gl (by omega), pk_un z, pk_un z, pk_un z]
    exact h k (by omega)
def cd_AF (sh tp : Nat) (l : List Nat) (a1 a2 a3 a4 : Nat → Int32) : Prop :=
  ∀ k, k < l.length → a1 k = nI (cd_F1 sh tp l k) ∧ a2 k = nI (cd_F2 sh tp l k) ∧ a3 k = nI (cd_F3 sh tp l k) ∧ a4 k = nI (cd_F4 sh tp l k)
/-- half way: the cells before k are shifted -/
def cd_AH (sh tp : Nat) (l : List Nat) (a1 a2 a3 a4 : Nat → Int32) (n : Nat) : Prop :=
  (∀ k, k < n → a1 k = nI (cd_F1 sh tp l k) ∧ a2 k = nI (cd_F2 sh tp l k) ∧ a3 k = nI (cd_F3 sh tp l k) ∧ a4 k = nI (cd_F4 sh tp l k)) ∧
  (∀ k, n ≤ k → k < l.length → a1 k = nI (cd_f1 l k) ∧ a2 k = nI (cd_f2 l k) ∧ a3 k = nI (cd_f3 l k))
theorem cd_AH_0 {sh tp : Nat} {l : List Nat} {a1 a2 a3 a4 : Nat → Int32} (h : cd_A3 l a1 a2 a3) : cd_AH sh tp l a1 a2 a3 a4 0 := ⟨fun k hk => absurd hk (Nat.not_lt_zero k), fun k _ hk => h k hk⟩
theorem cd_AH_e {sh tp : Nat} {l : List Nat} {a1 a2 a3 a4 : Nat → Int32} (h : cd_AH sh tp l a1 a2 a3 a4 l.length) : cd_AF sh tp l a1 a2 a3 a4 := fun k hk => h.1 k hk
/-- one step: whatever stands at n then is what is wanted there, and no other cell is changed -/
theorem cd_AH_s {sh tp : Nat} {l : List Nat} {a1 a2 a3 a4 b1 b2 b3 b4 : Nat → Int32} {n : Nat} (h : cd_AH sh tp l a1 a2 a3 a4 n)
    (h1 : b1 n = nI (cd_F1 sh tp l n)) (h2 : b2 n = nI (cd_F2 sh tp l n)) (h3 : b3 n = nI (cd_F3 sh tp l n)) (h4 : b4 n = nI (cd_F4 sh tp l n))
    (g : ∀ k, ¬ k = n → b1 k = a1 k ∧ b2 k = a2 k ∧ b3 k = a3 k ∧ b4 k = a4 k) : cd_AH sh tp l b1 b2 b3 b4 (n + 1) := by
  refine ⟨fun k hk => ?_, fun k hk hl => ?_⟩
  · by_cases z : k = n
    · subst z; exact ⟨h1, h2, h3, h4⟩
    · obtain ⟨g1, g2, g3, g4⟩ := g k z
      rw [g1, g2, g3, g4]; exact h.1 k (by omega)
  · obtain ⟨g1, g2, g3, g4⟩ := g k (by omega)
    rw [g1, g2, g3]; exact h.2 k (by omega) hl
def cd_bi : Bool → Int32
  | true => 1
  | false => 0
theorem cd_am_0 {tp : Nat} {l : List Nat} {k : Nat} (h : cd_f1 l k = 0) : cd_am tp l (k + 1) = cd_am tp l k := by simp only [cd_am, if_pos h]
theorem cd_am_t {tp : Nat} {l : List Nat} {k : Nat} (h : ¬ cd_f1 l k = 0) (z : cd_f1 l k ≤ tp) : cd_am tp l (k + 1) = true := by simp only [cd_am, if_neg h, decide_eq_true z]
theorem cd_am_f {tp : Nat} {l : List Nat} {k : Nat} (h : ¬ cd_f1 l k = 0) (z : ¬ cd_f1 l k ≤ tp) : cd_am tp l (k + 1) = false := by simp only [cd_am, if_neg h, decide_eq_false z]
section
variable {sh tp : Nat} {l : List Nat} {k : Nat}
theorem cd_F_0 (h : sh = 0) : cd_F1 sh tp l k = cd_f1 l k ∧ cd_F2 sh tp l k = cd_f2 l k ∧ cd_F3 sh tp l k = cd_f3 l k ∧ cd_F4 sh tp l k = 0 := by
  subst h
  unfold cd_F1 cd_F2 cd_F3 cd_F4
  rw [if_neg (by omega), if_neg (by omega), if_neg (by omega), if_neg (by omega)]
  exact ⟨rfl, rfl, rfl, rfl⟩
theorem cd_F_t (h : sh = 1) (z : cd_am tp l (k + 1) = true) : cd_F1 sh tp l k = 0 ∧ cd_F2 sh tp l k = 0 ∧ cd_F3 sh tp l k = 0 ∧ cd_F4 sh tp l k = cd_f1 l k := by
  subst h
  unfold cd_F1 cd_F2 cd_F3 cd_F4
  rw [if_pos ⟨rfl, z⟩, if_pos ⟨rfl, z⟩, if_pos ⟨rfl, z⟩, if_pos rfl, if_pos z]
  exact ⟨rfl, rfl, rfl, rfl⟩
theorem cd_F_f (h : sh = 1) (z : cd_am tp l (k + 1) = false) : cd_F1 sh tp l k = cd_f1 l k ∧ cd_F2 sh tp l k = cd_f2 l k ∧ cd_F3 sh tp l k = cd_f3 l k := by
  subst h
  have z' : ¬ cd_am tp l (k + 1) = true := by rw [z]; decide
  unfold cd_F1 cd_F2 cd_F3
  rw [if_neg (fun q => z' q.2), if_neg (fun q => z' q.2), if_neg (fun q => z' q.2)]
  exact ⟨rfl, rfl, rfl⟩
theorem cd_F4_0 (h : sh = 1) (z : cd_am tp l (k + 1) = false) (q : cd_f1 l k = 0 ∧ cd_f2 l k = 0 ∧ cd_f3 l k = 0) : cd_F4 sh tp l k = 0 := by
  subst h
  have z' : ¬ cd_am tp l (k + 1) = true := by rw [z]; decide
  unfold cd_F4
  rw [if_pos rfl, if_neg z', if_pos q]
theorem cd_F4_1 (h : sh = 1) (z : cd_am tp l (k + 1) = false) (q : ¬ (cd_f1 l k = 0 ∧ cd_f2 l k = 0 ∧ cd_f3 l k = 0)) : cd_F4 sh tp l k = 31 := by
  subst h
  have z' : ¬ cd_am tp l (k + 1) = true := by rw [z]; decide
  unfold cd_F4
  rw [if_pos rfl, if_neg z', if_neg q]
end
theorem cd_f1_b (l : List Nat) (k : Nat) : cd_f1 l k < 32 := by unfold cd_f1; omega
theorem cd_f2_b (l : List Nat) (k : Nat) : cd_f2 l k < 8 := by unfold cd_f2; omega
theorem cd_f3_b (l : List Nat) (k : Nat) : cd_f3 l k < 4 := by unfold cd_f3; omega
theorem cd_F1_b (sh tp : Nat) (l : List Nat) (k : Nat) : cd_F1 sh tp l k ≤ 31 := cd_W_le sh tp 0 l 1 k
theorem cd_F2_b (sh tp : Nat) (l : List Nat) (k : Nat) : cd_F2 sh tp l k ≤ 31 := cd_W_le sh tp 0 l 2 k
theorem cd_F3_b (sh tp : Nat) (l : List Nat) (k : Nat) : cd_F3 sh tp l k ≤ 31 := cd_W_le sh tp 0 l 3 k
theorem cd_F4_b (sh tp : Nat) (l : List Nat) (k : Nat) : cd_F4 sh tp l k ≤ 31 := cd_W_le sh tp 0 l 4 k
/-- keys level by level -/
theorem cd_KK_1 (sh tp bw : Nat) (l : List Nat) : cd_KK sh tp bw l 1 = cd_flt (cd_F1 sh tp l) l.length := by
  show [] ++ ([] ++ cd_flt (cd_W sh tp bw l 1) l.length) = _
  rw [List.nil_append, List.nil_append]
  rfl
theorem cd_KK_2 (sh tp bw : Nat) (l : List Nat) (h : ¬ bw = 1) : cd_KK sh tp bw l 2 = (cd_KK sh tp bw l 1 ++ [0]) ++ cd_flt (cd_F2 sh tp l) l.length := by
  have e : cd_W sh tp bw l 2 = cd_F2 sh tp l := by
    funext k
    show (if bw = 1 then _ else _) = _
    rw [if_neg h]
  show cd_KK sh tp bw l 1 ++ ([0] ++ cd_flt (cd_W sh tp bw l 2) l.length) = _
  rw [e, List.append_assoc]
theorem cd_KK_2b (sh tp bw : Nat) (l : List Nat) (h : bw = 1) : cd_KK sh tp bw l 2 = (cd_KK sh tp bw l 1 ++ [0]) ++ cd_flt (fun k => cd_F2 sh tp l (l.length - 1 - k)) l.length := by
  have e : cd_W sh tp bw l 2 = fun k => cd_F2 sh tp l (l.length - 1 - k) := by
    funext k
    show (if bw = 1 then _ else _) = _
    rw [if_pos h]
  show cd_KK sh tp bw l 1 ++ ([0] ++ cd_flt (cd_W sh tp bw l 2) l.length) = _
  rw [e, List.append_assoc]
theorem cd_KK_3 (sh tp bw : Nat) (l : List Nat) : cd_KK sh tp bw l 3 = (cd_KK sh tp bw l 2 ++ [0]) ++ cd_flt (cd_F3 sh tp l) l.length := by
  show cd_KK sh tp bw l 2 ++ ([0] ++ cd_flt (cd_W sh tp bw l 3) l.length) = _
  rw [List.append_assoc]
  rfl
theorem cd_KK_4 (sh tp bw : Nat) (l : List Nat) : cd_KK sh tp bw l 4 = (cd_KK sh tp bw l 3 ++ [0]) ++ cd_flt (cd_F4 sh tp l) l.length := by
  show cd_KK sh tp bw l 3 ++ ([0] ++ cd_flt (cd_W sh tp bw l 4) l.length) = _
  rw [List.append_assoc]
  rfl
/-- the order, at place k of both -/
theorem cd_cm_s {K J : List Nat} {k : Nat} (h1 : k < K.length) (h2 : k < J.length) (e : K.getD k 0 = J.getD k 0) : cd_cm (K.drop k) (J.drop k) = cd_cm (K.drop (k + 1)) (J.drop (k + 1)) := by
  rw [cd_dr h1, cd_dr h2]
  simp only [cd_cm]
  rw [if_pos e]
theorem cd_cm_l {K J : List Nat} {k : Nat} (h1 : k < K.length) (h2 : k < J.length) (e : K.getD k 0 < J.getD k 0) : cd_cm (K.drop k) (J.drop k) = -1 := by
  rw [cd_dr h1, cd_dr h2]
  simp only [cd_cm]
  rw [if_neg (by omega), if_pos e]
theorem cd_cm_g {K J : List Nat} {k : Nat} (h1 : k < K.length) (h2 : k < J.length) (e : J.getD k 0 < K.getD k 0) : cd_cm (K.drop k) (J.drop k) = 1 := by
  rw [cd_dr h1, cd_dr h2]
  simp only [cd_cm]
  rw [if_neg (by omega), if_neg (by omega)]
theorem cd_dn {K : List Nat} {k : Nat} (h : k = K.length) : K.drop k = [] := by rw [h]; exact List.drop_length
theorem cd_cm_e0 {K J : List Nat} {k : Nat} (h1 : k = K.length) (h2 : k = J.length) : cd_cm (K.drop k) (J.drop k) = 0 := by
  rw [cd_dn h1, cd_dn h2]
  rfl
theorem cd_cm_el {K J : List Nat} {k : Nat} (h1 : k = K.length) (h2 : k < J.length) : cd_cm (K.drop k) (J.drop k) = -1 := by
  rw [cd_dn h1, cd_dr h2]
  rfl
theorem cd_cm_eg {K J : List Nat} {k : Nat} (h1 : k < K.length) (h2 : k = J.length) : cd_cm (K.drop k) (J.drop k) = 1 := by
  rw [cd_dn h2, cd_dr h1]
  rfl
theorem cd_cm_3 (l r : List Nat) : cd_cm l r = 0 ∨ cd_cm l r = -1 ∨ cd_cm l r = 1 := by
  induction l generalizing r with
  | nil => cases r <;> simp [cd_cm]
  | cons x xs ih =>
    cases r with
    | nil => simp [cd_cm]
    | cons y ys =>
      simp only [cd_cm]
      split
      · exact ih ys
      · split <;> simp
/-! keys of slots, and the questions' answers -/
section
variable (sh tp bw : Nat) (L c : Nat → Nat) (G : Nat → Option (Nat × Option Nat)) (n : Nat)
def cd_K (s : Nat) : List Nat := cd_KE sh tp bw G c (12 * s) (12 * s + L s) n
def cd_lt (i j : Nat) : Bool := decide (cd_cm (cd_K sh tp bw L c G n i) (cd_K sh tp bw L c G n j) < 0)
def cd_eq (i j : Nat) : Bool := decide (cd_cm (cd_K sh tp bw L c G n i) (cd_K sh tp bw L c G n j) = 0)
def cd_rk (s : Nat) : Nat := cd_ct (fun i => cd_lt sh tp bw L c G n i s) 10
def cd_po (s : Nat) : Nat := cd_ct (fun i => cd_lt sh tp bw L c G n i s || (cd_eq sh tp bw L c G n i s && decide (i < s))) 10
def cd_nt (k : Nat) : Nat := cd_la (fun s => decide (cd_po sh tp bw L c G n s = k)) 10
def cd_fs (s : Nat) : Bool := cd_al (fun j => !(cd_eq sh tp bw L c G n j s)) s
def cd_kn : Nat := cd_ct (fun s => cd_fs sh tp bw L c G n s) 10
/-- does a row of slot i from place p on have slot j's key? -/
def cd_mr (i j p : Nat) : Bool := !(cd_al (fun d => !(decide (cd_KE sh tp bw G c (12 * i + p) (12 * i + p + d) n = cd_K sh tp bw L c G n j))) (L i + 1 - p))
end
theorem cd_eq_c (sh tp bw : Nat) (L c : Nat → Nat) (G : Nat → Option (Nat × Option Nat)) (n i j : Nat) : cd_eq sh tp bw L c G n i j = cd_eq sh tp bw L c G n j i := by
  unfold cd_eq
  by_cases z : cd_K sh tp bw L c G n i = cd_K sh tp bw L c G n j
  · rw [z]
  · rw [decide_eq_false (fun q => z ((cd_cm_0 _ _).mp q)), decide_eq_false (fun q => z ((cd_cm_0 _ _).mp q).symm)]
end
section
/-! small arithmetic over nI, the longest word by cases, the relation -/
theorem cd_i12 (s k : Nat) : nI s * 12 + nI k = nI (12 * s + k) := by
  show nI s * nI 12 + nI k = _
  rw [pk_mul, nI_add, Nat.mul_comm]
theorem cd_i12s (s : Nat) : nI s * 12 = nI (12 * s) := by
  show nI s * nI 12 = _
  rw [pk_mul, Nat.mul_comm]
theorem cd_j12 (s k : Nat) : 12 * nI s + nI k = nI (12 * s + k) := by
  show nI 12 * nI s + nI k = _
  rw [pk_mul, nI_add]
theorem cd_j12s (s : Nat) : 12 * nI s = nI (12 * s) := pk_mul 12 s
theorem cd_i99 (s k : Nat) : nI s * 99 + nI k = nI (99 * s + k) := by
  show nI s * nI 99 + nI k = _
  rw [pk_mul, nI_add, Nat.mul_comm]
theorem cd_i99s (s : Nat) : nI s * 99 = nI (99 * s) := by
  show nI s * nI 99 = _
  rw [pk_mul, Nat.mul_comm]
theorem cd_j110 (s k : Nat) : 110 * nI s + nI k = nI (110 * s + k) := by
  show nI 110 * nI s + nI k = _
  rw [pk_mul, nI_add]
theorem cd_2p (p : Nat) : 2 * nI p = nI (2 * p) := pk_mul 2 p
theorem cd_2q (p : Nat) : 2 * nI p + 1 = nI (2 * p + 1) := by rw [cd_2p, nI_1]
theorem cd_10 (p : Nat) : 10 + nI p = nI (10 + p) := nI_add 10 p
theorem cd_rd {a : Nat → Int32} {x : Int32} (n : Nat) (hx : x = nI n := by rfl) (hn : n < 2 ^ 31 := by omega) : a x.toNatClampNeg = a n := by
  subst hx
  rw [nI_clamp hn]
theorem cd_n10 : ¬ (1 : Int32) = 0 := by decide
theorem cd_n1m : ¬ (-1 : Int32) = 0 := by decide
theorem cd_TB_none {m : Nat} {G : Nat → Option (Nat × Option Nat)} {W A : Nat → Nat} {B : Nat → Option Nat} {w : Nat} (h : cd_TB m G W A B) (hn : ∀ p, p < 10 + m → ¬ W p = w) : G w = none := by
  cases z : G w with
  | none => rfl
  | some x =>
    obtain ⟨p, hp, e⟩ := h.2.2.2 w (by rw [z]; exact fun q => by cases q)
    exact absurd e (hn p hp)
theorem cd_TB_some {m : Nat} {G : Nat → Option (Nat × Option Nat)} {W A : Nat → Nat} {B : Nat → Option Nat} {p : Nat} (h : cd_TB m G W A B) (hp : p < 10 + m) : ¬ G (W p) = none := by
  rw [(h.1 p hp).2]
  exact fun q => by cases q
section
variable {G : Nat → Option (Nat × Option Nat)} {c : Nat → Nat} {p q : Nat}
theorem cd_lw3 (h : p + 3 ≤ q) (z : ¬ G (cd_w3 c p) = none) : cd_mt G c p q = 3 := by
  unfold cd_mt
  rw [if_pos ⟨h, z⟩]
theorem cd_lw2 (h3 : p + 3 ≤ q → G (cd_w3 c p) = none) (h : p + 2 ≤ q) (z : ¬ G (cd_w2 c p) = none) : cd_mt G c p q = 2 := by
  unfold cd_mt
  rw [if_neg (fun x => x.2 (h3 x.1)), if_pos ⟨h, z⟩]
theorem cd_lw1 (h3 : p + 3 ≤ q → G (cd_w3 c p) = none) (h2 : p + 2 ≤ q → G (cd_w2 c p) = none) : cd_mt G c p q = 1 := by
  unfold cd_mt
  rw [if_neg (fun x => x.2 (h3 x.1)), if_neg (fun x => x.2 (h2 x.1))]
theorem cd_wd3 (h : cd_mt G c p q = 3) : cd_wd c p (cd_mt G c p q) = cd_w3 c p := by rw [h]; rfl
theorem cd_wd2 (h : cd_mt G c p q = 2) : cd_wd c p (cd_mt G c p q) = cd_w2 c p := by rw [h]; rfl
theorem cd_wd1 (h : cd_mt G c p q = 1) : cd_wd c p (cd_mt G c p q) = cd_w1 c p := by rw [h]; rfl
end
theorem cd_EL_go {m : Nat} {G : Nat → Option (Nat × Option Nat)} {W A : Nat → Nat} {B : Nat → Option Nat} {c : Nat → Nat} {i q f : Nat} {l R : List Nat} (h : cd_TB m G W A B) (hf : f < 10 + m) (hW : W f = cd_wd c i (cd_mt G c i q)) (hi : i < q)
    (e : l ++ cd_EL G c i q = R) : ((l ++ [A f]) ++ (B f).toList) ++ cd_EL G c (i + cd_mt G c i q) q = R := by
  rw [← e, cd_EL_cons hi, ← hW, cd_TB_at h hf]
  simp only [List.append_assoc, List.cons_append, List.nil_append]
def i_Rel (_ : Nat) (u : SX) (v : SY) : Prop :=
  ∃ (m bw sh tp : Nat) (L c : Nat → Nat) (G : Nat → Option (Nat × Option Nat)) (al an aw ae e1 e2 e3 e4 ek el : Nat → Int32) (fm : Int32) (vn vl vw vc vo vt g1 g2 g3 g4 gs gk : Nat → Int32),
    u = (nI m, nI bw, nI sh, nI tp, al, an, aw, ae, e1, e2, e3, e4, ek, el) ∧
    v = (nI m, nI bw, nI sh, nI tp, fm, vn, vl, vw, vc, vo, vt, g1, g2, g3, g4, gs, gk) ∧
    cd_D m bw sh tp L c G ∧ cd_ST L c an al ∧ cd_XT m G aw ae ∧ cd_ST L c vn vl ∧ cd_YT m G vw vc vo vt
theorem cd_R {k m bw sh tp : Nat} {L c : Nat → Nat} {G : Nat → Option (Nat × Option Nat)} {al an aw ae e1 e2 e3 e4 ek el : Nat → Int32} {fm : Int32} {vn vl vw vc vo vt g1 g2 g3 g4 gs gk : Nat → Int32}
    (hD : cd_D m bw sh tp L c G) (h1 : cd_ST L c an al) (h2 : cd_XT m G aw ae) (h3 : cd_ST L c vn vl) (h4 : cd_YT m G vw vc vo vt) :
    i_Rel k (nI m, nI bw, nI sh, nI tp, al, an, aw, ae, e1, e2, e3, e4, ek, el) (nI m, nI bw, nI sh, nI tp, fm, vn, vl, vw, vc, vo, vt, g1, g2, g3, g4, gs, gk) :=
  ⟨m, bw, sh, tp, L, c, G, al, an, aw, ae, e1, e2, e3, e4, ek, el, fm, vn, vl, vw, vc, vo, vt, g1, g2, g3, g4, gs, gk, rfl, rfl, hD, h1, h2, h3, h4⟩
end
section
/-! what the changing calls do to the picture and to the cells that hold it -/
section
variable {L c : Nat → Nat} {an al : Nat → Int32} {s o x : Nat}
theorem cd_ST_put (h : cd_ST L c an al) : cd_ST (cd_up L s (L s + 1)) (cd_up c (12 * s + L s) x) (upd an s (nI (L s + 1))) (upd al (12 * s + L s) (nI x)) := by
  refine ⟨fun t ht => ?_, fun t k ht hk => ?_⟩
  · by_cases e : t = s
    · subst e; rw [cd_up_s, pk_us]
    · rw [cd_up_n e, pk_un e]; exact h.1 t ht
  · by_cases e : 12 * t + k = 12 * s + L s
    · rw [e, cd_up_s, pk_us]
    · rw [cd_up_n e, pk_un e]
      by_cases z : t = s
      · subst z; rw [cd_up_s] at hk; exact h.2 t k ht (by omega)
      · rw [cd_up_n z] at hk; exact h.2 t k ht hk
theorem cd_ST_take (h : cd_ST L c an al) {n : Nat} (hn : L s = n + 1) : cd_ST (cd_up L s n) c (upd an s (nI n)) al := by
  refine ⟨fun t ht => ?_, fun t k ht hk => ?_⟩
  · by_cases e : t = s
    · subst e; rw [cd_up_s, pk_us]
    · rw [cd_up_n e, pk_un e]; exact h.1 t ht
  · by_cases z : t = s
    · subst z; rw [cd_up_s] at hk; exact h.2 t k ht (by omega)
    · rw [cd_up_n z] at hk; exact h.2 t k ht hk
def cd_cp {α : Type} (a : Nat → α) (s o k : Nat) : Nat → α := fun i => if 12 * s ≤ i ∧ i < 12 * s + k then a (12 * o + (i - 12 * s)) else a i
theorem cd_cp_i {α : Type} {a : Nat → α} {k j : Nat} (h : j < k) : cd_cp a s o k (12 * s + j) = a (12 * o + j) := by
  unfold cd_cp
  rw [if_pos (by omega), show 12 * s + j - 12 * s = j by omega]
theorem cd_cp_n {α : Type} {a : Nat → α} {k i : Nat} (h : ¬ (12 * s ≤ i ∧ i < 12 * s + k)) : cd_cp a s o k i = a i := by
  unfold cd_cp
  rw [if_neg h]
theorem cd_cp_0 {a : Nat → Int32} : cd_cp a s o 0 = a := by
  funext i
  exact cd_cp_n (by omega)
theorem cd_cp_r {a : Nat → Int32} {k : Nat} (h : k < 12) : cd_cp a s o k (12 * o + k) = a (12 * o + k) := by
  by_cases z : o = s
  · subst z
    exact cd_cp_n (by omega)
  · exact cd_cp_n (by omega)
theorem cd_cp_s {a : Nat → Int32} {k : Nat} (h : k < 12) : upd (cd_cp a s o k) (12 * s + k) (cd_cp a s o k (12 * o + k)) = cd_cp a s o (k + 1) := by
  rw [cd_cp_r h]
  funext i
  by_cases e : i = 12 * s + k
  · subst e
    rw [pk_us, cd_cp_i (by omega)]
  · rw [pk_un e]
    by_cases z : 12 * s ≤ i ∧ i < 12 * s + k
    · obtain ⟨j, rfl⟩ : ∃ j, i = 12 * s + j := ⟨i - 12 * s, by omega⟩
      rw [cd_cp_i (by omega), cd_cp_i (by omega)]
    · rw [cd_cp_n z, cd_cp_n (by omega)]
theorem cd_ST_copy (h : cd_ST L c an al) (hs : s < 10) (ho : o < 10) (hL : ∀ t, t < 10 → L t ≤ 12) {k : Nat} (hk : L o ≤ k) (hk2 : k ≤ 12) :
    cd_ST (cd_up L s (L o)) (cd_cp c s o 12) (upd an s (nI (L o))) (cd_cp al s o k) := by
  have := hL o ho
  refine ⟨fun t ht => ?_, fun t j ht hj => ?_⟩
  · by_cases e : t = s
    · subst e; rw [cd_up_s, pk_us]
    · rw [cd_up_n e, pk_un e]; exact h.1 t ht
  · by_cases z : t = s
    · subst z
      rw [cd_up_s] at hj
      rw [cd_cp_i (by omega), cd_cp_i (by omega)]
      exact h.2 o j ho hj
    · rw [cd_up_n z] at hj
      have := hL t ht
      rw [cd_cp_n (by omega), cd_cp_n (by omega)]
      exact h.2 t j ht hj
end
section
variable {m bw sh tp : Nat} {L c : Nat → Nat} {G : Nat → Option (Nat × Option Nat)} {s o x : Nat}
theorem cd_D_put (h : cd_D m bw sh tp L c G) (hL : L s < 12) (hx : x < 10) : cd_D m bw sh tp (cd_up L s (L s + 1)) (cd_up c (12 * s + L s) x) G := by
  obtain ⟨h1, h2, h3, h4, h5, h6, h7⟩ := h
  refine ⟨h1, h2, h3, h4, h5, fun t ht => ?_, fun t k ht hk => ?_⟩
  · by_cases e : t = s
    · subst e; rw [cd_up_s]; omega
    · rw [cd_up_n e]; exact h6 t ht
  · by_cases e : 12 * t + k = 12 * s + L s
    · rw [e, cd_up_s]; exact hx
    · rw [cd_up_n e]
      by_cases z : t = s
      · subst z; rw [cd_up_s] at hk; exact h7 t k ht (by omega)
      · rw [cd_up_n z] at hk; exact h7 t k ht hk
theorem cd_D_take (h : cd_D m bw sh tp L c G) {n : Nat} (hn : L s = n + 1) : cd_D m bw sh tp (cd_up L s n) c G := by
  obtain ⟨h1, h2, h3, h4, h5, h6, h7⟩ := h
  refine ⟨h1, h2, h3, h4, h5, fun t ht => ?_, fun t k ht hk => ?_⟩
  · by_cases e : t = s
    · subst e; rw [cd_up_s]; have := h6 t ht; omega
    · rw [cd_up_n e]; exact h6 t ht
  · by_cases z : t = s
    · subst z; rw [cd_up_s] at hk; exact h7 t k ht (by omega)
    · rw [cd_up_n z] at hk; exact h7 t k ht hk
theorem cd_D_copy (h : cd_D m bw sh tp L c G) (ho : o < 10) : cd_D m bw sh tp (cd_up L s (L o)) (cd_cp c s o 12) G := by
  obtain ⟨h1, h2, h3, h4, h5, h6, h7⟩ := h
  have := h6 o ho
  refine ⟨h1, h2, h3, h4, h5, fun t ht => ?_, fun t k ht hk => ?_⟩
  · by_cases e : t = s
    · subst e; rw [cd_up_s]; omega
    · rw [cd_up_n e]; exact h6 t ht
  · by_cases z : t = s
    · subst z
      rw [cd_up_s] at hk
      rw [cd_cp_i (by omega)]
      exact h7 o k ho hk
    · rw [cd_up_n z] at hk
      have := h6 t ht
      rw [cd_cp_n (by omega)]
      exact h7 t k ht hk
theorem cd_D_G (h : cd_D m bw sh tp L c G) {m' : Nat} {G' : Nat → Option (Nat × Option Nat)} (hm : m' ≤ 6) (hG : cd_OK G') : cd_D m' bw sh tp L c G' := by
  obtain ⟨h1, h2, h3, h4, h5, h6, h7⟩ := h
  exact ⟨hm, h2, h3, h4, hG, h6, h7⟩
theorem cd_D_set (h : cd_D m bw sh tp L c G) {bw' sh' tp' : Nat} (h1 : bw' ≤ 1) (h2 : sh' ≤ 1) (h3 : tp' ≤ 30) : cd_D m bw' sh' tp' L c G := by
  obtain ⟨k1, k2, k3, k4, k5, k6, k7⟩ := h
  exact ⟨k1, h1, h2, h3, k5, k6, k7⟩
end
section
variable {m : Nat} {G : Nat → Option (Nat × Option Nat)} {W A : Nat → Nat} {B : Nat → Option Nat} {aw ae : Nat → Int32}
/-- the component's cells, its table named -/
def cd_XC (m : Nat) (W A : Nat → Nat) (B : Nat → Option Nat) (aw ae : Nat → Int32) : Prop :=
  (∀ p, p < 10 + m → aw p = nI (W p) ∧ ae (2 * p) = nI (A p) ∧ ae (2 * p + 1) = cd_en (B p)) ∧ (∀ p, 10 + m ≤ p → p < 16 → ae (2 * p) = -1 ∧ ae (2 * p + 1) = -1)
theorem cd_XT_i (h : cd_TB m G W A B) (h2 : cd_XC m W A B aw ae) : cd_XT m G aw ae := ⟨W, A, B, h, h2.1, h2.2⟩
theorem cd_XT_set (h : cd_TB m G W A B) (h2 : cd_XC m W A B aw ae) {p a : Nat} {b : Option Nat} (hp : p < 10 + m) :
    cd_XT m (cd_up G (W p) (some (a, b))) (upd aw p (nI (W p))) (upd (upd ae (2 * p) (nI a)) (2 * p + 1) (cd_en b)) := by
  refine ⟨W, cd_up A p a, cd_up B p b, cd_TB_set h hp a b, fun q hq => ?_, fun q hq hq2 => ?_⟩
  · by_cases e : q = p
    · subst e
      rw [pk_us, pk_un (by omega), pk_us, pk_us, cd_up_s, cd_up_s]
      exact ⟨rfl, rfl, rfl⟩
    · rw [pk_un e, pk_un (by omega), pk_un (by omega), pk_un (by omega), pk_un (by omega), cd_up_n e, cd_up_n e]
      exact h2.1 q hq
  · rw [pk_un (by omega), pk_un (by omega), pk_un (by omega), pk_un (by omega)]
    exact h2.2 q hq hq2
theorem cd_XT_new (h : cd_TB m G W A B) (h2 : cd_XC m W A B aw ae) {w a : Nat} {b : Option Nat} (hw : w ≤ 1330) (hn : G w = none) :
    cd_XT (m + 1) (cd_up G w (some (a, b))) (upd aw (10 + m) (nI w)) (upd (upd ae (2 * (10 + m)) (nI a)) (2 * (10 + m) + 1) (cd_en b)) := by
  refine ⟨cd_up W (10 + m) w, cd_up A (10 + m) a, cd_up B (10 + m) b, cd_TB_new h hw hn a b, fun q hq => ?_, fun q hq hq2 => ?_⟩
  · by_cases e : q = 10 + m
    · subst e
      rw [pk_us, pk_un (by omega), pk_us, pk_us, cd_up_s, cd_up_s, cd_up_s]
      exact ⟨rfl, rfl, rfl⟩
    · rw [pk_un e, pk_un (by omega), pk_un (by omega), pk_un (by omega), pk_un (by omega), cd_up_n e, cd_up_n e, cd_up_n e]
      exact h2.1 q (by omega)
  · rw [pk_un (by omega), pk_un (by omega), pk_un (by omega), pk_un (by omega)]
    exact h2.2 q (by omega) hq2
theorem cd_XT_swap (h : cd_TB (m + 1) G W A B) (h2 : cd_XC (m + 1) W A B aw ae) {p : Nat} (h10 : 10 ≤ p) (hp : p < 10 + (m + 1)) :
    cd_XT m (cd_up G (W p) none) (upd (upd aw p (aw (10 + m))) (10 + m) (-1))
      (upd (upd (upd (upd ae (2 * p) (ae (2 * (10 + m)))) (2 * p + 1) (ae (2 * (10 + m) + 1))) (2 * (10 + m)) (-1)) (2 * (10 + m) + 1) (-1)) := by
  refine ⟨_, _, _, cd_TB_swap h h10 hp, fun q hq => ?_, fun q hq hq2 => ?_⟩
  · rw [pk_un (show q ≠ 10 + m by omega), pk_un (show 2 * q ≠ 2 * (10 + m) + 1 by omega), pk_un (show 2 * q ≠ 2 * (10 + m) by omega), pk_un (show 2 * q ≠ 2 * p + 1 by omega), pk_un (show 2 * q + 1 ≠ 2 * (10 + m) + 1 by omega), pk_un (show 2 * q + 1 ≠ 2 * (10 + m) by omega)]
    by_cases e : q = p
    · subst e
      rw [pk_us, pk_us, pk_us, cd_up_s, cd_up_s, cd_up_s]
      exact h2.1 (10 + m) (by omega)
    · rw [pk_un e, pk_un (by omega), pk_un (by omega), pk_un (by omega), cd_up_n e, cd_up_n e, cd_up_n e]
      exact h2.1 q (by omega)
  · by_cases e : q = 10 + m
    · subst e
      rw [pk_un (by omega), pk_us, pk_us]
      exact ⟨rfl, rfl⟩
    · rw [pk_un (show 2 * q ≠ 2 * (10 + m) + 1 by omega), pk_un (show 2 * q ≠ 2 * (10 + m) by omega), pk_un (show 2 * q ≠ 2 * p + 1 by omega), pk_un (show 2 * q ≠ 2 * p by omega),
        pk_un (show 2 * q + 1 ≠ 2 * (10 + m) + 1 by omega), pk_un (show 2 * q + 1 ≠ 2 * (10 + m) by omega), pk_un (show 2 * q + 1 ≠ 2 * p + 1 by omega), pk_un (show 2 * q + 1 ≠ 2 * p by omega)]
      exact h2.2 q (by omega) hq2
theorem cd_XC_k (hm : m ≤ 6) (h2 : cd_XC m W A B aw ae) : ∀ k, k < 32 → ae k = cd_en (cd_cl m A B k) := cd_XT_cells hm (fun p hp => ⟨(h2.1 p hp).2.1, (h2.1 p hp).2.2⟩) h2.2
/-- makeRoom's cells, then the moved letter's -/
theorem cd_XT_tG (h : cd_TB m G W A B) (h2 : cd_XC m W A B aw ae) {a b l : Nat} (hm : m ≤ 6) (hb : b < 10) {ae' : Nat → Int32} (he : ∀ k, k < 32 → ae' k = cd_en ((cd_cl m A B k).map (cd_gx a l))) :
    cd_XT m (cd_tG G a b l) (upd aw b (nI (b + 1))) (upd (upd ae' (2 * b) (nI (cd_bl a l))) (2 * b + 1) (-1)) := by
  refine ⟨W, _, _, cd_TB_tG h hb, fun q hq => ?_, fun q hq hq2 => ?_⟩
  · by_cases e : q = b
    · subst e
      rw [pk_us, pk_un (by omega), pk_us, pk_us, cd_up_s, cd_up_s, h.2.1 q hb]
      exact ⟨rfl, rfl, rfl⟩
    · rw [pk_un e, pk_un (by omega), pk_un (by omega), pk_un (by omega), pk_un (by omega), cd_up_n e, cd_up_n e, he _ (by omega), he _ (by omega), cd_cl_0 hq, cd_cl_1 hq]
      exact ⟨(h2.1 q hq).1, rfl, rfl⟩
  · rw [pk_un (by omega), pk_un (by omega), pk_un (by omega), pk_un (by omega), he _ (by omega), he _ (by omega), cd_cl_n (by omega), cd_cl_n (by omega)]
    exact ⟨rfl, rfl⟩
end
end
section
/-! the reference's cells; the start -/
section
variable {m : Nat} {G : Nat → Option (Nat × Option Nat)} {W A : Nat → Nat} {B : Nat → Option Nat} {vw vc vo vt : Nat → Int32}
def cd_YC (m : Nat) (W A : Nat → Nat) (B : Nat → Option Nat) (vw vc vo vt : Nat → Int32) : Prop :=
  ∀ p, p < 10 + m → vw p = nI (W p) ∧ vo p = nI (A p) ∧ vc p = cd_cn (B p) ∧ ∀ e, B p = some e → vt p = nI e
theorem cd_YT_i (h : cd_TB m G W A B) (h2 : cd_YC m W A B vw vc vo vt) : cd_YT m G vw vc vo vt := ⟨W, A, B, h, h2⟩
theorem cd_YT_set (h : cd_TB m G W A B) (h2 : cd_YC m W A B vw vc vo vt) {p a : Nat} {b : Option Nat} (hp : p < 10 + m) :
    cd_YT m (cd_up G (W p) (some (a, b))) (upd vw p (nI (W p))) (upd vc p (cd_cn b)) (upd vo p (nI a)) (upd vt p (cd_en b)) := by
  refine ⟨W, cd_up A p a, cd_up B p b, cd_TB_set h hp a b, fun q hq => ?_⟩
  by_cases e : q = p
  · subst e
    rw [pk_us, pk_us, pk_us, pk_us, cd_up_s, cd_up_s]
    exact ⟨rfl, rfl, rfl, fun e he => by rw [he]; rfl⟩
  · rw [pk_un e, pk_un e, pk_un e, pk_un e, cd_up_n e, cd_up_n e]
    exact h2 q hq
theorem cd_YT_new (h : cd_TB m G W A B) (h2 : cd_YC m W A B vw vc vo vt) {w a : Nat} {b : Option Nat} (hw : w ≤ 1330) (hn : G w = none) :
    cd_YT (m + 1) (cd_up G w (some (a, b))) (upd vw (10 + m) (nI w)) (upd vc (10 + m) (cd_cn b)) (upd vo (10 + m) (nI a)) (upd vt (10 + m) (cd_en b)) := by
  refine ⟨cd_up W (10 + m) w, cd_up A (10 + m) a, cd_up B (10 + m) b, cd_TB_new h hw hn a b, fun q hq => ?_⟩
  by_cases e : q = 10 + m
  · subst e
    rw [pk_us, pk_us, pk_us, pk_us, cd_up_s, cd_up_s, cd_up_s]
    exact ⟨rfl, rfl, rfl, fun e he => by rw [he]; rfl⟩
  · rw [pk_un e, pk_un e, pk_un e, pk_un e, cd_up_n e, cd_up_n e, cd_up_n e]
    exact h2 q (by omega)
def cd_sf (a : Nat → Int32) (e k : Nat) : Nat → Int32 := fun i => if e ≤ i ∧ i < k then a (i + 1) else a i
theorem cd_sf_0 {a : Nat → Int32} {e : Nat} : cd_sf a e e = a := by
  funext i
  exact if_neg (by omega)
theorem cd_sf_s {a : Nat → Int32} {e k : Nat} (h : e ≤ k) : upd (cd_sf a e k) k (cd_sf a e k (k + 1)) = cd_sf a e (k + 1) := by
  funext i
  by_cases z : i = k
  · subst z
    rw [pk_us]
    unfold cd_sf
    rw [if_neg (by omega), if_pos (by omega)]
  · rw [pk_un z]
    unfold cd_sf
    by_cases y : e ≤ i ∧ i < k
    · rw [if_pos y, if_pos (by omega)]
    · rw [if_neg y, if_neg (by omega)]
theorem cd_sf_e {a : Nat → Int32} {e n q : Nat} (hq : q < n) : cd_sf a e n q = if q < e then a q else a (q + 1) := by
  unfold cd_sf
  by_cases z : q < e
  · rw [if_neg (by omega), if_pos z]
  · rw [if_pos (by omega), if_neg z]
theorem cd_YT_shift (h : cd_TB (m + 1) G W A B) (h2 : cd_YC (m + 1) W A B vw vc vo vt) {p : Nat} (h10 : 10 ≤ p) (hp : p < 10 + (m + 1)) :
    cd_YT m (cd_up G (W p) none) (cd_sf vw p (10 + m)) (cd_sf vc p (10 + m)) (cd_sf vo p (10 + m)) (cd_sf vt p (10 + m)) := by
  refine ⟨_, _, _, cd_TB_shift h h10 hp, fun q hq => ?_⟩
  rw [cd_sf_e hq, cd_sf_e hq, cd_sf_e hq, cd_sf_e hq]
  by_cases z : q < p
  · simp only [if_pos z]
    exact h2 q (by omega)
  · simp only [if_neg z]
    exact h2 (q + 1) (by omega)
theorem cd_cn_map (b : Option Nat) (g : Nat → Nat) : cd_cn (b.map g) = cd_cn b := by cases b <;> rfl
theorem cd_YT_tG (h : cd_TB m G W A B) (h2 : cd_YC m W A B vw vc vo vt) {a b l : Nat} (hb : b < 10) {vo' vt' : Nat → Int32}
    (ho : ∀ p, p < 10 + m → vo' p = nI (cd_gx a l (A p))) (ht : ∀ p, p < 10 + m → ∀ e, B p = some e → vt' p = nI (cd_gx a l e)) :
    cd_YT m (cd_tG G a b l) vw (upd vc b 1) (upd vo' b (nI (cd_bl a l))) vt' := by
  refine ⟨W, _, _, cd_TB_tG h hb, fun q hq => ?_⟩
  by_cases e : q = b
  · subst e
    rw [pk_us, pk_us, cd_up_s, cd_up_s]
    exact ⟨(h2 q hq).1, rfl, rfl, fun e he => by cases he⟩
  · rw [pk_un e, pk_un e, cd_up_n e, cd_up_n e, cd_cn_map]
    refine ⟨(h2 q hq).1, ho q hq, (h2 q hq).2.2.1, fun x hx => ?_⟩
    cases z : B q with
    | none => rw [z] at hx; cases hx
    | some y =>
      rw [z] at hx
      cases hx
      exact ht q hq y z
end
/-- the start -/
def cd_G0 (w : Nat) : Option (Nat × Option Nat) := if 1 ≤ w ∧ w ≤ 10 then some (w + 288, none) else none
theorem cd_G0_t {w : Nat} (h : 1 ≤ w ∧ w ≤ 10) : cd_G0 w = some (w + 288, none) := if_pos h
theorem cd_TB_0 : cd_TB 0 cd_G0 (fun p => p + 1) (fun p => p + 1 + 288) (fun _ => none) := by
  refine ⟨fun p hp => ⟨?_, cd_G0_t ?_⟩, fun x hx => rfl, fun p q hp hq e => ?_, fun w hw => ?_⟩
  · show p + 1 ≤ 1330; omega
  · show 1 ≤ p + 1 ∧ p + 1 ≤ 10; omega
  · have : p + 1 = q + 1 := e
    omega
  · by_cases z : 1 ≤ w ∧ w ≤ 10
    · exact ⟨w - 1, by omega, by show w - 1 + 1 = w; omega⟩
    · exact absurd (if_neg z) hw
theorem cd_OK_0 : cd_OK cd_G0 := by
  refine ⟨fun w a b e => ?_, fun x hx e => ?_⟩
  · by_cases z : 1 ≤ w ∧ w ≤ 10
    · rw [cd_G0_t z] at e
      cases e
      refine ⟨⟨by omega, by omega⟩, fun e he => by cases he⟩
    · have : cd_G0 w = none := if_neg z
      rw [this] at e
      cases e
  · rw [cd_G0_t (by omega)] at e
    cases e
theorem cd_D_0 : cd_D 0 0 0 0 (fun _ => 0) (fun _ => 0) cd_G0 :=
  ⟨by omega, by omega, by omega, by omega, cd_OK_0, fun _ _ => Nat.zero_le _, fun _ _ _ _ => Nat.zero_lt_succ _⟩
theorem cd_ST_0 : cd_ST (fun _ => 0) (fun _ => 0) (fun _ => 0) (fun _ => 0) := ⟨fun _ _ => rfl, fun _ _ _ _ => rfl⟩
end
section
/-! counting, step by step -/
section
variable {P : Nat → Bool} {n i : Nat}
theorem cd_ct_t (h : P n = true) : cd_ct P (n + 1) = cd_ct P n + 1 := by simp only [cd_ct, if_pos h]
theorem cd_ct_f (h : P n = false) : cd_ct P (n + 1) = cd_ct P n := by
  have h' : ¬ P n = true := by rw [h]; decide
  simp only [cd_ct, if_neg h', Nat.add_zero]
theorem cd_la_t (h : P n = true) : cd_la P (n + 1) = n := by simp only [cd_la, if_pos h]
theorem cd_la_f (h : P n = false) : cd_la P (n + 1) = cd_la P n := by
  have h' : ¬ P n = true := by rw [h]; decide
  simp only [cd_la, if_neg h']
theorem cd_al_t (h : P n = true) : cd_al P (n + 1) = cd_al P n := by simp only [cd_al, h, Bool.and_true]
theorem cd_al_f (h : P n = false) : cd_al P (n + 1) = false := by simp only [cd_al, h, Bool.and_false]
theorem cd_la_lt (P : Nat → Bool) : ∀ n, cd_la P n ≤ n
  | 0 => Nat.le_refl _
  | n + 1 => by
    have := cd_la_lt P n
    simp only [cd_la]
    split <;> omega
theorem cd_al_no (P : Nat → Bool) (i : Nat) (h : P i = false) : ∀ n, i < n → cd_al P n = false
  | 0, hn => absurd hn (Nat.not_lt_zero i)
  | n + 1, hn => by
    by_cases z : i = n
    · subst z; exact cd_al_f h
    · simp only [cd_al, cd_al_no P i h n (by omega), Bool.false_and]
theorem cd_al_all (P : Nat → Bool) : ∀ n, (∀ i, i < n → P i = true) → cd_al P n = true
  | 0, _ => rfl
  | n + 1, h => by
    rw [cd_al_t (h n (by omega))]
    exact cd_al_all P n (fun i hi => h i (by omega))
end
theorem cd_bi_t {b : Bool} (h : b = true) : cd_bi b = 1 := by rw [h]; rfl
theorem cd_bi_f {b : Bool} (h : b = false) : cd_bi b = 0 := by rw [h]; rfl
theorem cd_bi_n (b : Bool) : narrow .boolean (.int (cd_bi b)) = .int (cd_bi b) := by cases b <;> rfl
/-! where find ends -/
section
variable (sh tp bw : Nat) (L c : Nat → Nat) (G : Nat → Option (Nat × Option Nat)) (n i j : Nat) (x : Int32)
def cd_fp (p : Nat) : Bool := decide (x ≤ nI p) && cd_mr sh tp bw L c G n i j p
def cd_fn : Int32 := cd_fd (cd_fp sh tp bw L c G n i j x) (L i + 1) 0
end
section
variable {sh tp bw : Nat} {L c : Nat → Nat} {G : Nat → Option (Nat × Option Nat)} {n i j p : Nat} {x : Int32}
theorem cd_fp_t (h : x ≤ nI p) : cd_fp sh tp bw L c G n i j x p = cd_mr sh tp bw L c G n i j p := by
  unfold cd_fp
  rw [decide_eq_true h, Bool.true_and]
theorem cd_fp_f (h : ¬ x ≤ nI p) : cd_fp sh tp bw L c G n i j x p = false := by
  unfold cd_fp
  rw [decide_eq_false h, Bool.false_and]
theorem cd_mr_no (h : ∀ d, p + d ≤ L i → ¬ cd_KE sh tp bw G c (12 * i + p) (12 * i + p + d) n = cd_K sh tp bw L c G n j) : cd_mr sh tp bw L c G n i j p = false := by
  unfold cd_mr
  rw [cd_al_all _ _ (fun d hd => by rw [decide_eq_false (h d (by omega))]; rfl)]
  rfl
theorem cd_mr_yes {d : Nat} (hd : p + d ≤ L i) (h : cd_KE sh tp bw G c (12 * i + p) (12 * i + p + d) n = cd_K sh tp bw L c G n j) : cd_mr sh tp bw L c G n i j p = true := by
  unfold cd_mr
  rw [cd_al_no _ d (by rw [decide_eq_true h]; rfl) _ (by omega)]
  rfl
/-- a 'from' of f: the places before it are no answers -/
theorem cd_fn_at {f : Nat} (hf : f ≤ L i + 1) (hx : x = nI f) (hL : L i ≤ 12) : cd_fn sh tp bw L c G n i j x = cd_fd (cd_fp sh tp bw L c G n i j x) (L i + 1 - f) f := by
  unfold cd_fn
  have := cd_fd_s (P := cd_fp sh tp bw L c G n i j x) f (L i + 1 - f) 0 (fun k _ hk => cd_fp_f (by rw [hx, nI_leI (by omega) (by omega)]; omega))
  rw [show f + (L i + 1 - f) = L i + 1 by omega, Nat.zero_add] at this
  exact this
theorem cd_fn_no (hx : ∀ k, k ≤ L i → ¬ x ≤ nI k) : cd_fn sh tp bw L c G n i j x = -4 :=
  cd_fd_f _ _ (fun k _ hk => cd_fp_f (hx k (by omega)))
end
theorem cd_fd_t {P : Nat → Bool} {n p : Nat} (h : P p = true) : cd_fd P (n + 1) p = nI p := by simp only [cd_fd, if_pos h]
theorem cd_fd_n {P : Nat → Bool} {n p : Nat} (h : P p = false) : cd_fd P (n + 1) p = cd_fd P n (p + 1) := by
  have h' : ¬ P p = true := by rw [h]; decide
  simp only [cd_fd, if_neg h']
end
section
/-! the component's small methods -/
theorem cd_lo {x : Int32} {b : Nat} (h : x < 0) (hb : b < 2 ^ 31) : x < nI b := by
  rw [Int32.lt_iff_toInt_lt] at h ⊢
  rw [nI_toInt hb]
  have h0 : (0 : Int32).toInt = 0 := by decide
  omega
theorem cd_hi {x : Int32} {a b : Nat} (h : nI b ≤ x) (hab : a < b) (hb : b < 2 ^ 31) : nI a < x := by
  rw [Int32.le_iff_toInt_le, nI_toInt hb] at h
  rw [Int32.lt_iff_toInt_lt, nI_toInt (by omega)]
  omega
theorem cd_hi_le {x : Int32} {a b : Nat} (h : nI b ≤ x) (hab : a ≤ b) (hb : b < 2 ^ 31) : nI a ≤ x := by
  rw [Int32.le_iff_toInt_le, nI_toInt hb] at h
  rw [Int32.le_iff_toInt_le, nI_toInt (by omega)]
  omega
theorem cd_nle {x : Int32} {a : Nat} (h : nI a < x) : ¬ x ≤ nI a := Int32.not_le.mpr h
theorem cd_nlt {x : Int32} {a : Nat} (h : nI a ≤ x) : ¬ x < nI a := Int32.not_lt.mpr h
theorem xx_slot_t {post : Int32 → Prop} {s : Nat} (h : s < 10) (k : post 1) : wpX_isSlot post (nI s) :=
  br_f (nI_pos (by omega)) (br_f (nI_ge (b := 10) h (by decide)) k)
theorem xx_slot_f {post : Int32 → Prop} {x : Int32} (h : x < 0 ∨ nI 10 ≤ x) (k : post 0) : wpX_isSlot post x :=
  br_c (fun _ => k) (fun z => br_t (h.resolve_left z) k)
theorem xx_let_t {post : Int32 → Prop} {s : Nat} (h : s < 10) (k : post 1) : wpX_isLetter post (nI s) :=
  br_f (nI_pos (by omega)) (br_f (nI_ge (b := 10) h (by decide)) k)
theorem xx_let_f {post : Int32 → Prop} {x : Int32} (h : x < 0 ∨ nI 10 ≤ x) (k : post 0) : wpX_isLetter post x :=
  br_c (fun _ => k) (fun z => br_t (h.resolve_left z) k)
theorem xx_str_t {post : Int32 → Prop} {s : Nat} (h1 : 1 ≤ s) (h4 : s ≤ 4) (k : post 1) : wpX_isStrength post (nI s) :=
  br_f (nI_nlt (b := 1) h1 (by omega)) (br_f (nI_nlt (a := 4) h4 (by decide)) k)
theorem xx_str_f {post : Int32 → Prop} {x : Int32} (h : x < 1 ∨ 4 < x) (k : post 0) : wpX_isStrength post x :=
  br_c (fun _ => k) (fun z => br_t (h.resolve_left z) k)
theorem cd_str (x : Int32) : (x < 1 ∨ 4 < x) ∨ ∃ s : Nat, 1 ≤ s ∧ s ≤ 4 ∧ x = nI s := by
  rcases pk_ix x (n := 5) (by decide) with h | h | ⟨j, hj, rfl⟩
  · exact Or.inl (Or.inl (cd_lo (b := 1) h (by decide)))
  · exact Or.inl (Or.inr (cd_hi (a := 4) h (by decide) (by decide)))
  · by_cases z : j = 0
    · subst z
      exact Or.inl (Or.inl (by decide))
    · exact Or.inr ⟨j, by omega, by omega, rfl⟩
section
variable {w : Nat}
theorem cd_wl_a (h1 : w % 11 = 0) : cd_wl w = 0 := by unfold cd_wl; rw [if_pos h1]
theorem cd_wl_b (h1 : ¬ w % 11 = 0) (h2 : w / 11 % 11 = 0) (h3 : w / 11 / 11 = 0) : cd_wl w = 1 := by unfold cd_wl; rw [if_neg h1, if_pos h3, if_pos h2]
theorem cd_wl_c (h1 : ¬ w % 11 = 0) (h2 : w / 11 % 11 = 0) (h3 : ¬ w / 11 / 11 = 0) : cd_wl w = 0 := by unfold cd_wl; rw [if_neg h1, if_neg h3, if_pos h2]
theorem cd_wl_d (h1 : ¬ w % 11 = 0) (h2 : ¬ w / 11 % 11 = 0) (h3 : w / 11 / 11 = 0) : cd_wl w = 2 := by unfold cd_wl; rw [if_neg h1, if_pos h3, if_neg h2]
theorem cd_wl_e (h1 : ¬ w % 11 = 0) (h2 : ¬ w / 11 % 11 = 0) (h3 : ¬ w / 11 / 11 = 0) : cd_wl w = 3 := by unfold cd_wl; rw [if_neg h1, if_neg h3, if_neg h2]
end
theorem xx_wl_f {post : Int32 → Prop} {x : Int32} (h : x < 0 ∨ nI 1331 ≤ x) (k : post 0) : wpX_wordLength post x :=
  br_c (fun _ => k) (fun z => br_t (h.elim (fun y => absurd (cd_lo (b := 1) y (by decide)) z) (fun y => cd_hi (a := 1330) y (by decide) (by decide))) k)
theorem xx_wl_t {post : Int32 → Prop} {w : Nat} (h : w < 1331) (k : post (nI (cd_wl w))) : wpX_wordLength post (nI w) := by
  have e1 : nI w - nI w / 11 * 11 = nI (w % 11) := pk_rem (d := 11) (by omega) (by decide) (by decide)
  have e2 : nI w / 11 = nI (w / 11) := pk_div (d := 11) (by omega) (by decide) (by decide)
  have e3 : nI (w / 11) - nI (w / 11) / 11 * 11 = nI (w / 11 % 11) := pk_rem (d := 11) (by omega) (by decide) (by decide)
  have e4 : nI (w / 11) / 11 = nI (w / 11 / 11) := pk_div (d := 11) (by omega) (by decide) (by decide)
  refine pk_lt w 1 (fun z => ?_) (fun z => br_f (nI_nlt (a := 1330) (by omega) (by decide)) ⟨by decide, pk_eq (w % 11) 0 (fun y => ?_) (fun y => ⟨by decide, by decide, pk_eq (w / 11 % 11) 0 (fun x => ⟨by decide, by decide, pk_eq (w / 11 / 11) 0 (fun t => ?_) (fun t => ?_) (by rw [e2, e4])⟩) (fun x => ⟨by decide, by decide, pk_eq (w / 11 / 11) 0 (fun t => ?_) (fun t => ?_) (by rw [e2, e4])⟩) (by rw [e2, e3])⟩) e1⟩)
  · rw [cd_wl_a (by omega)] at k; exact k
  · rw [cd_wl_a y] at k; exact k
  · rw [cd_wl_b y x t] at k; exact br_t rfl (br_t rfl k)
  · rw [cd_wl_c y x t] at k; exact br_f (by decide) (br_t rfl k)
  · rw [cd_wl_d y x t] at k; exact br_t rfl (br_f (by decide) k)
  · rw [cd_wl_e y x t] at k; exact br_f (by decide) (br_f (by decide) k)
theorem cd_wt_b (e l : Nat) : cd_wt e l ≤ e := by
  unfold cd_wt
  split
  · omega
  · split <;> omega
theorem cd_l3 {l : Nat} (h1 : 1 ≤ l) (h3 : l ≤ 3) : l = 1 ∨ l = 2 ∨ l = 3 := by omega
theorem xx_wt {post : Int32 → Prop} {e l : Nat} (he : e < 2 ^ 31) (h1 : 1 ≤ l) (h3 : l ≤ 3) (k : post (nI (cd_wt e l))) : wpX_weightOf post (nI e) (nI l) := by
  rcases cd_l3 h1 h3 with rfl | rfl | rfl
  · have e1 : nI e - nI e / 32 * 32 = nI (cd_wt e 1) := pk_rem (d := 32) he (by decide) (by decide)
    rw [← e1] at k
    exact br_t rfl ⟨by decide, k⟩
  · have e1 : (nI e - nI e / 256 * 256) / 32 = nI (cd_wt e 2) := by
      have e2 : nI e - nI e / 256 * 256 = nI (e % 256) := pk_rem (d := 256) he (by decide) (by decide)
      have e3 : nI (e % 256) / 32 = nI (e % 256 / 32) := pk_div (d := 32) (by omega) (by decide) (by decide)
      rw [e2, e3]
      show nI (e % 256 / 32) = nI (e / 32 % 8)
      exact congrArg nI (by omega)
    rw [← e1] at k
    exact br_f (by decide) (br_t rfl ⟨by decide, by decide, k⟩)
  · have e1 : nI e / 256 = nI (cd_wt e 3) := pk_div (d := 256) he (by decide) (by decide)
    rw [← e1] at k
    exact br_f (by decide) (br_f (by decide) ⟨by decide, k⟩)
theorem xx_un {post : Int32 → Prop} {l : Nat} (h1 : 1 ≤ l) (h3 : l ≤ 3) (k : post (nI (cd_un l))) : wpX_unitOf post (nI l) := by
  rcases cd_l3 h1 h3 with rfl | rfl | rfl
  · exact br_t rfl k
  · exact br_f (by decide) (br_t rfl k)
  · exact br_f (by decide) (br_f (by decide) k)
theorem xx_mx {post : Int32 → Prop} {l : Nat} (h1 : 1 ≤ l) (h3 : l ≤ 3) (k : post (nI (cd_mx l))) : wpX_greatestWeight post (nI l) := by
  rcases cd_l3 h1 h3 with rfl | rfl | rfl
  · exact br_t rfl k
  · exact br_f (by decide) (br_t rfl k)
  · exact br_f (by decide) (br_f (by decide) k)
theorem xx_el_f {post : Int32 → Prop} {x : Int32} (h : x < 0) (k : post 0) : wpX_isElement post x := br_t h k
theorem xx_el {post : Int32 → Prop} {e : Nat} (he : e < 2 ^ 31) (k1 : cd_V e → post 1) (k0 : ¬ cd_V e → post 0) : wpX_isElement post (nI e) := by
  have b1 := cd_wt_b e 1
  have b3 := cd_wt_b e 3
  have w1 : cd_wt e 1 = e % 32 := rfl
  have w3 : cd_wt e 3 = e / 256 := rfl
  refine br_f (nI_pos he) (xx_wt (l := 1) he (by decide) (by decide) (pk_lt 30 (cd_wt e 1) (fun z => k0 (fun v => ?_)) (fun z => xx_wt (l := 3) he (by decide) (by decide) (pk_lt 3 (cd_wt e 3) (fun y => k0 (fun v => ?_)) (fun y => k1 ⟨?_, ?_⟩)))))
  · have := v.2; omega
  · have := v.1; omega
  · omega
  · omega
section
variable {m bw sh tp : Nat} {al an aw ae e1 e2 e3 e4 ek el : Nat → Int32}
theorem xx_set {post : SX → Prop} {p : Nat} {w a b : Int32} (h : p < 16) (k : post (nI m, nI bw, nI sh, nI tp, al, an, (upd aw p w), (upd (upd ae (2 * p) a) (2 * p + 1) b), e1, e2, e3, e4, ek, el)) : wpX_setEntry post (nI m, nI bw, nI sh, nI tp, al, an, aw, ae, e1, e2, e3, e4, ek, el) (nI p) w a b :=
  ⟨vp_in_nI h (by omega), nm_r (e' := upd aw p w) (by rw [nI_clamp (by omega)]) ⟨pk_in (2 * p) 32 (by omega) (cd_2p p), nm_r (e' := upd ae (2 * p) a) (by rw [pk_cl (2 * p) (cd_2p p)])
    ⟨pk_in (2 * p + 1) 32 (by omega) (cd_2q p), nm_r (e' := upd (upd ae (2 * p) a) (2 * p + 1) b) (by rw [pk_cl (2 * p + 1) (cd_2q p)]) k⟩⟩⟩
variable {G : Nat → Option (Nat × Option Nat)} {W A : Nat → Nat} {B : Nat → Option Nat}
theorem xx_eo_l {post : Int32 → Prop} {w : Nat} (hT : cd_TB m G W A B) (hC : cd_XC m W A B aw ae) (hm : m ≤ 6) (hw : w < 2 ^ 31) (k1 : ∀ p, p < 10 + m → W p = w → post (nI p)) (k0 : G w = none → post (-1)) :
    ∀ d i, i + d = 10 + m → (∀ p, p < i → ¬ W p = w) → wX_entryOf_2 post (nI w) (nI m) (nI bw) (nI sh) (nI tp) al an aw ae e1 e2 e3 e4 ek el (d + 1) (nI i) := by
  intro d
  induction d with
  | zero =>
    intro i hi hn
    exact br_t (by rw [cd_10]; exact nI_le (by omega) (by omega)) (k0 (cd_TB_none hT (fun p hp => hn p (by omega))))
  | succ d ih =>
    intro i hi hn
    have e : aw (nI i).toNatClampNeg = nI (W i) := by rw [nI_clamp (by omega)]; exact (hC.1 i (by omega)).1
    have hW := (hT.1 i (by omega)).1
    refine br_f (by rw [cd_10]; exact nI_ge (by omega) (by omega)) ⟨vp_in_nI (by omega) (by omega), pk_eq (W i) w (fun z => ?_) (fun z => ?_) e⟩
    · exact k1 i (by omega) z
    · refine nm_r (nI_1 i) (ih (i + 1) (by omega) (fun p hp => ?_))
      by_cases q : p = i
      · subst q; exact z
      · exact hn p (by omega)
theorem xx_eo {post : Int32 → Prop} {w : Nat} (hT : cd_TB m G W A B) (hC : cd_XC m W A B aw ae) (hm : m ≤ 6) (hw : w < 2 ^ 31) (k1 : ∀ p, p < 10 + m → W p = w → post (nI p)) (k0 : G w = none → post (-1)) :
    wpX_entryOf post (nI m, nI bw, nI sh, nI tp, al, an, aw, ae, e1, e2, e3, e4, ek, el) (nI w) :=
  ⟨10 + m + 1, xx_eo_l hT hC hm hw k1 k0 (10 + m) 0 (by omega) (fun p hp => absurd hp (Nat.not_lt_zero p))⟩
end
end
section
/-! the component: room behind an anchor -/
theorem cd_gb_i {e a l : Nat} (h1 : 1 ≤ l) (h3 : l ≤ 3) : cd_gb e a l ↔ (∀ j, 1 ≤ j → j < l → cd_wt e j = cd_wt a j) ∧ cd_wt a l < cd_wt e l := by
  unfold cd_gb
  constructor
  · intro h
    refine ⟨fun j hj hl => ?_, h.2.2⟩
    have hj' : j = 1 ∨ j = 2 := by omega
    rcases hj' with rfl | rfl
    · exact h.1.resolve_left (by omega)
    · exact h.2.1.resolve_left (by omega)
  · intro h
    refine ⟨?_, ?_, h.2⟩
    · by_cases z : l ≤ 1
      · exact Or.inl z
      · exact Or.inr (h.1 1 (by omega) (by omega))
    · by_cases z : l ≤ 2
      · exact Or.inl z
      · exact Or.inr (h.1 2 (by omega) (by omega))
theorem xx_gb_l {post : Int32 → Prop} {e a l : Nat} (he : e < 1024) (ha : a < 1024) (h1 : 1 ≤ l) (h3 : l ≤ 3) (k1 : cd_gb e a l → post 1) (k0 : ¬ cd_gb e a l → post 0) :
    ∀ d i, i + d = l → 1 ≤ i → (∀ j, 1 ≤ j → j < i → cd_wt e j = cd_wt a j) → wX_growsBehind_9 post (nI e) (nI a) (nI l) (d + 1) (nI i) := by
  intro d
  induction d with
  | zero =>
    intro i hi h1i hj
    have hil : i = l := by omega
    subst hil
    have b1 := cd_wt_b e i
    have b2 := cd_wt_b a i
    refine br_t (nI_le (Nat.le_refl _) (by omega)) (xx_wt (by omega) h1 h3 (xx_wt (by omega) h1 h3 (pk_le (cd_wt e i) (cd_wt a i) (fun z => k0 (fun y => ?_)) (fun z => k1 ((cd_gb_i h1 h3).mpr ⟨hj, z⟩)))))
    have := ((cd_gb_i h1 h3).mp y).2
    omega
  | succ d ih =>
    intro i hi h1i hj
    have b1 := cd_wt_b e i
    have b2 := cd_wt_b a i
    refine br_f (nI_ge (by omega) (by omega)) (xx_wt (by omega) h1i (by omega) (xx_wt (by omega) h1i (by omega) (pk_eq (cd_wt e i) (cd_wt a i) (fun z => nm_r (nI_1 i) (ih (i + 1) (by omega) (by omega) (fun j g1 g2 => ?_))) (fun z => k0 (fun y => z (((cd_gb_i h1 h3).mp y).1 i h1i (by omega)))))))
    by_cases q : j = i
    · subst q; exact z
    · exact hj j g1 (by omega)
theorem xx_gb {post : Int32 → Prop} {e a l : Nat} (he : e < 1024) (ha : a < 1024) (h1 : 1 ≤ l) (h3 : l ≤ 3) (k1 : cd_gb e a l → post 1) (k0 : ¬ cd_gb e a l → post 0) : wpX_growsBehind post (nI e) (nI a) (nI l) :=
  br_f (cd_1 e he) ⟨l - 1 + 1, xx_gb_l he ha h1 h3 k1 k0 (l - 1) 1 (by omega) (by omega) (fun j g1 g2 => absurd g2 (by omega))⟩
theorem xx_gb_n {post : Int32 → Prop} {a l : Int32} (k : post 0) : wpX_growsBehind post (-1) a l := br_t rfl k
theorem xx_gbo {post : Int32 → Prop} {x : Int32} {o : Option Nat} {a l : Nat} (hx : x = cd_en o) (ho : ∀ e, o = some e → e < 1024) (ha : a < 1024) (h1 : 1 ≤ l) (h3 : l ≤ 3)
    (k1 : ∀ e, o = some e → cd_gb e a l → post 1) (k0 : (∀ e, o = some e → ¬ cd_gb e a l) → post 0) : wpX_growsBehind post x (nI a) (nI l) := by
  subst hx
  cases o with
  | none => exact xx_gb_n (k0 (fun e he => by cases he))
  | some e => exact xx_gb (ho e rfl) ha h1 h3 (fun g => k1 e rfl g) (fun g => k0 (fun e' he => by cases he; exact g))
theorem xx_wte {post : Int32 → Prop} {x : Int32} {e l : Nat} (hx : x = nI e) (he : e < 2 ^ 31) (h1 : 1 ≤ l) (h3 : l ≤ 3) (k : post (nI (cd_wt e l))) : wpX_weightOf post x (nI l) := by
  subst hx
  exact xx_wt he h1 h3 k
theorem xx_bl {post : Int32 → Prop} {a l : Nat} (ha : a < 1024) (h1 : 1 ≤ l) (h3 : l ≤ 3) (k : post (nI (cd_bl a l))) : wpX_elementBehind post (nI a) (nI l) := by
  refine xx_wt (l := 1) (by omega) (by decide) (by decide) (xx_wt (l := 2) (by omega) (by decide) (by decide) ?_)
  rcases cd_l3 h1 h3 with rfl | rfl | rfl
  · have e : nI (cd_wt a 1) + 1 + 32 + 256 = nI (cd_bl a 1) := by
      show nI (cd_wt a 1) + nI 1 + nI 32 + nI 256 = _
      rw [nI_add, nI_add, nI_add]
      rfl
    rw [← e] at k
    exact br_t rfl k
  · have e : nI (cd_wt a 1) + 32 * (nI (cd_wt a 2) + 1) + 256 = nI (cd_bl a 2) := by
      show nI (cd_wt a 1) + nI 32 * (nI (cd_wt a 2) + nI 1) + nI 256 = _
      rw [nI_add, pk_mul, nI_add, nI_add]
      rfl
    rw [← e] at k
    exact br_f (by decide) (br_t rfl k)
  · have e : nI a + 256 = nI (cd_bl a 3) := by
      show nI a + nI 256 = nI (a % 32 + 32 * (a / 32 % 8) + 256 * (a / 256 + 1))
      rw [nI_add]
      exact congrArg nI (by omega)
    rw [← e] at k
    exact br_f (by decide) (br_f (by decide) k)
section
variable {m bw sh tp : Nat} {al an aw ae e1 e2 e3 e4 ek el : Nat → Int32} {G : Nat → Option (Nat × Option Nat)} {W A : Nat → Nat} {B : Nat → Option Nat}
theorem xx_can_l {post : Int32 → Prop} {a l : Nat} (hT : cd_TB m G W A B) (hC : cd_XC m W A B aw ae) (hm : m ≤ 6) (hG : cd_OK G) (ha : a < 1024) (h1 : 1 ≤ l) (h3 : l ≤ 3) (h0 : cd_wt a l < cd_mx l)
    (k1 : cd_fit G a l → post 1) (k0 : ¬ cd_fit G a l → post 0) :
    ∀ d i, i + d = 32 → (∀ k, k < i → ∀ e, cd_cl m A B k = some e → cd_fit1 a l e) → wX_canMakeRoom_19 post (nI a) (nI l) (nI (cd_mx l)) (nI m) (nI bw) (nI sh) (nI tp) al an aw ae e1 e2 e3 e4 ek el (d + 1) (nI i) := by
  intro d
  induction d with
  | zero =>
    intro i hi hf
    exact br_t (nI_le (a := 32) (by omega) (by omega)) (k1 ((cd_fit_cl hT hm).mpr ⟨h0, fun k hk => hf k (by omega)⟩))
  | succ d ih =>
    intro i hi hf
    have hmx : cd_mx l ≤ 30 := by unfold cd_mx; split <;> (try split) <;> omega
    have ea : ae (nI i).toNatClampNeg = cd_en (cd_cl m A B i) := by rw [nI_clamp (by omega)]; exact cd_XC_k hm hC i (by omega)
    refine br_f (nI_ge (b := 32) (by omega) (by decide)) ⟨vp_in_nI (by omega) (by omega), nm_r ea ?_⟩
    have nx : (∀ e, cd_cl m A B i = some e → cd_fit1 a l e) → ∀ k, k < i + 1 → ∀ e', cd_cl m A B k = some e' → cd_fit1 a l e' := fun g k hk e' he => by
      by_cases q : k = i
      · subst q; exact g e' he
      · exact hf k (by omega) e' he
    refine xx_gbo rfl (fun e z => (cd_cl_V hT hG z).1) ha h1 h3 (fun e z g => ?_) (fun g => br_t rfl (nm_r (nI_1 i) (ih (i + 1) (by omega) (nx (fun e z g' => absurd g' (g e z))))))
    have hv := (cd_cl_V hT hG z).1
    have b1 := cd_wt_b e l
    refine br_f cd_n10 (xx_wte (e := e) (by rw [z]; rfl) (by omega) h1 h3 (pk_lt (cd_wt e l) (cd_mx l) (fun y => nm_r (nI_1 i) (ih (i + 1) (by omega) (nx (fun e' z' _ => ?_)))) (fun y => k0 (fun f => ?_))))
    · rw [z] at z'; cases z'; exact y
    · have := ((cd_fit_cl hT hm).mp f).2 i (by omega) e z g
      omega
theorem xx_can {post : Int32 → Prop} {a l : Nat} (hT : cd_TB m G W A B) (hC : cd_XC m W A B aw ae) (hm : m ≤ 6) (hG : cd_OK G) (ha : a < 1024) (h1 : 1 ≤ l) (h3 : l ≤ 3)
    (k1 : cd_fit G a l → post 1) (k0 : ¬ cd_fit G a l → post 0) : wpX_canMakeRoom post (nI m, nI bw, nI sh, nI tp, al, an, aw, ae, e1, e2, e3, e4, ek, el) (nI a) (nI l) := by
  have hmx : cd_mx l ≤ 30 := by unfold cd_mx; split <;> (try split) <;> omega
  have b1 := cd_wt_b a l
  unfold wpX_canMakeRoom
  refine xx_mx h1 h3 ?_
  refine xx_wt (by omega) h1 h3 ?_
  exact (pk_lt (cd_wt a l) (cd_mx l) (fun z => ⟨33, xx_can_l hT hC hm hG ha h1 h3 z k1 k0 32 0 (by omega) (fun k hk => absurd hk (Nat.not_lt_zero k))⟩) (fun z => k0 (fun f => absurd f.1 (by omega))))
theorem xx_mk_l {post : SX → Prop} {a l : Nat} (hT : cd_TB m G W A B) (hm : m ≤ 6) (hG : cd_OK G) (ha : a < 1024) (h1 : 1 ≤ l) (h3 : l ≤ 3)
    (K : ∀ ae', (∀ k, k < 32 → ae' k = cd_en ((cd_cl m A B k).map (cd_gx a l))) → post (nI m, nI bw, nI sh, nI tp, al, an, aw, ae', e1, e2, e3, e4, ek, el)) :
    ∀ d i ae', i + d = 32 → (∀ k, k < i → ae' k = cd_en ((cd_cl m A B k).map (cd_gx a l))) → (∀ k, i ≤ k → k < 32 → ae' k = cd_en (cd_cl m A B k)) → wX_makeRoom_8 post (nI a) (nI l) (nI (cd_un l)) (nI m) (nI bw) (nI sh) (nI tp) (d + 1) (nI i) al an aw ae' e1 e2 e3 e4 ek el := by
  intro d
  induction d with
  | zero =>
    intro i ae' hi hf hg
    exact br_t (nI_le (a := 32) (by omega) (by omega)) (K ae' (fun k hk => hf k (by omega)))
  | succ d ih =>
    intro i ae' hi hf hg
    have ea : ae' (nI i).toNatClampNeg = cd_en (cd_cl m A B i) := by rw [nI_clamp (by omega)]; exact hg i (by omega) (by omega)
    have ei : ae' i = cd_en (cd_cl m A B i) := hg i (by omega) (by omega)
    have vi : vp_in (nI i) 32 := vp_in_nI (by omega) (by omega)
    have same : cd_en (cd_cl m A B i) = cd_en ((cd_cl m A B i).map (cd_gx a l)) → wX_makeRoom_8 post (nI a) (nI l) (nI (cd_un l)) (nI m) (nI bw) (nI sh) (nI tp) (d + 1) (nI (i + 1)) al an aw ae' e1 e2 e3 e4 ek el := fun g => by
      refine ih (i + 1) ae' (by omega) (fun k hk => ?_) (fun k hk hk2 => hg k (by omega) hk2)
      by_cases q : k = i
      · subst q; rw [ei]; exact g
      · exact hf k (by omega)
    refine br_f (nI_ge (b := 32) (by omega) (by decide)) ⟨vi, ?_⟩
    refine xx_gbo ea (fun e z => (cd_cl_V hT hG z).1) ha h1 h3 (fun e z g => br_f cd_n10 ⟨vi, vi, nm_r (e' := upd ae' i (nI (cd_gx a l e))) ?_ (nm_r (nI_1 i) (ih (i + 1) _ (by omega) (fun k hk => ?_) (fun k hk hk2 => ?_)))⟩) (fun g => br_t rfl (nm_r (nI_1 i) (same ?_)))
    · rw [nI_clamp (by omega), ei, z, cd_gx_t g]
      exact congrArg (upd ae' i) (nI_add e (cd_un l))
    · by_cases q : k = i
      · subst q; rw [pk_us, z]; rfl
      · rw [pk_un q]; exact hf k (by omega)
    · rw [pk_un (by omega)]; exact hg k (by omega) hk2
    · cases z : cd_cl m A B i with
      | none => rfl
      | some e =>
        show nI e = nI (cd_gx a l e)
        rw [cd_gx_f (g e z)]
theorem xx_mk {post : SX → Prop} {a l : Nat} (hT : cd_TB m G W A B) (hC : cd_XC m W A B aw ae) (hm : m ≤ 6) (hG : cd_OK G) (ha : a < 1024) (h1 : 1 ≤ l) (h3 : l ≤ 3)
    (K : ∀ ae', (∀ k, k < 32 → ae' k = cd_en ((cd_cl m A B k).map (cd_gx a l))) → post (nI m, nI bw, nI sh, nI tp, al, an, aw, ae', e1, e2, e3, e4, ek, el)) : wpX_makeRoom post (nI m, nI bw, nI sh, nI tp, al, an, aw, ae, e1, e2, e3, e4, ek, el) (nI a) (nI l) := by
  unfold wpX_makeRoom
  refine xx_un h1 h3 ?_
  exact ⟨33, xx_mk_l hT hm hG ha h1 h3 K 32 0 ae (by omega) (fun k hk => absurd hk (Nat.not_lt_zero k)) (fun k _ hk => cd_XC_k hm hC k hk)⟩
end
end
section
/-! the component: elements of a row of letters -/
def cd_CL (c : Nat → Nat) (al : Nat → Int32) (p q : Nat) : Prop := ∀ i, p ≤ i → i < q → al i = nI (c i) ∧ c i < 10
theorem xx_wle {post : Int32 → Prop} {x : Int32} {w : Nat} (hx : x = nI w) (h : w < 1331) (k : post (nI (cd_wl w))) : wpX_wordLength post x := by
  subst hx
  exact xx_wl_t h k
section
variable {m bw sh tp : Nat} {al an aw ae e1 e2 e3 e4 ek el : Nat → Int32} {G : Nat → Option (Nat × Option Nat)} {W A : Nat → Nat} {B : Nat → Option Nat} {c : Nat → Nat}
theorem xx_long2 {post : Int32 → Prop} {p q f : Nat} (hT : cd_TB m G W A B) (hC : cd_XC m W A B aw ae) (hm : m ≤ 6) (hq : q ≤ 120) (hp : p < q) (hc : cd_CL c al p q)
    (hf : f < 10 + m) (H : (p + 3 ≤ q → G (cd_w3 c p) = none) → W f = cd_wd c p (cd_mt G c p q)) (hw : p + 2 ≤ q)
    (k : ∀ f, f < 10 + m → W f = cd_wd c p (cd_mt G c p q) → post (nI f)) : wX_longestEntryAt_24 post (nI p) (nI q) (nI m) (nI bw) (nI sh) (nI tp) al an aw ae e1 e2 e3 e4 ek el 2 (nI f) (nI (cd_w2 c p)) 121 2 := by
  have e0 : nI p + 2 = nI (p + 2) := nI_add p 2
  have hb0 := (hc p (by omega) (by omega)).2
  have hb1 := (hc (p + 1) (by omega) (by omega)).2
  refine br_f (by decide) (pk_le q (p + 2) (fun z => k f hf (H (fun y => absurd y (by omega)))) (fun z => ?_) rfl e0)
  have hc2 := hc (p + 2) (by omega) (by omega)
  have hb2 := hc2.2
  have hw3 : cd_w3 c p < 2 ^ 31 := by unfold cd_w3; omega
  refine ⟨pk_in (p + 2) 120 (by omega) e0, nm_r (e' := nI (cd_w3 c p)) ?_ (nm_r (e' := 1331) (by decide) (xx_eo hT hC hm hw3 (fun f3 hf3 h3 => br_f (cd_1 f3 (by omega)) (nm_r (e' := 3) (by decide) (br_t (by decide) (k f3 hf3 ?_))))
    (fun hn => br_t rfl (nm_r (e' := 3) (by decide) (br_t (by decide) (k f hf (H (fun _ => hn))))))))⟩
  · rw [pk_cl (p + 2) e0, hc2.1]
    show nI (cd_w2 c p) + nI 121 * (nI (c (p + 2)) + nI 1) = nI (cd_w3 c p)
    rw [nI_add, pk_mul, nI_add]
    rfl
  · rw [cd_wd3 (cd_lw3 (by omega) (h3 ▸ cd_TB_some hT hf3))]
    exact h3
theorem xx_long {post : Int32 → Prop} {p q : Nat} (hT : cd_TB m G W A B) (hC : cd_XC m W A B aw ae) (hm : m ≤ 6) (hq : q ≤ 120) (hp : p < q) (hc : cd_CL c al p q)
    (k : ∀ f, f < 10 + m → W f = cd_wd c p (cd_mt G c p q) → post (nI f)) : wpX_longestEntryAt post (nI m, nI bw, nI sh, nI tp, al, an, aw, ae, e1, e2, e3, e4, ek, el) (nI p) (nI q) := by
  have hc0 := hc p (by omega) (by omega)
  have hb0 := hc0.2
  have ec : (nI p).toNatClampNeg = p := nI_clamp (by omega)
  have vi : vp_in (nI p) 120 := vp_in_nI (by omega) (by omega)
  refine ⟨vi, nm_r (e' := nI (c p)) (by rw [ec]; exact hc0.1) ⟨vi, nm_r (e' := nI (cd_w1 c p)) (by rw [ec, hc0.1]; exact nI_1 (c p)) ⟨3, ?_⟩⟩⟩
  have hW1 : W (c p) = cd_w1 c p := hT.2.1 (c p) hb0
  refine br_f (by decide) (pk_le q (p + 1) (fun z => k (c p) (by omega) ?_) (fun z => ?_) rfl (nI_1 p))
  · rw [cd_wd1 (cd_lw1 (fun y => absurd y (by omega)) (fun y => absurd y (by omega)))]
    exact hW1
  have hc1 := hc (p + 1) (by omega) (by omega)
  have hb1 := hc1.2
  have hw2 : cd_w2 c p < 2 ^ 31 := by unfold cd_w2; omega
  refine ⟨pk_in (p + 1) 120 (by omega) (nI_1 p), nm_r (e' := nI (cd_w2 c p)) ?_ (nm_r (e' := 121) (by decide) (xx_eo hT hC hm hw2
    (fun f2 hf2 h2 => br_f (cd_1 f2 (by omega)) (nm_r (e' := 2) (by decide) (xx_long2 hT hC hm hq hp hc hf2 (fun h3 => ?_) (by omega) k)))
    (fun hn => br_t rfl (nm_r (e' := 2) (by decide) (xx_long2 hT hC hm hq hp hc (f := c p) (by omega) (fun h3 => ?_) (by omega) k)))))⟩
  · rw [pk_cl (p + 1) (nI_1 p), hc1.1]
    show nI (cd_w1 c p) + nI 11 * (nI (c (p + 1)) + nI 1) = nI (cd_w2 c p)
    rw [nI_add, pk_mul, nI_add]
    rfl
  · rw [cd_wd2 (cd_lw2 h3 (by omega) (h2 ▸ cd_TB_some hT hf2))]
    exact h2
  · rw [cd_wd1 (cd_lw1 h3 (fun _ => hn))]
    exact hW1
theorem xx_ad {post : Int32 → SX → Prop} {l : List Nat} {e : Nat} {x : Int32} (hx : x = nI e) (hl : l.length < 24) (he : cd_V e) (hA : cd_A3 l e1 e2 e3)
    (k : ∀ a1 a2 a3, cd_A3 (l ++ [e]) a1 a2 a3 → post (nI (l ++ [e]).length) (nI m, nI bw, nI sh, nI tp, al, an, aw, ae, a1, a2, a3, e4, ek, el)) : wpX_addElement post (nI m, nI bw, nI sh, nI tp, al, an, aw, ae, e1, e2, e3, e4, ek, el) (nI l.length) x := by
  subst hx
  have vi : vp_in (nI l.length) 24 := vp_in_nI hl (by omega)
  have ec : (nI l.length).toNatClampNeg = l.length := nI_clamp (by omega)
  have he1 := he.1
  have e5 : nI (l ++ [e]).length = nI l.length + 1 := by rw [nI_1, List.length_append]; rfl
  have k' := k _ _ _ (cd_A3_put hA he)
  rw [e5] at k'
  exact br_f (cd_1 e he.1) (br_t (nI_lt (b := 24) hl (by decide)) (xx_wt (l := 1) (by omega) (by decide) (by decide) ⟨vi, nm_r (e' := upd e1 l.length (nI (e % 32))) (by rw [ec]; rfl)
    (xx_wt (l := 2) (by omega) (by decide) (by decide) ⟨vi, nm_r (e' := upd e2 l.length (nI (e / 32 % 8))) (by rw [ec]; rfl)
      (xx_wt (l := 3) (by omega) (by decide) (by decide) ⟨vi, nm_r (e' := upd e3 l.length (nI (e / 256))) (by rw [ec]; rfl) k'⟩)⟩)⟩))
theorem xx_ado {post : Int32 → SX → Prop} {l : List Nat} {o : Option Nat} {x : Int32} (hx : x = cd_en o) (hl : l.length < 24) (he : ∀ e, o = some e → cd_V e) (hA : cd_A3 l e1 e2 e3)
    (k : ∀ a1 a2 a3, cd_A3 (l ++ o.toList) a1 a2 a3 → post (nI (l ++ o.toList).length) (nI m, nI bw, nI sh, nI tp, al, an, aw, ae, a1, a2, a3, e4, ek, el)) : wpX_addElement post (nI m, nI bw, nI sh, nI tp, al, an, aw, ae, e1, e2, e3, e4, ek, el) (nI l.length) x := by
  cases o with
  | none =>
    subst hx
    have k' := k e1 e2 e3 (by show cd_A3 (l ++ []) e1 e2 e3; rw [List.append_nil]; exact hA)
    have e5 : l ++ (none : Option Nat).toList = l := List.append_nil l
    rw [e5] at k'
    exact br_t rfl k'
  | some e => exact xx_ad hx hl (he e rfl) hA k
theorem xx_ga_l {post : Int32 → SX → Prop} {p q : Nat} (hT : cd_TB m G W A B) (hC : cd_XC m W A B aw ae) (hm : m ≤ 6) (hG : cd_OK G) (hq : q ≤ p + 12) (hq2 : q ≤ 120) (hc : cd_CL c al p q)
    (K : ∀ a1 a2 a3, cd_A3 (cd_EL G c p q) a1 a2 a3 → post (nI (cd_EL G c p q).length) (nI m, nI bw, nI sh, nI tp, al, an, aw, ae, a1, a2, a3, e4, ek, el)) :
    ∀ d i j l a1 a2 a3, i + d = q → p ≤ i → i ≤ j → j ≤ q → cd_A3 l a1 a2 a3 → l ++ cd_EL G c j q = cd_EL G c p q → l.length ≤ 2 * (j - p) →
      wX_gatherElements_8 post (nI q) (d + 1) (nI l.length) (nI j) (nI i) (nI m) (nI bw) (nI sh) (nI tp) al an aw ae a1 a2 a3 e4 ek el := by
  intro d
  induction d with
  | zero =>
    intro i j l a1 a2 a3 hi h1 h2 h3 hA h h5
    rw [cd_EL_nil (by omega), List.append_nil] at h
    subst h
    exact br_t (nI_le (by omega) (by omega)) (K a1 a2 a3 hA)
  | succ d ih =>
    intro i j l a1 a2 a3 hi h1 h2 h3 hA h h5
    refine br_f (nI_ge (by omega) (by omega)) (pk_eq i j (fun z => ?_) (fun z => nm_r (nI_1 i) (ih (i + 1) j l a1 a2 a3 (by omega) (by omega) (by omega) h3 hA h h5)))
    subst z
    have hc' : cd_CL c al i q := fun x hx1 hx2 => hc x (by omega) hx2
    refine xx_long hT hC hm hq2 (by omega) hc' (fun f hf hW => ?_)
    have hcf := hC.1 f hf
    have hV := cd_TB_V hT hG hf
    have hWf := (hT.1 f hf).1
    have hm1 := cd_mt_pos G c i q
    have hm2 := cd_mt_q (G := G) (c := c) (p := i) (q := q) (by omega)
    have hlen : cd_wl (W f) = cd_mt G c i q := by rw [hW]; exact cd_wd_len (fun x hx1 hx2 => (hc' x hx1 hx2).2) (by omega)
    have hgo := cd_EL_go hT hf hW (by omega) h
    have el1 : (l ++ [A f]).length = l.length + 1 := by rw [List.length_append]; rfl
    have el2 : ((l ++ [A f]) ++ (B f).toList).length ≤ l.length + 2 := by
      rw [List.length_append, el1]
      cases B f with
      | none => show l.length + 1 + 0 ≤ _; omega
      | some x => show l.length + 1 + 1 ≤ _; omega
    refine ⟨pk_in (2 * f) 32 (by omega) (cd_2p f), xx_ad (e := A f) (by rw [pk_cl (2 * f) (cd_2p f)]; exact hcf.2.1) (by omega) hV.1 hA (fun b1 b2 b3 hB => ?_)⟩
    refine ⟨pk_in (2 * f + 1) 32 (by omega) (cd_2q f), xx_ado (o := B f) (by rw [pk_cl (2 * f + 1) (cd_2q f)]; exact hcf.2.2) (by omega) hV.2 hB (fun d1 d2 d3 hD => ?_)⟩
    refine ⟨vp_in_nI (by omega) (by omega), xx_wle (w := W f) (by rw [nI_clamp (by omega)]; exact hcf.1) (by omega) ?_⟩
    refine nm_r (e' := nI (i + cd_mt G c i q)) (by rw [hlen]; exact nI_add _ _) (nm_r (nI_1 i) ?_)
    exact ih (i + 1) (i + cd_mt G c i q) _ d1 d2 d3 (by omega) (by omega) (by omega) (by omega) hD hgo (by omega)
theorem xx_ga {post : Int32 → SX → Prop} {p q : Nat} (hT : cd_TB m G W A B) (hC : cd_XC m W A B aw ae) (hm : m ≤ 6) (hG : cd_OK G) (hpq : p ≤ q) (hq : q ≤ p + 12) (hq2 : q ≤ 120) (hc : cd_CL c al p q)
    (K : ∀ a1 a2 a3, cd_A3 (cd_EL G c p q) a1 a2 a3 → post (nI (cd_EL G c p q).length) (nI m, nI bw, nI sh, nI tp, al, an, aw, ae, a1, a2, a3, e4, ek, el)) : wpX_gatherElements post (nI m, nI bw, nI sh, nI tp, al, an, aw, ae, e1, e2, e3, e4, ek, el) (nI p) (nI q) :=
  ⟨q - p + 1, xx_ga_l hT hC hm hG hq hq2 hc K (q - p) p p [] e1 e2 e3 (by omega) (Nat.le_refl _) (Nat.le_refl _) hpq cd_A3_nil (List.nil_append _) (Nat.zero_le _)⟩
/-! the fourth weights -/
theorem cd_AH_z {sh tp : Nat} {l : List Nat} {a1 a2 a3 a4 : Nat → Int32} {n : Nat} {x : Int32} (h : cd_AH sh tp l a1 a2 a3 a4 n) : cd_AH sh tp l a1 a2 a3 (upd a4 n x) n :=
  ⟨fun k hk => by rw [pk_un (by omega)]; exact h.1 k hk, h.2⟩
abbrev cd_10A : Type := (Nat → Int32) → (Nat → Int32) → (Nat → Int32) → (Nat → Int32) → (Nat → Int32) → (Nat → Int32) → (Nat → Int32) → (Nat → Int32) → (Nat → Int32) → (Nat → Int32) → Prop
theorem xx_f52 {post : SX → Prop} {J : Int32 → Int32 → cd_10A} {x1 : Int32} {n : Nat} {l : List Nat} (hl : l.length ≤ 24) (hn : n < l.length) (hs : sh = 1) (hA : cd_AH sh tp l e1 e2 e3 e4 n) (h4 : e4 n = 0)
    (kJ : ∀ a1 a2 a3 a4, cd_AH sh tp l a1 a2 a3 a4 (n + 1) → J (cd_bi (cd_am tp l (n + 1))) (nI (n + 1)) al an aw ae a1 a2 a3 a4 ek el) :
    wX_setFourthWeights_52 post J x1 (cd_bi (cd_am tp l (n + 1))) (nI n) (nI m) (nI bw) (nI sh) (nI tp) al an aw ae e1 e2 e3 e4 ek el := by
  have vi : vp_in (nI n) 24 := vp_in_nI (by omega) (by omega)
  have ec : (nI n).toNatClampNeg = n := nI_clamp (by omega)
  obtain ⟨g1, g2, g3⟩ := hA.2 n (Nat.le_refl _) hn
  have b1 := cd_f1_b l n
  have b2 := cd_f2_b l n
  have b3 := cd_f3_b l n
  cases z : cd_am tp l (n + 1) with
  | true =>
    obtain ⟨F1, F2, F3, F4⟩ := cd_F_t hs z
    rw [z] at kJ
    refine br_f cd_n10 ⟨vi, vi, nm_r (e' := upd e4 n (e1 n)) (by rw [ec]) ⟨vi, nm_r (e' := upd e1 n 0) (by rw [ec]) ⟨vi, nm_r (e' := upd e2 n 0) (by rw [ec]) ⟨vi, nm_r (e' := upd e3 n 0) (by rw [ec]) (nm_r (nI_1 n) (kJ _ _ _ _ (cd_AH_s hA ?_ ?_ ?_ ?_ (fun k hk => ?_))))⟩⟩⟩⟩
    · rw [pk_us, F1]; rfl
    · rw [pk_us, F2]; rfl
    · rw [pk_us, F3]; rfl
    · rw [pk_us, F4, g1]
    · rw [pk_un hk, pk_un hk, pk_un hk, pk_un hk]; exact ⟨rfl, rfl, rfl, rfl⟩
  | false =>
    obtain ⟨F1, F2, F3⟩ := cd_F_f hs z
    rw [z] at kJ
    have hB : ¬ (cd_f1 l n = 0 ∧ cd_f2 l n = 0 ∧ cd_f3 l n = 0) → J (cd_bi false) (nI (n + 1)) al an aw ae e1 e2 e3 (upd e4 n 31) ek el := fun q => by
      refine kJ _ _ _ _ (cd_AH_s hA ?_ ?_ ?_ ?_ (fun k hk => ?_))
      · rw [F1]; exact g1
      · rw [F2]; exact g2
      · rw [F3]; exact g3
      · rw [pk_us, cd_F4_1 hs z q]; rfl
      · rw [pk_un hk]; exact ⟨rfl, rfl, rfl, rfl⟩
    refine br_t rfl ⟨vi, pk_eq (cd_f1 l n) 0 (fun y1 => ⟨vi, pk_eq (cd_f2 l n) 0 (fun y2 => ⟨vi, pk_eq (cd_f3 l n) 0 (fun y3 => nm_r (nI_1 n) (kJ _ _ _ _ (cd_AH_s hA ?_ ?_ ?_ ?_ (fun k hk => ⟨rfl, rfl, rfl, rfl⟩))))
      (fun y3 => ⟨vi, nm_r (e' := upd e4 n 31) (by rw [ec]) (nm_r (nI_1 n) (hB (fun q => y3 q.2.2)))⟩) (by rw [ec]; exact g3)⟩)
      (fun y2 => ⟨vi, nm_r (e' := upd e4 n 31) (by rw [ec]) (nm_r (nI_1 n) (hB (fun q => y2 q.2.1)))⟩) (by rw [ec]; exact g2)⟩)
      (fun y1 => ⟨vi, nm_r (e' := upd e4 n 31) (by rw [ec]) (nm_r (nI_1 n) (hB (fun q => y1 q.1)))⟩) (by rw [ec]; exact g1)⟩
    · rw [F1]; exact g1
    · rw [F2]; exact g2
    · rw [F3]; exact g3
    · rw [cd_F4_0 hs z ⟨y1, y2, y3⟩]; exact h4
theorem xx_f4_l {post : SX → Prop} {l : List Nat} (hl : l.length ≤ 24) (hsh : sh ≤ 1) (htp : tp ≤ 30)
    (K : ∀ a1 a2 a3 a4, cd_AF sh tp l a1 a2 a3 a4 → post (nI m, nI bw, nI sh, nI tp, al, an, aw, ae, a1, a2, a3, a4, ek, el)) :
    ∀ d i a1 a2 a3 a4 x2, i + d = l.length → (sh = 1 → x2 = cd_bi (cd_am tp l i)) → cd_AH sh tp l a1 a2 a3 a4 i → wX_setFourthWeights_4 post (nI l.length) (nI m) (nI bw) (nI sh) (nI tp) (d + 1) x2 (nI i) al an aw ae a1 a2 a3 a4 ek el := by
  intro d
  induction d with
  | zero =>
    intro i a1 a2 a3 a4 x2 hi hx hA
    have hil : i = l.length := by omega
    subst hil
    exact br_t (nI_le (Nat.le_refl _) (by omega)) (K a1 a2 a3 a4 (cd_AH_e hA))
  | succ d ih =>
    intro i a1 a2 a3 a4 x2 hi hx hA
    have vi : vp_in (nI i) 24 := vp_in_nI (by omega) (by omega)
    have ec : (nI i).toNatClampNeg = i := nI_clamp (by omega)
    have hA0 := cd_AH_z (x := 0) hA
    obtain ⟨g1, g2, g3⟩ := hA.2 i (Nat.le_refl _) (by omega)
    have b1 := cd_f1_b l i
    refine br_f (nI_ge (by omega) (by omega)) ⟨vi, nm_r (e' := upd a4 i 0) (by rw [ec]) (pk_eq sh 1 (fun hs => ?_) (fun hs => ?_))⟩
    · have go := xx_f52 (post := post) (J := wX_setFourthWeights_4 post (nI l.length) (nI m) (nI bw) (nI sh) (nI tp) (d + 1)) (x1 := nI l.length) (al := al) (an := an) (aw := aw) (ae := ae) (ek := ek) (el := el) (m := m) (bw := bw) hl (show i < l.length by omega) hs hA0 pk_us (fun c1 c2 c3 c4 hc => ih (i + 1) c1 c2 c3 c4 _ (by omega) (fun _ => rfl) hc)
      refine ⟨vi, pk_eq (cd_f1 l i) 0 (fun y => ?_) (fun y => ⟨vi, pk_lt tp (cd_f1 l i) (fun t => ?_) (fun t => ?_) rfl (by rw [ec]; exact g1)⟩) (by rw [ec]; exact g1)⟩
      · rw [hx hs, ← cd_am_0 y]
        exact go
      · rw [cd_am_f y (by omega)] at go
        exact go
      · rw [cd_am_t y (by omega)] at go
        exact go
    · obtain ⟨F1, F2, F3, F4⟩ := cd_F_0 (sh := sh) (tp := tp) (l := l) (k := i) (by omega)
      refine nm_r (nI_1 i) (ih (i + 1) a1 a2 a3 _ x2 (by omega) (fun q => absurd q hs) (cd_AH_s hA0 ?_ ?_ ?_ ?_ (fun k hk => ⟨rfl, rfl, rfl, rfl⟩)))
      · rw [F1]; exact g1
      · rw [F2]; exact g2
      · rw [F3]; exact g3
      · rw [F4]; exact pk_us
theorem xx_f4 {post : SX → Prop} {l : List Nat} (hl : l.length ≤ 24) (hsh : sh ≤ 1) (htp : tp ≤ 30) (hA : cd_A3 l e1 e2 e3)
    (K : ∀ a1 a2 a3 a4, cd_AF sh tp l a1 a2 a3 a4 → post (nI m, nI bw, nI sh, nI tp, al, an, aw, ae, a1, a2, a3, a4, ek, el)) : wpX_setFourthWeights post (nI m, nI bw, nI sh, nI tp, al, an, aw, ae, e1, e2, e3, e4, ek, el) (nI l.length) :=
  ⟨l.length + 1, xx_f4_l hl hsh htp K l.length 0 e1 e2 e3 e4 0 (by omega) (fun _ => rfl) (cd_AH_0 hA)⟩
end
end
section
/-! the component: keys -/
section
variable {m bw sh tp : Nat} {al an aw ae e1 e2 e3 e4 ek el : Nat → Int32}
theorem xx_ap1_l {post : Int32 → SX → Prop} {b n : Nat} {l0 : List Nat} {g : Nat → Nat} (hn : n ≤ 24) (hg : ∀ k, k < n → e1 k = nI (g k)) (hgb : ∀ k, g k ≤ 31) (hb : b + 99 ≤ 1089) (hl : l0.length + n ≤ 99)
    (K : ∀ ak, cd_HD ak b (l0 ++ cd_flt g n) → cd_FR b 99 ek ak → post (nI (b + (l0 ++ cd_flt g n).length)) (nI m, nI bw, nI sh, nI tp, al, an, aw, ae, e1, e2, e3, e4, ak, el)) :
    ∀ d i ak, i + d = n → cd_HD ak b (l0 ++ cd_flt g i) → cd_FR b 99 ek ak → wX_appendWeights__firsts_6 post (nI n) (nI m) (nI bw) (nI sh) (nI tp) (d + 1) (nI (b + (l0 ++ cd_flt g i).length)) (nI i) al an aw ae e1 e2 e3 e4 ak el := by
  intro d
  induction d with
  | zero =>
    intro i ak hi hH hF
    have hil : i = n := by omega
    subst hil
    exact br_t (nI_le (Nat.le_refl _) (by omega)) (K ak hH hF)
  | succ d ih =>
    intro i ak hi hH hF
    have vi : vp_in (nI i) 24 := vp_in_nI (by omega) (by omega)
    have ei : e1 (nI i).toNatClampNeg = nI (g i) := by rw [nI_clamp (by omega)]; exact hg i (by omega)
    have b1 := hgb i
    have hlen : (l0 ++ cd_flt g i).length ≤ l0.length + i := by rw [List.length_append]; have := cd_flt_le g i; omega
    refine br_f (nI_ge (by omega) (by omega)) ⟨vi, pk_eq (g i) 0 (fun z => ?_) (fun z => ⟨vi, pk_in (b + (l0 ++ cd_flt g i).length) 1089 (by omega), ?_⟩) ei⟩
    · have := ih (i + 1) ak (by omega) (by rw [cd_flt_0 z]; exact hH) hF
      rw [cd_flt_0 z] at this
      exact nm_r (nI_1 i) this
    · have e6 : l0 ++ cd_flt g (i + 1) = (l0 ++ cd_flt g i) ++ [g i] := by rw [cd_flt_1 z, List.append_assoc]
      have := ih (i + 1) (upd ak (b + (l0 ++ cd_flt g i).length) (nI (g i))) (by omega) (by rw [e6]; exact cd_HD_put hH) (cd_FR_u hF (by omega) (by omega))
      rw [e6, show b + ((l0 ++ cd_flt g i) ++ [g i]).length = b + (l0 ++ cd_flt g i).length + 1 by rw [List.length_append (as := l0 ++ cd_flt g i)]; rfl] at this
      refine nm_r (e' := upd ak (b + (l0 ++ cd_flt g i).length) (nI (g i))) ?_ (nm_r (nI_1 _) (nm_r (nI_1 i) this))
      rw [ei, nI_clamp (by omega)]
theorem xx_ap1 {post : Int32 → SX → Prop} {x : Int32} {b n : Nat} {l0 : List Nat} {g : Nat → Nat} (hx : x = nI (b + l0.length)) (hn : n ≤ 24) (hg : ∀ k, k < n → e1 k = nI (g k)) (hgb : ∀ k, g k ≤ 31) (hb : b + 99 ≤ 1089) (hl : l0.length + n ≤ 99) (hH : cd_HD ek b l0)
    (K : ∀ ak, cd_HD ak b (l0 ++ cd_flt g n) → cd_FR b 99 ek ak → post (nI (b + (l0 ++ cd_flt g n).length)) (nI m, nI bw, nI sh, nI tp, al, an, aw, ae, e1, e2, e3, e4, ak, el)) : wpX_appendWeights__firsts post (nI m, nI bw, nI sh, nI tp, al, an, aw, ae, e1, e2, e3, e4, ek, el) x (nI n) := by
  subst hx
  have h0 : l0 ++ cd_flt g 0 = l0 := List.append_nil l0
  have := xx_ap1_l (m := m) (bw := bw) (sh := sh) (tp := tp) (al := al) (an := an) (aw := aw) (ae := ae) (e1 := e1) (e2 := e2) (e3 := e3) (e4 := e4) (el := el) hn hg hgb hb hl K n 0 ek (by omega) (by rw [h0]; exact hH) cd_FR_r
  rw [h0] at this
  exact ⟨n + 1, this⟩
theorem xx_ap2_l {post : Int32 → SX → Prop} {b n : Nat} {l0 : List Nat} {g : Nat → Nat} (hn : n ≤ 24) (hg : ∀ k, k < n → e2 k = nI (g k)) (hgb : ∀ k, g k ≤ 31) (hb : b + 99 ≤ 1089) (hl : l0.length + n ≤ 99)
    (K : ∀ ak, cd_HD ak b (l0 ++ cd_flt g n) → cd_FR b 99 ek ak → post (nI (b + (l0 ++ cd_flt g n).length)) (nI m, nI bw, nI sh, nI tp, al, an, aw, ae, e1, e2, e3, e4, ak, el)) :
    ∀ d i ak, i + d = n → cd_HD ak b (l0 ++ cd_flt g i) → cd_FR b 99 ek ak → wX_appendWeights__seconds_6 post (nI n) (nI m) (nI bw) (nI sh) (nI tp) (d + 1) (nI (b + (l0 ++ cd_flt g i).length)) (nI i) al an aw ae e1 e2 e3 e4 ak el := by
  intro d
  induction d with
  | zero =>
    intro i ak hi hH hF
    have hil : i = n := by omega
    subst hil
    exact br_t (nI_le (Nat.le_refl _) (by omega)) (K ak hH hF)
  | succ d ih =>
    intro i ak hi hH hF
    have vi : vp_in (nI i) 24 := vp_in_nI (by omega) (by omega)
    have ei : e2 (nI i).toNatClampNeg = nI (g i) := by rw [nI_clamp (by omega)]; exact hg i (by omega)
    have b1 := hgb i
    have hlen : (l0 ++ cd_flt g i).length ≤ l0.length + i := by rw [List.length_append]; have := cd_flt_le g i; omega
    refine br_f (nI_ge (by omega) (by omega)) ⟨vi, pk_eq (g i) 0 (fun z => ?_) (fun z => ⟨vi, pk_in (b + (l0 ++ cd_flt g i).length) 1089 (by omega), ?_⟩) ei⟩
    · have := ih (i + 1) ak (by omega) (by rw [cd_flt_0 z]; exact hH) hF
      rw [cd_flt_0 z] at this
      exact nm_r (nI_1 i) this
    · have e6 : l0 ++ cd_flt g (i + 1) = (l0 ++ cd_flt g i) ++ [g i] := by rw [cd_flt_1 z, List.append_assoc]
      have := ih (i + 1) (upd ak (b + (l0 ++ cd_flt g i).length) (nI (g i))) (by omega) (by rw [e6]; exact cd_HD_put hH) (cd_FR_u hF (by omega) (by omega))
      rw [e6, show b + ((l0 ++ cd_flt g i) ++ [g i]).length = b + (l0 ++ cd_flt g i).length + 1 by rw [List.length_append (as := l0 ++ cd_flt g i)]; rfl] at this
      refine nm_r (e' := upd ak (b + (l0 ++ cd_flt g i).length) (nI (g i))) ?_ (nm_r (nI_1 _) (nm_r (nI_1 i) this))
      rw [ei, nI_clamp (by omega)]
theorem xx_ap2 {post : Int32 → SX → Prop} {x : Int32} {b n : Nat} {l0 : List Nat} {g : Nat → Nat} (hx : x = nI (b + l0.length)) (hn : n ≤ 24) (hg : ∀ k, k < n → e2 k = nI (g k)) (hgb : ∀ k, g k ≤ 31) (hb : b + 99 ≤ 1089) (hl : l0.length + n ≤ 99) (hH : cd_HD ek b l0)
    (K : ∀ ak, cd_HD ak b (l0 ++ cd_flt g n) → cd_FR b 99 ek ak → post (nI (b + (l0 ++ cd_flt g n).length)) (nI m, nI bw, nI sh, nI tp, al, an, aw, ae, e1, e2, e3, e4, ak, el)) : wpX_appendWeights__seconds post (nI m, nI bw, nI sh, nI tp, al, an, aw, ae, e1, e2, e3, e4, ek, el) x (nI n) := by
  subst hx
  have h0 : l0 ++ cd_flt g 0 = l0 := List.append_nil l0
  have := xx_ap2_l (m := m) (bw := bw) (sh := sh) (tp := tp) (al := al) (an := an) (aw := aw) (ae := ae) (e1 := e1) (e2 := e2) (e3 := e3) (e4 := e4) (el := el) hn hg hgb hb hl K n 0 ek (by omega) (by rw [h0]; exact hH) cd_FR_r
  rw [h0] at this
  exact ⟨n + 1, this⟩
theorem xx_ap3_l {post : Int32 → SX → Prop} {b n : Nat} {l0 : List Nat} {g : Nat → Nat} (hn : n ≤ 24) (hg : ∀ k, k < n → e3 k = nI (g k)) (hgb : ∀ k, g k ≤ 31) (hb : b + 99 ≤ 1089) (hl : l0.length + n ≤ 99)
    (K : ∀ ak, cd_HD ak b (l0 ++ cd_flt g n) → cd_FR b 99 ek ak → post (nI (b + (l0 ++ cd_flt g n).length)) (nI m, nI bw, nI sh, nI tp, al, an, aw, ae, e1, e2, e3, e4, ak, el)) :
    ∀ d i ak, i + d = n → cd_HD ak b (l0 ++ cd_flt g i) → cd_FR b 99 ek ak → wX_appendWeights__thirds_6 post (nI n) (nI m) (nI bw) (nI sh) (nI tp) (d + 1) (nI (b + (l0 ++ cd_flt g i).length)) (nI i) al an aw ae e1 e2 e3 e4 ak el := by
  intro d
  induction d with
  | zero =>
    intro i ak hi hH hF
    have hil : i = n := by omega
    subst hil
    exact br_t (nI_le (Nat.le_refl _) (by omega)) (K ak hH hF)
  | succ d ih =>
    intro i ak hi hH hF
    have vi : vp_in (nI i) 24 := vp_in_nI (by omega) (by omega)
    have ei : e3 (nI i).toNatClampNeg = nI (g i) := by rw [nI_clamp (by omega)]; exact hg i (by omega)
    have b1 := hgb i
    have hlen : (l0 ++ cd_flt g i).length ≤ l0.length + i := by rw [List.length_append]; have := cd_flt_le g i; omega
    refine br_f (nI_ge (by omega) (by omega)) ⟨vi, pk_eq (g i) 0 (fun z => ?_) (fun z => ⟨vi, pk_in (b + (l0 ++ cd_flt g i).length) 1089 (by omega), ?_⟩) ei⟩
    · have := ih (i + 1) ak (by omega) (by rw [cd_flt_0 z]; exact hH) hF
      rw [cd_flt_0 z] at this
      exact nm_r (nI_1 i) this
    · have e6 : l0 ++ cd_flt g (i + 1) = (l0 ++ cd_flt g i) ++ [g i] := by rw [cd_flt_1 z, List.append_assoc]
      have := ih (i + 1) (upd ak (b + (l0 ++ cd_flt g i).length) (nI (g i))) (by omega) (by rw [e6]; exact cd_HD_put hH) (cd_FR_u hF (by omega) (by omega))
      rw [e6, show b + ((l0 ++ cd_flt g i) ++ [g i]).length = b + (l0 ++ cd_flt g i).length + 1 by rw [List.length_append (as := l0 ++ cd_flt g i)]; rfl] at this
      refine nm_r (e' := upd ak (b + (l0 ++ cd_flt g i).length) (nI (g i))) ?_ (nm_r (nI_1 _) (nm_r (nI_1 i) this))
      rw [ei, nI_clamp (by omega)]
theorem xx_ap3 {post : Int32 → SX → Prop} {x : Int32} {b n : Nat} {l0 : List Nat} {g : Nat → Nat} (hx : x = nI (b + l0.length)) (hn : n ≤ 24) (hg : ∀ k, k < n → e3 k = nI (g k)) (hgb : ∀ k, g k ≤ 31) (hb : b + 99 ≤ 1089) (hl : l0.length + n ≤ 99) (hH : cd_HD ek b l0)
    (K : ∀ ak, cd_HD ak b (l0 ++ cd_flt g n) → cd_FR b 99 ek ak → post (nI (b + (l0 ++ cd_flt g n).length)) (nI m, nI bw, nI sh, nI tp, al, an, aw, ae, e1, e2, e3, e4, ak, el)) : wpX_appendWeights__thirds post (nI m, nI bw, nI sh, nI tp, al, an, aw, ae, e1, e2, e3, e4, ek, el) x (nI n) := by
  subst hx
  have h0 : l0 ++ cd_flt g 0 = l0 := List.append_nil l0
  have := xx_ap3_l (m := m) (bw := bw) (sh := sh) (tp := tp) (al := al) (an := an) (aw := aw) (ae := ae) (e1 := e1) (e2 := e2) (e3 := e3) (e4 := e4) (el := el) hn hg hgb hb hl K n 0 ek (by omega) (by rw [h0]; exact hH) cd_FR_r
  rw [h0] at this
  exact ⟨n + 1, this⟩
theorem xx_ap4_l {post : Int32 → SX → Prop} {b n : Nat} {l0 : List Nat} {g : Nat → Nat} (hn : n ≤ 24) (hg : ∀ k, k < n → e4 k = nI (g k)) (hgb : ∀ k, g k ≤ 31) (hb : b + 99 ≤ 1089) (hl : l0.length + n ≤ 99)
    (K : ∀ ak, cd_HD ak b (l0 ++ cd_flt g n) → cd_FR b 99 ek ak → post (nI (b + (l0 ++ cd_flt g n).length)) (nI m, nI bw, nI sh, nI tp, al, an, aw, ae, e1, e2, e3, e4, ak, el)) :
    ∀ d i ak, i + d = n → cd_HD ak b (l0 ++ cd_flt g i) → cd_FR b 99 ek ak → wX_appendWeights__fourths_6 post (nI n) (nI m) (nI bw) (nI sh) (nI tp) (d + 1) (nI (b + (l0 ++ cd_flt g i).length)) (nI i) al an aw ae e1 e2 e3 e4 ak el := by
  intro d
  induction d with
  | zero =>
    intro i ak hi hH hF
    have hil : i = n := by omega
    subst hil
    exact br_t (nI_le (Nat.le_refl _) (by omega)) (K ak hH hF)
  | succ d ih =>
    intro i ak hi hH hF
    have vi : vp_in (nI i) 24 := vp_in_nI (by omega) (by omega)
    have ei : e4 (nI i).toNatClampNeg = nI (g i) := by rw [nI_clamp (by omega)]; exact hg i (by omega)
    have b1 := hgb i
    have hlen : (l0 ++ cd_flt g i).length ≤ l0.length + i := by rw [List.length_append]; have := cd_flt_le g i; omega
    refine br_f (nI_ge (by omega) (by omega)) ⟨vi, pk_eq (g i) 0 (fun z => ?_) (fun z => ⟨vi, pk_in (b + (l0 ++ cd_flt g i).length) 1089 (by omega), ?_⟩) ei⟩
    · have := ih (i + 1) ak (by omega) (by rw [cd_flt_0 z]; exact hH) hF
      rw [cd_flt_0 z] at this
      exact nm_r (nI_1 i) this
    · have e6 : l0 ++ cd_flt g (i + 1) = (l0 ++ cd_flt g i) ++ [g i] := by rw [cd_flt_1 z, List.append_assoc]
      have := ih (i + 1) (upd ak (b + (l0 ++ cd_flt g i).length) (nI (g i))) (by omega) (by rw [e6]; exact cd_HD_put hH) (cd_FR_u hF (by omega) (by omega))
      rw [e6, show b + ((l0 ++ cd_flt g i) ++ [g i]).length = b + (l0 ++ cd_flt g i).length + 1 by rw [List.length_append (as := l0 ++ cd_flt g i)]; rfl] at this
      refine nm_r (e' := upd ak (b + (l0 ++ cd_flt g i).length) (nI (g i))) ?_ (nm_r (nI_1 _) (nm_r (nI_1 i) this))
      rw [ei, nI_clamp (by omega)]
theorem xx_ap4 {post : Int32 → SX → Prop} {x : Int32} {b n : Nat} {l0 : List Nat} {g : Nat → Nat} (hx : x = nI (b + l0.length)) (hn : n ≤ 24) (hg : ∀ k, k < n → e4 k = nI (g k)) (hgb : ∀ k, g k ≤ 31) (hb : b + 99 ≤ 1089) (hl : l0.length + n ≤ 99) (hH : cd_HD ek b l0)
    (K : ∀ ak, cd_HD ak b (l0 ++ cd_flt g n) → cd_FR b 99 ek ak → post (nI (b + (l0 ++ cd_flt g n).length)) (nI m, nI bw, nI sh, nI tp, al, an, aw, ae, e1, e2, e3, e4, ak, el)) : wpX_appendWeights__fourths post (nI m, nI bw, nI sh, nI tp, al, an, aw, ae, e1, e2, e3, e4, ek, el) x (nI n) := by
  subst hx
  have h0 : l0 ++ cd_flt g 0 = l0 := List.append_nil l0
  have := xx_ap4_l (m := m) (bw := bw) (sh := sh) (tp := tp) (al := al) (an := an) (aw := aw) (ae := ae) (e1 := e1) (e2 := e2) (e3 := e3) (e4 := e4) (el := el) hn hg hgb hb hl K n 0 ek (by omega) (by rw [h0]; exact hH) cd_FR_r
  rw [h0] at this
  exact ⟨n + 1, this⟩
theorem xx_bk_l {post : Int32 → SX → Prop} {b n : Nat} {l0 : List Nat} {g : Nat → Nat} (hn : n ≤ 24) (hg : ∀ k, k < n → e2 k = nI (g k)) (hgb : ∀ k, g k ≤ 31) (hb : b + 99 ≤ 1089) (hl : l0.length + n ≤ 99)
    (K : ∀ ak, cd_HD ak b (l0 ++ cd_flt (fun k => g (n - 1 - k)) n) → cd_FR b 99 ek ak → post (nI (b + (l0 ++ cd_flt (fun k => g (n - 1 - k)) n).length)) (nI m, nI bw, nI sh, nI tp, al, an, aw, ae, e1, e2, e3, e4, ak, el)) :
    ∀ d i ak, i + d = n → cd_HD ak b (l0 ++ cd_flt (fun k => g (n - 1 - k)) i) → cd_FR b 99 ek ak → wX_appendWeightsBackwards__seconds_8 post (nI m) (nI bw) (nI sh) (nI tp) (d + 1) (nI (b + (l0 ++ cd_flt (fun k => g (n - 1 - k)) i).length)) (nI d + (-1)) al an aw ae e1 e2 e3 e4 ak el := by
  intro d
  induction d with
  | zero =>
    intro i ak hi hH hF
    have hil : i = n := by omega
    subst hil
    exact br_t (by decide) (K ak hH hF)
  | succ d ih =>
    intro i ak hi hH hF
    rw [pk_m1]
    have hd : n - 1 - i = d := by omega
    have vi : vp_in (nI d) 24 := vp_in_nI (by omega) (by omega)
    have ei : e2 (nI d).toNatClampNeg = nI (g (n - 1 - i)) := by rw [nI_clamp (by omega), hd]; exact hg d (by omega)
    have b1 := hgb (n - 1 - i)
    have hlen : (l0 ++ cd_flt (fun k => g (n - 1 - k)) i).length ≤ l0.length + i := by rw [List.length_append]; have := cd_flt_le (fun k => g (n - 1 - k)) i; omega
    refine br_f (nI_pos (by omega)) ⟨vi, pk_eq (g (n - 1 - i)) 0 (fun z => ?_) (fun z => ⟨vi, pk_in (b + (l0 ++ cd_flt (fun k => g (n - 1 - k)) i).length) 1089 (by omega), ?_⟩) ei⟩
    · have z' : (fun k => g (n - 1 - k)) i = 0 := z
      have := ih (i + 1) ak (by omega) (by rw [cd_flt_0 (g := fun k => g (n - 1 - k)) z']; exact hH) hF
      rw [cd_flt_0 (g := fun k => g (n - 1 - k)) z'] at this
      exact nm_e this
    · have e6 : l0 ++ cd_flt (fun k => g (n - 1 - k)) (i + 1) = (l0 ++ cd_flt (fun k => g (n - 1 - k)) i) ++ [g (n - 1 - i)] := by rw [cd_flt_1 (g := fun k => g (n - 1 - k)) z, List.append_assoc]
      have := ih (i + 1) (upd ak (b + (l0 ++ cd_flt (fun k => g (n - 1 - k)) i).length) (nI (g (n - 1 - i)))) (by omega) (by rw [e6]; exact cd_HD_put hH) (cd_FR_u hF (by omega) (by omega))
      rw [e6, show b + ((l0 ++ cd_flt (fun k => g (n - 1 - k)) i) ++ [g (n - 1 - i)]).length = b + (l0 ++ cd_flt (fun k => g (n - 1 - k)) i).length + 1 by rw [List.length_append (as := l0 ++ cd_flt (fun k => g (n - 1 - k)) i)]; rfl] at this
      refine nm_r (e' := upd ak (b + (l0 ++ cd_flt (fun k => g (n - 1 - k)) i).length) (nI (g (n - 1 - i)))) ?_ (nm_r (nI_1 _) (nm_e this))
      rw [ei, nI_clamp (by omega)]
theorem xx_bk {post : Int32 → SX → Prop} {x : Int32} {b n : Nat} {l0 : List Nat} {g : Nat → Nat} (hx : x = nI (b + l0.length)) (hn : n ≤ 24) (hg : ∀ k, k < n → e2 k = nI (g k)) (hgb : ∀ k, g k ≤ 31) (hb : b + 99 ≤ 1089) (hl : l0.length + n ≤ 99) (hH : cd_HD ek b l0)
    (K : ∀ ak, cd_HD ak b (l0 ++ cd_flt (fun k => g (n - 1 - k)) n) → cd_FR b 99 ek ak → post (nI (b + (l0 ++ cd_flt (fun k => g (n - 1 - k)) n).length)) (nI m, nI bw, nI sh, nI tp, al, an, aw, ae, e1, e2, e3, e4, ak, el)) : wpX_appendWeightsBackwards__seconds post (nI m, nI bw, nI sh, nI tp, al, an, aw, ae, e1, e2, e3, e4, ek, el) x (nI n) := by
  subst hx
  have h0 : l0 ++ cd_flt (fun k => g (n - 1 - k)) 0 = l0 := List.append_nil l0
  have := xx_bk_l (m := m) (bw := bw) (sh := sh) (tp := tp) (al := al) (an := an) (aw := aw) (ae := ae) (e1 := e1) (e2 := e2) (e3 := e3) (e4 := e4) (el := el) hn hg hgb hb hl K n 0 ek (by omega) (by rw [h0]; exact hH) cd_FR_r
  rw [h0] at this
  exact nm_r (e' := nI n + (-1)) (Int32.sub_eq_add_neg _ _) ⟨n + 1, this⟩
/-! writing a key -/
variable {G : Nat → Option (Nat × Option Nat)} {W A : Nat → Nat} {B : Nat → Option Nat} {c : Nat → Nat}
theorem xx_k149 {post : SX → Prop} {key : Nat} {ak : Nat → Int32} {R : List Nat} (hkey : key < 11) (hR : R.length ≤ 99) (hRb : ∀ x ∈ R, x ≤ 31) (hH : cd_HD ak (99 * key) R) (hF : cd_FR (99 * key) 99 ek ak)
    (K : ∀ ak al', cd_KT (99 * key) key ak al' R → (∀ j J, ¬ j = key → cd_KT (99 * j) j ek el J → cd_KT (99 * j) j ak al' J) → post (nI m, nI bw, nI sh, nI tp, al, an, aw, ae, e1, e2, e3, e4, ak, al')) :
    wX_writeKey_149 post (nI key) (nI (99 * key)) (nI (99 * key + R.length)) (nI m) (nI bw) (nI sh) (nI tp) al an aw ae e1 e2 e3 e4 ak el := by
  refine ⟨vp_in_nI hkey (by omega), nm_r (e' := upd el key (nI R.length)) ?_ (K _ _ ⟨hH, pk_us, hR, hRb⟩ (fun j J hj hJ => cd_KT_fr hJ hF (by omega) (pk_un hj)))⟩
  rw [nI_clamp (by omega), pk_sub (by omega), Nat.add_sub_cancel_left]
theorem xx_k119 {post : SX → Prop} {key n s : Nat} {ak : Nat → Int32} {l : List Nat} (hkey : key < 11) (hl : l.length ≤ 24) (hn : n ≤ 4) (hs : (s = n ∧ n ≤ 3) ∨ (s = 3 ∧ n = 4)) (hF4 : cd_AF sh tp l e1 e2 e3 e4)
    (hH : cd_HD ak (99 * key) (cd_KK sh tp bw l s)) (hF : cd_FR (99 * key) 99 ek ak)
    (K : ∀ ak al', cd_KT (99 * key) key ak al' (cd_KK sh tp bw l n) → (∀ j J, ¬ j = key → cd_KT (99 * j) j ek el J → cd_KT (99 * j) j ak al' J) → post (nI m, nI bw, nI sh, nI tp, al, an, aw, ae, e1, e2, e3, e4, ak, al')) :
    wX_writeKey_119 post (nI key) (nI n) (nI l.length) (nI (99 * key)) (nI (99 * key + (cd_KK sh tp bw l s).length)) (nI m) (nI bw) (nI sh) (nI tp) al an aw ae e1 e2 e3 e4 ak el := by
  have h99 := cd_KK_99 (sh := sh) (tp := tp) (bw := bw) hl n hn
  have hb := cd_KK_b sh tp bw l n
  refine pk_lt n 4 (fun z => ?_) (fun z => ?_)
  · obtain rfl : s = n := by omega
    exact xx_k149 hkey h99 hb hH hF K
  · obtain rfl : s = 3 := by omega
    obtain rfl : n = 4 := by omega
    have h3 : (cd_KK sh tp bw l 3).length ≤ (2 + 1) * l.length + 2 := cd_KK_le sh tp bw l 2
    have e7 : (cd_KK sh tp bw l 3 ++ [0]).length = (cd_KK sh tp bw l 3).length + 1 := by rw [List.length_append]; rfl
    refine ⟨pk_in (99 * key + (cd_KK sh tp bw l 3).length) 1089 (by omega), nm_r (e' := upd ak (99 * key + (cd_KK sh tp bw l 3).length) (nI 0)) (by rw [nI_clamp (by omega)]; rfl) ?_⟩
    refine xx_ap4 (l0 := cd_KK sh tp bw l 3 ++ [0]) (g := cd_F4 sh tp l) (by rw [e7, nI_1]; rfl) hl (fun k hk => (hF4 k hk).2.2.2) (cd_F4_b sh tp l) (by omega) (by omega) (cd_HD_put hH) (fun ak' hH' hF' => ?_)
    rw [← cd_KK_4 sh tp bw l] at hH' ⊢
    exact xx_k149 hkey h99 hb hH' (cd_FR_t (cd_FR_u hF (by omega) (by omega)) hF') K
theorem xx_k89 {post : SX → Prop} {key n s : Nat} {ak : Nat → Int32} {l : List Nat} (hkey : key < 11) (hl : l.length ≤ 24) (hn : n ≤ 4) (hs : (s = n ∧ n ≤ 2) ∨ (s = 2 ∧ 3 ≤ n)) (hF4 : cd_AF sh tp l e1 e2 e3 e4)
    (hH : cd_HD ak (99 * key) (cd_KK sh tp bw l s)) (hF : cd_FR (99 * key) 99 ek ak)
    (K : ∀ ak al', cd_KT (99 * key) key ak al' (cd_KK sh tp bw l n) → (∀ j J, ¬ j = key → cd_KT (99 * j) j ek el J → cd_KT (99 * j) j ak al' J) → post (nI m, nI bw, nI sh, nI tp, al, an, aw, ae, e1, e2, e3, e4, ak, al')) :
    wX_writeKey_89 post (nI key) (nI n) (nI l.length) (nI (99 * key)) (nI (99 * key + (cd_KK sh tp bw l s).length)) (nI m) (nI bw) (nI sh) (nI tp) al an aw ae e1 e2 e3 e4 ak el := by
  refine pk_lt n 3 (fun z => ?_) (fun z => ?_)
  · obtain rfl : s = n := by omega
    exact xx_k119 hkey hl hn (Or.inl ⟨rfl, by omega⟩) hF4 hH hF K
  · obtain rfl : s = 2 := by omega
    have h3 : (cd_KK sh tp bw l 2).length ≤ (1 + 1) * l.length + 1 := cd_KK_le sh tp bw l 1
    have e7 : (cd_KK sh tp bw l 2 ++ [0]).length = (cd_KK sh tp bw l 2).length + 1 := by rw [List.length_append]; rfl
    refine ⟨pk_in (99 * key + (cd_KK sh tp bw l 2).length) 1089 (by omega), nm_r (e' := upd ak (99 * key + (cd_KK sh tp bw l 2).length) (nI 0)) (by rw [nI_clamp (by omega)]; rfl) ?_⟩
    refine xx_ap3 (l0 := cd_KK sh tp bw l 2 ++ [0]) (g := cd_F3 sh tp l) (by rw [e7, nI_1]; rfl) hl (fun k hk => (hF4 k hk).2.2.1) (cd_F3_b sh tp l) (by omega) (by omega) (cd_HD_put hH) (fun ak' hH' hF' => ?_)
    rw [← cd_KK_3 sh tp bw l] at hH' ⊢
    exact xx_k119 hkey hl hn (by omega) hF4 hH' (cd_FR_t (cd_FR_u hF (by omega) (by omega)) hF') K
theorem xx_wk {post : SX → Prop} {key p q n : Nat} (hT : cd_TB m G W A B) (hC : cd_XC m W A B aw ae) (hm : m ≤ 6) (hG : cd_OK G) (hsh : sh ≤ 1) (htp : tp ≤ 30) (hbw : bw ≤ 1) (hkey : key < 11) (hpq : p ≤ q) (hq : q ≤ p + 12) (hq2 : q ≤ 120) (hc : cd_CL c al p q) (hn1 : 1 ≤ n) (hn : n ≤ 4)
    (K : ∀ a1 a2 a3 a4 ak al', cd_KT (99 * key) key ak al' (cd_KE sh tp bw G c p q n) → (∀ j J, ¬ j = key → cd_KT (99 * j) j ek el J → cd_KT (99 * j) j ak al' J) → post (nI m, nI bw, nI sh, nI tp, al, an, aw, ae, a1, a2, a3, a4, ak, al')) :
    wpX_writeKey post (nI m, nI bw, nI sh, nI tp, al, an, aw, ae, e1, e2, e3, e4, ek, el) (nI key) (nI p) (nI q) (nI n) := by
  have hl : (cd_EL G c p q).length ≤ 24 := cd_EL_12 hq
  unfold cd_KE at K
  unfold wpX_writeKey
  refine xx_ga hT hC hm hG hpq hq hq2 hc (fun a1 a2 a3 hA => ?_)
  generalize cd_EL G c p q = l at hl hA K ⊢
  refine xx_f4 hl hsh htp hA (fun b1 b2 b3 b4 hF4 => ?_)
  refine nm_r (cd_i99s key) ?_
  refine xx_ap1 (l0 := []) (b := 99 * key) (g := cd_F1 sh tp l) rfl hl (fun k hk => (hF4 k hk).1) (cd_F1_b sh tp l) (by omega) (by show 0 + l.length ≤ 99; omega) cd_HD_nil (fun ak hH hF => ?_)
  rw [List.nil_append, ← cd_KK_1 sh tp bw l] at hH ⊢
  refine pk_lt n 2 (fun z => ?_) (fun z => ?_)
  · obtain rfl : n = 1 := by omega
    exact xx_k89 hkey hl hn (by omega) hF4 hH hF (fun ak' al' => K b1 b2 b3 b4 ak' al')
  · have h3 : (cd_KK sh tp bw l 1).length ≤ (0 + 1) * l.length + 0 := cd_KK_le sh tp bw l 0
    have e7 : (cd_KK sh tp bw l 1 ++ [0]).length = (cd_KK sh tp bw l 1).length + 1 := by rw [List.length_append]; rfl
    refine ⟨pk_in (99 * key + (cd_KK sh tp bw l 1).length) 1089 (by omega), nm_r (e' := upd ak (99 * key + (cd_KK sh tp bw l 1).length) (nI 0)) (by rw [nI_clamp (by omega)]; rfl) ?_⟩
    refine pk_eq bw 1 (fun hb => ?_) (fun hb => ?_)
    · refine xx_bk (l0 := cd_KK sh tp bw l 1 ++ [0]) (g := cd_F2 sh tp l) (by rw [e7, nI_1]; rfl) hl (fun k hk => (hF4 k hk).2.1) (cd_F2_b sh tp l) (by omega) (by omega) (cd_HD_put hH) (fun ak' hH' hF' => ?_)
      rw [← cd_KK_2b sh tp bw l hb] at hH' ⊢
      exact xx_k89 (s := 2) hkey hl hn (by omega) hF4 hH' (cd_FR_t (cd_FR_u hF (by omega) (by omega)) hF') (fun ak' al' => K b1 b2 b3 b4 ak' al')
    · refine xx_ap2 (l0 := cd_KK sh tp bw l 1 ++ [0]) (g := cd_F2 sh tp l) (by rw [e7, nI_1]; rfl) hl (fun k hk => (hF4 k hk).2.1) (cd_F2_b sh tp l) (by omega) (by omega) (cd_HD_put hH) (fun ak' hH' hF' => ?_)
      rw [← cd_KK_2 sh tp bw l hb] at hH' ⊢
      exact xx_k89 (s := 2) hkey hl hn (by omega) hF4 hH' (cd_FR_t (cd_FR_u hF (by omega) (by omega)) hF') (fun ak' al' => K b1 b2 b3 b4 ak' al')
end
end
section
/-! the component: the questions -/
theorem cd_CL_s {m bw sh tp : Nat} {L c : Nat → Nat} {G : Nat → Option (Nat × Option Nat)} {an al : Nat → Int32} {s i j : Nat} (hD : cd_D m bw sh tp L c G) (hS : cd_ST L c an al) (hs : s < 10) (hj : j ≤ L s) : cd_CL c al (12 * s + i) (12 * s + j) := fun x h1 h2 => by
  obtain ⟨k, rfl⟩ : ∃ k, x = 12 * s + k := ⟨x - 12 * s, by omega⟩
  exact ⟨hS.2 s k hs (by omega), hD.2.2.2.2.2.2 s k hs (by omega)⟩
theorem cd_CL_0 {m bw sh tp : Nat} {L c : Nat → Nat} {G : Nat → Option (Nat × Option Nat)} {an al : Nat → Int32} {s j : Nat} (hD : cd_D m bw sh tp L c G) (hS : cd_ST L c an al) (hs : s < 10) (hj : j ≤ L s) : cd_CL c al (12 * s) (12 * s + j) := cd_CL_s (i := 0) hD hS hs hj
section
variable {m bw sh tp : Nat} {al an aw ae e1 e2 e3 e4 ek el : Nat → Int32} {G : Nat → Option (Nat × Option Nat)} {W A : Nat → Nat} {B : Nat → Option Nat} {L c : Nat → Nat}
theorem xx_wke {post : SX → Prop} {x y : Int32} {key p q n : Nat} (hx : x = nI p) (hy : y = nI q) (hD : cd_D m bw sh tp L c G) (hT : cd_TB m G W A B) (hC : cd_XC m W A B aw ae) (hkey : key < 11) (hpq : p ≤ q) (hq : q ≤ p + 12) (hq2 : q ≤ 120) (hc : cd_CL c al p q) (hn1 : 1 ≤ n) (hn : n ≤ 4)
    (K : ∀ a1 a2 a3 a4 ak al', cd_KT (99 * key) key ak al' (cd_KE sh tp bw G c p q n) → (∀ j J, ¬ j = key → cd_KT (99 * j) j ek el J → cd_KT (99 * j) j ak al' J) → post (nI m, nI bw, nI sh, nI tp, al, an, aw, ae, a1, a2, a3, a4, ak, al')) :
    wpX_writeKey post (nI m, nI bw, nI sh, nI tp, al, an, aw, ae, e1, e2, e3, e4, ek, el) (nI key) x y (nI n) := by
  subst hx hy
  exact xx_wk hT hC hD.1 hD.2.2.2.2.1 hD.2.2.1 hD.2.2.2.1 hD.2.1 hkey hpq hq hq2 hc hn1 hn K
theorem xx_ws {post : SX → Prop} {s n : Nat} (hD : cd_D m bw sh tp L c G) (hS : cd_ST L c an al) (hT : cd_TB m G W A B) (hC : cd_XC m W A B aw ae) (hs : s < 10) (hn1 : 1 ≤ n) (hn : n ≤ 4)
    (K : ∀ a1 a2 a3 a4 ak al', cd_KT (99 * s) s ak al' (cd_K sh tp bw L c G n s) → (∀ j J, ¬ j = s → cd_KT (99 * j) j ek el J → cd_KT (99 * j) j ak al' J) → post (nI m, nI bw, nI sh, nI tp, al, an, aw, ae, a1, a2, a3, a4, ak, al')) :
    wpX_writeSlotKey post (nI m, nI bw, nI sh, nI tp, al, an, aw, ae, e1, e2, e3, e4, ek, el) (nI s) (nI n) := by
  have hL := hD.2.2.2.2.2.1 s hs
  refine nm_r (cd_i12s s) ⟨vp_in_nI hs (by omega), ?_⟩
  exact xx_wke rfl (by rw [nI_clamp (by omega), hS.1 s hs]; exact nI_add _ _) hD hT hC (by omega) (by omega) (by omega) (by omega) (cd_CL_0 hD hS hs (Nat.le_refl _)) hn1 hn K
theorem xx_wa_l {post : SX → Prop} {n : Nat} (hD : cd_D m bw sh tp L c G) (hS : cd_ST L c an al) (hT : cd_TB m G W A B) (hC : cd_XC m W A B aw ae) (hn1 : 1 ≤ n) (hn : n ≤ 4)
    (K : ∀ a1 a2 a3 a4 ak al', (∀ j, j < 10 → cd_KT (99 * j) j ak al' (cd_K sh tp bw L c G n j)) → post (nI m, nI bw, nI sh, nI tp, al, an, aw, ae, a1, a2, a3, a4, ak, al')) :
    ∀ d i a1 a2 a3 a4 ak al', i + d = 10 → (∀ j, j < i → cd_KT (99 * j) j ak al' (cd_K sh tp bw L c G n j)) → wX_writeAllSlotKeys_2 post (nI n) (d + 1) (nI i) (nI m) (nI bw) (nI sh) (nI tp) al an aw ae a1 a2 a3 a4 ak al' := by
  intro d
  induction d with
  | zero =>
    intro i a1 a2 a3 a4 ak al' hi h
    exact br_t (nI_le (a := 10) (by omega) (by omega)) (K a1 a2 a3 a4 ak al' (fun j hj => h j (by omega)))
  | succ d ih =>
    intro i a1 a2 a3 a4 ak al' hi h
    have hL := hD.2.2.2.2.2.1 i (by omega)
    refine br_f (nI_ge (b := 10) (by omega) (by decide)) (nm_r (cd_i12s i) ⟨vp_in_nI (by omega) (by omega), ?_⟩)
    refine xx_wke rfl (by rw [nI_clamp (by omega), hS.1 i (by omega)]; exact nI_add _ _) hD hT hC (by omega) (by omega) (by omega) (by omega) (cd_CL_0 hD hS (by omega) (Nat.le_refl _)) hn1 hn (fun b1 b2 b3 b4 bk bl hK hfr => ?_)
    refine nm_r (nI_1 i) (ih (i + 1) b1 b2 b3 b4 bk bl (by omega) (fun j hj => ?_))
    by_cases z : j = i
    · subst z; exact hK
    · exact hfr j _ z (h j (by omega))
theorem xx_wa {post : SX → Prop} {n : Nat} (hD : cd_D m bw sh tp L c G) (hS : cd_ST L c an al) (hT : cd_TB m G W A B) (hC : cd_XC m W A B aw ae) (hn1 : 1 ≤ n) (hn : n ≤ 4)
    (K : ∀ a1 a2 a3 a4 ak al', (∀ j, j < 10 → cd_KT (99 * j) j ak al' (cd_K sh tp bw L c G n j)) → post (nI m, nI bw, nI sh, nI tp, al, an, aw, ae, a1, a2, a3, a4, ak, al')) : wpX_writeAllSlotKeys post (nI m, nI bw, nI sh, nI tp, al, an, aw, ae, e1, e2, e3, e4, ek, el) (nI n) :=
  ⟨11, xx_wa_l hD hS hT hC hn1 hn K 10 0 e1 e2 e3 e4 ek el (by omega) (fun j hj => absurd hj (Nat.not_lt_zero j))⟩
theorem xx_cmp_l {post : Int32 → Prop} {i j : Nat} {R J : List Nat} (hi : i < 11) (hj : j < 11) (h1 : cd_KT (99 * i) i ek el R) (h2 : cd_KT (99 * j) j ek el J) :
    ∀ d x, x + d = R.length → x ≤ J.length → post (cd_cm (R.drop x) (J.drop x)) → wX_compareKeys_18 post (nI i) (nI j) (nI R.length) (nI J.length) (nI m) (nI bw) (nI sh) (nI tp) al an aw ae e1 e2 e3 e4 ek el (d + 1) (nI x) := by
  obtain ⟨h1a, h1b, h1c, h1d⟩ := h1
  obtain ⟨h2a, h2b, h2c, h2d⟩ := h2
  intro d
  induction d with
  | zero =>
    intro x hx hxj k
    refine br_t (nI_le (by omega) (by omega)) (pk_eq R.length J.length (fun z => ?_) (fun z => pk_le J.length R.length (fun y => absurd y (by omega)) (fun y => ?_)))
    · rw [cd_cm_e0 (by omega) (by omega)] at k; exact k
    · rw [cd_cm_el (by omega) (by omega)] at k; exact k
  | succ d ih =>
    intro x hx hxj k
    refine br_f (nI_ge (by omega) (by omega)) (pk_le J.length x (fun z => pk_eq R.length J.length (fun y => absurd y (by omega)) (fun y => pk_le J.length R.length (fun t => ?_) (fun t => absurd t (by omega)))) (fun z => ?_))
    · rw [cd_cm_eg (by omega) (by omega)] at k; exact k
    · have b1 := cd_getD_b h1d x
      have b2 := cd_getD_b h2d x
      refine ⟨pk_in (99 * i + x) 1089 (by omega) (cd_i99 i x), nm_r (e' := nI (R.getD x 0)) (by rw [pk_cl (99 * i + x) (cd_i99 i x)]; exact h1a x (by omega)) ⟨pk_in (99 * j + x) 1089 (by omega) (cd_i99 j x), nm_r (e' := nI (J.getD x 0)) (by rw [pk_cl (99 * j + x) (cd_i99 j x)]; exact h2a x (by omega))
        (pk_eq (R.getD x 0) (J.getD x 0) (fun y => nm_r (nI_1 x) (ih (x + 1) (by omega) (by omega) ?_)) (fun y => pk_le (J.getD x 0) (R.getD x 0) (fun t => ?_) (fun t => ?_)))⟩⟩
      · rw [cd_cm_s (by omega) (by omega) y] at k; exact k
      · rw [cd_cm_g (by omega) (by omega) (by omega)] at k; exact k
      · rw [cd_cm_l (by omega) (by omega) (by omega)] at k; exact k
theorem xx_cmp {post : Int32 → Prop} {i j : Nat} {R J : List Nat} (hi : i < 11) (hj : j < 11) (h1 : cd_KT (99 * i) i ek el R) (h2 : cd_KT (99 * j) j ek el J) (k : post (cd_cm R J)) : wpX_compareKeys post (nI m, nI bw, nI sh, nI tp, al, an, aw, ae, e1, e2, e3, e4, ek, el) (nI i) (nI j) :=
  ⟨vp_in_nI hi (by omega), nm_r (e' := nI R.length) (by rw [nI_clamp (by omega)]; exact h1.2.1) ⟨vp_in_nI hj (by omega), nm_r (e' := nI J.length) (by rw [nI_clamp (by omega)]; exact h2.2.1) ⟨R.length + 1, xx_cmp_l hi hj h1 h2 R.length 0 (by omega) (Nat.zero_le _) k⟩⟩⟩
/-! places, kinds -/
theorem xx_pl_l {post : Int32 → Prop} {s n : Nat} (hs : s < 10) (hK : ∀ j, j < 10 → cd_KT (99 * j) j ek el (cd_K sh tp bw L c G n j)) (k : post (nI (cd_po sh tp bw L c G n s))) :
    ∀ d i, i + d = 10 → wX_placeInOrder_4 post (nI s) (nI m) (nI bw) (nI sh) (nI tp) al an aw ae e1 e2 e3 e4 ek el (d + 1) (nI (cd_ct (fun i => cd_lt sh tp bw L c G n i s || (cd_eq sh tp bw L c G n i s && decide (i < s))) i)) (nI i) := by
  intro d
  induction d with
  | zero =>
    intro i hi
    obtain rfl : i = 10 := by omega
    exact br_t (by decide) k
  | succ d ih =>
    intro i hi
    have go := ih (i + 1) (by omega)
    have P : ∀ i, (fun i => cd_lt sh tp bw L c G n i s || (cd_eq sh tp bw L c G n i s && decide (i < s))) i = (decide (cd_cm (cd_K sh tp bw L c G n i) (cd_K sh tp bw L c G n s) < 0) || (decide (cd_cm (cd_K sh tp bw L c G n i) (cd_K sh tp bw L c G n s) = 0) && decide (i < s))) := fun i => rfl
    generalize (fun i => cd_lt sh tp bw L c G n i s || (cd_eq sh tp bw L c G n i s && decide (i < s))) = Q at go P ⊢
    refine br_f (nI_ge (b := 10) (by omega) (by decide)) (xx_cmp (by omega) (by omega) (hK i (by omega)) (hK s hs) (br_c (fun z => nm_r (nI_1 _) (nm_r (nI_1 i) ?_)) (fun z => br_c (fun y => pk_le s i (fun t => nm_r (nI_1 i) ?_) (fun t => nm_r (nI_1 _) (nm_r (nI_1 i) ?_))) (fun y => nm_r (nI_1 i) ?_))))
    · rw [cd_ct_t (by rw [P, decide_eq_true z]; rfl)] at go; exact go
    · rw [cd_ct_f (by rw [P, decide_eq_false z, decide_eq_false (show ¬ i < s by omega), Bool.and_false]; rfl)] at go; exact go
    · rw [cd_ct_t (by rw [P, decide_eq_true y, decide_eq_true (show i < s by omega), Bool.and_true, Bool.or_true])] at go; exact go
    · rw [cd_ct_f (by rw [P, decide_eq_false z, decide_eq_false y]; rfl)] at go; exact go
theorem xx_pl {post : Int32 → Prop} {s n : Nat} (hs : s < 10) (hK : ∀ j, j < 10 → cd_KT (99 * j) j ek el (cd_K sh tp bw L c G n j)) (k : post (nI (cd_po sh tp bw L c G n s))) : wpX_placeInOrder post (nI m, nI bw, nI sh, nI tp, al, an, aw, ae, e1, e2, e3, e4, ek, el) (nI s) :=
  ⟨11, xx_pl_l hs hK k 10 0 (by omega)⟩
theorem xx_fk_l {post : Int32 → Prop} {s n : Nat} (hs : s < 10) (hK : ∀ j, j < 10 → cd_KT (99 * j) j ek el (cd_K sh tp bw L c G n j)) (k : post (cd_bi (cd_fs sh tp bw L c G n s))) :
    ∀ d i, i + d = s → (∀ j, j < i → cd_eq sh tp bw L c G n j s = false) → wX_isFirstOfItsKind_2 post (nI s) (nI m) (nI bw) (nI sh) (nI tp) al an aw ae e1 e2 e3 e4 ek el (d + 1) (nI i) := by
  intro d
  induction d with
  | zero =>
    intro i hi h
    obtain rfl : i = s := by omega
    have e : cd_fs sh tp bw L c G n i = true := cd_al_all _ _ (fun j hj => by rw [h j hj]; rfl)
    rw [e] at k
    exact br_t (nI_le (Nat.le_refl _) (by omega)) k
  | succ d ih =>
    intro i hi h
    refine br_f (nI_ge (by omega) (by omega)) (xx_cmp (by omega) (by omega) (hK i (by omega)) (hK s hs) (br_c (fun z => ?_) (fun z => nm_r (nI_1 i) (ih (i + 1) (by omega) (fun j hj => ?_)))))
    · have e : cd_fs sh tp bw L c G n s = false := cd_al_no _ i (by unfold cd_eq; rw [decide_eq_true z]; rfl) s (by omega)
      rw [e] at k
      exact k
    · by_cases q : j = i
      · subst q; exact decide_eq_false z
      · exact h j (by omega)
theorem xx_fk {post : Int32 → Prop} {s n : Nat} (hs : s < 10) (hK : ∀ j, j < 10 → cd_KT (99 * j) j ek el (cd_K sh tp bw L c G n j)) (k : post (cd_bi (cd_fs sh tp bw L c G n s))) : wpX_isFirstOfItsKind post (nI m, nI bw, nI sh, nI tp, al, an, aw, ae, e1, e2, e3, e4, ek, el) (nI s) :=
  ⟨s + 1, xx_fk_l hs hK k s 0 (by omega) (fun j hj => absurd hj (Nat.not_lt_zero j))⟩
/-! rows that match -/
theorem xx_sm_l {post : Int32 → SX → Prop} {i j p n : Nat} (hD : cd_D m bw sh tp L c G) (hS : cd_ST L c an al) (hT : cd_TB m G W A B) (hC : cd_XC m W A B aw ae) (hn1 : 1 ≤ n) (hn : n ≤ 4) (hi : i < 10) (hj : j < 10)
    (K : ∀ a1 a2 a3 a4 ak al', cd_KT (99 * j) j ak al' (cd_K sh tp bw L c G n j) → post (cd_bi (cd_mr sh tp bw L c G n i j p)) (nI m, nI bw, nI sh, nI tp, al, an, aw, ae, a1, a2, a3, a4, ak, al')) :
    ∀ d x a1 a2 a3 a4 ak al', p + x + d = L i + 1 → cd_KT (99 * j) j ak al' (cd_K sh tp bw L c G n j) → (∀ y, y < x → ¬ cd_KE sh tp bw G c (12 * i + p) (12 * i + p + y) n = cd_K sh tp bw L c G n j) →
      wX_someRowMatches_9 post (nI i) (nI p) (nI j) (nI n) (nI (12 * i)) (d + 1) (nI (p + x)) (nI m) (nI bw) (nI sh) (nI tp) al an aw ae a1 a2 a3 a4 ak al' := by
  have hL := hD.2.2.2.2.2.1 i hi
  have eL : an (nI i).toNatClampNeg = nI (L i) := by rw [nI_clamp (by omega)]; exact hS.1 i hi
  intro d
  induction d with
  | zero =>
    intro x a1 a2 a3 a4 ak al' hx hK h
    have k := K a1 a2 a3 a4 ak al' hK
    rw [cd_mr_no (fun y hy => h y (by omega))] at k
    exact ⟨vp_in_nI hi (by omega), br_t (by rw [eL]; exact nI_lt (by omega) (by omega)) k⟩
  | succ d ih =>
    intro x a1 a2 a3 a4 ak al' hx hK h
    refine ⟨vp_in_nI hi (by omega), br_f (by rw [eL]; exact nI_nlt (by omega) (by omega)) ?_⟩
    refine xx_wke (key := 10) (p := 12 * i + p) (q := 12 * i + p + x) (nI_add _ _) (by rw [nI_add, Nat.add_assoc]) hD hT hC (by omega) (by omega) (by omega) (by omega) (by rw [Nat.add_assoc]; exact cd_CL_s hD hS hi (by omega)) hn1 hn (fun b1 b2 b3 b4 bk bl hR hfr => ?_)
    have hK' := hfr j _ (by omega) hK
    refine xx_cmp (i := 10) (by omega) (by omega) hR hK' (br_c (fun z => ?_) (fun z => nm_r (nI_1 _) (ih (x + 1) b1 b2 b3 b4 bk bl (by omega) hK' (fun y hy => ?_))))
    · have k := K b1 b2 b3 b4 bk bl hK'
      rw [cd_mr_yes (d := x) (by omega) ((cd_cm_0 _ _).mp z)] at k
      exact k
    · by_cases q : y = x
      · subst q; exact fun t => z ((cd_cm_0 _ _).mpr t)
      · exact h y (by omega)
theorem xx_sm {post : Int32 → SX → Prop} {i j p n : Nat} (hD : cd_D m bw sh tp L c G) (hS : cd_ST L c an al) (hT : cd_TB m G W A B) (hC : cd_XC m W A B aw ae) (hn1 : 1 ≤ n) (hn : n ≤ 4) (hi : i < 10) (hj : j < 10) (hp : p ≤ L i)
    (hK : cd_KT (99 * j) j ek el (cd_K sh tp bw L c G n j))
    (K : ∀ a1 a2 a3 a4 ak al', cd_KT (99 * j) j ak al' (cd_K sh tp bw L c G n j) → post (cd_bi (cd_mr sh tp bw L c G n i j p)) (nI m, nI bw, nI sh, nI tp, al, an, aw, ae, a1, a2, a3, a4, ak, al')) : wpX_someRowMatches post (nI m, nI bw, nI sh, nI tp, al, an, aw, ae, e1, e2, e3, e4, ek, el) (nI i) (nI p) (nI j) (nI n) :=
  nm_r (cd_i12s i) ⟨L i + 1 - p + 1, xx_sm_l hD hS hT hC hn1 hn hi hj K (L i + 1 - p) 0 e1 e2 e3 e4 ek el (by omega) hK (fun y hy => absurd hy (Nat.not_lt_zero y))⟩
theorem xx_fn_l {post : Int32 → SX → Prop} {i j n : Nat} {P : Nat → Bool} (hD : cd_D m bw sh tp L c G) (hS : cd_ST L c an al) (hT : cd_TB m G W A B) (hC : cd_XC m W A B aw ae) (hn1 : 1 ≤ n) (hn : n ≤ 4) (hi : i < 10) (hj : j < 10) :
    ∀ d p a1 a2 a3 a4 ak al', p + d = L i + 1 → cd_KT (99 * j) j ak al' (cd_K sh tp bw L c G n j) → (∀ y, p ≤ y → y ≤ L i → P y = cd_mr sh tp bw L c G n i j y) → (∀ a1 a2 a3 a4 ak al', post (cd_fd P d p) (nI m, nI bw, nI sh, nI tp, al, an, aw, ae, a1, a2, a3, a4, ak, al')) →
      wX_find_46 post (nI i) (nI j) (nI n) (d + 1) (nI p) (nI m) (nI bw) (nI sh) (nI tp) al an aw ae a1 a2 a3 a4 ak al' := by
  have hL := hD.2.2.2.2.2.1 i hi
  have eL : an (nI i).toNatClampNeg = nI (L i) := by rw [nI_clamp (by omega)]; exact hS.1 i hi
  intro d
  induction d with
  | zero =>
    intro p a1 a2 a3 a4 ak al' hp hK hP H
    exact ⟨vp_in_nI hi (by omega), br_t (by rw [eL]; exact nI_lt (by omega) (by omega)) (H a1 a2 a3 a4 ak al')⟩
  | succ d ih =>
    intro p a1 a2 a3 a4 ak al' hp hK hP H
    refine ⟨vp_in_nI hi (by omega), br_f (by rw [eL]; exact nI_nlt (by omega) (by omega)) ?_⟩
    refine xx_sm hD hS hT hC hn1 hn hi hj (by omega) hK (fun b1 b2 b3 b4 bk bl hK' => ?_)
    cases z : cd_mr sh tp bw L c G n i j p with
    | true =>
      have h := H b1 b2 b3 b4 bk bl
      rw [cd_fd_t (by rw [hP p (Nat.le_refl _) (by omega)]; exact z)] at h
      exact br_f cd_n10 h
    | false =>
      refine br_t rfl (nm_r (nI_1 p) (ih (p + 1) b1 b2 b3 b4 bk bl (by omega) hK' (fun y hy hy2 => hP y (by omega) hy2) (fun c1 c2 c3 c4 ck cl => ?_)))
      have h := H c1 c2 c3 c4 ck cl
      rw [cd_fd_n (by rw [hP p (Nat.le_refl _) (by omega)]; exact z)] at h
      exact h
end
end
section
/-! the reference's small methods -/
section
variable {m bw sh tp : Nat} {fm : Int32} {vn vl vw vc vo vt g1 g2 g3 g4 gs gk : Nat → Int32}
theorem yy_slot_t {post : Int32 → Prop} {s : Nat} (h : s < 10) (k : post 1) : wpY_isSlot post (nI m, nI bw, nI sh, nI tp, fm, vn, vl, vw, vc, vo, vt, g1, g2, g3, g4, gs, gk) (nI s) :=
  br_f (nI_pos (by omega)) (br_f (nI_nlt (a := 9) (by omega) (by decide)) k)
theorem yy_slot_f {post : Int32 → Prop} {x : Int32} (h : x < 0 ∨ nI 10 ≤ x) (k : post 0) : wpY_isSlot post (nI m, nI bw, nI sh, nI tp, fm, vn, vl, vw, vc, vo, vt, g1, g2, g3, g4, gs, gk) x :=
  br_c (fun _ => k) (fun z => br_t (cd_hi (a := 9) (h.resolve_left z) (by decide) (by decide)) k)
theorem yy_str_t {post : Int32 → Prop} {s : Nat} (h1 : 1 ≤ s) (h4 : s ≤ 4) (k : post 1) : wpY_isStrength post (nI m, nI bw, nI sh, nI tp, fm, vn, vl, vw, vc, vo, vt, g1, g2, g3, g4, gs, gk) (nI s) :=
  br_f (nI_nlt (b := 1) h1 (by omega)) (br_f (nI_nlt (a := 4) h4 (by decide)) k)
theorem yy_str_f {post : Int32 → Prop} {x : Int32} (h : x < 1 ∨ 4 < x) (k : post 0) : wpY_isStrength post (nI m, nI bw, nI sh, nI tp, fm, vn, vl, vw, vc, vo, vt, g1, g2, g3, g4, gs, gk) x :=
  br_c (fun _ => k) (fun z => br_t (h.resolve_left z) k)
theorem yy_ls {post : Int32 → Prop} {n k r : Nat} (hr : r < 2 ^ 31) (hk : k < 3) (h0 : 0 < r % 11) (h : wY_lengthOf_4 post (nI m) (nI bw) (nI sh) (nI tp) fm vn vl vw vc vo vt g1 g2 g3 g4 gs gk n (nI (k + 1)) (nI (r / 11))) : wY_lengthOf_4 post (nI m) (nI bw) (nI sh) (nI tp) fm vn vl vw vc vo vt g1 g2 g3 g4 gs gk (n + 1) (nI k) (nI r) := by
  have e1 : nI r - nI r / 11 * 11 = nI (r % 11) := pk_rem (d := 11) hr (by decide) (by decide)
  have e2 : nI r / 11 = nI (r / 11) := pk_div (d := 11) hr (by decide) (by decide)
  refine br_f (nI_nle (by omega) hr) (br_f (nI_ge (b := 3) hk (by decide)) ⟨by decide, br_f ?_ ⟨by decide, nm_r e2 (nm_r (nI_1 k) h)⟩⟩)
  rw [e1]
  exact nI_nle h0 (by omega)
theorem yy_lx {post : Int32 → Prop} {n k r : Nat} (hr : r < 2 ^ 31) (hk : k ≤ 3) (hx : k = 3 ∨ r % 11 = 0) (k1 : r = 0 → post (nI k)) (k0 : ¬ r = 0 → post 0) : wY_lengthOf_4 post (nI m) (nI bw) (nI sh) (nI tp) fm vn vl vw vc vo vt g1 g2 g3 g4 gs gk (n + 1) (nI k) (nI r) := by
  have e1 : nI r - nI r / 11 * 11 = nI (r % 11) := pk_rem (d := 11) hr (by decide) (by decide)
  have E : wY_lengthOf_31 post (nI k) (nI r) (nI m) (nI bw) (nI sh) (nI tp) fm vn vl vw vc vo vt g1 g2 g3 g4 gs gk := pk_eq r 0 k1 k0
  exact pk_le r 0 (fun _ => E) (fun z => pk_le 3 k (fun _ => E) (fun y => ⟨by decide, pk_le (r % 11) 0 (fun _ => E) (fun t => absurd t (by omega)) e1⟩))
def cd_wk (w : Nat) : Nat := if w < 1331 then cd_wl w else 0
theorem cd_wk_t {w : Nat} (h : w < 1331) : cd_wk w = cd_wl w := if_pos h
theorem cd_wk_f {w : Nat} (h : ¬ w < 1331) : cd_wk w = 0 := if_neg h
theorem yy_len {post : Int32 → Prop} {w : Nat} (hw : w < 2 ^ 31) (k : post (nI (cd_wk w))) : wpY_lengthOf post (nI m, nI bw, nI sh, nI tp, fm, vn, vl, vw, vc, vo, vt, g1, g2, g3, g4, gs, gk) (nI w) := by
  refine ⟨4, ?_⟩
  by_cases h1 : w % 11 = 0
  · have e : cd_wk w = 0 := by
      by_cases z : w < 1331
      · rw [cd_wk_t z, cd_wl_a h1]
      · exact cd_wk_f z
    rw [e] at k
    exact yy_lx (k := 0) hw (by decide) (Or.inr h1) (fun _ => k) (fun _ => k)
  refine yy_ls (k := 0) hw (by decide) (by omega) ?_
  by_cases h2 : w / 11 % 11 = 0
  · refine yy_lx (k := 0 + 1) (by omega) (by decide) (Or.inr h2) (fun y => ?_) (fun y => ?_)
    · rw [cd_wk_t (by omega), cd_wl_b h1 h2 (by omega)] at k
      exact k
    · have e : cd_wk w = 0 := by
        by_cases z : w < 1331
        · rw [cd_wk_t z, cd_wl_c h1 h2 (by omega)]
        · exact cd_wk_f z
      rw [e] at k
      exact k
  refine yy_ls (k := 0 + 1) (by omega) (by decide) (by omega) ?_
  by_cases h3 : w / 11 / 11 % 11 = 0
  · refine yy_lx (k := 0 + 1 + 1) (by omega) (by decide) (Or.inr h3) (fun y => ?_) (fun y => ?_)
    · rw [cd_wk_t (by omega), cd_wl_d h1 h2 y] at k
      exact k
    · rw [cd_wk_f (by omega)] at k
      exact k
  refine yy_ls (k := 0 + 1 + 1) (by omega) (by decide) (by omega) ?_
  refine yy_lx (k := 0 + 1 + 1 + 1) (by omega) (by decide) (Or.inl rfl) (fun y => ?_) (fun y => ?_)
  · rw [cd_wk_t (by omega), cd_wl_e h1 h2 (by omega)] at k
    exact k
  · rw [cd_wk_f (by omega)] at k
    exact k
theorem cd_neg {x : Int32} (h : x < 0) : x ≤ 0 ∧ ¬ x = 0 := by
  refine ⟨Int32.le_of_lt h, fun e => ?_⟩
  rw [e] at h
  exact absurd h (by decide)
theorem yy_len_n {post : Int32 → Prop} {x : Int32} (h : x < 0) (k : post 0) : wpY_lengthOf post (nI m, nI bw, nI sh, nI tp, fm, vn, vl, vw, vc, vo, vt, g1, g2, g3, g4, gs, gk) x := ⟨1, br_t (cd_neg h).1 (br_f (cd_neg h).2 k)⟩
theorem yy_wt {post : Int32 → Prop} {e l : Nat} {x : Int32} (hx : x = nI e) (he : e < 2 ^ 31) (h1 : 1 ≤ l) (h3 : l ≤ 3) (k : post (nI (cd_wt e l))) : wpY_weight post (nI m, nI bw, nI sh, nI tp, fm, vn, vl, vw, vc, vo, vt, g1, g2, g3, g4, gs, gk) x (nI l) := by
  subst hx
  rcases cd_l3 h1 h3 with rfl | rfl | rfl
  · have e1 : nI e - nI e / 32 * 32 = nI (cd_wt e 1) := pk_rem (d := 32) he (by decide) (by decide)
    rw [← e1] at k
    exact br_t rfl ⟨by decide, k⟩
  · have e1 : nI e / 32 - nI e / 32 / 8 * 8 = nI (cd_wt e 2) := by
      have e2 : nI e / 32 = nI (e / 32) := pk_div (d := 32) he (by decide) (by decide)
      have e3 : nI (e / 32) - nI (e / 32) / 8 * 8 = nI (e / 32 % 8) := pk_rem (d := 8) (by omega) (by decide) (by decide)
      rw [e2, e3]
      rfl
    rw [← e1] at k
    exact br_f (by decide) (br_t rfl ⟨by decide, by decide, k⟩)
  · have e1 : nI e / 256 = nI (cd_wt e 3) := pk_div (d := 256) he (by decide) (by decide)
    rw [← e1] at k
    exact br_f (by decide) (br_f (by decide) ⟨by decide, k⟩)
theorem yy_un {post : Int32 → Prop} {l : Nat} (h1 : 1 ≤ l) (h3 : l ≤ 3) (k : post (nI (cd_un l))) : wpY_unit post (nI m, nI bw, nI sh, nI tp, fm, vn, vl, vw, vc, vo, vt, g1, g2, g3, g4, gs, gk) (nI l) := by
  rcases cd_l3 h1 h3 with rfl | rfl | rfl
  · exact br_t rfl k
  · exact br_f (by decide) (br_t rfl k)
  · exact br_f (by decide) (br_f (by decide) k)
theorem yy_mx {post : Int32 → Prop} {l : Nat} (h1 : 1 ≤ l) (h3 : l ≤ 3) (k : post (nI (cd_mx l))) : wpY_most post (nI m, nI bw, nI sh, nI tp, fm, vn, vl, vw, vc, vo, vt, g1, g2, g3, g4, gs, gk) (nI l) := by
  rcases cd_l3 h1 h3 with rfl | rfl | rfl
  · exact br_t rfl k
  · exact br_f (by decide) (br_t rfl k)
  · exact br_f (by decide) (br_f (by decide) k)
theorem yy_el_f {post : Int32 → Prop} {x : Int32} (h : x < 0) (k : post 0) : wpY_isElement post (nI m, nI bw, nI sh, nI tp, fm, vn, vl, vw, vc, vo, vt, g1, g2, g3, g4, gs, gk) x := br_t h k
theorem yy_el {post : Int32 → Prop} {e : Nat} (he : e < 2 ^ 31) (k1 : cd_V e → post 1) (k0 : ¬ cd_V e → post 0) : wpY_isElement post (nI m, nI bw, nI sh, nI tp, fm, vn, vl, vw, vc, vo, vt, g1, g2, g3, g4, gs, gk) (nI e) := by
  have e1 : nI e - nI e / 32 * 32 = nI (e % 32) := pk_rem (d := 32) he (by decide) (by decide)
  refine br_f (nI_pos he) (pk_le 1024 e (fun z => k0 (fun v => ?_)) (fun z => ⟨by decide, pk_lt 30 (e % 32) (fun y => k0 (fun v => ?_)) (fun y => k1 ⟨z, y⟩) rfl e1⟩))
  · have := v.1; omega
  · have := v.2; omega
theorem yy_gb_l {post : Int32 → Prop} {e a l : Nat} (he : e < 1024) (ha : a < 1024) (h1 : 1 ≤ l) (h3 : l ≤ 3) (k1 : cd_gb e a l → post 1) (k0 : ¬ cd_gb e a l → post 0) :
    ∀ d i x, i + d = l → 1 ≤ i → ((x = 1 ∧ ∀ j, 1 ≤ j → j < i → cd_wt e j = cd_wt a j) ∨ (x = 0 ∧ ¬ cd_gb e a l)) → wY_isBehind_6 post (nI e) (nI a) (nI l) (nI m) (nI bw) (nI sh) (nI tp) fm vn vl vw vc vo vt g1 g2 g3 g4 gs gk (d + 1) x (nI i) := by
  intro d
  induction d with
  | zero =>
    intro i x hi h1i hj
    have hil : i = l := by omega
    subst hil
    have b1 := cd_wt_b e i
    have b2 := cd_wt_b a i
    rcases hj with ⟨rfl, hj⟩ | ⟨rfl, hj⟩
    · refine br_t (nI_le (Nat.le_refl _) (by omega)) (br_f cd_n10 (yy_wt rfl (by omega) h1 h3 (yy_wt rfl (by omega) h1 h3 (pk_le (cd_wt e i) (cd_wt a i) (fun z => k0 (fun y => ?_)) (fun z => k1 ((cd_gb_i h1 h3).mpr ⟨hj, z⟩))))))
      have := ((cd_gb_i h1 h3).mp y).2
      omega
    · exact br_t (nI_le (Nat.le_refl _) (by omega)) (br_t rfl (k0 hj))
  | succ d ih =>
    intro i x hi h1i hj
    have b1 := cd_wt_b e i
    have b2 := cd_wt_b a i
    rcases hj with ⟨rfl, hj⟩ | ⟨rfl, hj⟩
    · refine br_f (nI_ge (by omega) (by omega)) (br_f cd_n10 (yy_wt rfl (by omega) h1i (by omega) (yy_wt rfl (by omega) h1i (by omega) (pk_eq (cd_wt e i) (cd_wt a i) (fun z => nm_r (nI_1 i) (ih (i + 1) 1 (by omega) (by omega) (Or.inl ⟨rfl, fun j q1 q2 => ?_⟩))) (fun z => nm_r (nI_1 i) (ih (i + 1) 0 (by omega) (by omega) (Or.inr ⟨rfl, fun y => z (((cd_gb_i h1 h3).mp y).1 i h1i (by omega))⟩)))))))
      by_cases q : j = i
      · subst q; exact z
      · exact hj j q1 (by omega)
    · exact br_f (nI_ge (by omega) (by omega)) (br_t rfl (nm_r (nI_1 i) (ih (i + 1) 0 (by omega) (by omega) (Or.inr ⟨rfl, hj⟩))))
theorem yy_gb {post : Int32 → Prop} {e a l : Nat} {x : Int32} (hx : x = nI e) (he : e < 1024) (ha : a < 1024) (h1 : 1 ≤ l) (h3 : l ≤ 3) (k1 : cd_gb e a l → post 1) (k0 : ¬ cd_gb e a l → post 0) : wpY_isBehind post (nI m, nI bw, nI sh, nI tp, fm, vn, vl, vw, vc, vo, vt, g1, g2, g3, g4, gs, gk) x (nI a) (nI l) := by
  subst hx
  exact ⟨l - 1 + 1, yy_gb_l he ha h1 h3 k1 k0 (l - 1) 1 1 (by omega) (by omega) (Or.inl ⟨rfl, fun j q1 q2 => absurd q2 (by omega)⟩)⟩
variable {G : Nat → Option (Nat × Option Nat)} {W A : Nat → Nat} {B : Nat → Option Nat}
theorem yy_eo_l {post : Int32 → Prop} {w : Nat} (hT : cd_TB m G W A B) (hC : cd_YC m W A B vw vc vo vt) (hm : m ≤ 6) (hw : w < 2 ^ 31) (k1 : ∀ p, p < 10 + m → W p = w → post (nI p)) (k0 : G w = none → post (-1)) :
    ∀ d i, i + d = 10 + m → (∀ p, p < i → ¬ W p = w) → wY_entryOf_2 post (nI w) (nI m) (nI bw) (nI sh) (nI tp) fm vn vl vw vc vo vt g1 g2 g3 g4 gs gk (d + 1) (nI i) := by
  intro d
  induction d with
  | zero =>
    intro i hi hn
    exact br_t (by rw [cd_10]; exact nI_le (by omega) (by omega)) (k0 (cd_TB_none hT (fun p hp => hn p (by omega))))
  | succ d ih =>
    intro i hi hn
    have e : vw (nI i).toNatClampNeg = nI (W i) := by rw [nI_clamp (by omega)]; exact (hC i (by omega)).1
    have hW := (hT.1 i (by omega)).1
    refine br_f (by rw [cd_10]; exact nI_ge (by omega) (by omega)) ⟨vp_in_nI (by omega) (by omega), pk_eq (W i) w (fun z => ?_) (fun z => ?_) e⟩
    · exact k1 i (by omega) z
    · refine nm_r (nI_1 i) (ih (i + 1) (by omega) (fun p hp => ?_))
      by_cases q : p = i
      · subst q; exact z
      · exact hn p (by omega)
theorem yy_eo {post : Int32 → Prop} {w : Nat} (hT : cd_TB m G W A B) (hC : cd_YC m W A B vw vc vo vt) (hm : m ≤ 6) (hw : w < 2 ^ 31) (k1 : ∀ p, p < 10 + m → W p = w → post (nI p)) (k0 : G w = none → post (-1)) :
    wpY_entryOf post (nI m, nI bw, nI sh, nI tp, fm, vn, vl, vw, vc, vo, vt, g1, g2, g3, g4, gs, gk) (nI w) :=
  ⟨10 + m + 1, yy_eo_l hT hC hm hw k1 k0 (10 + m) 0 (by omega) (fun p hp => absurd hp (Nat.not_lt_zero p))⟩
end
end
section
/-! the reference: elements of a row of letters -/
def cd_A4 (l : List Nat) (a1 a2 a3 a4 : Nat → Int32) : Prop := cd_A3 l a1 a2 a3 ∧ ∀ k, k < l.length → a4 k = 0
abbrev cd_17A : Type := Int32 → Int32 → Int32 → Int32 → Int32 → (Nat → Int32) → (Nat → Int32) → (Nat → Int32) → (Nat → Int32) → (Nat → Int32) → (Nat → Int32) → (Nat → Int32) → (Nat → Int32) → (Nat → Int32) → (Nat → Int32) → (Nat → Int32) → (Nat → Int32) → Prop
theorem cd_jx (s p n : Nat) : 12 * nI s + nI p + nI (n + 1) - 1 = nI (12 * s + p + n) := by
  rw [cd_j12, nI_add]
  exact nI_pred (12 * s + p + n)
section
variable {m bw sh tp : Nat} {fm : Int32} {vn vl vw vc vo vt g1 g2 g3 g4 gs gk : Nat → Int32} {G : Nat → Option (Nat × Option Nat)} {W A : Nat → Nat} {B : Nat → Option Nat} {c : Nat → Nat}
theorem yy_ad {post : SY → Prop} {l : List Nat} {e : Nat} {x : Int32} (hx : x = nI e) (hl : l.length < 24) (he : cd_V e) (hA : cd_A4 l g1 g2 g3 g4)
    (k : ∀ a1 a2 a3 a4, cd_A4 (l ++ [e]) a1 a2 a3 a4 → post (nI m, nI bw, nI sh, nI tp, (nI (l ++ [e]).length), vn, vl, vw, vc, vo, vt, a1, a2, a3, a4, gs, gk)) : wpY_addElement post (nI m, nI bw, nI sh, nI tp, (nI l.length), vn, vl, vw, vc, vo, vt, g1, g2, g3, g4, gs, gk) x := by
  have vi : vp_in (nI l.length) 24 := vp_in_nI hl (by omega)
  have ec : (nI l.length).toNatClampNeg = l.length := nI_clamp (by omega)
  have he1 := he.1
  have e5 : nI (l ++ [e]).length = nI (l.length + 1) := by rw [List.length_append]; rfl
  have k' := k _ _ _ (upd g4 l.length 0) ⟨cd_A3_put hA.1 he, fun j hj => by
    by_cases z : j = l.length
    · subst z; exact pk_us
    · rw [pk_un z]
      rw [List.length_append, List.length_cons, List.length_nil] at hj
      exact hA.2 j (by omega)⟩
  rw [e5] at k'
  unfold wpY_addElement
  refine yy_wt (l := 1) hx (by omega) (by decide) (by decide) ?_
  refine ⟨vi, nm_r (e' := upd g1 l.length (nI (e % 32))) (by rw [ec]; rfl) ?_⟩
  refine yy_wt (l := 2) hx (by omega) (by decide) (by decide) ?_
  refine ⟨vi, nm_r (e' := upd g2 l.length (nI (e / 32 % 8))) (by rw [ec]; rfl) ?_⟩
  refine yy_wt (l := 3) hx (by omega) (by decide) (by decide) ?_
  exact ⟨vi, nm_r (e' := upd g3 l.length (nI (e / 256))) (by rw [ec]; rfl) ⟨vi, nm_r (e' := upd g4 l.length 0) (by rw [ec]) (nm_r (nI_1 l.length) k')⟩⟩
theorem yy_153 {post : SY → Prop} {J : Int32 → cd_17A} {x1 x3 : Int32} {p n : Nat} (hn : 1 ≤ n) (hn3 : n ≤ 3) (k : J (nI (p + n)) (nI m) (nI bw) (nI sh) (nI tp) fm vn vl vw vc vo vt g1 g2 g3 g4 gs gk) : wY_findElements_153 post J x1 x3 (nI p) (nI n) (nI m) (nI bw) (nI sh) (nI tp) fm vn vl vw vc vo vt g1 g2 g3 g4 gs gk :=
  br_f (nI_nle (by omega) (by omega)) (nm_r (nI_add p n) k)
theorem yy_120 {post : SY → Prop} {J : Int32 → cd_17A} {x1 x3 : Int32} {p n f : Nat} {l : List Nat} (hT : cd_TB m G W A B) (hC : cd_YC m W A B vw vc vo vt) (hm : m ≤ 6) (hG : cd_OK G) (hf : f < 10 + m) (hn : 1 ≤ n) (hn3 : n ≤ 3) (hl : l.length + 2 ≤ 24) (hA : cd_A4 l g1 g2 g3 g4)
    (k : ∀ a1 a2 a3 a4, cd_A4 ((l ++ [A f]) ++ (B f).toList) a1 a2 a3 a4 → J (nI (p + n)) (nI m) (nI bw) (nI sh) (nI tp) (nI ((l ++ [A f]) ++ (B f).toList).length) vn vl vw vc vo vt a1 a2 a3 a4 gs gk) :
    wY_findElements_120 post J x1 x3 (nI p) (nI f) (nI n) (nI m) (nI bw) (nI sh) (nI tp) (nI l.length) vn vl vw vc vo vt g1 g2 g3 g4 gs gk := by
  have vi : vp_in (nI f) 16 := vp_in_nI (by omega) (by omega)
  have ec : (nI f).toNatClampNeg = f := nI_clamp (by omega)
  obtain ⟨c1, c2, c3, c4⟩ := hC f hf
  have hV := cd_TB_V hT hG hf
  have e5 : (l ++ [A f]).length = l.length + 1 := by rw [List.length_append]; rfl
  refine ⟨vi, yy_ad (e := A f) (by rw [ec]; exact c2) (by omega) hV.1 hA (fun a1 a2 a3 a4 hA1 => ⟨vi, ?_⟩)⟩
  cases z : B f with
  | none =>
    rw [z] at c3 k
    have e6 : (l ++ [A f]) ++ (none : Option Nat).toList = l ++ [A f] := List.append_nil _
    rw [e6] at k
    exact br_f (by rw [ec, c3]; decide) (yy_153 hn hn3 (k a1 a2 a3 a4 hA1))
  | some y =>
    rw [z] at c3 k
    exact br_t (by rw [ec, c3]; rfl) ⟨vi, yy_ad (e := y) (by rw [ec]; exact c4 y z) (by omega) (hV.2 y z) hA1 (fun b1 b2 b3 b4 hB => yy_153 hn hn3 (k b1 b2 b3 b4 hB))⟩
theorem yy_29_3 {post : SY → Prop} {J : Int32 → cd_17A} {s p q f n : Nat} (hT : cd_TB m G W A B) (hC : cd_YC m W A B vw vc vo vt) (hm : m ≤ 6) (hs : s < 10) (hq : q ≤ 12) (hp : p < q) (hc : cd_CL c vl (12 * s + p) (12 * s + q)) (hw : p + 2 ≤ q)
    (hf : f < 10 + m) (H : (p + 3 ≤ q → G (cd_w3 c (12 * s + p)) = none) → W f = cd_wd c (12 * s + p) (cd_mt G c (12 * s + p) (12 * s + q)) ∧ n = cd_mt G c (12 * s + p) (12 * s + q))
    (k : ∀ f, f < 10 + m → W f = cd_wd c (12 * s + p) (cd_mt G c (12 * s + p) (12 * s + q)) → wY_findElements_120 post J (nI s) (nI q) (nI p) (nI f) (nI (cd_mt G c (12 * s + p) (12 * s + q))) (nI m) (nI bw) (nI sh) (nI tp) fm vn vl vw vc vo vt g1 g2 g3 g4 gs gk) :
    wY_findElements_29 post J (nI s) (nI q) (nI p) (nI m) (nI bw) (nI sh) (nI tp) fm vn vl vw vc vo vt g1 g2 g3 g4 gs gk 2 (nI f) (nI n) (nI (cd_w2 c (12 * s + p))) 121 3 := by
  have e0 : nI p + 3 = nI (p + 3) := nI_add p 3
  have ex : 12 * nI s + nI p + 3 - 1 = nI (12 * s + p + 2) := cd_jx s p 2
  have hb0 := (hc (12 * s + p) (by omega) (by omega)).2
  have hb1 := (hc (12 * s + p + 1) (by omega) (by omega)).2
  have kf : ((p + 3 ≤ q → G (cd_w3 c (12 * s + p)) = none)) → wY_findElements_120 post J (nI s) (nI q) (nI p) (nI f) (nI n) (nI m) (nI bw) (nI sh) (nI tp) fm vn vl vw vc vo vt g1 g2 g3 g4 gs gk := fun h3 => by
    have h := H h3
    rw [h.2]
    exact k f hf h.1
  refine br_f (by decide) (pk_lt q (p + 3) (fun z => kf (fun y => absurd y (by omega))) (fun z => ?_) rfl e0)
  have hc2 := hc (12 * s + p + 2) (by omega) (by omega)
  have hb2 := hc2.2
  have hw3 : cd_w3 c (12 * s + p) < 2 ^ 31 := by unfold cd_w3; omega
  refine ⟨pk_in (12 * s + p + 2) 120 (by omega) ex, nm_r (e' := nI (cd_w3 c (12 * s + p))) ?_ (nm_r (e' := 1331) (by decide) (yy_eo hT hC hm hw3 (fun f3 hf3 h3 => br_f (nI_pos (by omega)) (br_f (nI_pos (by omega)) (nm_r (e' := 4) (by decide) (br_t (by decide) ?_))))
    (fun hn => br_t (by decide) (br_t (by decide) (nm_r (e' := 4) (by decide) (br_t (by decide) (kf (fun _ => hn))))))))⟩
  · rw [pk_cl (12 * s + p + 2) ex, hc2.1]
    show nI (cd_w2 c (12 * s + p)) + nI 121 * (nI (c (12 * s + p + 2)) + nI 1) = nI (cd_w3 c (12 * s + p))
    rw [nI_add, pk_mul, nI_add]
    rfl
  · have hm3 : cd_mt G c (12 * s + p) (12 * s + q) = 3 := cd_lw3 (by omega) (h3 ▸ cd_TB_some hT hf3)
    have := k f3 hf3 (by rw [cd_wd3 hm3]; exact h3)
    rw [hm3] at this
    exact this
theorem yy_29_2 {post : SY → Prop} {J : Int32 → cd_17A} {s p q : Nat} (hT : cd_TB m G W A B) (hC : cd_YC m W A B vw vc vo vt) (hm : m ≤ 6) (hs : s < 10) (hq : q ≤ 12) (hp : p < q) (hc : cd_CL c vl (12 * s + p) (12 * s + q))
    (k : ∀ f, f < 10 + m → W f = cd_wd c (12 * s + p) (cd_mt G c (12 * s + p) (12 * s + q)) → wY_findElements_120 post J (nI s) (nI q) (nI p) (nI f) (nI (cd_mt G c (12 * s + p) (12 * s + q))) (nI m) (nI bw) (nI sh) (nI tp) fm vn vl vw vc vo vt g1 g2 g3 g4 gs gk) :
    wY_findElements_29 post J (nI s) (nI q) (nI p) (nI m) (nI bw) (nI sh) (nI tp) fm vn vl vw vc vo vt g1 g2 g3 g4 gs gk 3 (nI (c (12 * s + p))) 1 (nI (cd_w1 c (12 * s + p))) 11 2 := by
  have e0 : nI p + 2 = nI (p + 2) := nI_add p 2
  have ex : 12 * nI s + nI p + 2 - 1 = nI (12 * s + p + 1) := cd_jx s p 1
  have hb0 := (hc (12 * s + p) (by omega) (by omega)).2
  have hW1 : W (c (12 * s + p)) = cd_w1 c (12 * s + p) := hT.2.1 _ hb0
  refine br_f (by decide) (pk_lt q (p + 2) (fun z => ?_) (fun z => ?_) rfl e0)
  · have hm1 : cd_mt G c (12 * s + p) (12 * s + q) = 1 := cd_lw1 (fun y => absurd y (by omega)) (fun y => absurd y (by omega))
    have := k (c (12 * s + p)) (by omega) (by rw [cd_wd1 hm1]; exact hW1)
    rw [hm1] at this
    exact this
  have hc1 := hc (12 * s + p + 1) (by omega) (by omega)
  have hb1 := hc1.2
  have hw2 : cd_w2 c (12 * s + p) < 2 ^ 31 := by unfold cd_w2; omega
  refine ⟨pk_in (12 * s + p + 1) 120 (by omega) ex, nm_r (e' := nI (cd_w2 c (12 * s + p))) ?_ (nm_r (e' := 121) (by decide) (yy_eo hT hC hm hw2
    (fun f2 hf2 h2 => br_f (nI_pos (by omega)) (br_f (nI_pos (by omega)) (nm_r (e' := 3) (by decide) (yy_29_3 (n := 2) hT hC hm hs hq hp hc (by omega) hf2 (fun h3 => ?_) k))))
    (fun hn => br_t (by decide) (br_t (by decide) (nm_r (e' := 3) (by decide) (yy_29_3 (n := 1) (f := c (12 * s + p)) hT hC hm hs hq hp hc (by omega) (by omega) (fun h3 => ?_) k))))))⟩
  · rw [pk_cl (12 * s + p + 1) ex, hc1.1]
    show nI (cd_w1 c (12 * s + p)) + nI 11 * (nI (c (12 * s + p + 1)) + nI 1) = nI (cd_w2 c (12 * s + p))
    rw [nI_add, pk_mul, nI_add]
    rfl
  · have hm2 : cd_mt G c (12 * s + p) (12 * s + q) = 2 := cd_lw2 (fun y => h3 (by omega)) (by omega) (h2 ▸ cd_TB_some hT hf2)
    exact ⟨by rw [cd_wd2 hm2]; exact h2, hm2.symm⟩
  · have hm1 : cd_mt G c (12 * s + p) (12 * s + q) = 1 := cd_lw1 (fun y => h3 (by omega)) (fun _ => hn)
    exact ⟨by rw [cd_wd1 hm1]; exact hW1, hm1.symm⟩
theorem yy_29 {post : SY → Prop} {J : Int32 → cd_17A} {s p q : Nat} (hT : cd_TB m G W A B) (hC : cd_YC m W A B vw vc vo vt) (hm : m ≤ 6) (hs : s < 10) (hq : q ≤ 12) (hp : p < q) (hc : cd_CL c vl (12 * s + p) (12 * s + q))
    (k : ∀ f, f < 10 + m → W f = cd_wd c (12 * s + p) (cd_mt G c (12 * s + p) (12 * s + q)) → wY_findElements_120 post J (nI s) (nI q) (nI p) (nI f) (nI (cd_mt G c (12 * s + p) (12 * s + q))) (nI m) (nI bw) (nI sh) (nI tp) fm vn vl vw vc vo vt g1 g2 g3 g4 gs gk) :
    wY_findElements_29 post J (nI s) (nI q) (nI p) (nI m) (nI bw) (nI sh) (nI tp) fm vn vl vw vc vo vt g1 g2 g3 g4 gs gk 4 (-1) 0 0 1 1 := by
  have e0 : nI p + 1 = nI (p + 1) := nI_add p 1
  have ex : 12 * nI s + nI p + 1 - 1 = nI (12 * s + p + 0) := cd_jx s p 0
  have hc0 := hc (12 * s + p) (by omega) (by omega)
  have hb0 := hc0.2
  have hw1 : cd_w1 c (12 * s + p) < 2 ^ 31 := by unfold cd_w1; omega
  refine br_f (by decide) (br_f (by rw [e0]; exact nI_nlt (by omega) (by omega)) ⟨pk_in (12 * s + p + 0) 120 (by omega) ex, nm_r (e' := nI (cd_w1 c (12 * s + p))) ?_ (nm_r (e' := 11) (by decide) (yy_eo hT hC hm hw1
    (fun f1 hf1 h1 => ?_) (fun hn => ?_)))⟩)
  · rw [pk_cl (12 * s + p + 0) ex, Nat.add_zero, hc0.1]
    show nI 0 + nI 1 * (nI (c (12 * s + p)) + nI 1) = nI (cd_w1 c (12 * s + p))
    rw [nI_add, pk_mul, nI_add, Nat.one_mul, Nat.zero_add]
    rfl
  · have : f1 = c (12 * s + p) := hT.2.2.1 _ _ hf1 (by omega) (by rw [h1, hT.2.1 _ hb0]; rfl)
    subst this
    exact br_f (nI_pos (by omega)) (br_f (nI_pos (by omega)) (nm_r (e' := 2) (by decide) (yy_29_2 hT hC hm hs hq hp hc k)))
  · exfalso
    have := cd_TB_some hT (p := c (12 * s + p)) (by omega)
    rw [hT.2.1 _ hb0] at this
    exact this hn
/-! shifting -/
theorem yy_148 {post : SY → Prop} {J : Int32 → Int32 → cd_17A} {vb lb : Bool} {n : Nat} (k : J (cd_bi (vb || lb)) (nI (n + 1)) (nI m) (nI bw) (nI sh) (nI tp) fm vn vl vw vc vo vt g1 g2 g3 g4 gs gk) : wY_shift_148 post J (nI n) (cd_bi vb) (cd_bi lb) (nI m) (nI bw) (nI sh) (nI tp) fm vn vl vw vc vo vt g1 g2 g3 g4 gs gk := by
  cases vb with
  | true => exact br_f cd_n10 (nm_r (nI_1 n) k)
  | false =>
    cases lb with
    | true => exact br_t rfl (br_f cd_n10 (nm_r (nI_1 n) k))
    | false => exact br_t rfl (br_t rfl (nm_r (nI_1 n) k))
theorem yy_143 {post : SY → Prop} {J : Int32 → Int32 → cd_17A} {vb lb : Bool} {n : Nat} (hn : n < 24) (k : J (cd_bi (vb || lb)) (nI (n + 1)) (nI m) (nI bw) (nI sh) (nI tp) fm vn vl vw vc vo vt (upd g1 n 0) (upd g2 n 0) (upd g3 n 0) g4 gs gk) : wY_shift_143 post J (nI n) (cd_bi vb) (cd_bi lb) (nI m) (nI bw) (nI sh) (nI tp) fm vn vl vw vc vo vt g1 g2 g3 g4 gs gk := by
  have vi : vp_in (nI n) 24 := vp_in_nI hn (by omega)
  have ec : (nI n).toNatClampNeg = n := nI_clamp (by omega)
  exact ⟨vi, nm_r (e' := upd g1 n 0) (by rw [ec]) ⟨vi, nm_r (e' := upd g2 n 0) (by rw [ec]) ⟨vi, nm_r (e' := upd g3 n 0) (by rw [ec]) (yy_148 k)⟩⟩⟩
theorem yy_67 {post : SY → Prop} {J : Int32 → Int32 → cd_17A} {l : List Nat} {vb lb : Bool} {n : Nat} (hl : l.length ≤ 24) (hn : n < l.length) (hs : sh = 1) (hA : cd_AH sh tp l g1 g2 g3 g4 n) (hb : cd_am tp l (n + 1) = (vb || lb)) (hlb : vb = false → lb = true → cd_f1 l n = 0)
    (kJ : ∀ a1 a2 a3 a4, cd_AH sh tp l a1 a2 a3 a4 (n + 1) → J (cd_bi (cd_am tp l (n + 1))) (nI (n + 1)) (nI m) (nI bw) (nI sh) (nI tp) fm vn vl vw vc vo vt a1 a2 a3 a4 gs gk) : wY_shift_67 post J (nI n) (cd_bi vb) (cd_bi lb) (nI m) (nI bw) (nI sh) (nI tp) fm vn vl vw vc vo vt g1 g2 g3 g4 gs gk := by
  have vi : vp_in (nI n) 24 := vp_in_nI (by omega) (by omega)
  have ec : (nI n).toNatClampNeg = n := nI_clamp (by omega)
  obtain ⟨q1, q2, q3⟩ := hA.2 n (Nat.le_refl _) hn
  have b1 := cd_f1_b l n
  have b2 := cd_f2_b l n
  have b3 := cd_f3_b l n
  have es : g1 (nI n).toNatClampNeg + g2 (nI n).toNatClampNeg + g3 (nI n).toNatClampNeg = nI (cd_f1 l n + cd_f2 l n + cd_f3 l n) := by rw [ec, q1, q2, q3, nI_add, nI_add]
  have big : (vb || lb) = true → ∀ x : Int32, x = nI (cd_f1 l n) → J (cd_bi (vb || lb)) (nI (n + 1)) (nI m) (nI bw) (nI sh) (nI tp) fm vn vl vw vc vo vt (upd g1 n 0) (upd g2 n 0) (upd g3 n 0) (upd g4 n x) gs gk := fun h x hx => by
    rw [h] at hb
    obtain ⟨F1, F2, F3, F4⟩ := cd_F_t hs hb
    rw [h, ← hb]
    refine kJ _ _ _ _ (cd_AH_s hA ?_ ?_ ?_ ?_ (fun k hk => ?_))
    · rw [pk_us, F1]; rfl
    · rw [pk_us, F2]; rfl
    · rw [pk_us, F3]; rfl
    · rw [pk_us, F4, hx]
    · rw [pk_un hk, pk_un hk, pk_un hk, pk_un hk]; exact ⟨rfl, rfl, rfl, rfl⟩
  have sml : (vb || lb) = false → ∀ x : Int32, x = nI (cd_F4 sh tp l n) → J (cd_bi (vb || lb)) (nI (n + 1)) (nI m) (nI bw) (nI sh) (nI tp) fm vn vl vw vc vo vt g1 g2 g3 (upd g4 n x) gs gk := fun h x hx => by
    rw [h] at hb
    obtain ⟨F1, F2, F3⟩ := cd_F_f hs hb
    rw [h, ← hb]
    refine kJ _ _ _ _ (cd_AH_s hA ?_ ?_ ?_ ?_ (fun k hk => ?_))
    · rw [F1]; exact q1
    · rw [F2]; exact q2
    · rw [F3]; exact q3
    · rw [pk_us, hx]
    · rw [pk_un hk]; exact ⟨rfl, rfl, rfl, rfl⟩
  refine ⟨vi, vi, vi, ?_⟩
  cases vb with
  | true =>
    have t : ∀ z : Int32, wY_shift_97 post J (nI n) (cd_bi true) (cd_bi lb) z (nI m) (nI bw) (nI sh) (nI tp) fm vn vl vw vc vo vt g1 g2 g3 g4 gs gk := fun z =>
      br_f cd_n10 ⟨vi, vi, nm_r (e' := upd g4 n (nI (cd_f1 l n))) (by rw [ec, q1]) (br_f cd_n10 (yy_143 (by omega) (big rfl _ rfl)))⟩
    exact br_c (fun _ => t 1) (fun _ => t 0)
  | false =>
    cases lb with
    | true =>
      have hf0 := hlb rfl rfl
      have t : ∀ z : Int32, wY_shift_97 post J (nI n) (cd_bi false) (cd_bi true) z (nI m) (nI bw) (nI sh) (nI tp) fm vn vl vw vc vo vt g1 g2 g3 g4 gs gk := fun z =>
        br_t rfl (br_f cd_n10 ⟨vi, nm_r (e' := upd g4 n 0) (by rw [ec]) (br_t rfl (br_f cd_n10 (yy_143 (by omega) (big rfl _ (by rw [hf0]; rfl)))))⟩)
      exact br_c (fun _ => t 1) (fun _ => t 0)
    | false =>
      refine pk_eq (cd_f1 l n + cd_f2 l n + cd_f3 l n) 0 (fun z => br_t rfl (br_t rfl (br_f cd_n10 ⟨vi, nm_r (e' := upd g4 n 0) (by rw [ec]) (br_t rfl (br_t rfl (yy_148 (sml rfl _ ?_))))⟩)))
        (fun z => br_t rfl (br_t rfl (br_t rfl ⟨vi, nm_r (e' := upd g4 n 31) (by rw [ec]) (br_t rfl (br_t rfl (yy_148 (sml rfl _ ?_))))⟩))) es
      · rw [cd_F4_0 hs hb ⟨by omega, by omega, by omega⟩]; rfl
      · rw [cd_F4_1 hs hb (fun q => z (by omega))]; rfl
theorem yy_sh_l {post : SY → Prop} {l : List Nat} (hl : l.length ≤ 24) (hs : sh = 1) (htp : tp ≤ 30)
    (K : ∀ a1 a2 a3 a4, cd_AF sh tp l a1 a2 a3 a4 → post (nI m, nI bw, nI sh, nI tp, (nI l.length), vn, vl, vw, vc, vo, vt, a1, a2, a3, a4, gs, gk)) :
    ∀ d i a1 a2 a3 a4, i + d = l.length → cd_AH sh tp l a1 a2 a3 a4 i → wY_shift_4 post (d + 1) (cd_bi (cd_am tp l i)) (nI i) (nI m) (nI bw) (nI sh) (nI tp) (nI l.length) vn vl vw vc vo vt a1 a2 a3 a4 gs gk := by
  intro d
  induction d with
  | zero =>
    intro i a1 a2 a3 a4 hi hA
    have hil : i = l.length := by omega
    subst hil
    exact br_t (nI_le (Nat.le_refl _) (by omega)) (K a1 a2 a3 a4 (cd_AH_e hA))
  | succ d ih =>
    intro i a1 a2 a3 a4 hi hA
    have vi : vp_in (nI i) 24 := vp_in_nI (by omega) (by omega)
    have ec : (nI i).toNatClampNeg = i := nI_clamp (by omega)
    obtain ⟨q1, q2, q3⟩ := hA.2 i (Nat.le_refl _) (by omega)
    have b1 := cd_f1_b l i
    have e1 : a1 (nI i).toNatClampNeg = nI (cd_f1 l i) := by rw [ec]; exact q1
    have go : ∀ vb lb : Bool, cd_am tp l (i + 1) = (vb || lb) → (vb = false → lb = true → cd_f1 l i = 0) → wY_shift_67 post (wY_shift_4 post (d + 1)) (nI i) (cd_bi vb) (cd_bi lb) (nI m) (nI bw) (nI sh) (nI tp) (nI l.length) vn vl vw vc vo vt a1 a2 a3 a4 gs gk := fun vb lb h1 h2 =>
      yy_67 hl (by omega) hs hA h1 h2 (fun c1 c2 c3 c4 hc => ih (i + 1) c1 c2 c3 c4 (by omega) hc)
    refine br_f (nI_ge (by omega) (by omega)) (br_t (by rw [hs]; rfl) ⟨vi, pk_lt (cd_f1 l i) 1 (fun z => ?_) (fun z => ⟨vi, pk_lt tp (cd_f1 l i) (fun y => ?_) (fun y => ?_) rfl e1⟩) e1⟩)
    · have h0 : cd_f1 l i = 0 := by omega
      have ha := cd_am_0 (tp := tp) h0
      cases w : cd_am tp l i with
      | true => exact ⟨vi, br_t (by rw [e1, h0]; rfl) (br_f cd_n10 (go false true (by rw [ha, w]; rfl) (fun _ _ => h0)))⟩
      | false => exact ⟨vi, br_t (by rw [e1, h0]; rfl) (br_t rfl (go false false (by rw [ha, w]; rfl) (fun _ q => by cases q)))⟩
    · exact ⟨vi, br_f (by rw [e1]; exact nI_ne0 (by omega) (by omega)) (go false false (by rw [cd_am_f (by omega) (by omega)]; rfl) (fun _ q => by cases q))⟩
    · exact ⟨vi, br_f (by rw [e1]; exact nI_ne0 (by omega) (by omega)) (go true false (by rw [cd_am_t (by omega) (by omega)]; rfl) (fun q => by cases q))⟩
theorem yy_sh {post : SY → Prop} {l : List Nat} (hl : l.length ≤ 24) (hsh : sh ≤ 1) (htp : tp ≤ 30) (hA : cd_A4 l g1 g2 g3 g4)
    (K : ∀ a1 a2 a3 a4, cd_AF sh tp l a1 a2 a3 a4 → post (nI m, nI bw, nI sh, nI tp, (nI l.length), vn, vl, vw, vc, vo, vt, a1, a2, a3, a4, gs, gk)) : wpY_shift post (nI m, nI bw, nI sh, nI tp, (nI l.length), vn, vl, vw, vc, vo, vt, g1, g2, g3, g4, gs, gk) := by
  by_cases hs : sh = 1
  · exact ⟨l.length + 1, yy_sh_l hl hs htp K l.length 0 g1 g2 g3 g4 (by omega) (cd_AH_0 hA.1)⟩
  · have hAF : cd_AF sh tp l g1 g2 g3 g4 := fun k hk => by
      obtain ⟨F1, F2, F3, F4⟩ := cd_F_0 (sh := sh) (tp := tp) (l := l) (k := k) (by omega)
      obtain ⟨q1, q2, q3⟩ := hA.1 k hk
      rw [F1, F2, F3, F4]
      exact ⟨q1, q2, q3, hA.2 k hk⟩
    exact ⟨1, br_c (fun _ => K g1 g2 g3 g4 hAF) (fun _ => br_f (fun q => hs (by rw [show (1 : Int32) = nI 1 from rfl, nI_eq (by omega) (by omega)] at q; exact q)) (K g1 g2 g3 g4 hAF))⟩
theorem yy_fe_l {post : SY → Prop} {s p0 q : Nat} (hT : cd_TB m G W A B) (hC : cd_YC m W A B vw vc vo vt) (hm : m ≤ 6) (hG : cd_OK G) (hsh : sh ≤ 1) (htp : tp ≤ 30) (hs : s < 10) (hq : q ≤ 12) (hc : cd_CL c vl (12 * s + p0) (12 * s + q))
    (K : ∀ a1 a2 a3 a4, cd_AF sh tp (cd_EL G c (12 * s + p0) (12 * s + q)) a1 a2 a3 a4 → post (nI m, nI bw, nI sh, nI tp, (nI (cd_EL G c (12 * s + p0) (12 * s + q)).length), vn, vl, vw, vc, vo, vt, a1, a2, a3, a4, gs, gk)) :
    ∀ d p l a1 a2 a3 a4, q ≤ p + d → p0 ≤ p → p ≤ q → cd_A4 l a1 a2 a3 a4 → l ++ cd_EL G c (12 * s + p) (12 * s + q) = cd_EL G c (12 * s + p0) (12 * s + q) → l.length ≤ 2 * (p - p0) →
      wY_findElements_8 post (nI s) (nI q) (d + 1) (nI p) (nI m) (nI bw) (nI sh) (nI tp) (nI l.length) vn vl vw vc vo vt a1 a2 a3 a4 gs gk := by
  have h24 : (cd_EL G c (12 * s + p0) (12 * s + q)).length ≤ 24 := cd_EL_12 (by omega)
  intro d
  induction d with
  | zero =>
    intro p l a1 a2 a3 a4 hd h1 h2 hA h h5
    rw [cd_EL_nil (by omega), List.append_nil] at h
    subst h
    exact br_t (nI_le (by omega) (by omega)) (yy_sh h24 hsh htp hA K)
  | succ d ih =>
    intro p l a1 a2 a3 a4 hd h1 h2 hA h h5
    refine pk_le q p (fun z => ?_) (fun z => ⟨4, ?_⟩)
    · rw [cd_EL_nil (by omega), List.append_nil] at h
      subst h
      exact yy_sh h24 hsh htp hA K
    · have hc' : cd_CL c vl (12 * s + p) (12 * s + q) := fun x hx1 hx2 => hc x (by omega) hx2
      refine yy_29 hT hC hm hs hq z hc' (fun f hf hW => ?_)
      have hm1 := cd_mt_pos G c (12 * s + p) (12 * s + q)
      have hm2 := cd_mt_q (G := G) (c := c) (p := 12 * s + p) (q := 12 * s + q) (by omega)
      have hm3 : cd_mt G c (12 * s + p) (12 * s + q) ≤ 3 := by unfold cd_mt; split <;> (try split) <;> omega
      have hgo := cd_EL_go hT hf hW (by omega) h
      have el2 : ((l ++ [A f]) ++ (B f).toList).length ≤ l.length + 2 := by
        rw [List.length_append, List.length_append]
        cases B f with
        | none => show l.length + 1 + 0 ≤ _; omega
        | some x => show l.length + 1 + 1 ≤ _; omega
      refine yy_120 hT hC hm hG hf hm1 hm3 (by omega) hA (fun b1 b2 b3 b4 hB => ?_)
      rw [Nat.add_assoc] at hgo
      exact ih (p + cd_mt G c (12 * s + p) (12 * s + q)) _ b1 b2 b3 b4 (by omega) (by omega) (by omega) hB hgo (by omega)
theorem yy_fe {post : SY → Prop} {s p q : Nat} (hT : cd_TB m G W A B) (hC : cd_YC m W A B vw vc vo vt) (hm : m ≤ 6) (hG : cd_OK G) (hsh : sh ≤ 1) (htp : tp ≤ 30) (hs : s < 10) (hpq : p ≤ q) (hq : q ≤ 12) (hc : cd_CL c vl (12 * s + p) (12 * s + q))
    (K : ∀ a1 a2 a3 a4, cd_AF sh tp (cd_EL G c (12 * s + p) (12 * s + q)) a1 a2 a3 a4 → post (nI m, nI bw, nI sh, nI tp, (nI (cd_EL G c (12 * s + p) (12 * s + q)).length), vn, vl, vw, vc, vo, vt, a1, a2, a3, a4, gs, gk)) : wpY_findElements post (nI m, nI bw, nI sh, nI tp, fm, vn, vl, vw, vc, vo, vt, g1, g2, g3, g4, gs, gk) (nI s) (nI p) (nI q) :=
  ⟨q - p + 1, yy_fe_l hT hC hm hG hsh htp hs hq hc K (q - p) p [] g1 g2 g3 g4 (by omega) (Nat.le_refl _) hpq ⟨cd_A3_nil, fun k hk => absurd hk (Nat.not_lt_zero k)⟩ (List.nil_append _) (Nat.zero_le _)⟩
end
end
section
/-! the reference: keys -/
def cd_Fl (sh tp : Nat) (l : List Nat) (lev k : Nat) : Nat := if lev = 1 then cd_F1 sh tp l k else if lev = 2 then cd_F2 sh tp l k else if lev = 3 then cd_F3 sh tp l k else cd_F4 sh tp l k
theorem cd_W_b {sh tp bw : Nat} {l : List Nat} {lev k : Nat} (h : lev = 2) (hb : bw = 1) : cd_W sh tp bw l lev k = cd_Fl sh tp l lev (l.length - 1 - k) := by
  subst h
  show (if bw = 1 then _ else _) = _
  rw [if_pos hb]
  rfl
theorem cd_W_n {sh tp bw : Nat} {l : List Nat} {lev k : Nat} (h : ¬ (lev = 2 ∧ bw = 1)) : cd_W sh tp bw l lev k = cd_Fl sh tp l lev k := by
  unfold cd_W cd_Fl
  by_cases h1 : lev = 1
  · rw [if_pos h1, if_pos h1]
  · rw [if_neg h1, if_neg h1]
    by_cases h2 : lev = 2
    · rw [if_pos h2, if_pos h2, if_neg (fun q => h ⟨h2, q⟩)]
    · rw [if_neg h2, if_neg h2]
section
variable {m bw sh tp : Nat} {fm : Int32} {vn vl vw vc vo vt g1 g2 g3 g4 gs gk : Nat → Int32} {G : Nat → Option (Nat × Option Nat)} {W A : Nat → Nat} {B : Nat → Option Nat} {c : Nat → Nat}
theorem yy_lv {post : Int32 → Prop} {x : Int32} {l : List Nat} {i lev : Nat} (hx : x = nI i) (hi : i < l.length) (hl : l.length ≤ 24) (h1 : 1 ≤ lev) (h4 : lev ≤ 4) (hF : cd_AF sh tp l g1 g2 g3 g4) (k : post (nI (cd_Fl sh tp l lev i))) : wpY_levelOf post (nI m, nI bw, nI sh, nI tp, fm, vn, vl, vw, vc, vo, vt, g1, g2, g3, g4, gs, gk) x (nI lev) := by
  subst hx
  have vi : vp_in (nI i) 24 := vp_in_nI (by omega) (by omega)
  have ec : (nI i).toNatClampNeg = i := nI_clamp (by omega)
  obtain ⟨q1, q2, q3, q4⟩ := hF i hi
  have hv : lev = 1 ∨ lev = 2 ∨ lev = 3 ∨ lev = 4 := by omega
  rcases hv with rfl | rfl | rfl | rfl
  · exact br_t rfl ⟨vi, by rw [ec, q1]; exact k⟩
  · exact br_f (by decide) (br_t rfl ⟨vi, by rw [ec, q2]; exact k⟩)
  · exact br_f (by decide) (br_f (by decide) (br_t rfl ⟨vi, by rw [ec, q3]; exact k⟩))
  · exact br_f (by decide) (br_f (by decide) (br_f (by decide) ⟨vi, by rw [ec, q4]; exact k⟩))
theorem yy_an {post : SY → Prop} {side x : Nat} {r : List Nat} (hs : side < 2) (hr : r.length < 110) (hg : gs side = nI r.length) (k : post (nI m, nI bw, nI sh, nI tp, fm, vn, vl, vw, vc, vo, vt, g1, g2, g3, g4, (upd gs side (nI (r.length + 1))), (upd gk (110 * side + r.length) (nI x)))) : wpY_addNumber post (nI m, nI bw, nI sh, nI tp, fm, vn, vl, vw, vc, vo, vt, g1, g2, g3, g4, gs, gk) (nI side) (nI x) := by
  have vi : vp_in (nI side) 2 := vp_in_nI hs (by omega)
  have ec : (nI side).toNatClampNeg = side := nI_clamp (by omega)
  have ei : 110 * nI side + gs (nI side).toNatClampNeg = nI (110 * side + r.length) := by rw [ec, hg]; exact cd_j110 side r.length
  exact ⟨vi, pk_in (110 * side + r.length) 220 (by omega) ei, nm_r (e' := upd gk (110 * side + r.length) (nI x)) (by rw [pk_cl (110 * side + r.length) ei]) ⟨vi, vi, nm_r (e' := upd gs side (nI (r.length + 1))) (by rw [ec, hg, nI_1]) k⟩⟩
/-- a key under way in the reference's cells -/
def cd_YK (side : Nat) (gs gk : Nat → Int32) (R : List Nat) (bs bk : Nat → Int32) : Prop := cd_HD bk (110 * side) R ∧ bs side = nI R.length ∧ cd_FR (110 * side) 110 gk bk ∧ ∀ j, ¬ j = side → bs j = gs j
theorem cd_YK_put {side x : Nat} {gs gk bs bk : Nat → Int32} {R : List Nat} (h : cd_YK side gs gk R bs bk) (hR : R.length < 110) : cd_YK side gs gk (R ++ [x]) (upd bs side (nI (R.length + 1))) (upd bk (110 * side + R.length) (nI x)) := by
  obtain ⟨h1, h2, h3, h4⟩ := h
  refine ⟨cd_HD_put h1, ?_, cd_FR_u h3 (by omega) (by omega), fun j hj => by rw [pk_un hj]; exact h4 j hj⟩
  rw [pk_us, List.length_append]
  rfl
theorem yy_78 {post : SY → Prop} {J18 J40 : Int32 → cd_17A} {x5 z : Int32} {side lev i k : Nat} {l : List Nat} {R : List Nat} {bs bk : Nat → Int32} (hz : z = nI i) (hi : i < l.length) (hl : l.length ≤ 24) (h1 : 1 ≤ lev) (h4 : lev ≤ 4) (hF : cd_AF sh tp l g1 g2 g3 g4) (hs : side < 2) (hR : R.length < 110) (hY : cd_YK side gs gk R bs bk)
    (kJ : ∀ bs bk, cd_YK side gs gk (R ++ (if cd_Fl sh tp l lev i = 0 then [] else [cd_Fl sh tp l lev i])) bs bk → J40 (nI (k + 1)) (nI m) (nI bw) (nI sh) (nI tp) fm vn vl vw vc vo vt g1 g2 g3 g4 bs bk) : wY_makeKey_78 post J18 J40 (nI side) x5 (nI lev) (nI k) z (nI m) (nI bw) (nI sh) (nI tp) fm vn vl vw vc vo vt g1 g2 g3 g4 bs bk := by
  have hb : cd_Fl sh tp l lev i ≤ 31 := by
    unfold cd_Fl
    split
    · exact cd_F1_b sh tp l i
    · split
      · exact cd_F2_b sh tp l i
      · split
        · exact cd_F3_b sh tp l i
        · exact cd_F4_b sh tp l i
  unfold wY_makeKey_78
  refine yy_lv hz hi hl h1 h4 hF ?_
  refine pk_le (cd_Fl sh tp l lev i) 0 (fun z0 => nm_r (nI_1 k) ?_) (fun z0 => yy_an (r := R) hs hR hY.2.1 (nm_r (nI_1 k) ?_))
  · have h := kJ bs bk
    rw [if_pos (by omega), List.append_nil] at h
    exact h hY
  · have h := kJ (upd bs side (nI (R.length + 1))) (upd bk (110 * side + R.length) (nI (cd_Fl sh tp l lev i)))
    rw [if_neg (by omega)] at h
    exact h (cd_YK_put hY hR)
theorem yy_40 {post : SY → Prop} {J18 : Int32 → cd_17A} {x5 : Int32} {side lev : Nat} {l R : List Nat} (hl : l.length ≤ 24) (h1 : 1 ≤ lev) (h4 : lev ≤ 4) (hF : cd_AF sh tp l g1 g2 g3 g4) (hs : side < 2) (hbw : bw ≤ 1) (hR : R.length + l.length < 110)
    (K : ∀ bs bk, cd_YK side gs gk (R ++ cd_flt (cd_W sh tp bw l lev) l.length) bs bk → J18 (nI (lev + 1)) (nI m) (nI bw) (nI sh) (nI tp) (nI l.length) vn vl vw vc vo vt g1 g2 g3 g4 bs bk) :
    ∀ d k bs bk, k + d = l.length → cd_YK side gs gk (R ++ cd_flt (cd_W sh tp bw l lev) k) bs bk → wY_makeKey_40 post J18 (nI side) x5 (nI lev) (d + 1) (nI k) (nI m) (nI bw) (nI sh) (nI tp) (nI l.length) vn vl vw vc vo vt g1 g2 g3 g4 bs bk := by
  intro d
  induction d with
  | zero =>
    intro k bs bk hk hY
    have hkl : k = l.length := by omega
    subst hkl
    exact br_t (nI_le (Nat.le_refl _) (by omega)) (nm_r (nI_1 lev) (K bs bk hY))
  | succ d ih =>
    intro k bs bk hk hY
    have hlen : (R ++ cd_flt (cd_W sh tp bw l lev) k).length ≤ R.length + k := by rw [List.length_append]; have := cd_flt_le (cd_W sh tp bw l lev) k; omega
    have nx : ∀ i, cd_W sh tp bw l lev k = cd_Fl sh tp l lev i → ∀ bs bk, cd_YK side gs gk ((R ++ cd_flt (cd_W sh tp bw l lev) k) ++ (if cd_Fl sh tp l lev i = 0 then [] else [cd_Fl sh tp l lev i])) bs bk → wY_makeKey_40 post J18 (nI side) x5 (nI lev) (d + 1) (nI (k + 1)) (nI m) (nI bw) (nI sh) (nI tp) (nI l.length) vn vl vw vc vo vt g1 g2 g3 g4 bs bk := fun i hi bs bk h => by
      refine ih (k + 1) bs bk (by omega) ?_
      rw [List.append_assoc, ← hi] at h
      exact h
    have go76 : ¬ (lev = 2 ∧ bw = 1) → wY_makeKey_76 post J18 (wY_makeKey_40 post J18 (nI side) x5 (nI lev) (d + 1)) (nI side) x5 (nI lev) (nI k) (nI m) (nI bw) (nI sh) (nI tp) (nI l.length) vn vl vw vc vo vt g1 g2 g3 g4 bs bk := fun h =>
      yy_78 rfl (by omega) hl h1 h4 hF hs (by omega) hY (nx k (cd_W_n h))
    refine br_f (nI_ge (by omega) (by omega)) (pk_eq lev 2 (fun z => pk_eq bw 1 (fun y => ?_) (fun y => go76 (fun q => y q.2))) (fun z => go76 (fun q => z q.1)))
    refine yy_78 (i := l.length - 1 - k) ?_ (by omega) hl h1 h4 hF hs (by omega) hY (nx _ (cd_W_b z y))
    show nI l.length - nI 1 - nI k = nI (l.length - 1 - k)
    rw [pk_sub (by omega), pk_sub (by omega)]
theorem cd_KK_s (sh tp bw : Nat) (l : List Nat) (t : Nat) : cd_KK sh tp bw l (t + 1) = (cd_KK sh tp bw l t ++ (if t + 1 = 1 then [] else [0])) ++ cd_flt (cd_W sh tp bw l (t + 1)) l.length := by
  show cd_KK sh tp bw l t ++ ((if t + 1 = 1 then [] else [0]) ++ _) = _
  rw [List.append_assoc]
theorem yy_18 {post : SY → Prop} {side n : Nat} {l : List Nat} (hl : l.length ≤ 24) (hn : n ≤ 4) (hF : cd_AF sh tp l g1 g2 g3 g4) (hs : side < 2) (hbw : bw ≤ 1)
    (K : ∀ bs bk, cd_YK side gs gk (cd_KK sh tp bw l n) bs bk → post (nI m, nI bw, nI sh, nI tp, (nI l.length), vn, vl, vw, vc, vo, vt, g1, g2, g3, g4, bs, bk)) :
    ∀ d t bs bk, t + d = n → cd_YK side gs gk (cd_KK sh tp bw l t) bs bk → wY_makeKey_18 post (nI side) (nI n) (d + 1) (nI (t + 1)) (nI m) (nI bw) (nI sh) (nI tp) (nI l.length) vn vl vw vc vo vt g1 g2 g3 g4 bs bk := by
  intro d
  induction d with
  | zero =>
    intro t bs bk ht hY
    obtain rfl : t = n := by omega
    exact br_t (nI_lt (by omega) (by omega)) (K bs bk hY)
  | succ d ih =>
    intro t bs bk ht hY
    have h99 := cd_KK_99 (sh := sh) (tp := tp) (bw := bw) hl t (by omega)
    have hlen : (cd_KK sh tp bw l t).length ≤ t * l.length + t := by
      cases t with
      | zero => exact Nat.zero_le _
      | succ t => have := cd_KK_le sh tp bw l t; omega
    have ht4 : t = 0 ∨ t = 1 ∨ t = 2 ∨ t = 3 := by omega
    have hlen2 : (cd_KK sh tp bw l t).length + l.length ≤ 100 := by
      rcases ht4 with rfl | rfl | rfl | rfl <;> omega
    refine br_f (nI_nlt (by omega) (by omega)) (pk_le (t + 1) 1 (fun z => ?_) (fun z => ?_))
    · obtain rfl : t = 0 := by omega
      refine ⟨l.length + 1, yy_40 (gs := gs) (gk := gk) (R := []) hl (by omega) (by omega) hF hs hbw (by show 0 + l.length < 110; omega) (fun bs bk h => ih (0 + 1) bs bk (by omega) ?_) l.length 0 bs bk (by omega) ?_⟩
      · rw [cd_KK_s]
        exact h
      · exact hY
    · have e7 : (cd_KK sh tp bw l t ++ [0]).length = (cd_KK sh tp bw l t).length + 1 := by rw [List.length_append]; rfl
      refine yy_an (x := 0) (r := cd_KK sh tp bw l t) hs (by omega) hY.2.1 ⟨l.length + 1, yy_40 (gs := gs) (gk := gk) (R := cd_KK sh tp bw l t ++ [0]) hl (by omega) (by omega) hF hs hbw (by omega) (fun bs bk h => ih (t + 1) bs bk (by omega) ?_) l.length 0 _ _ (by omega) ?_⟩
      · rw [cd_KK_s, if_neg (by omega)]
        exact h
      · show cd_YK side gs gk ((cd_KK sh tp bw l t ++ [0]) ++ []) _ _
        rw [List.append_nil]
        exact cd_YK_put hY (by omega)
theorem yy_mk {post : SY → Prop} {x y : Int32} {side s p q n : Nat} (hx : x = nI p) (hy : y = nI q) (hT : cd_TB m G W A B) (hC : cd_YC m W A B vw vc vo vt) (hm : m ≤ 6) (hG : cd_OK G) (hsh : sh ≤ 1) (htp : tp ≤ 30) (hbw : bw ≤ 1) (hside : side < 2) (hs : s < 10) (hpq : p ≤ q) (hq : q ≤ 12) (hc : cd_CL c vl (12 * s + p) (12 * s + q)) (hn : n ≤ 4)
    (K : ∀ fm a1 a2 a3 a4 bs bk, cd_KT (110 * side) side bk bs (cd_KE sh tp bw G c (12 * s + p) (12 * s + q) n) → (∀ j J, ¬ j = side → cd_KT (110 * j) j gk gs J → cd_KT (110 * j) j bk bs J) → post (nI m, nI bw, nI sh, nI tp, fm, vn, vl, vw, vc, vo, vt, a1, a2, a3, a4, bs, bk)) :
    wpY_makeKey post (nI m, nI bw, nI sh, nI tp, fm, vn, vl, vw, vc, vo, vt, g1, g2, g3, g4, gs, gk) (nI side) (nI s) x y (nI n) := by
  subst hx hy
  have hl : (cd_EL G c (12 * s + p) (12 * s + q)).length ≤ 24 := cd_EL_12 (by omega)
  unfold wpY_makeKey
  refine yy_fe hT hC hm hG hsh htp hs hpq hq hc (fun a1 a2 a3 a4 hF => ?_)
  refine ⟨vp_in_nI hside (by omega), nm_r (e' := upd gs side 0) (by rw [nI_clamp (by omega)]) ⟨n + 1, ?_⟩⟩
  refine yy_18 (gs := gs) (gk := gk) hl hn hF hside hbw (fun bs bk hY => ?_) n 0 _ _ (by omega) ⟨cd_HD_nil, pk_us, cd_FR_r, fun j hj => pk_un hj⟩
  refine K _ a1 a2 a3 a4 bs bk ⟨hY.1, hY.2.1, cd_KK_99 hl n hn, cd_KK_b sh tp bw _ n⟩ (fun j J hj hJ => cd_KT_fr hJ hY.2.2.1 (by omega) (hY.2.2.2 j hj))
theorem yy_or_l {post : Int32 → Prop} {R J : List Nat} (h1 : cd_KT (110 * 0) 0 gk gs R) (h2 : cd_KT (110 * 1) 1 gk gs J) :
    ∀ d x, x + d = R.length → x ≤ J.length → post (cd_cm (R.drop x) (J.drop x)) → wY_order_2 post (nI m) (nI bw) (nI sh) (nI tp) fm vn vl vw vc vo vt g1 g2 g3 g4 gs gk (d + 1) (nI x) := by
  obtain ⟨h1a, h1b, h1c, h1d⟩ := h1
  obtain ⟨h2a, h2b, h2c, h2d⟩ := h2
  intro d
  induction d with
  | zero =>
    intro x hx hxj k
    refine br_t (by rw [h1b]; exact nI_le (by omega) (by omega)) (pk_le J.length R.length (fun z => pk_le R.length J.length (fun y => ?_) (fun y => absurd y (by omega)) h1b h2b) (fun z => ?_) h2b h1b)
    · rw [cd_cm_e0 (by omega) (by omega)] at k; exact k
    · rw [cd_cm_el (by omega) (by omega)] at k; exact k
  | succ d ih =>
    intro x hx hxj k
    refine br_f (by rw [h1b]; exact nI_ge (by omega) (by omega)) (pk_le J.length x (fun z => pk_le J.length R.length (fun y => pk_le R.length J.length (fun t => absurd t (by omega)) (fun t => ?_) h1b h2b) (fun y => absurd y (by omega)) h2b h1b) (fun z => ?_) h2b)
    · rw [cd_cm_eg (by omega) (by omega)] at k; exact k
    · have b1 := cd_getD_b h1d x
      have b2 := cd_getD_b h2d x
      have v1 : vp_in (nI x) 220 := vp_in_nI (by omega) (by omega)
      have e0 : 110 + nI x = nI (110 + x) := nI_add 110 x
      have v2 : vp_in (110 + nI x) 220 := pk_in (110 + x) 220 (by omega) e0
      have k1 : gk (nI x).toNatClampNeg = nI (R.getD x 0) := by rw [nI_clamp (by omega)]; have := h1a x (by omega); rw [Nat.mul_zero, Nat.zero_add] at this; exact this
      have k2 : gk (110 + nI x).toNatClampNeg = nI (J.getD x 0) := by rw [pk_cl (110 + x) e0]; exact h2a x (by omega)
      refine ⟨v1, v2, pk_eq (R.getD x 0) (J.getD x 0) (fun y => nm_r (nI_1 x) (ih (x + 1) (by omega) (by omega) ?_)) (fun y => ⟨v1, v2, pk_le (J.getD x 0) (R.getD x 0) (fun t => ?_) (fun t => ?_) k2 k1⟩) k1 k2⟩
      · rw [cd_cm_s (by omega) (by omega) y] at k; exact k
      · rw [cd_cm_g (by omega) (by omega) (by omega)] at k; exact k
      · rw [cd_cm_l (by omega) (by omega) (by omega)] at k; exact k
theorem yy_or {post : Int32 → Prop} {R J : List Nat} (h1 : cd_KT (110 * 0) 0 gk gs R) (h2 : cd_KT (110 * 1) 1 gk gs J) (k : post (cd_cm R J)) : wpY_order post (nI m, nI bw, nI sh, nI tp, fm, vn, vl, vw, vc, vo, vt, g1, g2, g3, g4, gs, gk) :=
  ⟨R.length + 1, yy_or_l h1 h2 R.length 0 (by omega) (Nat.zero_le _) k⟩
end
end
section
/-! the reference: the questions -/
section
variable {m bw sh tp : Nat} {fm : Int32} {vn vl vw vc vo vt g1 g2 g3 g4 gs gk : Nat → Int32} {G : Nat → Option (Nat × Option Nat)} {W A : Nat → Nat} {B : Nat → Option Nat} {L c : Nat → Nat}
theorem yy_ms {post : SY → Prop} {x : Int32} {side s n : Nat} (hx : x = nI (L s)) (hD : cd_D m bw sh tp L c G) (hS : cd_ST L c vn vl) (hT : cd_TB m G W A B) (hC : cd_YC m W A B vw vc vo vt) (hside : side < 2) (hs : s < 10) (hn : n ≤ 4)
    (K : ∀ fm a1 a2 a3 a4 bs bk, cd_KT (110 * side) side bk bs (cd_K sh tp bw L c G n s) → (∀ j J, ¬ j = side → cd_KT (110 * j) j gk gs J → cd_KT (110 * j) j bk bs J) → post (nI m, nI bw, nI sh, nI tp, fm, vn, vl, vw, vc, vo, vt, a1, a2, a3, a4, bs, bk)) :
    wpY_makeKey post (nI m, nI bw, nI sh, nI tp, fm, vn, vl, vw, vc, vo, vt, g1, g2, g3, g4, gs, gk) (nI side) (nI s) 0 x (nI n) :=
  yy_mk (p := 0) rfl hx hT hC hD.1 hD.2.2.2.2.1 hD.2.2.1 hD.2.2.2.1 hD.2.1 hside hs (Nat.zero_le _) (hD.2.2.2.2.2.1 s hs) (cd_CL_0 hD hS hs (Nat.le_refl _)) hn K
theorem yy_cp {post : Int32 → SY → Prop} {i j n : Nat} (hD : cd_D m bw sh tp L c G) (hS : cd_ST L c vn vl) (hT : cd_TB m G W A B) (hC : cd_YC m W A B vw vc vo vt) (hi : i < 10) (hj : j < 10) (hn : n ≤ 4)
    (K : ∀ fm a1 a2 a3 a4 bs bk, post (cd_cm (cd_K sh tp bw L c G n i) (cd_K sh tp bw L c G n j)) (nI m, nI bw, nI sh, nI tp, fm, vn, vl, vw, vc, vo, vt, a1, a2, a3, a4, bs, bk)) : wpY_compared post (nI m, nI bw, nI sh, nI tp, fm, vn, vl, vw, vc, vo, vt, g1, g2, g3, g4, gs, gk) (nI i) (nI j) (nI n) := by
  refine ⟨vp_in_nI hi (by omega), yy_ms (side := 0) (by rw [nI_clamp (by omega)]; exact hS.1 i hi) hD hS hT hC (by omega) hi hn (fun fm a1 a2 a3 a4 bs bk hK hfr => ?_)⟩
  refine ⟨vp_in_nI hj (by omega), yy_ms (side := 1) (by rw [nI_clamp (by omega)]; exact hS.1 j hj) hD hS hT hC (by omega) hj hn (fun fm b1 b2 b3 b4 ds dk hK' hfr' => ?_)⟩
  exact yy_or (hfr' 0 _ (by omega) hK) hK' (K fm b1 b2 b3 b4 ds dk)
theorem yy_rk {post : Int32 → SY → Prop} {s n : Nat} (hD : cd_D m bw sh tp L c G) (hS : cd_ST L c vn vl) (hT : cd_TB m G W A B) (hC : cd_YC m W A B vw vc vo vt) (hs : s < 10) (hn : n ≤ 4)
    (K : ∀ fm a1 a2 a3 a4 bs bk, post (nI (cd_rk sh tp bw L c G n s)) (nI m, nI bw, nI sh, nI tp, fm, vn, vl, vw, vc, vo, vt, a1, a2, a3, a4, bs, bk)) :
    ∀ d i fm a1 a2 a3 a4 bs bk, i + d = 10 → wY_rank_27 post (nI s) (nI n) (d + 1) (nI (cd_ct (fun i => cd_lt sh tp bw L c G n i s) i)) (nI i) (nI m) (nI bw) (nI sh) (nI tp) fm vn vl vw vc vo vt a1 a2 a3 a4 bs bk := by
  intro d
  induction d with
  | zero =>
    intro i fm a1 a2 a3 a4 bs bk hi
    obtain rfl : i = 10 := by omega
    exact br_t (by decide) (K fm a1 a2 a3 a4 bs bk)
  | succ d ih =>
    intro i fm a1 a2 a3 a4 bs bk hi
    refine br_f (nI_ge (b := 10) (by omega) (by decide)) (yy_cp hD hS hT hC (by omega) hs hn (fun fm b1 b2 b3 b4 ds dk => ?_))
    have go := ih (i + 1) fm b1 b2 b3 b4 ds dk (by omega)
    refine br_c (fun z => nm_r (nI_1 i) ?_) (fun z => nm_r (nI_1 _) (nm_r (nI_1 i) ?_))
    · rw [cd_ct_f (P := fun i => cd_lt sh tp bw L c G n i s) (decide_eq_false (Int32.not_lt.mpr z))] at go; exact go
    · rw [cd_ct_t (P := fun i => cd_lt sh tp bw L c G n i s) (decide_eq_true (Int32.not_le.mp z))] at go; exact go
theorem yy_pl_l {post : Int32 → SY → Prop} {s n : Nat} (hD : cd_D m bw sh tp L c G) (hS : cd_ST L c vn vl) (hT : cd_TB m G W A B) (hC : cd_YC m W A B vw vc vo vt) (hs : s < 10) (hn : n ≤ 4)
    (K : ∀ fm a1 a2 a3 a4 bs bk, post (nI (cd_po sh tp bw L c G n s)) (nI m, nI bw, nI sh, nI tp, fm, vn, vl, vw, vc, vo, vt, a1, a2, a3, a4, bs, bk)) :
    ∀ d i fm a1 a2 a3 a4 bs bk, i + d = 10 → wY_placeOf_5 post (nI s) (nI n) (d + 1) (nI (cd_ct (fun i => cd_lt sh tp bw L c G n i s || (cd_eq sh tp bw L c G n i s && decide (i < s))) i)) (nI i) (nI m) (nI bw) (nI sh) (nI tp) fm vn vl vw vc vo vt a1 a2 a3 a4 bs bk := by
  intro d
  induction d with
  | zero =>
    intro i fm a1 a2 a3 a4 bs bk hi
    obtain rfl : i = 10 := by omega
    exact br_t (by decide) (K fm a1 a2 a3 a4 bs bk)
  | succ d ih =>
    intro i fm a1 a2 a3 a4 bs bk hi
    refine br_f (nI_ge (b := 10) (by omega) (by decide)) (yy_cp hD hS hT hC (by omega) hs hn (fun fm b1 b2 b3 b4 ds dk => ?_))
    have go := ih (i + 1) fm b1 b2 b3 b4 ds dk (by omega)
    have P : ∀ i, (fun i => cd_lt sh tp bw L c G n i s || (cd_eq sh tp bw L c G n i s && decide (i < s))) i = (decide (cd_cm (cd_K sh tp bw L c G n i) (cd_K sh tp bw L c G n s) < 0) || (decide (cd_cm (cd_K sh tp bw L c G n i) (cd_K sh tp bw L c G n s) = 0) && decide (i < s))) := fun i => rfl
    generalize (fun i => cd_lt sh tp bw L c G n i s || (cd_eq sh tp bw L c G n i s && decide (i < s))) = Q at go P ⊢
    refine br_c (fun z => nm_r (nI_1 _) (nm_r (nI_1 i) ?_)) (fun z => br_c (fun y => pk_le s i (fun t => nm_r (nI_1 i) ?_) (fun t => nm_r (nI_1 _) (nm_r (nI_1 i) ?_))) (fun y => nm_r (nI_1 i) ?_))
    · rw [cd_ct_t (by rw [P, decide_eq_true z]; rfl)] at go; exact go
    · rw [cd_ct_f (by rw [P, decide_eq_false z, decide_eq_false (show ¬ i < s by omega), Bool.and_false]; rfl)] at go; exact go
    · rw [cd_ct_t (by rw [P, decide_eq_true y, decide_eq_true (show i < s by omega), Bool.and_true, Bool.or_true])] at go; exact go
    · rw [cd_ct_f (by rw [P, decide_eq_false z, decide_eq_false y]; rfl)] at go; exact go
theorem yy_nt {post : Int32 → SY → Prop} {k n : Nat} (hD : cd_D m bw sh tp L c G) (hS : cd_ST L c vn vl) (hT : cd_TB m G W A B) (hC : cd_YC m W A B vw vc vo vt) (hk : k < 10) (hn : n ≤ 4)
    (K : ∀ fm a1 a2 a3 a4 bs bk, post (nI (cd_nt sh tp bw L c G n k)) (nI m, nI bw, nI sh, nI tp, fm, vn, vl, vw, vc, vo, vt, a1, a2, a3, a4, bs, bk)) :
    ∀ d i fm a1 a2 a3 a4 bs bk, i + d = 10 → wY_nth_29 post (nI k) (nI n) (d + 1) (nI (cd_la (fun s => decide (cd_po sh tp bw L c G n s = k)) i)) (nI i) (nI m) (nI bw) (nI sh) (nI tp) fm vn vl vw vc vo vt a1 a2 a3 a4 bs bk := by
  intro d
  induction d with
  | zero =>
    intro i fm a1 a2 a3 a4 bs bk hi
    obtain rfl : i = 10 := by omega
    exact br_t (by decide) (K fm a1 a2 a3 a4 bs bk)
  | succ d ih =>
    intro i fm a1 a2 a3 a4 bs bk hi
    have b1 : cd_po sh tp bw L c G n i ≤ 10 := cd_ct_le _ 10
    refine br_f (nI_ge (b := 10) (by omega) (by decide)) ⟨11, yy_pl_l (s := i) hD hS hT hC (by omega) hn (fun fm b1 b2 b3 b4 ds dk => ?_) 10 0 fm a1 a2 a3 a4 bs bk (by omega)⟩
    have go := ih (i + 1) fm b1 b2 b3 b4 ds dk (by omega)
    refine pk_eq (cd_po sh tp bw L c G n i) k (fun z => nm_r (nI_1 i) ?_) (fun z => nm_r (nI_1 i) ?_)
    · rw [cd_la_t (P := fun s => decide (cd_po sh tp bw L c G n s = k)) (decide_eq_true z)] at go; exact go
    · rw [cd_la_f (P := fun s => decide (cd_po sh tp bw L c G n s = k)) (decide_eq_false z)] at go; exact go
theorem yy_k27 {post : Int32 → SY → Prop} {J : Int32 → Int32 → cd_17A} {x2 : Int32} {i n : Nat} (hD : cd_D m bw sh tp L c G) (hS : cd_ST L c vn vl) (hT : cd_TB m G W A B) (hC : cd_YC m W A B vw vc vo vt) (hi : i < 10) (hn : n ≤ 4)
    (K1 : cd_fs sh tp bw L c G n i = true → ∀ fm a1 a2 a3 a4 bs bk, J (x2 + 1) (nI (i + 1)) (nI m) (nI bw) (nI sh) (nI tp) fm vn vl vw vc vo vt a1 a2 a3 a4 bs bk)
    (K0 : cd_fs sh tp bw L c G n i = false → ∀ fm a1 a2 a3 a4 bs bk, J x2 (nI (i + 1)) (nI m) (nI bw) (nI sh) (nI tp) fm vn vl vw vc vo vt a1 a2 a3 a4 bs bk) :
    ∀ d j fm a1 a2 a3 a4 bs bk, j + d = i → wY_kinds_27 post J (nI n) x2 (nI i) (d + 1) (cd_bi (cd_al (fun j => !(cd_eq sh tp bw L c G n j i)) j)) (nI j) (nI m) (nI bw) (nI sh) (nI tp) fm vn vl vw vc vo vt a1 a2 a3 a4 bs bk := by
  intro d
  induction d with
  | zero =>
    intro j fm a1 a2 a3 a4 bs bk hj
    obtain rfl : j = i := by omega
    cases z : cd_fs sh tp bw L c G n j with
    | true =>
      have e : cd_bi (cd_al (fun j' => !(cd_eq sh tp bw L c G n j' j)) j) = 1 := cd_bi_t z
      rw [e]
      exact br_t (nI_le (Nat.le_refl _) (by omega)) (br_f cd_n10 (nm_e (nm_r (nI_1 j) (K1 z fm a1 a2 a3 a4 bs bk))))
    | false =>
      have e : cd_bi (cd_al (fun j' => !(cd_eq sh tp bw L c G n j' j)) j) = 0 := cd_bi_f z
      rw [e]
      exact br_t (nI_le (Nat.le_refl _) (by omega)) (br_t rfl (nm_r (nI_1 j) (K0 z fm a1 a2 a3 a4 bs bk)))
  | succ d ih =>
    intro j fm a1 a2 a3 a4 bs bk hj
    have P : ∀ j, (fun j => !(cd_eq sh tp bw L c G n j i)) j = !(cd_eq sh tp bw L c G n i j) := fun j => by
      show (!(cd_eq sh tp bw L c G n j i)) = _
      rw [cd_eq_c]
    generalize (fun j => !(cd_eq sh tp bw L c G n j i)) = Q at ih P ⊢
    cases z : cd_al Q j with
    | true =>
      refine br_f (nI_ge (by omega) (by omega)) (br_f cd_n10 (yy_cp hD hS hT hC hi (by omega) hn (fun fm b1 b2 b3 b4 ds dk => ?_)))
      have go := ih (j + 1) fm b1 b2 b3 b4 ds dk (by omega)
      refine br_c (fun y => nm_r (nI_1 j) ?_) (fun y => nm_r (nI_1 j) ?_)
      · rw [cd_al_f (by rw [P]; unfold cd_eq; rw [decide_eq_true y]; rfl)] at go; exact go
      · rw [cd_al_t (by rw [P]; unfold cd_eq; rw [decide_eq_false y]; rfl), z] at go; exact go
    | false =>
      have go := ih (j + 1) fm a1 a2 a3 a4 bs bk (by omega)
      have e : cd_al Q (j + 1) = false := by simp only [cd_al, z, Bool.false_and]
      rw [e] at go
      exact br_f (nI_ge (by omega) (by omega)) (br_t rfl (nm_r (nI_1 j) go))
theorem yy_kn {post : Int32 → SY → Prop} {n : Nat} (hD : cd_D m bw sh tp L c G) (hS : cd_ST L c vn vl) (hT : cd_TB m G W A B) (hC : cd_YC m W A B vw vc vo vt) (hn : n ≤ 4)
    (K : ∀ fm a1 a2 a3 a4 bs bk, post (nI (cd_kn sh tp bw L c G n)) (nI m, nI bw, nI sh, nI tp, fm, vn, vl, vw, vc, vo, vt, a1, a2, a3, a4, bs, bk)) :
    ∀ d i fm a1 a2 a3 a4 bs bk, i + d = 10 → wY_kinds_15 post (nI n) (d + 1) (nI (cd_ct (fun s => cd_fs sh tp bw L c G n s) i)) (nI i) (nI m) (nI bw) (nI sh) (nI tp) fm vn vl vw vc vo vt a1 a2 a3 a4 bs bk := by
  intro d
  induction d with
  | zero =>
    intro i fm a1 a2 a3 a4 bs bk hi
    obtain rfl : i = 10 := by omega
    exact br_t (by decide) (K fm a1 a2 a3 a4 bs bk)
  | succ d ih =>
    intro i fm a1 a2 a3 a4 bs bk hi
    refine br_f (nI_ge (b := 10) (by omega) (by decide)) ⟨i + 1, yy_k27 hD hS hT hC (by omega) hn (fun z fm b1 b2 b3 b4 ds dk => ?_) (fun z fm b1 b2 b3 b4 ds dk => ?_) i 0 fm a1 a2 a3 a4 bs bk (by omega)⟩
    · have go := ih (i + 1) fm b1 b2 b3 b4 ds dk (by omega)
      rw [cd_ct_t (P := fun s => cd_fs sh tp bw L c G n s) z] at go
      rw [nI_1]
      exact go
    · have go := ih (i + 1) fm b1 b2 b3 b4 ds dk (by omega)
      rw [cd_ct_f (P := fun s => cd_fs sh tp bw L c G n s) z] at go
      exact go
theorem yy_62 {post : Int32 → SY → Prop} {J : Int32 → cd_17A} {x : Int32} {i j p n : Nat} (hD : cd_D m bw sh tp L c G) (hS : cd_ST L c vn vl) (hT : cd_TB m G W A B) (hC : cd_YC m W A B vw vc vo vt) (hi : i < 10) (hj : j < 10) (hn : n ≤ 4) (hx : ¬ nI p < x)
    (K0 : cd_mr sh tp bw L c G n i j p = false → ∀ fm a1 a2 a3 a4 bs bk, cd_KT (110 * 1) 1 bk bs (cd_K sh tp bw L c G n j) → J (nI (p + 1)) (nI m) (nI bw) (nI sh) (nI tp) fm vn vl vw vc vo vt a1 a2 a3 a4 bs bk)
    (K1 : cd_mr sh tp bw L c G n i j p = true → ∀ fm a1 a2 a3 a4 bs bk, post (nI p) (nI m, nI bw, nI sh, nI tp, fm, vn, vl, vw, vc, vo, vt, a1, a2, a3, a4, bs, bk)) :
    ∀ d y fm a1 a2 a3 a4 bs bk, p + y + d = L i + 1 → cd_KT (110 * 1) 1 bk bs (cd_K sh tp bw L c G n j) → (∀ t, t < y → ¬ cd_KE sh tp bw G c (12 * i + p) (12 * i + p + t) n = cd_K sh tp bw L c G n j) →
      wY_find_62 post J (nI i) (nI n) x (nI p) (d + 1) (nI (p + y)) (nI m) (nI bw) (nI sh) (nI tp) fm vn vl vw vc vo vt a1 a2 a3 a4 bs bk := by
  have hL := hD.2.2.2.2.2.1 i hi
  have eL : vn (nI i).toNatClampNeg = nI (L i) := by rw [nI_clamp (by omega)]; exact hS.1 i hi
  intro d
  induction d with
  | zero =>
    intro y fm a1 a2 a3 a4 bs bk hy hK h
    exact ⟨vp_in_nI hi (by omega), br_t (by rw [eL]; exact nI_lt (by omega) (by omega)) (nm_r (nI_1 p) (K0 (cd_mr_no (fun t ht => h t (by omega))) fm a1 a2 a3 a4 bs bk hK))⟩
  | succ d ih =>
    intro y fm a1 a2 a3 a4 bs bk hy hK h
    refine ⟨vp_in_nI hi (by omega), br_f (by rw [eL]; exact nI_nlt (by omega) (by omega)) (br_f hx ?_)⟩
    refine yy_mk (side := 0) (p := p) (q := p + y) rfl rfl hT hC hD.1 hD.2.2.2.2.1 hD.2.2.1 hD.2.2.2.1 hD.2.1 (by omega) hi (by omega) (by omega) (cd_CL_s hD hS hi (by omega)) hn (fun fm b1 b2 b3 b4 ds dk hR hfr => ?_)
    have hK' := hfr 1 _ (by omega) hK
    rw [← Nat.add_assoc] at hR
    refine yy_or hR hK' (br_c (fun z => ?_) (fun z => nm_r (nI_1 _) (ih (y + 1) fm b1 b2 b3 b4 ds dk (by omega) hK' (fun t ht => ?_))))
    · exact K1 (cd_mr_yes (d := y) (by omega) ((cd_cm_0 _ _).mp z)) fm b1 b2 b3 b4 ds dk
    · by_cases q : t = y
      · subst q; exact fun e => z ((cd_cm_0 _ _).mpr e)
      · exact h t (by omega)
theorem yy_fn {post : Int32 → SY → Prop} {x : Int32} {i j n : Nat} (hD : cd_D m bw sh tp L c G) (hS : cd_ST L c vn vl) (hT : cd_TB m G W A B) (hC : cd_YC m W A B vw vc vo vt) (hi : i < 10) (hj : j < 10) (hn : n ≤ 4) :
    ∀ d p fm a1 a2 a3 a4 bs bk, p + d = L i + 1 → cd_KT (110 * 1) 1 bk bs (cd_K sh tp bw L c G n j) → (∀ fm a1 a2 a3 a4 bs bk, post (cd_fd (cd_fp sh tp bw L c G n i j x) d p) (nI m, nI bw, nI sh, nI tp, fm, vn, vl, vw, vc, vo, vt, a1, a2, a3, a4, bs, bk)) →
      wY_find_47 post (nI i) (nI n) x (d + 1) (nI p) (nI m) (nI bw) (nI sh) (nI tp) fm vn vl vw vc vo vt a1 a2 a3 a4 bs bk := by
  have hL := hD.2.2.2.2.2.1 i hi
  have eL : vn (nI i).toNatClampNeg = nI (L i) := by rw [nI_clamp (by omega)]; exact hS.1 i hi
  intro d
  induction d with
  | zero =>
    intro p fm a1 a2 a3 a4 bs bk hp hK H
    exact ⟨vp_in_nI hi (by omega), br_t (by rw [eL]; exact nI_lt (by omega) (by omega)) (H fm a1 a2 a3 a4 bs bk)⟩
  | succ d ih =>
    intro p fm a1 a2 a3 a4 bs bk hp hK H
    refine ⟨vp_in_nI hi (by omega), br_f (by rw [eL]; exact nI_nlt (by omega) (by omega)) ?_⟩
    by_cases z : nI p < x
    · refine ⟨1, vp_in_nI hi (by omega), br_f (by rw [eL]; exact nI_nlt (by omega) (by omega)) (br_t z (nm_r (nI_1 p) (ih (p + 1) fm a1 a2 a3 a4 bs bk (by omega) hK (fun fm b1 b2 b3 b4 ds dk => ?_))))⟩
      have h := H fm b1 b2 b3 b4 ds dk
      rw [cd_fd_n (cd_fp_f (Int32.not_le.mpr z))] at h
      exact h
    · have e := cd_fp_t (sh := sh) (tp := tp) (bw := bw) (L := L) (c := c) (G := G) (n := n) (i := i) (j := j) (Int32.not_lt.mp z)
      refine ⟨L i + 1 - p + 1, yy_62 hD hS hT hC hi hj hn z (fun w fm b1 b2 b3 b4 ds dk hK' => ih (p + 1) fm b1 b2 b3 b4 ds dk (by omega) hK' (fun fm c1 c2 c3 c4 es ek => ?_)) (fun w fm b1 b2 b3 b4 ds dk => ?_) (L i + 1 - p) 0 fm a1 a2 a3 a4 bs bk (by omega) hK (fun t ht => absurd ht (Nat.not_lt_zero t))⟩
      · have h := H fm c1 c2 c3 c4 es ek
        rw [cd_fd_n (by rw [e]; exact w)] at h
        exact h
      · have h := H fm b1 b2 b3 b4 ds dk
        rw [cd_fd_t (by rw [e]; exact w)] at h
        exact h
end
end
section
/-! the component's public methods, case by case -/
theorem cd_ns {s : Nat} (h : s < 10) : (nI s).toNatClampNeg = s := nI_clamp (by omega)
theorem cd_ST_l {L c : Nat → Nat} {an al : Nat → Int32} (h : cd_ST L c an al) {s : Nat} (hs : s < 10) : an (nI s).toNatClampNeg = nI (L s) := by
  rw [cd_ns hs]
  exact h.1 s hs
theorem xx_wlk {post : Int32 → Prop} {w : Nat} (hw : w < 2 ^ 31) (k : post (nI (cd_wk w))) : wpX_wordLength post (nI w) := by
  by_cases z : w < 1331
  · rw [cd_wk_t z] at k
    exact xx_wl_t z k
  · rw [cd_wk_f z] at k
    exact xx_wl_f (Or.inr (nI_le (by omega) hw)) k
theorem cd_wc (x : Int32) : x < 0 ∨ ∃ w : Nat, w < 2 ^ 31 ∧ x = nI w := by
  by_cases h : x < 0
  · exact Or.inl h
  · exact Or.inr (nI_of h)
theorem xx_elb {post : Int32 → Prop} {x : Int32} (h : x < 0 ∨ ∃ e : Nat, e < 2 ^ 31 ∧ x = nI e ∧ ¬ cd_V e) (k : post 0) : wpX_isElement post x := by
  rcases h with h | ⟨e, he, rfl, hv⟩
  · exact xx_el_f h k
  · exact xx_el he (fun v => absurd v hv) (fun _ => k)
theorem xx_elg {post : Int32 → Prop} {e : Nat} (h : cd_V e) (k : post 1) : wpX_isElement post (nI e) := xx_el (by have := h.1; omega) (fun _ => k) (fun v => absurd h v)
theorem cd_ec (x : Int32) : (x < 0 ∨ ∃ e : Nat, e < 2 ^ 31 ∧ x = nI e ∧ ¬ cd_V e) ∨ ∃ e : Nat, cd_V e ∧ x = nI e := by
  rcases cd_wc x with h | ⟨e, he, rfl⟩
  · exact Or.inl (Or.inl h)
  · rcases Classical.em (cd_V e) with v | v
    · exact Or.inr ⟨e, v, rfl⟩
    · exact Or.inl (Or.inr ⟨e, he, rfl, v⟩)
section
variable {m bw sh tp : Nat} {al an aw ae e1 e2 e3 e4 ek el : Nat → Int32} {G : Nat → Option (Nat × Option Nat)} {W A : Nat → Nat} {B : Nat → Option Nat} {L c : Nat → Nat} {post : Int32 → SX → Prop}
theorem xq_put1 {x y : Int32} (h : x < 0 ∨ nI 10 ≤ x) (k : post (-2) (nI m, nI bw, nI sh, nI tp, al, an, aw, ae, e1, e2, e3, e4, ek, el)) : wpX_put post (nI m, nI bw, nI sh, nI tp, al, an, aw, ae, e1, e2, e3, e4, ek, el) x y := by
  unfold wpX_put
  exact xx_slot_f h (br_t rfl k)
theorem xq_put2 {s : Nat} {y : Int32} (hs : s < 10) (h : y < 0 ∨ nI 10 ≤ y) (k : post (-4) (nI m, nI bw, nI sh, nI tp, al, an, aw, ae, e1, e2, e3, e4, ek, el)) : wpX_put post (nI m, nI bw, nI sh, nI tp, al, an, aw, ae, e1, e2, e3, e4, ek, el) (nI s) y := by
  unfold wpX_put
  refine xx_slot_t hs (br_f cd_n10 ?_)
  exact xx_let_f h (br_t rfl k)
theorem xq_put3 {s x : Nat} (hS : cd_ST L c an al) (hs : s < 10) (hx : x < 10) (hl : L s ≤ 12) (h : ¬ L s < 12) (k : post (-5) (nI m, nI bw, nI sh, nI tp, al, an, aw, ae, e1, e2, e3, e4, ek, el)) : wpX_put post (nI m, nI bw, nI sh, nI tp, al, an, aw, ae, e1, e2, e3, e4, ek, el) (nI s) (nI x) := by
  unfold wpX_put
  refine xx_slot_t hs (br_f cd_n10 ?_)
  refine xx_let_t hx (br_f cd_n10 ?_)
  exact ⟨vp_in_nI hs (by omega), pk_lt (L s) 12 (fun z => absurd z h) (fun _ => k) (cd_ST_l hS hs)⟩
theorem xq_put4 {s x : Nat} (hS : cd_ST L c an al) (hs : s < 10) (hx : x < 10) (h : L s < 12) (k : post (nI (L s + 1)) (nI m, nI bw, nI sh, nI tp, (upd al (12 * s + L s) (nI x)), (upd an s (nI (L s + 1))), aw, ae, e1, e2, e3, e4, ek, el)) : wpX_put post (nI m, nI bw, nI sh, nI tp, al, an, aw, ae, e1, e2, e3, e4, ek, el) (nI s) (nI x) := by
  unfold wpX_put
  refine xx_slot_t hs (br_f cd_n10 ?_)
  refine xx_let_t hx (br_f cd_n10 ?_)
  have vi : vp_in (nI s) 10 := vp_in_nI hs (by omega)
  have eL := cd_ST_l hS hs
  have ei : nI s * 12 + an (nI s).toNatClampNeg = nI (12 * s + L s) := by rw [eL]; exact cd_i12 s (L s)
  refine ⟨vi, br_t (by rw [eL]; exact nI_lt (b := 12) h (by decide)) ⟨vi, pk_in (12 * s + L s) 120 (by omega) ei, nm_r (e' := upd al (12 * s + L s) (nI x)) (by rw [pk_cl (12 * s + L s) ei]) ⟨vi, vi, nm_r (e' := upd an s (nI (L s + 1))) (by rw [eL, cd_ns hs, nI_1]) ⟨vi, ?_⟩⟩⟩⟩
  rw [cd_ns hs, pk_us]
  exact k
theorem xq_take1 {x : Int32} (h : x < 0 ∨ nI 10 ≤ x) (k : post (-2) (nI m, nI bw, nI sh, nI tp, al, an, aw, ae, e1, e2, e3, e4, ek, el)) : wpX_take post (nI m, nI bw, nI sh, nI tp, al, an, aw, ae, e1, e2, e3, e4, ek, el) x := by
  unfold wpX_take
  exact xx_slot_f h (br_t rfl k)
theorem xq_take2 {s : Nat} (hS : cd_ST L c an al) (hs : s < 10) (h : L s = 0) (k : post (-4) (nI m, nI bw, nI sh, nI tp, al, an, aw, ae, e1, e2, e3, e4, ek, el)) : wpX_take post (nI m, nI bw, nI sh, nI tp, al, an, aw, ae, e1, e2, e3, e4, ek, el) (nI s) := by
  unfold wpX_take
  refine xx_slot_t hs (br_f cd_n10 ?_)
  exact ⟨vp_in_nI hs (by omega), br_f (by rw [cd_ST_l hS hs, h]; decide) k⟩
theorem xq_take3 {s n : Nat} (hS : cd_ST L c an al) (hs : s < 10) (hl : L s ≤ 12) (h : L s = n + 1) (k : post (nI (c (12 * s + n))) (nI m, nI bw, nI sh, nI tp, al, (upd an s (nI n)), aw, ae, e1, e2, e3, e4, ek, el)) : wpX_take post (nI m, nI bw, nI sh, nI tp, al, an, aw, ae, e1, e2, e3, e4, ek, el) (nI s) := by
  unfold wpX_take
  refine xx_slot_t hs (br_f cd_n10 ?_)
  have vi : vp_in (nI s) 10 := vp_in_nI hs (by omega)
  have eL := cd_ST_l hS hs
  have ei : nI s * 12 + (upd an s (nI n)) (nI s).toNatClampNeg = nI (12 * s + n) := by rw [cd_ns hs, pk_us]; exact cd_i12 s n
  refine ⟨vi, br_t (by rw [eL, h]; exact nI_lt (a := 0) (by omega) (by omega)) ⟨vi, vi, nm_r (e' := upd an s (nI n)) (by rw [eL, cd_ns hs, h, nI_pred]) ⟨vi, pk_in (12 * s + n) 120 (by omega) ei, ?_⟩⟩⟩
  rw [pk_cl (12 * s + n) ei, hS.2 s n hs (by omega)]
  exact k
theorem xq_copy1 {x y : Int32} (h : x < 0 ∨ nI 10 ≤ x) (k : post (-2) (nI m, nI bw, nI sh, nI tp, al, an, aw, ae, e1, e2, e3, e4, ek, el)) : wpX_copy post (nI m, nI bw, nI sh, nI tp, al, an, aw, ae, e1, e2, e3, e4, ek, el) x y := by
  unfold wpX_copy
  exact xx_slot_f h (br_t rfl k)
theorem xq_copy2 {s : Nat} {y : Int32} (hs : s < 10) (h : y < 0 ∨ nI 10 ≤ y) (k : post (-2) (nI m, nI bw, nI sh, nI tp, al, an, aw, ae, e1, e2, e3, e4, ek, el)) : wpX_copy post (nI m, nI bw, nI sh, nI tp, al, an, aw, ae, e1, e2, e3, e4, ek, el) (nI s) y := by
  unfold wpX_copy
  refine xx_slot_t hs (br_f cd_n10 ?_)
  exact xx_slot_f h (br_t rfl k)
theorem xq_copy_l {s o : Nat} (hS : cd_ST L c an al) (hs : s < 10) (ho : o < 10) (k : post (nI (L o)) (nI m, nI bw, nI sh, nI tp, (cd_cp al s o 12), (upd an s (nI (L o))), aw, ae, e1, e2, e3, e4, ek, el)) :
    ∀ d i, i + d = 12 → wX_copy_19 post (nI s) (nI o) (nI m) (nI bw) (nI sh) (nI tp) (d + 1) (nI i) (cd_cp al s o i) an aw ae e1 e2 e3 e4 ek el := by
  intro d
  induction d with
  | zero =>
    intro i hi
    obtain rfl : i = 12 := by omega
    refine br_t (by decide) ⟨vp_in_nI ho (by omega), vp_in_nI hs (by omega), nm_r (e' := upd an s (nI (L o))) (by rw [cd_ST_l hS ho, cd_ns hs]) ⟨vp_in_nI hs (by omega), ?_⟩⟩
    rw [cd_ns hs, pk_us]
    exact k
  | succ d ih =>
    intro i hi
    refine br_f (nI_ge (b := 12) (by omega) (by decide)) ⟨pk_in (12 * o + i) 120 (by omega) (cd_i12 o i), pk_in (12 * s + i) 120 (by omega) (cd_i12 s i), nm_r (e' := cd_cp al s o (i + 1)) ?_ (nm_r (nI_1 i) (ih (i + 1) (by omega)))⟩
    rw [pk_cl (12 * s + i) (cd_i12 s i), pk_cl (12 * o + i) (cd_i12 o i)]
    exact cd_cp_s (by omega)
theorem xq_copy3 {s o : Nat} (hS : cd_ST L c an al) (hs : s < 10) (ho : o < 10) (k : post (nI (L o)) (nI m, nI bw, nI sh, nI tp, (cd_cp al s o 12), (upd an s (nI (L o))), aw, ae, e1, e2, e3, e4, ek, el)) : wpX_copy post (nI m, nI bw, nI sh, nI tp, al, an, aw, ae, e1, e2, e3, e4, ek, el) (nI s) (nI o) := by
  unfold wpX_copy
  refine xx_slot_t hs (br_f cd_n10 ?_)
  refine xx_slot_t ho (br_f cd_n10 ?_)
  have := xq_copy_l (m := m) (bw := bw) (sh := sh) (tp := tp) (aw := aw) (ae := ae) (e1 := e1) (e2 := e2) (e3 := e3) (e4 := e4) (ek := ek) (el := el) hS hs ho k 12 0 (by omega)
  rw [cd_cp_0] at this
  exact ⟨13, this⟩
/-! entry, forget -/
theorem xq_entry1 {x y z : Int32} (h : x < 0 ∨ ∃ w : Nat, w < 2 ^ 31 ∧ x = nI w ∧ cd_wk w = 0) (k : post (-1) (nI m, nI bw, nI sh, nI tp, al, an, aw, ae, e1, e2, e3, e4, ek, el)) : wpX_entry post (nI m, nI bw, nI sh, nI tp, al, an, aw, ae, e1, e2, e3, e4, ek, el) x y z := by
  unfold wpX_entry
  rcases h with h | ⟨w, hw, rfl, h0⟩
  · exact xx_wl_f (Or.inl h) (br_t rfl k)
  · exact xx_wlk hw (br_t (by rw [h0]; rfl) k)
theorem cd_wl_nz {w : Nat} (h : ¬ cd_wl w = 0) : ¬ nI (cd_wl w) = 0 := nI_ne0 (by omega) (by have := cd_wl_le w; omega)
theorem xq_entry2 {w : Nat} {y z : Int32} (hw : w < 1331) (hl : ¬ cd_wl w = 0) (h : y < 0 ∨ ∃ e : Nat, e < 2 ^ 31 ∧ y = nI e ∧ ¬ cd_V e) (k : post (-2) (nI m, nI bw, nI sh, nI tp, al, an, aw, ae, e1, e2, e3, e4, ek, el)) : wpX_entry post (nI m, nI bw, nI sh, nI tp, al, an, aw, ae, e1, e2, e3, e4, ek, el) (nI w) y z := by
  unfold wpX_entry
  refine xx_wl_t hw (br_f (cd_wl_nz hl) ?_)
  exact xx_elb h (br_t rfl k)
theorem xq_entry3 {w a : Nat} {z : Int32} (hw : w < 1331) (hl : ¬ cd_wl w = 0) (ha : cd_V a) (h : z < 0 ∨ ∃ e : Nat, e < 2 ^ 31 ∧ z = nI e ∧ ¬ cd_V e) (h1 : ¬ z = -1) (k : post (-2) (nI m, nI bw, nI sh, nI tp, al, an, aw, ae, e1, e2, e3, e4, ek, el)) : wpX_entry post (nI m, nI bw, nI sh, nI tp, al, an, aw, ae, e1, e2, e3, e4, ek, el) (nI w) (nI a) z := by
  unfold wpX_entry
  refine xx_wl_t hw (br_f (cd_wl_nz hl) ?_)
  refine xx_elg ha (br_f cd_n10 (br_f h1 ?_))
  exact xx_elb h (br_t rfl k)
theorem xq_entry_go {w a : Nat} {b : Option Nat} (hw : w < 1331) (hl : ¬ cd_wl w = 0) (ha : cd_V a) (hb : ∀ e, b = some e → cd_V e) (k : wX_entry_31 post (nI w) (nI a) (cd_en b) (nI m) (nI bw) (nI sh) (nI tp) al an aw ae e1 e2 e3 e4 ek el) : wpX_entry post (nI m, nI bw, nI sh, nI tp, al, an, aw, ae, e1, e2, e3, e4, ek, el) (nI w) (nI a) (cd_en b) := by
  unfold wpX_entry
  refine xx_wl_t hw (br_f (cd_wl_nz hl) ?_)
  refine xx_elg ha (br_f cd_n10 ?_)
  cases b with
  | none => exact br_t rfl k
  | some e =>
    refine br_f (cd_1 e (hb e rfl).1) ?_
    exact xx_elg (hb e rfl) (br_f cd_n10 k)
theorem xq_entry4 {w : Nat} {y z : Int32} (hT : cd_TB m G W A B) (hC : cd_XC m W A B aw ae) (hm : m = 6) (hw : w < 1331) (h : G w = none) (k : post (-3) (nI m, nI bw, nI sh, nI tp, al, an, aw, ae, e1, e2, e3, e4, ek, el)) : wX_entry_31 post (nI w) y z (nI m) (nI bw) (nI sh) (nI tp) al an aw ae e1 e2 e3 e4 ek el := by
  unfold wX_entry_31
  refine xx_eo hT hC (by omega) (by omega) (fun p hp e => absurd h (by rw [← e]; exact cd_TB_some hT hp)) (fun _ => br_t rfl (br_f ?_ k))
  rw [hm]
  decide
theorem xq_entry5 {w : Nat} {y z : Int32} (hT : cd_TB m G W A B) (hC : cd_XC m W A B aw ae) (hm : m < 6) (hw : w < 1331) (h : G w = none) (k : post (nI (m + 1)) ((nI (m + 1)), nI bw, nI sh, nI tp, al, an, (upd aw (10 + m) (nI w)), (upd (upd ae (2 * (10 + m)) y) (2 * (10 + m) + 1) z), e1, e2, e3, e4, ek, el)) : wX_entry_31 post (nI w) y z (nI m) (nI bw) (nI sh) (nI tp) al an aw ae e1 e2 e3 e4 ek el := by
  unfold wX_entry_31
  refine xx_eo hT hC (by omega) (by omega) (fun p hp e => absurd h (by rw [← e]; exact cd_TB_some hT hp)) (fun _ => br_t rfl (br_t (nI_lt (b := 6) hm (by decide)) (nm_r (cd_10 m) (nm_r (nI_1 m) ?_))))
  exact xx_set (by omega) k
theorem xq_entry6 {w : Nat} {y z : Int32} (hT : cd_TB m G W A B) (hC : cd_XC m W A B aw ae) (hm : m ≤ 6) (hw : w < 1331) (h : ¬ G w = none) (k : ∀ p, p < 10 + m → W p = w → post (nI m) (nI m, nI bw, nI sh, nI tp, al, an, (upd aw p (nI w)), (upd (upd ae (2 * p) y) (2 * p + 1) z), e1, e2, e3, e4, ek, el)) : wX_entry_31 post (nI w) y z (nI m) (nI bw) (nI sh) (nI tp) al an aw ae e1 e2 e3 e4 ek el := by
  unfold wX_entry_31
  refine xx_eo hT hC (by omega) (by omega) (fun p hp e => br_f (cd_1 p (by omega)) ?_) (fun e => absurd e h)
  exact xx_set (by omega) (k p hp e)
theorem xq_forget1 {x : Int32} (h : x < 0 ∨ ∃ w : Nat, w < 2 ^ 31 ∧ x = nI w ∧ cd_wk w < 2) (k : post (-1) (nI m, nI bw, nI sh, nI tp, al, an, aw, ae, e1, e2, e3, e4, ek, el)) : wpX_forget post (nI m, nI bw, nI sh, nI tp, al, an, aw, ae, e1, e2, e3, e4, ek, el) x := by
  unfold wpX_forget
  rcases h with h | ⟨w, hw, rfl, h0⟩
  · exact xx_wl_f (Or.inl h) (br_f (by decide) k)
  · exact xx_wlk hw (br_f (nI_ge (b := 2) h0 (by decide)) k)
theorem xq_forget2 {w : Nat} (hT : cd_TB m G W A B) (hC : cd_XC m W A B aw ae) (hm : m ≤ 6) (hw : w < 1331) (hl : 2 ≤ cd_wl w) (h : G w = none) (k : post (-2) (nI m, nI bw, nI sh, nI tp, al, an, aw, ae, e1, e2, e3, e4, ek, el)) : wpX_forget post (nI m, nI bw, nI sh, nI tp, al, an, aw, ae, e1, e2, e3, e4, ek, el) (nI w) := by
  unfold wpX_forget
  have := cd_wl_le w
  refine xx_wl_t hw (br_t (nI_le (a := 2) hl (by omega)) ?_)
  exact xx_eo hT hC (by omega) (by omega) (fun p hp e => absurd h (by rw [← e]; exact cd_TB_some hT hp)) (fun _ => br_t rfl k)
theorem xq_forget3 {w : Nat} (hT : cd_TB (m + 1) G W A B) (hC : cd_XC (m + 1) W A B aw ae) (hm : m < 6) (hw : w < 1331) (hl : 2 ≤ cd_wl w) (h : ¬ G w = none)
    (k : ∀ p, p < 10 + (m + 1) → W p = w → post (nI m) (nI m, nI bw, nI sh, nI tp, al, an, (upd (upd aw p (aw (10 + m))) (10 + m) (-1)), (upd (upd (upd (upd ae (2 * p) (ae (2 * (10 + m)))) (2 * p + 1) (ae (2 * (10 + m) + 1))) (2 * (10 + m)) (-1)) (2 * (10 + m) + 1) (-1)), e1, e2, e3, e4, ek, el)) :
    wpX_forget post ((nI (m + 1)), nI bw, nI sh, nI tp, al, an, aw, ae, e1, e2, e3, e4, ek, el) (nI w) := by
  unfold wpX_forget
  have := cd_wl_le w
  refine xx_wl_t hw (br_t (nI_le (a := 2) hl (by omega)) ?_)
  refine xx_eo hT hC (by omega) (by omega) (fun p hp e => br_f (cd_1 p (by omega)) (nm_r (nI_pred m) (nm_r (cd_10 m) ⟨vp_in_nI (by omega) (by omega), pk_in (2 * (10 + m)) 32 (by omega) (cd_2p (10 + m)), pk_in (2 * (10 + m) + 1) 32 (by omega) (cd_2q (10 + m)), ?_⟩))) (fun e => absurd e h)
  rw [nI_clamp (show 10 + m < 2 ^ 31 by omega), pk_cl (2 * (10 + m)) (cd_2p (10 + m)), pk_cl (2 * (10 + m) + 1) (cd_2q (10 + m))]
  refine xx_set (by omega) ?_
  exact xx_set (by omega) (k p hp e)
/-! tailor -/
theorem xq_tailor1 {x y z : Int32} (h : (x < 0 ∨ nI 10 ≤ x) ∨ ((y < 0 ∨ nI 10 ≤ y) ∧ ∃ s, s < 10 ∧ x = nI s) ∨ (∃ s, s < 10 ∧ x = nI s ∧ y = nI s)) (k : post (-1) (nI m, nI bw, nI sh, nI tp, al, an, aw, ae, e1, e2, e3, e4, ek, el)) : wpX_tailor post (nI m, nI bw, nI sh, nI tp, al, an, aw, ae, e1, e2, e3, e4, ek, el) x y z := by
  unfold wpX_tailor
  rcases h with h | ⟨h, s, hs, rfl⟩ | ⟨s, hs, rfl, rfl⟩
  · exact xx_let_f h (br_t rfl k)
  · refine xx_let_t hs (br_f cd_n10 ?_)
    exact xx_let_f h (br_t rfl k)
  · refine xx_let_t hs (br_f cd_n10 ?_)
    exact xx_let_t hs (br_f cd_n10 (br_t rfl k))
theorem xq_tailor2 {a b : Nat} {z : Int32} (ha : a < 10) (hb : b < 10) (hab : ¬ a = b) (h : z < 1 ∨ 3 < z) (k : post (-2) (nI m, nI bw, nI sh, nI tp, al, an, aw, ae, e1, e2, e3, e4, ek, el)) : wpX_tailor post (nI m, nI bw, nI sh, nI tp, al, an, aw, ae, e1, e2, e3, e4, ek, el) (nI a) (nI b) z := by
  unfold wpX_tailor
  refine xx_let_t ha (br_f cd_n10 ?_)
  refine xx_let_t hb (br_f cd_n10 (br_f (fun e => hab ((nI_eq (by omega) (by omega)).mp e)) ?_))
  exact br_c (fun _ => k) (fun q => br_f (Int32.not_le.mpr (h.resolve_left q)) k)
theorem xq_tailor3 {a b l : Nat} (hT : cd_TB m G W A B) (hC : cd_XC m W A B aw ae) (hm : m ≤ 6) (hG : cd_OK G) (ha : a < 10) (hb : b < 10) (hab : ¬ a = b) (h1 : 1 ≤ l) (h3 : l ≤ 3) (h : ¬ cd_fit G (A a) l) (k : post (-3) (nI m, nI bw, nI sh, nI tp, al, an, aw, ae, e1, e2, e3, e4, ek, el)) : wpX_tailor post (nI m, nI bw, nI sh, nI tp, al, an, aw, ae, e1, e2, e3, e4, ek, el) (nI a) (nI b) (nI l) := by
  unfold wpX_tailor
  have hV := (cd_TB_V hT hG (p := a) (by omega)).1
  refine xx_let_t ha (br_f cd_n10 ?_)
  refine xx_let_t hb (br_f cd_n10 (br_f (fun e => hab ((nI_eq (by omega) (by omega)).mp e)) (br_f (nI_nlt (b := 1) h1 (by omega)) (br_t (nI_le (b := 3) h3 (by decide)) ⟨pk_in (2 * a) 32 (by omega) (cd_2p a), nm_r (e' := nI (A a)) (by rw [pk_cl (2 * a) (cd_2p a)]; exact (hC.1 a (by omega)).2.1) ?_⟩))))
  exact xx_can hT hC hm hG hV.1 h1 h3 (fun f => absurd f h) (fun _ => br_t rfl k)
theorem xq_tailor4 {a b l : Nat} (hT : cd_TB m G W A B) (hC : cd_XC m W A B aw ae) (hm : m ≤ 6) (hG : cd_OK G) (ha : a < 10) (hb : b < 10) (hab : ¬ a = b) (h1 : 1 ≤ l) (h3 : l ≤ 3) (h : cd_fit G (A a) l)
    (k : ∀ aw' ae', cd_XT m (cd_tG G (A a) b l) aw' ae' → post (nI (cd_bl (A a) l)) (nI m, nI bw, nI sh, nI tp, al, an, aw', ae', e1, e2, e3, e4, ek, el)) : wpX_tailor post (nI m, nI bw, nI sh, nI tp, al, an, aw, ae, e1, e2, e3, e4, ek, el) (nI a) (nI b) (nI l) := by
  unfold wpX_tailor
  have hV := (cd_TB_V hT hG (p := a) (by omega)).1
  refine xx_let_t ha (br_f cd_n10 ?_)
  refine xx_let_t hb (br_f cd_n10 (br_f (fun e => hab ((nI_eq (by omega) (by omega)).mp e)) (br_f (nI_nlt (b := 1) h1 (by omega)) (br_t (nI_le (b := 3) h3 (by decide)) ⟨pk_in (2 * a) 32 (by omega) (cd_2p a), nm_r (e' := nI (A a)) (by rw [pk_cl (2 * a) (cd_2p a)]; exact (hC.1 a (by omega)).2.1) ?_⟩))))
  refine xx_can hT hC hm hG hV.1 h1 h3 (fun _ => br_f cd_n10 ?_) (fun f => absurd h f)
  refine xx_mk hT hC hm hG hV.1 h1 h3 (fun ae' he => ?_)
  refine xx_bl hV.1 h1 h3 ?_
  rw [nI_1]
  exact xx_set (by omega) (k _ _ (cd_XT_tG hT hC hm hb he))
end
end
section
/-! the component's questions, as they are called -/
section
variable {m bw sh tp : Nat} {al an aw ae e1 e2 e3 e4 ek el : Nat → Int32} {G : Nat → Option (Nat × Option Nat)} {W A : Nat → Nat} {B : Nat → Option Nat} {L c : Nat → Nat} {post : Int32 → SX → Prop}
theorem xq_el1 {x : Int32} (h : x < 0 ∨ nI 10 ≤ x) (k : post (-2) (nI m, nI bw, nI sh, nI tp, al, an, aw, ae, e1, e2, e3, e4, ek, el)) : wpX_elements post (nI m, nI bw, nI sh, nI tp, al, an, aw, ae, e1, e2, e3, e4, ek, el) x := by
  unfold wpX_elements
  exact xx_slot_f h (br_t rfl k)
theorem xq_el2 {s : Nat} (hD : cd_D m bw sh tp L c G) (hS : cd_ST L c an al) (hT : cd_TB m G W A B) (hC : cd_XC m W A B aw ae) (hs : s < 10)
    (K : ∀ a1 a2 a3, post (nI (cd_EL G c (12 * s) (12 * s + L s)).length) (nI m, nI bw, nI sh, nI tp, al, an, aw, ae, a1, a2, a3, e4, ek, el)) : wpX_elements post (nI m, nI bw, nI sh, nI tp, al, an, aw, ae, e1, e2, e3, e4, ek, el) (nI s) := by
  unfold wpX_elements
  have hL := hD.2.2.2.2.2.1 s hs
  refine xx_slot_t hs (br_f cd_n10 (nm_r (cd_i12s s) ⟨vp_in_nI hs (by omega), ?_⟩))
  rw [cd_ST_l hS hs, nI_add]
  exact xx_ga hT hC hD.1 hD.2.2.2.2.1 (by omega) (by omega) (by omega) (cd_CL_0 hD hS hs (Nat.le_refl _)) (fun a1 a2 a3 _ => K a1 a2 a3)
theorem xq_cmp1 {x y z : Int32} (h : (x < 0 ∨ nI 10 ≤ x) ∨ (∃ s, s < 10 ∧ x = nI s) ∧ (y < 0 ∨ nI 10 ≤ y)) (k : post (-2) (nI m, nI bw, nI sh, nI tp, al, an, aw, ae, e1, e2, e3, e4, ek, el)) : wpX_compare post (nI m, nI bw, nI sh, nI tp, al, an, aw, ae, e1, e2, e3, e4, ek, el) x y z := by
  unfold wpX_compare
  rcases h with h | ⟨⟨s, hs, rfl⟩, h⟩
  · exact xx_slot_f h (br_t rfl k)
  · refine xx_slot_t hs (br_f cd_n10 ?_)
    exact xx_slot_f h (br_t rfl k)
theorem xq_cmp2 {i j : Nat} {z : Int32} (hi : i < 10) (hj : j < 10) (h : z < 1 ∨ 4 < z) (k : post (-3) (nI m, nI bw, nI sh, nI tp, al, an, aw, ae, e1, e2, e3, e4, ek, el)) : wpX_compare post (nI m, nI bw, nI sh, nI tp, al, an, aw, ae, e1, e2, e3, e4, ek, el) (nI i) (nI j) z := by
  unfold wpX_compare
  refine xx_slot_t hi (br_f cd_n10 ?_)
  refine xx_slot_t hj (br_f cd_n10 ?_)
  exact xx_str_f h (br_t rfl k)
theorem xq_cmp3 {i j n : Nat} (hD : cd_D m bw sh tp L c G) (hS : cd_ST L c an al) (hT : cd_TB m G W A B) (hC : cd_XC m W A B aw ae) (hi : i < 10) (hj : j < 10) (hn1 : 1 ≤ n) (hn : n ≤ 4)
    (K : ∀ a1 a2 a3 a4 ak al', post (cd_cm (cd_K sh tp bw L c G n i) (cd_K sh tp bw L c G n j)) (nI m, nI bw, nI sh, nI tp, al, an, aw, ae, a1, a2, a3, a4, ak, al')) : wpX_compare post (nI m, nI bw, nI sh, nI tp, al, an, aw, ae, e1, e2, e3, e4, ek, el) (nI i) (nI j) (nI n) := by
  unfold wpX_compare
  refine xx_slot_t hi (br_f cd_n10 ?_)
  refine xx_slot_t hj (br_f cd_n10 ?_)
  refine xx_str_t hn1 hn (br_f cd_n10 ?_)
  refine xx_ws hD hS hT hC hi hn1 hn (fun a1 a2 a3 a4 ak al' h1 f1 => ?_)
  refine xx_ws hD hS hT hC hj hn1 hn (fun b1 b2 b3 b4 bk bl h2 f2 => ?_)
  refine xx_cmp (by omega) (by omega) ?_ h2 (K b1 b2 b3 b4 bk bl)
  by_cases z : i = j
  · subst z; exact h2
  · exact f2 i _ z h1
theorem xq_ks1 {x z : Int32} (h : x < 0 ∨ nI 10 ≤ x) (k : post (-2) (nI m, nI bw, nI sh, nI tp, al, an, aw, ae, e1, e2, e3, e4, ek, el)) : wpX_keySize post (nI m, nI bw, nI sh, nI tp, al, an, aw, ae, e1, e2, e3, e4, ek, el) x z := by
  unfold wpX_keySize
  exact xx_slot_f h (br_t rfl k)
theorem xq_ks2 {i : Nat} {z : Int32} (hi : i < 10) (h : z < 1 ∨ 4 < z) (k : post (-3) (nI m, nI bw, nI sh, nI tp, al, an, aw, ae, e1, e2, e3, e4, ek, el)) : wpX_keySize post (nI m, nI bw, nI sh, nI tp, al, an, aw, ae, e1, e2, e3, e4, ek, el) (nI i) z := by
  unfold wpX_keySize
  refine xx_slot_t hi (br_f cd_n10 ?_)
  exact xx_str_f h (br_t rfl k)
theorem xq_ks3 {i n : Nat} (hD : cd_D m bw sh tp L c G) (hS : cd_ST L c an al) (hT : cd_TB m G W A B) (hC : cd_XC m W A B aw ae) (hi : i < 10) (hn1 : 1 ≤ n) (hn : n ≤ 4)
    (K : ∀ a1 a2 a3 a4 ak al', post (nI (cd_K sh tp bw L c G n i).length) (nI m, nI bw, nI sh, nI tp, al, an, aw, ae, a1, a2, a3, a4, ak, al')) : wpX_keySize post (nI m, nI bw, nI sh, nI tp, al, an, aw, ae, e1, e2, e3, e4, ek, el) (nI i) (nI n) := by
  unfold wpX_keySize
  refine xx_slot_t hi (br_f cd_n10 ?_)
  refine xx_str_t hn1 hn (br_f cd_n10 ?_)
  refine xx_ws hD hS hT hC hi hn1 hn (fun a1 a2 a3 a4 ak al' h1 f1 => ⟨vp_in_nI (by omega) (by omega), ?_⟩)
  rw [cd_ns hi, h1.2.1]
  exact K a1 a2 a3 a4 ak al'
theorem xq_ka1 {x y z : Int32} (h : x < 0 ∨ nI 10 ≤ x) (k : post (-2) (nI m, nI bw, nI sh, nI tp, al, an, aw, ae, e1, e2, e3, e4, ek, el)) : wpX_keyAt post (nI m, nI bw, nI sh, nI tp, al, an, aw, ae, e1, e2, e3, e4, ek, el) x y z := by
  unfold wpX_keyAt
  exact xx_slot_f h (br_t rfl k)
theorem xq_ka2 {i : Nat} {y z : Int32} (hi : i < 10) (h : y < 1 ∨ 4 < y) (k : post (-3) (nI m, nI bw, nI sh, nI tp, al, an, aw, ae, e1, e2, e3, e4, ek, el)) : wpX_keyAt post (nI m, nI bw, nI sh, nI tp, al, an, aw, ae, e1, e2, e3, e4, ek, el) (nI i) y z := by
  unfold wpX_keyAt
  refine xx_slot_t hi (br_f cd_n10 ?_)
  exact xx_str_f h (br_t rfl k)
theorem xq_ka3 {i n : Nat} {z : Int32} (hD : cd_D m bw sh tp L c G) (hS : cd_ST L c an al) (hT : cd_TB m G W A B) (hC : cd_XC m W A B aw ae) (hi : i < 10) (hn1 : 1 ≤ n) (hn : n ≤ 4) (h : z < 0 ∨ nI (cd_K sh tp bw L c G n i).length ≤ z)
    (K : ∀ a1 a2 a3 a4 ak al', post (-4) (nI m, nI bw, nI sh, nI tp, al, an, aw, ae, a1, a2, a3, a4, ak, al')) : wpX_keyAt post (nI m, nI bw, nI sh, nI tp, al, an, aw, ae, e1, e2, e3, e4, ek, el) (nI i) (nI n) z := by
  unfold wpX_keyAt
  refine xx_slot_t hi (br_f cd_n10 ?_)
  refine xx_str_t hn1 hn (br_f cd_n10 ?_)
  refine xx_ws hD hS hT hC hi hn1 hn (fun a1 a2 a3 a4 ak al' h1 f1 => br_c (fun _ => K a1 a2 a3 a4 ak al') (fun q => ⟨vp_in_nI (by omega) (by omega), br_f ?_ (K a1 a2 a3 a4 ak al')⟩))
  rw [cd_ns hi, h1.2.1]
  exact Int32.not_lt.mpr (h.resolve_left q)
theorem xq_ka4 {i n p : Nat} (hD : cd_D m bw sh tp L c G) (hS : cd_ST L c an al) (hT : cd_TB m G W A B) (hC : cd_XC m W A B aw ae) (hi : i < 10) (hn1 : 1 ≤ n) (hn : n ≤ 4) (h : p < (cd_K sh tp bw L c G n i).length)
    (K : ∀ a1 a2 a3 a4 ak al', post (nI ((cd_K sh tp bw L c G n i).getD p 0)) (nI m, nI bw, nI sh, nI tp, al, an, aw, ae, a1, a2, a3, a4, ak, al')) : wpX_keyAt post (nI m, nI bw, nI sh, nI tp, al, an, aw, ae, e1, e2, e3, e4, ek, el) (nI i) (nI n) (nI p) := by
  unfold wpX_keyAt
  refine xx_slot_t hi (br_f cd_n10 ?_)
  refine xx_str_t hn1 hn (br_f cd_n10 ?_)
  refine xx_ws hD hS hT hC hi hn1 hn (fun a1 a2 a3 a4 ak al' h1 f1 => ?_)
  obtain ⟨q1, q2, q3, q4⟩ := h1
  refine br_f (nI_pos (by omega)) ⟨vp_in_nI (by omega) (by omega), br_t (by rw [cd_ns hi, q2]; exact nI_lt h (by omega)) ⟨pk_in (99 * i + p) 1089 (by omega) (cd_i99 i p), ?_⟩⟩
  rw [pk_cl (99 * i + p) (cd_i99 i p), q1 p h]
  exact K a1 a2 a3 a4 ak al'
/-! rank, nth, kinds -/
theorem xq_rk_l {s n : Nat} (hs : s < 10) (hK : ∀ j, j < 10 → cd_KT (99 * j) j ek el (cd_K sh tp bw L c G n j)) (k : post (nI (cd_rk sh tp bw L c G n s)) (nI m, nI bw, nI sh, nI tp, al, an, aw, ae, e1, e2, e3, e4, ek, el)) :
    ∀ d i, i + d = 10 → wX_rank_30 post (nI s) (nI m) (nI bw) (nI sh) (nI tp) al an aw ae e1 e2 e3 e4 ek el (d + 1) (nI (cd_ct (fun i => cd_lt sh tp bw L c G n i s) i)) (nI i) := by
  intro d
  induction d with
  | zero =>
    intro i hi
    obtain rfl : i = 10 := by omega
    exact br_t (by decide) k
  | succ d ih =>
    intro i hi
    have go := ih (i + 1) (by omega)
    refine br_f (nI_ge (b := 10) (by omega) (by decide)) (xx_cmp (by omega) (by omega) (hK i (by omega)) (hK s hs) (br_c (fun z => nm_r (nI_1 i) ?_) (fun z => nm_r (nI_1 _) (nm_r (nI_1 i) ?_))))
    · rw [cd_ct_f (P := fun i => cd_lt sh tp bw L c G n i s) (decide_eq_false (Int32.not_lt.mpr z))] at go; exact go
    · rw [cd_ct_t (P := fun i => cd_lt sh tp bw L c G n i s) (decide_eq_true (Int32.not_le.mp z))] at go; exact go
theorem xq_rk1 {x z : Int32} (h : x < 0 ∨ nI 10 ≤ x) (k : post (-2) (nI m, nI bw, nI sh, nI tp, al, an, aw, ae, e1, e2, e3, e4, ek, el)) : wpX_rank post (nI m, nI bw, nI sh, nI tp, al, an, aw, ae, e1, e2, e3, e4, ek, el) x z := by
  unfold wpX_rank
  exact xx_slot_f h (br_t rfl k)
theorem xq_rk2 {i : Nat} {z : Int32} (hi : i < 10) (h : z < 1 ∨ 4 < z) (k : post (-3) (nI m, nI bw, nI sh, nI tp, al, an, aw, ae, e1, e2, e3, e4, ek, el)) : wpX_rank post (nI m, nI bw, nI sh, nI tp, al, an, aw, ae, e1, e2, e3, e4, ek, el) (nI i) z := by
  unfold wpX_rank
  refine xx_slot_t hi (br_f cd_n10 ?_)
  exact xx_str_f h (br_t rfl k)
theorem xq_rk3 {i n : Nat} (hD : cd_D m bw sh tp L c G) (hS : cd_ST L c an al) (hT : cd_TB m G W A B) (hC : cd_XC m W A B aw ae) (hi : i < 10) (hn1 : 1 ≤ n) (hn : n ≤ 4)
    (K : ∀ a1 a2 a3 a4 ak al', post (nI (cd_rk sh tp bw L c G n i)) (nI m, nI bw, nI sh, nI tp, al, an, aw, ae, a1, a2, a3, a4, ak, al')) : wpX_rank post (nI m, nI bw, nI sh, nI tp, al, an, aw, ae, e1, e2, e3, e4, ek, el) (nI i) (nI n) := by
  unfold wpX_rank
  refine xx_slot_t hi (br_f cd_n10 ?_)
  refine xx_str_t hn1 hn (br_f cd_n10 ?_)
  exact xx_wa hD hS hT hC hn1 hn (fun a1 a2 a3 a4 ak al' hK => ⟨11, xq_rk_l hi hK (K a1 a2 a3 a4 ak al') 10 0 (by omega)⟩)
theorem xq_nt_l {k n : Nat} (hk : k < 10) (hK : ∀ j, j < 10 → cd_KT (99 * j) j ek el (cd_K sh tp bw L c G n j)) (K : post (nI (cd_nt sh tp bw L c G n k)) (nI m, nI bw, nI sh, nI tp, al, an, aw, ae, e1, e2, e3, e4, ek, el)) :
    ∀ d i, i + d = 10 → wX_nth_33 post (nI k) (nI m) (nI bw) (nI sh) (nI tp) al an aw ae e1 e2 e3 e4 ek el (d + 1) (nI (cd_la (fun s => decide (cd_po sh tp bw L c G n s = k)) i)) (nI i) := by
  intro d
  induction d with
  | zero =>
    intro i hi
    obtain rfl : i = 10 := by omega
    exact br_t (by decide) K
  | succ d ih =>
    intro i hi
    have b1 : cd_po sh tp bw L c G n i ≤ 10 := cd_ct_le _ 10
    have go := ih (i + 1) (by omega)
    refine br_f (nI_ge (b := 10) (by omega) (by decide)) (xx_pl (by omega) hK (pk_eq (cd_po sh tp bw L c G n i) k (fun z => nm_r (nI_1 i) ?_) (fun z => nm_r (nI_1 i) ?_)))
    · rw [cd_la_t (P := fun s => decide (cd_po sh tp bw L c G n s = k)) (decide_eq_true z)] at go; exact go
    · rw [cd_la_f (P := fun s => decide (cd_po sh tp bw L c G n s = k)) (decide_eq_false z)] at go; exact go
theorem xq_nt1 {x z : Int32} (h : z < 1 ∨ 4 < z) (k : post (-3) (nI m, nI bw, nI sh, nI tp, al, an, aw, ae, e1, e2, e3, e4, ek, el)) : wpX_nth post (nI m, nI bw, nI sh, nI tp, al, an, aw, ae, e1, e2, e3, e4, ek, el) x z := by
  unfold wpX_nth
  exact xx_str_f h (br_t rfl k)
theorem xq_nt2 {x : Int32} {n : Nat} (hn1 : 1 ≤ n) (hn : n ≤ 4) (h : x < 0 ∨ nI 10 ≤ x) (k : post (-4) (nI m, nI bw, nI sh, nI tp, al, an, aw, ae, e1, e2, e3, e4, ek, el)) : wpX_nth post (nI m, nI bw, nI sh, nI tp, al, an, aw, ae, e1, e2, e3, e4, ek, el) x (nI n) := by
  unfold wpX_nth
  refine xx_str_t hn1 hn (br_f cd_n10 ?_)
  exact br_c (fun _ => k) (fun q => br_f (Int32.not_lt.mpr (h.resolve_left q)) k)
theorem xq_nt3 {i n : Nat} (hD : cd_D m bw sh tp L c G) (hS : cd_ST L c an al) (hT : cd_TB m G W A B) (hC : cd_XC m W A B aw ae) (hi : i < 10) (hn1 : 1 ≤ n) (hn : n ≤ 4)
    (K : ∀ a1 a2 a3 a4 ak al', post (nI (cd_nt sh tp bw L c G n i)) (nI m, nI bw, nI sh, nI tp, al, an, aw, ae, a1, a2, a3, a4, ak, al')) : wpX_nth post (nI m, nI bw, nI sh, nI tp, al, an, aw, ae, e1, e2, e3, e4, ek, el) (nI i) (nI n) := by
  unfold wpX_nth
  refine xx_str_t hn1 hn (br_f cd_n10 (br_f (nI_pos (by omega)) (br_t (nI_lt (b := 10) hi (by decide)) ?_)))
  exact xx_wa hD hS hT hC hn1 hn (fun a1 a2 a3 a4 ak al' hK => ⟨11, xq_nt_l hi hK (K a1 a2 a3 a4 ak al') 10 0 (by omega)⟩)
theorem xq_kn_l {n : Nat} (hK : ∀ j, j < 10 → cd_KT (99 * j) j ek el (cd_K sh tp bw L c G n j)) (K : post (nI (cd_kn sh tp bw L c G n)) (nI m, nI bw, nI sh, nI tp, al, an, aw, ae, e1, e2, e3, e4, ek, el)) :
    ∀ d i, i + d = 10 → wX_kinds_19 post (nI m) (nI bw) (nI sh) (nI tp) al an aw ae e1 e2 e3 e4 ek el (d + 1) (nI (cd_ct (fun s => cd_fs sh tp bw L c G n s) i)) (nI i) := by
  intro d
  induction d with
  | zero =>
    intro i hi
    obtain rfl : i = 10 := by omega
    exact br_t (by decide) K
  | succ d ih =>
    intro i hi
    have go := ih (i + 1) (by omega)
    refine br_f (nI_ge (b := 10) (by omega) (by decide)) (xx_fk (s := i) (n := n) (by omega) hK ?_)
    cases z : cd_fs sh tp bw L c G n i with
    | true =>
      rw [cd_ct_t (P := fun s => cd_fs sh tp bw L c G n s) z] at go
      exact br_f cd_n10 (nm_r (nI_1 _) (nm_r (nI_1 i) go))
    | false =>
      rw [cd_ct_f (P := fun s => cd_fs sh tp bw L c G n s) z] at go
      exact br_t rfl (nm_r (nI_1 i) go)
theorem xq_kn1 {z : Int32} (h : z < 1 ∨ 4 < z) (k : post (-3) (nI m, nI bw, nI sh, nI tp, al, an, aw, ae, e1, e2, e3, e4, ek, el)) : wpX_kinds post (nI m, nI bw, nI sh, nI tp, al, an, aw, ae, e1, e2, e3, e4, ek, el) z := by
  unfold wpX_kinds
  exact xx_str_f h (br_t rfl k)
theorem xq_kn2 {n : Nat} (hD : cd_D m bw sh tp L c G) (hS : cd_ST L c an al) (hT : cd_TB m G W A B) (hC : cd_XC m W A B aw ae) (hn1 : 1 ≤ n) (hn : n ≤ 4)
    (K : ∀ a1 a2 a3 a4 ak al', post (nI (cd_kn sh tp bw L c G n)) (nI m, nI bw, nI sh, nI tp, al, an, aw, ae, a1, a2, a3, a4, ak, al')) : wpX_kinds post (nI m, nI bw, nI sh, nI tp, al, an, aw, ae, e1, e2, e3, e4, ek, el) (nI n) := by
  unfold wpX_kinds
  refine xx_str_t hn1 hn (br_f cd_n10 ?_)
  exact xx_wa hD hS hT hC hn1 hn (fun a1 a2 a3 a4 ak al' hK => ⟨11, xq_kn_l hK (K a1 a2 a3 a4 ak al') 10 0 (by omega)⟩)
/-! find -/
theorem xq_fn1 {x y z t : Int32} (h : (x < 0 ∨ nI 10 ≤ x) ∨ (∃ s, s < 10 ∧ x = nI s) ∧ (y < 0 ∨ nI 10 ≤ y)) (k : post (-2) (nI m, nI bw, nI sh, nI tp, al, an, aw, ae, e1, e2, e3, e4, ek, el)) : wpX_find post (nI m, nI bw, nI sh, nI tp, al, an, aw, ae, e1, e2, e3, e4, ek, el) x y z t := by
  unfold wpX_find
  rcases h with h | ⟨⟨s, hs, rfl⟩, h⟩
  · exact xx_slot_f h (br_t rfl k)
  · refine xx_slot_t hs (br_f cd_n10 ?_)
    exact xx_slot_f h (br_t rfl k)
theorem xq_fn2 {i j : Nat} {z t : Int32} (hi : i < 10) (hj : j < 10) (h : z < 1 ∨ 4 < z) (k : post (-3) (nI m, nI bw, nI sh, nI tp, al, an, aw, ae, e1, e2, e3, e4, ek, el)) : wpX_find post (nI m, nI bw, nI sh, nI tp, al, an, aw, ae, e1, e2, e3, e4, ek, el) (nI i) (nI j) z t := by
  unfold wpX_find
  refine xx_slot_t hi (br_f cd_n10 ?_)
  refine xx_slot_t hj (br_f cd_n10 ?_)
  exact xx_str_f h (br_t rfl k)
theorem xq_fn3 {i j n : Nat} {x : Int32} (hD : cd_D m bw sh tp L c G) (hS : cd_ST L c an al) (hT : cd_TB m G W A B) (hC : cd_XC m W A B aw ae) (hi : i < 10) (hj : j < 10) (hn1 : 1 ≤ n) (hn : n ≤ 4)
    (K : ∀ a1 a2 a3 a4 ak al', post (cd_fn sh tp bw L c G n i j x) (nI m, nI bw, nI sh, nI tp, al, an, aw, ae, a1, a2, a3, a4, ak, al')) : wpX_find post (nI m, nI bw, nI sh, nI tp, al, an, aw, ae, e1, e2, e3, e4, ek, el) (nI i) (nI j) (nI n) x := by
  unfold wpX_find
  have hL := hD.2.2.2.2.2.1 i hi
  refine xx_slot_t hi (br_f cd_n10 ?_)
  refine xx_slot_t hj (br_f cd_n10 ?_)
  refine xx_str_t hn1 hn (br_f cd_n10 ?_)
  refine xx_ws hD hS hT hC hj hn1 hn (fun a1 a2 a3 a4 ak al' h1 f1 => ?_)
  rcases cd_wc x with h | ⟨f, hf, rfl⟩
  · refine br_f (Int32.not_le.mpr h) ⟨L i + 1 + 1, xx_fn_l (P := cd_fp sh tp bw L c G n i j x) hD hS hT hC hn1 hn hi hj (L i + 1) 0 a1 a2 a3 a4 ak al' (by omega) h1 (fun y _ hy => cd_fp_t (Int32.le_of_lt (cd_lo h (by omega)))) K⟩
  · refine br_t (nI_pos' hf) ?_
    by_cases hfl : f ≤ L i + 1
    · refine ⟨L i + 1 - f + 1, xx_fn_l (P := cd_fp sh tp bw L c G n i j (nI f)) hD hS hT hC hn1 hn hi hj (L i + 1 - f) f a1 a2 a3 a4 ak al' (by omega) h1 (fun y hy hy2 => cd_fp_t (nI_le hy (by omega))) (fun b1 b2 b3 b4 bk bl => ?_)⟩
      · have := K b1 b2 b3 b4 bk bl
        rw [cd_fn_at hfl rfl hL] at this
        exact this
    · have := K a1 a2 a3 a4 ak al'
      rw [cd_fn_no (fun q hq => by rw [nI_leI (by omega) (by omega)]; omega)] at this
      exact ⟨1, vp_in_nI hi (by omega), br_t (by rw [cd_ST_l hS hi]; exact nI_lt (by omega) hf) this⟩
end
end
section
/-! the reference's public methods, case by case -/
section
variable {m bw sh tp : Nat} {fm : Int32} {vn vl vw vc vo vt g1 g2 g3 g4 gs gk : Nat → Int32} {G : Nat → Option (Nat × Option Nat)} {W A : Nat → Nat} {B : Nat → Option Nat} {L c : Nat → Nat} {post : Int32 → SY → Prop}
theorem yy_elb {post : Int32 → Prop} {x : Int32} (h : x < 0 ∨ ∃ e : Nat, e < 2 ^ 31 ∧ x = nI e ∧ ¬ cd_V e) (k : post 0) : wpY_isElement post (nI m, nI bw, nI sh, nI tp, fm, vn, vl, vw, vc, vo, vt, g1, g2, g3, g4, gs, gk) x := by
  rcases h with h | ⟨e, he, rfl, hv⟩
  · exact yy_el_f h k
  · exact yy_el he (fun v => absurd v hv) (fun _ => k)
theorem yy_elg {post : Int32 → Prop} {e : Nat} (h : cd_V e) (k : post 1) : wpY_isElement post (nI m, nI bw, nI sh, nI tp, fm, vn, vl, vw, vc, vo, vt, g1, g2, g3, g4, gs, gk) (nI e) := yy_el (by have := h.1; omega) (fun _ => k) (fun v => absurd h v)
theorem yq_put1 {x y : Int32} (h : x < 0 ∨ nI 10 ≤ x) (k : post (-2) (nI m, nI bw, nI sh, nI tp, fm, vn, vl, vw, vc, vo, vt, g1, g2, g3, g4, gs, gk)) : wpY_put post (nI m, nI bw, nI sh, nI tp, fm, vn, vl, vw, vc, vo, vt, g1, g2, g3, g4, gs, gk) x y := by
  unfold wpY_put
  exact yy_slot_f h (br_t rfl k)
theorem yq_put2 {s : Nat} {y : Int32} (hs : s < 10) (h : y < 0 ∨ nI 10 ≤ y) (k : post (-4) (nI m, nI bw, nI sh, nI tp, fm, vn, vl, vw, vc, vo, vt, g1, g2, g3, g4, gs, gk)) : wpY_put post (nI m, nI bw, nI sh, nI tp, fm, vn, vl, vw, vc, vo, vt, g1, g2, g3, g4, gs, gk) (nI s) y := by
  unfold wpY_put
  refine yy_slot_t hs (br_f cd_n10 ?_)
  exact br_c (fun _ => k) (fun q => br_f (cd_nle (a := 9) (cd_hi (h.resolve_left q) (by decide) (by decide))) k)
theorem yq_put3 {s x : Nat} (hS : cd_ST L c vn vl) (hs : s < 10) (hx : x < 10) (hl : L s ≤ 12) (h : ¬ L s < 12) (k : post (-5) (nI m, nI bw, nI sh, nI tp, fm, vn, vl, vw, vc, vo, vt, g1, g2, g3, g4, gs, gk)) : wpY_put post (nI m, nI bw, nI sh, nI tp, fm, vn, vl, vw, vc, vo, vt, g1, g2, g3, g4, gs, gk) (nI s) (nI x) := by
  unfold wpY_put
  refine yy_slot_t hs (br_f cd_n10 ?_)
  exact br_f (nI_pos (by omega)) (br_t (nI_le (b := 9) (by omega) (by decide)) ⟨vp_in_nI hs (by omega), br_t (by rw [cd_ST_l hS hs, show L s = 12 by omega]; rfl) k⟩)
theorem yq_put4 {s x : Nat} (hS : cd_ST L c vn vl) (hs : s < 10) (hx : x < 10) (h : L s < 12) (k : post (nI (L s + 1)) (nI m, nI bw, nI sh, nI tp, fm, (upd vn s (nI (L s + 1))), (upd vl (12 * s + L s) (nI x)), vw, vc, vo, vt, g1, g2, g3, g4, gs, gk)) : wpY_put post (nI m, nI bw, nI sh, nI tp, fm, vn, vl, vw, vc, vo, vt, g1, g2, g3, g4, gs, gk) (nI s) (nI x) := by
  unfold wpY_put
  refine yy_slot_t hs (br_f cd_n10 ?_)
  have vi : vp_in (nI s) 10 := vp_in_nI hs (by omega)
  have eL := cd_ST_l hS hs
  have ei : 12 * nI s + vn (nI s).toNatClampNeg = nI (12 * s + L s) := by rw [eL]; exact cd_j12 s (L s)
  refine br_f (nI_pos (by omega)) (br_t (nI_le (b := 9) (by omega) (by decide)) ⟨vi, pk_eq (L s) 12 (fun z => absurd z (by omega)) (fun _ => ⟨vi, pk_in (12 * s + L s) 120 (by omega) ei, nm_r (e' := upd vl (12 * s + L s) (nI x)) (by rw [pk_cl (12 * s + L s) ei]) ⟨vi, vi, nm_r (e' := upd vn s (nI (L s + 1))) (by rw [eL, cd_ns hs, nI_1]) ⟨vi, ?_⟩⟩⟩) eL⟩)
  rw [cd_ns hs, pk_us]
  exact k
theorem yq_take1 {x : Int32} (h : x < 0 ∨ nI 10 ≤ x) (k : post (-2) (nI m, nI bw, nI sh, nI tp, fm, vn, vl, vw, vc, vo, vt, g1, g2, g3, g4, gs, gk)) : wpY_take post (nI m, nI bw, nI sh, nI tp, fm, vn, vl, vw, vc, vo, vt, g1, g2, g3, g4, gs, gk) x := by
  unfold wpY_take
  exact yy_slot_f h (br_t rfl k)
theorem yq_take2 {s : Nat} (hS : cd_ST L c vn vl) (hs : s < 10) (h : L s = 0) (k : post (-4) (nI m, nI bw, nI sh, nI tp, fm, vn, vl, vw, vc, vo, vt, g1, g2, g3, g4, gs, gk)) : wpY_take post (nI m, nI bw, nI sh, nI tp, fm, vn, vl, vw, vc, vo, vt, g1, g2, g3, g4, gs, gk) (nI s) := by
  unfold wpY_take
  refine yy_slot_t hs (br_f cd_n10 ?_)
  exact ⟨vp_in_nI hs (by omega), br_t (by rw [cd_ST_l hS hs, h]; rfl) k⟩
theorem yq_take3 {s n : Nat} (hS : cd_ST L c vn vl) (hs : s < 10) (hl : L s ≤ 12) (h : L s = n + 1) (k : post (nI (c (12 * s + n))) (nI m, nI bw, nI sh, nI tp, fm, (upd vn s (nI n)), vl, vw, vc, vo, vt, g1, g2, g3, g4, gs, gk)) : wpY_take post (nI m, nI bw, nI sh, nI tp, fm, vn, vl, vw, vc, vo, vt, g1, g2, g3, g4, gs, gk) (nI s) := by
  unfold wpY_take
  refine yy_slot_t hs (br_f cd_n10 ?_)
  have vi : vp_in (nI s) 10 := vp_in_nI hs (by omega)
  have eL := cd_ST_l hS hs
  have ei : 12 * nI s + (upd vn s (nI n)) (nI s).toNatClampNeg = nI (12 * s + n) := by rw [cd_ns hs, pk_us]; exact cd_j12 s n
  refine ⟨vi, br_f (by rw [eL, h]; exact nI_ne0 (by omega) (by omega)) ⟨vi, vi, nm_r (e' := upd vn s (nI n)) (by rw [eL, cd_ns hs, h, nI_pred]) ⟨vi, pk_in (12 * s + n) 120 (by omega) ei, ?_⟩⟩⟩
  rw [pk_cl (12 * s + n) ei, hS.2 s n hs (by omega)]
  exact k
theorem yq_copy1 {x y : Int32} (h : x < 0 ∨ nI 10 ≤ x) (k : post (-2) (nI m, nI bw, nI sh, nI tp, fm, vn, vl, vw, vc, vo, vt, g1, g2, g3, g4, gs, gk)) : wpY_copy post (nI m, nI bw, nI sh, nI tp, fm, vn, vl, vw, vc, vo, vt, g1, g2, g3, g4, gs, gk) x y := by
  unfold wpY_copy
  exact yy_slot_f h (br_t rfl k)
theorem yq_copy2 {s : Nat} {y : Int32} (hs : s < 10) (h : y < 0 ∨ nI 10 ≤ y) (k : post (-2) (nI m, nI bw, nI sh, nI tp, fm, vn, vl, vw, vc, vo, vt, g1, g2, g3, g4, gs, gk)) : wpY_copy post (nI m, nI bw, nI sh, nI tp, fm, vn, vl, vw, vc, vo, vt, g1, g2, g3, g4, gs, gk) (nI s) y := by
  unfold wpY_copy
  refine yy_slot_t hs (br_f cd_n10 ?_)
  exact yy_slot_f h (br_t rfl k)
theorem yq_copy_l {s o : Nat} (hS : cd_ST L c vn vl) (hs : s < 10) (ho : o < 10) (hl : L o ≤ 12) (k : post (nI (L o)) (nI m, nI bw, nI sh, nI tp, fm, (upd vn s (nI (L o))), (cd_cp vl s o (L o)), vw, vc, vo, vt, g1, g2, g3, g4, gs, gk)) :
    ∀ d i, i + d = L o → wY_copy_33 post (nI s) (nI o) (nI m) (nI bw) (nI sh) (nI tp) fm (d + 1) (nI i) (upd vn s (nI (L o))) (cd_cp vl s o i) vw vc vo vt g1 g2 g3 g4 gs gk := by
  have eo : upd vn s (nI (L o)) (nI o).toNatClampNeg = nI (L o) := by
    rw [cd_ns ho]
    by_cases z : o = s
    · subst z; exact pk_us
    · rw [pk_un z]; exact hS.1 o ho
  intro d
  induction d with
  | zero =>
    intro i hi
    obtain rfl : i = L o := by omega
    refine ⟨vp_in_nI ho (by omega), br_t (by rw [eo]; exact nI_le (Nat.le_refl _) (by omega)) ⟨vp_in_nI hs (by omega), ?_⟩⟩
    rw [cd_ns hs, pk_us]
    exact k
  | succ d ih =>
    intro i hi
    refine ⟨vp_in_nI ho (by omega), br_f (by rw [eo]; exact nI_ge (by omega) (by omega)) ⟨pk_in (12 * o + i) 120 (by omega) (cd_j12 o i), pk_in (12 * s + i) 120 (by omega) (cd_j12 s i), nm_r (e' := cd_cp vl s o (i + 1)) ?_ (nm_r (nI_1 i) (ih (i + 1) (by omega)))⟩⟩
    rw [pk_cl (12 * s + i) (cd_j12 s i), pk_cl (12 * o + i) (cd_j12 o i)]
    exact cd_cp_s (by omega)
theorem yq_copy3 {s o : Nat} (hS : cd_ST L c vn vl) (hs : s < 10) (ho : o < 10) (hl : L o ≤ 12) (k : post (nI (L o)) (nI m, nI bw, nI sh, nI tp, fm, (upd vn s (nI (L o))), (cd_cp vl s o (L o)), vw, vc, vo, vt, g1, g2, g3, g4, gs, gk)) : wpY_copy post (nI m, nI bw, nI sh, nI tp, fm, vn, vl, vw, vc, vo, vt, g1, g2, g3, g4, gs, gk) (nI s) (nI o) := by
  unfold wpY_copy
  refine yy_slot_t hs (br_f cd_n10 ?_)
  refine yy_slot_t ho (br_f cd_n10 ⟨vp_in_nI ho (by omega), vp_in_nI hs (by omega), nm_r (e' := upd vn s (nI (L o))) (by rw [cd_ST_l hS ho, cd_ns hs]) ?_⟩)
  have := yq_copy_l (m := m) (bw := bw) (sh := sh) (tp := tp) (fm := fm) (vw := vw) (vc := vc) (vo := vo) (vt := vt) (g1 := g1) (g2 := g2) (g3 := g3) (g4 := g4) (gs := gs) (gk := gk) hS hs ho hl k (L o) 0 (by omega)
  rw [cd_cp_0] at this
  exact ⟨L o + 1, this⟩
/-! entry, forget -/
theorem yq_entry1 {x y z : Int32} (h : x < 0 ∨ ∃ w : Nat, w < 2 ^ 31 ∧ x = nI w ∧ cd_wk w = 0) (k : post (-1) (nI m, nI bw, nI sh, nI tp, fm, vn, vl, vw, vc, vo, vt, g1, g2, g3, g4, gs, gk)) : wpY_entry post (nI m, nI bw, nI sh, nI tp, fm, vn, vl, vw, vc, vo, vt, g1, g2, g3, g4, gs, gk) x y z := by
  unfold wpY_entry
  rcases h with h | ⟨w, hw, rfl, h0⟩
  · exact yy_len_n h (br_t rfl k)
  · exact yy_len hw (br_t (by rw [h0]; rfl) k)
theorem cd_wk_nz {w : Nat} (hw : w < 1331) (h : ¬ cd_wl w = 0) : ¬ nI (cd_wk w) = 0 := by
  rw [cd_wk_t hw]
  exact cd_wl_nz h
theorem yq_entry2 {w : Nat} {y z : Int32} (hw : w < 1331) (hl : ¬ cd_wl w = 0) (h : y < 0 ∨ ∃ e : Nat, e < 2 ^ 31 ∧ y = nI e ∧ ¬ cd_V e) (k : post (-2) (nI m, nI bw, nI sh, nI tp, fm, vn, vl, vw, vc, vo, vt, g1, g2, g3, g4, gs, gk)) : wpY_entry post (nI m, nI bw, nI sh, nI tp, fm, vn, vl, vw, vc, vo, vt, g1, g2, g3, g4, gs, gk) (nI w) y z := by
  unfold wpY_entry
  refine yy_len (by omega) (br_f (cd_wk_nz hw hl) ?_)
  exact yy_elb h (br_t rfl k)
theorem yq_entry3 {w a : Nat} {z : Int32} (hw : w < 1331) (hl : ¬ cd_wl w = 0) (ha : cd_V a) (h : z < 0 ∨ ∃ e : Nat, e < 2 ^ 31 ∧ z = nI e ∧ ¬ cd_V e) (h1 : ¬ z = -1) (k : post (-2) (nI m, nI bw, nI sh, nI tp, fm, vn, vl, vw, vc, vo, vt, g1, g2, g3, g4, gs, gk)) : wpY_entry post (nI m, nI bw, nI sh, nI tp, fm, vn, vl, vw, vc, vo, vt, g1, g2, g3, g4, gs, gk) (nI w) (nI a) z := by
  unfold wpY_entry
  refine yy_len (by omega) (br_f (cd_wk_nz hw hl) ?_)
  refine yy_elg ha (br_f cd_n10 ?_)
  exact yy_elb h (br_t rfl (br_f h1 k))
theorem yq_entry_go {w a : Nat} {b : Option Nat} (hw : w < 1331) (hl : ¬ cd_wl w = 0) (ha : cd_V a) (hb : ∀ e, b = some e → cd_V e) (k : wY_entry_34 post (nI w) (nI a) (cd_en b) (nI m) (nI bw) (nI sh) (nI tp) fm vn vl vw vc vo vt g1 g2 g3 g4 gs gk) : wpY_entry post (nI m, nI bw, nI sh, nI tp, fm, vn, vl, vw, vc, vo, vt, g1, g2, g3, g4, gs, gk) (nI w) (nI a) (cd_en b) := by
  unfold wpY_entry
  refine yy_len (by omega) (br_f (cd_wk_nz hw hl) ?_)
  refine yy_elg ha (br_f cd_n10 ?_)
  cases b with
  | none => exact yy_el_f (by decide) (br_t rfl (br_t rfl k))
  | some e => exact yy_elg (hb e rfl) (br_f cd_n10 k)
theorem yq_entry4 {w : Nat} {y z : Int32} (hT : cd_TB m G W A B) (hC : cd_YC m W A B vw vc vo vt) (hm : m = 6) (hw : w < 1331) (h : G w = none) (k : post (-3) (nI m, nI bw, nI sh, nI tp, fm, vn, vl, vw, vc, vo, vt, g1, g2, g3, g4, gs, gk)) : wY_entry_34 post (nI w) y z (nI m) (nI bw) (nI sh) (nI tp) fm vn vl vw vc vo vt g1 g2 g3 g4 gs gk := by
  unfold wY_entry_34
  refine yy_eo hT hC (by omega) (by omega) (fun p hp e => absurd h (by rw [← e]; exact cd_TB_some hT hp)) (fun _ => br_f (by decide) (br_t ?_ k))
  rw [hm]
  rfl
theorem yq_82 {p : Nat} {w y : Int32} {b : Option Nat} (hp : p < 16) (hb : ∀ e, b = some e → cd_V e) (k : post (nI m) (nI m, nI bw, nI sh, nI tp, fm, vn, vl, (upd vw p w), (upd vc p (cd_cn b)), (upd vo p y), (upd vt p (cd_en b)), g1, g2, g3, g4, gs, gk)) : wY_entry_82 post w y (cd_en b) (nI p) (nI m) (nI bw) (nI sh) (nI tp) fm vn vl vw vc vo vt g1 g2 g3 g4 gs gk := by
  have vi : vp_in (nI p) 16 := vp_in_nI hp (by omega)
  have ec : (nI p).toNatClampNeg = p := nI_clamp (by omega)
  refine ⟨vi, nm_r (e' := upd vw p w) (by rw [ec]) ?_⟩
  cases b with
  | none => exact br_t rfl ⟨vi, nm_r (e' := upd vc p 1) (by rw [ec]) ⟨vi, nm_r (e' := upd vo p y) (by rw [ec]) ⟨vi, nm_r (e' := upd vt p (cd_en none)) (by rw [ec]) k⟩⟩⟩
  | some e => exact br_f (cd_1 e (hb e rfl).1) ⟨vi, nm_r (e' := upd vc p 2) (by rw [ec]) ⟨vi, nm_r (e' := upd vo p y) (by rw [ec]) ⟨vi, nm_r (e' := upd vt p (cd_en (some e))) (by rw [ec]) k⟩⟩⟩
theorem yq_entry5 {w : Nat} {y : Int32} {b : Option Nat} (hT : cd_TB m G W A B) (hC : cd_YC m W A B vw vc vo vt) (hm : m < 6) (hw : w < 1331) (h : G w = none) (hb : ∀ e, b = some e → cd_V e) (k : post (nI (m + 1)) ((nI (m + 1)), nI bw, nI sh, nI tp, fm, vn, vl, (upd vw (10 + m) (nI w)), (upd vc (10 + m) (cd_cn b)), (upd vo (10 + m) y), (upd vt (10 + m) (cd_en b)), g1, g2, g3, g4, gs, gk)) : wY_entry_34 post (nI w) y (cd_en b) (nI m) (nI bw) (nI sh) (nI tp) fm vn vl vw vc vo vt g1 g2 g3 g4 gs gk := by
  unfold wY_entry_34
  exact yy_eo hT hC (by omega) (by omega) (fun p hp e => absurd h (by rw [← e]; exact cd_TB_some hT hp)) (fun _ => br_f (by decide) (pk_eq m 6 (fun z => absurd z (by omega)) (fun _ => br_f (by decide) (nm_r (cd_10 m) (nm_r (nI_1 m) (yq_82 (by omega) hb k))))))
theorem yq_entry6 {w : Nat} {y : Int32} {b : Option Nat} (hT : cd_TB m G W A B) (hC : cd_YC m W A B vw vc vo vt) (hm : m ≤ 6) (hw : w < 1331) (h : ¬ G w = none) (hb : ∀ e, b = some e → cd_V e) (k : ∀ p, p < 10 + m → W p = w → post (nI m) (nI m, nI bw, nI sh, nI tp, fm, vn, vl, (upd vw p (nI w)), (upd vc p (cd_cn b)), (upd vo p y), (upd vt p (cd_en b)), g1, g2, g3, g4, gs, gk)) : wY_entry_34 post (nI w) y (cd_en b) (nI m) (nI bw) (nI sh) (nI tp) fm vn vl vw vc vo vt g1 g2 g3 g4 gs gk := by
  unfold wY_entry_34
  exact yy_eo hT hC (by omega) (by omega) (fun p hp e => br_t (nI_pos' (by omega)) (br_t (nI_pos' (by omega)) (yq_82 (by omega) hb (k p hp e)))) (fun e => absurd e h)
theorem yq_forget1 {x : Int32} (h : x < 0 ∨ ∃ w : Nat, w < 2 ^ 31 ∧ x = nI w ∧ cd_wk w < 2) (k : post (-1) (nI m, nI bw, nI sh, nI tp, fm, vn, vl, vw, vc, vo, vt, g1, g2, g3, g4, gs, gk)) : wpY_forget post (nI m, nI bw, nI sh, nI tp, fm, vn, vl, vw, vc, vo, vt, g1, g2, g3, g4, gs, gk) x := by
  unfold wpY_forget
  rcases h with h | ⟨w, hw, rfl, h0⟩
  · exact yy_len_n h (br_f (by decide) k)
  · exact yy_len hw (br_f (nI_ge (b := 2) h0 (by decide)) k)
theorem yq_forget2 {w : Nat} (hT : cd_TB m G W A B) (hC : cd_YC m W A B vw vc vo vt) (hm : m ≤ 6) (hw : w < 1331) (hl : 2 ≤ cd_wl w) (h : G w = none) (k : post (-2) (nI m, nI bw, nI sh, nI tp, fm, vn, vl, vw, vc, vo, vt, g1, g2, g3, g4, gs, gk)) : wpY_forget post (nI m, nI bw, nI sh, nI tp, fm, vn, vl, vw, vc, vo, vt, g1, g2, g3, g4, gs, gk) (nI w) := by
  unfold wpY_forget
  have := cd_wl_le w
  refine yy_len (by omega) (br_t (by rw [cd_wk_t hw]; exact nI_le (a := 2) hl (by omega)) ?_)
  exact yy_eo hT hC (by omega) (by omega) (fun p hp e => absurd h (by rw [← e]; exact cd_TB_some hT hp)) (fun _ => br_f (by decide) k)
theorem yq_forget_l {p : Nat} (hm : m < 6) (h10 : 10 ≤ p)
    (k : post (nI m) (nI m, nI bw, nI sh, nI tp, fm, vn, vl, (cd_sf vw p (10 + m)), (cd_sf vc p (10 + m)), (cd_sf vo p (10 + m)), (cd_sf vt p (10 + m)), g1, g2, g3, g4, gs, gk)) :
    ∀ d i, p ≤ i → i + d = 10 + m → wY_forget_36 post (nI m) (nI bw) (nI sh) (nI tp) fm (d + 1) (nI i) vn vl (cd_sf vw p i) (cd_sf vc p i) (cd_sf vo p i) (cd_sf vt p i) g1 g2 g3 g4 gs gk := by
  intro d
  induction d with
  | zero =>
    intro i hpi hi
    obtain rfl : i = 10 + m := by omega
    exact br_t (by rw [cd_10]; exact nI_le (Nat.le_refl _) (by omega)) k
  | succ d ih =>
    intro i hpi hi
    have v1 : vp_in (nI i + 1) 16 := pk_in (i + 1) 16 (by omega) (nI_1 i)
    have v0 : vp_in (nI i) 16 := vp_in_nI (by omega) (by omega)
    have c0 : (nI i).toNatClampNeg = i := nI_clamp (by omega)
    have c1 : (nI i + 1).toNatClampNeg = i + 1 := pk_cl (i + 1) (nI_1 i)
    exact br_f (by rw [cd_10]; exact nI_ge (by omega) (by omega)) ⟨v1, v0, nm_r (e' := cd_sf vw p (i + 1)) (by rw [c0, c1]; exact cd_sf_s hpi) ⟨v1, v0, nm_r (e' := cd_sf vc p (i + 1)) (by rw [c0, c1]; exact cd_sf_s hpi) ⟨v1, v0, nm_r (e' := cd_sf vo p (i + 1)) (by rw [c0, c1]; exact cd_sf_s hpi)
      ⟨v1, v0, nm_r (e' := cd_sf vt p (i + 1)) (by rw [c0, c1]; exact cd_sf_s hpi) (nm_r (nI_1 i) (ih (i + 1) (by omega) (by omega)))⟩⟩⟩⟩
theorem yq_forget3 {w : Nat} (hT : cd_TB (m + 1) G W A B) (hC : cd_YC (m + 1) W A B vw vc vo vt) (hm : m < 6) (hw : w < 1331) (hl : 2 ≤ cd_wl w) (h : ¬ G w = none) (hp10 : ∀ p, p < 10 + (m + 1) → W p = w → 10 ≤ p)
    (k : ∀ p, p < 10 + (m + 1) → W p = w → post (nI m) (nI m, nI bw, nI sh, nI tp, fm, vn, vl, (cd_sf vw p (10 + m)), (cd_sf vc p (10 + m)), (cd_sf vo p (10 + m)), (cd_sf vt p (10 + m)), g1, g2, g3, g4, gs, gk)) :
    wpY_forget post ((nI (m + 1)), nI bw, nI sh, nI tp, fm, vn, vl, vw, vc, vo, vt, g1, g2, g3, g4, gs, gk) (nI w) := by
  unfold wpY_forget
  have := cd_wl_le w
  refine yy_len (by omega) (br_t (by rw [cd_wk_t hw]; exact nI_le (a := 2) hl (by omega)) ?_)
  refine yy_eo hT hC (by omega) (by omega) (fun p hp e => br_t (nI_pos' (by omega)) (nm_r (nI_pred m) ?_)) (fun e => absurd e h)
  have go := yq_forget_l (bw := bw) (sh := sh) (tp := tp) (fm := fm) (vn := vn) (vl := vl) (g1 := g1) (g2 := g2) (g3 := g3) (g4 := g4) (gs := gs) (gk := gk) hm (hp10 p hp e) (k p hp e) (10 + m - p) p (Nat.le_refl _) (by omega)
  rw [cd_sf_0, cd_sf_0, cd_sf_0, cd_sf_0] at go
  exact ⟨_, go⟩
end
end
section
/-! the reference's tailor and its questions, as they are called -/
section
variable {m bw sh tp : Nat} {fm : Int32} {vn vl vw vc vo vt g1 g2 g3 g4 gs gk : Nat → Int32} {G : Nat → Option (Nat × Option Nat)} {W A : Nat → Nat} {B : Nat → Option Nat} {L c : Nat → Nat} {post : Int32 → SY → Prop}
theorem cd_mx_b (l : Nat) : cd_mx l ≤ 30 := by unfold cd_mx; split <;> (try split) <;> omega
theorem yq_tailor1 {x y z : Int32} (h : (x < 0 ∨ nI 10 ≤ x) ∨ ((y < 0 ∨ nI 10 ≤ y) ∧ ∃ s, s < 10 ∧ x = nI s) ∨ (∃ s, s < 10 ∧ x = nI s ∧ y = nI s)) (k : post (-1) (nI m, nI bw, nI sh, nI tp, fm, vn, vl, vw, vc, vo, vt, g1, g2, g3, g4, gs, gk)) : wpY_tailor post (nI m, nI bw, nI sh, nI tp, fm, vn, vl, vw, vc, vo, vt, g1, g2, g3, g4, gs, gk) x y z := by
  rcases h with h | ⟨h, s, hs, rfl⟩ | ⟨s, hs, rfl, rfl⟩
  · exact br_c (fun _ => k) (fun q => br_t (cd_hi (a := 9) (h.resolve_left q) (by decide) (by decide)) k)
  · exact br_f (nI_pos (by omega)) (br_f (nI_nlt (a := 9) (by omega) (by decide)) (br_c (fun _ => k) (fun q => br_t (cd_hi (a := 9) (h.resolve_left q) (by decide) (by decide)) k)))
  · exact br_f (nI_pos (by omega)) (br_f (nI_nlt (a := 9) (by omega) (by decide)) (br_f (nI_pos (by omega)) (br_f (nI_nlt (a := 9) (by omega) (by decide)) (br_t rfl k))))
theorem yq_tailor2 {a b : Nat} {z : Int32} (ha : a < 10) (hb : b < 10) (hab : ¬ a = b) (h : z < 1 ∨ 3 < z) (k : post (-2) (nI m, nI bw, nI sh, nI tp, fm, vn, vl, vw, vc, vo, vt, g1, g2, g3, g4, gs, gk)) : wpY_tailor post (nI m, nI bw, nI sh, nI tp, fm, vn, vl, vw, vc, vo, vt, g1, g2, g3, g4, gs, gk) (nI a) (nI b) z :=
  br_f (nI_pos (by omega)) (br_f (nI_nlt (a := 9) (by omega) (by decide)) (br_f (nI_pos (by omega)) (br_f (nI_nlt (a := 9) (by omega) (by decide)) (br_f (fun e => hab ((nI_eq (by omega) (by omega)).mp e))
    (br_c (fun _ => k) (fun q => br_f (Int32.not_le.mpr (h.resolve_left q)) k))))))
theorem yy_77 {q b l : Nat} (hT : cd_TB m G W A B) (hC : cd_YC m W A B vw vc vo vt) (hm : m ≤ 6) (hG : cd_OK G) (hq : q < 1024) (h1 : 1 ≤ l) (h3 : l ≤ 3)
    (K1 : cd_fit G q l → ∃ n, wY_tailor_209 post (nI b) (nI l) (nI q) (nI m) (nI bw) (nI sh) (nI tp) fm n 0 vn vl vw vc vo vt g1 g2 g3 g4 gs gk) (K0 : ¬ cd_fit G q l → post (-3) (nI m, nI bw, nI sh, nI tp, fm, vn, vl, vw, vc, vo, vt, g1, g2, g3, g4, gs, gk)) :
    ∀ d i x, i + d = 10 + m → ((x = 1 ∧ cd_wt q l < cd_mx l ∧ ∀ p, p < i → cd_fit1 q l (A p) ∧ ∀ e, B p = some e → cd_fit1 q l e) ∨ (x = 0 ∧ ¬ cd_fit G q l)) →
      wY_tailor_77 post (nI b) (nI l) (nI q) (nI (cd_mx l)) (nI m) (nI bw) (nI sh) (nI tp) fm vn vl vw vc vo vt g1 g2 g3 g4 gs gk (d + 1) x (nI i) := by
  have hmx := cd_mx_b l
  intro d
  induction d with
  | zero =>
    intro i x hi h
    rcases h with ⟨rfl, h0, hf⟩ | ⟨rfl, hf⟩
    · exact br_t (by rw [cd_10]; exact nI_le (by omega) (by omega)) (br_f cd_n10 (K1 ((cd_fit_TB hT).mpr ⟨h0, fun p hp => hf p (by omega)⟩)))
    · exact br_t (by rw [cd_10]; exact nI_le (by omega) (by omega)) (br_t rfl (K0 hf))
  | succ d ih =>
    intro i x hi h
    have vi : vp_in (nI i) 16 := vp_in_nI (by omega) (by omega)
    have ec : (nI i).toNatClampNeg = i := nI_clamp (by omega)
    have gb : ¬ (10 + nI m) ≤ nI i := by rw [cd_10]; exact nI_ge (by omega) (by omega)
    obtain ⟨c1, c2, c3, c4⟩ := hC i (by omega)
    obtain ⟨hV1, hV2⟩ := cd_TB_V hT hG (p := i) (by omega)
    have no : ¬ cd_fit G q l → wY_tailor_77 post (nI b) (nI l) (nI q) (nI (cd_mx l)) (nI m) (nI bw) (nI sh) (nI tp) fm vn vl vw vc vo vt g1 g2 g3 g4 gs gk (d + 1) 0 (nI (i + 1)) := fun hf => ih (i + 1) 0 (by omega) (Or.inr ⟨rfl, hf⟩)
    rcases h with ⟨rfl, h0, hf⟩ | ⟨rfl, hf⟩
    · have e1 : vo (nI i).toNatClampNeg = nI (A i) := by rw [ec]; exact c2
      have b1 := cd_wt_b (A i) l
      have b2 := cd_wt_le (l := l) hV1
      have hA1 := hV1.1
      have go2 : cd_fit1 q l (A i) → wY_tailor_133 post (wY_tailor_77 post (nI b) (nI l) (nI q) (nI (cd_mx l)) (nI m) (nI bw) (nI sh) (nI tp) fm vn vl vw vc vo vt g1 g2 g3 g4 gs gk (d + 1)) (nI b) (nI l) (nI q) (nI (cd_mx l)) (nI i) 1 (nI m) (nI bw) (nI sh) (nI tp) fm vn vl vw vc vo vt g1 g2 g3 g4 gs gk := fun hA => by
        have yes : (∀ e, B i = some e → cd_fit1 q l e) → wY_tailor_77 post (nI b) (nI l) (nI q) (nI (cd_mx l)) (nI m) (nI bw) (nI sh) (nI tp) fm vn vl vw vc vo vt g1 g2 g3 g4 gs gk (d + 1) 1 (nI (i + 1)) := fun hB => ih (i + 1) 1 (by omega) (Or.inl ⟨rfl, h0, fun p hp => by
          by_cases z : p = i
          · subst z; exact ⟨hA, hB⟩
          · exact hf p (by omega)⟩)
        refine br_f cd_n10 ⟨vi, ?_⟩
        cases z : B i with
        | none =>
          rw [z] at c3
          exact br_f (by rw [ec, c3]; decide) (nm_r (nI_1 i) (yes (fun e he => by rw [z] at he; cases he)))
        | some e =>
          rw [z] at c3
          have hVe := hV2 e z
          have b3 := cd_wt_b e l
          have b4 := cd_wt_le (l := l) hVe
          have hE1 := hVe.1
          have e2 : vt (nI i).toNatClampNeg = nI e := by rw [ec]; exact c4 e z
          refine br_t (by rw [ec, c3]; rfl) ⟨vi, yy_gb e2 hVe.1 hq h1 h3 (fun g => br_f cd_n10 ⟨vi, yy_wt e2 (by omega) h1 h3 (pk_eq (cd_wt e l) (cd_mx l) (fun t => nm_r (nI_1 i) (no (fun f => ?_))) (fun t => nm_r (nI_1 i) (yes (fun e' he' _ => ?_))))⟩) (fun g => br_t rfl (nm_r (nI_1 i) (yes (fun e' he' g' => ?_))))⟩
          · have := (((cd_fit_TB hT).mp f).2 i (by omega)).2 e z g
            omega
          · rw [z] at he'; cases he'; omega
          · rw [z] at he'; cases he'; exact absurd g' g
      refine br_f gb (br_f cd_n10 ⟨vi, yy_gb e1 hV1.1 hq h1 h3 (fun g => br_f cd_n10 ⟨vi, yy_wt e1 (by omega) h1 h3 (pk_eq (cd_wt (A i) l) (cd_mx l) (fun t => br_t rfl (nm_r (nI_1 i) (no (fun f => ?_)))) (fun t => go2 (fun _ => by omega)))⟩) (fun g => br_t rfl (go2 (fun g' => absurd g' g)))⟩)
      have := (((cd_fit_TB hT).mp f).2 i (by omega)).1 g
      omega
    · exact br_f gb (br_t rfl (br_t rfl (nm_r (nI_1 i) (no hf))))
theorem yy_209 {q b l : Nat} (hT : cd_TB m G W A B) (hC : cd_YC m W A B vw vc vo vt) (hm : m ≤ 6) (hG : cd_OK G) (hq : q < 1024) (hb : b < 10) (h1 : 1 ≤ l) (h3 : l ≤ 3)
    (K : ∀ vc' vo' vt', cd_YT m (cd_tG G q b l) vw vc' vo' vt' → post (nI (cd_bl q l)) (nI m, nI bw, nI sh, nI tp, fm, vn, vl, vw, vc', vo', vt', g1, g2, g3, g4, gs, gk)) :
    ∀ d i vo' vt', i + d = 10 + m → (∀ p, p < i → vo' p = nI (cd_gx q l (A p)) ∧ ∀ e, B p = some e → vt' p = nI (cd_gx q l e)) → (∀ p, i ≤ p → p < 10 + m → vo' p = nI (A p) ∧ ∀ e, B p = some e → vt' p = nI e) →
      wY_tailor_209 post (nI b) (nI l) (nI q) (nI m) (nI bw) (nI sh) (nI tp) fm (d + 1) (nI i) vn vl vw vc vo' vt' g1 g2 g3 g4 gs gk := by
  intro d
  induction d with
  | zero =>
    intro i vo' vt' hi hf hg
    have vb : vp_in (nI b) 16 := vp_in_nI (by omega) (by omega)
    have eb : (nI b).toNatClampNeg = b := nI_clamp (by omega)
    have k := K _ _ _ (cd_YT_tG hT hC hb (fun p hp => (hf p (by omega)).1) (fun p hp => (hf p (by omega)).2))
    have w1 := cd_wt_b q 1
    have fin : ∀ x : Int32, x = nI (cd_bl q l) → vp_in (nI b) 16 ∧ ∀ y : Nat → Int32, y = upd vo' (nI b).toNatClampNeg x → (vp_in (nI b) 16 ∧ post (y (nI b).toNatClampNeg) (nI m, nI bw, nI sh, nI tp, fm, vn, vl, vw, (upd vc b 1), y, vt', g1, g2, g3, g4, gs, gk)) := fun x hx => by
      subst hx
      refine ⟨vb, nm_r (e' := upd vo' b (nI (cd_bl q l))) (by rw [eb]) ⟨vb, ?_⟩⟩
      rw [eb, pk_us]
      exact k
    refine br_t (by rw [cd_10]; exact nI_le (by omega) (by omega)) (yy_wt (l := 1) rfl (by omega) (by decide) (by decide) (yy_wt (l := 2) rfl (by omega) (by decide) (by decide) (yy_wt (l := 3) rfl (by omega) (by decide) (by decide) ⟨vb, nm_r (e' := upd vc b 1) (by rw [eb]) ?_⟩)))
    rcases cd_l3 h1 h3 with rfl | rfl | rfl
    · refine br_t rfl (fin _ ?_)
      show nI (cd_wt q 1) + nI 1 + nI 32 + nI 256 = _
      rw [nI_add, nI_add, nI_add]
      rfl
    · refine br_f (by decide) (br_t rfl (fin _ ?_))
      show nI (cd_wt q 1) + nI 32 * (nI (cd_wt q 2) + nI 1) + nI 256 = _
      rw [nI_add, pk_mul, nI_add, nI_add]
      rfl
    · refine br_f (by decide) (br_f (by decide) (fin _ ?_))
      show nI (cd_wt q 1) + nI 32 * nI (cd_wt q 2) + nI 256 * (nI (cd_wt q 3) + nI 1) = _
      rw [nI_add, pk_mul, pk_mul, nI_add, nI_add]
      rfl
  | succ d ih =>
    intro i vo' vt' hi hf hg
    have vi : vp_in (nI i) 16 := vp_in_nI (by omega) (by omega)
    have ec : (nI i).toNatClampNeg = i := nI_clamp (by omega)
    obtain ⟨c1, c2, c3, c4⟩ := hC i (by omega)
    obtain ⟨hV1, hV2⟩ := cd_TB_V hT hG (p := i) (by omega)
    obtain ⟨o1, o2⟩ := hg i (by omega) (by omega)
    have e1 : vo' (nI i).toNatClampNeg = nI (A i) := by rw [ec]; exact o1
    have nx : ∀ t, (∀ e, B i = some e → t = nI (cd_gx q l e)) → wY_tailor_209 post (nI b) (nI l) (nI q) (nI m) (nI bw) (nI sh) (nI tp) fm (d + 1) (nI (i + 1)) vn vl vw vc (upd vo' i (nI (cd_gx q l (A i)))) (upd vt' i t) g1 g2 g3 g4 gs gk := fun t ht => by
      refine ih (i + 1) _ _ (by omega) (fun p hp => ?_) (fun p hp hp2 => ?_)
      · by_cases z : p = i
        · subst z; rw [pk_us, pk_us]; exact ⟨rfl, ht⟩
        · rw [pk_un z, pk_un z]; exact hf p (by omega)
      · rw [pk_un (by omega), pk_un (by omega)]; exact hg p (by omega) hp2
    have go : ∀ z0 : Int32, z0 = nI (cd_gx q l (A i)) → wY_tailor_267 post (wY_tailor_209 post (nI b) (nI l) (nI q) (nI m) (nI bw) (nI sh) (nI tp) fm (d + 1)) (nI b) (nI l) (nI q) (nI i) z0 (nI i) (nI m) (nI bw) (nI sh) (nI tp) fm vn vl vw vc vo' vt' g1 g2 g3 g4 gs gk := fun z0 hz => by
      subst hz
      refine ⟨vi, nm_r (e' := upd vo' i (nI (cd_gx q l (A i)))) (by rw [ec]) ⟨vi, ?_⟩⟩
      cases z : B i with
      | none =>
        rw [z] at c3
        exact br_f (by rw [ec, c3]; decide) ⟨vi, vi, nm_r (e' := upd vt' i (vt' i)) (by rw [ec]) (nm_r (nI_1 i) (nx _ (fun e he => by rw [z] at he; cases he)))⟩
      | some e =>
        rw [z] at c3
        have hVe := hV2 e z
        have e2 : vt' (nI i).toNatClampNeg = nI e := by rw [ec]; exact o2 e z
        refine br_t (by rw [ec, c3]; rfl) ⟨vi, yy_gb e2 hVe.1 hq h1 h3 (fun g => br_f cd_n10 ⟨vi, yy_un h1 h3 ⟨vi, nm_r (e' := upd vt' i (nI (cd_gx q l e))) ?_ (nm_r (nI_1 i) (nx _ (fun e' he' => ?_)))⟩⟩) (fun g => br_t rfl ⟨vi, vi, nm_r (e' := upd vt' i (vt' i)) (by rw [ec]) (nm_r (nI_1 i) (nx _ (fun e' he' => ?_)))⟩)⟩
        · rw [e2, ec, cd_gx_t g]
          exact congrArg (upd vt' i) (nI_add e (cd_un l))
        · rw [z] at he'; cases he'; rfl
        · rw [z] at he'; cases he'; rw [cd_gx_f g]; exact o2 e z
    refine br_f (by rw [cd_10]; exact nI_ge (by omega) (by omega)) ⟨vi, yy_gb e1 hV1.1 hq h1 h3 (fun g => br_f cd_n10 ⟨vi, yy_un h1 h3 (go _ ?_)⟩) (fun g => br_t rfl ⟨vi, go _ ?_⟩)⟩
    · rw [e1, cd_gx_t g]; exact nI_add (A i) (cd_un l)
    · rw [e1, cd_gx_f g]
theorem yq_tailor_go {a b l : Nat} (hT : cd_TB m G W A B) (hC : cd_YC m W A B vw vc vo vt) (hm : m ≤ 6) (hG : cd_OK G) (ha : a < 10) (hb : b < 10) (hab : ¬ a = b) (h1 : 1 ≤ l) (h3 : l ≤ 3)
    (K1 : cd_fit G (A a) l → ∀ vc' vo' vt', cd_YT m (cd_tG G (A a) b l) vw vc' vo' vt' → post (nI (cd_bl (A a) l)) (nI m, nI bw, nI sh, nI tp, fm, vn, vl, vw, vc', vo', vt', g1, g2, g3, g4, gs, gk)) (K0 : ¬ cd_fit G (A a) l → post (-3) (nI m, nI bw, nI sh, nI tp, fm, vn, vl, vw, vc, vo, vt, g1, g2, g3, g4, gs, gk)) : wpY_tailor post (nI m, nI bw, nI sh, nI tp, fm, vn, vl, vw, vc, vo, vt, g1, g2, g3, g4, gs, gk) (nI a) (nI b) (nI l) := by
  have hV := (cd_TB_V hT hG (p := a) (by omega)).1
  have hq := hV.1
  have hmx := cd_mx_b l
  have bw1 := cd_wt_b (A a) l
  have J : cd_fit G (A a) l → ∃ n, wY_tailor_209 post (nI b) (nI l) (nI (A a)) (nI m) (nI bw) (nI sh) (nI tp) fm n 0 vn vl vw vc vo vt g1 g2 g3 g4 gs gk := fun f =>
    ⟨10 + m + 1, yy_209 hT hC hm hG hq hb h1 h3 (K1 f) (10 + m) 0 vo vt (by omega) (fun p hp => absurd hp (Nat.not_lt_zero p)) (fun p _ hp => ⟨(hC p hp).2.1, (hC p hp).2.2.2⟩)⟩
  refine br_f (nI_pos (by omega)) (br_f (nI_nlt (a := 9) (by omega) (by decide)) (br_f (nI_pos (by omega)) (br_f (nI_nlt (a := 9) (by omega) (by decide)) (br_f (fun e => hab ((nI_eq (by omega) (by omega)).mp e)) (br_f (nI_nlt (b := 1) h1 (by omega)) (br_t (nI_le (b := 3) h3 (by decide)) ⟨vp_in_nI (by omega) (by omega), nm_r (e' := nI (A a)) (by rw [nI_clamp (by omega)]; exact (hC a (by omega)).2.1) ?_⟩))))))
  refine yy_mx h1 h3 ?_
  refine yy_wt rfl (by omega) h1 h3 ?_
  refine pk_le (cd_mx l) (cd_wt (A a) l) (fun z => ⟨10 + m + 1, yy_77 hT hC hm hG hq h1 h3 J K0 (10 + m) 0 0 (by omega) (Or.inr ⟨rfl, fun f => ?_⟩)⟩) (fun z => ⟨10 + m + 1, yy_77 hT hC hm hG hq h1 h3 J K0 (10 + m) 0 1 (by omega) (Or.inl ⟨rfl, z, fun p hp => absurd hp (Nat.not_lt_zero p)⟩)⟩)
  have := f.1
  omega
/-! the questions -/
theorem yq_el1 {x : Int32} (h : x < 0 ∨ nI 10 ≤ x) (k : post (-2) (nI m, nI bw, nI sh, nI tp, fm, vn, vl, vw, vc, vo, vt, g1, g2, g3, g4, gs, gk)) : wpY_elements post (nI m, nI bw, nI sh, nI tp, fm, vn, vl, vw, vc, vo, vt, g1, g2, g3, g4, gs, gk) x := by
  unfold wpY_elements
  exact yy_slot_f h (br_t rfl k)
theorem yq_el2 {s : Nat} (hD : cd_D m bw sh tp L c G) (hS : cd_ST L c vn vl) (hT : cd_TB m G W A B) (hC : cd_YC m W A B vw vc vo vt) (hs : s < 10)
    (K : ∀ fm a1 a2 a3 a4, fm = nI (cd_EL G c (12 * s) (12 * s + L s)).length → post fm (nI m, nI bw, nI sh, nI tp, fm, vn, vl, vw, vc, vo, vt, a1, a2, a3, a4, gs, gk)) : wpY_elements post (nI m, nI bw, nI sh, nI tp, fm, vn, vl, vw, vc, vo, vt, g1, g2, g3, g4, gs, gk) (nI s) := by
  unfold wpY_elements
  refine yy_slot_t hs (br_f cd_n10 ⟨vp_in_nI hs (by omega), ?_⟩)
  rw [cd_ST_l hS hs]
  exact yy_fe (p := 0) hT hC hD.1 hD.2.2.2.2.1 hD.2.2.1 hD.2.2.2.1 hs (Nat.zero_le _) (hD.2.2.2.2.2.1 s hs) (cd_CL_0 hD hS hs (Nat.le_refl _)) (fun a1 a2 a3 a4 _ => K _ a1 a2 a3 a4 rfl)
theorem yq_cmp1 {x y z : Int32} (h : (x < 0 ∨ nI 10 ≤ x) ∨ (∃ s, s < 10 ∧ x = nI s) ∧ (y < 0 ∨ nI 10 ≤ y)) (k : post (-2) (nI m, nI bw, nI sh, nI tp, fm, vn, vl, vw, vc, vo, vt, g1, g2, g3, g4, gs, gk)) : wpY_compare post (nI m, nI bw, nI sh, nI tp, fm, vn, vl, vw, vc, vo, vt, g1, g2, g3, g4, gs, gk) x y z := by
  unfold wpY_compare
  rcases h with h | ⟨⟨s, hs, rfl⟩, h⟩
  · exact yy_slot_f h (br_t rfl k)
  · refine yy_slot_t hs (br_f cd_n10 ?_)
    exact yy_slot_f h (br_t rfl k)
theorem yq_cmp2 {i j : Nat} {z : Int32} (hi : i < 10) (hj : j < 10) (h : z < 1 ∨ 4 < z) (k : post (-3) (nI m, nI bw, nI sh, nI tp, fm, vn, vl, vw, vc, vo, vt, g1, g2, g3, g4, gs, gk)) : wpY_compare post (nI m, nI bw, nI sh, nI tp, fm, vn, vl, vw, vc, vo, vt, g1, g2, g3, g4, gs, gk) (nI i) (nI j) z := by
  unfold wpY_compare
  refine yy_slot_t hi (br_f cd_n10 ?_)
  refine yy_slot_t hj (br_f cd_n10 ?_)
  exact yy_str_f h (br_t rfl k)
theorem yq_cmp3 {i j n : Nat} (hD : cd_D m bw sh tp L c G) (hS : cd_ST L c vn vl) (hT : cd_TB m G W A B) (hC : cd_YC m W A B vw vc vo vt) (hi : i < 10) (hj : j < 10) (hn1 : 1 ≤ n) (hn : n ≤ 4)
    (K : ∀ fm a1 a2 a3 a4 bs bk, post (cd_cm (cd_K sh tp bw L c G n i) (cd_K sh tp bw L c G n j)) (nI m, nI bw, nI sh, nI tp, fm, vn, vl, vw, vc, vo, vt, a1, a2, a3, a4, bs, bk)) : wpY_compare post (nI m, nI bw, nI sh, nI tp, fm, vn, vl, vw, vc, vo, vt, g1, g2, g3, g4, gs, gk) (nI i) (nI j) (nI n) := by
  unfold wpY_compare
  refine yy_slot_t hi (br_f cd_n10 ?_)
  refine yy_slot_t hj (br_f cd_n10 ?_)
  refine yy_str_t hn1 hn (br_f cd_n10 ?_)
  exact yy_cp hD hS hT hC hi hj hn K
theorem yq_ks1 {x z : Int32} (h : x < 0 ∨ nI 10 ≤ x) (k : post (-2) (nI m, nI bw, nI sh, nI tp, fm, vn, vl, vw, vc, vo, vt, g1, g2, g3, g4, gs, gk)) : wpY_keySize post (nI m, nI bw, nI sh, nI tp, fm, vn, vl, vw, vc, vo, vt, g1, g2, g3, g4, gs, gk) x z := by
  unfold wpY_keySize
  exact yy_slot_f h (br_t rfl k)
theorem yq_ks2 {i : Nat} {z : Int32} (hi : i < 10) (h : z < 1 ∨ 4 < z) (k : post (-3) (nI m, nI bw, nI sh, nI tp, fm, vn, vl, vw, vc, vo, vt, g1, g2, g3, g4, gs, gk)) : wpY_keySize post (nI m, nI bw, nI sh, nI tp, fm, vn, vl, vw, vc, vo, vt, g1, g2, g3, g4, gs, gk) (nI i) z := by
  unfold wpY_keySize
  refine yy_slot_t hi (br_f cd_n10 ?_)
  exact yy_str_f h (br_t rfl k)
theorem yq_ks3 {i n : Nat} (hD : cd_D m bw sh tp L c G) (hS : cd_ST L c vn vl) (hT : cd_TB m G W A B) (hC : cd_YC m W A B vw vc vo vt) (hi : i < 10) (hn1 : 1 ≤ n) (hn : n ≤ 4)
    (K : ∀ fm a1 a2 a3 a4 bs bk, post (nI (cd_K sh tp bw L c G n i).length) (nI m, nI bw, nI sh, nI tp, fm, vn, vl, vw, vc, vo, vt, a1, a2, a3, a4, bs, bk)) : wpY_keySize post (nI m, nI bw, nI sh, nI tp, fm, vn, vl, vw, vc, vo, vt, g1, g2, g3, g4, gs, gk) (nI i) (nI n) := by
  unfold wpY_keySize
  refine yy_slot_t hi (br_f cd_n10 ?_)
  refine yy_str_t hn1 hn (br_f cd_n10 ⟨vp_in_nI hi (by omega), ?_⟩)
  refine yy_ms (side := 0) (cd_ST_l hS hi) hD hS hT hC (by omega) hi hn (fun fm a1 a2 a3 a4 bs bk h1 _ => ?_)
  have := K fm a1 a2 a3 a4 bs bk
  rw [← h1.2.1] at this
  exact this
theorem yq_ka1 {x y z : Int32} (h : x < 0 ∨ nI 10 ≤ x) (k : post (-2) (nI m, nI bw, nI sh, nI tp, fm, vn, vl, vw, vc, vo, vt, g1, g2, g3, g4, gs, gk)) : wpY_keyAt post (nI m, nI bw, nI sh, nI tp, fm, vn, vl, vw, vc, vo, vt, g1, g2, g3, g4, gs, gk) x y z := by
  unfold wpY_keyAt
  exact yy_slot_f h (br_t rfl k)
theorem yq_ka2 {i : Nat} {y z : Int32} (hi : i < 10) (h : y < 1 ∨ 4 < y) (k : post (-3) (nI m, nI bw, nI sh, nI tp, fm, vn, vl, vw, vc, vo, vt, g1, g2, g3, g4, gs, gk)) : wpY_keyAt post (nI m, nI bw, nI sh, nI tp, fm, vn, vl, vw, vc, vo, vt, g1, g2, g3, g4, gs, gk) (nI i) y z := by
  unfold wpY_keyAt
  refine yy_slot_t hi (br_f cd_n10 ?_)
  exact yy_str_f h (br_t rfl k)
theorem yq_ka3 {i n : Nat} {z : Int32} (hD : cd_D m bw sh tp L c G) (hS : cd_ST L c vn vl) (hT : cd_TB m G W A B) (hC : cd_YC m W A B vw vc vo vt) (hi : i < 10) (hn1 : 1 ≤ n) (hn : n ≤ 4) (h : z < 0 ∨ nI (cd_K sh tp bw L c G n i).length ≤ z)
    (K : ∀ fm a1 a2 a3 a4 bs bk, post (-4) (nI m, nI bw, nI sh, nI tp, fm, vn, vl, vw, vc, vo, vt, a1, a2, a3, a4, bs, bk)) : wpY_keyAt post (nI m, nI bw, nI sh, nI tp, fm, vn, vl, vw, vc, vo, vt, g1, g2, g3, g4, gs, gk) (nI i) (nI n) z := by
  unfold wpY_keyAt
  refine yy_slot_t hi (br_f cd_n10 ?_)
  refine yy_str_t hn1 hn (br_f cd_n10 ⟨vp_in_nI hi (by omega), ?_⟩)
  refine yy_ms (side := 0) (cd_ST_l hS hi) hD hS hT hC (by omega) hi hn (fun fm a1 a2 a3 a4 bs bk h1 _ => br_c (fun _ => K fm a1 a2 a3 a4 bs bk) (fun q => br_t ?_ (K fm a1 a2 a3 a4 bs bk)))
  rw [h1.2.1]
  exact h.resolve_left q
theorem yq_ka4 {i n p : Nat} (hD : cd_D m bw sh tp L c G) (hS : cd_ST L c vn vl) (hT : cd_TB m G W A B) (hC : cd_YC m W A B vw vc vo vt) (hi : i < 10) (hn1 : 1 ≤ n) (hn : n ≤ 4) (h : p < (cd_K sh tp bw L c G n i).length)
    (K : ∀ fm a1 a2 a3 a4 bs bk, post (nI ((cd_K sh tp bw L c G n i).getD p 0)) (nI m, nI bw, nI sh, nI tp, fm, vn, vl, vw, vc, vo, vt, a1, a2, a3, a4, bs, bk)) : wpY_keyAt post (nI m, nI bw, nI sh, nI tp, fm, vn, vl, vw, vc, vo, vt, g1, g2, g3, g4, gs, gk) (nI i) (nI n) (nI p) := by
  unfold wpY_keyAt
  refine yy_slot_t hi (br_f cd_n10 ?_)
  refine yy_str_t hn1 hn (br_f cd_n10 ⟨vp_in_nI hi (by omega), ?_⟩)
  refine yy_ms (side := 0) (cd_ST_l hS hi) hD hS hT hC (by omega) hi hn (fun fm a1 a2 a3 a4 bs bk h1 _ => ?_)
  obtain ⟨q1, q2, q3, q4⟩ := h1
  refine br_f (nI_pos (by omega)) (br_f (by rw [q2]; exact nI_ge h (by omega)) ⟨vp_in_nI (by omega) (by omega), ?_⟩)
  have e := q1 p h
  rw [Nat.mul_zero, Nat.zero_add] at e
  rw [nI_clamp (by omega), e]
  exact K fm a1 a2 a3 a4 bs bk
theorem yq_rk1 {x z : Int32} (h : x < 0 ∨ nI 10 ≤ x) (k : post (-2) (nI m, nI bw, nI sh, nI tp, fm, vn, vl, vw, vc, vo, vt, g1, g2, g3, g4, gs, gk)) : wpY_rank post (nI m, nI bw, nI sh, nI tp, fm, vn, vl, vw, vc, vo, vt, g1, g2, g3, g4, gs, gk) x z := by
  unfold wpY_rank
  exact yy_slot_f h (br_t rfl k)
theorem yq_rk2 {i : Nat} {z : Int32} (hi : i < 10) (h : z < 1 ∨ 4 < z) (k : post (-3) (nI m, nI bw, nI sh, nI tp, fm, vn, vl, vw, vc, vo, vt, g1, g2, g3, g4, gs, gk)) : wpY_rank post (nI m, nI bw, nI sh, nI tp, fm, vn, vl, vw, vc, vo, vt, g1, g2, g3, g4, gs, gk) (nI i) z := by
  unfold wpY_rank
  refine yy_slot_t hi (br_f cd_n10 ?_)
  exact yy_str_f h (br_t rfl k)
theorem yq_rk3 {i n : Nat} (hD : cd_D m bw sh tp L c G) (hS : cd_ST L c vn vl) (hT : cd_TB m G W A B) (hC : cd_YC m W A B vw vc vo vt) (hi : i < 10) (hn1 : 1 ≤ n) (hn : n ≤ 4)
    (K : ∀ fm a1 a2 a3 a4 bs bk, post (nI (cd_rk sh tp bw L c G n i)) (nI m, nI bw, nI sh, nI tp, fm, vn, vl, vw, vc, vo, vt, a1, a2, a3, a4, bs, bk)) : wpY_rank post (nI m, nI bw, nI sh, nI tp, fm, vn, vl, vw, vc, vo, vt, g1, g2, g3, g4, gs, gk) (nI i) (nI n) := by
  unfold wpY_rank
  refine yy_slot_t hi (br_f cd_n10 ?_)
  refine yy_str_t hn1 hn (br_f cd_n10 ?_)
  exact ⟨11, yy_rk hD hS hT hC hi hn K 10 0 fm g1 g2 g3 g4 gs gk (by omega)⟩
theorem yq_nt1 {x z : Int32} (h : z < 1 ∨ 4 < z) (k : post (-3) (nI m, nI bw, nI sh, nI tp, fm, vn, vl, vw, vc, vo, vt, g1, g2, g3, g4, gs, gk)) : wpY_nth post (nI m, nI bw, nI sh, nI tp, fm, vn, vl, vw, vc, vo, vt, g1, g2, g3, g4, gs, gk) x z := by
  unfold wpY_nth
  exact yy_str_f h (br_t rfl k)
theorem yq_nt2 {x : Int32} {n : Nat} (hn1 : 1 ≤ n) (hn : n ≤ 4) (h : x < 0 ∨ nI 10 ≤ x) (k : post (-4) (nI m, nI bw, nI sh, nI tp, fm, vn, vl, vw, vc, vo, vt, g1, g2, g3, g4, gs, gk)) : wpY_nth post (nI m, nI bw, nI sh, nI tp, fm, vn, vl, vw, vc, vo, vt, g1, g2, g3, g4, gs, gk) x (nI n) := by
  unfold wpY_nth
  refine yy_str_t hn1 hn (br_f cd_n10 ?_)
  exact br_c (fun _ => k) (fun q => br_f (cd_nle (a := 9) (cd_hi (h.resolve_left q) (by decide) (by decide))) k)
theorem yq_nt3 {i n : Nat} (hD : cd_D m bw sh tp L c G) (hS : cd_ST L c vn vl) (hT : cd_TB m G W A B) (hC : cd_YC m W A B vw vc vo vt) (hi : i < 10) (hn1 : 1 ≤ n) (hn : n ≤ 4)
    (K : ∀ fm a1 a2 a3 a4 bs bk, post (nI (cd_nt sh tp bw L c G n i)) (nI m, nI bw, nI sh, nI tp, fm, vn, vl, vw, vc, vo, vt, a1, a2, a3, a4, bs, bk)) : wpY_nth post (nI m, nI bw, nI sh, nI tp, fm, vn, vl, vw, vc, vo, vt, g1, g2, g3, g4, gs, gk) (nI i) (nI n) := by
  unfold wpY_nth
  refine yy_str_t hn1 hn (br_f cd_n10 (br_f (nI_pos (by omega)) (br_t (nI_le (b := 9) (by omega) (by decide)) ?_)))
  exact ⟨11, yy_nt hD hS hT hC hi hn K 10 0 fm g1 g2 g3 g4 gs gk (by omega)⟩
theorem yq_kn1 {z : Int32} (h : z < 1 ∨ 4 < z) (k : post (-3) (nI m, nI bw, nI sh, nI tp, fm, vn, vl, vw, vc, vo, vt, g1, g2, g3, g4, gs, gk)) : wpY_kinds post (nI m, nI bw, nI sh, nI tp, fm, vn, vl, vw, vc, vo, vt, g1, g2, g3, g4, gs, gk) z := by
  unfold wpY_kinds
  exact yy_str_f h (br_t rfl k)
theorem yq_kn2 {n : Nat} (hD : cd_D m bw sh tp L c G) (hS : cd_ST L c vn vl) (hT : cd_TB m G W A B) (hC : cd_YC m W A B vw vc vo vt) (hn1 : 1 ≤ n) (hn : n ≤ 4)
    (K : ∀ fm a1 a2 a3 a4 bs bk, post (nI (cd_kn sh tp bw L c G n)) (nI m, nI bw, nI sh, nI tp, fm, vn, vl, vw, vc, vo, vt, a1, a2, a3, a4, bs, bk)) : wpY_kinds post (nI m, nI bw, nI sh, nI tp, fm, vn, vl, vw, vc, vo, vt, g1, g2, g3, g4, gs, gk) (nI n) := by
  unfold wpY_kinds
  refine yy_str_t hn1 hn (br_f cd_n10 ?_)
  exact ⟨11, yy_kn hD hS hT hC hn K 10 0 fm g1 g2 g3 g4 gs gk (by omega)⟩
theorem yq_fn1 {x y z t : Int32} (h : (x < 0 ∨ nI 10 ≤ x) ∨ (∃ s, s < 10 ∧ x = nI s) ∧ (y < 0 ∨ nI 10 ≤ y)) (k : post (-2) (nI m, nI bw, nI sh, nI tp, fm, vn, vl, vw, vc, vo, vt, g1, g2, g3, g4, gs, gk)) : wpY_find post (nI m, nI bw, nI sh, nI tp, fm, vn, vl, vw, vc, vo, vt, g1, g2, g3, g4, gs, gk) x y z t := by
  unfold wpY_find
  rcases h with h | ⟨⟨s, hs, rfl⟩, h⟩
  · exact yy_slot_f h (br_t rfl k)
  · refine yy_slot_t hs (br_f cd_n10 ?_)
    exact yy_slot_f h (br_t rfl k)
theorem yq_fn2 {i j : Nat} {z t : Int32} (hi : i < 10) (hj : j < 10) (h : z < 1 ∨ 4 < z) (k : post (-3) (nI m, nI bw, nI sh, nI tp, fm, vn, vl, vw, vc, vo, vt, g1, g2, g3, g4, gs, gk)) : wpY_find post (nI m, nI bw, nI sh, nI tp, fm, vn, vl, vw, vc, vo, vt, g1, g2, g3, g4, gs, gk) (nI i) (nI j) z t := by
  unfold wpY_find
  refine yy_slot_t hi (br_f cd_n10 ?_)
  refine yy_slot_t hj (br_f cd_n10 ?_)
  exact yy_str_f h (br_t rfl k)
theorem yq_fn3 {i j n : Nat} {x : Int32} (hD : cd_D m bw sh tp L c G) (hS : cd_ST L c vn vl) (hT : cd_TB m G W A B) (hC : cd_YC m W A B vw vc vo vt) (hi : i < 10) (hj : j < 10) (hn1 : 1 ≤ n) (hn : n ≤ 4)
    (K : ∀ fm a1 a2 a3 a4 bs bk, post (cd_fn sh tp bw L c G n i j x) (nI m, nI bw, nI sh, nI tp, fm, vn, vl, vw, vc, vo, vt, a1, a2, a3, a4, bs, bk)) : wpY_find post (nI m, nI bw, nI sh, nI tp, fm, vn, vl, vw, vc, vo, vt, g1, g2, g3, g4, gs, gk) (nI i) (nI j) (nI n) x := by
  unfold wpY_find
  refine yy_slot_t hi (br_f cd_n10 ?_)
  refine yy_slot_t hj (br_f cd_n10 ?_)
  refine yy_str_t hn1 hn (br_f cd_n10 ⟨vp_in_nI hj (by omega), ?_⟩)
  refine yy_ms (side := 1) (cd_ST_l hS hj) hD hS hT hC (by omega) hj hn (fun fm a1 a2 a3 a4 bs bk h1 _ => ?_)
  exact ⟨L i + 1 + 1, yy_fn hD hS hT hC hi hj hn (L i + 1) 0 fm a1 a2 a3 a4 bs bk (by omega) h1 K⟩
end
end
section
/-! settings; the start; the relation's table, both sides -/
section
variable {m bw sh tp : Nat} {al an aw ae e1 e2 e3 e4 ek el : Nat → Int32} {post : Int32 → SX → Prop}
theorem xq_st1 {x y z : Int32} (h : x < 0 ∨ nI 2 ≤ x) (k : post (-1) (nI m, nI bw, nI sh, nI tp, al, an, aw, ae, e1, e2, e3, e4, ek, el)) : wpX_settings post (nI m, nI bw, nI sh, nI tp, al, an, aw, ae, e1, e2, e3, e4, ek, el) x y z :=
  br_c (fun _ => k) (fun q => br_t (cd_hi (a := 1) (h.resolve_left q) (by decide) (by decide)) k)
theorem xq_st2 {s : Nat} {y z : Int32} (hs : s < 2) (h : y < 0 ∨ nI 2 ≤ y) (k : post (-1) (nI m, nI bw, nI sh, nI tp, al, an, aw, ae, e1, e2, e3, e4, ek, el)) : wpX_settings post (nI m, nI bw, nI sh, nI tp, al, an, aw, ae, e1, e2, e3, e4, ek, el) (nI s) y z :=
  br_f (nI_pos (by omega)) (br_f (nI_nlt (a := 1) (by omega) (by decide)) (br_c (fun _ => k) (fun q => br_f (cd_nle (a := 1) (cd_hi (h.resolve_left q) (by decide) (by decide))) k)))
theorem xq_st3 {s t : Nat} {z : Int32} (hs : s < 2) (ht : t < 2) (h : z < 0 ∨ nI 31 ≤ z) (k : post (-2) (nI m, nI bw, nI sh, nI tp, al, an, aw, ae, e1, e2, e3, e4, ek, el)) : wpX_settings post (nI m, nI bw, nI sh, nI tp, al, an, aw, ae, e1, e2, e3, e4, ek, el) (nI s) (nI t) z :=
  br_f (nI_pos (by omega)) (br_f (nI_nlt (a := 1) (by omega) (by decide)) (br_f (nI_pos (by omega)) (br_t (nI_le (b := 1) (by omega) (by decide)) (br_c (fun _ => k) (fun q => br_f (cd_nle (a := 30) (cd_hi (h.resolve_left q) (by decide) (by decide))) k)))))
theorem xq_st4 {s t r : Nat} (hs : s < 2) (ht : t < 2) (hr : r < 31) (k : post 1 (nI m, (nI s), (nI t), (nI r), al, an, aw, ae, e1, e2, e3, e4, ek, el)) : wpX_settings post (nI m, nI bw, nI sh, nI tp, al, an, aw, ae, e1, e2, e3, e4, ek, el) (nI s) (nI t) (nI r) :=
  br_f (nI_pos (by omega)) (br_f (nI_nlt (a := 1) (by omega) (by decide)) (br_f (nI_pos (by omega)) (br_t (nI_le (b := 1) (by omega) (by decide)) (br_f (nI_pos (by omega)) (br_t (nI_le (b := 30) (by omega) (by decide)) k)))))
end
section
variable {m bw sh tp : Nat} {fm : Int32} {vn vl vw vc vo vt g1 g2 g3 g4 gs gk : Nat → Int32} {post : Int32 → SY → Prop}
theorem yq_st1 {x y z : Int32} (h : x < 0 ∨ nI 2 ≤ x) (k : post (-1) (nI m, nI bw, nI sh, nI tp, fm, vn, vl, vw, vc, vo, vt, g1, g2, g3, g4, gs, gk)) : wpY_settings post (nI m, nI bw, nI sh, nI tp, fm, vn, vl, vw, vc, vo, vt, g1, g2, g3, g4, gs, gk) x y z :=
  br_c (fun _ => k) (fun q => br_t (cd_hi (a := 1) (h.resolve_left q) (by decide) (by decide)) k)
theorem yq_st2 {s : Nat} {y z : Int32} (hs : s < 2) (h : y < 0 ∨ nI 2 ≤ y) (k : post (-1) (nI m, nI bw, nI sh, nI tp, fm, vn, vl, vw, vc, vo, vt, g1, g2, g3, g4, gs, gk)) : wpY_settings post (nI m, nI bw, nI sh, nI tp, fm, vn, vl, vw, vc, vo, vt, g1, g2, g3, g4, gs, gk) (nI s) y z :=
  br_f (nI_pos (by omega)) (br_f (nI_nlt (a := 1) (by omega) (by decide)) (br_c (fun _ => k) (fun q => br_f (cd_nle (a := 1) (cd_hi (h.resolve_left q) (by decide) (by decide))) k)))
theorem yq_st3 {s t : Nat} {z : Int32} (hs : s < 2) (ht : t < 2) (h : z < 0 ∨ nI 31 ≤ z) (k : post (-2) (nI m, nI bw, nI sh, nI tp, fm, vn, vl, vw, vc, vo, vt, g1, g2, g3, g4, gs, gk)) : wpY_settings post (nI m, nI bw, nI sh, nI tp, fm, vn, vl, vw, vc, vo, vt, g1, g2, g3, g4, gs, gk) (nI s) (nI t) z :=
  br_f (nI_pos (by omega)) (br_f (nI_nlt (a := 1) (by omega) (by decide)) (br_f (nI_pos (by omega)) (br_t (nI_le (b := 1) (by omega) (by decide)) (br_c (fun _ => k) (fun q => br_f (cd_nle (a := 30) (cd_hi (h.resolve_left q) (by decide) (by decide))) k)))))
theorem yq_st4 {s t r : Nat} (hs : s < 2) (ht : t < 2) (hr : r < 31) (k : post 1 (nI m, (nI s), (nI t), (nI r), fm, vn, vl, vw, vc, vo, vt, g1, g2, g3, g4, gs, gk)) : wpY_settings post (nI m, nI bw, nI sh, nI tp, fm, vn, vl, vw, vc, vo, vt, g1, g2, g3, g4, gs, gk) (nI s) (nI t) (nI r) :=
  br_f (nI_pos (by omega)) (br_f (nI_nlt (a := 1) (by omega) (by decide)) (br_f (nI_pos (by omega)) (br_t (nI_le (b := 1) (by omega) (by decide)) (br_f (nI_pos (by omega)) (br_t (nI_le (b := 30) (by omega) (by decide)) k)))))
end
theorem cd_lvl (x : Int32) : (x < 1 ∨ 3 < x) ∨ ∃ s : Nat, 1 ≤ s ∧ s ≤ 3 ∧ x = nI s := by
  rcases pk_ix x (n := 4) (by decide) with h | h | ⟨j, hj, rfl⟩
  · exact Or.inl (Or.inl (cd_lo (b := 1) h (by decide)))
  · exact Or.inl (Or.inr (cd_hi (a := 3) h (by decide) (by decide)))
  · by_cases z : j = 0
    · subst z
      exact Or.inl (Or.inl (by decide))
    · exact Or.inr ⟨j, by omega, by omega, rfl⟩
theorem cd_in (x : Int32) {n : Nat} (hn : n < 2 ^ 31) : (x < 0 ∨ nI n ≤ x) ∨ ∃ j : Nat, j < n ∧ x = nI j := by
  rcases pk_ix x hn with h | h | h
  · exact Or.inl (Or.inl h)
  · exact Or.inl (Or.inr h)
  · exact Or.inr h
theorem cd_TB_A {m m' : Nat} {G : Nat → Option (Nat × Option Nat)} {W A W' A' : Nat → Nat} {B B' : Nat → Option Nat} (h : cd_TB m G W A B) (h' : cd_TB m' G W' A' B') {a : Nat} (ha : a < 10) : A' a = A a := by
  have e := (h.1 a (by omega)).2
  have e' := (h'.1 a (by omega)).2
  rw [h.2.1 a ha] at e
  rw [h'.2.1 a ha, e] at e'
  exact (congrArg Prod.fst (Option.some.inj e')).symm
theorem cd_TB_10 {m : Nat} {G : Nat → Option (Nat × Option Nat)} {W A : Nat → Nat} {B : Nat → Option Nat} (h : cd_TB m G W A B) {w : Nat} (hw : 2 ≤ cd_wl w) (p : Nat) (e : W p = w) : 10 ≤ p := by
  by_cases z : p < 10
  · rw [h.2.1 p z] at e
    have := cd_wl_1 z
    rw [e] at this
    omega
  · omega
/-! the start -/
theorem x0_2 {post : SX → Prop} (K : ∀ aw ae, cd_XC 0 (fun p => p + 1) (fun p => p + 1 + 288) (fun _ => none) aw ae → post ((nI 0), (nI 0), (nI 0), (nI 0), (fun _ => 0), (fun _ => 0), aw, ae, (fun _ => 0), (fun _ => 0), (fun _ => 0), (fun _ => 0), (fun _ => 0), (fun _ => 0))) :
    ∀ d i aw ae, i + d = 16 → 10 ≤ i → (∀ p, p < 10 → aw p = nI (p + 1) ∧ ae (2 * p) = nI (p + 1 + 288) ∧ ae (2 * p + 1) = -1) → (∀ p, 10 ≤ p → p < i → ae (2 * p) = -1 ∧ ae (2 * p + 1) = -1) →
      wX_init_141 post (d + 1) (nI i) (nI 0) (nI 0) (nI 0) (nI 0) (fun _ => 0) (fun _ => 0) aw ae (fun _ => 0) (fun _ => 0) (fun _ => 0) (fun _ => 0) (fun _ => 0) (fun _ => 0) := by
  intro d
  induction d with
  | zero =>
    intro i aw ae hi h10 h1 h2
    obtain rfl : i = 16 := by omega
    exact br_t (by decide) (K aw ae ⟨fun p hp => h1 p (by omega), fun p hp hp2 => h2 p (by omega) hp2⟩)
  | succ d ih =>
    intro i aw ae hi h10 h1 h2
    refine br_f (nI_ge (b := 16) (by omega) (by decide)) ?_
    refine xx_set (p := i) (by omega) (nm_r (nI_1 i) (ih (i + 1) _ _ (by omega) (by omega) (fun p hp => ?_) (fun p hp hp2 => ?_)))
    · rw [pk_un (by omega), pk_un (by omega), pk_un (by omega), pk_un (by omega), pk_un (by omega)]
      exact h1 p hp
    · by_cases z : p = i
      · subst z
        rw [pk_un (by omega), pk_us, pk_us]
        exact ⟨rfl, rfl⟩
      · rw [pk_un (by omega), pk_un (by omega), pk_un (by omega), pk_un (by omega)]
        exact h2 p hp (by omega)
theorem x0_1 {post : SX → Prop} (K : ∀ aw ae, cd_XC 0 (fun p => p + 1) (fun p => p + 1 + 288) (fun _ => none) aw ae → post ((nI 0), (nI 0), (nI 0), (nI 0), (fun _ => 0), (fun _ => 0), aw, ae, (fun _ => 0), (fun _ => 0), (fun _ => 0), (fun _ => 0), (fun _ => 0), (fun _ => 0))) :
    ∀ d i aw ae, i + d = 10 → (∀ p, p < i → aw p = nI (p + 1) ∧ ae (2 * p) = nI (p + 1 + 288) ∧ ae (2 * p + 1) = -1) →
      wX_init_107 post (d + 1) (nI i) (nI 0) (nI 0) (nI 0) (nI 0) (fun _ => 0) (fun _ => 0) aw ae (fun _ => 0) (fun _ => 0) (fun _ => 0) (fun _ => 0) (fun _ => 0) (fun _ => 0) := by
  intro d
  induction d with
  | zero =>
    intro i aw ae hi h1
    obtain rfl : i = 10 := by omega
    exact br_t (by decide) ⟨7, x0_2 K 6 10 aw ae (by omega) (by omega) h1 (fun p hp hp2 => absurd hp2 (by omega))⟩
  | succ d ih =>
    intro i aw ae hi h1
    have e : nI i + 1 + 32 + 256 = nI (i + 1 + 288) := by
      show nI i + nI 1 + nI 32 + nI 256 = _
      rw [nI_add, nI_add, nI_add]
    refine br_f (nI_ge (b := 10) (by omega) (by decide)) ?_
    refine xx_set (p := i) (by omega) (nm_r (nI_1 i) (ih (i + 1) _ _ (by omega) (fun p hp => ?_)))
    by_cases z : p = i
    · subst z
      rw [pk_us, pk_un (by omega), pk_us, pk_us, e]
      exact ⟨nI_1 p, rfl, rfl⟩
    · rw [pk_un (by omega), pk_un (by omega), pk_un (by omega), pk_un (by omega), pk_un (by omega)]
      exact h1 p (by omega)
theorem y0_1 {post : SY → Prop} (K : ∀ vw vc vo, cd_YC 0 (fun p => p + 1) (fun p => p + 1 + 288) (fun _ => none) vw vc vo (fun _ => 0) → post ((nI 0), (nI 0), (nI 0), (nI 0), 0, (fun _ => 0), (fun _ => 0), vw, vc, vo, (fun _ => 0), (fun _ => 0), (fun _ => 0), (fun _ => 0), (fun _ => 0), (fun _ => 0), (fun _ => 0))) :
    ∀ d i vw vc vo, i + d = 10 → (∀ p, p < i → vw p = nI (p + 1) ∧ vo p = nI (p + 1 + 288) ∧ vc p = 1) →
      wY_init_102 post (nI 0) (nI 0) (nI 0) (nI 0) 0 (d + 1) (nI i) (fun _ => 0) (fun _ => 0) vw vc vo (fun _ => 0) (fun _ => 0) (fun _ => 0) (fun _ => 0) (fun _ => 0) (fun _ => 0) (fun _ => 0) := by
  intro d
  induction d with
  | zero =>
    intro i vw vc vo hi h1
    obtain rfl : i = 10 := by omega
    exact br_t (by decide) (K vw vc vo (fun p hp => ⟨(h1 p (by omega)).1, (h1 p (by omega)).2.1, (h1 p (by omega)).2.2, fun e he => by cases he⟩))
  | succ d ih =>
    intro i vw vc vo hi h1
    have e : nI i + 1 + 32 + 256 = nI (i + 1 + 288) := by
      show nI i + nI 1 + nI 32 + nI 256 = _
      rw [nI_add, nI_add, nI_add]
    have vi : vp_in (nI i) 16 := vp_in_nI (by omega) (by omega)
    have ec : (nI i).toNatClampNeg = i := nI_clamp (by omega)
    refine br_f (nI_ge (b := 10) (by omega) (by decide)) ⟨vi, nm_r (e' := upd vw i (nI (i + 1))) (by rw [ec, nI_1]) ⟨vi, nm_r (e' := upd vc i 1) (by rw [ec]) ⟨vi, nm_r (e' := upd vo i (nI (i + 1 + 288))) (by rw [ec, e]) (nm_r (nI_1 i) (ih (i + 1) _ _ _ (by omega) (fun p hp => ?_)))⟩⟩⟩
    by_cases z : p = i
    · subst z
      rw [pk_us, pk_us, pk_us]
      exact ⟨rfl, rfl, rfl⟩
    · rw [pk_un z, pk_un z, pk_un z]
      exact h1 p (by omega)
end
section
/-! what is owed -/
theorem i_up {k : Nat} {u : SX} {v : SY} (h : i_Rel k u v) : i_Rel (k + 5) u v := h
theorem i_vc0 : wpX_init (fun u => wpY_init (fun v => i_Rel 0 u v)) := by
  refine ⟨11, x0_1 (fun aw ae hX => ?_) 10 0 (fun _ => 0) (fun _ => 0) (by omega) (fun p hp => absurd hp (Nat.not_lt_zero p))⟩
  refine ⟨11, y0_1 (fun vw vc vo hY => ?_) 10 0 (fun _ => 0) (fun _ => 0) (fun _ => 0) (by omega) (fun p hp => absurd hp (Nat.not_lt_zero p))⟩
  exact cd_R cd_D_0 cd_ST_0 (cd_XT_i cd_TB_0 hX) cd_ST_0 (cd_YT_i cd_TB_0 hY)
theorem i_vc_put {k : Nat} {u : SX} {v : SY} (I : i_Rel k u v) (hk : k + 5 ≤ 2560) (v1 : Int32) (v2 : Int32) : wpX_put (fun r u' => wpY_put (fun r' v' => r' = r ∧ i_Rel (k + 5) u' v') v v1 v2) u v1 v2 := by
  obtain ⟨m, bw, sh, tp, L, c, G, al, an, aw, ae, e1, e2, e3, e4, ek, el, fm, vn, vl, vw, vc, vo, vt, g1, g2, g3, g4, gs, gk, rfl, rfl, hD, hSx, hX, hSy, hY⟩ := I
  rcases cd_in v1 (n := 10) (by decide) with h | ⟨s, hs, rfl⟩
  · exact xq_put1 h (yq_put1 h ⟨rfl, cd_R hD hSx hX hSy hY⟩)
  rcases cd_in v2 (n := 10) (by decide) with h | ⟨x, hx, rfl⟩
  · exact xq_put2 hs h (yq_put2 hs h ⟨rfl, cd_R hD hSx hX hSy hY⟩)
  have hL := hD.2.2.2.2.2.1 s hs
  by_cases z : L s < 12
  · exact xq_put4 hSx hs hx z (yq_put4 hSy hs hx z ⟨rfl, cd_R (cd_D_put hD z hx) (cd_ST_put hSx) hX (cd_ST_put hSy) hY⟩)
  · exact xq_put3 hSx hs hx hL z (yq_put3 hSy hs hx hL z ⟨rfl, cd_R hD hSx hX hSy hY⟩)
theorem i_vc_take {k : Nat} {u : SX} {v : SY} (I : i_Rel k u v) (hk : k + 5 ≤ 2560) (v1 : Int32) : wpX_take (fun r u' => wpY_take (fun r' v' => r' = r ∧ i_Rel (k + 5) u' v') v v1) u v1 := by
  obtain ⟨m, bw, sh, tp, L, c, G, al, an, aw, ae, e1, e2, e3, e4, ek, el, fm, vn, vl, vw, vc, vo, vt, g1, g2, g3, g4, gs, gk, rfl, rfl, hD, hSx, hX, hSy, hY⟩ := I
  rcases cd_in v1 (n := 10) (by decide) with h | ⟨s, hs, rfl⟩
  · exact xq_take1 h (yq_take1 h ⟨rfl, cd_R hD hSx hX hSy hY⟩)
  have hL := hD.2.2.2.2.2.1 s hs
  by_cases z : L s = 0
  · exact xq_take2 hSx hs z (yq_take2 hSy hs z ⟨rfl, cd_R hD hSx hX hSy hY⟩)
  · obtain ⟨n, hn⟩ : ∃ n, L s = n + 1 := ⟨L s - 1, by omega⟩
    exact xq_take3 hSx hs hL hn (yq_take3 hSy hs hL hn ⟨rfl, cd_R (cd_D_take hD hn) (cd_ST_take hSx hn) hX (cd_ST_take hSy hn) hY⟩)
theorem i_vc_copy {k : Nat} {u : SX} {v : SY} (I : i_Rel k u v) (hk : k + 5 ≤ 2560) (v1 : Int32) (v2 : Int32) : wpX_copy (fun r u' => wpY_copy (fun r' v' => r' = r ∧ i_Rel (k + 5) u' v') v v1 v2) u v1 v2 := by
  obtain ⟨m, bw, sh, tp, L, c, G, al, an, aw, ae, e1, e2, e3, e4, ek, el, fm, vn, vl, vw, vc, vo, vt, g1, g2, g3, g4, gs, gk, rfl, rfl, hD, hSx, hX, hSy, hY⟩ := I
  rcases cd_in v1 (n := 10) (by decide) with h | ⟨s, hs, rfl⟩
  · exact xq_copy1 h (yq_copy1 h ⟨rfl, cd_R hD hSx hX hSy hY⟩)
  rcases cd_in v2 (n := 10) (by decide) with h | ⟨o, ho, rfl⟩
  · exact xq_copy2 hs h (yq_copy2 hs h ⟨rfl, cd_R hD hSx hX hSy hY⟩)
  have hL := hD.2.2.2.2.2.1
  exact xq_copy3 hSx hs ho (yq_copy3 hSy hs ho (hL o ho) ⟨rfl, cd_R (cd_D_copy hD ho) (cd_ST_copy hSx hs ho hL (hL o ho) (Nat.le_refl _)) hX (cd_ST_copy hSy hs ho hL (Nat.le_refl _) (hL o ho)) hY⟩)
theorem i_vc_entry {k : Nat} {u : SX} {v : SY} (I : i_Rel k u v) (hk : k + 5 ≤ 2560) (v1 : Int32) (v2 : Int32) (v3 : Int32) : wpX_entry (fun r u' => wpY_entry (fun r' v' => r' = r ∧ i_Rel (k + 5) u' v') v v1 v2 v3) u v1 v2 v3 := by
  obtain ⟨m, bw, sh, tp, L, c, G, al, an, aw, ae, e1, e2, e3, e4, ek, el, fm, vn, vl, vw, vc, vo, vt, g1, g2, g3, g4, gs, gk, rfl, rfl, hD, hSx, hX, hSy, hY⟩ := I
  obtain ⟨W, A, B, hT, hC1, hC2⟩ := id hX
  have hC : cd_XC m W A B aw ae := ⟨hC1, hC2⟩
  obtain ⟨W', A', B', hT', hC'⟩ := id hY
  have R : ∀ fm', i_Rel (k + 5) (nI m, nI bw, nI sh, nI tp, al, an, aw, ae, e1, e2, e3, e4, ek, el) (nI m, nI bw, nI sh, nI tp, fm', vn, vl, vw, vc, vo, vt, g1, g2, g3, g4, gs, gk) := fun fm' => cd_R hD hSx hX hSy hY
  have hm := hD.1
  have hG := hD.2.2.2.2.1
  have bad : (v1 < 0 ∨ ∃ w : Nat, w < 2 ^ 31 ∧ v1 = nI w ∧ cd_wk w = 0) ∨ ∃ w : Nat, w < 1331 ∧ v1 = nI w ∧ ¬ cd_wl w = 0 := by
    rcases cd_wc v1 with h | ⟨w, hw, rfl⟩
    · exact Or.inl (Or.inl h)
    · by_cases z : cd_wk w = 0
      · exact Or.inl (Or.inr ⟨w, hw, rfl, z⟩)
      · by_cases y : w < 1331
        · rw [cd_wk_t y] at z
          exact Or.inr ⟨w, y, rfl, z⟩
        · exact absurd (cd_wk_f y) z
  rcases bad with h | ⟨w, hw, rfl, hl⟩
  · exact xq_entry1 h (yq_entry1 h ⟨rfl, R _⟩)
  rcases cd_ec v2 with h | ⟨a, ha, rfl⟩
  · exact xq_entry2 hw hl h (yq_entry2 hw hl h ⟨rfl, R _⟩)
  have two : ((v3 < 0 ∨ ∃ e : Nat, e < 2 ^ 31 ∧ v3 = nI e ∧ ¬ cd_V e) ∧ ¬ v3 = -1) ∨ ∃ b : Option Nat, v3 = cd_en b ∧ ∀ e, b = some e → cd_V e := by
    by_cases z : v3 = -1
    · exact Or.inr ⟨none, z, fun e he => by cases he⟩
    · rcases cd_ec v3 with h | ⟨e, he, rfl⟩
      · exact Or.inl ⟨h, z⟩
      · exact Or.inr ⟨some e, rfl, fun e' he' => by cases he'; exact he⟩
  rcases two with ⟨h, h1⟩ | ⟨b, rfl, hb⟩
  · exact xq_entry3 hw hl ha h h1 (yq_entry3 hw hl ha h h1 ⟨rfl, R _⟩)
  refine xq_entry_go hw hl ha hb ?_
  rcases Classical.em (G w = none) with z | z
  · by_cases y : m = 6
    · exact xq_entry4 hT hC y hw z (yq_entry_go hw hl ha hb (yq_entry4 hT' hC' y hw z ⟨rfl, R _⟩))
    · exact xq_entry5 hT hC (by omega) hw z (yq_entry_go hw hl ha hb (yq_entry5 hT' hC' (by omega) hw z hb ⟨rfl, cd_R (cd_D_G hD (by omega) (cd_OK_up hG ha hb)) hSx (cd_XT_new hT hC (by omega) z) hSy (cd_YT_new hT' hC' (by omega) z)⟩))
  · refine xq_entry6 hT hC hm hw z (fun p hp e => yq_entry_go hw hl ha hb (yq_entry6 hT' hC' hm hw z hb (fun q hq e' => ⟨rfl, ?_⟩)))
    subst e
    have x1 := cd_XT_set hT hC (a := a) (b := b) hp
    have y1 := cd_YT_set hT' hC' (a := a) (b := b) hq
    rw [e'] at y1
    exact cd_R (cd_D_G hD hm (cd_OK_up hG ha hb)) hSx x1 hSy y1
theorem i_vc_forget {k : Nat} {u : SX} {v : SY} (I : i_Rel k u v) (hk : k + 5 ≤ 2560) (v1 : Int32) : wpX_forget (fun r u' => wpY_forget (fun r' v' => r' = r ∧ i_Rel (k + 5) u' v') v v1) u v1 := by
  obtain ⟨m, bw, sh, tp, L, c, G, al, an, aw, ae, e1, e2, e3, e4, ek, el, fm, vn, vl, vw, vc, vo, vt, g1, g2, g3, g4, gs, gk, rfl, rfl, hD, hSx, hX, hSy, hY⟩ := I
  obtain ⟨W, A, B, hT, hC1, hC2⟩ := id hX
  have hC : cd_XC m W A B aw ae := ⟨hC1, hC2⟩
  obtain ⟨W', A', B', hT', hC'⟩ := id hY
  have R : i_Rel (k + 5) (nI m, nI bw, nI sh, nI tp, al, an, aw, ae, e1, e2, e3, e4, ek, el) (nI m, nI bw, nI sh, nI tp, fm, vn, vl, vw, vc, vo, vt, g1, g2, g3, g4, gs, gk) := cd_R hD hSx hX hSy hY
  have hm := hD.1
  have hG := hD.2.2.2.2.1
  have bad : (v1 < 0 ∨ ∃ w : Nat, w < 2 ^ 31 ∧ v1 = nI w ∧ cd_wk w < 2) ∨ ∃ w : Nat, w < 1331 ∧ v1 = nI w ∧ 2 ≤ cd_wl w := by
    rcases cd_wc v1 with h | ⟨w, hw, rfl⟩
    · exact Or.inl (Or.inl h)
    · by_cases z : cd_wk w < 2
      · exact Or.inl (Or.inr ⟨w, hw, rfl, z⟩)
      · by_cases y : w < 1331
        · rw [cd_wk_t y] at z
          exact Or.inr ⟨w, y, rfl, by omega⟩
        · rw [cd_wk_f y] at z
          exact absurd z (by omega)
  rcases bad with h | ⟨w, hw, rfl, hl⟩
  · exact xq_forget1 h (yq_forget1 h ⟨rfl, R⟩)
  rcases Classical.em (G w = none) with z | z
  · exact xq_forget2 hT hC hm hw hl z (yq_forget2 hT' hC' hm hw hl z ⟨rfl, R⟩)
  · obtain ⟨p0, hp0, e0⟩ := hT.2.2.2 w z
    have h10 := cd_TB_10 hT hl p0 e0
    obtain ⟨n, rfl⟩ : ∃ n, m = n + 1 := ⟨m - 1, by omega⟩
    refine xq_forget3 hT hC (by omega) hw hl z (fun p hp e => yq_forget3 hT' hC' (by omega) hw hl z (fun q _ e' => cd_TB_10 hT' hl q e') (fun q hq e' => ⟨rfl, ?_⟩))
    have x1 := cd_XT_swap hT hC (cd_TB_10 hT hl p e) hp
    have y1 := cd_YT_shift hT' hC' (cd_TB_10 hT' hl q e') hq
    rw [e] at x1
    rw [e'] at y1
    exact cd_R (cd_D_G hD (by omega) (cd_OK_no hG hl)) hSx x1 hSy y1
theorem i_vc_tailor {k : Nat} {u : SX} {v : SY} (I : i_Rel k u v) (hk : k + 5 ≤ 2560) (v1 : Int32) (v2 : Int32) (v3 : Int32) : wpX_tailor (fun r u' => wpY_tailor (fun r' v' => r' = r ∧ i_Rel (k + 5) u' v') v v1 v2 v3) u v1 v2 v3 := by
  obtain ⟨m, bw, sh, tp, L, c, G, al, an, aw, ae, e1, e2, e3, e4, ek, el, fm, vn, vl, vw, vc, vo, vt, g1, g2, g3, g4, gs, gk, rfl, rfl, hD, hSx, hX, hSy, hY⟩ := I
  obtain ⟨W, A, B, hT, hC1, hC2⟩ := id hX
  have hC : cd_XC m W A B aw ae := ⟨hC1, hC2⟩
  obtain ⟨W', A', B', hT', hC'⟩ := id hY
  have R : i_Rel (k + 5) (nI m, nI bw, nI sh, nI tp, al, an, aw, ae, e1, e2, e3, e4, ek, el) (nI m, nI bw, nI sh, nI tp, fm, vn, vl, vw, vc, vo, vt, g1, g2, g3, g4, gs, gk) := cd_R hD hSx hX hSy hY
  have hm := hD.1
  have hG := hD.2.2.2.2.1
  rcases cd_in v1 (n := 10) (by decide) with h | ⟨a, ha, rfl⟩
  · exact xq_tailor1 (Or.inl h) (yq_tailor1 (Or.inl h) ⟨rfl, R⟩)
  rcases cd_in v2 (n := 10) (by decide) with h | ⟨b, hb, rfl⟩
  · exact xq_tailor1 (Or.inr (Or.inl ⟨h, a, ha, rfl⟩)) (yq_tailor1 (Or.inr (Or.inl ⟨h, a, ha, rfl⟩)) ⟨rfl, R⟩)
  by_cases hab : a = b
  · subst hab
    exact xq_tailor1 (Or.inr (Or.inr ⟨a, ha, rfl, rfl⟩)) (yq_tailor1 (Or.inr (Or.inr ⟨a, ha, rfl, rfl⟩)) ⟨rfl, R⟩)
  rcases cd_lvl v3 with h | ⟨l, h1, h3, rfl⟩
  · exact xq_tailor2 ha hb hab h (yq_tailor2 ha hb hab h ⟨rfl, R⟩)
  have eA := cd_TB_A hT hT' ha
  have hV := (cd_TB_V hT hG (p := a) (by omega)).1
  rcases Classical.em (cd_fit G (A a) l) with f | f
  · refine xq_tailor4 hT hC hm hG ha hb hab h1 h3 f (fun aw' ae' hX' => yq_tailor_go hT' hC' hm hG ha hb hab h1 h3 (fun f' vc' vo' vt' hY' => ?_) (fun f' => absurd f (by rw [← eA]; exact f')))
    rw [eA] at hY' ⊢
    exact ⟨rfl, cd_R (cd_D_G hD hm (cd_OK_tG hG h1 h3 hV f)) hSx hX' hSy hY'⟩
  · exact xq_tailor3 hT hC hm hG ha hb hab h1 h3 f (yq_tailor_go hT' hC' hm hG ha hb hab h1 h3 (fun f' => absurd f' (by rw [eA]; exact f)) (fun _ => ⟨rfl, R⟩))
theorem i_vc_settings {k : Nat} {u : SX} {v : SY} (I : i_Rel k u v) (hk : k + 5 ≤ 2560) (v1 : Int32) (v2 : Int32) (v3 : Int32) : wpX_settings (fun r u' => wpY_settings (fun r' v' => r' = r ∧ i_Rel (k + 5) u' v') v v1 v2 v3) u v1 v2 v3 := by
  obtain ⟨m, bw, sh, tp, L, c, G, al, an, aw, ae, e1, e2, e3, e4, ek, el, fm, vn, vl, vw, vc, vo, vt, g1, g2, g3, g4, gs, gk, rfl, rfl, hD, hSx, hX, hSy, hY⟩ := I
  rcases cd_in v1 (n := 2) (by decide) with h | ⟨s, hs, rfl⟩
  · exact xq_st1 h (yq_st1 h ⟨rfl, cd_R hD hSx hX hSy hY⟩)
  rcases cd_in v2 (n := 2) (by decide) with h | ⟨t, ht, rfl⟩
  · exact xq_st2 hs h (yq_st2 hs h ⟨rfl, cd_R hD hSx hX hSy hY⟩)
  rcases cd_in v3 (n := 31) (by decide) with h | ⟨r, hr, rfl⟩
  · exact xq_st3 hs ht h (yq_st3 hs ht h ⟨rfl, cd_R hD hSx hX hSy hY⟩)
  exact xq_st4 hs ht hr (yq_st4 hs ht hr ⟨rfl, cd_R (cd_D_set hD (by omega) (by omega) (by omega)) hSx hX hSy hY⟩)
theorem i_vc_elements {k : Nat} {u : SX} {v : SY} (I : i_Rel k u v) (hk : k + 5 ≤ 2560) (v1 : Int32) : wpX_elements (fun r u' => wpY_elements (fun r' v' => r' = r ∧ i_Rel (k + 5) u' v') v v1) u v1 := by
  obtain ⟨m, bw, sh, tp, L, c, G, al, an, aw, ae, e1, e2, e3, e4, ek, el, fm, vn, vl, vw, vc, vo, vt, g1, g2, g3, g4, gs, gk, rfl, rfl, hD, hSx, hX, hSy, hY⟩ := I
  obtain ⟨W, A, B, hT, hC1, hC2⟩ := id hX
  have hC : cd_XC m W A B aw ae := ⟨hC1, hC2⟩
  obtain ⟨W', A', B', hT', hC'⟩ := id hY
  rcases cd_in v1 (n := 10) (by decide) with h | ⟨s, hs, rfl⟩
  · exact xq_el1 h (yq_el1 h ⟨rfl, cd_R hD hSx hX hSy hY⟩)
  exact xq_el2 hD hSx hT hC hs (fun a1 a2 a3 => yq_el2 hD hSy hT' hC' hs (fun fm b1 b2 b3 b4 e => ⟨e, cd_R hD hSx hX hSy hY⟩))
theorem i_vc_compare {k : Nat} {u : SX} {v : SY} (I : i_Rel k u v) (hk : k + 5 ≤ 2560) (v1 : Int32) (v2 : Int32) (v3 : Int32) : wpX_compare (fun r u' => wpY_compare (fun r' v' => r' = r ∧ i_Rel (k + 5) u' v') v v1 v2 v3) u v1 v2 v3 := by
  obtain ⟨m, bw, sh, tp, L, c, G, al, an, aw, ae, e1, e2, e3, e4, ek, el, fm, vn, vl, vw, vc, vo, vt, g1, g2, g3, g4, gs, gk, rfl, rfl, hD, hSx, hX, hSy, hY⟩ := I
  obtain ⟨W, A, B, hT, hC1, hC2⟩ := id hX
  have hC : cd_XC m W A B aw ae := ⟨hC1, hC2⟩
  obtain ⟨W', A', B', hT', hC'⟩ := id hY
  rcases cd_in v1 (n := 10) (by decide) with h | ⟨i, hi, rfl⟩
  · exact xq_cmp1 (Or.inl h) (yq_cmp1 (Or.inl h) ⟨rfl, cd_R hD hSx hX hSy hY⟩)
  rcases cd_in v2 (n := 10) (by decide) with h | ⟨j, hj, rfl⟩
  · exact xq_cmp1 (Or.inr ⟨⟨i, hi, rfl⟩, h⟩) (yq_cmp1 (Or.inr ⟨⟨i, hi, rfl⟩, h⟩) ⟨rfl, cd_R hD hSx hX hSy hY⟩)
  rcases cd_str v3 with h | ⟨n, h1, h4, rfl⟩
  · exact xq_cmp2 hi hj h (yq_cmp2 hi hj h ⟨rfl, cd_R hD hSx hX hSy hY⟩)
  exact xq_cmp3 hD hSx hT hC hi hj h1 h4 (fun a1 a2 a3 a4 ak al' => yq_cmp3 hD hSy hT' hC' hi hj h1 h4 (fun fm b1 b2 b3 b4 bs bk => ⟨rfl, cd_R hD hSx hX hSy hY⟩))
theorem i_vc_keySize {k : Nat} {u : SX} {v : SY} (I : i_Rel k u v) (hk : k + 5 ≤ 2560) (v1 : Int32) (v2 : Int32) : wpX_keySize (fun r u' => wpY_keySize (fun r' v' => r' = r ∧ i_Rel (k + 5) u' v') v v1 v2) u v1 v2 := by
  obtain ⟨m, bw, sh, tp, L, c, G, al, an, aw, ae, e1, e2, e3, e4, ek, el, fm, vn, vl, vw, vc, vo, vt, g1, g2, g3, g4, gs, gk, rfl, rfl, hD, hSx, hX, hSy, hY⟩ := I
  obtain ⟨W, A, B, hT, hC1, hC2⟩ := id hX
  have hC : cd_XC m W A B aw ae := ⟨hC1, hC2⟩
  obtain ⟨W', A', B', hT', hC'⟩ := id hY
  rcases cd_in v1 (n := 10) (by decide) with h | ⟨i, hi, rfl⟩
  · exact xq_ks1 h (yq_ks1 h ⟨rfl, cd_R hD hSx hX hSy hY⟩)
  rcases cd_str v2 with h | ⟨n, h1, h4, rfl⟩
  · exact xq_ks2 hi h (yq_ks2 hi h ⟨rfl, cd_R hD hSx hX hSy hY⟩)
  exact xq_ks3 hD hSx hT hC hi h1 h4 (fun a1 a2 a3 a4 ak al' => yq_ks3 hD hSy hT' hC' hi h1 h4 (fun fm b1 b2 b3 b4 bs bk => ⟨rfl, cd_R hD hSx hX hSy hY⟩))
theorem i_vc_keyAt {k : Nat} {u : SX} {v : SY} (I : i_Rel k u v) (hk : k + 5 ≤ 2560) (v1 : Int32) (v2 : Int32) (v3 : Int32) : wpX_keyAt (fun r u' => wpY_keyAt (fun r' v' => r' = r ∧ i_Rel (k + 5) u' v') v v1 v2 v3) u v1 v2 v3 := by
  obtain ⟨m, bw, sh, tp, L, c, G, al, an, aw, ae, e1, e2, e3, e4, ek, el, fm, vn, vl, vw, vc, vo, vt, g1, g2, g3, g4, gs, gk, rfl, rfl, hD, hSx, hX, hSy, hY⟩ := I
  obtain ⟨W, A, B, hT, hC1, hC2⟩ := id hX
  have hC : cd_XC m W A B aw ae := ⟨hC1, hC2⟩
  obtain ⟨W', A', B', hT', hC'⟩ := id hY
  rcases cd_in v1 (n := 10) (by decide) with h | ⟨i, hi, rfl⟩
  · exact xq_ka1 h (yq_ka1 h ⟨rfl, cd_R hD hSx hX hSy hY⟩)
  rcases cd_str v2 with h | ⟨n, h1, h4, rfl⟩
  · exact xq_ka2 hi h (yq_ka2 hi h ⟨rfl, cd_R hD hSx hX hSy hY⟩)
  have h99 : (cd_K sh tp bw L c G n i).length ≤ 99 := cd_KE_99 (by have := hD.2.2.2.2.2.1 i hi; omega) h4
  rcases cd_in v3 (n := (cd_K sh tp bw L c G n i).length) (by omega) with h | ⟨p, hp, rfl⟩
  · exact xq_ka3 hD hSx hT hC hi h1 h4 h (fun a1 a2 a3 a4 ak al' => yq_ka3 hD hSy hT' hC' hi h1 h4 h (fun fm b1 b2 b3 b4 bs bk => ⟨rfl, cd_R hD hSx hX hSy hY⟩))
  exact xq_ka4 hD hSx hT hC hi h1 h4 hp (fun a1 a2 a3 a4 ak al' => yq_ka4 hD hSy hT' hC' hi h1 h4 hp (fun fm b1 b2 b3 b4 bs bk => ⟨rfl, cd_R hD hSx hX hSy hY⟩))
theorem i_vc_rank {k : Nat} {u : SX} {v : SY} (I : i_Rel k u v) (hk : k + 5 ≤ 2560) (v1 : Int32) (v2 : Int32) : wpX_rank (fun r u' => wpY_rank (fun r' v' => r' = r ∧ i_Rel (k + 5) u' v') v v1 v2) u v1 v2 := by
  obtain ⟨m, bw, sh, tp, L, c, G, al, an, aw, ae, e1, e2, e3, e4, ek, el, fm, vn, vl, vw, vc, vo, vt, g1, g2, g3, g4, gs, gk, rfl, rfl, hD, hSx, hX, hSy, hY⟩ := I
  obtain ⟨W, A, B, hT, hC1, hC2⟩ := id hX
  have hC : cd_XC m W A B aw ae := ⟨hC1, hC2⟩
  obtain ⟨W', A', B', hT', hC'⟩ := id hY
  rcases cd_in v1 (n := 10) (by decide) with h | ⟨i, hi, rfl⟩
  · exact xq_rk1 h (yq_rk1 h ⟨rfl, cd_R hD hSx hX hSy hY⟩)
  rcases cd_str v2 with h | ⟨n, h1, h4, rfl⟩
  · exact xq_rk2 hi h (yq_rk2 hi h ⟨rfl, cd_R hD hSx hX hSy hY⟩)
  exact xq_rk3 hD hSx hT hC hi h1 h4 (fun a1 a2 a3 a4 ak al' => yq_rk3 hD hSy hT' hC' hi h1 h4 (fun fm b1 b2 b3 b4 bs bk => ⟨rfl, cd_R hD hSx hX hSy hY⟩))
theorem i_vc_nth {k : Nat} {u : SX} {v : SY} (I : i_Rel k u v) (hk : k + 5 ≤ 2560) (v1 : Int32) (v2 : Int32) : wpX_nth (fun r u' => wpY_nth (fun r' v' => r' = r ∧ i_Rel (k + 5) u' v') v v1 v2) u v1 v2 := by
  obtain ⟨m, bw, sh, tp, L, c, G, al, an, aw, ae, e1, e2, e3, e4, ek, el, fm, vn, vl, vw, vc, vo, vt, g1, g2, g3, g4, gs, gk, rfl, rfl, hD, hSx, hX, hSy, hY⟩ := I
  obtain ⟨W, A, B, hT, hC1, hC2⟩ := id hX
  have hC : cd_XC m W A B aw ae := ⟨hC1, hC2⟩
  obtain ⟨W', A', B', hT', hC'⟩ := id hY
  rcases cd_str v2 with h | ⟨n, h1, h4, rfl⟩
  · exact xq_nt1 h (yq_nt1 h ⟨rfl, cd_R hD hSx hX hSy hY⟩)
  rcases cd_in v1 (n := 10) (by decide) with h | ⟨i, hi, rfl⟩
  · exact xq_nt2 h1 h4 h (yq_nt2 h1 h4 h ⟨rfl, cd_R hD hSx hX hSy hY⟩)
  exact xq_nt3 hD hSx hT hC hi h1 h4 (fun a1 a2 a3 a4 ak al' => yq_nt3 hD hSy hT' hC' hi h1 h4 (fun fm b1 b2 b3 b4 bs bk => ⟨rfl, cd_R hD hSx hX hSy hY⟩))
theorem i_vc_kinds {k : Nat} {u : SX} {v : SY} (I : i_Rel k u v) (hk : k + 5 ≤ 2560) (v1 : Int32) : wpX_kinds (fun r u' => wpY_kinds (fun r' v' => r' = r ∧ i_Rel (k + 5) u' v') v v1) u v1 := by
  obtain ⟨m, bw, sh, tp, L, c, G, al, an, aw, ae, e1, e2, e3, e4, ek, el, fm, vn, vl, vw, vc, vo, vt, g1, g2, g3, g4, gs, gk, rfl, rfl, hD, hSx, hX, hSy, hY⟩ := I
  obtain ⟨W, A, B, hT, hC1, hC2⟩ := id hX
  have hC : cd_XC m W A B aw ae := ⟨hC1, hC2⟩
  obtain ⟨W', A', B', hT', hC'⟩ := id hY
  rcases cd_str v1 with h | ⟨n, h1, h4, rfl⟩
  · exact xq_kn1 h (yq_kn1 h ⟨rfl, cd_R hD hSx hX hSy hY⟩)
  exact xq_kn2 hD hSx hT hC h1 h4 (fun a1 a2 a3 a4 ak al' => yq_kn2 hD hSy hT' hC' h1 h4 (fun fm b1 b2 b3 b4 bs bk => ⟨rfl, cd_R hD hSx hX hSy hY⟩))
theorem i_vc_find {k : Nat} {u : SX} {v : SY} (I : i_Rel k u v) (hk : k + 5 ≤ 2560) (v1 : Int32) (v2 : Int32) (v3 : Int32) (v4 : Int32) : wpX_find (fun r u' => wpY_find (fun r' v' => r' = r ∧ i_Rel (k + 5) u' v') v v1 v2 v3 v4) u v1 v2 v3 v4 := by
  obtain ⟨m, bw, sh, tp, L, c, G, al, an, aw, ae, e1, e2, e3, e4, ek, el, fm, vn, vl, vw, vc, vo, vt, g1, g2, g3, g4, gs, gk, rfl, rfl, hD, hSx, hX, hSy, hY⟩ := I
  obtain ⟨W, A, B, hT, hC1, hC2⟩ := id hX
  have hC : cd_XC m W A B aw ae := ⟨hC1, hC2⟩
  obtain ⟨W', A', B', hT', hC'⟩ := id hY
  rcases cd_in v1 (n := 10) (by decide) with h | ⟨i, hi, rfl⟩
  · exact xq_fn1 (Or.inl h) (yq_fn1 (Or.inl h) ⟨rfl, cd_R hD hSx hX hSy hY⟩)
  rcases cd_in v2 (n := 10) (by decide) with h | ⟨j, hj, rfl⟩
  · exact xq_fn1 (Or.inr ⟨⟨i, hi, rfl⟩, h⟩) (yq_fn1 (Or.inr ⟨⟨i, hi, rfl⟩, h⟩) ⟨rfl, cd_R hD hSx hX hSy hY⟩)
  rcases cd_str v3 with h | ⟨n, h1, h4, rfl⟩
  · exact xq_fn2 hi hj h (yq_fn2 hi hj h ⟨rfl, cd_R hD hSx hX hSy hY⟩)
  exact xq_fn3 hD hSx hT hC hi hj h1 h4 (fun a1 a2 a3 a4 ak al' => yq_fn3 hD hSy hT' hC' hi hj h1 h4 (fun fm b1 b2 b3 b4 bs bk => ⟨rfl, cd_R hD hSx hX hSy hY⟩))
end
