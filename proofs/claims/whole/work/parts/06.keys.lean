/-! frames, keys in cells, weights in cells, the order step by step -/
def cd_FR (b n : Nat) (a a' : Nat → Int32) : Prop := ∀ i, (i < b ∨ b + n ≤ i) → a' i = a i
theorem cd_FR_r {b n : Nat} {a : Nat → Int32} : cd_FR b n a a := fun _ _ => rfl
theorem cd_FR_t {b n : Nat} {a a' a'' : Nat → Int32} (h : cd_FR b n a a') (h' : cd_FR b n a' a'') : cd_FR b n a a'' := fun i hi => (h' i hi).trans (h i hi)
theorem cd_FR_u {b n j : Nat} {a a' : Nat → Int32} {x : Int32} (h : cd_FR b n a a') (h1 : b ≤ j) (h2 : j < b + n) : cd_FR b n a (upd a' j x) := fun i hi => by
  rw [pk_un (by omega)]; exact h i hi
/-- a key, from cell b on, its length in cell j -/
def cd_KT (b j : Nat) (ak al : Nat → Int32) (K : List Nat) : Prop := cd_HD ak b K ∧ al j = nI K.length ∧ K.length ≤ 99 ∧ ∀ x ∈ K, x ≤ 31
theorem cd_KT_fr {b j b' n : Nat} {ak al ak' al' : Nat → Int32} {K : List Nat} (h : cd_KT b j ak al K) (f : cd_FR b' n ak ak') (hb : b + 99 ≤ b' ∨ b' + n ≤ b) (e : al' j = al j) : cd_KT b j ak' al' K := by
  obtain ⟨h1, h2, h3, h4⟩ := h
  exact ⟨cd_HD_cg h1 (fun i hi => f _ (by omega)), e.trans h2, h3, h4⟩
/-- weights in cells -/
def cd_A3 (l : List Nat) (a1 a2 a3 : Nat → Int32) : Prop := ∀ k, k < l.length → a1 k = nI (cd_f1 l k) ∧ a2 k = nI (cd_f2 l k) ∧ a3 k = nI (cd_f3 l k)
theorem cd_A3_nil {a1 a2 a3 : Nat → Int32} : cd_A3 [] a1 a2 a3 := fun k h => absurd h (Nat.not_lt_zero k)
theorem cd_A3_put {l : List Nat} {a1 a2 a3 : Nat → Int32} {e : Nat} (h : cd_A3 l a1 a2 a3) (he : cd_V e) :
    cd_A3 (l ++ [e]) (upd a1 l.length (nI (e % 32))) (upd a2 l.length (nI (e / 32 % 8))) (upd a3 l.length (nI (e / 256))) := by
  intro k hk
  rw [List.length_append, List.length_cons, List.length_nil] at hk
  unfold cd_f1 cd_f2 cd_f3
  by_cases z : k = l.length
  · subst z
    rw [cd_gr, pk_us, pk_us, pk_us]
    obtain ⟨g1, g2⟩ := he
    exact ⟨rfl, rfl, by rw [show e / 256 % 4 = e / 256 by omega]⟩
  · rw [cd_gl (by omega), pk_un z, pk_un z, pk_un z]
    exact h k (by omega)
def cd_AF (sh tp : Nat) (l : List Nat) (a1 a2 a3 a4 : Nat → Int32) : Prop :=
  ∀ k, k < l.length → a1 k = nI (cd_F1 sh tp l k) ∧ a2 k = nI (cd_F2 sh tp l k) ∧ a3 k = nI (cd_F3 sh tp l k) ∧ a4 k = nI (cd_F4 sh tp l k)
/-- half way: the cells before k are shifted -/
def cd_AH (sh tp : Nat) (l : List Nat) (a1 a2 a3 a4 : Nat → Int32) (n : Nat) : Prop :=
  (∀ k, k < n → a1 k = nI (cd_F1 sh tp l k) ∧ a2 k = nI (cd_F2 sh tp l k) ∧ a3 k = nI (cd_F3 sh tp l k) ∧ a4 k = nI (cd_F4 sh tp l k)) ∧
  (∀ k, n ≤ k → k < l.length → a1 k = nI (cd_f1 l k) ∧ a2 k = nI (cd_f2 l k) ∧ a3 k = nI (cd_f3 l k))
theorem cd_AH_0 {sh tp : Nat} {l : List Nat} {a1 a2 a3 a4 : Nat → Int32} (h : cd_A3 l a1 a2 a3) : cd_AH sh tp l a1 a2 a3 a4 0 := ⟨fun k hk => absurd hk (Nat.not_lt_zero k), fun k _ hk => h k hk⟩
theorem cd_AH_e {sh tp : Nat} {l : List Nat} {a1 a2 a3 a4 : Nat → Int32} (h : cd_AH sh tp l a1 a2 a3 a4 l.length) : cd_AF sh tp l a1 a2 a3 a4 := fun k hk => h.1 k hk
/-- one step: whatever stands at n then is what is wanted there, and no other cell is changed -/
theorem cd_AH_s {sh tp : Nat} {l : List Nat} {a1 a2 a3 a4 b1 b2 b3 b4 : Nat → Int32} {n : Nat} (h : cd_AH sh tp l a1 a2 a3 a4 n)
    (h1 : b1 n = nI (cd_F1 sh tp l n)) (h2 : b2 n = nI (cd_F2 sh tp l n)) (h3 : b3 n = nI (cd_F3 sh tp l n)) (h4 : b4 n = nI (cd_F4 sh tp l n))
    (g : ∀ k, ¬ k = n → b1 k = a1 k ∧ b2 k = a2 k ∧ b3 k = a3 k ∧ b4 k = a4 k) : cd_AH sh tp l b1 b2 b3 b4 (n + 1) := by
  refine ⟨fun k hk => ?_, fun k hk hl => ?_⟩
  · by_cases z : k = n
    · subst z; exact ⟨h1, h2, h3, h4⟩
    · obtain ⟨g1, g2, g3, g4⟩ := g k z
      rw [g1, g2, g3, g4]; exact h.1 k (by omega)
  · obtain ⟨g1, g2, g3, g4⟩ := g k (by omega)
    rw [g1, g2, g3]; exact h.2 k (by omega) hl
def cd_bi : Bool → Int32
  | true => 1
  | false => 0
theorem cd_am_0 {tp : Nat} {l : List Nat} {k : Nat} (h : cd_f1 l k = 0) : cd_am tp l (k + 1) = cd_am tp l k := by simp only [cd_am, if_pos h]
theorem cd_am_t {tp : Nat} {l : List Nat} {k : Nat} (h : ¬ cd_f1 l k = 0) (z : cd_f1 l k ≤ tp) : cd_am tp l (k + 1) = true := by simp only [cd_am, if_neg h, decide_eq_true z]
theorem cd_am_f {tp : Nat} {l : List Nat} {k : Nat} (h : ¬ cd_f1 l k = 0) (z : ¬ cd_f1 l k ≤ tp) : cd_am tp l (k + 1) = false := by simp only [cd_am, if_neg h, decide_eq_false z]
section
variable {sh tp : Nat} {l : List Nat} {k : Nat}
theorem cd_F_0 (h : sh = 0) : cd_F1 sh tp l k = cd_f1 l k ∧ cd_F2 sh tp l k = cd_f2 l k ∧ cd_F3 sh tp l k = cd_f3 l k ∧ cd_F4 sh tp l k = 0 := by
  subst h
  unfold cd_F1 cd_F2 cd_F3 cd_F4
  rw [if_neg (by omega), if_neg (by omega), if_neg (by omega), if_neg (by omega)]
  exact ⟨rfl, rfl, rfl, rfl⟩
theorem cd_F_t (h : sh = 1) (z : cd_am tp l (k + 1) = true) : cd_F1 sh tp l k = 0 ∧ cd_F2 sh tp l k = 0 ∧ cd_F3 sh tp l k = 0 ∧ cd_F4 sh tp l k = cd_f1 l k := by
  subst h
  unfold cd_F1 cd_F2 cd_F3 cd_F4
  rw [if_pos ⟨rfl, z⟩, if_pos ⟨rfl, z⟩, if_pos ⟨rfl, z⟩, if_pos rfl, if_pos z]
  exact ⟨rfl, rfl, rfl, rfl⟩
theorem cd_F_f (h : sh = 1) (z : cd_am tp l (k + 1) = false) : cd_F1 sh tp l k = cd_f1 l k ∧ cd_F2 sh tp l k = cd_f2 l k ∧ cd_F3 sh tp l k = cd_f3 l k := by
  subst h
  have z' : ¬ cd_am tp l (k + 1) = true := by rw [z]; decide
  unfold cd_F1 cd_F2 cd_F3
  rw [if_neg (fun q => z' q.2), if_neg (fun q => z' q.2), if_neg (fun q => z' q.2)]
  exact ⟨rfl, rfl, rfl⟩
theorem cd_F4_0 (h : sh = 1) (z : cd_am tp l (k + 1) = false) (q : cd_f1 l k = 0 ∧ cd_f2 l k = 0 ∧ cd_f3 l k = 0) : cd_F4 sh tp l k = 0 := by
  subst h
  have z' : ¬ cd_am tp l (k + 1) = true := by rw [z]; decide
  unfold cd_F4
  rw [if_pos rfl, if_neg z', if_pos q]
theorem cd_F4_1 (h : sh = 1) (z : cd_am tp l (k + 1) = false) (q : ¬ (cd_f1 l k = 0 ∧ cd_f2 l k = 0 ∧ cd_f3 l k = 0)) : cd_F4 sh tp l k = 31 := by
  subst h
  have z' : ¬ cd_am tp l (k + 1) = true := by rw [z]; decide
  unfold cd_F4
  rw [if_pos rfl, if_neg z', if_neg q]
end
theorem cd_f1_b (l : List Nat) (k : Nat) : cd_f1 l k < 32 := by unfold cd_f1; omega
theorem cd_f2_b (l : List Nat) (k : Nat) : cd_f2 l k < 8 := by unfold cd_f2; omega
theorem cd_f3_b (l : List Nat) (k : Nat) : cd_f3 l k < 4 := by unfold cd_f3; omega
theorem cd_F1_b (sh tp : Nat) (l : List Nat) (k : Nat) : cd_F1 sh tp l k ≤ 31 := cd_W_le sh tp 0 l 1 k
theorem cd_F2_b (sh tp : Nat) (l : List Nat) (k : Nat) : cd_F2 sh tp l k ≤ 31 := cd_W_le sh tp 0 l 2 k
theorem cd_F3_b (sh tp : Nat) (l : List Nat) (k : Nat) : cd_F3 sh tp l k ≤ 31 := cd_W_le sh tp 0 l 3 k
theorem cd_F4_b (sh tp : Nat) (l : List Nat) (k : Nat) : cd_F4 sh tp l k ≤ 31 := cd_W_le sh tp 0 l 4 k
/-- keys level by level -/
theorem cd_KK_1 (sh tp bw : Nat) (l : List Nat) : cd_KK sh tp bw l 1 = cd_flt (cd_F1 sh tp l) l.length := by
  show [] ++ ([] ++ cd_flt (cd_W sh tp bw l 1) l.length) = _
  rw [List.nil_append, List.nil_append]
  rfl
theorem cd_KK_2 (sh tp bw : Nat) (l : List Nat) (h : ¬ bw = 1) : cd_KK sh tp bw l 2 = (cd_KK sh tp bw l 1 ++ [0]) ++ cd_flt (cd_F2 sh tp l) l.length := by
  have e : cd_W sh tp bw l 2 = cd_F2 sh tp l := by
    funext k
    show (if bw = 1 then _ else _) = _
    rw [if_neg h]
  show cd_KK sh tp bw l 1 ++ ([0] ++ cd_flt (cd_W sh tp bw l 2) l.length) = _
  rw [e, List.append_assoc]
theorem cd_KK_2b (sh tp bw : Nat) (l : List Nat) (h : bw = 1) : cd_KK sh tp bw l 2 = (cd_KK sh tp bw l 1 ++ [0]) ++ cd_flt (fun k => cd_F2 sh tp l (l.length - 1 - k)) l.length := by
  have e : cd_W sh tp bw l 2 = fun k => cd_F2 sh tp l (l.length - 1 - k) := by
    funext k
    show (if bw = 1 then _ else _) = _
    rw [if_pos h]
  show cd_KK sh tp bw l 1 ++ ([0] ++ cd_flt (cd_W sh tp bw l 2) l.length) = _
  rw [e, List.append_assoc]
theorem cd_KK_3 (sh tp bw : Nat) (l : List Nat) : cd_KK sh tp bw l 3 = (cd_KK sh tp bw l 2 ++ [0]) ++ cd_flt (cd_F3 sh tp l) l.length := by
  show cd_KK sh tp bw l 2 ++ ([0] ++ cd_flt (cd_W sh tp bw l 3) l.length) = _
  rw [List.append_assoc]
  rfl
theorem cd_KK_4 (sh tp bw : Nat) (l : List Nat) : cd_KK sh tp bw l 4 = (cd_KK sh tp bw l 3 ++ [0]) ++ cd_flt (cd_F4 sh tp l) l.length := by
  show cd_KK sh tp bw l 3 ++ ([0] ++ cd_flt (cd_W sh tp bw l 4) l.length) = _
  rw [List.append_assoc]
  rfl
/-- the order, at place k of both -/
theorem cd_cm_s {K J : List Nat} {k : Nat} (h1 : k < K.length) (h2 : k < J.length) (e : K.getD k 0 = J.getD k 0) : cd_cm (K.drop k) (J.drop k) = cd_cm (K.drop (k + 1)) (J.drop (k + 1)) := by
  rw [cd_dr h1, cd_dr h2]
  simp only [cd_cm]
  rw [if_pos e]
theorem cd_cm_l {K J : List Nat} {k : Nat} (h1 : k < K.length) (h2 : k < J.length) (e : K.getD k 0 < J.getD k 0) : cd_cm (K.drop k) (J.drop k) = -1 := by
  rw [cd_dr h1, cd_dr h2]
  simp only [cd_cm]
  rw [if_neg (by omega), if_pos e]
theorem cd_cm_g {K J : List Nat} {k : Nat} (h1 : k < K.length) (h2 : k < J.length) (e : J.getD k 0 < K.getD k 0) : cd_cm (K.drop k) (J.drop k) = 1 := by
  rw [cd_dr h1, cd_dr h2]
  simp only [cd_cm]
  rw [if_neg (by omega), if_neg (by omega)]
theorem cd_dn {K : List Nat} {k : Nat} (h : k = K.length) : K.drop k = [] := by rw [h]; exact List.drop_length
theorem cd_cm_e0 {K J : List Nat} {k : Nat} (h1 : k = K.length) (h2 : k = J.length) : cd_cm (K.drop k) (J.drop k) = 0 := by
  rw [cd_dn h1, cd_dn h2]
  rfl
theorem cd_cm_el {K J : List Nat} {k : Nat} (h1 : k = K.length) (h2 : k < J.length) : cd_cm (K.drop k) (J.drop k) = -1 := by
  rw [cd_dn h1, cd_dr h2]
  rfl
theorem cd_cm_eg {K J : List Nat} {k : Nat} (h1 : k < K.length) (h2 : k = J.length) : cd_cm (K.drop k) (J.drop k) = 1 := by
  rw [cd_dn h2, cd_dr h1]
  rfl
theorem cd_cm_3 (l r : List Nat) : cd_cm l r = 0 ∨ cd_cm l r = -1 ∨ cd_cm l r = 1 := by
  induction l generalizing r with
  | nil => cases r <;> simp [cd_cm]
  | cons x xs ih =>
    cases r with
    | nil => simp [cd_cm]
    | cons y ys =>
      simp only [cd_cm]
      split
      · exact ih ys
      · split <;> simp
/-! keys of slots, and the questions' answers -/
section
variable (sh tp bw : Nat) (L c : Nat → Nat) (G : Nat → Option (Nat × Option Nat)) (n : Nat)
def cd_K (s : Nat) : List Nat := cd_KE sh tp bw G c (12 * s) (12 * s + L s) n
def cd_lt (i j : Nat) : Bool := decide (cd_cm (cd_K sh tp bw L c G n i) (cd_K sh tp bw L c G n j) < 0)
def cd_eq (i j : Nat) : Bool := decide (cd_cm (cd_K sh tp bw L c G n i) (cd_K sh tp bw L c G n j) = 0)
def cd_rk (s : Nat) : Nat := cd_ct (fun i => cd_lt sh tp bw L c G n i s) 10
def cd_po (s : Nat) : Nat := cd_ct (fun i => cd_lt sh tp bw L c G n i s || (cd_eq sh tp bw L c G n i s && decide (i < s))) 10
def cd_nt (k : Nat) : Nat := cd_la (fun s => decide (cd_po sh tp bw L c G n s = k)) 10
def cd_fs (s : Nat) : Bool := cd_al (fun j => !(cd_eq sh tp bw L c G n j s)) s
def cd_kn : Nat := cd_ct (fun s => cd_fs sh tp bw L c G n s) 10
/-- does a row of slot i from place p on have slot j's key? -/
def cd_mr (i j p : Nat) : Bool := !(cd_al (fun d => !(decide (cd_KE sh tp bw G c (12 * i + p) (12 * i + p + d) n = cd_K sh tp bw L c G n j))) (L i + 1 - p))
end
theorem cd_eq_c (sh tp bw : Nat) (L c : Nat → Nat) (G : Nat → Option (Nat × Option Nat)) (n i j : Nat) : cd_eq sh tp bw L c G n i j = cd_eq sh tp bw L c G n j i := by
  unfold cd_eq
  by_cases z : cd_K sh tp bw L c G n i = cd_K sh tp bw L c G n j
  · rw [z]
  · rw [decide_eq_false (fun q => z ((cd_cm_0 _ _).mp q)), decide_eq_false (fun q => z ((cd_cm_0 _ _).mp q).symm)]
