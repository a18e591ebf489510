/-! more of the picture: bounds of element lists, cells of the table, room -/
theorem cd_EL_le (G : Nat → Option (Nat × Option Nat)) (c : Nat → Nat) (q : Nat) : ∀ d p, q - p ≤ d → (cd_EL G c p q).length ≤ 2 * (q - p) := by
  intro d
  induction d with
  | zero =>
    intro p h
    rw [cd_EL_nil (by omega)]
    exact Nat.zero_le _
  | succ d ih =>
    intro p h
    by_cases z : p < q
    · have h1 := cd_mt_pos G c p q
      have h2 := cd_mt_q (G := G) (c := c) z
      have h3 := ih (p + cd_mt G c p q) (by omega)
      have h4 := cd_eg_le (G (cd_wd c p (cd_mt G c p q)))
      rw [cd_EL_cons z, List.length_append]
      omega
    · rw [cd_EL_nil (by omega)]
      exact Nat.zero_le _
theorem cd_EL_12 {G : Nat → Option (Nat × Option Nat)} {c : Nat → Nat} {p q : Nat} (h : q ≤ p + 12) : (cd_EL G c p q).length ≤ 24 := by
  have := cd_EL_le G c q (q - p) p (Nat.le_refl _)
  omega
theorem cd_KK_99 {sh tp bw : Nat} {l : List Nat} (h0 : l.length ≤ 24) : ∀ n, n ≤ 4 → (cd_KK sh tp bw l n).length ≤ 99
  | 0, _ => Nat.zero_le _
  | 1, _ => by
    have h : (cd_KK sh tp bw l 1).length ≤ (0 + 1) * l.length + 0 := cd_KK_le sh tp bw l 0
    omega
  | 2, _ => by
    have h : (cd_KK sh tp bw l 2).length ≤ (1 + 1) * l.length + 1 := cd_KK_le sh tp bw l 1
    omega
  | 3, _ => by
    have h : (cd_KK sh tp bw l 3).length ≤ (2 + 1) * l.length + 2 := cd_KK_le sh tp bw l 2
    omega
  | 4, _ => by
    have h : (cd_KK sh tp bw l 4).length ≤ (3 + 1) * l.length + 3 := cd_KK_le sh tp bw l 3
    omega
/-- the key of the letters from p to before q -/
def cd_KE (sh tp bw : Nat) (G : Nat → Option (Nat × Option Nat)) (c : Nat → Nat) (p q n : Nat) : List Nat := cd_KK sh tp bw (cd_EL G c p q) n
theorem cd_KE_99 {sh tp bw : Nat} {G : Nat → Option (Nat × Option Nat)} {c : Nat → Nat} {p q n : Nat} (h : q ≤ p + 12) (hn : n ≤ 4) : (cd_KE sh tp bw G c p q n).length ≤ 99 :=
  cd_KK_99 (cd_EL_12 h) n hn
theorem cd_KE_b (sh tp bw : Nat) (G : Nat → Option (Nat × Option Nat)) (c : Nat → Nat) (p q n : Nat) : ∀ x ∈ cd_KE sh tp bw G c p q n, x ≤ 31 := cd_KK_b sh tp bw _ n
theorem cd_getD_b {l : List Nat} {b : Nat} (h : ∀ x ∈ l, x ≤ b) (i : Nat) : l.getD i 0 ≤ b := by
  by_cases z : i < l.length
  · exact h _ (cd_mem z)
  · rw [List.getD_eq_getElem?_getD, List.getElem?_eq_none (by omega)]
    exact Nat.zero_le _
/-- the longest word at a place of letters below ten has an entry -/
theorem cd_wd_some {G : Nat → Option (Nat × Option Nat)} {c : Nat → Nat} {p q : Nat} (hG : cd_OK G) (hc : c p < 10) : ¬ G (cd_wd c p (cd_mt G c p q)) = none := by
  unfold cd_mt
  split
  · rename_i h
    exact h.2
  · split
    · rename_i h
      exact h.2
    · exact hG.2 (c p) hc
theorem cd_wd_len {G : Nat → Option (Nat × Option Nat)} {c : Nat → Nat} {p q : Nat} (hc : ∀ i, p ≤ i → i < q → c i < 10) (h : p < q) : cd_wl (cd_wd c p (cd_mt G c p q)) = cd_mt G c p q := by
  have h0 := hc p (Nat.le_refl _) h
  unfold cd_mt
  split
  · rename_i z
    exact cd_wl_3 h0 (hc _ (by omega) (by omega)) (hc _ (by omega) (by omega))
  · split
    · rename_i z
      exact cd_wl_2 h0 (hc _ (by omega) (by omega))
    · exact cd_wl_1 h0
/-- the elements at a place of the table -/
theorem cd_eg_some (a : Nat) (b : Option Nat) : cd_eg (some (a, b)) = a :: b.toList := by
  cases b <;> rfl
theorem cd_TB_at {m : Nat} {G : Nat → Option (Nat × Option Nat)} {W A : Nat → Nat} {B : Nat → Option Nat} (h : cd_TB m G W A B) {p : Nat} (hp : p < 10 + m) : cd_eg (G (W p)) = A p :: (B p).toList := by
  rw [(h.1 p hp).2, cd_eg_some]
theorem cd_TB_V {m : Nat} {G : Nat → Option (Nat × Option Nat)} {W A : Nat → Nat} {B : Nat → Option Nat} (h : cd_TB m G W A B) (hG : cd_OK G) {p : Nat} (hp : p < 10 + m) : cd_V (A p) ∧ ∀ e, B p = some e → cd_V e :=
  hG.1 _ _ _ (h.1 p hp).2
theorem cd_wt_le {e l : Nat} (h : cd_V e) : cd_wt e l ≤ cd_mx l := by
  obtain ⟨h1, h2⟩ := h
  unfold cd_wt cd_mx
  split
  · exact h2
  · split <;> omega
theorem cd_fit_TB {m : Nat} {G : Nat → Option (Nat × Option Nat)} {W A : Nat → Nat} {B : Nat → Option Nat} (h : cd_TB m G W A B) {a l : Nat} :
    cd_fit G a l ↔ cd_wt a l < cd_mx l ∧ ∀ p, p < 10 + m → cd_fit1 a l (A p) ∧ ∀ e, B p = some e → cd_fit1 a l e := by
  constructor
  · intro f
    exact ⟨f.1, fun p hp => f.2 _ _ _ (h.1 p hp).2⟩
  · intro f
    refine ⟨f.1, fun w x y e => ?_⟩
    obtain ⟨p, hp, rfl⟩ := h.2.2.2 w (by rw [e]; exact fun z => by cases z)
    have k := (h.1 p hp).2
    rw [e] at k
    cases k
    exact f.2 p hp
theorem cd_TB_tG {m : Nat} {G : Nat → Option (Nat × Option Nat)} {W A : Nat → Nat} {B : Nat → Option Nat} (h : cd_TB m G W A B) {a b l : Nat} (hb : b < 10) :
    cd_TB m (cd_tG G a b l) W (cd_up (fun p => cd_gx a l (A p)) b (cd_bl a l)) (cd_up (fun p => (B p).map (cd_gx a l)) b none) := by
  have k := cd_TB_set (cd_TB_map h (cd_gx a l)) (p := b) (by omega) (cd_bl a l) none
  rw [h.2.1 b hb] at k
  exact k
theorem cd_OK_tG {G : Nat → Option (Nat × Option Nat)} {a b l : Nat} (h : cd_OK G) (h1 : 1 ≤ l) (h3 : l ≤ 3) (ha : cd_V a) (f : cd_fit G a l) : cd_OK (cd_tG G a b l) := by
  refine cd_OK_up (cd_OK_map h (fun w x y e => ?_)) (cd_V_bl h1 h3 ha f.1) (fun e he => by cases he)
  have k := h.1 w x y e
  have k2 := f.2 w x y e
  exact ⟨cd_V_gx h1 h3 k.1 k2.1, fun z hz => cd_V_gx h1 h3 (k.2 z hz) (k2.2 z hz)⟩
/-- the component's cells of elements, one by one -/
def cd_cl (m : Nat) (A : Nat → Nat) (B : Nat → Option Nat) (k : Nat) : Option Nat := if k < 2 * (10 + m) then (if k % 2 = 0 then some (A (k / 2)) else B (k / 2)) else none
theorem cd_cl_0 {m : Nat} {A : Nat → Nat} {B : Nat → Option Nat} {p : Nat} (h : p < 10 + m) : cd_cl m A B (2 * p) = some (A p) := by
  unfold cd_cl
  rw [if_pos (by omega), if_pos (by omega), show 2 * p / 2 = p by omega]
theorem cd_cl_1 {m : Nat} {A : Nat → Nat} {B : Nat → Option Nat} {p : Nat} (h : p < 10 + m) : cd_cl m A B (2 * p + 1) = B p := by
  unfold cd_cl
  rw [if_pos (by omega), if_neg (by omega), show (2 * p + 1) / 2 = p by omega]
theorem cd_cl_n {m : Nat} {A : Nat → Nat} {B : Nat → Option Nat} {k : Nat} (h : 2 * (10 + m) ≤ k) : cd_cl m A B k = none := by
  unfold cd_cl
  rw [if_neg (by omega)]
theorem cd_cl_map {m : Nat} {A : Nat → Nat} {B : Nat → Option Nat} {g : Nat → Nat} (k : Nat) : cd_cl m (fun p => g (A p)) (fun p => (B p).map g) k = (cd_cl m A B k).map g := by
  unfold cd_cl
  split
  · split <;> rfl
  · rfl
theorem cd_cl_V {m : Nat} {G : Nat → Option (Nat × Option Nat)} {W A : Nat → Nat} {B : Nat → Option Nat} (h : cd_TB m G W A B) (hG : cd_OK G) {k e : Nat} (he : cd_cl m A B k = some e) : cd_V e := by
  unfold cd_cl at he
  split at he
  · split at he
    · cases he
      exact (cd_TB_V h hG (by omega)).1
    · exact (cd_TB_V h hG (by omega)).2 e he
  · cases he
theorem cd_fit_cl {m : Nat} {G : Nat → Option (Nat × Option Nat)} {W A : Nat → Nat} {B : Nat → Option Nat} (h : cd_TB m G W A B) {a l : Nat} (hm : m ≤ 6) :
    cd_fit G a l ↔ cd_wt a l < cd_mx l ∧ ∀ k, k < 32 → ∀ e, cd_cl m A B k = some e → cd_fit1 a l e := by
  rw [cd_fit_TB h]
  constructor
  · intro f
    refine ⟨f.1, fun k hk e he => ?_⟩
    unfold cd_cl at he
    split at he
    · split at he
      · cases he
        exact (f.2 _ (by omega)).1
      · exact (f.2 _ (by omega)).2 e he
    · cases he
  · intro f
    refine ⟨f.1, fun p hp => ⟨f.2 (2 * p) (by omega) _ (cd_cl_0 hp), fun e he => f.2 (2 * p + 1) (by omega) e ?_⟩⟩
    rw [cd_cl_1 hp]
    exact he
theorem cd_XT_cells {m : Nat} {A : Nat → Nat} {B : Nat → Option Nat} {ae : Nat → Int32} (hm : m ≤ 6) (h1 : ∀ p, p < 10 + m → ae (2 * p) = nI (A p) ∧ ae (2 * p + 1) = cd_en (B p)) (h2 : ∀ p, 10 + m ≤ p → p < 16 → ae (2 * p) = -1 ∧ ae (2 * p + 1) = -1) :
    ∀ k, k < 32 → ae k = cd_en (cd_cl m A B k) := by
  intro k hk
  obtain ⟨p, hp⟩ : ∃ p, k = 2 * p ∨ k = 2 * p + 1 := ⟨k / 2, by omega⟩
  by_cases z : p < 10 + m
  · rcases hp with rfl | rfl
    · rw [cd_cl_0 z]; exact (h1 p z).1
    · rw [cd_cl_1 z]; exact (h1 p z).2
  · rw [cd_cl_n (by omega)]
    rcases hp with rfl | rfl
    · exact (h2 p (by omega) (by omega)).1
    · exact (h2 p (by omega) (by omega)).2
/-- small numbers -/
theorem cd_1 : ∀ e, e < 1024 → ¬ nI e = -1 := by decide +kernel
theorem cd_en_n {e : Nat} (h : e < 1024) : ¬ cd_en (some e) = -1 := cd_1 e h
