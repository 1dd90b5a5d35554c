/-! the plan's text: what both readers go over -/
theorem pw_go {S T : Type} {body : S → Option (S ⊕ T)} {P : T → Prop} {s : S} (h : pw (body s) (xx_L2 (fun s' => pw (xx_lp body s') P) P)) : pw (xx_lp body s) P := by
  obtain ⟨x, hx, hL⟩ := h
  cases x with
  | inl s' =>
    obtain ⟨t, ht, hP⟩ : pw (xx_lp body s') P := hL
    obtain ⟨n, hn⟩ := xx_lp_ex ht
    exact ⟨t, xx_lp_of (n := n + 1) (by simp only [xx_ln, hx]; exact hn), hP⟩
  | inr t => exact ⟨t, xx_lp_of (n := 1) (by simp only [xx_ln, hx]), hL⟩
abbrev TKS : Type := (Nat → Nat) × (Nat → Nat) × (Nat → Nat) × (Nat → Nat) × (Nat → Nat) × Nat
def t_k (K : TKS) : Nat → Nat := K.1
def t_s (K : TKS) : Nat → Nat := K.2.1
def t_n (K : TKS) : Nat → Nat := K.2.2.1
def t_w (K : TKS) : Nat → Nat := K.2.2.2.1
def t_v (K : TKS) : Nat → Nat := K.2.2.2.2.1
def t_N (K : TKS) : Nat := K.2.2.2.2.2
/-- the words that the plan's tongue has, as the reference writes them -/
def cst (j : Nat) : Nat := [465491030131, 427238321253, 439720963187, 495873782388, 7300710, 28526, 6385273, 1919904869, 7169390, 448545973363, 1920298085, 2003330414, 7562612, 1752132708, 7561593, 28530, 6385252, 7237492, 6578553, 130195279934579].getD j 0
def TKO (K : TKS) : Prop := t_N K ≤ 1400 ∧ (∀ k, k < t_N K → t_k K k ≠ 22 ∧ t_k K k ≠ 23) ∧ (t_k K (t_N K) = 22 ∨ t_k K (t_N K) = 23) ∧ (∀ k, k ≤ t_N K → t_k K k < 64 ∧ t_s K k ≤ 1400 ∧ t_n K k ≤ 9999 ∧ (t_k K k ≠ 21 → t_n K k = 0) ∧ t_v K k < 2 ^ 41) ∧ (∀ k, k ≤ t_N K → t_k K k ≤ 20 → t_w K k < 2 ^ 63 ∧ ∀ j, j < 20 → (t_w K k = cst j ↔ t_k K k = j)) ∧ ∀ k j, k ≤ t_N K → j ≤ t_N K → t_k K k ≤ 20 → t_k K j ≤ 20 → (t_w K k = t_w K j ↔ t_v K k = t_v K j)
/-! piles of waiting signs -/
def dep : List Nat → Nat
  | [] => 0
  | c :: B => (if c = 22 ∨ c = 30 then 1 else 0) + dep B
def lead : List Nat → Nat
  | [] => 0
  | c :: B => if c = 22 then lead B + 1 else 0
theorem dep_ap (p B : List Nat) : dep (p ++ B) = dep p + dep B := by
  induction p with
  | nil => simp [dep]
  | cons c p ih => rw [List.cons_append, dep, dep, ih]; omega
theorem dep_le (p : List Nat) : dep p ≤ p.length := by
  induction p with
  | nil => simp [dep]
  | cons c p ih => rw [dep, List.length_cons]; split <;> omega
theorem lead_le (p : List Nat) : lead p ≤ dep p := by
  induction p with
  | nil => simp [dep, lead]
  | cons c p ih =>
    rw [dep, lead]
    by_cases h : c = 22
    · rw [if_pos h, if_pos (.inl h)]; omega
    · rw [if_neg h]; omega
def cz (p : List Nat) : List (Nat × Nat) := p.map (fun c => (c, 0))
theorem cz_ap (p q : List Nat) : cz (p ++ q) = cz p ++ cz q := List.map_append
theorem cz_len (p : List Nat) : (cz p).length = p.length := List.length_map _
def CN (w : Nat) (B : List Nat) (o : List (Nat × Nat)) (u : Nat) : Prop := u ≤ 60 ∧ dep B ≤ 7 ∧ (if w = 2 then o.length + B.length + 1 ≤ 9 * u ∧ B.length + 1 ≤ u + dep B else o.length + B.length ≤ 9 * u + lead B ∧ B.length ≤ u + dep B)
/-- codes of what can stand for a number; of the signs between -/
def uc (t : Nat) : Nat := if t = 0 then 1 else if t = 9 then 2 else if t = 18 then 3 else if t = 19 then 4 else if t = 8 then 5 else if t = 21 then 0 else 6
def opc (t : Nat) : Nat := if t = 43 then 26 else if t = 45 then 27 else if t = 42 then 28 else if t = 61 then 23 else if t = 60 then 24 else if t = 62 then 25 else if t = 16 then 21 else if t = 15 then 20 else 0
def lo (c : Nat) : Nat := if c = 27 then 26 else if c = 23 ∨ c = 24 ∨ c = 25 then 26 else c
def cmt (B : List Nat) : Prop := ∃ p1 c p2, B = p1 ++ c :: p2 ∧ (∀ a, a ∈ p1 → 26 ≤ a ∧ a ≤ 28) ∧ 23 ≤ c ∧ c ≤ 25
def BSE (l : Nat) (B : List Nat) : Prop := ∀ c, B.head? = some c → c = 30 ∨ c < l
def aft (part t : Nat) : Prop := part = 0 ∧ t = 12 ∨ part = 1 ∧ t = 13 ∨ part = 2 ∧ (t = 14 ∨ t = 59)
abbrev GT : Type := Nat → Nat → List Nat → List (Nat × Nat) → Nat → Prop
/-- how the reference goes from word to word, told backward -/
def BW (K : TKS) (part : Nat) (G : GT) (E : Nat → Prop) : Prop :=
  (∀ w k B o u, w < 2 → k ≤ t_N K → uc (t_k K k) < 6 → u < 60 → CN w B o u → G 2 (k + 1) B (o ++ [(uc (t_k K k), t_n K k)]) (u + 1) → G w k B o u) ∧
  (∀ w k B o u, w < 2 → k ≤ t_N K → t_k K k = 40 → u < 60 → dep B < 7 → CN w B o u → G 0 (k + 1) (30 :: B) o (u + 1) → G w k B o u) ∧
  (∀ k B o u, k ≤ t_N K → t_k K k = 17 → dep B < 7 → CN 0 B o u → G 0 (k + 1) (22 :: B) o u → G 0 k B o u) ∧
  (∀ w k B o u, w < 2 → k ≤ t_N K → CN w B o u → ((uc (t_k K k) = 6 ∧ t_k K k ≠ 40 ∧ (w = 0 → t_k K k ≠ 17)) ∨ (u = 60 ∧ (w = 0 → t_k K k ≠ 17)) ∨ (t_k K k = 40 ∧ dep B = 7) ∨ (w = 0 ∧ t_k K k = 17 ∧ dep B = 7)) → E k → G w k B o u) ∧
  (∀ k p B o u c, k ≤ t_N K → opc (t_k K k) = c → c ≠ 0 → (∀ a, a ∈ p → lo c ≤ a ∧ a ≤ 28) → BSE (lo c) B → (23 ≤ c → c ≤ 25 → BSE 23 B) → CN 2 (p ++ B) o u → G (if c ≤ 21 then 0 else 1) (k + 1) (c :: B) (o ++ cz p) u → G 2 k (p ++ B) o u) ∧
  (∀ k p B o u, k ≤ t_N K → t_k K k = 41 → (∀ a, a ∈ p → 20 ≤ a ∧ a ≤ 28) → CN 2 (p ++ 30 :: B) o u → G 2 (k + 1) B (o ++ cz p) u → G 2 k (p ++ 30 :: B) o u) ∧
  (∀ k B o u, k ≤ t_N K → CN 2 B o u → ((opc (t_k K k) = 0 ∧ (t_k K k = 41 → 30 ∉ B) ∧ (aft part (t_k K k) → 30 ∈ B)) ∨ ((23 ≤ opc (t_k K k) ∧ opc (t_k K k) ≤ 25) ∧ cmt B)) → E k → G 2 k B o u)
theorem cmt_ap {p B : List Nat} (h : cmt p) : cmt (p ++ B) := by
  obtain ⟨p1, c, p2, rfl, h2, h3⟩ := h
  exact ⟨p1, c, p2 ++ B, by rw [List.append_assoc, List.cons_append], h2, h3⟩
