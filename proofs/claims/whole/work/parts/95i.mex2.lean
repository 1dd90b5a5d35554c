/-! is a bracket open; what stands here -/
theorem rv_mem {B : List Nat} : (∃ j, j < B.length ∧ B.reverse.getD j 0 = 30) ↔ 30 ∈ B := by
  constructor
  · rintro ⟨j, h1, h2⟩
    have h3 : j < B.reverse.length := by rw [List.length_reverse]; exact h1
    rw [List.getD_eq_getElem?_getD, List.getElem?_eq_getElem h3, Option.getD_some] at h2
    exact List.mem_reverse.mp (by rw [← h2]; exact List.getElem_mem h3)
  · intro h
    obtain ⟨j, h1, h2⟩ := List.getElem_of_mem (List.mem_reverse.mpr h)
    refine ⟨j, by rw [List.length_reverse] at h1; exact h1, ?_⟩
    rw [List.getD_eq_getElem?_getD, List.getElem?_eq_getElem h1, Option.getD_some, h2]
theorem M_isOpen {m : Nat} {B : List Nat} {h : HP} (hs : MS m h) (hb : STK m B h) (hl : B.length ≤ 300) (hB : ∀ a, a ∈ B → a ≤ 30) : f_M_isOpen m h = some (nI (if 30 ∈ B then 1 else 0), h) := by
  obtain ⟨c1, c2, c3⟩ := hb
  have hle : ∀ j, j < B.length → B.reverse.getD j 0 ≤ 30 := fun j hj => by
    have h3 : j < B.reverse.length := by rw [List.length_reverse]; exact hj
    rw [List.getD_eq_getElem?_getD, List.getElem?_eq_getElem h3, Option.getD_some]
    exact hB _ (List.mem_reverse.mp (List.getElem_mem h3))
  have key : pw (f_M_isOpen m h) (fun r => r = (nI (if 30 ∈ B then 1 else 0), h)) := by
    unfold f_M_isOpen f_M_isOpen_4
    refine pw_cnt B.length (fun j t => ∃ b, t = (nI b, nI j, h) ∧ b < 2 ∧ (b = 1 ↔ ∃ i, i < j ∧ B.reverse.getD i 0 = 30)) ?_ ?_ 0 (0, 0, h) (by omega) ⟨0, rfl, by decide, ⟨fun z => by omega, fun ⟨i, hi, _⟩ => by omega⟩⟩
    · rintro j t hj ⟨b, rfl, b1, b2⟩
      unfold f_M_isOpen_4b f_M_isOpen_27 f_M_isOpen_32
      dsimp only
      rw [c1, if_neg (nI_ge hj (by omega))]
      rcases (show b = 0 ∨ b = 1 by omega) with rfl | rfl
      · rw [if_pos (show nI 0 = (0 : Int32) from rfl), mb_42 hs, mn_18 hs, if_pos (hp_in_nI (by omega) (by omega)), nI_clamp (by omega), c3 j hj]
        have hl30 := hle j hj
        by_cases z : B.reverse.getD j 0 = 30
        · rw [if_pos (show nI (B.reverse.getD j 0) = (30 : Int32) by rw [z]; rfl), xx_lE, nI_1]
          exact pw_L rfl ⟨1, rfl, by decide, ⟨fun _ => ⟨j, by omega, z⟩, fun _ => rfl⟩⟩
        · rw [if_neg (show ¬ nI (B.reverse.getD j 0) = (30 : Int32) from fun y => z ((nI_eq (b := 30) (by omega) (by decide)).mp y)), xx_lE, nI_1]
          refine pw_L rfl ⟨0, rfl, by decide, ⟨fun y => by omega, fun ⟨i, hi, y⟩ => ?_⟩⟩
          by_cases w : i = j
          · rw [w] at y; exact absurd y z
          · have := b2.mpr ⟨i, by omega, y⟩; omega
      · rw [if_neg (show ¬ nI 1 = (0 : Int32) by decide), xx_lE, nI_1]
        obtain ⟨i, hi, y⟩ := b2.mp rfl
        exact pw_L rfl ⟨1, rfl, by decide, ⟨fun _ => ⟨i, by omega, y⟩, fun _ => rfl⟩⟩
    · rintro t ⟨b, rfl, b1, b2⟩
      unfold f_M_isOpen_4b
      dsimp only
      rw [c1, if_pos (nI_le (Nat.le_refl _) (by omega)), if_pos (z01 b1)]
      refine pw_R rfl ?_
      rw [rv_mem] at b2
      by_cases w : 30 ∈ B
      · rw [if_pos w, b2.mpr w]
      · rw [if_neg w, show b = 0 by have := mt b2.mp w; omega]
  obtain ⟨r, hr, rfl⟩ := key
  exact hr
theorem M_known {K : TKS} {ps : Nat → Nat} {m k : Nat} {h : HP} (ok : TKO K) (hk : MTK K ps m k h) : f_M_known m h = some (if uc (t_k K k) < 6 ∧ t_k K k ≠ 21 then nI (uc (t_k K k)) else -1, h) := by
  unfold f_M_known
  rw [show (465491030131 : Int64) = lN (cst 0) from rfl, show (448545973363 : Int64) = lN (cst 9) from rfl, show (6578553 : Int64) = lN (cst 18) from rfl, show (130195279934579 : Int64) = lN (cst 19) from rfl, show (7169390 : Int64) = lN (cst 8) from rfl]
  have w : ∀ j, j < 20 → ∀ {T : Type} (f : Int32 × HP → Option T), (f_M_isWord m (lN (cst j)) h).bind f = f (nI (if t_k K k = j then 1 else 0), h) := fun j hj T f => bn_o (M_word ok hk hj) f
  generalize t_k K k = t at *
  rw [w 0 (by decide)]
  dsimp only
  by_cases z0 : t = 0
  · subst z0; rfl
  rw [if_neg z0, if_pos (show nI 0 = (0 : Int32) from rfl), w 9 (by decide)]
  dsimp only
  by_cases z9 : t = 9
  · subst z9; rfl
  rw [if_neg z9, if_pos (show nI 0 = (0 : Int32) from rfl), w 18 (by decide)]
  dsimp only
  by_cases z18 : t = 18
  · subst z18; rfl
  rw [if_neg z18, if_pos (show nI 0 = (0 : Int32) from rfl), w 19 (by decide)]
  dsimp only
  by_cases z19 : t = 19
  · subst z19; rfl
  rw [if_neg z19, if_pos (show nI 0 = (0 : Int32) from rfl), w 8 (by decide)]
  dsimp only
  by_cases z8 : t = 8
  · subst z8; rfl
  rw [if_neg z8, if_pos (show nI 0 = (0 : Int32) from rfl), if_neg]
  unfold uc
  rw [if_neg z0, if_neg z9, if_neg z18, if_neg z19, if_neg z8]
  rintro ⟨y1, y2⟩
  rw [if_neg y2] at y1; omega
/-! the machine's state -/
def S_me (m : Nat) : Nat → Nat → Prop := fun a k => S_er m a k ∨ S_tk m a k ∨ S_pil m a k ∨ S_nte m a k
def MRP (K : TKS) (ps : Nat → Nat) (m L : Nat) (T : Nat → Nat) (k : Nat) (B : List Nat) (o : List (Nat × Nat)) (u : Nat) (h : HP) : Prop := MTC m L T h ∧ hp_i h m 2 = 0 ∧ MTK K ps m k h ∧ STK m B h ∧ OUT m o u h ∧ ∀ a, a ∈ B → a ≤ 30
/-- an operand, put shortly -/
theorem O_19 {K : TKS} {ps : Nat → Nat} {m k w : Nat} {h : HP} (ok : TKO K) (hk : MTK K ps m k h) (hw : w < 2) : f_M_operand m (nI w) h = f_M_operand_51 m (nI w) (nI (if w = 0 ∧ t_k K k = 17 then 1 else 0)) (if uc (t_k K k) < 6 ∧ t_k K k ≠ 21 then nI (uc (t_k K k)) else -1) (nI (if uc (t_k K k) < 6 ∨ t_k K k = 40 then 1 else 0)) h := by
  have h64 := (ok.2.2.2.1 k hk.1).1
  have e19 : ∀ s0, f_M_operand_19 m (nI w) s0 h = f_M_operand_51 m (nI w) s0 (if uc (t_k K k) < 6 ∧ t_k K k ≠ 21 then nI (uc (t_k K k)) else -1) (nI (if uc (t_k K k) < 6 ∨ t_k K k = 40 then 1 else 0)) h := by
    intro s0
    unfold f_M_operand_19 f_M_operand_46
    rw [bn_o (M_known ok hk)]
    dsimp only
    have h6 := hk.2.1
    have e2 : hp_i h m 6 = (2 : Int32) ↔ t_k K k = 21 := by
      rw [h6, show (2 : Int32) = nI 2 from rfl, nI_eq (by have := rk_lt h64; omega) (by decide)]; exact rk_2 h64
    have e40 : hp_i h m 6 = (40 : Int32) ↔ t_k K k = 40 := rk_sg ok hk (j := 40) (by omega)
    obtain ⟨kv, hkv, hk0⟩ : ∃ kv : Int32, (if uc (t_k K k) < 6 ∧ t_k K k ≠ 21 then nI (uc (t_k K k)) else -1) = kv ∧ (kv < 0 ↔ ¬ (uc (t_k K k) < 6 ∧ t_k K k ≠ 21)) := by
      refine ⟨_, rfl, ?_⟩
      by_cases y : uc (t_k K k) < 6 ∧ t_k K k ≠ 21
      · rw [if_pos y]; exact ⟨fun z => absurd z (nI_pos (by omega)), fun z => absurd y z⟩
      · rw [if_neg y]; exact ⟨fun _ => y, fun _ => by decide⟩
    rw [hkv]
    by_cases z21 : t_k K k = 21
    · rw [if_pos (e2.mpr z21), show (if uc (t_k K k) < 6 ∨ t_k K k = 40 then 1 else 0) = 1 from if_pos (.inl (by rw [z21]; decide))]; rfl
    rw [if_neg (fun y => z21 (e2.mp y))]
    by_cases z40 : t_k K k = 40
    · rw [if_pos (e40.mpr z40), show (if uc (t_k K k) < 6 ∨ t_k K k = 40 then 1 else 0) = 1 from if_pos (.inr z40)]; rfl
    rw [if_neg (fun y => z40 (e40.mp y))]
    by_cases zu : uc (t_k K k) < 6
    · rw [if_neg (fun y => hk0.mp y ⟨zu, z21⟩), show (if uc (t_k K k) < 6 ∨ t_k K k = 40 then 1 else 0) = 1 from if_pos (.inl zu)]; rfl
    · rw [if_pos (hk0.mpr (fun y => zu y.1)), show (if uc (t_k K k) < 6 ∨ t_k K k = 40 then 1 else 0) = 0 from if_neg (by omega)]; rfl
  unfold f_M_operand f_M_operand_18
  rcases (show w = 0 ∨ w = 1 by omega) with rfl | rfl
  · rw [if_pos (show nI 0 = (0 : Int32) from rfl), show (7237492 : Int64) = lN (cst 17) from rfl, bn_o (M_word ok hk (by decide))]
    dsimp only
    by_cases z : t_k K k = 17
    · rw [if_pos z, if_neg (show ¬ nI 1 = (0 : Int32) by decide), show (if 0 = 0 ∧ t_k K k = 17 then 1 else 0) = 1 from if_pos ⟨rfl, z⟩]; exact e19 _
    · rw [if_neg z, if_pos (show nI 0 = (0 : Int32) from rfl), show (if 0 = 0 ∧ t_k K k = 17 then 1 else 0) = 0 from if_neg (fun y => z y.2)]; exact e19 _
  · rw [if_neg (show ¬ nI 1 = (0 : Int32) by decide), show (if 1 = 0 ∧ t_k K k = 17 then 1 else 0) = 0 from if_neg (fun y => absurd y.1 (by decide))]; exact e19 _
