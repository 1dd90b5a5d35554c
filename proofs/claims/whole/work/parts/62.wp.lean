/-! PURE: what a function comes to -/
def pw {T : Type} (o : Option T) (P : T → Prop) : Prop := ∃ x, o = some x ∧ P x
theorem pw_some {T : Type} {x : T} {P : T → Prop} (h : P x) : pw (some x) P := ⟨x, rfl, h⟩
theorem pw_bind {T α : Type} {o : Option α} {f : α → Option T} {P : T → Prop} (h : pw o (fun x => pw (f x) P)) : pw (o.bind f) P := by
  obtain ⟨x, rfl, y, hy, hP⟩ := h
  exact ⟨y, hy, hP⟩
theorem pw_map {T α : Type} {o : Option α} {f : α → T} {P : T → Prop} (h : pw o (fun x => P (f x))) : pw (o.map f) P := by
  obtain ⟨x, rfl, hP⟩ := h
  exact ⟨f x, rfl, hP⟩
theorem pw_l {T α : Type} {a : α} {f : α → Option T} {P : T → Prop} (h : pw (f a) P) : pw (xx_l a f) P := h
theorem pw_t {T : Type} {c : Prop} [Decidable c] {a b : Option T} {P : T → Prop} (hc : c) (h : pw a P) : pw (if c then a else b) P := by rw [if_pos hc]; exact h
theorem pw_f {T : Type} {c : Prop} [Decidable c] {a b : Option T} {P : T → Prop} (hc : ¬ c) (h : pw b P) : pw (if c then a else b) P := by rw [if_neg hc]; exact h
theorem pw_if {T : Type} {c : Prop} [Decidable c] {a b : Option T} {P : T → Prop} (h1 : c → pw a P) (h2 : ¬ c → pw b P) : pw (if c then a else b) P := by
  by_cases hc : c
  · exact pw_t hc (h1 hc)
  · exact pw_f hc (h2 hc)
theorem pw_mono {T : Type} {o : Option T} {P Q : T → Prop} (h : pw o P) (hm : ∀ x, P x → Q x) : pw o Q := by
  obtain ⟨x, hx, hP⟩ := h
  exact ⟨x, hx, hm x hP⟩
theorem pw_r {T : Type} {h : HP} {a k q : Nat} {f : Nat → Option T} {P : T → Prop} (e : hp_r h a k = some q) (g : pw (f q) P) : pw ((hp_r h a k).bind f) P := by rw [e]; exact g
theorem pw_lp {S T : Type} {body : S → Option (S ⊕ T)} {P : T → Prop} (I : S → Prop) (μ : S → Nat) (hb : ∀ s, I s → pw (body s) (xx_L2 (fun s' => I s' ∧ μ s' < μ s) P)) (s : S) (hs : I s) : pw (xx_lp body s) P := by
  have key : ∀ (n : Nat) (s : S), μ s < n → I s → ∃ k t, xx_ln body k s = some t ∧ P t := by
    intro n
    induction n with
    | zero => intro s h; omega
    | succ n ih =>
      intro s hn hI
      obtain ⟨x, hx, hL⟩ := hb s hI
      cases x with
      | inl s' =>
        obtain ⟨h1, h2⟩ : I s' ∧ μ s' < μ s := hL
        obtain ⟨k, t, hk, hP⟩ := ih s' (by omega) h1
        exact ⟨k + 1, t, by simp only [xx_ln, hx]; exact hk, hP⟩
      | inr t => exact ⟨1, t, by simp only [xx_ln, hx], hL⟩
  obtain ⟨k, t, hk, hP⟩ := key (μ s + 1) s (by omega) hs
  exact ⟨t, xx_lp_of hk, hP⟩
/-! numbers -/
theorem iL (n : Nat) : (OfNat.ofNat n : Int32) = nI n := rfl
theorem hp_in_nI {j n : Nat} (h : j < n) (hj : j < 2 ^ 31) : hp_in (nI j) n = true := by
  simp only [hp_in, Bool.and_eq_true, Bool.not_eq_true', decide_eq_false_iff_not, decide_eq_true_eq]
  exact ⟨nI_pos hj, by rw [nI_clamp hj]; exact h⟩
theorem i_le {a b : Nat} (ha : a < 2 ^ 31) (hb : b < 2 ^ 31) : (nI a ≤ nI b) = (a ≤ b) := propext (nI_leI ha hb)
theorem i_lt {a b : Nat} (ha : a < 2 ^ 31) (hb : b < 2 ^ 31) : (nI a < nI b) = (a < b) := propext (nI_ltI ha hb)
theorem i_eq {a b : Nat} (ha : a < 2 ^ 31) (hb : b < 2 ^ 31) : (nI a = nI b) = (a = b) := propext (nI_eq ha hb)
theorem i_m1 : (-1 : Int32) = nI 0 - 1 := by decide
theorem i_m1lt {b : Nat} (hb : b < 2 ^ 31) : ¬ nI b = (-1 : Int32) := by
  intro q
  have h1 : (nI b).toInt = (-1 : Int32).toInt := by rw [q]
  rw [nI_toInt hb] at h1
  have h2 : (-1 : Int32).toInt = -1 := by decide
  omega
/-- where one picture differs from another: ints and longs at the places that S names, no reference, no kind, no length, nothing new -/
def hp_fr (S : Nat → Nat → Prop) (h h' : HP) : Prop := (∀ a k, ¬ S a k → hp_i h' a k = hp_i h a k) ∧ (∀ a k, ¬ S a k → hp_l h' a k = hp_l h a k) ∧ h'.2.2 = h.2.2
theorem hp_fr_rf {S : Nat → Nat → Prop} (h : HP) : hp_fr S h h := ⟨fun _ _ _ => rfl, fun _ _ _ => rfl, rfl⟩
theorem hp_fr_tr {S : Nat → Nat → Prop} {a b c : HP} (h1 : hp_fr S a b) (h2 : hp_fr S b c) : hp_fr S a c := ⟨fun q k hq => (h2.1 q k hq).trans (h1.1 q k hq), fun q k hq => (h2.2.1 q k hq).trans (h1.2.1 q k hq), h2.2.2.trans h1.2.2⟩
theorem hp_fr_mo {S S' : Nat → Nat → Prop} {a b : HP} (h1 : hp_fr S a b) (hS : ∀ q k, S q k → S' q k) : hp_fr S' a b := ⟨fun q k hq => h1.1 q k (fun z => hq (hS q k z)), fun q k hq => h1.2.1 q k (fun z => hq (hS q k z)), h1.2.2⟩
theorem hp_fr_si {S : Nat → Nat → Prop} {h : HP} {a k : Nat} {v : Int32} (hS : S a k) : hp_fr S h (hp_si h a k v) := ⟨fun q j hq => by rw [hp_i_si]; exact if_neg (fun z => hq (by rw [z.1, z.2]; exact hS)), fun _ _ _ => rfl, rfl⟩
theorem hp_fr_sl {S : Nat → Nat → Prop} {h : HP} {a k : Nat} {v : Int64} (hS : S a k) : hp_fr S h (hp_sl h a k v) := ⟨fun _ _ _ => rfl, fun q j hq => by rw [hp_l_sl]; exact if_neg (fun z => hq (by rw [z.1, z.2]; exact hS)), rfl⟩
theorem hp_fr_r {S : Nat → Nat → Prop} {h h' : HP} (H : hp_fr S h h') (a k : Nat) : hp_r h' a k = hp_r h a k := by unfold hp_r; rw [H.2.2]
theorem hp_fr_n {S : Nat → Nat → Prop} {h h' : HP} (H : hp_fr S h h') (a : Nat) : hp_n h' a = hp_n h a := by unfold hp_n; rw [H.2.2]
theorem hp_fr_k {S : Nat → Nat → Prop} {h h' : HP} (H : hp_fr S h h') (a : Nat) : hp_k h' a = hp_k h a := by unfold hp_k; rw [H.2.2]
theorem hp_fr_z {S : Nat → Nat → Prop} {h h' : HP} (H : hp_fr S h h') : hp_z h' = hp_z h := by unfold hp_z; rw [H.2.2]
theorem hp_fr_s {S : Nat → Nat → Prop} {h h' : HP} (H : hp_fr S h h') : hp_s h' = hp_s h := by unfold hp_s; rw [H.2.2]
/-- the shape of the reference's object at m: field, place behind it, length of its array -/
def ms_t : List (Nat × Nat × Nat) := [(0, 1, 1400), (10, 2, 4), (11, 3, 4), (12, 4, 4), (13, 5, 16), (14, 6, 6), (15, 7, 6), (16, 8, 16), (17, 9, 16), (18, 10, 16), (19, 11, 4), (36, 12, 640), (37, 13, 640), (38, 14, 49), (39, 15, 640), (40, 16, 640), (41, 17, 49), (42, 18, 300), (43, 19, 70), (47, 20, 6), (48, 21, 6), (49, 22, 6), (50, 23, 6), (57, 24, 6), (58, 25, 6), (59, 26, 6), (62, 27, 5001), (63, 28, 16384), (64, 29, 30006), (68, 30, 5001), (69, 31, 5002), (70, 32, 30006), (71, 33, 5001), (72, 34, 5001), (73, 35, 5001), (74, 36, 5001), (75, 37, 5001), (76, 38, 5001), (77, 39, 5001), (78, 40, 8), (79, 41, 60), (80, 42, 60), (81, 43, 60), (82, 44, 60), (83, 45, 100), (84, 46, 100), (87, 47, 3), (88, 48, 3), (89, 49, 18), (90, 50, 18), (91, 51, 18), (92, 52, 18), (93, 53, 3), (94, 54, 3), (95, 55, 3)]
def MS (m : Nat) (h : HP) : Prop := ∀ q ∈ ms_t, hp_r h m q.1 = some (m + q.2.1) ∧ hp_n h (m + q.2.1) = q.2.2
theorem MS_fr {S : Nat → Nat → Prop} {m : Nat} {h h' : HP} (H : hp_fr S h h') (hs : MS m h) : MS m h' := fun q hq => by rw [hp_fr_r H, hp_fr_n H]; exact hs q hq
theorem MS_si {m : Nat} {h : HP} {a k : Nat} {v : Int32} (hs : MS m h) : MS m (hp_si h a k v) := hs
theorem MS_sl {m : Nat} {h : HP} {a k : Nat} {v : Int64} (hs : MS m h) : MS m (hp_sl h a k v) := hs
theorem mr_0 {m : Nat} {h : HP} (hs : MS m h) : hp_r h m 0 = some (m + 1) := (hs (0, 1, 1400) (List.mem_of_getElem? (i := 0) rfl)).1
theorem mn_1 {m : Nat} {h : HP} (hs : MS m h) : hp_n h (m + 1) = 1400 := (hs (0, 1, 1400) (List.mem_of_getElem? (i := 0) rfl)).2
theorem mr_10 {m : Nat} {h : HP} (hs : MS m h) : hp_r h m 10 = some (m + 2) := (hs (10, 2, 4) (List.mem_of_getElem? (i := 1) rfl)).1
theorem mn_2 {m : Nat} {h : HP} (hs : MS m h) : hp_n h (m + 2) = 4 := (hs (10, 2, 4) (List.mem_of_getElem? (i := 1) rfl)).2
theorem mr_11 {m : Nat} {h : HP} (hs : MS m h) : hp_r h m 11 = some (m + 3) := (hs (11, 3, 4) (List.mem_of_getElem? (i := 2) rfl)).1
theorem mn_3 {m : Nat} {h : HP} (hs : MS m h) : hp_n h (m + 3) = 4 := (hs (11, 3, 4) (List.mem_of_getElem? (i := 2) rfl)).2
theorem mr_12 {m : Nat} {h : HP} (hs : MS m h) : hp_r h m 12 = some (m + 4) := (hs (12, 4, 4) (List.mem_of_getElem? (i := 3) rfl)).1
theorem mn_4 {m : Nat} {h : HP} (hs : MS m h) : hp_n h (m + 4) = 4 := (hs (12, 4, 4) (List.mem_of_getElem? (i := 3) rfl)).2
theorem mr_13 {m : Nat} {h : HP} (hs : MS m h) : hp_r h m 13 = some (m + 5) := (hs (13, 5, 16) (List.mem_of_getElem? (i := 4) rfl)).1
theorem mn_5 {m : Nat} {h : HP} (hs : MS m h) : hp_n h (m + 5) = 16 := (hs (13, 5, 16) (List.mem_of_getElem? (i := 4) rfl)).2
theorem mr_14 {m : Nat} {h : HP} (hs : MS m h) : hp_r h m 14 = some (m + 6) := (hs (14, 6, 6) (List.mem_of_getElem? (i := 5) rfl)).1
theorem mn_6 {m : Nat} {h : HP} (hs : MS m h) : hp_n h (m + 6) = 6 := (hs (14, 6, 6) (List.mem_of_getElem? (i := 5) rfl)).2
theorem mr_15 {m : Nat} {h : HP} (hs : MS m h) : hp_r h m 15 = some (m + 7) := (hs (15, 7, 6) (List.mem_of_getElem? (i := 6) rfl)).1
theorem mn_7 {m : Nat} {h : HP} (hs : MS m h) : hp_n h (m + 7) = 6 := (hs (15, 7, 6) (List.mem_of_getElem? (i := 6) rfl)).2
theorem mr_16 {m : Nat} {h : HP} (hs : MS m h) : hp_r h m 16 = some (m + 8) := (hs (16, 8, 16) (List.mem_of_getElem? (i := 7) rfl)).1
theorem mn_8 {m : Nat} {h : HP} (hs : MS m h) : hp_n h (m + 8) = 16 := (hs (16, 8, 16) (List.mem_of_getElem? (i := 7) rfl)).2
theorem mr_17 {m : Nat} {h : HP} (hs : MS m h) : hp_r h m 17 = some (m + 9) := (hs (17, 9, 16) (List.mem_of_getElem? (i := 8) rfl)).1
theorem mn_9 {m : Nat} {h : HP} (hs : MS m h) : hp_n h (m + 9) = 16 := (hs (17, 9, 16) (List.mem_of_getElem? (i := 8) rfl)).2
theorem mr_18 {m : Nat} {h : HP} (hs : MS m h) : hp_r h m 18 = some (m + 10) := (hs (18, 10, 16) (List.mem_of_getElem? (i := 9) rfl)).1
theorem mn_10 {m : Nat} {h : HP} (hs : MS m h) : hp_n h (m + 10) = 16 := (hs (18, 10, 16) (List.mem_of_getElem? (i := 9) rfl)).2
theorem mr_19 {m : Nat} {h : HP} (hs : MS m h) : hp_r h m 19 = some (m + 11) := (hs (19, 11, 4) (List.mem_of_getElem? (i := 10) rfl)).1
theorem mn_11 {m : Nat} {h : HP} (hs : MS m h) : hp_n h (m + 11) = 4 := (hs (19, 11, 4) (List.mem_of_getElem? (i := 10) rfl)).2
theorem mr_36 {m : Nat} {h : HP} (hs : MS m h) : hp_r h m 36 = some (m + 12) := (hs (36, 12, 640) (List.mem_of_getElem? (i := 11) rfl)).1
theorem mn_12 {m : Nat} {h : HP} (hs : MS m h) : hp_n h (m + 12) = 640 := (hs (36, 12, 640) (List.mem_of_getElem? (i := 11) rfl)).2
theorem mr_37 {m : Nat} {h : HP} (hs : MS m h) : hp_r h m 37 = some (m + 13) := (hs (37, 13, 640) (List.mem_of_getElem? (i := 12) rfl)).1
theorem mn_13 {m : Nat} {h : HP} (hs : MS m h) : hp_n h (m + 13) = 640 := (hs (37, 13, 640) (List.mem_of_getElem? (i := 12) rfl)).2
theorem mr_38 {m : Nat} {h : HP} (hs : MS m h) : hp_r h m 38 = some (m + 14) := (hs (38, 14, 49) (List.mem_of_getElem? (i := 13) rfl)).1
theorem mn_14 {m : Nat} {h : HP} (hs : MS m h) : hp_n h (m + 14) = 49 := (hs (38, 14, 49) (List.mem_of_getElem? (i := 13) rfl)).2
theorem mr_39 {m : Nat} {h : HP} (hs : MS m h) : hp_r h m 39 = some (m + 15) := (hs (39, 15, 640) (List.mem_of_getElem? (i := 14) rfl)).1
theorem mn_15 {m : Nat} {h : HP} (hs : MS m h) : hp_n h (m + 15) = 640 := (hs (39, 15, 640) (List.mem_of_getElem? (i := 14) rfl)).2
theorem mr_40 {m : Nat} {h : HP} (hs : MS m h) : hp_r h m 40 = some (m + 16) := (hs (40, 16, 640) (List.mem_of_getElem? (i := 15) rfl)).1
theorem mn_16 {m : Nat} {h : HP} (hs : MS m h) : hp_n h (m + 16) = 640 := (hs (40, 16, 640) (List.mem_of_getElem? (i := 15) rfl)).2
theorem mr_41 {m : Nat} {h : HP} (hs : MS m h) : hp_r h m 41 = some (m + 17) := (hs (41, 17, 49) (List.mem_of_getElem? (i := 16) rfl)).1
theorem mn_17 {m : Nat} {h : HP} (hs : MS m h) : hp_n h (m + 17) = 49 := (hs (41, 17, 49) (List.mem_of_getElem? (i := 16) rfl)).2
theorem mr_42 {m : Nat} {h : HP} (hs : MS m h) : hp_r h m 42 = some (m + 18) := (hs (42, 18, 300) (List.mem_of_getElem? (i := 17) rfl)).1
theorem mn_18 {m : Nat} {h : HP} (hs : MS m h) : hp_n h (m + 18) = 300 := (hs (42, 18, 300) (List.mem_of_getElem? (i := 17) rfl)).2
theorem mr_43 {m : Nat} {h : HP} (hs : MS m h) : hp_r h m 43 = some (m + 19) := (hs (43, 19, 70) (List.mem_of_getElem? (i := 18) rfl)).1
theorem mn_19 {m : Nat} {h : HP} (hs : MS m h) : hp_n h (m + 19) = 70 := (hs (43, 19, 70) (List.mem_of_getElem? (i := 18) rfl)).2
theorem mr_47 {m : Nat} {h : HP} (hs : MS m h) : hp_r h m 47 = some (m + 20) := (hs (47, 20, 6) (List.mem_of_getElem? (i := 19) rfl)).1
theorem mn_20 {m : Nat} {h : HP} (hs : MS m h) : hp_n h (m + 20) = 6 := (hs (47, 20, 6) (List.mem_of_getElem? (i := 19) rfl)).2
theorem mr_48 {m : Nat} {h : HP} (hs : MS m h) : hp_r h m 48 = some (m + 21) := (hs (48, 21, 6) (List.mem_of_getElem? (i := 20) rfl)).1
theorem mn_21 {m : Nat} {h : HP} (hs : MS m h) : hp_n h (m + 21) = 6 := (hs (48, 21, 6) (List.mem_of_getElem? (i := 20) rfl)).2
theorem mr_49 {m : Nat} {h : HP} (hs : MS m h) : hp_r h m 49 = some (m + 22) := (hs (49, 22, 6) (List.mem_of_getElem? (i := 21) rfl)).1
theorem mn_22 {m : Nat} {h : HP} (hs : MS m h) : hp_n h (m + 22) = 6 := (hs (49, 22, 6) (List.mem_of_getElem? (i := 21) rfl)).2
theorem mr_50 {m : Nat} {h : HP} (hs : MS m h) : hp_r h m 50 = some (m + 23) := (hs (50, 23, 6) (List.mem_of_getElem? (i := 22) rfl)).1
theorem mn_23 {m : Nat} {h : HP} (hs : MS m h) : hp_n h (m + 23) = 6 := (hs (50, 23, 6) (List.mem_of_getElem? (i := 22) rfl)).2
theorem mr_57 {m : Nat} {h : HP} (hs : MS m h) : hp_r h m 57 = some (m + 24) := (hs (57, 24, 6) (List.mem_of_getElem? (i := 23) rfl)).1
theorem mn_24 {m : Nat} {h : HP} (hs : MS m h) : hp_n h (m + 24) = 6 := (hs (57, 24, 6) (List.mem_of_getElem? (i := 23) rfl)).2
theorem mr_58 {m : Nat} {h : HP} (hs : MS m h) : hp_r h m 58 = some (m + 25) := (hs (58, 25, 6) (List.mem_of_getElem? (i := 24) rfl)).1
theorem mn_25 {m : Nat} {h : HP} (hs : MS m h) : hp_n h (m + 25) = 6 := (hs (58, 25, 6) (List.mem_of_getElem? (i := 24) rfl)).2
theorem mr_59 {m : Nat} {h : HP} (hs : MS m h) : hp_r h m 59 = some (m + 26) := (hs (59, 26, 6) (List.mem_of_getElem? (i := 25) rfl)).1
theorem mn_26 {m : Nat} {h : HP} (hs : MS m h) : hp_n h (m + 26) = 6 := (hs (59, 26, 6) (List.mem_of_getElem? (i := 25) rfl)).2
theorem mr_62 {m : Nat} {h : HP} (hs : MS m h) : hp_r h m 62 = some (m + 27) := (hs (62, 27, 5001) (List.mem_of_getElem? (i := 26) rfl)).1
theorem mn_27 {m : Nat} {h : HP} (hs : MS m h) : hp_n h (m + 27) = 5001 := (hs (62, 27, 5001) (List.mem_of_getElem? (i := 26) rfl)).2
theorem mr_63 {m : Nat} {h : HP} (hs : MS m h) : hp_r h m 63 = some (m + 28) := (hs (63, 28, 16384) (List.mem_of_getElem? (i := 27) rfl)).1
theorem mn_28 {m : Nat} {h : HP} (hs : MS m h) : hp_n h (m + 28) = 16384 := (hs (63, 28, 16384) (List.mem_of_getElem? (i := 27) rfl)).2
theorem mr_64 {m : Nat} {h : HP} (hs : MS m h) : hp_r h m 64 = some (m + 29) := (hs (64, 29, 30006) (List.mem_of_getElem? (i := 28) rfl)).1
theorem mn_29 {m : Nat} {h : HP} (hs : MS m h) : hp_n h (m + 29) = 30006 := (hs (64, 29, 30006) (List.mem_of_getElem? (i := 28) rfl)).2
theorem mr_68 {m : Nat} {h : HP} (hs : MS m h) : hp_r h m 68 = some (m + 30) := (hs (68, 30, 5001) (List.mem_of_getElem? (i := 29) rfl)).1
theorem mn_30 {m : Nat} {h : HP} (hs : MS m h) : hp_n h (m + 30) = 5001 := (hs (68, 30, 5001) (List.mem_of_getElem? (i := 29) rfl)).2
theorem mr_69 {m : Nat} {h : HP} (hs : MS m h) : hp_r h m 69 = some (m + 31) := (hs (69, 31, 5002) (List.mem_of_getElem? (i := 30) rfl)).1
theorem mn_31 {m : Nat} {h : HP} (hs : MS m h) : hp_n h (m + 31) = 5002 := (hs (69, 31, 5002) (List.mem_of_getElem? (i := 30) rfl)).2
theorem mr_70 {m : Nat} {h : HP} (hs : MS m h) : hp_r h m 70 = some (m + 32) := (hs (70, 32, 30006) (List.mem_of_getElem? (i := 31) rfl)).1
theorem mn_32 {m : Nat} {h : HP} (hs : MS m h) : hp_n h (m + 32) = 30006 := (hs (70, 32, 30006) (List.mem_of_getElem? (i := 31) rfl)).2
theorem mr_71 {m : Nat} {h : HP} (hs : MS m h) : hp_r h m 71 = some (m + 33) := (hs (71, 33, 5001) (List.mem_of_getElem? (i := 32) rfl)).1
theorem mn_33 {m : Nat} {h : HP} (hs : MS m h) : hp_n h (m + 33) = 5001 := (hs (71, 33, 5001) (List.mem_of_getElem? (i := 32) rfl)).2
theorem mr_72 {m : Nat} {h : HP} (hs : MS m h) : hp_r h m 72 = some (m + 34) := (hs (72, 34, 5001) (List.mem_of_getElem? (i := 33) rfl)).1
theorem mn_34 {m : Nat} {h : HP} (hs : MS m h) : hp_n h (m + 34) = 5001 := (hs (72, 34, 5001) (List.mem_of_getElem? (i := 33) rfl)).2
theorem mr_73 {m : Nat} {h : HP} (hs : MS m h) : hp_r h m 73 = some (m + 35) := (hs (73, 35, 5001) (List.mem_of_getElem? (i := 34) rfl)).1
theorem mn_35 {m : Nat} {h : HP} (hs : MS m h) : hp_n h (m + 35) = 5001 := (hs (73, 35, 5001) (List.mem_of_getElem? (i := 34) rfl)).2
theorem mr_74 {m : Nat} {h : HP} (hs : MS m h) : hp_r h m 74 = some (m + 36) := (hs (74, 36, 5001) (List.mem_of_getElem? (i := 35) rfl)).1
theorem mn_36 {m : Nat} {h : HP} (hs : MS m h) : hp_n h (m + 36) = 5001 := (hs (74, 36, 5001) (List.mem_of_getElem? (i := 35) rfl)).2
theorem mr_75 {m : Nat} {h : HP} (hs : MS m h) : hp_r h m 75 = some (m + 37) := (hs (75, 37, 5001) (List.mem_of_getElem? (i := 36) rfl)).1
theorem mn_37 {m : Nat} {h : HP} (hs : MS m h) : hp_n h (m + 37) = 5001 := (hs (75, 37, 5001) (List.mem_of_getElem? (i := 36) rfl)).2
theorem mr_76 {m : Nat} {h : HP} (hs : MS m h) : hp_r h m 76 = some (m + 38) := (hs (76, 38, 5001) (List.mem_of_getElem? (i := 37) rfl)).1
theorem mn_38 {m : Nat} {h : HP} (hs : MS m h) : hp_n h (m + 38) = 5001 := (hs (76, 38, 5001) (List.mem_of_getElem? (i := 37) rfl)).2
theorem mr_77 {m : Nat} {h : HP} (hs : MS m h) : hp_r h m 77 = some (m + 39) := (hs (77, 39, 5001) (List.mem_of_getElem? (i := 38) rfl)).1
theorem mn_39 {m : Nat} {h : HP} (hs : MS m h) : hp_n h (m + 39) = 5001 := (hs (77, 39, 5001) (List.mem_of_getElem? (i := 38) rfl)).2
theorem mr_78 {m : Nat} {h : HP} (hs : MS m h) : hp_r h m 78 = some (m + 40) := (hs (78, 40, 8) (List.mem_of_getElem? (i := 39) rfl)).1
theorem mn_40 {m : Nat} {h : HP} (hs : MS m h) : hp_n h (m + 40) = 8 := (hs (78, 40, 8) (List.mem_of_getElem? (i := 39) rfl)).2
theorem mr_79 {m : Nat} {h : HP} (hs : MS m h) : hp_r h m 79 = some (m + 41) := (hs (79, 41, 60) (List.mem_of_getElem? (i := 40) rfl)).1
theorem mn_41 {m : Nat} {h : HP} (hs : MS m h) : hp_n h (m + 41) = 60 := (hs (79, 41, 60) (List.mem_of_getElem? (i := 40) rfl)).2
theorem mr_80 {m : Nat} {h : HP} (hs : MS m h) : hp_r h m 80 = some (m + 42) := (hs (80, 42, 60) (List.mem_of_getElem? (i := 41) rfl)).1
theorem mn_42 {m : Nat} {h : HP} (hs : MS m h) : hp_n h (m + 42) = 60 := (hs (80, 42, 60) (List.mem_of_getElem? (i := 41) rfl)).2
theorem mr_81 {m : Nat} {h : HP} (hs : MS m h) : hp_r h m 81 = some (m + 43) := (hs (81, 43, 60) (List.mem_of_getElem? (i := 42) rfl)).1
theorem mn_43 {m : Nat} {h : HP} (hs : MS m h) : hp_n h (m + 43) = 60 := (hs (81, 43, 60) (List.mem_of_getElem? (i := 42) rfl)).2
theorem mr_82 {m : Nat} {h : HP} (hs : MS m h) : hp_r h m 82 = some (m + 44) := (hs (82, 44, 60) (List.mem_of_getElem? (i := 43) rfl)).1
theorem mn_44 {m : Nat} {h : HP} (hs : MS m h) : hp_n h (m + 44) = 60 := (hs (82, 44, 60) (List.mem_of_getElem? (i := 43) rfl)).2
theorem mr_83 {m : Nat} {h : HP} (hs : MS m h) : hp_r h m 83 = some (m + 45) := (hs (83, 45, 100) (List.mem_of_getElem? (i := 44) rfl)).1
theorem mn_45 {m : Nat} {h : HP} (hs : MS m h) : hp_n h (m + 45) = 100 := (hs (83, 45, 100) (List.mem_of_getElem? (i := 44) rfl)).2
theorem mr_84 {m : Nat} {h : HP} (hs : MS m h) : hp_r h m 84 = some (m + 46) := (hs (84, 46, 100) (List.mem_of_getElem? (i := 45) rfl)).1
theorem mn_46 {m : Nat} {h : HP} (hs : MS m h) : hp_n h (m + 46) = 100 := (hs (84, 46, 100) (List.mem_of_getElem? (i := 45) rfl)).2
theorem mr_87 {m : Nat} {h : HP} (hs : MS m h) : hp_r h m 87 = some (m + 47) := (hs (87, 47, 3) (List.mem_of_getElem? (i := 46) rfl)).1
theorem mn_47 {m : Nat} {h : HP} (hs : MS m h) : hp_n h (m + 47) = 3 := (hs (87, 47, 3) (List.mem_of_getElem? (i := 46) rfl)).2
theorem mr_88 {m : Nat} {h : HP} (hs : MS m h) : hp_r h m 88 = some (m + 48) := (hs (88, 48, 3) (List.mem_of_getElem? (i := 47) rfl)).1
theorem mn_48 {m : Nat} {h : HP} (hs : MS m h) : hp_n h (m + 48) = 3 := (hs (88, 48, 3) (List.mem_of_getElem? (i := 47) rfl)).2
theorem mr_89 {m : Nat} {h : HP} (hs : MS m h) : hp_r h m 89 = some (m + 49) := (hs (89, 49, 18) (List.mem_of_getElem? (i := 48) rfl)).1
theorem mn_49 {m : Nat} {h : HP} (hs : MS m h) : hp_n h (m + 49) = 18 := (hs (89, 49, 18) (List.mem_of_getElem? (i := 48) rfl)).2
theorem mr_90 {m : Nat} {h : HP} (hs : MS m h) : hp_r h m 90 = some (m + 50) := (hs (90, 50, 18) (List.mem_of_getElem? (i := 49) rfl)).1
theorem mn_50 {m : Nat} {h : HP} (hs : MS m h) : hp_n h (m + 50) = 18 := (hs (90, 50, 18) (List.mem_of_getElem? (i := 49) rfl)).2
theorem mr_91 {m : Nat} {h : HP} (hs : MS m h) : hp_r h m 91 = some (m + 51) := (hs (91, 51, 18) (List.mem_of_getElem? (i := 50) rfl)).1
theorem mn_51 {m : Nat} {h : HP} (hs : MS m h) : hp_n h (m + 51) = 18 := (hs (91, 51, 18) (List.mem_of_getElem? (i := 50) rfl)).2
theorem mr_92 {m : Nat} {h : HP} (hs : MS m h) : hp_r h m 92 = some (m + 52) := (hs (92, 52, 18) (List.mem_of_getElem? (i := 51) rfl)).1
theorem mn_52 {m : Nat} {h : HP} (hs : MS m h) : hp_n h (m + 52) = 18 := (hs (92, 52, 18) (List.mem_of_getElem? (i := 51) rfl)).2
theorem mr_93 {m : Nat} {h : HP} (hs : MS m h) : hp_r h m 93 = some (m + 53) := (hs (93, 53, 3) (List.mem_of_getElem? (i := 52) rfl)).1
theorem mn_53 {m : Nat} {h : HP} (hs : MS m h) : hp_n h (m + 53) = 3 := (hs (93, 53, 3) (List.mem_of_getElem? (i := 52) rfl)).2
theorem mr_94 {m : Nat} {h : HP} (hs : MS m h) : hp_r h m 94 = some (m + 54) := (hs (94, 54, 3) (List.mem_of_getElem? (i := 53) rfl)).1
theorem mn_54 {m : Nat} {h : HP} (hs : MS m h) : hp_n h (m + 54) = 3 := (hs (94, 54, 3) (List.mem_of_getElem? (i := 53) rfl)).2
theorem mr_95 {m : Nat} {h : HP} (hs : MS m h) : hp_r h m 95 = some (m + 55) := (hs (95, 55, 3) (List.mem_of_getElem? (i := 54) rfl)).1
theorem mn_55 {m : Nat} {h : HP} (hs : MS m h) : hp_n h (m + 55) = 3 := (hs (95, 55, 3) (List.mem_of_getElem? (i := 54) rfl)).2
/-- the shape of the class's objects from x on: (object, field, what it holds), (array, length) -/
def xs_r : List (Nat × Nat × Nat) := [(0, 0, 1), (0, 2, 2), (2, 5, 3), (2, 7, 4), (2, 8, 5), (2, 9, 6), (7, 8, 8), (7, 9, 9), (7, 10, 10), (7, 11, 11), (7, 12, 12), (7, 13, 13), (7, 15, 14), (7, 16, 15), (16, 8, 17), (16, 9, 18), (16, 10, 19), (16, 11, 20), (16, 12, 21), (16, 13, 22), (16, 15, 23), (16, 16, 24), (0, 5, 25), (25, 4, 26), (0, 6, 27), (28, 4, 29), (30, 4, 31), (32, 4, 33), (0, 7, 34), (34, 2, 35), (34, 3, 36), (34, 4, 37), (34, 5, 38), (34, 6, 39), (34, 7, 40), (27, 0, 28), (27, 1, 30), (27, 2, 32)]
def xs_n : List (Nat × Nat) := [(1, 1400), (3, 4), (4, 1401), (5, 1401), (6, 1401), (8, 4), (9, 6), (10, 16), (11, 16), (12, 48), (13, 540), (14, 5), (15, 60), (17, 4), (18, 6), (19, 16), (20, 16), (21, 48), (22, 540), (23, 5), (24, 60), (26, 6), (27, 3), (29, 6), (31, 6), (33, 6), (35, 60), (36, 60), (37, 60), (38, 60), (39, 100), (40, 100)]
def XS (x : Nat) (h : HP) : Prop := (∀ q ∈ xs_r, hp_r h (x + q.1) q.2.1 = some (x + q.2.2)) ∧ ∀ q ∈ xs_n, hp_n h (x + q.1) = q.2
theorem xr_0_0 {x : Nat} {h : HP} (hs : XS x h) : hp_r h (x) 0 = some (x + 1) := hs.1 (0, 0, 1) (List.mem_of_getElem? (i := 0) rfl)
theorem xr_0_2 {x : Nat} {h : HP} (hs : XS x h) : hp_r h (x) 2 = some (x + 2) := hs.1 (0, 2, 2) (List.mem_of_getElem? (i := 1) rfl)
theorem xr_2_5 {x : Nat} {h : HP} (hs : XS x h) : hp_r h (x + 2) 5 = some (x + 3) := hs.1 (2, 5, 3) (List.mem_of_getElem? (i := 2) rfl)
theorem xr_2_7 {x : Nat} {h : HP} (hs : XS x h) : hp_r h (x + 2) 7 = some (x + 4) := hs.1 (2, 7, 4) (List.mem_of_getElem? (i := 3) rfl)
theorem xr_2_8 {x : Nat} {h : HP} (hs : XS x h) : hp_r h (x + 2) 8 = some (x + 5) := hs.1 (2, 8, 5) (List.mem_of_getElem? (i := 4) rfl)
theorem xr_2_9 {x : Nat} {h : HP} (hs : XS x h) : hp_r h (x + 2) 9 = some (x + 6) := hs.1 (2, 9, 6) (List.mem_of_getElem? (i := 5) rfl)
theorem xr_7_8 {x : Nat} {h : HP} (hs : XS x h) : hp_r h (x + 7) 8 = some (x + 8) := hs.1 (7, 8, 8) (List.mem_of_getElem? (i := 6) rfl)
theorem xr_7_9 {x : Nat} {h : HP} (hs : XS x h) : hp_r h (x + 7) 9 = some (x + 9) := hs.1 (7, 9, 9) (List.mem_of_getElem? (i := 7) rfl)
theorem xr_7_10 {x : Nat} {h : HP} (hs : XS x h) : hp_r h (x + 7) 10 = some (x + 10) := hs.1 (7, 10, 10) (List.mem_of_getElem? (i := 8) rfl)
theorem xr_7_11 {x : Nat} {h : HP} (hs : XS x h) : hp_r h (x + 7) 11 = some (x + 11) := hs.1 (7, 11, 11) (List.mem_of_getElem? (i := 9) rfl)
theorem xr_7_12 {x : Nat} {h : HP} (hs : XS x h) : hp_r h (x + 7) 12 = some (x + 12) := hs.1 (7, 12, 12) (List.mem_of_getElem? (i := 10) rfl)
theorem xr_7_13 {x : Nat} {h : HP} (hs : XS x h) : hp_r h (x + 7) 13 = some (x + 13) := hs.1 (7, 13, 13) (List.mem_of_getElem? (i := 11) rfl)
theorem xr_7_15 {x : Nat} {h : HP} (hs : XS x h) : hp_r h (x + 7) 15 = some (x + 14) := hs.1 (7, 15, 14) (List.mem_of_getElem? (i := 12) rfl)
theorem xr_7_16 {x : Nat} {h : HP} (hs : XS x h) : hp_r h (x + 7) 16 = some (x + 15) := hs.1 (7, 16, 15) (List.mem_of_getElem? (i := 13) rfl)
theorem xr_16_8 {x : Nat} {h : HP} (hs : XS x h) : hp_r h (x + 16) 8 = some (x + 17) := hs.1 (16, 8, 17) (List.mem_of_getElem? (i := 14) rfl)
theorem xr_16_9 {x : Nat} {h : HP} (hs : XS x h) : hp_r h (x + 16) 9 = some (x + 18) := hs.1 (16, 9, 18) (List.mem_of_getElem? (i := 15) rfl)
theorem xr_16_10 {x : Nat} {h : HP} (hs : XS x h) : hp_r h (x + 16) 10 = some (x + 19) := hs.1 (16, 10, 19) (List.mem_of_getElem? (i := 16) rfl)
theorem xr_16_11 {x : Nat} {h : HP} (hs : XS x h) : hp_r h (x + 16) 11 = some (x + 20) := hs.1 (16, 11, 20) (List.mem_of_getElem? (i := 17) rfl)
theorem xr_16_12 {x : Nat} {h : HP} (hs : XS x h) : hp_r h (x + 16) 12 = some (x + 21) := hs.1 (16, 12, 21) (List.mem_of_getElem? (i := 18) rfl)
theorem xr_16_13 {x : Nat} {h : HP} (hs : XS x h) : hp_r h (x + 16) 13 = some (x + 22) := hs.1 (16, 13, 22) (List.mem_of_getElem? (i := 19) rfl)
theorem xr_16_15 {x : Nat} {h : HP} (hs : XS x h) : hp_r h (x + 16) 15 = some (x + 23) := hs.1 (16, 15, 23) (List.mem_of_getElem? (i := 20) rfl)
theorem xr_16_16 {x : Nat} {h : HP} (hs : XS x h) : hp_r h (x + 16) 16 = some (x + 24) := hs.1 (16, 16, 24) (List.mem_of_getElem? (i := 21) rfl)
theorem xr_0_5 {x : Nat} {h : HP} (hs : XS x h) : hp_r h (x) 5 = some (x + 25) := hs.1 (0, 5, 25) (List.mem_of_getElem? (i := 22) rfl)
theorem xr_25_4 {x : Nat} {h : HP} (hs : XS x h) : hp_r h (x + 25) 4 = some (x + 26) := hs.1 (25, 4, 26) (List.mem_of_getElem? (i := 23) rfl)
theorem xr_0_6 {x : Nat} {h : HP} (hs : XS x h) : hp_r h (x) 6 = some (x + 27) := hs.1 (0, 6, 27) (List.mem_of_getElem? (i := 24) rfl)
theorem xr_28_4 {x : Nat} {h : HP} (hs : XS x h) : hp_r h (x + 28) 4 = some (x + 29) := hs.1 (28, 4, 29) (List.mem_of_getElem? (i := 25) rfl)
theorem xr_30_4 {x : Nat} {h : HP} (hs : XS x h) : hp_r h (x + 30) 4 = some (x + 31) := hs.1 (30, 4, 31) (List.mem_of_getElem? (i := 26) rfl)
theorem xr_32_4 {x : Nat} {h : HP} (hs : XS x h) : hp_r h (x + 32) 4 = some (x + 33) := hs.1 (32, 4, 33) (List.mem_of_getElem? (i := 27) rfl)
theorem xr_0_7 {x : Nat} {h : HP} (hs : XS x h) : hp_r h (x) 7 = some (x + 34) := hs.1 (0, 7, 34) (List.mem_of_getElem? (i := 28) rfl)
theorem xr_34_2 {x : Nat} {h : HP} (hs : XS x h) : hp_r h (x + 34) 2 = some (x + 35) := hs.1 (34, 2, 35) (List.mem_of_getElem? (i := 29) rfl)
theorem xr_34_3 {x : Nat} {h : HP} (hs : XS x h) : hp_r h (x + 34) 3 = some (x + 36) := hs.1 (34, 3, 36) (List.mem_of_getElem? (i := 30) rfl)
theorem xr_34_4 {x : Nat} {h : HP} (hs : XS x h) : hp_r h (x + 34) 4 = some (x + 37) := hs.1 (34, 4, 37) (List.mem_of_getElem? (i := 31) rfl)
theorem xr_34_5 {x : Nat} {h : HP} (hs : XS x h) : hp_r h (x + 34) 5 = some (x + 38) := hs.1 (34, 5, 38) (List.mem_of_getElem? (i := 32) rfl)
theorem xr_34_6 {x : Nat} {h : HP} (hs : XS x h) : hp_r h (x + 34) 6 = some (x + 39) := hs.1 (34, 6, 39) (List.mem_of_getElem? (i := 33) rfl)
theorem xr_34_7 {x : Nat} {h : HP} (hs : XS x h) : hp_r h (x + 34) 7 = some (x + 40) := hs.1 (34, 7, 40) (List.mem_of_getElem? (i := 34) rfl)
theorem xr_27_0 {x : Nat} {h : HP} (hs : XS x h) : hp_r h (x + 27) 0 = some (x + 28) := hs.1 (27, 0, 28) (List.mem_of_getElem? (i := 35) rfl)
theorem xr_27_1 {x : Nat} {h : HP} (hs : XS x h) : hp_r h (x + 27) 1 = some (x + 30) := hs.1 (27, 1, 30) (List.mem_of_getElem? (i := 36) rfl)
theorem xr_27_2 {x : Nat} {h : HP} (hs : XS x h) : hp_r h (x + 27) 2 = some (x + 32) := hs.1 (27, 2, 32) (List.mem_of_getElem? (i := 37) rfl)
theorem xn_1 {x : Nat} {h : HP} (hs : XS x h) : hp_n h (x + 1) = 1400 := hs.2 (1, 1400) (List.mem_of_getElem? (i := 0) rfl)
theorem xn_3 {x : Nat} {h : HP} (hs : XS x h) : hp_n h (x + 3) = 4 := hs.2 (3, 4) (List.mem_of_getElem? (i := 1) rfl)
theorem xn_4 {x : Nat} {h : HP} (hs : XS x h) : hp_n h (x + 4) = 1401 := hs.2 (4, 1401) (List.mem_of_getElem? (i := 2) rfl)
theorem xn_5 {x : Nat} {h : HP} (hs : XS x h) : hp_n h (x + 5) = 1401 := hs.2 (5, 1401) (List.mem_of_getElem? (i := 3) rfl)
theorem xn_6 {x : Nat} {h : HP} (hs : XS x h) : hp_n h (x + 6) = 1401 := hs.2 (6, 1401) (List.mem_of_getElem? (i := 4) rfl)
theorem xn_8 {x : Nat} {h : HP} (hs : XS x h) : hp_n h (x + 8) = 4 := hs.2 (8, 4) (List.mem_of_getElem? (i := 5) rfl)
theorem xn_9 {x : Nat} {h : HP} (hs : XS x h) : hp_n h (x + 9) = 6 := hs.2 (9, 6) (List.mem_of_getElem? (i := 6) rfl)
theorem xn_10 {x : Nat} {h : HP} (hs : XS x h) : hp_n h (x + 10) = 16 := hs.2 (10, 16) (List.mem_of_getElem? (i := 7) rfl)
theorem xn_11 {x : Nat} {h : HP} (hs : XS x h) : hp_n h (x + 11) = 16 := hs.2 (11, 16) (List.mem_of_getElem? (i := 8) rfl)
theorem xn_12 {x : Nat} {h : HP} (hs : XS x h) : hp_n h (x + 12) = 48 := hs.2 (12, 48) (List.mem_of_getElem? (i := 9) rfl)
theorem xn_13 {x : Nat} {h : HP} (hs : XS x h) : hp_n h (x + 13) = 540 := hs.2 (13, 540) (List.mem_of_getElem? (i := 10) rfl)
theorem xn_14 {x : Nat} {h : HP} (hs : XS x h) : hp_n h (x + 14) = 5 := hs.2 (14, 5) (List.mem_of_getElem? (i := 11) rfl)
theorem xn_15 {x : Nat} {h : HP} (hs : XS x h) : hp_n h (x + 15) = 60 := hs.2 (15, 60) (List.mem_of_getElem? (i := 12) rfl)
theorem xn_17 {x : Nat} {h : HP} (hs : XS x h) : hp_n h (x + 17) = 4 := hs.2 (17, 4) (List.mem_of_getElem? (i := 13) rfl)
theorem xn_18 {x : Nat} {h : HP} (hs : XS x h) : hp_n h (x + 18) = 6 := hs.2 (18, 6) (List.mem_of_getElem? (i := 14) rfl)
theorem xn_19 {x : Nat} {h : HP} (hs : XS x h) : hp_n h (x + 19) = 16 := hs.2 (19, 16) (List.mem_of_getElem? (i := 15) rfl)
theorem xn_20 {x : Nat} {h : HP} (hs : XS x h) : hp_n h (x + 20) = 16 := hs.2 (20, 16) (List.mem_of_getElem? (i := 16) rfl)
theorem xn_21 {x : Nat} {h : HP} (hs : XS x h) : hp_n h (x + 21) = 48 := hs.2 (21, 48) (List.mem_of_getElem? (i := 17) rfl)
theorem xn_22 {x : Nat} {h : HP} (hs : XS x h) : hp_n h (x + 22) = 540 := hs.2 (22, 540) (List.mem_of_getElem? (i := 18) rfl)
theorem xn_23 {x : Nat} {h : HP} (hs : XS x h) : hp_n h (x + 23) = 5 := hs.2 (23, 5) (List.mem_of_getElem? (i := 19) rfl)
theorem xn_24 {x : Nat} {h : HP} (hs : XS x h) : hp_n h (x + 24) = 60 := hs.2 (24, 60) (List.mem_of_getElem? (i := 20) rfl)
theorem xn_26 {x : Nat} {h : HP} (hs : XS x h) : hp_n h (x + 26) = 6 := hs.2 (26, 6) (List.mem_of_getElem? (i := 21) rfl)
theorem xn_27 {x : Nat} {h : HP} (hs : XS x h) : hp_n h (x + 27) = 3 := hs.2 (27, 3) (List.mem_of_getElem? (i := 22) rfl)
theorem xn_29 {x : Nat} {h : HP} (hs : XS x h) : hp_n h (x + 29) = 6 := hs.2 (29, 6) (List.mem_of_getElem? (i := 23) rfl)
theorem xn_31 {x : Nat} {h : HP} (hs : XS x h) : hp_n h (x + 31) = 6 := hs.2 (31, 6) (List.mem_of_getElem? (i := 24) rfl)
theorem xn_33 {x : Nat} {h : HP} (hs : XS x h) : hp_n h (x + 33) = 6 := hs.2 (33, 6) (List.mem_of_getElem? (i := 25) rfl)
theorem xn_35 {x : Nat} {h : HP} (hs : XS x h) : hp_n h (x + 35) = 60 := hs.2 (35, 60) (List.mem_of_getElem? (i := 26) rfl)
theorem xn_36 {x : Nat} {h : HP} (hs : XS x h) : hp_n h (x + 36) = 60 := hs.2 (36, 60) (List.mem_of_getElem? (i := 27) rfl)
theorem xn_37 {x : Nat} {h : HP} (hs : XS x h) : hp_n h (x + 37) = 60 := hs.2 (37, 60) (List.mem_of_getElem? (i := 28) rfl)
theorem xn_38 {x : Nat} {h : HP} (hs : XS x h) : hp_n h (x + 38) = 60 := hs.2 (38, 60) (List.mem_of_getElem? (i := 29) rfl)
theorem xn_39 {x : Nat} {h : HP} (hs : XS x h) : hp_n h (x + 39) = 100 := hs.2 (39, 100) (List.mem_of_getElem? (i := 30) rfl)
theorem xn_40 {x : Nat} {h : HP} (hs : XS x h) : hp_n h (x + 40) = 100 := hs.2 (40, 100) (List.mem_of_getElem? (i := 31) rfl)
theorem XS_fr {S : Nat → Nat → Prop} {x : Nat} {h h' : HP} (H : hp_fr S h h') (hs : XS x h) : XS x h' := ⟨fun q hq => by rw [hp_fr_r H]; exact hs.1 q hq, fun q hq => by rw [hp_fr_n H]; exact hs.2 q hq⟩
