/-! the tables of both sides -/
theorem rs3_oS {P : PT} {N i : Nat} : rs3 P N i = 0 ↔ oS P N i = 0 := by
  constructor
  · intro z
    refine Decidable.of_not_not (fun y => ?_)
    rcases rs3_12 y with w | w <;> omega
  · exact rs3_0
theorem rs3_3 (P : PT) (N i : Nat) : rs3 P N i < 3 := by rcases rs3_lt P N i with h | h | h <;> omega
theorem XTB_of {P : PT} {sv q : Nat} {B : BT} {h : HP} (ok : POK P) (hn : B.1 ≤ 5000) (hQ : SVQ P sv q h) (hI : SVI P sv B (8 * B.1) h) : XTB sv q B.1 (p_nm P) (fun s i => rs3 P (B.2.1 s % 2 ^ 54) i) (fun s i => idx B.2.1 B.1 (tg P B.2.1 s i)) h := by
  have hnm := ok.2.2.2.2.2.1
  obtain ⟨i1, i2, i3, i4, i5, i6, i7, i8, i9, i10⟩ := hI
  obtain ⟨_, hp, s0, s1, s2, s3, s4, s5, s6, s7, m2, m6, m7, m8, m9⟩ := hQ
  refine ⟨hn, hnm, s2, s5, s6, m8, i1.2.2.1, hp.2.2.2.2.2.1, fun s i _ _ => rs3_3 P _ i, fun s i h1 h2 h3 => i9 s i h2 (by omega) h1 (rs3_oS.mp h3), fun s i h1 h2 => ?_⟩
  rw [i6 s i h2 (by omega) h1]; rfl
theorem TAB_of {P : PT} {m : Nat} {B : BT} {h : HP} (ok : POK P) (hn : B.1 ≤ 5000) (hs : MS m h) (hp : PM P m h) (hB : MB m B h) (hI : CLP P B (8 * B.1)) (hN : NXM m P B (8 * B.1) h) : TAB m B.1 (p_nm P) (fun s i => rs3 P (B.2.1 s % 2 ^ 54) i) (fun s i => idx B.2.1 B.1 (tg P B.2.1 s i)) h := by
  have hnm := ok.2.2.2.2.2.1
  refine ⟨hs, hn, hnm, hp.2.2.2.2.2.1, hB.1.2.1, fun s i _ _ => rs3_3 P _ i, fun s i h1 h2 h3 => hI s i h2 (by omega) h1 (rs3_oS.mp h3), fun s i h1 h2 => ?_⟩
  rw [hN s i h2 (by omega) h1]; rfl
