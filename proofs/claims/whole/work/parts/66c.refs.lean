/-! a reference read, then gone on with -/
theorem xx_lE {α β : Type} (a : α) (f : α → β) : xx_l a f = f a := rfl
theorem bn_o {T α : Type} {o : Option α} {x : α} (e : o = some x) (f : α → Option T) : o.bind f = f x := by rw [e]; rfl
theorem bn_m {T α : Type} {o : Option α} {x : α} (e : o = some x) (f : α → T) : o.map f = some (f x) := by rw [e]; rfl
theorem bn_s {T α : Type} (x : α) (f : α → Option T) : (some x).bind f = f x := rfl
theorem bn_ms {T α : Type} (x : α) (f : α → T) : (some x).map f = some (f x) := rfl
theorem bn_si {T : Type} (h : HP) (a k : Nat) (v : Int32) (b j : Nat) (f : Nat → Option T) : (hp_r (hp_si h a k v) b j).bind f = (hp_r h b j).bind f := rfl
theorem bn_sl {T : Type} (h : HP) (a k : Nat) (v : Int64) (b j : Nat) (f : Nat → Option T) : (hp_r (hp_sl h a k v) b j).bind f = (hp_r h b j).bind f := rfl
theorem mb_0 {T : Type} {m : Nat} {h : HP} (hs : MS m h) (f : Nat → Option T) : (hp_r h m 0).bind f = f (m + 1) := bn_o (mr_0 hs) f
theorem mb_10 {T : Type} {m : Nat} {h : HP} (hs : MS m h) (f : Nat → Option T) : (hp_r h m 10).bind f = f (m + 2) := bn_o (mr_10 hs) f
theorem mb_11 {T : Type} {m : Nat} {h : HP} (hs : MS m h) (f : Nat → Option T) : (hp_r h m 11).bind f = f (m + 3) := bn_o (mr_11 hs) f
theorem mb_12 {T : Type} {m : Nat} {h : HP} (hs : MS m h) (f : Nat → Option T) : (hp_r h m 12).bind f = f (m + 4) := bn_o (mr_12 hs) f
theorem mb_13 {T : Type} {m : Nat} {h : HP} (hs : MS m h) (f : Nat → Option T) : (hp_r h m 13).bind f = f (m + 5) := bn_o (mr_13 hs) f
theorem mb_14 {T : Type} {m : Nat} {h : HP} (hs : MS m h) (f : Nat → Option T) : (hp_r h m 14).bind f = f (m + 6) := bn_o (mr_14 hs) f
theorem mb_15 {T : Type} {m : Nat} {h : HP} (hs : MS m h) (f : Nat → Option T) : (hp_r h m 15).bind f = f (m + 7) := bn_o (mr_15 hs) f
theorem mb_16 {T : Type} {m : Nat} {h : HP} (hs : MS m h) (f : Nat → Option T) : (hp_r h m 16).bind f = f (m + 8) := bn_o (mr_16 hs) f
theorem mb_17 {T : Type} {m : Nat} {h : HP} (hs : MS m h) (f : Nat → Option T) : (hp_r h m 17).bind f = f (m + 9) := bn_o (mr_17 hs) f
theorem mb_18 {T : Type} {m : Nat} {h : HP} (hs : MS m h) (f : Nat → Option T) : (hp_r h m 18).bind f = f (m + 10) := bn_o (mr_18 hs) f
theorem mb_19 {T : Type} {m : Nat} {h : HP} (hs : MS m h) (f : Nat → Option T) : (hp_r h m 19).bind f = f (m + 11) := bn_o (mr_19 hs) f
theorem mb_36 {T : Type} {m : Nat} {h : HP} (hs : MS m h) (f : Nat → Option T) : (hp_r h m 36).bind f = f (m + 12) := bn_o (mr_36 hs) f
theorem mb_37 {T : Type} {m : Nat} {h : HP} (hs : MS m h) (f : Nat → Option T) : (hp_r h m 37).bind f = f (m + 13) := bn_o (mr_37 hs) f
theorem mb_38 {T : Type} {m : Nat} {h : HP} (hs : MS m h) (f : Nat → Option T) : (hp_r h m 38).bind f = f (m + 14) := bn_o (mr_38 hs) f
theorem mb_39 {T : Type} {m : Nat} {h : HP} (hs : MS m h) (f : Nat → Option T) : (hp_r h m 39).bind f = f (m + 15) := bn_o (mr_39 hs) f
theorem mb_40 {T : Type} {m : Nat} {h : HP} (hs : MS m h) (f : Nat → Option T) : (hp_r h m 40).bind f = f (m + 16) := bn_o (mr_40 hs) f
theorem mb_41 {T : Type} {m : Nat} {h : HP} (hs : MS m h) (f : Nat → Option T) : (hp_r h m 41).bind f = f (m + 17) := bn_o (mr_41 hs) f
theorem mb_42 {T : Type} {m : Nat} {h : HP} (hs : MS m h) (f : Nat → Option T) : (hp_r h m 42).bind f = f (m + 18) := bn_o (mr_42 hs) f
theorem mb_43 {T : Type} {m : Nat} {h : HP} (hs : MS m h) (f : Nat → Option T) : (hp_r h m 43).bind f = f (m + 19) := bn_o (mr_43 hs) f
theorem mb_47 {T : Type} {m : Nat} {h : HP} (hs : MS m h) (f : Nat → Option T) : (hp_r h m 47).bind f = f (m + 20) := bn_o (mr_47 hs) f
theorem mb_48 {T : Type} {m : Nat} {h : HP} (hs : MS m h) (f : Nat → Option T) : (hp_r h m 48).bind f = f (m + 21) := bn_o (mr_48 hs) f
theorem mb_49 {T : Type} {m : Nat} {h : HP} (hs : MS m h) (f : Nat → Option T) : (hp_r h m 49).bind f = f (m + 22) := bn_o (mr_49 hs) f
theorem mb_50 {T : Type} {m : Nat} {h : HP} (hs : MS m h) (f : Nat → Option T) : (hp_r h m 50).bind f = f (m + 23) := bn_o (mr_50 hs) f
theorem mb_57 {T : Type} {m : Nat} {h : HP} (hs : MS m h) (f : Nat → Option T) : (hp_r h m 57).bind f = f (m + 24) := bn_o (mr_57 hs) f
theorem mb_58 {T : Type} {m : Nat} {h : HP} (hs : MS m h) (f : Nat → Option T) : (hp_r h m 58).bind f = f (m + 25) := bn_o (mr_58 hs) f
theorem mb_59 {T : Type} {m : Nat} {h : HP} (hs : MS m h) (f : Nat → Option T) : (hp_r h m 59).bind f = f (m + 26) := bn_o (mr_59 hs) f
theorem mb_62 {T : Type} {m : Nat} {h : HP} (hs : MS m h) (f : Nat → Option T) : (hp_r h m 62).bind f = f (m + 27) := bn_o (mr_62 hs) f
theorem mb_63 {T : Type} {m : Nat} {h : HP} (hs : MS m h) (f : Nat → Option T) : (hp_r h m 63).bind f = f (m + 28) := bn_o (mr_63 hs) f
theorem mb_64 {T : Type} {m : Nat} {h : HP} (hs : MS m h) (f : Nat → Option T) : (hp_r h m 64).bind f = f (m + 29) := bn_o (mr_64 hs) f
theorem mb_68 {T : Type} {m : Nat} {h : HP} (hs : MS m h) (f : Nat → Option T) : (hp_r h m 68).bind f = f (m + 30) := bn_o (mr_68 hs) f
theorem mb_69 {T : Type} {m : Nat} {h : HP} (hs : MS m h) (f : Nat → Option T) : (hp_r h m 69).bind f = f (m + 31) := bn_o (mr_69 hs) f
theorem mb_70 {T : Type} {m : Nat} {h : HP} (hs : MS m h) (f : Nat → Option T) : (hp_r h m 70).bind f = f (m + 32) := bn_o (mr_70 hs) f
theorem mb_71 {T : Type} {m : Nat} {h : HP} (hs : MS m h) (f : Nat → Option T) : (hp_r h m 71).bind f = f (m + 33) := bn_o (mr_71 hs) f
theorem mb_72 {T : Type} {m : Nat} {h : HP} (hs : MS m h) (f : Nat → Option T) : (hp_r h m 72).bind f = f (m + 34) := bn_o (mr_72 hs) f
theorem mb_73 {T : Type} {m : Nat} {h : HP} (hs : MS m h) (f : Nat → Option T) : (hp_r h m 73).bind f = f (m + 35) := bn_o (mr_73 hs) f
theorem mb_74 {T : Type} {m : Nat} {h : HP} (hs : MS m h) (f : Nat → Option T) : (hp_r h m 74).bind f = f (m + 36) := bn_o (mr_74 hs) f
theorem mb_75 {T : Type} {m : Nat} {h : HP} (hs : MS m h) (f : Nat → Option T) : (hp_r h m 75).bind f = f (m + 37) := bn_o (mr_75 hs) f
theorem mb_76 {T : Type} {m : Nat} {h : HP} (hs : MS m h) (f : Nat → Option T) : (hp_r h m 76).bind f = f (m + 38) := bn_o (mr_76 hs) f
theorem mb_77 {T : Type} {m : Nat} {h : HP} (hs : MS m h) (f : Nat → Option T) : (hp_r h m 77).bind f = f (m + 39) := bn_o (mr_77 hs) f
theorem mb_78 {T : Type} {m : Nat} {h : HP} (hs : MS m h) (f : Nat → Option T) : (hp_r h m 78).bind f = f (m + 40) := bn_o (mr_78 hs) f
theorem mb_79 {T : Type} {m : Nat} {h : HP} (hs : MS m h) (f : Nat → Option T) : (hp_r h m 79).bind f = f (m + 41) := bn_o (mr_79 hs) f
theorem mb_80 {T : Type} {m : Nat} {h : HP} (hs : MS m h) (f : Nat → Option T) : (hp_r h m 80).bind f = f (m + 42) := bn_o (mr_80 hs) f
theorem mb_81 {T : Type} {m : Nat} {h : HP} (hs : MS m h) (f : Nat → Option T) : (hp_r h m 81).bind f = f (m + 43) := bn_o (mr_81 hs) f
theorem mb_82 {T : Type} {m : Nat} {h : HP} (hs : MS m h) (f : Nat → Option T) : (hp_r h m 82).bind f = f (m + 44) := bn_o (mr_82 hs) f
theorem mb_83 {T : Type} {m : Nat} {h : HP} (hs : MS m h) (f : Nat → Option T) : (hp_r h m 83).bind f = f (m + 45) := bn_o (mr_83 hs) f
theorem mb_84 {T : Type} {m : Nat} {h : HP} (hs : MS m h) (f : Nat → Option T) : (hp_r h m 84).bind f = f (m + 46) := bn_o (mr_84 hs) f
theorem mb_87 {T : Type} {m : Nat} {h : HP} (hs : MS m h) (f : Nat → Option T) : (hp_r h m 87).bind f = f (m + 47) := bn_o (mr_87 hs) f
theorem mb_88 {T : Type} {m : Nat} {h : HP} (hs : MS m h) (f : Nat → Option T) : (hp_r h m 88).bind f = f (m + 48) := bn_o (mr_88 hs) f
theorem mb_89 {T : Type} {m : Nat} {h : HP} (hs : MS m h) (f : Nat → Option T) : (hp_r h m 89).bind f = f (m + 49) := bn_o (mr_89 hs) f
theorem mb_90 {T : Type} {m : Nat} {h : HP} (hs : MS m h) (f : Nat → Option T) : (hp_r h m 90).bind f = f (m + 50) := bn_o (mr_90 hs) f
theorem mb_91 {T : Type} {m : Nat} {h : HP} (hs : MS m h) (f : Nat → Option T) : (hp_r h m 91).bind f = f (m + 51) := bn_o (mr_91 hs) f
theorem mb_92 {T : Type} {m : Nat} {h : HP} (hs : MS m h) (f : Nat → Option T) : (hp_r h m 92).bind f = f (m + 52) := bn_o (mr_92 hs) f
theorem mb_93 {T : Type} {m : Nat} {h : HP} (hs : MS m h) (f : Nat → Option T) : (hp_r h m 93).bind f = f (m + 53) := bn_o (mr_93 hs) f
theorem mb_94 {T : Type} {m : Nat} {h : HP} (hs : MS m h) (f : Nat → Option T) : (hp_r h m 94).bind f = f (m + 54) := bn_o (mr_94 hs) f
theorem mb_95 {T : Type} {m : Nat} {h : HP} (hs : MS m h) (f : Nat → Option T) : (hp_r h m 95).bind f = f (m + 55) := bn_o (mr_95 hs) f
theorem xb_0_0 {T : Type} {x : Nat} {h : HP} (hs : XS x h) (f : Nat → Option T) : (hp_r h x 0).bind f = f (x + 1) := bn_o (xr_0_0 hs) f
theorem xb_0_2 {T : Type} {x : Nat} {h : HP} (hs : XS x h) (f : Nat → Option T) : (hp_r h x 2).bind f = f (x + 2) := bn_o (xr_0_2 hs) f
theorem xb_2_5 {T : Type} {x : Nat} {h : HP} (hs : XS x h) (f : Nat → Option T) : (hp_r h (x + 2) 5).bind f = f (x + 3) := bn_o (xr_2_5 hs) f
theorem xb_2_7 {T : Type} {x : Nat} {h : HP} (hs : XS x h) (f : Nat → Option T) : (hp_r h (x + 2) 7).bind f = f (x + 4) := bn_o (xr_2_7 hs) f
theorem xb_2_8 {T : Type} {x : Nat} {h : HP} (hs : XS x h) (f : Nat → Option T) : (hp_r h (x + 2) 8).bind f = f (x + 5) := bn_o (xr_2_8 hs) f
theorem xb_2_9 {T : Type} {x : Nat} {h : HP} (hs : XS x h) (f : Nat → Option T) : (hp_r h (x + 2) 9).bind f = f (x + 6) := bn_o (xr_2_9 hs) f
theorem xb_7_8 {T : Type} {x : Nat} {h : HP} (hs : XS x h) (f : Nat → Option T) : (hp_r h (x + 7) 8).bind f = f (x + 8) := bn_o (xr_7_8 hs) f
theorem xb_7_9 {T : Type} {x : Nat} {h : HP} (hs : XS x h) (f : Nat → Option T) : (hp_r h (x + 7) 9).bind f = f (x + 9) := bn_o (xr_7_9 hs) f
theorem xb_7_10 {T : Type} {x : Nat} {h : HP} (hs : XS x h) (f : Nat → Option T) : (hp_r h (x + 7) 10).bind f = f (x + 10) := bn_o (xr_7_10 hs) f
theorem xb_7_11 {T : Type} {x : Nat} {h : HP} (hs : XS x h) (f : Nat → Option T) : (hp_r h (x + 7) 11).bind f = f (x + 11) := bn_o (xr_7_11 hs) f
theorem xb_7_12 {T : Type} {x : Nat} {h : HP} (hs : XS x h) (f : Nat → Option T) : (hp_r h (x + 7) 12).bind f = f (x + 12) := bn_o (xr_7_12 hs) f
theorem xb_7_13 {T : Type} {x : Nat} {h : HP} (hs : XS x h) (f : Nat → Option T) : (hp_r h (x + 7) 13).bind f = f (x + 13) := bn_o (xr_7_13 hs) f
theorem xb_7_15 {T : Type} {x : Nat} {h : HP} (hs : XS x h) (f : Nat → Option T) : (hp_r h (x + 7) 15).bind f = f (x + 14) := bn_o (xr_7_15 hs) f
theorem xb_7_16 {T : Type} {x : Nat} {h : HP} (hs : XS x h) (f : Nat → Option T) : (hp_r h (x + 7) 16).bind f = f (x + 15) := bn_o (xr_7_16 hs) f
theorem xb_16_8 {T : Type} {x : Nat} {h : HP} (hs : XS x h) (f : Nat → Option T) : (hp_r h (x + 16) 8).bind f = f (x + 17) := bn_o (xr_16_8 hs) f
theorem xb_16_9 {T : Type} {x : Nat} {h : HP} (hs : XS x h) (f : Nat → Option T) : (hp_r h (x + 16) 9).bind f = f (x + 18) := bn_o (xr_16_9 hs) f
theorem xb_16_10 {T : Type} {x : Nat} {h : HP} (hs : XS x h) (f : Nat → Option T) : (hp_r h (x + 16) 10).bind f = f (x + 19) := bn_o (xr_16_10 hs) f
theorem xb_16_11 {T : Type} {x : Nat} {h : HP} (hs : XS x h) (f : Nat → Option T) : (hp_r h (x + 16) 11).bind f = f (x + 20) := bn_o (xr_16_11 hs) f
theorem xb_16_12 {T : Type} {x : Nat} {h : HP} (hs : XS x h) (f : Nat → Option T) : (hp_r h (x + 16) 12).bind f = f (x + 21) := bn_o (xr_16_12 hs) f
theorem xb_16_13 {T : Type} {x : Nat} {h : HP} (hs : XS x h) (f : Nat → Option T) : (hp_r h (x + 16) 13).bind f = f (x + 22) := bn_o (xr_16_13 hs) f
theorem xb_16_15 {T : Type} {x : Nat} {h : HP} (hs : XS x h) (f : Nat → Option T) : (hp_r h (x + 16) 15).bind f = f (x + 23) := bn_o (xr_16_15 hs) f
theorem xb_16_16 {T : Type} {x : Nat} {h : HP} (hs : XS x h) (f : Nat → Option T) : (hp_r h (x + 16) 16).bind f = f (x + 24) := bn_o (xr_16_16 hs) f
theorem xb_0_5 {T : Type} {x : Nat} {h : HP} (hs : XS x h) (f : Nat → Option T) : (hp_r h x 5).bind f = f (x + 25) := bn_o (xr_0_5 hs) f
theorem xb_25_4 {T : Type} {x : Nat} {h : HP} (hs : XS x h) (f : Nat → Option T) : (hp_r h (x + 25) 4).bind f = f (x + 26) := bn_o (xr_25_4 hs) f
theorem xb_0_6 {T : Type} {x : Nat} {h : HP} (hs : XS x h) (f : Nat → Option T) : (hp_r h x 6).bind f = f (x + 27) := bn_o (xr_0_6 hs) f
theorem xb_28_4 {T : Type} {x : Nat} {h : HP} (hs : XS x h) (f : Nat → Option T) : (hp_r h (x + 28) 4).bind f = f (x + 29) := bn_o (xr_28_4 hs) f
theorem xb_30_4 {T : Type} {x : Nat} {h : HP} (hs : XS x h) (f : Nat → Option T) : (hp_r h (x + 30) 4).bind f = f (x + 31) := bn_o (xr_30_4 hs) f
theorem xb_32_4 {T : Type} {x : Nat} {h : HP} (hs : XS x h) (f : Nat → Option T) : (hp_r h (x + 32) 4).bind f = f (x + 33) := bn_o (xr_32_4 hs) f
theorem xb_0_7 {T : Type} {x : Nat} {h : HP} (hs : XS x h) (f : Nat → Option T) : (hp_r h x 7).bind f = f (x + 34) := bn_o (xr_0_7 hs) f
theorem xb_34_2 {T : Type} {x : Nat} {h : HP} (hs : XS x h) (f : Nat → Option T) : (hp_r h (x + 34) 2).bind f = f (x + 35) := bn_o (xr_34_2 hs) f
theorem xb_34_3 {T : Type} {x : Nat} {h : HP} (hs : XS x h) (f : Nat → Option T) : (hp_r h (x + 34) 3).bind f = f (x + 36) := bn_o (xr_34_3 hs) f
theorem xb_34_4 {T : Type} {x : Nat} {h : HP} (hs : XS x h) (f : Nat → Option T) : (hp_r h (x + 34) 4).bind f = f (x + 37) := bn_o (xr_34_4 hs) f
theorem xb_34_5 {T : Type} {x : Nat} {h : HP} (hs : XS x h) (f : Nat → Option T) : (hp_r h (x + 34) 5).bind f = f (x + 38) := bn_o (xr_34_5 hs) f
theorem xb_34_6 {T : Type} {x : Nat} {h : HP} (hs : XS x h) (f : Nat → Option T) : (hp_r h (x + 34) 6).bind f = f (x + 39) := bn_o (xr_34_6 hs) f
theorem xb_34_7 {T : Type} {x : Nat} {h : HP} (hs : XS x h) (f : Nat → Option T) : (hp_r h (x + 34) 7).bind f = f (x + 40) := bn_o (xr_34_7 hs) f
theorem xb_27_0 {T : Type} {x : Nat} {h : HP} (hs : XS x h) (f : Nat → Option T) : (hp_r h (x + 27) 0).bind f = f (x + 28) := bn_o (xr_27_0 hs) f
theorem xb_27_1 {T : Type} {x : Nat} {h : HP} (hs : XS x h) (f : Nat → Option T) : (hp_r h (x + 27) 1).bind f = f (x + 30) := bn_o (xr_27_1 hs) f
theorem xb_27_2 {T : Type} {x : Nat} {h : HP} (hs : XS x h) (f : Nat → Option T) : (hp_r h (x + 27) 2).bind f = f (x + 32) := bn_o (xr_27_2 hs) f
theorem pr_8 {q : Nat} {h : HP} (hs : PSH q h) : hp_r h q 8 = some (q + 1) := hs.1
theorem pb_8 {T : Type} {q : Nat} {h : HP} (hs : PSH q h) (f : Nat → Option T) : (hp_r h q 8).bind f = f (q + 1) := bn_o (pr_8 hs) f
theorem pr_9 {q : Nat} {h : HP} (hs : PSH q h) : hp_r h q 9 = some (q + 2) := hs.2.1
theorem pb_9 {T : Type} {q : Nat} {h : HP} (hs : PSH q h) (f : Nat → Option T) : (hp_r h q 9).bind f = f (q + 2) := bn_o (pr_9 hs) f
theorem pr_10 {q : Nat} {h : HP} (hs : PSH q h) : hp_r h q 10 = some (q + 3) := hs.2.2.1
theorem pb_10 {T : Type} {q : Nat} {h : HP} (hs : PSH q h) (f : Nat → Option T) : (hp_r h q 10).bind f = f (q + 3) := bn_o (pr_10 hs) f
theorem pr_11 {q : Nat} {h : HP} (hs : PSH q h) : hp_r h q 11 = some (q + 4) := hs.2.2.2.1
theorem pb_11 {T : Type} {q : Nat} {h : HP} (hs : PSH q h) (f : Nat → Option T) : (hp_r h q 11).bind f = f (q + 4) := bn_o (pr_11 hs) f
theorem pr_12 {q : Nat} {h : HP} (hs : PSH q h) : hp_r h q 12 = some (q + 5) := hs.2.2.2.2.1
theorem pb_12 {T : Type} {q : Nat} {h : HP} (hs : PSH q h) (f : Nat → Option T) : (hp_r h q 12).bind f = f (q + 5) := bn_o (pr_12 hs) f
theorem pr_13 {q : Nat} {h : HP} (hs : PSH q h) : hp_r h q 13 = some (q + 6) := hs.2.2.2.2.2.1
theorem pb_13 {T : Type} {q : Nat} {h : HP} (hs : PSH q h) (f : Nat → Option T) : (hp_r h q 13).bind f = f (q + 6) := bn_o (pr_13 hs) f
theorem pr_15 {q : Nat} {h : HP} (hs : PSH q h) : hp_r h q 15 = some (q + 7) := hs.2.2.2.2.2.2.1
theorem pb_15 {T : Type} {q : Nat} {h : HP} (hs : PSH q h) (f : Nat → Option T) : (hp_r h q 15).bind f = f (q + 7) := bn_o (pr_15 hs) f
theorem pr_16 {q : Nat} {h : HP} (hs : PSH q h) : hp_r h q 16 = some (q + 8) := hs.2.2.2.2.2.2.2.1
theorem pb_16 {T : Type} {q : Nat} {h : HP} (hs : PSH q h) (f : Nat → Option T) : (hp_r h q 16).bind f = f (q + 8) := bn_o (pr_16 hs) f
theorem pn_1 {q : Nat} {h : HP} (hs : PSH q h) : hp_n h (q + 1) = 4 := hs.2.2.2.2.2.2.2.2.1
theorem pn_2 {q : Nat} {h : HP} (hs : PSH q h) : hp_n h (q + 2) = 6 := hs.2.2.2.2.2.2.2.2.2.1
theorem pn_3 {q : Nat} {h : HP} (hs : PSH q h) : hp_n h (q + 3) = 16 := hs.2.2.2.2.2.2.2.2.2.2.1
theorem pn_4 {q : Nat} {h : HP} (hs : PSH q h) : hp_n h (q + 4) = 16 := hs.2.2.2.2.2.2.2.2.2.2.2.1
theorem pn_5 {q : Nat} {h : HP} (hs : PSH q h) : hp_n h (q + 5) = 48 := hs.2.2.2.2.2.2.2.2.2.2.2.2.1
theorem pn_6 {q : Nat} {h : HP} (hs : PSH q h) : hp_n h (q + 6) = 540 := hs.2.2.2.2.2.2.2.2.2.2.2.2.2.1
theorem pn_7 {q : Nat} {h : HP} (hs : PSH q h) : hp_n h (q + 7) = 5 := hs.2.2.2.2.2.2.2.2.2.2.2.2.2.2.1
theorem pn_8 {q : Nat} {h : HP} (hs : PSH q h) : hp_n h (q + 8) = 60 := hs.2.2.2.2.2.2.2.2.2.2.2.2.2.2.2
theorem PSH_fr {S : Nat → Nat → Prop} {q : Nat} {h h' : HP} (H : hp_fr S h h') (hs : PSH q h) : PSH q h' := by unfold PSH; simp only [hp_fr_r H, hp_fr_n H]; exact hs
