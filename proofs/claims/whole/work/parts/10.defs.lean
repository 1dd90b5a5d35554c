/-! LampYard$Reader.unitCode()I -/
noncomputable def f_Rd_unitCode (v0 : Nat) (h : HP) : Option (Int32 × HP) :=
  xx_l (hp_i h v0 12) fun w_1 =>
  (if w_1 = (0 : Int32) then
  (some ((-1 : Int32), h))
  else
  (if w_1 = (8 : Int32) then
  (some ((-5 : Int32), h))
  else
  (if w_1 = (9 : Int32) then
  (some ((-2 : Int32), h))
  else
  (if w_1 = (18 : Int32) then
  (some ((-3 : Int32), h))
  else
  (if w_1 = (19 : Int32) then
  (some ((-4 : Int32), h))
  else
  (if w_1 = (21 : Int32) then
  ((hp_r h v0 9).bind fun q_7 =>
  if hp_in (hp_i h v0 11) (hp_n h q_7) = true then
  some (((hp_l h q_7 ((hp_i h v0 11)).toNatClampNeg)).toInt32, h)
  else none)
  else
  (if w_1 = (40 : Int32) then
  (some ((-100 : Int32), h))
  else
  (some ((-101 : Int32), h)))))))))
/-! LampYard$Reader.refuse(I)V -/
noncomputable def f_Rd_refuse (v0 : Nat) (v1 : Int32) (h : HP) : Option HP :=
  (if (hp_i h v0 0) = 0 then
  (xx_l (hp_si h v0 0 v1) fun h_1 =>
  (hp_r h_1 v0 8).bind fun q_2 =>
  if hp_in (hp_i h_1 v0 11) (hp_n h_1 q_2) = true then
  xx_l (hp_si h_1 v0 1 (hp_i h_1 q_2 ((hp_i h_1 v0 11)).toNatClampNeg)) fun h_4 =>
  xx_l (hp_si h_4 v0 12 (23 : Int32)) fun h_5 =>
  some h_5
  else none)
  else
  (xx_l (hp_si h v0 12 (23 : Int32)) fun h_6 =>
  some h_6))
/-! LampYard$Reader.advance()V -/
noncomputable def f_Rd_advance (v0 : Nat) (h : HP) : Option HP :=
  (if (hp_i h v0 0) = 0 then
  ((if (hp_i h v0 11) < ((hp_i h v0 10) - (1 : Int32)) then
  (xx_l (hp_si h v0 11 ((hp_i h v0 11) + (1 : Int32))) fun h_1 =>
  (hp_r h_1 v0 7).bind fun q_2 =>
  if hp_in (hp_i h_1 v0 11) (hp_n h_1 q_2) = true then
  xx_l (hp_si h_1 v0 12 (hp_i h_1 q_2 ((hp_i h_1 v0 11)).toNatClampNeg)) fun h_4 =>
  (if (hp_i h_4 v0 12) = (23 : Int32) then
  ((f_Rd_refuse v0 (1 : Int32) h_4).bind fun x_5 =>
  some x_5)
  else
  (some h_4))
  else none)
  else
  (some h)))
  else
  (some h))
/-! LampYard$Reader.expect(I)V -/
noncomputable def f_Rd_expect (v0 : Nat) (v1 : Int32) (h : HP) : Option HP :=
  (if (hp_i h v0 12) = v1 then
  ((f_Rd_advance v0 h).bind fun x_1 =>
  some x_1)
  else
  ((f_Rd_refuse v0 (2 : Int32) h).bind fun x_2 =>
  some x_2))
/-! LampYard$Plan.addCode(I)V -/
noncomputable def f_Pl_addCode (v0 : Nat) (v1 : Int32) (h : HP) : Option HP :=
  (if (540 : Int32) ≤ (hp_i h v0 14) then
  (some h)
  else
  ((hp_r h v0 13).bind fun q_1 =>
  if hp_in (hp_i h v0 14) (hp_n h q_1) = true then
  xx_l (hp_si h q_1 ((hp_i h v0 14)).toNatClampNeg v1) fun h_3 =>
  xx_l (hp_si h_3 v0 14 ((hp_i h_3 v0 14) + (1 : Int32))) fun h_4 =>
  some h_4
  else none))
/-! LampYard$Reader.<init>()V -/
noncomputable def f_Rd_new (v0 : Nat) (h : HP) : Option HP :=
  xx_l (hp_z h) fun q_1 => xx_l (hp_nw h 14 4 4) fun h_2 =>
  xx_l (hp_sr h_2 v0 5 (some q_1)) fun h_3 =>
  xx_l (hp_z h_3) fun q_4 => xx_l (hp_nw h_3 13 1401 1401) fun h_5 =>
  xx_l (hp_sr h_5 v0 7 (some q_4)) fun h_6 =>
  xx_l (hp_z h_6) fun q_7 => xx_l (hp_nw h_6 13 1401 1401) fun h_8 =>
  xx_l (hp_sr h_8 v0 8 (some q_7)) fun h_9 =>
  xx_l (hp_z h_9) fun q_10 => xx_l (hp_nw h_9 14 1401 1401) fun h_11 =>
  xx_l (hp_sr h_11 v0 9 (some q_10)) fun h_12 =>
  xx_l (hp_si h_12 v0 1 (-1 : Int32)) fun h_13 =>
  some h_13
/-! LampYard$Plan.empty()V -/
noncomputable def f_Pl_empty (v0 : Nat) (h : HP) : Option HP :=
  xx_l (hp_si h v0 0 (1 : Int32)) fun h_1 =>
  xx_l (hp_si h_1 v0 1 (1 : Int32)) fun h_2 =>
  xx_l (hp_si h_2 v0 2 (-1 : Int32)) fun h_3 =>
  xx_l (hp_si h_3 v0 3 (0 : Int32)) fun h_4 =>
  xx_l (hp_si h_4 v0 4 (0 : Int32)) fun h_5 =>
  xx_l (hp_si h_5 v0 5 (0 : Int32)) fun h_6 =>
  xx_l (hp_si h_6 v0 6 (0 : Int32)) fun h_7 =>
  xx_l (hp_si h_7 v0 7 (0 : Int32)) fun h_8 =>
  xx_l (hp_si h_8 v0 14 (0 : Int32)) fun h_9 =>
  some h_9
/-! LampYard$Plan.<init>()V -/
noncomputable def f_Pl_new (v0 : Nat) (h : HP) : Option HP :=
  xx_l (hp_z h) fun q_1 => xx_l (hp_nw h 13 4 4) fun h_2 =>
  xx_l (hp_sr h_2 v0 8 (some q_1)) fun h_3 =>
  xx_l (hp_z h_3) fun q_4 => xx_l (hp_nw h_3 13 6 6) fun h_5 =>
  xx_l (hp_sr h_5 v0 9 (some q_4)) fun h_6 =>
  xx_l (hp_z h_6) fun q_7 => xx_l (hp_nw h_6 13 16 16) fun h_8 =>
  xx_l (hp_sr h_8 v0 10 (some q_7)) fun h_9 =>
  xx_l (hp_z h_9) fun q_10 => xx_l (hp_nw h_9 15 16 16) fun h_11 =>
  xx_l (hp_sr h_11 v0 11 (some q_10)) fun h_12 =>
  xx_l (hp_z h_12) fun q_13 => xx_l (hp_nw h_12 13 48 48) fun h_14 =>
  xx_l (hp_sr h_14 v0 12 (some q_13)) fun h_15 =>
  xx_l (hp_z h_15) fun q_16 => xx_l (hp_nw h_15 13 540 540) fun h_17 =>
  xx_l (hp_sr h_17 v0 13 (some q_16)) fun h_18 =>
  xx_l (hp_z h_18) fun q_19 => xx_l (hp_nw h_18 13 5 5) fun h_20 =>
  xx_l (hp_sr h_20 v0 15 (some q_19)) fun h_21 =>
  xx_l (hp_z h_21) fun q_22 => xx_l (hp_nw h_21 13 60 60) fun h_23 =>
  xx_l (hp_sr h_23 v0 16 (some q_22)) fun h_24 =>
  (f_Pl_empty v0 h_24).bind fun x_25 =>
  some x_25
/-! LampYard$Course.<init>()V -/
noncomputable def f_Co_new (v0 : Nat) (h : HP) : Option HP :=
  xx_l (hp_z h) fun q_1 => xx_l (hp_nw h 13 6 6) fun h_2 =>
  xx_l (hp_sr h_2 v0 4 (some q_1)) fun h_3 =>
  some h_3
/-! LampYard$Logs.<init>()V -/
noncomputable def f_Lo_new (v0 : Nat) (h : HP) : Option HP :=
  xx_l (hp_z h) fun q_1 => xx_l (hp_nw h 13 60 60) fun h_2 =>
  xx_l (hp_sr h_2 v0 2 (some q_1)) fun h_3 =>
  xx_l (hp_z h_3) fun q_4 => xx_l (hp_nw h_3 13 60 60) fun h_5 =>
  xx_l (hp_sr h_5 v0 3 (some q_4)) fun h_6 =>
  xx_l (hp_z h_6) fun q_7 => xx_l (hp_nw h_6 13 60 60) fun h_8 =>
  xx_l (hp_sr h_8 v0 4 (some q_7)) fun h_9 =>
  xx_l (hp_z h_9) fun q_10 => xx_l (hp_nw h_9 13 60 60) fun h_11 =>
  xx_l (hp_sr h_11 v0 5 (some q_10)) fun h_12 =>
  xx_l (hp_z h_12) fun q_13 => xx_l (hp_nw h_12 13 100 100) fun h_14 =>
  xx_l (hp_sr h_14 v0 6 (some q_13)) fun h_15 =>
  xx_l (hp_z h_15) fun q_16 => xx_l (hp_nw h_15 13 100 100) fun h_17 =>
  xx_l (hp_sr h_17 v0 7 (some q_16)) fun h_18 =>
  some h_18
/-! java/util/Arrays.fill([II)V -/
noncomputable def f_Ar_fillI_5b (v0 : Nat) (v1 : Int32) (v3 : Int32) (v2 : Int32) (h : HP) : Option ((Int32 × HP) ⊕ HP) :=
  (if v3 ≤ v2 then
  (some (.inr h))
  else
  (if hp_in v2 (hp_n h v0) = true then
  xx_l (hp_si h v0 (v2).toNatClampNeg v1) fun h_3 =>
  xx_l (v2 + (1 : Int32)) fun v2_4 =>
  some (.inl (v2_4, h_3))
  else none))
noncomputable def f_Ar_fillI_5 (v0 : Nat) (v1 : Int32) (v3 : Int32) (v2 : Int32) (h : HP) : Option HP :=
  xx_lp (fun s : (Int32 × HP) => f_Ar_fillI_5b v0 v1 v3 s.1 s.2) (v2, h)
noncomputable def f_Ar_fillI (v0 : Nat) (v1 : Int32) (h : HP) : Option HP :=
  xx_l (Int32.ofNat (hp_n h v0)) fun v3_1 =>
  f_Ar_fillI_5 v0 v1 v3_1 (0 : Int32) h
/-! LampYard$Faults.clear()V -/
noncomputable def f_Fa_clear (v0 : Nat) (h : HP) : Option HP :=
  (hp_r h v0 0).bind fun q_1 =>
  (f_Ar_fillI q_1 (-3 : Int32) h).bind fun x_2 =>
  some x_2
/-! LampYard$Chance.clear()V -/
noncomputable def f_Ch_clear_2b (v0 : Nat) (v1 : Int32) (h : HP) : Option ((Int32 × HP) ⊕ HP) :=
  (if (4 : Int32) ≤ v1 then
  (some (.inr h))
  else
  ((hp_r h v0 0).bind fun q_1 =>
  if hp_in v1 (hp_n h q_1) = true then
  xx_l (hp_si h q_1 (v1).toNatClampNeg (vp_nar .boolean (0 : Int32))) fun h_3 =>
  xx_l (v1 + (1 : Int32)) fun v1_4 =>
  some (.inl (v1_4, h_3))
  else none))
noncomputable def f_Ch_clear_2 (v0 : Nat) (v1 : Int32) (h : HP) : Option HP :=
  xx_lp (fun s : (Int32 × HP) => f_Ch_clear_2b v0 s.1 s.2) (v1, h)
noncomputable def f_Ch_clear (v0 : Nat) (h : HP) : Option HP :=
  f_Ch_clear_2 v0 (0 : Int32) h
/-! LampYard$State.withLamps(JI)J -/
noncomputable def f_St_withLamps (v0 : Int64) (v2 : Int32) (h : HP) : Option (Int64 × HP) :=
  some (((v0 &&& (-4 : Int64)) ||| ((v2 &&& (3 : Int32))).toInt64), h)
/-! LampYard$Plan.roleOf(I)I -/
noncomputable def f_Pl_roleOf (v0 : Nat) (v1 : Int32) (h : HP) : Option (Int32 × HP) :=
  (if v1 < 0 then
  (some ((0 : Int32), h))
  else
  ((if (6 : Int32) ≤ v1 then
  (some ((0 : Int32), h))
  else
  ((hp_r h v0 9).bind fun q_1 =>
  if hp_in v1 (hp_n h q_1) = true then
  some ((hp_i h q_1 (v1).toNatClampNeg), h)
  else none))))
/-! LampYard$State.withMind(JIII)J -/
noncomputable def f_St_withMind (v0 : Int64) (v2 : Int32) (v3 : Int32) (v4 : Int32) (h : HP) : Option (Int64 × HP) :=
  xx_l ((6 : Int32) + ((8 : Int32) * v2)) fun v5_1 =>
  xx_l ((((v4 &&& (3 : Int32)) <<< ((5 : Int32) &&& 31)) ||| (v3 &&& (31 : Int32)))).toInt64 fun v6_2 =>
  some (((v0 &&& (((127 : Int64) <<< ((v5_1).toInt64 &&& 63)) ^^^ (-1 : Int64))) ||| (v6_2 <<< ((v5_1).toInt64 &&& 63))), h)
/-! LampYard$Plan.forgotten(JI)J -/
noncomputable def f_Pl_forgotten (v0 : Nat) (v1 : Int64) (v3 : Int32) (h : HP) : Option (Int64 × HP) :=
  (hp_r h v0 8).bind fun q_1 =>
  (f_Pl_roleOf v0 v3 h).bind fun x_2 =>
  if hp_in x_2.1 (hp_n x_2.2 q_1) = true then
  (f_St_withMind v1 v3 (hp_i x_2.2 q_1 (x_2.1).toNatClampNeg) (0 : Int32) x_2.2).bind fun x_4 =>
  some (x_4.1, x_4.2)
  else none
/-! LampYard$Plan.firstState(I)J -/
noncomputable def f_Pl_firstState_9b (v0 : Nat) (v2 : Int64) (v4 : Int32) (h : HP) : Option ((Int64 × Int32 × HP) ⊕ (Int64 × HP)) :=
  (if (hp_i h v0 5) ≤ v4 then
  (some (.inr (v2, h)))
  else
  ((f_Pl_forgotten v0 v2 v4 h).bind fun x_2 =>
  xx_l (v4 + (1 : Int32)) fun v4_3 =>
  some (.inl (x_2.1, v4_3, x_2.2))))
noncomputable def f_Pl_firstState_9 (v0 : Nat) (v2 : Int64) (v4 : Int32) (h : HP) : Option (Int64 × HP) :=
  xx_lp (fun s : (Int64 × Int32 × HP) => f_Pl_firstState_9b v0 s.1 s.2.1 s.2.2) (v2, v4, h)
noncomputable def f_Pl_firstState (v0 : Nat) (v1 : Int32) (h : HP) : Option (Int64 × HP) :=
  (f_St_withLamps (0 : Int64) v1 h).bind fun x_1 =>
  f_Pl_firstState_9 v0 x_1.1 (0 : Int32) x_1.2
/-! LampYard$Course.startWith(LLampYard$Plan;I)V -/
noncomputable def f_Co_startWith (v0 : Nat) (v1 : Nat) (v2 : Int32) (h : HP) : Option HP :=
  (f_Pl_firstState v1 v2 h).bind fun x_1 =>
  xx_l (hp_sl x_1.2 v0 0 x_1.1) fun h_2 =>
  xx_l (hp_si h_2 v0 1 (0 : Int32)) fun h_3 =>
  xx_l (hp_si h_3 v0 2 (0 : Int32)) fun h_4 =>
  (hp_r h_4 v0 4).bind fun q_5 =>
  (f_Ar_fillI q_5 (0 : Int32) h_4).bind fun x_6 =>
  some x_6
/-! LampYard.startAnew()V -/
noncomputable def f_X_startAnew_64 (v0 : Nat) (h : HP) : Option HP :=
  (hp_r h v0 5).bind fun q_4 =>
  (hp_r h v0 3).bind fun q_5 =>
  (f_Co_startWith q_4 q_5 (0 : Int32) h).bind fun x_6 =>
  some x_6
noncomputable def f_X_startAnew_50 (v0 : Nat) (h : HP) : Option HP :=
  (if hp_r h v0 10 = none then
  (f_X_startAnew_64 v0 h)
  else
  ((hp_r h v0 10).bind fun q_7 =>
  (f_Ch_clear q_7 h).bind fun x_8 =>
  f_X_startAnew_64 v0 x_8))
noncomputable def f_X_startAnew_31 (v0 : Nat) (h : HP) : Option HP :=
  xx_l (hp_si h v0 11 (0 : Int32)) fun h_3 =>
  (if hp_r h_3 v0 9 = none then
  (f_X_startAnew_50 v0 h_3)
  else
  ((hp_r h_3 v0 9).bind fun q_9 =>
  (f_Fa_clear q_9 h_3).bind fun x_10 =>
  f_X_startAnew_50 v0 x_10))
noncomputable def f_X_startAnew_10b (v0 : Nat) (v1 : Int32) (h : HP) : Option ((Int32 × HP) ⊕ HP) :=
  (if (3 : Int32) ≤ v1 then
  ((f_X_startAnew_31 v0 h).map .inr)
  else
  ((hp_r h v0 6).bind fun q_11 =>
  if hp_in v1 (hp_n h q_11) = true then
  (hp_r h q_11 (v1).toNatClampNeg).bind fun q_13 =>
  xx_l (hp_si h q_13 3 (0 : Int32)) fun h_14 =>
  xx_l (v1 + (1 : Int32)) fun v1_15 =>
  some (.inl (v1_15, h_14))
  else none))
noncomputable def f_X_startAnew_10 (v0 : Nat) (v1 : Int32) (h : HP) : Option HP :=
  xx_lp (fun s : (Int32 × HP) => f_X_startAnew_10b v0 s.1 s.2) (v1, h)
noncomputable def f_X_startAnew (v0 : Nat) (h : HP) : Option HP :=
  (hp_r h v0 7).bind fun q_1 =>
  xx_l (hp_si h q_1 0 (0 : Int32)) fun h_2 =>
  f_X_startAnew_10 v0 (0 : Int32) h_2
/-! LampYard.<init>()V -/
noncomputable def f_X_new_91 (v0 : Nat) (h : HP) : Option HP :=
  xx_l (hp_z h) fun q_23 => xx_l (hp_nw h 3 0 (ly_nf 3)) fun h_24 =>
  (f_Lo_new q_23 h_24).bind fun x_25 =>
  xx_l (hp_sr x_25 v0 7 (some q_23)) fun h_26 =>
  (f_X_startAnew v0 h_26).bind fun x_27 =>
  some x_27
noncomputable def f_X_new_67b (v0 : Nat) (v1 : Int32) (h : HP) : Option ((Int32 × HP) ⊕ HP) :=
  (if (3 : Int32) ≤ v1 then
  ((f_X_new_91 v0 h).map .inr)
  else
  ((hp_r h v0 6).bind fun q_28 =>
  xx_l (hp_z h) fun q_29 => xx_l (hp_nw h 1 0 (ly_nf 1)) fun h_30 =>
  (f_Co_new q_29 h_30).bind fun x_31 =>
  if hp_in v1 (hp_n x_31 q_28) = true then
  xx_l (hp_sr x_31 q_28 (v1).toNatClampNeg (some q_29)) fun h_33 =>
  xx_l (v1 + (1 : Int32)) fun v1_34 =>
  some (.inl (v1_34, h_33))
  else none))
noncomputable def f_X_new_67 (v0 : Nat) (v1 : Int32) (h : HP) : Option HP :=
  xx_lp (fun s : (Int32 × HP) => f_X_new_67b v0 s.1 s.2) (v1, h)
noncomputable def f_X_new (v0 : Nat) (h : HP) : Option HP :=
  xx_l (hp_z h) fun q_1 => xx_l (hp_nw h 12 1400 1400) fun h_2 =>
  xx_l (hp_sr h_2 v0 0 (some q_1)) fun h_3 =>
  xx_l (hp_z h_3) fun q_4 => xx_l (hp_nw h_3 5 0 (ly_nf 5)) fun h_5 =>
  (f_Rd_new q_4 h_5).bind fun x_6 =>
  xx_l (hp_sr x_6 v0 2 (some q_4)) fun h_7 =>
  xx_l (hp_z h_7) fun q_8 => xx_l (hp_nw h_7 4 0 (ly_nf 4)) fun h_9 =>
  (f_Pl_new q_8 h_9).bind fun x_10 =>
  xx_l (hp_sr x_10 v0 3 (some q_8)) fun h_11 =>
  xx_l (hp_z h_11) fun q_12 => xx_l (hp_nw h_11 4 0 (ly_nf 4)) fun h_13 =>
  (f_Pl_new q_12 h_13).bind fun x_14 =>
  xx_l (hp_sr x_14 v0 4 (some q_12)) fun h_15 =>
  xx_l (hp_z h_15) fun q_16 => xx_l (hp_nw h_15 1 0 (ly_nf 1)) fun h_17 =>
  (f_Co_new q_16 h_17).bind fun x_18 =>
  xx_l (hp_sr x_18 v0 5 (some q_16)) fun h_19 =>
  xx_l (hp_z h_19) fun q_20 => xx_l (hp_nw h_19 16 3 3) fun h_21 =>
  xx_l (hp_sr h_21 v0 6 (some q_20)) fun h_22 =>
  f_X_new_67 v0 (0 : Int32) h_22
/-! LampYard.putOnTape(I)V -/
noncomputable def f_X_putOnTape_3b (v0 : Nat) (v1 : Int32) (v2 : Int32) (h : HP) : Option ((Int32 × HP) ⊕ HP) :=
  (if v2 < 0 then
  (some (.inr h))
  else
  ((if (1400 : Int32) ≤ (hp_i h v0 1) then
  (some (.inr h))
  else
  ((hp_r h v0 0).bind fun q_1 =>
  if hp_in (hp_i h v0 1) (hp_n h q_1) = true then
  xx_l (hp_si h q_1 ((hp_i h v0 1)).toNatClampNeg (vp_nar .byte (((v1).toUInt32 >>> ((v2).toUInt32 &&& Int32.toUInt32 31)).toInt32).toInt8.toInt32)) fun h_3 =>
  xx_l (hp_si h_3 v0 1 ((hp_i h_3 v0 1) + (1 : Int32))) fun h_4 =>
  xx_l (v2 + (-8 : Int32)) fun v2_5 =>
  some (.inl (v2_5, h_4))
  else none))))
noncomputable def f_X_putOnTape_3 (v0 : Nat) (v1 : Int32) (v2 : Int32) (h : HP) : Option HP :=
  xx_lp (fun s : (Int32 × HP) => f_X_putOnTape_3b v0 v1 s.1 s.2) (v2, h)
noncomputable def f_X_putOnTape (v0 : Nat) (v1 : Int32) (h : HP) : Option HP :=
  f_X_putOnTape_3 v0 v1 (24 : Int32) h
/-! LampYard.feed(IIIII)I -/
noncomputable def f_X_feed (v0 : Nat) (v1 : Int32) (v2 : Int32) (v3 : Int32) (v4 : Int32) (v5 : Int32) (h : HP) : Option (Int32 × HP) :=
  (if (hp_i h v0 1) ≤ (1380 : Int32) then
  ((f_X_putOnTape v0 v1 h).bind fun x_1 =>
  (f_X_putOnTape v0 v2 x_1).bind fun x_2 =>
  (f_X_putOnTape v0 v3 x_2).bind fun x_3 =>
  (f_X_putOnTape v0 v4 x_3).bind fun x_4 =>
  (f_X_putOnTape v0 v5 x_4).bind fun x_5 =>
  some ((hp_i x_5 v0 1), x_5))
  else
  (some ((-1 : Int32), h)))
/-! LampYard.end(I)I -/
noncomputable def f_X_end (v0 : Nat) (v1 : Int32) (h : HP) : Option (Int32 × HP) :=
  (if v1 < 0 then
  (some ((-1 : Int32), h))
  else
  ((if v1 ≤ (hp_i h v0 1) then
  (xx_l (hp_si h v0 1 v1) fun h_1 =>
  some (v1, h_1))
  else
  (some ((-1 : Int32), h)))))
/-! LampYard$Reader.byteAt(I)I -/
noncomputable def f_Rd_byteAt (v0 : Nat) (v1 : Int32) (h : HP) : Option (Int32 × HP) :=
  (if v1 < 0 then
  (some ((-1 : Int32), h))
  else
  ((if (hp_i h v0 3) ≤ v1 then
  (some ((-1 : Int32), h))
  else
  ((hp_r h v0 2).bind fun q_1 =>
  if hp_in v1 (hp_n h q_1) = true then
  some ((hp_i h q_1 (v1).toNatClampNeg), h)
  else none))))
/-! LampYard$Reader.afterBlanks(I)I -/
noncomputable def f_Rd_afterBlanks_31 (v0 : Nat) (v2 : Int32) (v3 : Int32) (h : HP) : Option ((Int32 × Int32 × HP) ⊕ (Int32 × HP)) :=
  xx_l (v2 + (1 : Int32)) fun v2_2 =>
  xx_l (v3 + (1 : Int32)) fun v3_3 =>
  some (.inl (v2_2, v3_3, h))
noncomputable def f_Rd_afterBlanks_4b (v0 : Nat) (v2 : Int32) (v3 : Int32) (h : HP) : Option ((Int32 × Int32 × HP) ⊕ (Int32 × HP)) :=
  (if (1400 : Int32) ≤ v3 then
  (some (.inr (v2, h)))
  else
  ((f_Rd_byteAt v0 v2 h).bind fun x_1 =>
  (if x_1.1 = (32 : Int32) then
  (f_Rd_afterBlanks_31 v0 v2 v3 x_1.2)
  else
  ((f_Rd_byteAt v0 v2 x_1.2).bind fun x_4 =>
  (if x_4.1 = (10 : Int32) then
  (f_Rd_afterBlanks_31 v0 v2 v3 x_4.2)
  else
  (some (.inr (v2, x_4.2))))))))
noncomputable def f_Rd_afterBlanks_4 (v0 : Nat) (v2 : Int32) (v3 : Int32) (h : HP) : Option (Int32 × HP) :=
  xx_lp (fun s : (Int32 × Int32 × HP) => f_Rd_afterBlanks_4b v0 s.1 s.2.1 s.2.2) (v2, v3, h)
noncomputable def f_Rd_afterBlanks (v0 : Nat) (v1 : Int32) (h : HP) : Option (Int32 × HP) :=
  f_Rd_afterBlanks_4 v0 v1 (0 : Int32) h
/-! LampYard$Reader.addToken(IIJI)I -/
noncomputable def f_Rd_addToken (v0 : Nat) (v1 : Int32) (v2 : Int32) (v3 : Int64) (v5 : Int32) (h : HP) : Option (Int32 × HP) :=
  (if (1400 : Int32) < (hp_i h v0 10) then
  (some (v5, h))
  else
  ((hp_r h v0 7).bind fun q_1 =>
  if hp_in (hp_i h v0 10) (hp_n h q_1) = true then
  xx_l (hp_si h q_1 ((hp_i h v0 10)).toNatClampNeg v1) fun h_3 =>
  (hp_r h_3 v0 8).bind fun q_4 =>
  if hp_in (hp_i h_3 v0 10) (hp_n h_3 q_4) = true then
  xx_l (hp_si h_3 q_4 ((hp_i h_3 v0 10)).toNatClampNeg v2) fun h_6 =>
  (hp_r h_6 v0 9).bind fun q_7 =>
  if hp_in (hp_i h_6 v0 10) (hp_n h_6 q_7) = true then
  xx_l (hp_sl h_6 q_7 ((hp_i h_6 v0 10)).toNatClampNeg v3) fun h_9 =>
  xx_l (hp_si h_9 v0 10 ((hp_i h_9 v0 10) + (1 : Int32))) fun h_10 =>
  some (v5, h_10)
  else none
  else none
  else none))
/-! LampYard$Reader.isLetter(I)Z -/
noncomputable def f_Rd_isLetter (v0 : Int32) (h : HP) : Option (Int32 × HP) :=
  (if v0 < (97 : Int32) then
  (some ((0 : Int32), h))
  else
  ((if (122 : Int32) < v0 then
  (some ((0 : Int32), h))
  else
  (some ((1 : Int32), h)))))
/-! LampYard$Reader.isWord(III)Z -/
noncomputable def f_Rd_isWord_65 (v0 : Nat) (v1 : Int32) (v2 : Int32) (v3 : Int32) (v5 : Int32) (s0 : Int32) (h : HP) : Option ((Int32 × Int32 × HP) ⊕ (Int32 × HP)) :=
  xx_l (v5 + (1 : Int32)) fun v5_5 =>
  some (.inl (s0, v5_5, h))
noncomputable def f_Rd_isWord_29b (v0 : Nat) (v1 : Int32) (v2 : Int32) (v3 : Int32) (v4 : Int32) (v5 : Int32) (h : HP) : Option ((Int32 × Int32 × HP) ⊕ (Int32 × HP)) :=
  (if v3 ≤ v5 then
  (if hp_z01 v4 = true then some (.inr (v4, h)) else none)
  else
  ((if v4 = 0 then
  (if hp_z01 v4 = true then some (.inr (v4, h)) else none)
  else
  (if hp_in (v1 + v5) 160 = true then
  (f_Rd_byteAt v0 (v2 + v5) h).bind fun x_4 =>
  (if (ly_ch (v1 + v5)) = x_4.1 then
  (f_Rd_isWord_65 v0 v1 v2 v3 v5 (1 : Int32) x_4.2)
  else
  (f_Rd_isWord_65 v0 v1 v2 v3 v5 (0 : Int32) x_4.2))
  else none))))
noncomputable def f_Rd_isWord_29 (v0 : Nat) (v1 : Int32) (v2 : Int32) (v3 : Int32) (v4 : Int32) (v5 : Int32) (h : HP) : Option (Int32 × HP) :=
  xx_lp (fun s : (Int32 × Int32 × HP) => f_Rd_isWord_29b v0 v1 v2 v3 s.1 s.2.1 s.2.2) (v4, v5, h)
noncomputable def f_Rd_isWord_24 (v0 : Nat) (v1 : Int32) (v2 : Int32) (v3 : Int32) (s0 : Int32) (h : HP) : Option (Int32 × HP) :=
  f_Rd_isWord_29 v0 v1 v2 v3 s0 (0 : Int32) h
noncomputable def f_Rd_isWord_19 (v0 : Nat) (v1 : Int32) (v2 : Int32) (v3 : Int32) (h : HP) : Option (Int32 × HP) :=
  f_Rd_isWord_24 v0 v1 v2 v3 (1 : Int32) h
noncomputable def f_Rd_isWord (v0 : Nat) (v1 : Int32) (v2 : Int32) (v3 : Int32) (h : HP) : Option (Int32 × HP) :=
  (if v3 = (8 : Int32) then
  (f_Rd_isWord_19 v0 v1 v2 v3 h)
  else
  (if hp_in (v1 + v3) 160 = true then
  (if (ly_ch (v1 + v3)) = (32 : Int32) then
  (f_Rd_isWord_19 v0 v1 v2 v3 h)
  else
  (f_Rd_isWord_24 v0 v1 v2 v3 (0 : Int32) h))
  else none))
/-! LampYard$Reader.kindOfWord(II)I -/
noncomputable def f_Rd_kindOfWord_2b (v0 : Nat) (v1 : Int32) (v2 : Int32) (v3 : Int32) (h : HP) : Option ((Int32 × HP) ⊕ (Int32 × HP)) :=
  (if (20 : Int32) ≤ v3 then
  (some (.inr ((20 : Int32), h)))
  else
  ((f_Rd_isWord v0 (v3 * (8 : Int32)) v1 v2 h).bind fun x_1 =>
  (if x_1.1 = 0 then
  (xx_l (v3 + (1 : Int32)) fun v3_2 =>
  some (.inl (v3_2, x_1.2)))
  else
  (some (.inr (v3, x_1.2))))))
noncomputable def f_Rd_kindOfWord_2 (v0 : Nat) (v1 : Int32) (v2 : Int32) (v3 : Int32) (h : HP) : Option (Int32 × HP) :=
  xx_lp (fun s : (Int32 × HP) => f_Rd_kindOfWord_2b v0 v1 v2 s.1 s.2) (v3, h)
noncomputable def f_Rd_kindOfWord (v0 : Nat) (v1 : Int32) (v2 : Int32) (h : HP) : Option (Int32 × HP) :=
  f_Rd_kindOfWord_2 v0 v1 v2 (0 : Int32) h
/-! LampYard$Reader.takeWord(I)I -/
noncomputable def f_Rd_takeWord_53 (v0 : Nat) (v1 : Int32) (v2 : Int32) (v3 : Int64) (h : HP) : Option (Int32 × HP) :=
  (if (v2 - v1) ≤ (8 : Int32) then
  ((f_Rd_kindOfWord v0 v1 (v2 - v1) h).bind fun x_1 =>
  (f_Rd_addToken v0 x_1.1 v1 v3 v2 x_1.2).bind fun x_2 =>
  some (x_2.1, x_2.2))
  else
  ((f_Rd_addToken v0 (23 : Int32) v1 (0 : Int64) (-1 : Int32) h).bind fun x_3 =>
  some (x_3.1, x_3.2)))
noncomputable def f_Rd_takeWord_7b (v0 : Nat) (v1 : Int32) (v2 : Int32) (v3 : Int64) (v5 : Int32) (h : HP) : Option ((Int32 × Int64 × Int32 × HP) ⊕ (Int32 × HP)) :=
  (if (1400 : Int32) ≤ v5 then
  ((f_Rd_takeWord_53 v0 v1 v2 v3 h).map .inr)
  else
  ((f_Rd_byteAt v0 v2 h).bind fun x_4 =>
  (f_Rd_isLetter x_4.1 x_4.2).bind fun x_5 =>
  (if x_5.1 = 0 then
  ((f_Rd_takeWord_53 v0 v1 v2 v3 x_5.2).map .inr)
  else
  ((f_Rd_byteAt v0 v2 x_5.2).bind fun x_6 =>
  xx_l ((v3 * (32 : Int64)) + (((x_6.1 - (97 : Int32)) + (1 : Int32))).toInt64) fun v3_7 =>
  xx_l (v2 + (1 : Int32)) fun v2_8 =>
  xx_l (v5 + (1 : Int32)) fun v5_9 =>
  some (.inl (v2_8, v3_7, v5_9, x_6.2))))))
noncomputable def f_Rd_takeWord_7 (v0 : Nat) (v1 : Int32) (v2 : Int32) (v3 : Int64) (v5 : Int32) (h : HP) : Option (Int32 × HP) :=
  xx_lp (fun s : (Int32 × Int64 × Int32 × HP) => f_Rd_takeWord_7b v0 v1 s.1 s.2.1 s.2.2.1 s.2.2.2) (v2, v3, v5, h)
noncomputable def f_Rd_takeWord (v0 : Nat) (v1 : Int32) (h : HP) : Option (Int32 × HP) :=
  f_Rd_takeWord_7 v0 v1 v1 (0 : Int64) (0 : Int32) h
/-! LampYard$Reader.isDigit(I)Z -/
noncomputable def f_Rd_isDigit (v0 : Int32) (h : HP) : Option (Int32 × HP) :=
  (if v0 < (48 : Int32) then
  (some ((0 : Int32), h))
  else
  ((if (57 : Int32) < v0 then
  (some ((0 : Int32), h))
  else
  (some ((1 : Int32), h)))))
/-! LampYard$Reader.takeNumber(I)I -/
noncomputable def f_Rd_takeNumber_67 (v0 : Nat) (v1 : Int32) (h : HP) : Option (Int32 × HP) :=
  (f_Rd_addToken v0 (23 : Int32) v1 (0 : Int64) (-1 : Int32) h).bind fun x_1 =>
  some (x_1.1, x_1.2)
noncomputable def f_Rd_takeNumber_49 (v0 : Nat) (v1 : Int32) (v2 : Int32) (v3 : Int32) (h : HP) : Option (Int32 × HP) :=
  (if (4 : Int32) < (v2 - v1) then
  (f_Rd_takeNumber_67 v0 v1 h)
  else
  ((f_Rd_byteAt v0 v2 h).bind fun x_2 =>
  (f_Rd_isLetter x_2.1 x_2.2).bind fun x_3 =>
  (if x_3.1 = 0 then
  ((f_Rd_addToken v0 (21 : Int32) v1 (v3).toInt64 v2 x_3.2).bind fun x_4 =>
  some (x_4.1, x_4.2))
  else
  (f_Rd_takeNumber_67 v0 v1 x_3.2))))
noncomputable def f_Rd_takeNumber_7b (v0 : Nat) (v1 : Int32) (v2 : Int32) (v3 : Int32) (v4 : Int32) (h : HP) : Option ((Int32 × Int32 × Int32 × HP) ⊕ (Int32 × HP)) :=
  (if (1400 : Int32) ≤ v4 then
  ((f_Rd_takeNumber_49 v0 v1 v2 v3 h).map .inr)
  else
  ((f_Rd_byteAt v0 v2 h).bind fun x_5 =>
  (f_Rd_isDigit x_5.1 x_5.2).bind fun x_6 =>
  (if x_6.1 = 0 then
  ((f_Rd_takeNumber_49 v0 v1 v2 v3 x_6.2).map .inr)
  else
  ((f_Rd_byteAt v0 v2 x_6.2).bind fun x_7 =>
  xx_l ((v3 * (10 : Int32)) + (x_7.1 - (48 : Int32))) fun v3_8 =>
  xx_l (v2 + (1 : Int32)) fun v2_9 =>
  xx_l (v4 + (1 : Int32)) fun v4_10 =>
  some (.inl (v2_9, v3_8, v4_10, x_7.2))))))
noncomputable def f_Rd_takeNumber_7 (v0 : Nat) (v1 : Int32) (v2 : Int32) (v3 : Int32) (v4 : Int32) (h : HP) : Option (Int32 × HP) :=
  xx_lp (fun s : (Int32 × Int32 × Int32 × HP) => f_Rd_takeNumber_7b v0 v1 s.1 s.2.1 s.2.2.1 s.2.2.2) (v2, v3, v4, h)
noncomputable def f_Rd_takeNumber (v0 : Nat) (v1 : Int32) (h : HP) : Option (Int32 × HP) :=
  f_Rd_takeNumber_7 v0 v1 v1 (0 : Int32) (0 : Int32) h
/-! LampYard$Reader.isSign(I)Z -/
noncomputable def f_Rd_isSign (v0 : Int32) (h : HP) : Option (Int32 × HP) :=
  (if v0 = (59 : Int32) then
  (some ((1 : Int32), h))
  else
  ((if v0 = (40 : Int32) then
  (some ((1 : Int32), h))
  else
  ((if v0 = (41 : Int32) then
  (some ((1 : Int32), h))
  else
  ((if v0 = (60 : Int32) then
  (some ((1 : Int32), h))
  else
  ((if v0 = (62 : Int32) then
  (some ((1 : Int32), h))
  else
  ((if v0 = (61 : Int32) then
  (some ((1 : Int32), h))
  else
  ((if v0 = (43 : Int32) then
  (some ((1 : Int32), h))
  else
  ((if v0 = (45 : Int32) then
  (some ((1 : Int32), h))
  else
  ((if v0 = (42 : Int32) then
  (some ((1 : Int32), h))
  else
  (some ((0 : Int32), h)))))))))))))))))))
/-! LampYard$Reader.takeToken(I)I -/
noncomputable def f_Rd_takeToken (v0 : Nat) (v1 : Int32) (h : HP) : Option (Int32 × HP) :=
  (f_Rd_byteAt v0 v1 h).bind fun x_1 =>
  (if v1 < (hp_i x_1.2 v0 3) then
  ((f_Rd_isLetter x_1.1 x_1.2).bind fun x_2 =>
  (if x_2.1 = 0 then
  ((f_Rd_isDigit x_1.1 x_2.2).bind fun x_3 =>
  (if x_3.1 = 0 then
  ((f_Rd_isSign x_1.1 x_3.2).bind fun x_4 =>
  (if x_4.1 = 0 then
  ((f_Rd_addToken v0 (23 : Int32) v1 (0 : Int64) (-1 : Int32) x_4.2).bind fun x_5 =>
  some (x_5.1, x_5.2))
  else
  ((f_Rd_addToken v0 x_1.1 v1 (0 : Int64) (v1 + (1 : Int32)) x_4.2).bind fun x_6 =>
  some (x_6.1, x_6.2))))
  else
  ((f_Rd_takeNumber v0 v1 x_3.2).bind fun x_7 =>
  some (x_7.1, x_7.2))))
  else
  ((f_Rd_takeWord v0 v1 x_2.2).bind fun x_8 =>
  some (x_8.1, x_8.2))))
  else
  ((f_Rd_addToken v0 (22 : Int32) v1 (0 : Int64) (-1 : Int32) x_1.2).bind fun x_9 =>
  some (x_9.1, x_9.2)))
/-! LampYard$Reader.splitText()V -/
noncomputable def f_Rd_splitText_9b (v0 : Nat) (v1 : Int32) (v2 : Int32) (h : HP) : Option ((Int32 × Int32 × HP) ⊕ HP) :=
  (if (1400 : Int32) < v2 then
  (some (.inr h))
  else
  ((if v1 = (-1 : Int32) then
  (some (.inr h))
  else
  ((f_Rd_afterBlanks v0 v1 h).bind fun x_2 =>
  (f_Rd_takeToken v0 x_2.1 x_2.2).bind fun x_3 =>
  xx_l (v2 + (1 : Int32)) fun v2_4 =>
  some (.inl (x_3.1, v2_4, x_3.2))))))
noncomputable def f_Rd_splitText_9 (v0 : Nat) (v1 : Int32) (v2 : Int32) (h : HP) : Option HP :=
  xx_lp (fun s : (Int32 × Int32 × HP) => f_Rd_splitText_9b v0 s.1 s.2.1 s.2.2) (v1, v2, h)
noncomputable def f_Rd_splitText (v0 : Nat) (h : HP) : Option HP :=
  xx_l (hp_si h v0 10 (0 : Int32)) fun h_1 =>
  f_Rd_splitText_9 v0 (0 : Int32) (0 : Int32) h_1
/-! LampYard$Reader.numberWithin(II)I -/
noncomputable def f_Rd_numberWithin_37 (v0 : Nat) (v1 : Int32) (h : HP) : Option (Int32 × HP) :=
  (f_Rd_refuse v0 (4 : Int32) h).bind fun x_4 =>
  some (v1, x_4)
noncomputable def f_Rd_numberWithin (v0 : Nat) (v1 : Int32) (v2 : Int32) (h : HP) : Option (Int32 × HP) :=
  (if (hp_i h v0 12) = (21 : Int32) then
  ((hp_r h v0 9).bind fun q_1 =>
  if hp_in (hp_i h v0 11) (hp_n h q_1) = true then
  xx_l ((hp_l h q_1 ((hp_i h v0 11)).toNatClampNeg)).toInt32 fun v3_3 =>
  (if v3_3 < v1 then
  (f_Rd_numberWithin_37 v0 v1 h)
  else
  ((if v3_3 ≤ v2 then
  ((f_Rd_advance v0 h).bind fun x_5 =>
  some (v3_3, x_5))
  else
  (f_Rd_numberWithin_37 v0 v1 h))))
  else none)
  else
  ((f_Rd_refuse v0 (2 : Int32) h).bind fun x_6 =>
  some (v1, x_6)))
/-! LampYard$Reader.readStart()V -/
noncomputable def f_Rd_readStart_63 (v0 : Nat) (h : HP) : Option HP :=
  (f_Rd_advance v0 h).bind fun x_3 =>
  some x_3
noncomputable def f_Rd_readStart (v0 : Nat) (h : HP) : Option HP :=
  (if (hp_i h v0 12) = (4 : Int32) then
  ((hp_r h v0 4).bind fun q_1 =>
  xx_l (hp_si h q_1 3 (0 : Int32)) fun h_2 =>
  f_Rd_readStart_63 v0 h_2)
  else
  ((if (hp_i h v0 12) = (5 : Int32) then
  ((hp_r h v0 4).bind fun q_4 =>
  xx_l (hp_si h q_4 3 (1 : Int32)) fun h_5 =>
  f_Rd_readStart_63 v0 h_5)
  else
  ((if (hp_i h v0 12) = (6 : Int32) then
  ((hp_r h v0 4).bind fun q_6 =>
  xx_l (hp_si h q_6 3 (2 : Int32)) fun h_7 =>
  f_Rd_readStart_63 v0 h_7)
  else
  ((f_Rd_refuse v0 (2 : Int32) h).bind fun x_8 =>
  f_Rd_readStart_63 v0 x_8))))))
/-! LampYard$Reader.readSetting()V -/
noncomputable def f_Rd_readSetting (v0 : Nat) (h : HP) : Option HP :=
  xx_l (hp_i h v0 12) fun v1_1 =>
  (if ((hp_i h v0 6) &&& ((1 : Int32) <<< (v1_1 &&& 31))) = 0 then
  (xx_l (hp_si h v0 6 ((hp_i h v0 6) ||| ((1 : Int32) <<< (v1_1 &&& 31)))) fun h_2 =>
  (f_Rd_advance v0 h_2).bind fun x_3 =>
  (if v1_1 = 0 then
  ((hp_r x_3 v0 4).bind fun q_4 =>
  (f_Rd_numberWithin v0 (1 : Int32) (2 : Int32) x_3).bind fun x_5 =>
  xx_l (hp_si x_5.2 q_4 0 x_5.1) fun h_6 =>
  some h_6)
  else
  ((if v1_1 = (1 : Int32) then
  ((hp_r x_3 v0 4).bind fun q_7 =>
  (f_Rd_numberWithin v0 (1 : Int32) (12 : Int32) x_3).bind fun x_8 =>
  xx_l (hp_si x_8.2 q_7 1 x_8.1) fun h_9 =>
  some h_9)
  else
  ((if v1_1 = (2 : Int32) then
  ((hp_r x_3 v0 4).bind fun q_10 =>
  (f_Rd_numberWithin v0 (0 : Int32) (11 : Int32) x_3).bind fun x_11 =>
  xx_l (hp_si x_11.2 q_10 2 x_11.1) fun h_12 =>
  some h_12)
  else
  ((f_Rd_readStart v0 x_3).bind fun x_13 =>
  some x_13)))))))
  else
  ((f_Rd_refuse v0 (2 : Int32) h).bind fun x_14 =>
  some x_14))
/-! LampYard$Reader.roleNamed(J)I -/
noncomputable def f_Rd_roleNamed_2b (v0 : Nat) (v1 : Int64) (v3 : Int32) (h : HP) : Option ((Int32 × HP) ⊕ (Int32 × HP)) :=
  (hp_r h v0 4).bind fun q_1 =>
  (if (hp_i h q_1 4) ≤ v3 then
  (some (.inr ((-1 : Int32), h)))
  else
  ((if (4 : Int32) ≤ v3 then
  (some (.inr ((-1 : Int32), h)))
  else
  ((hp_r h v0 5).bind fun q_2 =>
  if hp_in v3 (hp_n h q_2) = true then
  (if (lg_cmp (hp_l h q_2 (v3).toNatClampNeg) v1) = 0 then
  (some (.inr (v3, h)))
  else
  (xx_l (v3 + (1 : Int32)) fun v3_4 =>
  some (.inl (v3_4, h))))
  else none))))
noncomputable def f_Rd_roleNamed_2 (v0 : Nat) (v1 : Int64) (v3 : Int32) (h : HP) : Option (Int32 × HP) :=
  xx_lp (fun s : (Int32 × HP) => f_Rd_roleNamed_2b v0 v1 s.1 s.2) (v3, h)
noncomputable def f_Rd_roleNamed (v0 : Nat) (v1 : Int64) (h : HP) : Option (Int32 × HP) :=
  f_Rd_roleNamed_2 v0 v1 (0 : Int32) h
/-! LampYard$Plan.addRole(II)V -/
noncomputable def f_Pl_addRole_21b (v0 : Nat) (v1 : Int32) (v3 : Int32) (h : HP) : Option ((Int32 × HP) ⊕ HP) :=
  (if v1 ≤ v3 then
  (xx_l (hp_si h v0 4 ((hp_i h v0 4) + (1 : Int32))) fun h_4 =>
  some (.inr h_4))
  else
  ((if (6 : Int32) ≤ (hp_i h v0 5) then
  (xx_l (hp_si h v0 4 ((hp_i h v0 4) + (1 : Int32))) fun h_5 =>
  some (.inr h_5))
  else
  ((hp_r h v0 9).bind fun q_6 =>
  if hp_in (hp_i h v0 5) (hp_n h q_6) = true then
  xx_l (hp_si h q_6 ((hp_i h v0 5)).toNatClampNeg (hp_i h v0 4)) fun h_8 =>
  xx_l (hp_si h_8 v0 5 ((hp_i h_8 v0 5) + (1 : Int32))) fun h_9 =>
  xx_l (v3 + (1 : Int32)) fun v3_10 =>
  some (.inl (v3_10, h_9))
  else none))))
noncomputable def f_Pl_addRole_21 (v0 : Nat) (v1 : Int32) (v3 : Int32) (h : HP) : Option HP :=
  xx_lp (fun s : (Int32 × HP) => f_Pl_addRole_21b v0 v1 s.1 s.2) (v3, h)
noncomputable def f_Pl_addRole (v0 : Nat) (v1 : Int32) (v2 : Int32) (h : HP) : Option HP :=
  (if (hp_i h v0 4) < (4 : Int32) then
  ((hp_r h v0 8).bind fun q_1 =>
  if hp_in (hp_i h v0 4) (hp_n h q_1) = true then
  xx_l (hp_si h q_1 ((hp_i h v0 4)).toNatClampNeg v2) fun h_3 =>
  f_Pl_addRole_21 v0 v1 (0 : Int32) h_3
  else none)
  else
  (some h))
/-! LampYard$Reader.readRole()V -/
noncomputable def f_Rd_readRole (v0 : Nat) (h : HP) : Option HP :=
  (hp_r h v0 4).bind fun q_1 =>
  (if (hp_i h q_1 4) < (4 : Int32) then
  ((f_Rd_advance v0 h).bind fun x_2 =>
  (if (hp_i x_2 v0 12) = (20 : Int32) then
  ((hp_r x_2 v0 9).bind fun q_3 =>
  if hp_in (hp_i x_2 v0 11) (hp_n x_2 q_3) = true then
  (f_Rd_roleNamed v0 (hp_l x_2 q_3 ((hp_i x_2 v0 11)).toNatClampNeg) x_2).bind fun x_5 =>
  (if x_5.1 = (-1 : Int32) then
  ((hp_r x_5.2 v0 5).bind fun q_6 =>
  (hp_r x_5.2 v0 4).bind fun q_7 =>
  (hp_r x_5.2 v0 9).bind fun q_8 =>
  if hp_in (hp_i x_5.2 v0 11) (hp_n x_5.2 q_8) = true then
  if hp_in (hp_i x_5.2 q_7 4) (hp_n x_5.2 q_6) = true then
  xx_l (hp_sl x_5.2 q_6 ((hp_i x_5.2 q_7 4)).toNatClampNeg (hp_l x_5.2 q_8 ((hp_i x_5.2 v0 11)).toNatClampNeg)) fun h_11 =>
  (f_Rd_advance v0 h_11).bind fun x_12 =>
  (f_Rd_expect v0 (8 : Int32) x_12).bind fun x_13 =>
  (hp_r x_13 v0 4).bind fun q_14 =>
  (f_Rd_numberWithin v0 (1 : Int32) ((6 : Int32) - (hp_i x_13 q_14 5)) x_13).bind fun x_15 =>
  (f_Rd_expect v0 (9 : Int32) x_15.2).bind fun x_16 =>
  (f_Rd_numberWithin v0 (0 : Int32) (31 : Int32) x_16).bind fun x_17 =>
  (hp_r x_17.2 v0 4).bind fun q_18 =>
  (f_Pl_addRole q_18 x_15.1 x_17.1 x_17.2).bind fun x_19 =>
  some x_19
  else none
  else none)
  else
  ((f_Rd_refuse v0 (3 : Int32) x_5.2).bind fun x_20 =>
  some x_20))
  else none)
  else
  ((f_Rd_refuse v0 (2 : Int32) x_2).bind fun x_21 =>
  some x_21)))
  else
  ((f_Rd_refuse v0 (2 : Int32) h).bind fun x_22 =>
  some x_22))
/-! LampYard$Plan.endPart(I)V -/
noncomputable def f_Pl_endPart (v0 : Nat) (v1 : Int32) (h : HP) : Option HP :=
  xx_l (((hp_i h v0 6) * (3 : Int32)) + v1) fun v2_1 =>
  (if v2_1 < 0 then
  (some h)
  else
  ((hp_r h v0 12).bind fun q_2 =>
  (if (Int32.ofNat (hp_n h q_2)) ≤ v2_1 then
  (some h)
  else
  ((hp_r h v0 12).bind fun q_3 =>
  if hp_in v2_1 (hp_n h q_3) = true then
  xx_l (hp_si h q_3 (v2_1).toNatClampNeg (hp_i h v0 14)) fun h_5 =>
  some h_5
  else none))))
/-! LampYard$Plan.addRule(IZ)V -/
noncomputable def f_Pl_addRule (v0 : Nat) (v1 : Int32) (v2 : Int32) (h : HP) : Option HP :=
  (if (16 : Int32) ≤ (hp_i h v0 6) then
  (some h)
  else
  ((hp_r h v0 10).bind fun q_1 =>
  if hp_in (hp_i h v0 6) (hp_n h q_1) = true then
  xx_l (hp_si h q_1 ((hp_i h v0 6)).toNatClampNeg v1) fun h_3 =>
  (hp_r h_3 v0 11).bind fun q_4 =>
  if hp_in (hp_i h_3 v0 6) (hp_n h_3 q_4) = true then
  xx_l (hp_si h_3 q_4 ((hp_i h_3 v0 6)).toNatClampNeg (vp_nar .boolean v2)) fun h_6 =>
  xx_l (hp_si h_6 v0 6 ((hp_i h_6 v0 6) + (1 : Int32))) fun h_7 =>
  some h_7
  else none
  else none))
/-! LampYard$Reader.readUnit(I)V -/
noncomputable def f_Rd_readUnit_35 (fA : Nat → Int32 → HP → Option HP) (v0 : Nat) (h : HP) : Option HP :=
  (f_Rd_refuse v0 (2 : Int32) h).bind fun x_3 =>
  some x_3
noncomputable def f_Rd_readUnit_41 (fA : Nat → Int32 → HP → Option HP) (v0 : Nat) (v1 : Int32) (v2 : Int32) (h : HP) : Option HP :=
  (hp_r h v0 4).bind fun q_4 =>
  xx_l (hp_si h q_4 7 ((hp_i h q_4 7) + (1 : Int32))) fun h_5 =>
  (f_Rd_advance v0 h_5).bind fun x_6 =>
  (if v2 = (-100 : Int32) then
  ((fA v0 (v1 + (1 : Int32)) x_6).bind fun x_7 =>
  (f_Rd_expect v0 (41 : Int32) x_7).bind fun x_8 =>
  some x_8)
  else
  ((hp_r x_6 v0 4).bind fun q_9 =>
  (f_Pl_addCode q_9 v2 x_6).bind fun x_10 =>
  some x_10))
noncomputable def f_Rd_readUnit (fA : Nat → Int32 → HP → Option HP) (v0 : Nat) (v1 : Int32) (h : HP) : Option HP :=
  (f_Rd_unitCode v0 h).bind fun x_1 =>
  (hp_r x_1.2 v0 4).bind fun q_2 =>
  (if (60 : Int32) ≤ (hp_i x_1.2 q_2 7) then
  (f_Rd_readUnit_35 fA v0 x_1.2)
  else
  ((if x_1.1 = (-101 : Int32) then
  (f_Rd_readUnit_35 fA v0 x_1.2)
  else
  ((if x_1.1 = (-100 : Int32) then
  ((if v1 ≤ (6 : Int32) then
  (f_Rd_readUnit_41 fA v0 v1 x_1.1 x_1.2)
  else
  (f_Rd_readUnit_35 fA v0 x_1.2)))
  else
  (f_Rd_readUnit_41 fA v0 v1 x_1.1 x_1.2))))))
/-! LampYard$Reader.readTerm(I)V -/
noncomputable def f_Rd_readTerm_7b (fA : Nat → Int32 → HP → Option HP) (v0 : Nat) (v1 : Int32) (v2 : Int32) (h : HP) : Option ((Int32 × HP) ⊕ HP) :=
  (if (1400 : Int32) ≤ v2 then
  (some (.inr h))
  else
  ((if (hp_i h v0 12) = (42 : Int32) then
  ((f_Rd_advance v0 h).bind fun x_2 =>
  (f_Rd_readUnit fA v0 v1 x_2).bind fun x_3 =>
  (hp_r x_3 v0 4).bind fun q_4 =>
  (f_Pl_addCode q_4 (-14 : Int32) x_3).bind fun x_5 =>
  xx_l (v2 + (1 : Int32)) fun v2_6 =>
  some (.inl (v2_6, x_5)))
  else
  (some (.inr h)))))
noncomputable def f_Rd_readTerm_7 (fA : Nat → Int32 → HP → Option HP) (v0 : Nat) (v1 : Int32) (v2 : Int32) (h : HP) : Option HP :=
  xx_lp (fun s : (Int32 × HP) => f_Rd_readTerm_7b fA v0 v1 s.1 s.2) (v2, h)
noncomputable def f_Rd_readTerm (fA : Nat → Int32 → HP → Option HP) (v0 : Nat) (v1 : Int32) (h : HP) : Option HP :=
  (f_Rd_readUnit fA v0 v1 h).bind fun x_1 =>
  f_Rd_readTerm_7 fA v0 v1 (0 : Int32) x_1
/-! LampYard$Reader.readSum(I)V -/
noncomputable def f_Rd_readSum_48 (fA : Nat → Int32 → HP → Option HP) (v0 : Nat) (v1 : Int32) (v2 : Int32) (s0 : Int32) (h : HP) : Option ((Int32 × HP) ⊕ HP) :=
  (f_Rd_advance v0 h).bind fun x_2 =>
  (f_Rd_readTerm fA v0 v1 x_2).bind fun x_3 =>
  (hp_r x_3 v0 4).bind fun q_4 =>
  (f_Pl_addCode q_4 s0 x_3).bind fun x_5 =>
  xx_l (v2 + (1 : Int32)) fun v2_6 =>
  some (.inl (v2_6, x_5))
noncomputable def f_Rd_readSum_32 (fA : Nat → Int32 → HP → Option HP) (v0 : Nat) (v1 : Int32) (v2 : Int32) (h : HP) : Option ((Int32 × HP) ⊕ HP) :=
  (if (hp_i h v0 12) = (43 : Int32) then
  (f_Rd_readSum_48 fA v0 v1 v2 (-12 : Int32) h)
  else
  (f_Rd_readSum_48 fA v0 v1 v2 (-13 : Int32) h))
noncomputable def f_Rd_readSum_7b (fA : Nat → Int32 → HP → Option HP) (v0 : Nat) (v1 : Int32) (v2 : Int32) (h : HP) : Option ((Int32 × HP) ⊕ HP) :=
  (if (1400 : Int32) ≤ v2 then
  (some (.inr h))
  else
  ((if (hp_i h v0 12) = (43 : Int32) then
  (f_Rd_readSum_32 fA v0 v1 v2 h)
  else
  ((if (hp_i h v0 12) = (45 : Int32) then
  (f_Rd_readSum_32 fA v0 v1 v2 h)
  else
  (some (.inr h)))))))
noncomputable def f_Rd_readSum_7 (fA : Nat → Int32 → HP → Option HP) (v0 : Nat) (v1 : Int32) (v2 : Int32) (h : HP) : Option HP :=
  xx_lp (fun s : (Int32 × HP) => f_Rd_readSum_7b fA v0 v1 s.1 s.2) (v2, h)
noncomputable def f_Rd_readSum (fA : Nat → Int32 → HP → Option HP) (v0 : Nat) (v1 : Int32) (h : HP) : Option HP :=
  (f_Rd_readTerm fA v0 v1 h).bind fun x_1 =>
  f_Rd_readSum_7 fA v0 v1 (0 : Int32) x_1
/-! LampYard$Reader.readOne(I)V -/
noncomputable def f_Rd_readOne_104 (fA : Nat → Int32 → HP → Option HP) (fO : Nat → Int32 → HP → Option HP) (v0 : Nat) (v1 : Int32) (s0 : Int32) (h : HP) : Option HP :=
  (f_Rd_advance v0 h).bind fun x_7 =>
  (f_Rd_readSum fA v0 v1 x_7).bind fun x_8 =>
  (hp_r x_8 v0 4).bind fun q_9 =>
  (f_Pl_addCode q_9 s0 x_8).bind fun x_10 =>
  some x_10
noncomputable def f_Rd_readOne_74 (fA : Nat → Int32 → HP → Option HP) (fO : Nat → Int32 → HP → Option HP) (v0 : Nat) (v1 : Int32) (h : HP) : Option HP :=
  (if (hp_i h v0 12) = (60 : Int32) then
  (f_Rd_readOne_104 fA fO v0 v1 (-9 : Int32) h)
  else
  ((if (hp_i h v0 12) = (62 : Int32) then
  (f_Rd_readOne_104 fA fO v0 v1 (-10 : Int32) h)
  else
  (f_Rd_readOne_104 fA fO v0 v1 (-11 : Int32) h))))
noncomputable def f_Rd_readOne (fA : Nat → Int32 → HP → Option HP) (fO : Nat → Int32 → HP → Option HP) (v0 : Nat) (v1 : Int32) (h : HP) : Option HP :=
  (if (hp_i h v0 12) = (17 : Int32) then
  ((if v1 ≤ (6 : Int32) then
  ((f_Rd_advance v0 h).bind fun x_1 =>
  (fO v0 (v1 + (1 : Int32)) x_1).bind fun x_2 =>
  (hp_r x_2 v0 4).bind fun q_3 =>
  (f_Pl_addCode q_3 (-8 : Int32) x_2).bind fun x_4 =>
  some x_4)
  else
  ((f_Rd_refuse v0 (2 : Int32) h).bind fun x_5 =>
  some x_5)))
  else
  ((f_Rd_readSum fA v0 v1 h).bind fun x_6 =>
  (if (hp_i x_6 v0 12) = (60 : Int32) then
  (f_Rd_readOne_74 fA fO v0 v1 x_6)
  else
  ((if (hp_i x_6 v0 12) = (62 : Int32) then
  (f_Rd_readOne_74 fA fO v0 v1 x_6)
  else
  ((if (hp_i x_6 v0 12) = (61 : Int32) then
  (f_Rd_readOne_74 fA fO v0 v1 x_6)
  else
  (some x_6))))))))
/-! LampYard$Reader.readBoth(I)V -/
noncomputable def f_Rd_readBoth_7b (fA : Nat → Int32 → HP → Option HP) (fO : Nat → Int32 → HP → Option HP) (v0 : Nat) (v1 : Int32) (v2 : Int32) (h : HP) : Option ((Int32 × HP) ⊕ HP) :=
  (if (1400 : Int32) ≤ v2 then
  (some (.inr h))
  else
  ((if (hp_i h v0 12) = (16 : Int32) then
  ((f_Rd_advance v0 h).bind fun x_2 =>
  (f_Rd_readOne fA fO v0 v1 x_2).bind fun x_3 =>
  (hp_r x_3 v0 4).bind fun q_4 =>
  (f_Pl_addCode q_4 (-7 : Int32) x_3).bind fun x_5 =>
  xx_l (v2 + (1 : Int32)) fun v2_6 =>
  some (.inl (v2_6, x_5)))
  else
  (some (.inr h)))))
noncomputable def f_Rd_readBoth_7 (fA : Nat → Int32 → HP → Option HP) (fO : Nat → Int32 → HP → Option HP) (v0 : Nat) (v1 : Int32) (v2 : Int32) (h : HP) : Option HP :=
  xx_lp (fun s : (Int32 × HP) => f_Rd_readBoth_7b fA fO v0 v1 s.1 s.2) (v2, h)
noncomputable def f_Rd_readBoth (fA : Nat → Int32 → HP → Option HP) (fO : Nat → Int32 → HP → Option HP) (v0 : Nat) (v1 : Int32) (h : HP) : Option HP :=
  (f_Rd_readOne fA fO v0 v1 h).bind fun x_1 =>
  f_Rd_readBoth_7 fA fO v0 v1 (0 : Int32) x_1
/-! LampYard$Reader.readAny(I)V -/
noncomputable def f_Rd_readAny_7b (fA : Nat → Int32 → HP → Option HP) (fO : Nat → Int32 → HP → Option HP) (v0 : Nat) (v1 : Int32) (v2 : Int32) (h : HP) : Option ((Int32 × HP) ⊕ HP) :=
  (if (1400 : Int32) ≤ v2 then
  (some (.inr h))
  else
  ((if (hp_i h v0 12) = (15 : Int32) then
  ((f_Rd_advance v0 h).bind fun x_2 =>
  (f_Rd_readBoth fA fO v0 v1 x_2).bind fun x_3 =>
  (hp_r x_3 v0 4).bind fun q_4 =>
  (f_Pl_addCode q_4 (-6 : Int32) x_3).bind fun x_5 =>
  xx_l (v2 + (1 : Int32)) fun v2_6 =>
  some (.inl (v2_6, x_5)))
  else
  (some (.inr h)))))
noncomputable def f_Rd_readAny_7 (fA : Nat → Int32 → HP → Option HP) (fO : Nat → Int32 → HP → Option HP) (v0 : Nat) (v1 : Int32) (v2 : Int32) (h : HP) : Option HP :=
  xx_lp (fun s : (Int32 × HP) => f_Rd_readAny_7b fA fO v0 v1 s.1 s.2) (v2, h)
noncomputable def f_Rd_readAny (fA : Nat → Int32 → HP → Option HP) (fO : Nat → Int32 → HP → Option HP) (v0 : Nat) (v1 : Int32) (h : HP) : Option HP :=
  (f_Rd_readBoth fA fO v0 v1 h).bind fun x_1 =>
  f_Rd_readAny_7 fA fO v0 v1 (0 : Int32) x_1
/-- the group that calls itself, by depth: readAny and readOne -/
noncomputable def f_Rd_rec : Nat → (Nat → Int32 → HP → Option HP) × (Nat → Int32 → HP → Option HP)
  | 0 => (fun _ _ _ => none, fun _ _ _ => none)
  | n + 1 => (f_Rd_readAny (f_Rd_rec n).1 (f_Rd_rec n).2, f_Rd_readOne (f_Rd_rec n).1 (f_Rd_rec n).2)
noncomputable def f_Rd_any : Nat → Int32 → HP → Option HP := (f_Rd_rec 10).1
/-! LampYard$Reader.readRule()V -/
noncomputable def f_Rd_readRule_140 (v0 : Nat) (v1 : Int32) (v2 : Int32) (h : HP) : Option HP :=
  (hp_r h v0 4).bind fun q_8 =>
  (f_Pl_addRule q_8 v1 v2 h).bind fun x_9 =>
  some x_9
noncomputable def f_Rd_readRule_131 (v0 : Nat) (v1 : Int32) (s0 : Int32) (h : HP) : Option HP :=
  (if s0 = 0 then
  (f_Rd_readRule_140 v0 v1 s0 h)
  else
  ((f_Rd_advance v0 h).bind fun x_10 =>
  f_Rd_readRule_140 v0 v1 s0 x_10))
noncomputable def f_Rd_readRule_117 (v0 : Nat) (v1 : Int32) (h : HP) : Option HP :=
  (if (hp_i h v0 12) = (14 : Int32) then
  (f_Rd_readRule_131 v0 v1 (1 : Int32) h)
  else
  (f_Rd_readRule_131 v0 v1 (0 : Int32) h))
noncomputable def f_Rd_readRule_95 (v0 : Nat) (v1 : Int32) (v2 : Int32) (s0 : Int32) (s1 : Nat) (h : HP) : Option ((Int32 × HP) ⊕ HP) :=
  (f_Rd_expect s1 s0 h).bind fun x_11 =>
  (f_Rd_any v0 (0 : Int32) x_11).bind fun x_12 =>
  (hp_r x_12 v0 4).bind fun q_13 =>
  (f_Pl_endPart q_13 v2 x_12).bind fun x_14 =>
  xx_l (v2 + (1 : Int32)) fun v2_15 =>
  some (.inl (v2_15, x_14))
noncomputable def f_Rd_readRule_68b (v0 : Nat) (v1 : Int32) (v2 : Int32) (h : HP) : Option ((Int32 × HP) ⊕ HP) :=
  (if (3 : Int32) ≤ v2 then
  ((f_Rd_readRule_117 v0 v1 h).map .inr)
  else
  ((if v2 = 0 then
  (f_Rd_readRule_95 v0 v1 v2 (11 : Int32) v0 h)
  else
  ((if v2 = (1 : Int32) then
  (f_Rd_readRule_95 v0 v1 v2 (12 : Int32) v0 h)
  else
  (f_Rd_readRule_95 v0 v1 v2 (13 : Int32) v0 h))))))
noncomputable def f_Rd_readRule_68 (v0 : Nat) (v1 : Int32) (v2 : Int32) (h : HP) : Option HP :=
  xx_lp (fun s : (Int32 × HP) => f_Rd_readRule_68b v0 v1 s.1 s.2) (v2, h)
noncomputable def f_Rd_readRule (v0 : Nat) (h : HP) : Option HP :=
  (hp_r h v0 4).bind fun q_1 =>
  (if (hp_i h q_1 6) < (16 : Int32) then
  ((f_Rd_advance v0 h).bind fun x_2 =>
  (if (hp_i x_2 v0 12) = (20 : Int32) then
  ((hp_r x_2 v0 9).bind fun q_3 =>
  if hp_in (hp_i x_2 v0 11) (hp_n x_2 q_3) = true then
  (f_Rd_roleNamed v0 (hp_l x_2 q_3 ((hp_i x_2 v0 11)).toNatClampNeg) x_2).bind fun x_5 =>
  (if x_5.1 = (-1 : Int32) then
  ((f_Rd_refuse v0 (5 : Int32) x_5.2).bind fun x_6 =>
  some x_6)
  else
  ((f_Rd_advance v0 x_5.2).bind fun x_7 =>
  f_Rd_readRule_68 v0 x_5.1 (0 : Int32) x_7))
  else none)
  else
  ((f_Rd_refuse v0 (2 : Int32) x_2).bind fun x_16 =>
  some x_16)))
  else
  ((f_Rd_refuse v0 (2 : Int32) h).bind fun x_17 =>
  some x_17))
/-! LampYard$Reader.readLine()V -/
noncomputable def f_Rd_readLine_90 (v0 : Nat) (h : HP) : Option HP :=
  (f_Rd_expect v0 (59 : Int32) h).bind fun x_3 =>
  some x_3
noncomputable def f_Rd_readLine (v0 : Nat) (h : HP) : Option HP :=
  xx_l (hp_i h v0 12) fun w_1 =>
  (if w_1 = (0 : Int32) then
  ((f_Rd_readSetting v0 h).bind fun x_2 =>
  f_Rd_readLine_90 v0 x_2)
  else
  (if w_1 = (1 : Int32) then
  ((f_Rd_readSetting v0 h).bind fun x_5 =>
  f_Rd_readLine_90 v0 x_5)
  else
  (if w_1 = (2 : Int32) then
  ((f_Rd_readSetting v0 h).bind fun x_7 =>
  f_Rd_readLine_90 v0 x_7)
  else
  (if w_1 = (3 : Int32) then
  ((f_Rd_readSetting v0 h).bind fun x_9 =>
  f_Rd_readLine_90 v0 x_9)
  else
  (if w_1 = (4 : Int32) then
  ((f_Rd_refuse v0 (2 : Int32) h).bind fun x_11 =>
  f_Rd_readLine_90 v0 x_11)
  else
  (if w_1 = (5 : Int32) then
  ((f_Rd_refuse v0 (2 : Int32) h).bind fun x_13 =>
  f_Rd_readLine_90 v0 x_13)
  else
  (if w_1 = (6 : Int32) then
  ((f_Rd_refuse v0 (2 : Int32) h).bind fun x_15 =>
  f_Rd_readLine_90 v0 x_15)
  else
  (if w_1 = (7 : Int32) then
  ((f_Rd_readRole v0 h).bind fun x_17 =>
  f_Rd_readLine_90 v0 x_17)
  else
  (if w_1 = (8 : Int32) then
  ((f_Rd_refuse v0 (2 : Int32) h).bind fun x_19 =>
  f_Rd_readLine_90 v0 x_19)
  else
  (if w_1 = (9 : Int32) then
  ((f_Rd_refuse v0 (2 : Int32) h).bind fun x_21 =>
  f_Rd_readLine_90 v0 x_21)
  else
  (if w_1 = (10 : Int32) then
  ((f_Rd_readRule v0 h).bind fun x_23 =>
  f_Rd_readLine_90 v0 x_23)
  else
  ((f_Rd_refuse v0 (2 : Int32) h).bind fun x_25 =>
  f_Rd_readLine_90 v0 x_25))))))))))))
/-! LampYard$Reader.reads([BILLampYard$Plan;)Z -/
noncomputable def f_Rd_reads_93 (v0 : Nat) (h : HP) : Option (Int32 × HP) :=
  (if (hp_i h v0 0) = 0 then
  (some ((1 : Int32), h))
  else
  (some ((0 : Int32), h)))
noncomputable def f_Rd_reads_59b (v0 : Nat) (v4 : Int32) (h : HP) : Option ((Int32 × HP) ⊕ (Int32 × HP)) :=
  (if (1400 : Int32) ≤ v4 then
  ((f_Rd_reads_93 v0 h).map .inr)
  else
  ((if (hp_i h v0 0) = 0 then
  ((if (hp_i h v0 12) = (22 : Int32) then
  ((f_Rd_reads_93 v0 h).map .inr)
  else
  ((f_Rd_readLine v0 h).bind fun x_12 =>
  xx_l (v4 + (1 : Int32)) fun v4_13 =>
  some (.inl (v4_13, x_12)))))
  else
  ((f_Rd_reads_93 v0 h).map .inr))))
noncomputable def f_Rd_reads_59 (v0 : Nat) (v4 : Int32) (h : HP) : Option (Int32 × HP) :=
  xx_lp (fun s : (Int32 × HP) => f_Rd_reads_59b v0 s.1 s.2) (v4, h)
noncomputable def f_Rd_reads (v0 : Nat) (v1 : Nat) (v2 : Int32) (v3 : Nat) (h : HP) : Option (Int32 × HP) :=
  xx_l (hp_sr h v0 2 (some v1)) fun h_1 =>
  xx_l (hp_si h_1 v0 3 (if (1400 : Int32) < v2 then (1400 : Int32) else v2)) fun h_2 =>
  xx_l (hp_sr h_2 v0 4 (some v3)) fun h_3 =>
  (hp_r h_3 v0 4).bind fun q_4 =>
  (f_Pl_empty q_4 h_3).bind fun x_5 =>
  xx_l (hp_si x_5 v0 0 (0 : Int32)) fun h_6 =>
  xx_l (hp_si h_6 v0 1 (-1 : Int32)) fun h_7 =>
  xx_l (hp_si h_7 v0 6 (0 : Int32)) fun h_8 =>
  (f_Rd_splitText v0 h_8).bind fun x_9 =>
  xx_l (hp_si x_9 v0 11 (-1 : Int32)) fun h_10 =>
  (f_Rd_advance v0 h_10).bind fun x_11 =>
  f_Rd_reads_59 v0 (0 : Int32) x_11
/-! LampYard.plan()I -/
noncomputable def f_X_plan (v0 : Nat) (h : HP) : Option (Int32 × HP) :=
  (hp_r h v0 2).bind fun q_1 =>
  (hp_r h v0 0).bind fun q_2 =>
  (hp_r h v0 4).bind fun q_3 =>
  (f_Rd_reads q_1 q_2 (hp_i h v0 1) q_3 h).bind fun x_4 =>
  xx_l (hp_si x_4.2 v0 1 (0 : Int32)) fun h_5 =>
  (if x_4.1 = 0 then
  (some ((-1 : Int32), h_5))
  else
  ((hp_r h_5 v0 3).bind fun q_6 =>
  (hp_r h_5 v0 4).bind fun q_7 =>
  xx_l (hp_sr h_5 v0 3 (some q_7)) fun h_8 =>
  xx_l (hp_sr h_8 v0 4 (some q_6)) fun h_9 =>
  (f_X_startAnew v0 h_9).bind fun x_10 =>
  (hp_r x_10 v0 3).bind fun q_11 =>
  some ((hp_i x_10 q_11 5), x_10)))
/-! LampYard.fault(I)I -/
noncomputable def f_X_fault (v0 : Nat) (v1 : Int32) (h : HP) : Option (Int32 × HP) :=
  (if v1 = 0 then
  ((hp_r h v0 2).bind fun q_1 =>
  some ((hp_i h q_1 0), h))
  else
  ((if v1 = (1 : Int32) then
  ((hp_r h v0 2).bind fun q_2 =>
  some ((hp_i h q_2 1), h))
  else
  (some ((-1 : Int32), h)))))
/-! LampYard$Plan.allOn()I -/
noncomputable def f_Pl_allOn (v0 : Nat) (h : HP) : Option (Int32 × HP) :=
  (if (hp_i h v0 0) = (2 : Int32) then
  (some ((3 : Int32), h))
  else
  (some ((1 : Int32), h)))
/-! LampYard$Plan.canBeLamps(I)Z -/
noncomputable def f_Pl_canBeLamps (v0 : Nat) (v1 : Int32) (h : HP) : Option (Int32 × HP) :=
  (if v1 < 0 then
  (some ((0 : Int32), h))
  else
  ((f_Pl_allOn v0 h).bind fun x_1 =>
  (if x_1.1 < v1 then
  (some ((0 : Int32), x_1.2))
  else
  (some ((1 : Int32), x_1.2)))))
/-! LampYard.begin(I)Z -/
noncomputable def f_X_begin (v0 : Nat) (v1 : Int32) (h : HP) : Option (Int32 × HP) :=
  (hp_r h v0 3).bind fun q_1 =>
  (f_Pl_canBeLamps q_1 v1 h).bind fun x_2 =>
  (if x_2.1 = 0 then
  (some ((0 : Int32), x_2.2))
  else
  ((hp_r x_2.2 v0 5).bind fun q_3 =>
  (hp_r x_2.2 v0 3).bind fun q_4 =>
  (f_Co_startWith q_3 q_4 v1 x_2.2).bind fun x_5 =>
  some ((1 : Int32), x_5)))
/-! LampYard$Plan.hasMan(I)Z -/
noncomputable def f_Pl_hasMan (v0 : Nat) (v1 : Int32) (h : HP) : Option (Int32 × HP) :=
  (if v1 < 0 then
  (some ((0 : Int32), h))
  else
  ((if (hp_i h v0 5) ≤ v1 then
  (some ((0 : Int32), h))
  else
  (some ((1 : Int32), h)))))
/-! LampYard$State.dayOf(J)I -/
noncomputable def f_St_dayOf (v0 : Int64) (h : HP) : Option (Int32 × HP) :=
  some (((((v0).toUInt64 >>> (((2 : Int32)).toInt64.toUInt64 &&& Int64.toUInt64 63)).toInt64).toInt32 &&& (15 : Int32)), h)
/-! LampYard$State.lampsOf(J)I -/
noncomputable def f_St_lampsOf (v0 : Int64) (h : HP) : Option (Int32 × HP) :=
  some (((v0).toInt32 &&& (3 : Int32)), h)
/-! LampYard$State.heldBy(JI)I -/
noncomputable def f_St_heldBy (v0 : Int64) (v2 : Int32) (h : HP) : Option (Int32 × HP) :=
  some (((((v0).toUInt64 >>> ((((6 : Int32) + ((8 : Int32) * v2))).toInt64.toUInt64 &&& Int64.toUInt64 63)).toInt64).toInt32 &&& (31 : Int32)), h)
/-! LampYard$State.visitsOf(JI)I -/
noncomputable def f_St_visitsOf (v0 : Int64) (v2 : Int32) (h : HP) : Option (Int32 × HP) :=
  some (((((v0).toUInt64 >>> (((((6 : Int32) + ((8 : Int32) * v2)) + (5 : Int32))).toInt64.toUInt64 &&& Int64.toUInt64 63)).toInt64).toInt32 &&& (3 : Int32)), h)
/-! LampYard$Plan.push(II)I -/
noncomputable def f_Pl_push (v0 : Nat) (v1 : Int32) (v2 : Int32) (h : HP) : Option (Int32 × HP) :=
  (if v1 < (60 : Int32) then
  ((hp_r h v0 16).bind fun q_1 =>
  if hp_in v1 (hp_n h q_1) = true then
  xx_l (hp_si h q_1 (v1).toNatClampNeg v2) fun h_3 =>
  some ((v1 + (1 : Int32)), h_3)
  else none)
  else
  (some (v1, h)))
/-! LampYard$Plan.joined(III)I -/
noncomputable def f_Pl_joined (v0 : Int32) (v1 : Int32) (v2 : Int32) (h : HP) : Option (Int32 × HP) :=
  (if v0 = (-13 : Int32) then
  (some ((v1 - v2), h))
  else
  (if v0 = (-12 : Int32) then
  (some ((v1 + v2), h))
  else
  (if v0 = (-11 : Int32) then
  ((if v1 = v2 then
  (some ((1 : Int32), h))
  else
  (some ((0 : Int32), h))))
  else
  (if v0 = (-10 : Int32) then
  ((if v1 ≤ v2 then
  (some ((0 : Int32), h))
  else
  (some ((1 : Int32), h))))
  else
  (if v0 = (-9 : Int32) then
  ((if v2 ≤ v1 then
  (some ((0 : Int32), h))
  else
  (some ((1 : Int32), h))))
  else
  (if v0 = (-8 : Int32) then
  (some ((v1 * v2), h))
  else
  (if v0 = (-7 : Int32) then
  ((if v1 = 0 then
  (some ((0 : Int32), h))
  else
  ((if v2 = 0 then
  (some ((0 : Int32), h))
  else
  (some ((1 : Int32), h))))))
  else
  (if v0 = (-6 : Int32) then
  ((if v1 = 0 then
  ((if v2 = 0 then
  (some ((0 : Int32), h))
  else
  (some ((1 : Int32), h))))
  else
  (some ((1 : Int32), h))))
  else
  (some ((v1 * v2), h))))))))))
/-! LampYard$Plan.valueOf(II)I -/
noncomputable def f_Pl_valueOf_174 (v0 : Nat) (v5 : Int32) (h : HP) : Option (Int32 × HP) :=
  (if v5 ≤ 0 then
  (some ((0 : Int32), h))
  else
  ((hp_r h v0 16).bind fun q_4 =>
  if hp_in (v5 - (1 : Int32)) (hp_n h q_4) = true then
  some ((hp_i h q_4 ((v5 - (1 : Int32))).toNatClampNeg), h)
  else none))
noncomputable def f_Pl_valueOf_168 (v0 : Nat) (v3 : Int32) (v5 : Int32) (v6 : Int32) (h : HP) : Option ((Int32 × Int32 × HP) ⊕ (Int32 × HP)) :=
  xx_l (v6 + (1 : Int32)) fun v6_9 =>
  some (.inl (v5, v6_9, h))
noncomputable def f_Pl_valueOf_129 (v0 : Nat) (v3 : Int32) (v5 : Int32) (v6 : Int32) (v7 : Int32) (h : HP) : Option ((Int32 × Int32 × HP) ⊕ (Int32 × HP)) :=
  (if v5 ≤ (1 : Int32) then
  (f_Pl_valueOf_168 v0 v3 v5 v6 h)
  else
  (xx_l (v5 + (-1 : Int32)) fun v5_10 =>
  (hp_r h v0 16).bind fun q_11 =>
  (hp_r h v0 16).bind fun q_12 =>
  if hp_in (v5_10 - (1 : Int32)) (hp_n h q_12) = true then
  (hp_r h v0 16).bind fun q_14 =>
  if hp_in v5_10 (hp_n h q_14) = true then
  (f_Pl_joined v7 (hp_i h q_12 ((v5_10 - (1 : Int32))).toNatClampNeg) (hp_i h q_14 (v5_10).toNatClampNeg) h).bind fun x_16 =>
  if hp_in (v5_10 - (1 : Int32)) (hp_n x_16.2 q_11) = true then
  xx_l (hp_si x_16.2 q_11 ((v5_10 - (1 : Int32))).toNatClampNeg x_16.1) fun h_18 =>
  f_Pl_valueOf_168 v0 v3 v5_10 v6 h_18
  else none
  else none
  else none))
noncomputable def f_Pl_valueOf_125 (v0 : Nat) (v3 : Int32) (v5 : Int32) (v6 : Int32) (s0 : Int32) (s1 : Int32) (s2 : Nat) (h : HP) : Option ((Int32 × Int32 × HP) ⊕ (Int32 × HP)) :=
  if hp_in s1 (hp_n h s2) = true then
  xx_l (hp_si h s2 (s1).toNatClampNeg s0) fun h_23 =>
  f_Pl_valueOf_168 v0 v3 v5 v6 h_23
  else none
noncomputable def f_Pl_valueOf_80 (v0 : Nat) (v3 : Int32) (v6 : Int32) (s0 : Int32) (s1 : Int32) (s2 : Nat) (h : HP) : Option ((Int32 × Int32 × HP) ⊕ (Int32 × HP)) :=
  (f_Pl_push s2 s1 s0 h).bind fun x_26 =>
  f_Pl_valueOf_168 v0 v3 x_26.1 v6 x_26.2
noncomputable def f_Pl_valueOf_31b (v0 : Nat) (v3 : Int32) (v5 : Int32) (v6 : Int32) (h : HP) : Option ((Int32 × Int32 × HP) ⊕ (Int32 × HP)) :=
  (hp_r h v0 12).bind fun q_2 =>
  if hp_in v3 (hp_n h q_2) = true then
  (if (hp_i h q_2 (v3).toNatClampNeg) ≤ v6 then
  ((f_Pl_valueOf_174 v0 v5 h).map .inr)
  else
  ((hp_r h v0 13).bind fun q_6 =>
  if hp_in v6 (hp_n h q_6) = true then
  xx_l (hp_i h q_6 (v6).toNatClampNeg) fun v7_8 =>
  (if v7_8 < (-5 : Int32) then
  ((if v7_8 = (-8 : Int32) then
  ((if v5 ≤ 0 then
  (f_Pl_valueOf_129 v0 v3 v5 v6 v7_8 h)
  else
  ((hp_r h v0 16).bind fun q_19 =>
  (hp_r h v0 16).bind fun q_20 =>
  if hp_in (v5 - (1 : Int32)) (hp_n h q_20) = true then
  (if (hp_i h q_20 ((v5 - (1 : Int32))).toNatClampNeg) = 0 then
  (f_Pl_valueOf_125 v0 v3 v5 v6 (1 : Int32) (v5 - (1 : Int32)) q_19 h)
  else
  (f_Pl_valueOf_125 v0 v3 v5 v6 (0 : Int32) (v5 - (1 : Int32)) q_19 h))
  else none)))
  else
  (f_Pl_valueOf_129 v0 v3 v5 v6 v7_8 h)))
  else
  ((if v7_8 < 0 then
  ((hp_r h v0 15).bind fun q_24 =>
  if hp_in ((-1 : Int32) - v7_8) (hp_n h q_24) = true then
  f_Pl_valueOf_80 v0 v3 v6 (hp_i h q_24 (((-1 : Int32) - v7_8)).toNatClampNeg) v5 v0 h
  else none)
  else
  (f_Pl_valueOf_80 v0 v3 v6 v7_8 v5 v0 h))))
  else none))
  else none
noncomputable def f_Pl_valueOf_31 (v0 : Nat) (v3 : Int32) (v5 : Int32) (v6 : Int32) (h : HP) : Option (Int32 × HP) :=
  xx_lp (fun s : (Int32 × Int32 × HP) => f_Pl_valueOf_31b v0 v3 s.1 s.2.1 s.2.2) (v5, v6, h)
noncomputable def f_Pl_valueOf_22 (v0 : Nat) (v3 : Int32) (s0 : Int32) (h : HP) : Option (Int32 × HP) :=
  f_Pl_valueOf_31 v0 v3 (0 : Int32) s0 h
noncomputable def f_Pl_valueOf (v0 : Nat) (v1 : Int32) (v2 : Int32) (h : HP) : Option (Int32 × HP) :=
  xx_l ((v1 * (3 : Int32)) + v2) fun v3_1 =>
  (if v3_1 ≤ 0 then
  (f_Pl_valueOf_22 v0 v3_1 (0 : Int32) h)
  else
  ((hp_r h v0 12).bind fun q_27 =>
  if hp_in (v3_1 - (1 : Int32)) (hp_n h q_27) = true then
  f_Pl_valueOf_22 v0 v3_1 (hp_i h q_27 ((v3_1 - (1 : Int32))).toNatClampNeg) h
  else none))
/-! LampYard$Plan.outcome(JI)I -/
noncomputable def f_Pl_outcome_206 (v0 : Nat) (v4 : Int32) (v6 : Int32) (v7 : Int32) (v8 : Int32) (h : HP) : Option ((Int32 × HP) ⊕ (Int32 × HP)) :=
  xx_l (v8 + (1 : Int32)) fun v8_23 =>
  some (.inl (v8_23, h))
noncomputable def f_Pl_outcome_181 (v7 : Int32) (v9 : Int32) (v10 : Int32) (s0 : Int32) (s1 : Int32) (h : HP) : Option (Int32 × HP) :=
  (if v10 = v7 then
  (some (((((s1 ||| s0) ||| (0 : Int32)) ||| (v10 <<< ((2 : Int32) &&& 31))) ||| v9), h))
  else
  (some (((((s1 ||| s0) ||| (512 : Int32)) ||| (v10 <<< ((2 : Int32) &&& 31))) ||| v9), h)))
noncomputable def f_Pl_outcome_167 (v6 : Int32) (v7 : Int32) (v9 : Int32) (v10 : Int32) (s0 : Int32) (h : HP) : Option (Int32 × HP) :=
  (if v9 = v6 then
  (f_Pl_outcome_181 v7 v9 v10 (0 : Int32) s0 h)
  else
  (f_Pl_outcome_181 v7 v9 v10 (256 : Int32) s0 h))
noncomputable def f_Pl_outcome_118 (v0 : Nat) (v6 : Int32) (v7 : Int32) (v8 : Int32) (h : HP) : Option (Int32 × HP) :=
  (f_Pl_valueOf v0 v8 (1 : Int32) h).bind fun x_24 =>
  (f_Pl_allOn v0 x_24.2).bind fun x_25 =>
  xx_l (x_24.1 &&& x_25.1) fun v9_26 =>
  (f_Pl_valueOf v0 v8 (2 : Int32) x_25.2).bind fun x_27 =>
  xx_l (if (0 : Int32) < (if x_27.1 < (31 : Int32) then x_27.1 else (31 : Int32)) then (if x_27.1 < (31 : Int32) then x_27.1 else (31 : Int32)) else (0 : Int32)) fun v10_28 =>
  (hp_r x_27.2 v0 11).bind fun q_29 =>
  if hp_in v8 (hp_n x_27.2 q_29) = true then
  (if (hp_i x_27.2 q_29 (v8).toNatClampNeg) = 0 then
  (f_Pl_outcome_167 v6 v7 v9_26 v10_28 (0 : Int32) x_27.2)
  else
  (f_Pl_outcome_167 v6 v7 v9_26 v10_28 (128 : Int32) x_27.2))
  else none
noncomputable def f_Pl_outcome_87b (v0 : Nat) (v4 : Int32) (v6 : Int32) (v7 : Int32) (v8 : Int32) (h : HP) : Option ((Int32 × HP) ⊕ (Int32 × HP)) :=
  (if (hp_i h v0 6) ≤ v8 then
  (some (.inr (((v7 <<< ((2 : Int32) &&& 31)) ||| v6), h)))
  else
  ((hp_r h v0 10).bind fun q_20 =>
  if hp_in v8 (hp_n h q_20) = true then
  (if (hp_i h q_20 (v8).toNatClampNeg) = v4 then
  ((f_Pl_valueOf v0 v8 (0 : Int32) h).bind fun x_22 =>
  (if x_22.1 = 0 then
  (f_Pl_outcome_206 v0 v4 v6 v7 v8 x_22.2)
  else
  ((f_Pl_outcome_118 v0 v6 v7 v8 x_22.2).map .inr)))
  else
  (f_Pl_outcome_206 v0 v4 v6 v7 v8 h))
  else none))
noncomputable def f_Pl_outcome_87 (v0 : Nat) (v4 : Int32) (v6 : Int32) (v7 : Int32) (v8 : Int32) (h : HP) : Option (Int32 × HP) :=
  xx_lp (fun s : (Int32 × HP) => f_Pl_outcome_87b v0 v4 v6 v7 s.1 s.2) (v8, h)
noncomputable def f_Pl_outcome_30 (v0 : Nat) (v1 : Int64) (v3 : Int32) (v4 : Int32) (v5 : Int32) (s0 : Int32) (h : HP) : Option (Int32 × HP) :=
  (f_St_heldBy v1 v3 h).bind fun x_3 =>
  (hp_r x_3.2 v0 15).bind fun q_4 =>
  if hp_in (0 : Int32) (hp_n x_3.2 q_4) = true then
  xx_l (hp_si x_3.2 q_4 ((0 : Int32)).toNatClampNeg s0) fun h_6 =>
  (hp_r h_6 v0 15).bind fun q_7 =>
  if hp_in (1 : Int32) (hp_n h_6 q_7) = true then
  xx_l (hp_si h_6 q_7 ((1 : Int32)).toNatClampNeg x_3.1) fun h_9 =>
  (hp_r h_9 v0 15).bind fun q_10 =>
  if hp_in (2 : Int32) (hp_n h_9 q_10) = true then
  xx_l (hp_si h_9 q_10 ((2 : Int32)).toNatClampNeg v5) fun h_12 =>
  (hp_r h_12 v0 15).bind fun q_13 =>
  (f_St_visitsOf v1 v3 h_12).bind fun x_14 =>
  if hp_in (3 : Int32) (hp_n x_14.2 q_13) = true then
  xx_l (hp_si x_14.2 q_13 ((3 : Int32)).toNatClampNeg x_14.1) fun h_16 =>
  (hp_r h_16 v0 15).bind fun q_17 =>
  if hp_in (4 : Int32) (hp_n h_16 q_17) = true then
  xx_l (hp_si h_16 q_17 ((4 : Int32)).toNatClampNeg (hp_i h_16 v0 5)) fun h_19 =>
  f_Pl_outcome_87 v0 v4 s0 x_3.1 (0 : Int32) h_19
  else none
  else none
  else none
  else none
  else none
noncomputable def f_Pl_outcome (v0 : Nat) (v1 : Int64) (v3 : Int32) (h : HP) : Option (Int32 × HP) :=
  (f_Pl_roleOf v0 v3 h).bind fun x_1 =>
  (f_St_dayOf v1 x_1.2).bind fun x_2 =>
  (if x_2.1 = (hp_i x_2.2 v0 2) then
  (f_Pl_outcome_30 v0 v1 v3 x_1.1 x_2.1 (0 : Int32) x_2.2)
  else
  ((f_St_lampsOf v1 x_2.2).bind fun x_31 =>
  f_Pl_outcome_30 v0 v1 v3 x_1.1 x_2.1 x_31.1 x_31.2))
/-! LampYard$State.withDay(JI)J -/
noncomputable def f_St_withDay (v0 : Int64) (v2 : Int32) (h : HP) : Option (Int64 × HP) :=
  some (((v0 &&& (-61 : Int64)) ||| (((v2).toInt64 &&& (15 : Int64)) <<< (((2 : Int32)).toInt64 &&& 63))), h)
/-! LampYard$State.withBeen(JI)J -/
noncomputable def f_St_withBeen (v0 : Int64) (v2 : Int32) (h : HP) : Option (Int64 × HP) :=
  some ((v0 ||| ((1 : Int64) <<< (((((6 : Int32) + ((8 : Int32) * v2)) + (7 : Int32))).toInt64 &&& 63))), h)
/-! LampYard$Plan.after(JII)J -/
noncomputable def f_Pl_after_48 (v3 : Int32) (v4 : Int32) (v6 : Int32) (s0 : Int32) (s1 : Int64) (h : HP) : Option (Int64 × HP) :=
  (f_St_withDay s1 s0 h).bind fun x_6 =>
  (f_St_withMind x_6.1 v3 ((v4 >>> ((2 : Int32) &&& 31)) &&& (31 : Int32)) v6 x_6.2).bind fun x_7 =>
  (f_St_withBeen x_7.1 v3 x_7.2).bind fun x_8 =>
  some (x_8.1, x_8.2)
noncomputable def f_Pl_after (v0 : Nat) (v1 : Int64) (v3 : Int32) (v4 : Int32) (h : HP) : Option (Int64 × HP) :=
  (f_St_dayOf v1 h).bind fun x_1 =>
  xx_l (x_1.1 + (1 : Int32)) fun v5_2 =>
  (f_St_visitsOf v1 v3 x_1.2).bind fun x_3 =>
  xx_l (if (x_3.1 + (1 : Int32)) < (3 : Int32) then (x_3.1 + (1 : Int32)) else (3 : Int32)) fun v6_4 =>
  (f_St_withLamps v1 (v4 &&& (3 : Int32)) x_3.2).bind fun x_5 =>
  (if (hp_i x_5.2 v0 1) ≤ v5_2 then
  (f_Pl_after_48 v3 v4 v6_4 (0 : Int32) x_5.1 x_5.2)
  else
  (f_Pl_after_48 v3 v4 v6_4 v5_2 x_5.1 x_5.2))
/-! LampYard$State.hasBeen(JI)Z -/
noncomputable def f_St_hasBeen (v0 : Int64) (v2 : Int32) (h : HP) : Option (Int32 × HP) :=
  (if (lg_cmp (((v0).toUInt64 >>> (((((6 : Int32) + ((8 : Int32) * v2)) + (7 : Int32))).toInt64.toUInt64 &&& Int64.toUInt64 63)).toInt64 &&& (1 : Int64)) (0 : Int64)) = 0 then
  (some ((0 : Int32), h))
  else
  (some ((1 : Int32), h)))
/-! LampYard$Plan.haveAllBeen(J)Z -/
noncomputable def f_Pl_haveAllBeen_5b (v0 : Nat) (v1 : Int64) (v3 : Int32) (v4 : Int32) (h : HP) : Option ((Int32 × Int32 × HP) ⊕ (Int32 × HP)) :=
  (if (hp_i h v0 5) ≤ v4 then
  (if hp_z01 v3 = true then some (.inr (v3, h)) else none)
  else
  ((if v3 = 0 then
  (if hp_z01 v3 = true then some (.inr (v3, h)) else none)
  else
  ((f_St_hasBeen v1 v4 h).bind fun x_3 =>
  xx_l (v4 + (1 : Int32)) fun v4_4 =>
  some (.inl (x_3.1, v4_4, x_3.2))))))
noncomputable def f_Pl_haveAllBeen_5 (v0 : Nat) (v1 : Int64) (v3 : Int32) (v4 : Int32) (h : HP) : Option (Int32 × HP) :=
  xx_lp (fun s : (Int32 × Int32 × HP) => f_Pl_haveAllBeen_5b v0 v1 s.1 s.2.1 s.2.2) (v3, v4, h)
noncomputable def f_Pl_haveAllBeen (v0 : Nat) (v1 : Int64) (h : HP) : Option (Int32 × HP) :=
  f_Pl_haveAllBeen_5 v0 v1 (1 : Int32) (0 : Int32) h
/-! LampYard$Course.leadOut(LLampYard$Plan;I)I -/
noncomputable def f_Co_leadOut_52 (v0 : Nat) (v1 : Nat) (v3 : Int32) (h : HP) : Option (Int32 × HP) :=
  (if (v3 &&& (128 : Int32)) = 0 then
  (some ((0 : Int32), h))
  else
  (xx_l (hp_si h v0 2 (1 : Int32)) fun h_5 =>
  (f_Pl_haveAllBeen v1 (hp_l h_5 v0 0) h_5).bind fun x_6 =>
  (if x_6.1 = 0 then
  (some ((2 : Int32), x_6.2))
  else
  (some ((1 : Int32), x_6.2)))))
noncomputable def f_Co_leadOut (v0 : Nat) (v1 : Nat) (v2 : Int32) (h : HP) : Option (Int32 × HP) :=
  (f_Pl_outcome v1 (hp_l h v0 0) v2 h).bind fun x_1 =>
  (f_Pl_after v1 (hp_l x_1.2 v0 0) v2 x_1.1 x_1.2).bind fun x_2 =>
  xx_l (hp_sl x_2.2 v0 0 x_2.1) fun h_3 =>
  xx_l (hp_si h_3 v0 1 ((hp_i h_3 v0 1) + (1 : Int32))) fun h_4 =>
  (if (x_1.1 &&& (256 : Int32)) = 0 then
  (f_Co_leadOut_52 v0 v1 x_1.1 h_4)
  else
  ((hp_r h_4 v0 4).bind fun q_7 =>
  if hp_in v2 (hp_n h_4 q_7) = true then
  if hp_in v2 (hp_n h_4 q_7) = true then
  xx_l (hp_si h_4 q_7 (v2).toNatClampNeg ((hp_i h_4 q_7 (v2).toNatClampNeg) + (1 : Int32))) fun h_10 =>
  f_Co_leadOut_52 v0 v1 x_1.1 h_10
  else none
  else none))
/-! LampYard.lead(I)I -/
noncomputable def f_X_lead (v0 : Nat) (v1 : Int32) (h : HP) : Option (Int32 × HP) :=
  (hp_r h v0 3).bind fun q_1 =>
  (f_Pl_hasMan q_1 v1 h).bind fun x_2 =>
  (if x_2.1 = 0 then
  (some ((-1 : Int32), x_2.2))
  else
  ((hp_r x_2.2 v0 5).bind fun q_3 =>
  (if (hp_i x_2.2 q_3 2) = 0 then
  ((hp_r x_2.2 v0 5).bind fun q_4 =>
  (if (hp_i x_2.2 q_4 1) < (10000 : Int32) then
  ((hp_r x_2.2 v0 5).bind fun q_5 =>
  (hp_r x_2.2 v0 3).bind fun q_6 =>
  (f_Co_leadOut q_5 q_6 v1 x_2.2).bind fun x_7 =>
  some (x_7.1, x_7.2))
  else
  (some ((-1 : Int32), x_2.2))))
  else
  (some ((-1 : Int32), x_2.2)))))
/-! LampYard.forget(I)Z -/
noncomputable def f_X_forget (v0 : Nat) (v1 : Int32) (h : HP) : Option (Int32 × HP) :=
  (hp_r h v0 3).bind fun q_1 =>
  (f_Pl_hasMan q_1 v1 h).bind fun x_2 =>
  (if x_2.1 = 0 then
  (some ((0 : Int32), x_2.2))
  else
  ((hp_r x_2.2 v0 5).bind fun q_3 =>
  (if (hp_i x_2.2 q_3 2) = 0 then
  ((hp_r x_2.2 v0 5).bind fun q_4 =>
  (hp_r x_2.2 v0 3).bind fun q_5 =>
  (hp_r x_2.2 v0 5).bind fun q_6 =>
  (f_Pl_forgotten q_5 (hp_l x_2.2 q_6 0) v1 x_2.2).bind fun x_7 =>
  xx_l (hp_sl x_7.2 q_4 0 x_7.1) fun h_8 =>
  some ((1 : Int32), h_8))
  else
  (some ((0 : Int32), x_2.2)))))
/-! LampYard.dark(I)I -/
noncomputable def f_X_dark (v0 : Nat) (v1 : Int32) (h : HP) : Option (Int32 × HP) :=
  (hp_r h v0 3).bind fun q_1 =>
  (f_Pl_canBeLamps q_1 v1 h).bind fun x_2 =>
  (if x_2.1 = 0 then
  (some ((-1 : Int32), x_2.2))
  else
  ((hp_r x_2.2 v0 5).bind fun q_3 =>
  (if (hp_i x_2.2 q_3 2) = 0 then
  ((hp_r x_2.2 v0 5).bind fun q_4 =>
  (f_St_lampsOf (hp_l x_2.2 q_4 0) x_2.2).bind fun x_5 =>
  (hp_r x_5.2 v0 5).bind fun q_6 =>
  (hp_r x_5.2 v0 5).bind fun q_7 =>
  (f_St_withLamps (hp_l x_5.2 q_7 0) v1 x_5.2).bind fun x_8 =>
  xx_l (hp_sl x_8.2 q_6 0 x_8.1) fun h_9 =>
  some (x_5.1, h_9))
  else
  (some ((-1 : Int32), x_2.2)))))
/-! LampYard.man(II)I -/
noncomputable def f_X_man (v0 : Nat) (v1 : Int32) (v2 : Int32) (h : HP) : Option (Int32 × HP) :=
  (hp_r h v0 3).bind fun q_1 =>
  (f_Pl_hasMan q_1 v1 h).bind fun x_2 =>
  (if x_2.1 = 0 then
  (some ((-1 : Int32), x_2.2))
  else
  ((if v2 = (0 : Int32) then
  ((hp_r x_2.2 v0 3).bind fun q_3 =>
  (f_Pl_roleOf q_3 v1 x_2.2).bind fun x_4 =>
  some (x_4.1, x_4.2))
  else
  (if v2 = (1 : Int32) then
  ((hp_r x_2.2 v0 5).bind fun q_6 =>
  (f_St_heldBy (hp_l x_2.2 q_6 0) v1 x_2.2).bind fun x_7 =>
  some (x_7.1, x_7.2))
  else
  (if v2 = (2 : Int32) then
  ((hp_r x_2.2 v0 5).bind fun q_9 =>
  (f_St_visitsOf (hp_l x_2.2 q_9 0) v1 x_2.2).bind fun x_10 =>
  some (x_10.1, x_10.2))
  else
  (if v2 = (3 : Int32) then
  ((hp_r x_2.2 v0 5).bind fun q_12 =>
  (f_St_hasBeen (hp_l x_2.2 q_12 0) v1 x_2.2).bind fun x_13 =>
  (if x_13.1 = 0 then
  (some ((0 : Int32), x_13.2))
  else
  (some ((1 : Int32), x_13.2))))
  else
  (if v2 = (4 : Int32) then
  ((hp_r x_2.2 v0 5).bind fun q_15 =>
  (hp_r x_2.2 q_15 4).bind fun q_16 =>
  if hp_in v1 (hp_n x_2.2 q_16) = true then
  some ((hp_i x_2.2 q_16 (v1).toNatClampNeg), x_2.2)
  else none)
  else
  (some ((-1 : Int32), x_2.2)))))))))
/-! LampYard$Steps.<init>()V -/
noncomputable def f_Sp_new (v0 : Nat) (h : HP) : Option HP :=
  xx_l (hp_z h) fun q_1 => xx_l (hp_nw h 13 24576 24576) fun h_2 =>
  xx_l (hp_sr h_2 v0 0 (some q_1)) fun h_3 =>
  some h_3
/-! LampYard$StateSet.<init>()V -/
noncomputable def f_Ss_new (v0 : Nat) (h : HP) : Option HP :=
  xx_l (hp_z h) fun q_1 => xx_l (hp_nw h 14 5000 5000) fun h_2 =>
  xx_l (hp_sr h_2 v0 2 (some q_1)) fun h_3 =>
  xx_l (hp_z h_3) fun q_4 => xx_l (hp_nw h_3 13 8192 8192) fun h_5 =>
  xx_l (hp_sr h_5 v0 3 (some q_4)) fun h_6 =>
  some h_6
/-! LampYard$Survey.<init>()V -/
noncomputable def f_Sv_new (v0 : Nat) (h : HP) : Option HP :=
  xx_l (hp_z h) fun q_1 => xx_l (hp_nw h 8 0 (ly_nf 8)) fun h_2 =>
  (f_Sp_new q_1 h_2).bind fun x_3 =>
  xx_l (hp_sr x_3 v0 0 (some q_1)) fun h_4 =>
  xx_l (hp_z h_4) fun q_5 => xx_l (hp_nw h_4 7 0 (ly_nf 7)) fun h_6 =>
  (f_Ss_new q_5 h_6).bind fun x_7 =>
  xx_l (hp_sr x_7 v0 1 (some q_5)) fun h_8 =>
  xx_l (hp_z h_8) fun q_9 => xx_l (hp_nw h_8 13 5000 5000) fun h_10 =>
  xx_l (hp_sr h_10 v0 2 (some q_9)) fun h_11 =>
  xx_l (hp_z h_11) fun q_12 => xx_l (hp_nw h_11 13 6 6) fun h_13 =>
  xx_l (hp_sr h_13 v0 3 (some q_12)) fun h_14 =>
  xx_l (hp_z h_14) fun q_15 => xx_l (hp_nw h_14 13 30000 30000) fun h_16 =>
  xx_l (hp_sr h_16 v0 12 (some q_15)) fun h_17 =>
  xx_l (hp_z h_17) fun q_18 => xx_l (hp_nw h_17 13 5000 5000) fun h_19 =>
  xx_l (hp_sr h_19 v0 13 (some q_18)) fun h_20 =>
  some h_20
/-! LampYard$Steps.clear()V -/
noncomputable def f_Sp_clear (v0 : Nat) (h : HP) : Option HP :=
  (hp_r h v0 0).bind fun q_1 =>
  (f_Ar_fillI q_1 (0 : Int32) h).bind fun x_2 =>
  some x_2
/-! LampYard$StateSet.clear(I)V -/
noncomputable def f_Ss_clear (v0 : Nat) (v1 : Int32) (h : HP) : Option HP :=
  xx_l (hp_si h v0 0 (0 : Int32)) fun h_1 =>
  xx_l (hp_si h_1 v0 1 (if (5000 : Int32) < v1 then (5000 : Int32) else v1)) fun h_2 =>
  (hp_r h_2 v0 3).bind fun q_3 =>
  (f_Ar_fillI q_3 (0 : Int32) h_2).bind fun x_4 =>
  some x_4
/-! LampYard$Plan.isStart(I)Z -/
noncomputable def f_Pl_isStart_31 (s0 : Int32) (s1 : Int32) (h : HP) : Option (Int32 × HP) :=
  (if s1 = s0 then
  (some ((1 : Int32), h))
  else
  (some ((0 : Int32), h)))
noncomputable def f_Pl_isStart (v0 : Nat) (v1 : Int32) (h : HP) : Option (Int32 × HP) :=
  (if (hp_i h v0 3) = (2 : Int32) then
  ((f_Pl_canBeLamps v0 v1 h).bind fun x_1 =>
  if hp_z01 x_1.1 = true then some (x_1.1, x_1.2) else none)
  else
  ((if (hp_i h v0 3) = (1 : Int32) then
  ((f_Pl_allOn v0 h).bind fun x_3 =>
  f_Pl_isStart_31 x_3.1 v1 x_3.2)
  else
  (f_Pl_isStart_31 (0 : Int32) v1 h))))
/-! LampYard$StateSet.putIn(JI)I -/
noncomputable def f_Ss_putIn (v0 : Nat) (v1 : Int64) (v3 : Int32) (h : HP) : Option (Int32 × HP) :=
  (if (hp_i h v0 0) < (hp_i h v0 1) then
  ((hp_r h v0 2).bind fun q_1 =>
  if hp_in (hp_i h v0 0) (hp_n h q_1) = true then
  xx_l (hp_sl h q_1 ((hp_i h v0 0)).toNatClampNeg v1) fun h_3 =>
  xx_l (hp_si h_3 v0 0 ((hp_i h_3 v0 0) + (1 : Int32))) fun h_4 =>
  (hp_r h_4 v0 3).bind fun q_5 =>
  if hp_in v3 (hp_n h_4 q_5) = true then
  xx_l (hp_si h_4 q_5 (v3).toNatClampNeg (hp_i h_4 v0 0)) fun h_7 =>
  some (((hp_i h_7 v0 0) - (1 : Int32)), h_7)
  else none
  else none)
  else
  (some ((-1 : Int32), h)))
/-! LampYard$StateSet.numberOf(J)I -/
noncomputable def f_Ss_numberOf_36 (v0 : Nat) (v1 : Int64) (v3 : Int32) (h : HP) : Option (Int32 × HP) :=
  (f_Ss_putIn v0 v1 v3 h).bind fun x_9 =>
  some (x_9.1, x_9.2)
noncomputable def f_Ss_numberOf_13b (v0 : Nat) (v1 : Int64) (v3 : Int32) (v4 : Int32) (h : HP) : Option ((Int32 × Int32 × HP) ⊕ (Int32 × HP)) :=
  (if (8192 : Int32) ≤ v4 then
  (some (.inr ((-1 : Int32), h)))
  else
  ((hp_r h v0 3).bind fun q_2 =>
  if hp_in v3 (hp_n h q_2) = true then
  xx_l ((hp_i h q_2 (v3).toNatClampNeg) - (1 : Int32)) fun v5_4 =>
  (if 0 ≤ v5_4 then
  ((hp_r h v0 2).bind fun q_5 =>
  if hp_in v5_4 (hp_n h q_5) = true then
  (if (lg_cmp (hp_l h q_5 (v5_4).toNatClampNeg) v1) = 0 then
  (some (.inr (v5_4, h)))
  else
  (xx_l ((v3 + (1 : Int32)) &&& (8191 : Int32)) fun v3_7 =>
  xx_l (v4 + (1 : Int32)) fun v4_8 =>
  some (.inl (v3_7, v4_8, h))))
  else none)
  else
  ((f_Ss_numberOf_36 v0 v1 v3 h).map .inr))
  else none))
noncomputable def f_Ss_numberOf_13 (v0 : Nat) (v1 : Int64) (v3 : Int32) (v4 : Int32) (h : HP) : Option (Int32 × HP) :=
  xx_lp (fun s : (Int32 × Int32 × HP) => f_Ss_numberOf_13b v0 v1 s.1 s.2.1 s.2.2) (v3, v4, h)
noncomputable def f_Ss_numberOf (v0 : Nat) (v1 : Int64) (h : HP) : Option (Int32 × HP) :=
  xx_l ((((v1 * (-7046029254386353131 : Int64))).toUInt64 >>> (((51 : Int32)).toInt64.toUInt64 &&& Int64.toUInt64 63)).toInt64).toInt32 fun v3_1 =>
  f_Ss_numberOf_13 v0 v1 v3_1 (0 : Int32) h
/-! LampYard$Survey.putStarts()V -/
noncomputable def f_Sv_putStarts_50 (v0 : Nat) (v1 : Int32) (h : HP) : Option ((Int32 × HP) ⊕ HP) :=
  xx_l (v1 + (1 : Int32)) fun v1_3 =>
  some (.inl (v1_3, h))
noncomputable def f_Sv_putStarts_37 (v0 : Nat) (v1 : Int32) (s0 : Int32) (h : HP) : Option ((Int32 × HP) ⊕ HP) :=
  (if s0 = (-1 : Int32) then
  (f_Sv_putStarts_50 v0 v1 h)
  else
  ((hp_r h v0 13).bind fun q_4 =>
  if hp_in s0 (hp_n h q_4) = true then
  xx_l (hp_si h q_4 (s0).toNatClampNeg (-1 : Int32)) fun h_6 =>
  f_Sv_putStarts_50 v0 v1 h_6
  else none))
noncomputable def f_Sv_putStarts_2b (v0 : Nat) (v1 : Int32) (h : HP) : Option ((Int32 × HP) ⊕ HP) :=
  (if (4 : Int32) ≤ v1 then
  (some (.inr h))
  else
  ((hp_r h v0 4).bind fun q_1 =>
  (f_Pl_isStart q_1 v1 h).bind fun x_2 =>
  (if x_2.1 = 0 then
  (f_Sv_putStarts_37 v0 v1 (-1 : Int32) x_2.2)
  else
  ((hp_r x_2.2 v0 1).bind fun q_7 =>
  (hp_r x_2.2 v0 4).bind fun q_8 =>
  (f_Pl_firstState q_8 v1 x_2.2).bind fun x_9 =>
  (f_Ss_numberOf q_7 x_9.1 x_9.2).bind fun x_10 =>
  f_Sv_putStarts_37 v0 v1 x_10.1 x_10.2))))
noncomputable def f_Sv_putStarts_2 (v0 : Nat) (v1 : Int32) (h : HP) : Option HP :=
  xx_lp (fun s : (Int32 × HP) => f_Sv_putStarts_2b v0 s.1 s.2) (v1, h)
noncomputable def f_Sv_putStarts (v0 : Nat) (h : HP) : Option HP :=
  f_Sv_putStarts_2 v0 (0 : Int32) h
/-! LampYard$StateSet.member(I)J -/
noncomputable def f_Ss_member (v0 : Nat) (v1 : Int32) (h : HP) : Option (Int64 × HP) :=
  (if v1 < 0 then
  (some ((0 : Int64), h))
  else
  ((if (hp_i h v0 0) ≤ v1 then
  (some ((0 : Int64), h))
  else
  ((hp_r h v0 2).bind fun q_1 =>
  if hp_in v1 (hp_n h q_1) = true then
  some ((hp_l h q_1 (v1).toNatClampNeg), h)
  else none))))
/-! LampYard$Steps.outcome(LLampYard$Plan;JI)I -/
noncomputable def f_Sp_outcome_63 (v1 : Nat) (v2 : Int64) (v4 : Int32) (h : HP) : Option (Int32 × HP) :=
  (f_Pl_outcome v1 v2 v4 h).bind fun x_9 =>
  some (x_9.1, x_9.2)
noncomputable def f_Sp_outcome (v0 : Nat) (v1 : Nat) (v2 : Int64) (v4 : Int32) (h : HP) : Option (Int32 × HP) :=
  (f_Pl_roleOf v1 v4 h).bind fun x_1 =>
  (f_St_dayOf v2 x_1.2).bind fun x_2 =>
  xx_l ((x_1.1 * (12 : Int32)) + x_2.1) fun v5_3 =>
  (f_St_lampsOf v2 x_2.2).bind fun x_4 =>
  xx_l ((v5_3 * (4 : Int32)) + x_4.1) fun v5_5 =>
  (f_St_heldBy v2 v4 x_4.2).bind fun x_6 =>
  (f_St_visitsOf v2 v4 x_6.2).bind fun x_7 =>
  xx_l ((((v5_5 * (32 : Int32)) + x_6.1) * (4 : Int32)) + x_7.1) fun v5_8 =>
  (if v5_8 < 0 then
  (f_Sp_outcome_63 v1 v2 v4 x_7.2)
  else
  ((if v5_8 < (24576 : Int32) then
  ((hp_r x_7.2 v0 0).bind fun q_10 =>
  if hp_in v5_8 (hp_n x_7.2 q_10) = true then
  (if (hp_i x_7.2 q_10 (v5_8).toNatClampNeg) = 0 then
  ((hp_r x_7.2 v0 0).bind fun q_12 =>
  (f_Pl_outcome v1 v2 v4 x_7.2).bind fun x_13 =>
  if hp_in v5_8 (hp_n x_13.2 q_12) = true then
  xx_l (hp_si x_13.2 q_12 (v5_8).toNatClampNeg (x_13.1 + (1 : Int32))) fun h_15 =>
  (hp_r h_15 v0 0).bind fun q_16 =>
  if hp_in v5_8 (hp_n h_15 q_16) = true then
  some (((hp_i h_15 q_16 (v5_8).toNatClampNeg) - (1 : Int32)), h_15)
  else none
  else none)
  else
  ((hp_r x_7.2 v0 0).bind fun q_18 =>
  if hp_in v5_8 (hp_n x_7.2 q_18) = true then
  some (((hp_i x_7.2 q_18 (v5_8).toNatClampNeg) - (1 : Int32)), x_7.2)
  else none))
  else none)
  else
  (f_Sp_outcome_63 v1 v2 v4 x_7.2))))
/-! LampYard$Survey.daysTo(I)I -/
noncomputable def f_Sv_daysTo_4b (v0 : Nat) (v2 : Int32) (v3 : Int32) (h : HP) : Option ((Int32 × Int32 × HP) ⊕ (Int32 × HP)) :=
  (if (5000 : Int32) ≤ v2 then
  (some (.inr (v2, h)))
  else
  ((hp_r h v0 13).bind fun q_1 =>
  if hp_in v3 (hp_n h q_1) = true then
  (if (hp_i h q_1 (v3).toNatClampNeg) = (-1 : Int32) then
  (some (.inr (v2, h)))
  else
  ((hp_r h v0 13).bind fun q_3 =>
  if hp_in v3 (hp_n h q_3) = true then
  xx_l ((hp_i h q_3 (v3).toNatClampNeg) >>> ((3 : Int32) &&& 31)) fun v3_5 =>
  xx_l (v2 + (1 : Int32)) fun v2_6 =>
  some (.inl (v2_6, v3_5, h))
  else none))
  else none))
noncomputable def f_Sv_daysTo_4 (v0 : Nat) (v2 : Int32) (v3 : Int32) (h : HP) : Option (Int32 × HP) :=
  xx_lp (fun s : (Int32 × Int32 × HP) => f_Sv_daysTo_4b v0 s.1 s.2.1 s.2.2) (v2, v3, h)
noncomputable def f_Sv_daysTo (v0 : Nat) (v1 : Int32) (h : HP) : Option (Int32 × HP) :=
  f_Sv_daysTo_4 v0 (0 : Int32) v1 h
/-! LampYard$Survey.keepRow(II)V -/
noncomputable def f_Sv_keepRow_69 (v0 : Nat) (v3 : Int32) (h : HP) : Option HP :=
  (hp_r h v0 1).bind fun q_7 =>
  (f_Ss_member q_7 v3 h).bind fun x_8 =>
  (f_St_lampsOf x_8.1 x_8.2).bind fun x_9 =>
  xx_l (hp_si x_9.2 v0 10 x_9.1) fun h_10 =>
  some h_10
noncomputable def f_Sv_keepRow_33b (v0 : Nat) (v3 : Int32) (v4 : Int32) (h : HP) : Option ((Int32 × Int32 × HP) ⊕ HP) :=
  (if v4 < 0 then
  ((f_Sv_keepRow_69 v0 v3 h).map .inr)
  else
  ((hp_r h v0 2).bind fun q_11 =>
  (hp_r h v0 13).bind fun q_12 =>
  if hp_in v3 (hp_n h q_12) = true then
  if hp_in v4 (hp_n h q_11) = true then
  xx_l (hp_si h q_11 (v4).toNatClampNeg ((hp_i h q_12 (v3).toNatClampNeg) &&& (7 : Int32))) fun h_15 =>
  (hp_r h_15 v0 13).bind fun q_16 =>
  if hp_in v3 (hp_n h_15 q_16) = true then
  xx_l ((hp_i h_15 q_16 (v3).toNatClampNeg) >>> ((3 : Int32) &&& 31)) fun v3_18 =>
  xx_l (v4 + (-1 : Int32)) fun v4_19 =>
  some (.inl (v3_18, v4_19, h_15))
  else none
  else none
  else none))
noncomputable def f_Sv_keepRow_33 (v0 : Nat) (v3 : Int32) (v4 : Int32) (h : HP) : Option HP :=
  xx_lp (fun s : (Int32 × Int32 × HP) => f_Sv_keepRow_33b v0 s.1 s.2.1 s.2.2) (v3, v4, h)
noncomputable def f_Sv_keepRow (v0 : Nat) (v1 : Int32) (v2 : Int32) (h : HP) : Option HP :=
  (f_Sv_daysTo v0 v1 h).bind fun x_1 =>
  xx_l (hp_si x_1.2 v0 9 (x_1.1 + (1 : Int32))) fun h_2 =>
  (hp_r h_2 v0 2).bind fun q_3 =>
  if hp_in ((hp_i h_2 v0 9) - (1 : Int32)) (hp_n h_2 q_3) = true then
  xx_l (hp_si h_2 q_3 (((hp_i h_2 v0 9) - (1 : Int32))).toNatClampNeg v2) fun h_5 =>
  xx_l ((hp_i h_5 v0 9) - (2 : Int32)) fun v4_6 =>
  f_Sv_keepRow_33 v0 v1 v4_6 h_5
  else none
/-! LampYard$Survey.noteSaid(IIJ)I -/
noncomputable def f_Sv_noteSaid (v0 : Nat) (v1 : Int32) (v2 : Int32) (v3 : Int64) (h : HP) : Option (Int32 × HP) :=
  (hp_r h v0 4).bind fun q_1 =>
  (f_Pl_haveAllBeen q_1 v3 h).bind fun x_2 =>
  (if x_2.1 = 0 then
  (xx_l (hp_si x_2.2 v0 7 ((hp_i x_2.2 v0 7) + (1 : Int32))) fun h_3 =>
  (if (hp_i h_3 v0 9) = 0 then
  ((f_Sv_keepRow v0 v1 v2 h_3).bind fun x_4 =>
  some ((-2 : Int32), x_4))
  else
  (some ((-2 : Int32), h_3))))
  else
  (xx_l (hp_si x_2.2 v0 6 ((hp_i x_2.2 v0 6) + (1 : Int32))) fun h_5 =>
  (if (hp_i h_5 v0 8) = (-1 : Int32) then
  ((f_Sv_daysTo v0 v1 h_5).bind fun x_6 =>
  xx_l (hp_si x_6.2 v0 8 (x_6.1 + (1 : Int32))) fun h_7 =>
  some ((-1 : Int32), h_7))
  else
  (some ((-1 : Int32), h_5)))))
/-! LampYard$Survey.goOn(IIJ)I -/
noncomputable def f_Sv_goOn_31 (v0 : Nat) (v1 : Int32) (v2 : Int32) (v5 : Int32) (v6 : Int32) (s0 : Int32) (s1 : Nat) (h : HP) : Option (Int32 × HP) :=
  if hp_z01 s0 = true then
  xx_l (hp_si h s1 5 s0) fun h_5 =>
  (hp_r h_5 v0 1).bind fun q_7 =>
  (if (hp_i h_5 q_7 0) ≤ v5 then
  (some (v6, h_5))
  else
  ((if v6 = (-1 : Int32) then
  (some (v6, h_5))
  else
  ((hp_r h_5 v0 13).bind fun q_8 =>
  if hp_in v6 (hp_n h_5 q_8) = true then
  xx_l (hp_si h_5 q_8 (v6).toNatClampNeg ((v1 * (8 : Int32)) + v2)) fun h_10 =>
  some (v6, h_10)
  else none))))
  else none
noncomputable def f_Sv_goOn (v0 : Nat) (v1 : Int32) (v2 : Int32) (v3 : Int64) (h : HP) : Option (Int32 × HP) :=
  (hp_r h v0 1).bind fun q_1 =>
  xx_l (hp_i h q_1 0) fun v5_2 =>
  (hp_r h v0 1).bind fun q_3 =>
  (f_Ss_numberOf q_3 v3 h).bind fun x_4 =>
  (if x_4.1 = (-1 : Int32) then
  (f_Sv_goOn_31 v0 v1 v2 v5_2 x_4.1 (1 : Int32) v0 x_4.2)
  else
  (f_Sv_goOn_31 v0 v1 v2 v5_2 x_4.1 (0 : Int32) v0 x_4.2))
/-! LampYard$Survey.leadAll(I)V -/
noncomputable def f_Sv_leadAll_161 (v0 : Nat) (v1 : Int32) (v2 : Int64) (v4 : Int32) (s0 : Int32) (s1 : Int32) (s2 : Nat) (h : HP) : Option ((Int32 × HP) ⊕ HP) :=
  if hp_in s1 (hp_n h s2) = true then
  xx_l (hp_si h s2 (s1).toNatClampNeg s0) fun h_18 =>
  xx_l (v4 + (1 : Int32)) fun v4_19 =>
  some (.inl (v4_19, h_18))
  else none
noncomputable def f_Sv_leadAll_122 (v0 : Nat) (v1 : Int32) (v2 : Int64) (v4 : Int32) (v6 : Int64) (s0 : Int32) (h : HP) : Option ((Int32 × HP) ⊕ HP) :=
  (hp_r h v0 12).bind fun q_15 =>
  (if s0 = 0 then
  ((f_Sv_goOn v0 v1 v4 v6 h).bind fun x_16 =>
  f_Sv_leadAll_161 v0 v1 v2 v4 x_16.1 ((v1 * (6 : Int32)) + v4) q_15 x_16.2)
  else
  ((f_Sv_noteSaid v0 v1 v4 v6 h).bind fun x_20 =>
  f_Sv_leadAll_161 v0 v1 v2 v4 x_20.1 ((v1 * (6 : Int32)) + v4) q_15 x_20.2))
noncomputable def f_Sv_leadAll_94 (v0 : Nat) (v1 : Int32) (v2 : Int64) (v4 : Int32) (v5 : Int32) (h : HP) : Option ((Int32 × HP) ⊕ HP) :=
  (hp_r h v0 4).bind fun q_13 =>
  (f_Pl_after q_13 v2 v4 v5 h).bind fun x_14 =>
  (if (v5 &&& (128 : Int32)) = 0 then
  (f_Sv_leadAll_122 v0 v1 v2 v4 x_14.1 (0 : Int32) x_14.2)
  else
  (f_Sv_leadAll_122 v0 v1 v2 v4 x_14.1 (1 : Int32) x_14.2))
noncomputable def f_Sv_leadAll_12b (v0 : Nat) (v1 : Int32) (v2 : Int64) (v4 : Int32) (h : HP) : Option ((Int32 × HP) ⊕ HP) :=
  (hp_r h v0 4).bind fun q_3 =>
  (if (hp_i h q_3 5) ≤ v4 then
  (some (.inr h))
  else
  ((if (hp_i h v0 5) = 0 then
  ((hp_r h v0 3).bind fun q_4 =>
  (hp_r h v0 3).bind fun q_5 =>
  if hp_in v4 (hp_n h q_5) = true then
  (f_St_heldBy v2 v4 h).bind fun x_7 =>
  if hp_in v4 (hp_n x_7.2 q_4) = true then
  xx_l (hp_si x_7.2 q_4 (v4).toNatClampNeg (if (hp_i h q_5 (v4).toNatClampNeg) < x_7.1 then x_7.1 else (hp_i h q_5 (v4).toNatClampNeg))) fun h_9 =>
  (hp_r h_9 v0 0).bind fun q_10 =>
  (hp_r h_9 v0 4).bind fun q_11 =>
  (f_Sp_outcome q_10 q_11 v2 v4 h_9).bind fun x_12 =>
  (if (x_12.1 &&& (768 : Int32)) = 0 then
  (f_Sv_leadAll_94 v0 v1 v2 v4 x_12.1 x_12.2)
  else
  (xx_l (hp_si x_12.2 v0 11 ((hp_i x_12.2 v0 11) &&& (((1 : Int32) <<< (v4 &&& 31)) ^^^ (-1 : Int32)))) fun h_21 =>
  f_Sv_leadAll_94 v0 v1 v2 v4 x_12.1 h_21))
  else none
  else none)
  else
  (some (.inr h)))))
noncomputable def f_Sv_leadAll_12 (v0 : Nat) (v1 : Int32) (v2 : Int64) (v4 : Int32) (h : HP) : Option HP :=
  xx_lp (fun s : (Int32 × HP) => f_Sv_leadAll_12b v0 v1 v2 s.1 s.2) (v4, h)
noncomputable def f_Sv_leadAll (v0 : Nat) (v1 : Int32) (h : HP) : Option HP :=
  (hp_r h v0 1).bind fun q_1 =>
  (f_Ss_member q_1 v1 h).bind fun x_2 =>
  f_Sv_leadAll_12 v0 v1 x_2.1 (0 : Int32) x_2.2
/-! LampYard$Survey.explore(LLampYard$Plan;)V -/
noncomputable def f_Sv_explore_86b (v0 : Nat) (v2 : Int32) (h : HP) : Option ((Int32 × HP) ⊕ HP) :=
  (if (5000 : Int32) ≤ v2 then
  (some (.inr h))
  else
  ((hp_r h v0 1).bind fun q_18 =>
  (if (hp_i h q_18 0) ≤ v2 then
  (some (.inr h))
  else
  ((if (hp_i h v0 5) = 0 then
  ((f_Sv_leadAll v0 v2 h).bind fun x_19 =>
  xx_l (v2 + (1 : Int32)) fun v2_20 =>
  some (.inl (v2_20, x_19)))
  else
  (some (.inr h)))))))
noncomputable def f_Sv_explore_86 (v0 : Nat) (v2 : Int32) (h : HP) : Option HP :=
  xx_lp (fun s : (Int32 × HP) => f_Sv_explore_86b v0 s.1 s.2) (v2, h)
noncomputable def f_Sv_explore (v0 : Nat) (v1 : Nat) (h : HP) : Option HP :=
  xx_l (hp_sr h v0 4 (some v1)) fun h_1 =>
  (hp_r h_1 v0 0).bind fun q_2 =>
  (f_Sp_clear q_2 h_1).bind fun x_3 =>
  (hp_r x_3 v0 1).bind fun q_4 =>
  (f_Ss_clear q_4 (5000 : Int32) x_3).bind fun x_5 =>
  xx_l (hp_si x_5 v0 5 (0 : Int32)) fun h_6 =>
  xx_l (hp_si h_6 v0 6 (0 : Int32)) fun h_7 =>
  xx_l (hp_si h_7 v0 7 (0 : Int32)) fun h_8 =>
  xx_l (hp_si h_8 v0 8 (-1 : Int32)) fun h_9 =>
  xx_l (hp_si h_9 v0 9 (0 : Int32)) fun h_10 =>
  xx_l (hp_si h_10 v0 10 (-1 : Int32)) fun h_11 =>
  (hp_r h_11 v0 4).bind fun q_12 =>
  xx_l (hp_si h_11 v0 11 (((1 : Int32) <<< ((hp_i h_11 q_12 5) &&& 31)) - (1 : Int32))) fun h_13 =>
  (hp_r h_13 v0 3).bind fun q_14 =>
  (f_Ar_fillI q_14 (0 : Int32) h_13).bind fun x_15 =>
  xx_l (hp_si x_15 v0 15 (-1 : Int32)) fun h_16 =>
  (f_Sv_putStarts v0 h_16).bind fun x_17 =>
  f_Sv_explore_86 v0 (0 : Int32) x_17
/-! LampYard.surveyOfPlan()LLampYard$Survey; -/
noncomputable def f_X_surveyOfPlan_18 (v0 : Nat) (h : HP) : Option (Nat × HP) :=
  (if (hp_i h v0 11) = 0 then
  (xx_l (hp_si h v0 11 (1 : Int32)) fun h_5 =>
  (hp_r h_5 v0 8).bind fun q_6 =>
  (hp_r h_5 v0 3).bind fun q_7 =>
  (f_Sv_explore q_6 q_7 h_5).bind fun x_8 =>
  (hp_r x_8 v0 8).bind fun q_9 =>
  some (q_9, x_8))
  else
  ((hp_r h v0 8).bind fun q_10 =>
  some (q_10, h)))
noncomputable def f_X_surveyOfPlan (v0 : Nat) (h : HP) : Option (Nat × HP) :=
  (if hp_r h v0 8 = none then
  (xx_l (hp_z h) fun q_1 => xx_l (hp_nw h 9 0 (ly_nf 9)) fun h_2 =>
  (f_Sv_new q_1 h_2).bind fun x_3 =>
  xx_l (hp_sr x_3 v0 8 (some q_1)) fun h_4 =>
  f_X_surveyOfPlan_18 v0 h_4)
  else
  (f_X_surveyOfPlan_18 v0 h))
/-! LampYard.states(I)I -/
noncomputable def f_X_states (v0 : Nat) (v1 : Int32) (h : HP) : Option (Int32 × HP) :=
  (if v1 < 0 then
  (some ((-1 : Int32), h))
  else
  ((if v1 ≤ (2 : Int32) then
  ((f_X_surveyOfPlan v0 h).bind fun x_1 =>
  (if (hp_i x_1.2 x_1.1 5) = 0 then
  ((if v1 = 0 then
  ((hp_r x_1.2 x_1.1 1).bind fun q_2 =>
  some ((hp_i x_1.2 q_2 0), x_1.2))
  else
  ((if v1 = (1 : Int32) then
  (some ((hp_i x_1.2 x_1.1 6), x_1.2))
  else
  (some ((hp_i x_1.2 x_1.1 7), x_1.2))))))
  else
  (some ((-2 : Int32), x_1.2))))
  else
  (some ((-1 : Int32), h)))))
/-! LampYard.right()I -/
noncomputable def f_X_right (v0 : Nat) (h : HP) : Option (Int32 × HP) :=
  (f_X_surveyOfPlan v0 h).bind fun x_1 =>
  (if (hp_i x_1.2 x_1.1 5) = 0 then
  ((if (hp_i x_1.2 x_1.1 7) = 0 then
  (some ((1 : Int32), x_1.2))
  else
  (some ((0 : Int32), x_1.2))))
  else
  (some ((-2 : Int32), x_1.2)))
/-! LampYard.shown(I)I -/
noncomputable def f_X_shown (v0 : Nat) (v1 : Int32) (h : HP) : Option (Int32 × HP) :=
  (if v1 < 0 then
  (some ((-1 : Int32), h))
  else
  ((if v1 ≤ (1 : Int32) then
  ((f_X_surveyOfPlan v0 h).bind fun x_1 =>
  (if (hp_i x_1.2 x_1.1 5) = 0 then
  ((if (hp_i x_1.2 x_1.1 9) = 0 then
  (some ((-1 : Int32), x_1.2))
  else
  ((if v1 = 0 then
  (some ((hp_i x_1.2 x_1.1 9), x_1.2))
  else
  (some ((hp_i x_1.2 x_1.1 10), x_1.2))))))
  else
  (some ((-2 : Int32), x_1.2))))
  else
  (some ((-1 : Int32), h)))))
/-! LampYard.shows(I)I -/
noncomputable def f_X_shows (v0 : Nat) (v1 : Int32) (h : HP) : Option (Int32 × HP) :=
  (f_X_surveyOfPlan v0 h).bind fun x_1 =>
  (if (hp_i x_1.2 x_1.1 5) = 0 then
  ((if v1 < 0 then
  (some ((-1 : Int32), x_1.2))
  else
  ((if v1 < (hp_i x_1.2 x_1.1 9) then
  ((hp_r x_1.2 x_1.1 2).bind fun q_2 =>
  if hp_in v1 (hp_n x_1.2 q_2) = true then
  some ((hp_i x_1.2 q_2 (v1).toNatClampNeg), x_1.2)
  else none)
  else
  (some ((-1 : Int32), x_1.2))))))
  else
  (some ((-2 : Int32), x_1.2)))
/-! LampYard.soonest()I -/
noncomputable def f_X_soonest (v0 : Nat) (h : HP) : Option (Int32 × HP) :=
  (f_X_surveyOfPlan v0 h).bind fun x_1 =>
  (if (hp_i x_1.2 x_1.1 5) = 0 then
  (some ((hp_i x_1.2 x_1.1 8), x_1.2))
  else
  (some ((-2 : Int32), x_1.2)))
/-! LampYard$Rounds.<init>()V -/
noncomputable def f_Ro_new (v0 : Nat) (h : HP) : Option HP :=
  xx_l (hp_z h) fun q_1 => xx_l (hp_nw h 13 5000 5000) fun h_2 =>
  xx_l (hp_sr h_2 v0 1 (some q_1)) fun h_3 =>
  xx_l (hp_z h_3) fun q_4 => xx_l (hp_nw h_3 13 5000 5000) fun h_5 =>
  xx_l (hp_sr h_5 v0 2 (some q_4)) fun h_6 =>
  xx_l (hp_z h_6) fun q_7 => xx_l (hp_nw h_6 13 5000 5000) fun h_8 =>
  xx_l (hp_sr h_8 v0 3 (some q_7)) fun h_9 =>
  xx_l (hp_z h_9) fun q_10 => xx_l (hp_nw h_9 13 5000 5000) fun h_11 =>
  xx_l (hp_sr h_11 v0 4 (some q_10)) fun h_12 =>
  xx_l (hp_z h_12) fun q_13 => xx_l (hp_nw h_12 13 5000 5000) fun h_14 =>
  xx_l (hp_sr h_14 v0 5 (some q_13)) fun h_15 =>
  xx_l (hp_z h_15) fun q_16 => xx_l (hp_nw h_15 13 5000 5000) fun h_17 =>
  xx_l (hp_sr h_17 v0 6 (some q_16)) fun h_18 =>
  some h_18
/-! LampYard$Rounds.enter(I)V -/
noncomputable def f_Ro_enter (v0 : Nat) (v1 : Int32) (h : HP) : Option HP :=
  xx_l (hp_si h v0 9 ((hp_i h v0 9) + (1 : Int32))) fun h_1 =>
  (hp_r h_1 v0 1).bind fun q_2 =>
  if hp_in v1 (hp_n h_1 q_2) = true then
  xx_l (hp_si h_1 q_2 (v1).toNatClampNeg (hp_i h_1 v0 9)) fun h_4 =>
  (hp_r h_4 v0 2).bind fun q_5 =>
  if hp_in v1 (hp_n h_4 q_5) = true then
  xx_l (hp_si h_4 q_5 (v1).toNatClampNeg (hp_i h_4 v0 9)) fun h_7 =>
  (hp_r h_7 v0 4).bind fun q_8 =>
  if hp_in v1 (hp_n h_7 q_8) = true then
  xx_l (hp_si h_7 q_8 (v1).toNatClampNeg (0 : Int32)) fun h_10 =>
  (hp_r h_10 v0 5).bind fun q_11 =>
  if hp_in (hp_i h_10 v0 7) (hp_n h_10 q_11) = true then
  xx_l (hp_si h_10 q_11 ((hp_i h_10 v0 7)).toNatClampNeg v1) fun h_13 =>
  xx_l (hp_si h_13 v0 7 ((hp_i h_13 v0 7) + (1 : Int32))) fun h_14 =>
  (hp_r h_14 v0 6).bind fun q_15 =>
  if hp_in (hp_i h_14 v0 8) (hp_n h_14 q_15) = true then
  xx_l (hp_si h_14 q_15 ((hp_i h_14 v0 8)).toNatClampNeg v1) fun h_17 =>
  xx_l (hp_si h_17 v0 8 ((hp_i h_17 v0 8) + (1 : Int32))) fun h_18 =>
  some h_18
  else none
  else none
  else none
  else none
  else none
/-! LampYard$Survey.nextOf(II)I -/
noncomputable def f_Sv_nextOf (v0 : Nat) (v1 : Int32) (v2 : Int32) (h : HP) : Option (Int32 × HP) :=
  (hp_r h v0 12).bind fun q_1 =>
  if hp_in ((v1 * (6 : Int32)) + v2) (hp_n h q_1) = true then
  some ((hp_i h q_1 (((v1 * (6 : Int32)) + v2)).toNatClampNeg), h)
  else none
/-! LampYard$Rounds.look(II)V -/
noncomputable def f_Ro_look (v0 : Nat) (v1 : Int32) (v2 : Int32) (h : HP) : Option HP :=
  (if 0 ≤ v2 then
  ((hp_r h v0 1).bind fun q_1 =>
  if hp_in v2 (hp_n h q_1) = true then
  (if (hp_i h q_1 (v2).toNatClampNeg) = 0 then
  ((f_Ro_enter v0 v2 h).bind fun x_3 =>
  some x_3)
  else
  ((hp_r h v0 3).bind fun q_4 =>
  if hp_in v2 (hp_n h q_4) = true then
  (if (hp_i h q_4 (v2).toNatClampNeg) = 0 then
  ((hp_r h v0 2).bind fun q_6 =>
  (hp_r h v0 2).bind fun q_7 =>
  if hp_in v1 (hp_n h q_7) = true then
  (hp_r h v0 1).bind fun q_9 =>
  if hp_in v2 (hp_n h q_9) = true then
  if hp_in v1 (hp_n h q_6) = true then
  xx_l (hp_si h q_6 (v1).toNatClampNeg (if (hp_i h q_9 (v2).toNatClampNeg) < (hp_i h q_7 (v1).toNatClampNeg) then (hp_i h q_9 (v2).toNatClampNeg) else (hp_i h q_7 (v1).toNatClampNeg))) fun h_12 =>
  some h_12
  else none
  else none
  else none)
  else
  (some h))
  else none))
  else none)
  else
  (some h))
/-! LampYard$Rounds.menLedWithin(I)I -/
noncomputable def f_Ro_menLedWithin_56 (v0 : Nat) (v1 : Int32) (v2 : Int32) (v3 : Int32) (h : HP) : Option ((Int32 × Int32 × HP) ⊕ (Int32 × HP)) :=
  xx_l (v3 + (1 : Int32)) fun v3_5 =>
  some (.inl (v2, v3_5, h))
noncomputable def f_Ro_menLedWithin_4b (v0 : Nat) (v1 : Int32) (v2 : Int32) (v3 : Int32) (h : HP) : Option ((Int32 × Int32 × HP) ⊕ (Int32 × HP)) :=
  (hp_r h v0 0).bind fun q_1 =>
  (hp_r h q_1 4).bind fun q_2 =>
  (if (hp_i h q_2 5) ≤ v3 then
  (some (.inr (v2, h)))
  else
  ((hp_r h v0 0).bind fun q_3 =>
  (f_Sv_nextOf q_3 v1 v3 h).bind fun x_4 =>
  (if x_4.1 < 0 then
  (f_Ro_menLedWithin_56 v0 v1 v2 v3 x_4.2)
  else
  ((hp_r x_4.2 v0 3).bind fun q_6 =>
  if hp_in x_4.1 (hp_n x_4.2 q_6) = true then
  (hp_r x_4.2 v0 3).bind fun q_8 =>
  if hp_in v1 (hp_n x_4.2 q_8) = true then
  (if (hp_i x_4.2 q_6 (x_4.1).toNatClampNeg) = (hp_i x_4.2 q_8 (v1).toNatClampNeg) then
  (xx_l (v2 ||| ((1 : Int32) <<< (v3 &&& 31))) fun v2_10 =>
  f_Ro_menLedWithin_56 v0 v1 v2_10 v3 x_4.2)
  else
  (f_Ro_menLedWithin_56 v0 v1 v2 v3 x_4.2))
  else none
  else none))))
noncomputable def f_Ro_menLedWithin_4 (v0 : Nat) (v1 : Int32) (v2 : Int32) (v3 : Int32) (h : HP) : Option (Int32 × HP) :=
  xx_lp (fun s : (Int32 × Int32 × HP) => f_Ro_menLedWithin_4b v0 v1 s.1 s.2.1 s.2.2) (v2, v3, h)
noncomputable def f_Ro_menLedWithin (v0 : Nat) (v1 : Int32) (h : HP) : Option (Int32 × HP) :=
  f_Ro_menLedWithin_4 v0 v1 (0 : Int32) (0 : Int32) h
/-! LampYard$Rounds.tieKnot(I)V -/
noncomputable def f_Ro_tieKnot_108 (v0 : Nat) (v2 : Int32) (v3 : Int32) (h : HP) : Option HP :=
  (if v3 = 0 then
  (some h)
  else
  ((hp_r h v0 0).bind fun q_4 =>
  (hp_r h q_4 4).bind fun q_5 =>
  (if v3 = (((1 : Int32) <<< ((hp_i h q_5 5) &&& 31)) - (1 : Int32)) then
  (xx_l (hp_si h v0 11 ((hp_i h v0 11) + (v2 - (hp_i h v0 7)))) fun h_6 =>
  some h_6)
  else
  (some h))))
noncomputable def f_Ro_tieKnot_82b (v0 : Nat) (v2 : Int32) (v3 : Int32) (v4 : Int32) (h : HP) : Option ((Int32 × Int32 × HP) ⊕ HP) :=
  (if v2 ≤ v4 then
  ((f_Ro_tieKnot_108 v0 v2 v3 h).map .inr)
  else
  ((hp_r h v0 5).bind fun q_7 =>
  if hp_in v4 (hp_n h q_7) = true then
  (f_Ro_menLedWithin v0 (hp_i h q_7 (v4).toNatClampNeg) h).bind fun x_9 =>
  xx_l (v3 ||| x_9.1) fun v3_10 =>
  xx_l (v4 + (1 : Int32)) fun v4_11 =>
  some (.inl (v3_10, v4_11, x_9.2))
  else none))
noncomputable def f_Ro_tieKnot_82 (v0 : Nat) (v2 : Int32) (v3 : Int32) (v4 : Int32) (h : HP) : Option HP :=
  xx_lp (fun s : (Int32 × Int32 × HP) => f_Ro_tieKnot_82b v0 v2 s.1 s.2.1 s.2.2) (v3, v4, h)
noncomputable def f_Ro_tieKnot_74 (v0 : Nat) (v2 : Int32) (h : HP) : Option HP :=
  xx_l (hp_i h v0 7) fun v4_3 =>
  f_Ro_tieKnot_82 v0 v2 (0 : Int32) v4_3 h
noncomputable def f_Ro_tieKnot_17b (v0 : Nat) (v1 : Int32) (v2 : Int32) (v3 : Int32) (h : HP) : Option ((Int32 × HP) ⊕ HP) :=
  (if (5000 : Int32) ≤ v3 then
  ((f_Ro_tieKnot_74 v0 v2 h).map .inr)
  else
  ((if (hp_i h v0 7) ≤ 0 then
  ((f_Ro_tieKnot_74 v0 v2 h).map .inr)
  else
  ((hp_r h v0 3).bind fun q_12 =>
  if hp_in v1 (hp_n h q_12) = true then
  (if (hp_i h q_12 (v1).toNatClampNeg) = 0 then
  (xx_l (hp_si h v0 7 ((hp_i h v0 7) - (1 : Int32))) fun h_14 =>
  (hp_r h_14 v0 3).bind fun q_15 =>
  (hp_r h_14 v0 5).bind fun q_16 =>
  if hp_in (hp_i h_14 v0 7) (hp_n h_14 q_16) = true then
  if hp_in (hp_i h_14 q_16 ((hp_i h_14 v0 7)).toNatClampNeg) (hp_n h_14 q_15) = true then
  xx_l (hp_si h_14 q_15 ((hp_i h_14 q_16 ((hp_i h_14 v0 7)).toNatClampNeg)).toNatClampNeg (hp_i h_14 v0 10)) fun h_19 =>
  xx_l (v3 + (1 : Int32)) fun v3_20 =>
  some (.inl (v3_20, h_19))
  else none
  else none)
  else
  ((f_Ro_tieKnot_74 v0 v2 h).map .inr))
  else none))))
noncomputable def f_Ro_tieKnot_17 (v0 : Nat) (v1 : Int32) (v2 : Int32) (v3 : Int32) (h : HP) : Option HP :=
  xx_lp (fun s : (Int32 × HP) => f_Ro_tieKnot_17b v0 v1 v2 s.1 s.2) (v3, h)
noncomputable def f_Ro_tieKnot (v0 : Nat) (v1 : Int32) (h : HP) : Option HP :=
  xx_l (hp_i h v0 7) fun v2_1 =>
  xx_l (hp_si h v0 10 ((hp_i h v0 10) + (1 : Int32))) fun h_2 =>
  f_Ro_tieKnot_17 v0 v1 v2_1 (0 : Int32) h_2
/-! LampYard$Rounds.leave(I)V -/
noncomputable def f_Ro_leave_50 (v0 : Nat) (v1 : Int32) (h : HP) : Option HP :=
  (hp_r h v0 2).bind fun q_2 =>
  if hp_in v1 (hp_n h q_2) = true then
  (hp_r h v0 1).bind fun q_4 =>
  if hp_in v1 (hp_n h q_4) = true then
  (if (hp_i h q_2 (v1).toNatClampNeg) = (hp_i h q_4 (v1).toNatClampNeg) then
  ((f_Ro_tieKnot v0 v1 h).bind fun x_6 =>
  some x_6)
  else
  (some h))
  else none
  else none
noncomputable def f_Ro_leave (v0 : Nat) (v1 : Int32) (h : HP) : Option HP :=
  xx_l (hp_si h v0 8 ((hp_i h v0 8) - (1 : Int32))) fun h_1 =>
  (if (hp_i h_1 v0 8) ≤ 0 then
  (f_Ro_leave_50 v0 v1 h_1)
  else
  ((hp_r h_1 v0 6).bind fun q_7 =>
  if hp_in ((hp_i h_1 v0 8) - (1 : Int32)) (hp_n h_1 q_7) = true then
  xx_l (hp_i h_1 q_7 (((hp_i h_1 v0 8) - (1 : Int32))).toNatClampNeg) fun v2_9 =>
  (hp_r h_1 v0 2).bind fun q_10 =>
  (hp_r h_1 v0 2).bind fun q_11 =>
  if hp_in v2_9 (hp_n h_1 q_11) = true then
  (hp_r h_1 v0 2).bind fun q_13 =>
  if hp_in v1 (hp_n h_1 q_13) = true then
  if hp_in v2_9 (hp_n h_1 q_10) = true then
  xx_l (hp_si h_1 q_10 (v2_9).toNatClampNeg (if (hp_i h_1 q_13 (v1).toNatClampNeg) < (hp_i h_1 q_11 (v2_9).toNatClampNeg) then (hp_i h_1 q_13 (v1).toNatClampNeg) else (hp_i h_1 q_11 (v2_9).toNatClampNeg))) fun h_16 =>
  f_Ro_leave_50 v0 v1 h_16
  else none
  else none
  else none
  else none))
/-! LampYard$Rounds.goFrom(I)V -/
noncomputable def f_Ro_goFrom_90 (v0 : Nat) (v2 : Int32) (h : HP) : Option ((Int32 × HP) ⊕ HP) :=
  xx_l (v2 + (1 : Int32)) fun v2_10 =>
  some (.inl (v2_10, h))
noncomputable def f_Ro_goFrom_7b (v0 : Nat) (v2 : Int32) (h : HP) : Option ((Int32 × HP) ⊕ HP) :=
  (if (35000 : Int32) ≤ v2 then
  (some (.inr h))
  else
  ((if (hp_i h v0 8) ≤ 0 then
  (some (.inr h))
  else
  ((hp_r h v0 6).bind fun q_2 =>
  if hp_in ((hp_i h v0 8) - (1 : Int32)) (hp_n h q_2) = true then
  xx_l (hp_i h q_2 (((hp_i h v0 8) - (1 : Int32))).toNatClampNeg) fun v3_4 =>
  (hp_r h v0 4).bind fun q_5 =>
  if hp_in v3_4 (hp_n h q_5) = true then
  (hp_r h v0 0).bind fun q_7 =>
  (hp_r h q_7 4).bind fun q_8 =>
  (if (hp_i h q_8 5) ≤ (hp_i h q_5 (v3_4).toNatClampNeg) then
  ((f_Ro_leave v0 v3_4 h).bind fun x_9 =>
  f_Ro_goFrom_90 v0 v2 x_9)
  else
  ((hp_r h v0 4).bind fun q_11 =>
  if hp_in v3_4 (hp_n h q_11) = true then
  if hp_in v3_4 (hp_n h q_11) = true then
  xx_l (hp_si h q_11 (v3_4).toNatClampNeg ((hp_i h q_11 (v3_4).toNatClampNeg) + (1 : Int32))) fun h_14 =>
  (hp_r h_14 v0 0).bind fun q_15 =>
  (hp_r h_14 v0 4).bind fun q_16 =>
  if hp_in v3_4 (hp_n h_14 q_16) = true then
  (f_Sv_nextOf q_15 v3_4 ((hp_i h_14 q_16 (v3_4).toNatClampNeg) - (1 : Int32)) h_14).bind fun x_18 =>
  (f_Ro_look v0 v3_4 x_18.1 x_18.2).bind fun x_19 =>
  f_Ro_goFrom_90 v0 v2 x_19
  else none
  else none
  else none))
  else none
  else none))))
noncomputable def f_Ro_goFrom_7 (v0 : Nat) (v2 : Int32) (h : HP) : Option HP :=
  xx_lp (fun s : (Int32 × HP) => f_Ro_goFrom_7b v0 s.1 s.2) (v2, h)
noncomputable def f_Ro_goFrom (v0 : Nat) (v1 : Int32) (h : HP) : Option HP :=
  (f_Ro_enter v0 v1 h).bind fun x_1 =>
  f_Ro_goFrom_7 v0 (0 : Int32) x_1
/-! LampYard$Rounds.countStates(LLampYard$Survey;)I -/
noncomputable def f_Ro_countStates_76 (v0 : Nat) (v2 : Int32) (h : HP) : Option ((Int32 × HP) ⊕ (Int32 × HP)) :=
  xx_l (v2 + (1 : Int32)) fun v2_16 =>
  some (.inl (v2_16, h))
noncomputable def f_Ro_countStates_48b (v0 : Nat) (v2 : Int32) (h : HP) : Option ((Int32 × HP) ⊕ (Int32 × HP)) :=
  (hp_r h v0 0).bind fun q_11 =>
  (hp_r h q_11 1).bind fun q_12 =>
  (if (hp_i h q_12 0) ≤ v2 then
  (some (.inr ((hp_i h v0 11), h)))
  else
  ((hp_r h v0 1).bind fun q_13 =>
  if hp_in v2 (hp_n h q_13) = true then
  (if (hp_i h q_13 (v2).toNatClampNeg) = 0 then
  ((f_Ro_goFrom v0 v2 h).bind fun x_15 =>
  f_Ro_countStates_76 v0 v2 x_15)
  else
  (f_Ro_countStates_76 v0 v2 h))
  else none))
noncomputable def f_Ro_countStates_48 (v0 : Nat) (v2 : Int32) (h : HP) : Option (Int32 × HP) :=
  xx_lp (fun s : (Int32 × HP) => f_Ro_countStates_48b v0 s.1 s.2) (v2, h)
noncomputable def f_Ro_countStates (v0 : Nat) (v1 : Nat) (h : HP) : Option (Int32 × HP) :=
  xx_l (hp_sr h v0 0 (some v1)) fun h_1 =>
  (hp_r h_1 v0 1).bind fun q_2 =>
  (f_Ar_fillI q_2 (0 : Int32) h_1).bind fun x_3 =>
  (hp_r x_3 v0 3).bind fun q_4 =>
  (f_Ar_fillI q_4 (0 : Int32) x_3).bind fun x_5 =>
  xx_l (hp_si x_5 v0 7 (0 : Int32)) fun h_6 =>
  xx_l (hp_si h_6 v0 8 (0 : Int32)) fun h_7 =>
  xx_l (hp_si h_7 v0 9 (0 : Int32)) fun h_8 =>
  xx_l (hp_si h_8 v0 10 (0 : Int32)) fun h_9 =>
  xx_l (hp_si h_9 v0 11 (0 : Int32)) fun h_10 =>
  f_Ro_countStates_48 v0 (0 : Int32) h_10
/-! LampYard$Survey.statesInRounds()I -/
noncomputable def f_Sv_statesInRounds_18 (v0 : Nat) (h : HP) : Option (Int32 × HP) :=
  (if (hp_i h v0 15) = (-1 : Int32) then
  ((hp_r h v0 14).bind fun q_5 =>
  (f_Ro_countStates q_5 v0 h).bind fun x_6 =>
  xx_l (hp_si x_6.2 v0 15 x_6.1) fun h_7 =>
  some ((hp_i h_7 v0 15), h_7))
  else
  (some ((hp_i h v0 15), h)))
noncomputable def f_Sv_statesInRounds (v0 : Nat) (h : HP) : Option (Int32 × HP) :=
  (if hp_r h v0 14 = none then
  (xx_l (hp_z h) fun q_1 => xx_l (hp_nw h 6 0 (ly_nf 6)) fun h_2 =>
  (f_Ro_new q_1 h_2).bind fun x_3 =>
  xx_l (hp_sr x_3 v0 14 (some q_1)) fun h_4 =>
  f_Sv_statesInRounds_18 v0 h_4)
  else
  (f_Sv_statesInRounds_18 v0 h))
/-! LampYard.ends()I -/
noncomputable def f_X_ends (v0 : Nat) (h : HP) : Option (Int32 × HP) :=
  (f_X_surveyOfPlan v0 h).bind fun x_1 =>
  (if (hp_i x_1.2 x_1.1 5) = 0 then
  ((f_Sv_statesInRounds x_1.1 x_1.2).bind fun x_2 =>
  (if x_2.1 = 0 then
  (some ((1 : Int32), x_2.2))
  else
  (some ((0 : Int32), x_2.2))))
  else
  (some ((-2 : Int32), x_1.2)))
/-! LampYard.endless()I -/
noncomputable def f_X_endless (v0 : Nat) (h : HP) : Option (Int32 × HP) :=
  (f_X_surveyOfPlan v0 h).bind fun x_1 =>
  (if (hp_i x_1.2 x_1.1 5) = 0 then
  ((f_Sv_statesInRounds x_1.1 x_1.2).bind fun x_2 =>
  some (x_2.1, x_2.2))
  else
  (some ((-2 : Int32), x_1.2)))
/-! LampYard.idle()I -/
noncomputable def f_X_idle (v0 : Nat) (h : HP) : Option (Int32 × HP) :=
  (f_X_surveyOfPlan v0 h).bind fun x_1 =>
  (if (hp_i x_1.2 x_1.1 5) = 0 then
  (some ((hp_i x_1.2 x_1.1 11), x_1.2))
  else
  (some ((-2 : Int32), x_1.2)))
/-! LampYard.most(I)I -/
noncomputable def f_X_most (v0 : Nat) (v1 : Int32) (h : HP) : Option (Int32 × HP) :=
  (hp_r h v0 3).bind fun q_1 =>
  (f_Pl_hasMan q_1 v1 h).bind fun x_2 =>
  (if x_2.1 = 0 then
  (some ((-1 : Int32), x_2.2))
  else
  ((f_X_surveyOfPlan v0 x_2.2).bind fun x_3 =>
  (if (hp_i x_3.2 x_3.1 5) = 0 then
  ((hp_r x_3.2 x_3.1 3).bind fun q_4 =>
  if hp_in v1 (hp_n x_3.2 q_4) = true then
  some ((hp_i x_3.2 q_4 (v1).toNatClampNeg), x_3.2)
  else none)
  else
  (some ((-2 : Int32), x_3.2)))))
/-! LampYard$Faults.<init>()V -/
noncomputable def f_Fa_new (v0 : Nat) (h : HP) : Option HP :=
  xx_l (hp_z h) fun q_1 => xx_l (hp_nw h 13 3 3) fun h_2 =>
  xx_l (hp_sr h_2 v0 0 (some q_1)) fun h_3 =>
  xx_l (hp_z h_3) fun q_4 => xx_l (hp_nw h_3 7 0 (ly_nf 7)) fun h_5 =>
  (f_Ss_new q_4 h_5).bind fun x_6 =>
  xx_l (hp_sr x_6 v0 1 (some q_4)) fun h_7 =>
  (f_Fa_clear v0 h_7).bind fun x_8 =>
  some x_8
/-! LampYard$Faults.putBehind(J)V -/
noncomputable def f_Fa_putBehind (v0 : Nat) (v1 : Int64) (h : HP) : Option HP :=
  (hp_r h v0 1).bind fun q_1 =>
  (f_Ss_numberOf q_1 v1 h).bind fun x_2 =>
  (if x_2.1 = (-1 : Int32) then
  (xx_l (hp_si x_2.2 v0 2 (1 : Int32)) fun h_3 =>
  some h_3)
  else
  (some x_2.2))
/-! LampYard$Faults.putFaulty(LLampYard$Plan;JI)V -/
noncomputable def f_Fa_putFaulty_8b (v0 : Nat) (v1 : Nat) (v2 : Int64) (v5 : Int32) (h : HP) : Option ((Int32 × HP) ⊕ HP) :=
  (if (hp_i h v1 5) ≤ v5 then
  (some (.inr h))
  else
  ((f_Pl_forgotten v1 v2 v5 h).bind fun x_1 =>
  (f_Fa_putBehind v0 x_1.1 x_1.2).bind fun x_2 =>
  xx_l (v5 + (1 : Int32)) fun v5_3 =>
  some (.inl (v5_3, x_2))))
noncomputable def f_Fa_putFaulty_8 (v0 : Nat) (v1 : Nat) (v2 : Int64) (v5 : Int32) (h : HP) : Option HP :=
  xx_lp (fun s : (Int32 × HP) => f_Fa_putFaulty_8b v0 v1 v2 s.1 s.2) (v5, h)
noncomputable def f_Fa_putFaulty_53 (v0 : Nat) (v2 : Int64) (s0 : Int32) (h : HP) : Option HP :=
  (f_St_withLamps v2 s0 h).bind fun x_4 =>
  (f_Fa_putBehind v0 x_4.1 x_4.2).bind fun x_5 =>
  some x_5
noncomputable def f_Fa_putFaulty (v0 : Nat) (v1 : Nat) (v2 : Int64) (v4 : Int32) (h : HP) : Option HP :=
  (if v4 = 0 then
  (f_Fa_putFaulty_8 v0 v1 v2 (0 : Int32) h)
  else
  ((if v4 = (1 : Int32) then
  (f_Fa_putFaulty_53 v0 v2 (0 : Int32) h)
  else
  ((f_St_lampsOf v2 h).bind fun x_6 =>
  f_Fa_putFaulty_53 v0 v2 (x_6.1 ^^^ (1 : Int32)) x_6.2))))
/-! LampYard$Faults.saysWrongly(LLampYard$Survey;J)Z -/
noncomputable def f_Fa_saysWrongly_86 (v0 : Nat) (v1 : Nat) (v2 : Int64) (v4 : Nat) (v5 : Int32) (v6 : Int32) (h : HP) : Option ((Int32 × Int32 × HP) ⊕ (Int32 × HP)) :=
  xx_l (v6 + (1 : Int32)) fun v6_7 =>
  some (.inl (v5, v6_7, h))
noncomputable def f_Fa_saysWrongly_83 (v0 : Nat) (v1 : Nat) (v2 : Int64) (v4 : Nat) (v6 : Int32) (s0 : Int32) (s1 : Int32) (h : HP) : Option ((Int32 × Int32 × HP) ⊕ (Int32 × HP)) :=
  xx_l (s1 ||| s0) fun v5_9 =>
  f_Fa_saysWrongly_86 v0 v1 v2 v4 v5_9 v6 h
noncomputable def f_Fa_saysWrongly_12b (v0 : Nat) (v1 : Nat) (v2 : Int64) (v4 : Nat) (v5 : Int32) (v6 : Int32) (h : HP) : Option ((Int32 × Int32 × HP) ⊕ (Int32 × HP)) :=
  (if (hp_i h v4 5) ≤ v6 then
  (if hp_z01 v5 = true then some (.inr (v5, h)) else none)
  else
  ((hp_r h v1 0).bind fun q_3 =>
  (f_Sp_outcome q_3 v4 v2 v6 h).bind fun x_4 =>
  (f_Pl_after v4 v2 v6 x_4.1 x_4.2).bind fun x_5 =>
  (if (x_4.1 &&& (128 : Int32)) = 0 then
  ((f_Fa_putBehind v0 x_5.1 x_5.2).bind fun x_6 =>
  f_Fa_saysWrongly_86 v0 v1 v2 v4 v5 v6 x_6)
  else
  ((f_Pl_haveAllBeen v4 x_5.1 x_5.2).bind fun x_8 =>
  (if x_8.1 = 0 then
  (f_Fa_saysWrongly_83 v0 v1 v2 v4 v6 (1 : Int32) v5 x_8.2)
  else
  (f_Fa_saysWrongly_83 v0 v1 v2 v4 v6 (0 : Int32) v5 x_8.2))))))
noncomputable def f_Fa_saysWrongly_12 (v0 : Nat) (v1 : Nat) (v2 : Int64) (v4 : Nat) (v5 : Int32) (v6 : Int32) (h : HP) : Option (Int32 × HP) :=
  xx_lp (fun s : (Int32 × Int32 × HP) => f_Fa_saysWrongly_12b v0 v1 v2 v4 s.1 s.2.1 s.2.2) (v5, v6, h)
noncomputable def f_Fa_saysWrongly (v0 : Nat) (v1 : Nat) (v2 : Int64) (h : HP) : Option (Int32 × HP) :=
  (hp_r h v1 4).bind fun q_1 =>
  f_Fa_saysWrongly_12 v0 v1 v2 q_1 (0 : Int32) (0 : Int32) h
/-! LampYard$Faults.lookThrough(LLampYard$Survey;I)I -/
noncomputable def f_Fa_lookThrough_132 (v0 : Nat) (v3 : Int32) (h : HP) : Option (Int32 × HP) :=
  (if (hp_i h v0 2) = 0 then
  ((if v3 = 0 then
  (some ((1 : Int32), h))
  else
  (some ((0 : Int32), h))))
  else
  (some ((-2 : Int32), h)))
noncomputable def f_Fa_lookThrough_82b (v0 : Nat) (v1 : Nat) (v3 : Int32) (v4 : Int32) (h : HP) : Option ((Int32 × Int32 × HP) ⊕ (Int32 × HP)) :=
  (if (5000 : Int32) ≤ v4 then
  ((f_Fa_lookThrough_132 v0 v3 h).map .inr)
  else
  ((hp_r h v0 1).bind fun q_6 =>
  (if (hp_i h q_6 0) ≤ v4 then
  ((f_Fa_lookThrough_132 v0 v3 h).map .inr)
  else
  ((if (hp_i h v0 2) = 0 then
  ((hp_r h v0 1).bind fun q_7 =>
  (f_Ss_member q_7 v4 h).bind fun x_8 =>
  (f_Fa_saysWrongly v0 v1 x_8.1 x_8.2).bind fun x_9 =>
  xx_l (v3 ||| x_9.1) fun v3_10 =>
  xx_l (v4 + (1 : Int32)) fun v4_11 =>
  some (.inl (v3_10, v4_11, x_9.2)))
  else
  ((f_Fa_lookThrough_132 v0 v3 h).map .inr))))))
noncomputable def f_Fa_lookThrough_82 (v0 : Nat) (v1 : Nat) (v3 : Int32) (v4 : Int32) (h : HP) : Option (Int32 × HP) :=
  xx_lp (fun s : (Int32 × Int32 × HP) => f_Fa_lookThrough_82b v0 v1 s.1 s.2.1 s.2.2) (v3, v4, h)
noncomputable def f_Fa_lookThrough_78 (v0 : Nat) (v1 : Nat) (s0 : Int32) (h : HP) : Option (Int32 × HP) :=
  f_Fa_lookThrough_82 v0 v1 s0 (0 : Int32) h
noncomputable def f_Fa_lookThrough_66 (v0 : Nat) (v1 : Nat) (h : HP) : Option (Int32 × HP) :=
  (if (hp_i h v1 7) ≤ 0 then
  (f_Fa_lookThrough_78 v0 v1 (0 : Int32) h)
  else
  (f_Fa_lookThrough_78 v0 v1 (1 : Int32) h))
noncomputable def f_Fa_lookThrough_25b (v0 : Nat) (v1 : Nat) (v2 : Int32) (v3 : Int32) (h : HP) : Option ((Int32 × HP) ⊕ (Int32 × HP)) :=
  (hp_r h v1 1).bind fun q_5 =>
  (if (hp_i h q_5 0) ≤ v3 then
  ((f_Fa_lookThrough_66 v0 v1 h).map .inr)
  else
  ((if (hp_i h v0 2) = 0 then
  ((hp_r h v1 4).bind fun q_12 =>
  (hp_r h v1 1).bind fun q_13 =>
  (f_Ss_member q_13 v3 h).bind fun x_14 =>
  (f_Fa_putFaulty v0 q_12 x_14.1 v2 x_14.2).bind fun x_15 =>
  xx_l (v3 + (1 : Int32)) fun v3_16 =>
  some (.inl (v3_16, x_15)))
  else
  ((f_Fa_lookThrough_66 v0 v1 h).map .inr))))
noncomputable def f_Fa_lookThrough_25 (v0 : Nat) (v1 : Nat) (v2 : Int32) (v3 : Int32) (h : HP) : Option (Int32 × HP) :=
  xx_lp (fun s : (Int32 × HP) => f_Fa_lookThrough_25b v0 v1 v2 s.1 s.2) (v3, h)
noncomputable def f_Fa_lookThrough (v0 : Nat) (v1 : Nat) (v2 : Int32) (h : HP) : Option (Int32 × HP) :=
  (hp_r h v0 1).bind fun q_1 =>
  (hp_r h v1 1).bind fun q_2 =>
  (f_Ss_clear q_1 ((5000 : Int32) - (hp_i h q_2 0)) h).bind fun x_3 =>
  xx_l (hp_si x_3 v0 2 (0 : Int32)) fun h_4 =>
  f_Fa_lookThrough_25 v0 v1 v2 (0 : Int32) h_4
/-! LampYard$Faults.borne(LLampYard$Survey;I)I -/
noncomputable def f_Fa_borne (v0 : Nat) (v1 : Nat) (v2 : Int32) (h : HP) : Option (Int32 × HP) :=
  (if v2 < 0 then
  (some ((-1 : Int32), h))
  else
  ((if v2 < (3 : Int32) then
  ((hp_r h v0 0).bind fun q_1 =>
  if hp_in v2 (hp_n h q_1) = true then
  (if (hp_i h q_1 (v2).toNatClampNeg) = (-3 : Int32) then
  ((hp_r h v0 0).bind fun q_3 =>
  (f_Fa_lookThrough v0 v1 v2 h).bind fun x_4 =>
  if hp_in v2 (hp_n x_4.2 q_3) = true then
  xx_l (hp_si x_4.2 q_3 (v2).toNatClampNeg x_4.1) fun h_6 =>
  (hp_r h_6 v0 0).bind fun q_7 =>
  if hp_in v2 (hp_n h_6 q_7) = true then
  some ((hp_i h_6 q_7 (v2).toNatClampNeg), h_6)
  else none
  else none)
  else
  ((hp_r h v0 0).bind fun q_9 =>
  if hp_in v2 (hp_n h q_9) = true then
  some ((hp_i h q_9 (v2).toNatClampNeg), h)
  else none))
  else none)
  else
  (some ((-1 : Int32), h)))))
/-! LampYard.bears(I)I -/
noncomputable def f_X_bears_44 (v0 : Nat) (v1 : Int32) (v2 : Nat) (h : HP) : Option (Int32 × HP) :=
  (hp_r h v0 9).bind fun q_6 =>
  (f_Fa_borne q_6 v2 v1 h).bind fun x_7 =>
  some (x_7.1, x_7.2)
noncomputable def f_X_bears (v0 : Nat) (v1 : Int32) (h : HP) : Option (Int32 × HP) :=
  (if v1 < 0 then
  (some ((-1 : Int32), h))
  else
  ((if v1 < (3 : Int32) then
  ((f_X_surveyOfPlan v0 h).bind fun x_1 =>
  (if (hp_i x_1.2 x_1.1 5) = 0 then
  ((if hp_r x_1.2 v0 9 = none then
  (xx_l (hp_z x_1.2) fun q_2 => xx_l (hp_nw x_1.2 2 0 (ly_nf 2)) fun h_3 =>
  (f_Fa_new q_2 h_3).bind fun x_4 =>
  xx_l (hp_sr x_4 v0 9 (some q_2)) fun h_5 =>
  f_X_bears_44 v0 v1 x_1.1 h_5)
  else
  (f_X_bears_44 v0 v1 x_1.1 x_1.2)))
  else
  (some ((-2 : Int32), x_1.2))))
  else
  (some ((-1 : Int32), h)))))
/-! LampYard$Chance.<init>()V -/
noncomputable def f_Ch_new (v0 : Nat) (h : HP) : Option HP :=
  xx_l (hp_z h) fun q_1 => xx_l (hp_nw h 15 4 4) fun h_2 =>
  xx_l (hp_sr h_2 v0 0 (some q_1)) fun h_3 =>
  xx_l (hp_z h_3) fun q_4 => xx_l (hp_nw h_3 14 52 52) fun h_5 =>
  xx_l (hp_sr h_5 v0 1 (some q_4)) fun h_6 =>
  xx_l (hp_z h_6) fun q_7 => xx_l (hp_nw h_6 14 52 52) fun h_8 =>
  xx_l (hp_sr h_8 v0 2 (some q_7)) fun h_9 =>
  xx_l (hp_z h_9) fun q_10 => xx_l (hp_nw h_9 14 5000 5000) fun h_11 =>
  xx_l (hp_sr h_11 v0 3 (some q_10)) fun h_12 =>
  xx_l (hp_z h_12) fun q_13 => xx_l (hp_nw h_12 14 5000 5000) fun h_14 =>
  xx_l (hp_sr h_14 v0 4 (some q_13)) fun h_15 =>
  some h_15
/-! java/util/Arrays.fill([JJ)V -/
noncomputable def f_Ar_fillJ_6b (v0 : Nat) (v1 : Int64) (v4 : Int32) (v3 : Int32) (h : HP) : Option ((Int32 × HP) ⊕ HP) :=
  (if v4 ≤ v3 then
  (some (.inr h))
  else
  (if hp_in v3 (hp_n h v0) = true then
  xx_l (hp_sl h v0 (v3).toNatClampNeg v1) fun h_3 =>
  xx_l (v3 + (1 : Int32)) fun v3_4 =>
  some (.inl (v3_4, h_3))
  else none))
noncomputable def f_Ar_fillJ_6 (v0 : Nat) (v1 : Int64) (v4 : Int32) (v3 : Int32) (h : HP) : Option HP :=
  xx_lp (fun s : (Int32 × HP) => f_Ar_fillJ_6b v0 v1 v4 s.1 s.2) (v3, h)
noncomputable def f_Ar_fillJ (v0 : Nat) (v1 : Int64) (h : HP) : Option HP :=
  xx_l (Int32.ofNat (hp_n h v0)) fun v4_1 =>
  f_Ar_fillJ_6 v0 v1 v4_1 (0 : Int32) h
/-! LampYard$Chance.goOneDay(LLampYard$Survey;I)V -/
noncomputable def f_Ch_goOneDay_118 (v0 : Nat) (v1 : Nat) (v2 : Int32) (v3 : Int32) (h : HP) : Option ((Int32 × HP) ⊕ HP) :=
  xx_l (v3 + (1 : Int32)) fun v3_8 =>
  some (.inl (v3_8, h))
noncomputable def f_Ch_goOneDay_112 (v0 : Nat) (v1 : Nat) (v2 : Int32) (v3 : Int32) (v4 : Int64) (v6 : Int32) (h : HP) : Option ((Int32 × HP) ⊕ ((Int32 × HP) ⊕ HP)) :=
  xx_l (v6 + (1 : Int32)) fun v6_19 =>
  some (.inl (v6_19, h))
noncomputable def f_Ch_goOneDay_110 (v0 : Nat) (v1 : Nat) (v2 : Int32) (v3 : Int32) (v4 : Int64) (v6 : Int32) (s0 : Int64) (s1 : Int64) (s2 : Int32) (s3 : Nat) (h : HP) : Option ((Int32 × HP) ⊕ ((Int32 × HP) ⊕ HP)) :=
  if hp_in s2 (hp_n h s3) = true then
  xx_l (hp_sl h s3 (s2).toNatClampNeg (s1 + s0)) fun h_18 =>
  f_Ch_goOneDay_112 v0 v1 v2 v3 v4 v6 h_18
  else none
noncomputable def f_Ch_goOneDay_31b (v0 : Nat) (v1 : Nat) (v2 : Int32) (v3 : Int32) (v4 : Int64) (v6 : Int32) (h : HP) : Option ((Int32 × HP) ⊕ ((Int32 × HP) ⊕ HP)) :=
  (if (lg_cmp v4 (0 : Int64)) = 0 then
  ((f_Ch_goOneDay_118 v0 v1 v2 v3 h).map .inr)
  else
  ((hp_r h v1 4).bind fun q_9 =>
  (if (hp_i h q_9 5) ≤ v6 then
  ((f_Ch_goOneDay_118 v0 v1 v2 v3 h).map .inr)
  else
  ((f_Sv_nextOf v1 v3 v6 h).bind fun x_10 =>
  (if x_10.1 < 0 then
  ((hp_r x_10.2 v0 1).bind fun q_11 =>
  if hp_in v2 (hp_n x_10.2 q_11) = true then
  if hp_in v2 (hp_n x_10.2 q_11) = true then
  xx_l (hp_sl x_10.2 q_11 (v2).toNatClampNeg ((hp_l x_10.2 q_11 (v2).toNatClampNeg) + v4)) fun h_14 =>
  (hp_r h_14 v0 2).bind fun q_15 =>
  if hp_in v2 (hp_n h_14 q_15) = true then
  (if x_10.1 = (-2 : Int32) then
  (f_Ch_goOneDay_110 v0 v1 v2 v3 v4 v6 v4 (hp_l h_14 q_15 (v2).toNatClampNeg) v2 q_15 h_14)
  else
  (f_Ch_goOneDay_110 v0 v1 v2 v3 v4 v6 (0 : Int64) (hp_l h_14 q_15 (v2).toNatClampNeg) v2 q_15 h_14))
  else none
  else none
  else none)
  else
  ((hp_r x_10.2 v0 4).bind fun q_20 =>
  if hp_in x_10.1 (hp_n x_10.2 q_20) = true then
  if hp_in x_10.1 (hp_n x_10.2 q_20) = true then
  xx_l (hp_sl x_10.2 q_20 (x_10.1).toNatClampNeg ((hp_l x_10.2 q_20 (x_10.1).toNatClampNeg) + v4)) fun h_23 =>
  f_Ch_goOneDay_112 v0 v1 v2 v3 v4 v6 h_23
  else none
  else none))))))
noncomputable def f_Ch_goOneDay_31 (v0 : Nat) (v1 : Nat) (v2 : Int32) (v3 : Int32) (v4 : Int64) (v6 : Int32) (h : HP) : Option ((Int32 × HP) ⊕ HP) :=
  xx_lp (fun s : (Int32 × HP) => f_Ch_goOneDay_31b v0 v1 v2 v3 v4 s.1 s.2) (v6, h)
noncomputable def f_Ch_goOneDay_2b (v0 : Nat) (v1 : Nat) (v2 : Int32) (v3 : Int32) (h : HP) : Option ((Int32 × HP) ⊕ HP) :=
  (hp_r h v1 1).bind fun q_1 =>
  (if (hp_i h q_1 0) ≤ v3 then
  (some (.inr h))
  else
  ((hp_r h v0 3).bind fun q_2 =>
  if hp_in v3 (hp_n h q_2) = true then
  xx_l (hp_l h q_2 (v3).toNatClampNeg) fun v4_4 =>
  (hp_r h v0 3).bind fun q_5 =>
  if hp_in v3 (hp_n h q_5) = true then
  xx_l (hp_sl h q_5 (v3).toNatClampNeg (0 : Int64)) fun h_7 =>
  f_Ch_goOneDay_31 v0 v1 v2 v3 v4_4 (0 : Int32) h_7
  else none
  else none))
noncomputable def f_Ch_goOneDay_2 (v0 : Nat) (v1 : Nat) (v2 : Int32) (v3 : Int32) (h : HP) : Option HP :=
  xx_lp (fun s : (Int32 × HP) => f_Ch_goOneDay_2b v0 v1 v2 s.1 s.2) (v3, h)
noncomputable def f_Ch_goOneDay (v0 : Nat) (v1 : Nat) (v2 : Int32) (h : HP) : Option HP :=
  f_Ch_goOneDay_2 v0 v1 v2 (0 : Int32) h
/-! LampYard$Chance.countWays(LLampYard$Survey;I)V -/
noncomputable def f_Ch_countWays_67b (v0 : Nat) (v1 : Nat) (v2 : Int32) (v4 : Int32) (h : HP) : Option ((Int32 × HP) ⊕ HP) :=
  (if (13 : Int32) ≤ v4 then
  (some (.inr h))
  else
  (xx_l ((v2 * (13 : Int32)) + v4) fun v5_15 =>
  (hp_r h v0 1).bind fun q_16 =>
  (hp_r h v0 1).bind fun q_17 =>
  if hp_in (v5_15 - (1 : Int32)) (hp_n h q_17) = true then
  (hp_r h v1 4).bind fun q_19 =>
  if hp_in v5_15 (hp_n h q_16) = true then
  xx_l (hp_sl h q_16 (v5_15).toNatClampNeg ((hp_l h q_17 ((v5_15 - (1 : Int32))).toNatClampNeg) * ((hp_i h q_19 5)).toInt64)) fun h_21 =>
  (hp_r h_21 v0 2).bind fun q_22 =>
  (hp_r h_21 v0 2).bind fun q_23 =>
  if hp_in (v5_15 - (1 : Int32)) (hp_n h_21 q_23) = true then
  (hp_r h_21 v1 4).bind fun q_25 =>
  if hp_in v5_15 (hp_n h_21 q_22) = true then
  xx_l (hp_sl h_21 q_22 (v5_15).toNatClampNeg ((hp_l h_21 q_23 ((v5_15 - (1 : Int32))).toNatClampNeg) * ((hp_i h_21 q_25 5)).toInt64)) fun h_27 =>
  (f_Ch_goOneDay v0 v1 v5_15 h_27).bind fun x_28 =>
  (hp_r x_28 v0 3).bind fun q_29 =>
  (hp_r x_28 v0 4).bind fun q_30 =>
  xx_l (hp_sr x_28 v0 3 (some q_30)) fun h_31 =>
  xx_l (hp_sr h_31 v0 4 (some q_29)) fun h_32 =>
  xx_l (v4 + (1 : Int32)) fun v4_33 =>
  some (.inl (v4_33, h_32))
  else none
  else none
  else none
  else none))
noncomputable def f_Ch_countWays_67 (v0 : Nat) (v1 : Nat) (v2 : Int32) (v4 : Int32) (h : HP) : Option HP :=
  xx_lp (fun s : (Int32 × HP) => f_Ch_countWays_67b v0 v1 v2 s.1 s.2) (v4, h)
noncomputable def f_Ch_countWays_44 (v0 : Nat) (v1 : Nat) (v2 : Int32) (h : HP) : Option HP :=
  (hp_r h v0 1).bind fun q_9 =>
  if hp_in (v2 * (13 : Int32)) (hp_n h q_9) = true then
  xx_l (hp_sl h q_9 ((v2 * (13 : Int32))).toNatClampNeg (0 : Int64)) fun h_11 =>
  (hp_r h_11 v0 2).bind fun q_12 =>
  if hp_in (v2 * (13 : Int32)) (hp_n h_11 q_12) = true then
  xx_l (hp_sl h_11 q_12 ((v2 * (13 : Int32))).toNatClampNeg (0 : Int64)) fun h_14 =>
  f_Ch_countWays_67 v0 v1 v2 (1 : Int32) h_14
  else none
  else none
noncomputable def f_Ch_countWays (v0 : Nat) (v1 : Nat) (v2 : Int32) (h : HP) : Option HP :=
  (hp_r h v0 3).bind fun q_1 =>
  (f_Ar_fillJ q_1 (0 : Int64) h).bind fun x_2 =>
  (hp_r x_2 v0 4).bind fun q_3 =>
  (f_Ar_fillJ q_3 (0 : Int64) x_2).bind fun x_4 =>
  (hp_r x_4 v1 1).bind fun q_5 =>
  (hp_r x_4 v1 4).bind fun q_6 =>
  (f_Pl_firstState q_6 v2 x_4).bind fun x_7 =>
  (f_Ss_numberOf q_5 x_7.1 x_7.2).bind fun x_8 =>
  (if x_8.1 = (-1 : Int32) then
  (f_Ch_countWays_44 v0 v1 v2 x_8.2)
  else
  ((hp_r x_8.2 v0 3).bind fun q_34 =>
  if hp_in x_8.1 (hp_n x_8.2 q_34) = true then
  xx_l (hp_sl x_8.2 q_34 (x_8.1).toNatClampNeg (1 : Int64)) fun h_36 =>
  f_Ch_countWays_44 v0 v1 v2 h_36
  else none))
/-! LampYard$Chance.waysSaid(LLampYard$Survey;III)J -/
noncomputable def f_Ch_waysSaid_43 (v0 : Nat) (v2 : Int32) (v3 : Int32) (v4 : Int32) (h : HP) : Option (Int64 × HP) :=
  (if v4 = 0 then
  ((hp_r h v0 1).bind fun q_7 =>
  if hp_in ((v2 * (13 : Int32)) + v3) (hp_n h q_7) = true then
  some ((hp_l h q_7 (((v2 * (13 : Int32)) + v3)).toNatClampNeg), h)
  else none)
  else
  ((hp_r h v0 2).bind fun q_9 =>
  if hp_in ((v2 * (13 : Int32)) + v3) (hp_n h q_9) = true then
  some ((hp_l h q_9 (((v2 * (13 : Int32)) + v3)).toNatClampNeg), h)
  else none))
noncomputable def f_Ch_waysSaid (v0 : Nat) (v1 : Nat) (v2 : Int32) (v3 : Int32) (v4 : Int32) (h : HP) : Option (Int64 × HP) :=
  (if v2 < 0 then
  (some ((0 : Int64), h))
  else
  ((if (4 : Int32) ≤ v2 then
  (some ((0 : Int64), h))
  else
  ((if v3 < 0 then
  (some ((0 : Int64), h))
  else
  ((if v3 < (13 : Int32) then
  ((hp_r h v0 0).bind fun q_1 =>
  if hp_in v2 (hp_n h q_1) = true then
  (if (hp_i h q_1 (v2).toNatClampNeg) = 0 then
  ((hp_r h v0 0).bind fun q_3 =>
  if hp_in v2 (hp_n h q_3) = true then
  xx_l (hp_si h q_3 (v2).toNatClampNeg (vp_nar .boolean (1 : Int32))) fun h_5 =>
  (f_Ch_countWays v0 v1 v2 h_5).bind fun x_6 =>
  f_Ch_waysSaid_43 v0 v2 v3 v4 x_6
  else none)
  else
  (f_Ch_waysSaid_43 v0 v2 v3 v4 h))
  else none)
  else
  (some ((0 : Int64), h)))))))))
/-! LampYard$Chance.power(II)J -/
noncomputable def f_Ch_power_5b (v0 : Int32) (v1 : Int32) (v2 : Int64) (v4 : Int32) (h : HP) : Option ((Int64 × Int32 × HP) ⊕ (Int64 × HP)) :=
  (if v1 ≤ v4 then
  (some (.inr (v2, h)))
  else
  (xx_l (v2 * (v0).toInt64) fun v2_1 =>
  xx_l (v4 + (1 : Int32)) fun v4_2 =>
  some (.inl (v2_1, v4_2, h))))
noncomputable def f_Ch_power_5 (v0 : Int32) (v1 : Int32) (v2 : Int64) (v4 : Int32) (h : HP) : Option (Int64 × HP) :=
  xx_lp (fun s : (Int64 × Int32 × HP) => f_Ch_power_5b v0 v1 s.1 s.2.1 s.2.2) (v2, v4, h)
noncomputable def f_Ch_power (v0 : Int32) (v1 : Int32) (h : HP) : Option (Int64 × HP) :=
  f_Ch_power_5 v0 v1 (1 : Int64) (0 : Int32) h
/-! LampYard$Chance.partOf(JJI)J -/
noncomputable def f_Ch_partOf_44 (v0 : Int64) (v2 : Int64) (v4 : Int32) (v5 : Int64) (h : HP) : Option (Int64 × HP) :=
  (if (lg_cmp v5 (0 : Int64)) = 0 then
  (some ((0 : Int64), h))
  else
  ((if v4 = 0 then
  (if ¬ (v5 = 0) then
  some ((v0 / v5), h)
  else none)
  else
  (if ¬ (v5 = 0) then
  some ((v2 / v5), h)
  else none))))
noncomputable def f_Ch_partOf_9b (v0 : Int64) (v2 : Int64) (v4 : Int32) (v5 : Int64) (v7 : Int64) (v9 : Int32) (h : HP) : Option ((Int64 × Int64 × Int32 × HP) ⊕ (Int64 × HP)) :=
  (if (100 : Int32) ≤ v9 then
  ((f_Ch_partOf_44 v0 v2 v4 v5 h).map .inr)
  else
  ((if (lg_cmp v7 (0 : Int64)) = 0 then
  ((f_Ch_partOf_44 v0 v2 v4 v5 h).map .inr)
  else
  (if ¬ (v7 = 0) then
  xx_l (v5 - v5 / v7 * v7) fun v7_4 =>
  xx_l (v9 + (1 : Int32)) fun v9_5 =>
  some (.inl (v7, v7_4, v9_5, h))
  else none))))
noncomputable def f_Ch_partOf_9 (v0 : Int64) (v2 : Int64) (v4 : Int32) (v5 : Int64) (v7 : Int64) (v9 : Int32) (h : HP) : Option (Int64 × HP) :=
  xx_lp (fun s : (Int64 × Int64 × Int32 × HP) => f_Ch_partOf_9b v0 v2 v4 s.1 s.2.1 s.2.2.1 s.2.2.2) (v5, v7, v9, h)
noncomputable def f_Ch_partOf (v0 : Int64) (v2 : Int64) (v4 : Int32) (h : HP) : Option (Int64 × HP) :=
  f_Ch_partOf_9 v0 v2 v4 v2 v0 (0 : Int32) h
/-! LampYard.said(IIII)J -/
noncomputable def f_X_said_91 (v0 : Nat) (v1 : Int32) (v2 : Int32) (v3 : Int32) (v4 : Int32) (v5 : Nat) (h : HP) : Option (Int64 × HP) :=
  (hp_r h v0 10).bind fun q_9 =>
  (f_Ch_waysSaid q_9 v5 v1 v2 v3 h).bind fun x_10 =>
  (hp_r x_10.2 v0 3).bind fun q_11 =>
  (f_Ch_power (hp_i x_10.2 q_11 5) v2 x_10.2).bind fun x_12 =>
  (f_Ch_partOf x_10.1 x_12.1 v4 x_12.2).bind fun x_13 =>
  some (x_13.1, x_13.2)
noncomputable def f_X_said (v0 : Nat) (v1 : Int32) (v2 : Int32) (v3 : Int32) (v4 : Int32) (h : HP) : Option (Int64 × HP) :=
  (hp_r h v0 3).bind fun q_1 =>
  (f_Pl_isStart q_1 v1 h).bind fun x_2 =>
  (if x_2.1 = 0 then
  (some ((-1 : Int64), x_2.2))
  else
  ((if v2 < 0 then
  (some ((-1 : Int64), x_2.2))
  else
  ((if (12 : Int32) < v2 then
  (some ((-1 : Int64), x_2.2))
  else
  ((if v3 < 0 then
  (some ((-1 : Int64), x_2.2))
  else
  ((if (1 : Int32) < v3 then
  (some ((-1 : Int64), x_2.2))
  else
  ((if v4 < 0 then
  (some ((-1 : Int64), x_2.2))
  else
  ((if (1 : Int32) < v4 then
  (some ((-1 : Int64), x_2.2))
  else
  ((hp_r x_2.2 v0 3).bind fun q_3 =>
  (if (hp_i x_2.2 q_3 5) = 0 then
  (some ((-1 : Int64), x_2.2))
  else
  ((f_X_surveyOfPlan v0 x_2.2).bind fun x_4 =>
  (if (hp_i x_4.2 x_4.1 5) = 0 then
  ((if hp_r x_4.2 v0 10 = none then
  (xx_l (hp_z x_4.2) fun q_5 => xx_l (hp_nw x_4.2 0 0 (ly_nf 0)) fun h_6 =>
  (f_Ch_new q_5 h_6).bind fun x_7 =>
  xx_l (hp_sr x_7 v0 10 (some q_5)) fun h_8 =>
  f_X_said_91 v0 v1 v2 v3 v4 x_4.1 h_8)
  else
  (f_X_said_91 v0 v1 v2 v3 v4 x_4.1 x_4.2)))
  else
  (some ((-2 : Int64), x_4.2)))))))))))))))))))
/-! LampYard$Chance.waysAllBeen(II)J -/
noncomputable def f_Ch_waysAllBeen_43 (v0 : Int32) (v1 : Int32) (v4 : Int64) (v6 : Int32) (s0 : Int64) (s1 : Int64) (h : HP) : Option ((Int64 × Int64 × Int32 × HP) ⊕ (Int64 × HP)) :=
  xx_l (s1 + s0) fun v2_3 =>
  if ¬ (((v6 + (1 : Int32))).toInt64 = 0) then
  xx_l ((v4 * ((v0 - v6)).toInt64) / ((v6 + (1 : Int32))).toInt64) fun v4_5 =>
  xx_l (v6 + (1 : Int32)) fun v6_6 =>
  some (.inl (v2_3, v4_5, v6_6, h))
  else none
noncomputable def f_Ch_waysAllBeen_8b (v0 : Int32) (v1 : Int32) (v2 : Int64) (v4 : Int64) (v6 : Int32) (h : HP) : Option ((Int64 × Int64 × Int32 × HP) ⊕ (Int64 × HP)) :=
  (if v0 < v6 then
  (some (.inr (v2, h)))
  else
  ((f_Ch_power (v0 - v6) v1 h).bind fun x_1 =>
  xx_l (v4 * x_1.1) fun v7_2 =>
  (if (v6 - v6 / (2 : Int32) * (2 : Int32)) = 0 then
  (f_Ch_waysAllBeen_43 v0 v1 v4 v6 v7_2 v2 x_1.2)
  else
  (f_Ch_waysAllBeen_43 v0 v1 v4 v6 (-v7_2) v2 x_1.2))))
noncomputable def f_Ch_waysAllBeen_8 (v0 : Int32) (v1 : Int32) (v2 : Int64) (v4 : Int64) (v6 : Int32) (h : HP) : Option (Int64 × HP) :=
  xx_lp (fun s : (Int64 × Int64 × Int32 × HP) => f_Ch_waysAllBeen_8b v0 v1 s.1 s.2.1 s.2.2.1 s.2.2.2) (v2, v4, v6, h)
noncomputable def f_Ch_waysAllBeen (v0 : Int32) (v1 : Int32) (h : HP) : Option (Int64 × HP) :=
  f_Ch_waysAllBeen_8 v0 v1 (0 : Int64) (1 : Int64) (0 : Int32) h
/-! LampYard.all(III)J -/
noncomputable def f_X_all (v0 : Nat) (v1 : Int32) (v2 : Int32) (v3 : Int32) (h : HP) : Option (Int64 × HP) :=
  (if v1 < (1 : Int32) then
  (some ((-1 : Int64), h))
  else
  ((if (6 : Int32) < v1 then
  (some ((-1 : Int64), h))
  else
  ((if v2 < 0 then
  (some ((-1 : Int64), h))
  else
  ((if (20 : Int32) < v2 then
  (some ((-1 : Int64), h))
  else
  ((if v3 < 0 then
  (some ((-1 : Int64), h))
  else
  ((if v3 ≤ (1 : Int32) then
  ((f_Ch_waysAllBeen v1 v2 h).bind fun x_1 =>
  (f_Ch_power v1 v2 x_1.2).bind fun x_2 =>
  (f_Ch_partOf x_1.1 x_2.1 v3 x_2.2).bind fun x_3 =>
  some (x_3.1, x_3.2))
  else
  (some ((-1 : Int64), h)))))))))))))
/-! LampYard$Chance.daysEnough(II)I -/
noncomputable def f_Ch_daysEnough_2b (v0 : Int32) (v1 : Int32) (v2 : Int32) (h : HP) : Option ((Int32 × HP) ⊕ (Int32 × HP)) :=
  (if (20 : Int32) < v2 then
  (some (.inr ((-1 : Int32), h)))
  else
  ((f_Ch_power v0 v2 h).bind fun x_1 =>
  (f_Ch_waysAllBeen v0 v2 x_1.2).bind fun x_2 =>
  (if 0 < (lg_cmp ((x_1.1 - x_2.1) * (1000 : Int64)) ((v1).toInt64 * x_1.1)) then
  (xx_l (v2 + (1 : Int32)) fun v2_3 =>
  some (.inl (v2_3, x_2.2)))
  else
  (some (.inr (v2, x_2.2))))))
noncomputable def f_Ch_daysEnough_2 (v0 : Int32) (v1 : Int32) (v2 : Int32) (h : HP) : Option (Int32 × HP) :=
  xx_lp (fun s : (Int32 × HP) => f_Ch_daysEnough_2b v0 v1 s.1 s.2) (v2, h)
noncomputable def f_Ch_daysEnough (v0 : Int32) (v1 : Int32) (h : HP) : Option (Int32 × HP) :=
  f_Ch_daysEnough_2 v0 v1 (0 : Int32) h
/-! LampYard.guess(II)I -/
noncomputable def f_X_guess (v0 : Nat) (v1 : Int32) (v2 : Int32) (h : HP) : Option (Int32 × HP) :=
  (if v1 < (1 : Int32) then
  (some ((-1 : Int32), h))
  else
  ((if (6 : Int32) < v1 then
  (some ((-1 : Int32), h))
  else
  ((if v2 < 0 then
  (some ((-1 : Int32), h))
  else
  ((if v2 ≤ (1000 : Int32) then
  ((f_Ch_daysEnough v1 v2 h).bind fun x_1 =>
  some (x_1.1, x_1.2))
  else
  (some ((-1 : Int32), h)))))))))
/-! LampYard$Chance.sixtyMeans(I)J -/
noncomputable def f_Ch_sixtyMeans_4b (v0 : Int32) (v1 : Int64) (v3 : Int32) (h : HP) : Option ((Int64 × Int32 × HP) ⊕ (Int64 × HP)) :=
  (if v0 < v3 then
  (some (.inr (v1, h)))
  else
  (if ¬ ((v3).toInt64 = 0) then
  xx_l (v1 + ((v0).toInt64 * ((60 : Int64) / (v3).toInt64))) fun v1_2 =>
  xx_l (v3 + (1 : Int32)) fun v3_3 =>
  some (.inl (v1_2, v3_3, h))
  else none))
noncomputable def f_Ch_sixtyMeans_4 (v0 : Int32) (v1 : Int64) (v3 : Int32) (h : HP) : Option (Int64 × HP) :=
  xx_lp (fun s : (Int64 × Int32 × HP) => f_Ch_sixtyMeans_4b v0 s.1 s.2.1 s.2.2) (v1, v3, h)
noncomputable def f_Ch_sixtyMeans (v0 : Int32) (h : HP) : Option (Int64 × HP) :=
  f_Ch_sixtyMeans_4 v0 (0 : Int64) (1 : Int32) h
/-! LampYard.mean(II)J -/
noncomputable def f_X_mean (v0 : Nat) (v1 : Int32) (v2 : Int32) (h : HP) : Option (Int64 × HP) :=
  (if v1 < (1 : Int32) then
  (some ((-1 : Int64), h))
  else
  ((if (6 : Int32) < v1 then
  (some ((-1 : Int64), h))
  else
  ((if v2 < 0 then
  (some ((-1 : Int64), h))
  else
  ((if v2 ≤ (1 : Int32) then
  ((f_Ch_sixtyMeans v1 h).bind fun x_1 =>
  (f_Ch_partOf x_1.1 (60 : Int64) v2 x_1.2).bind fun x_2 =>
  some (x_2.1, x_2.2))
  else
  (some ((-1 : Int64), h)))))))))
/-! LampYard.counter(IIII)I -/
noncomputable def f_X_counter_67 (v4 : Int32) (s0 : Int32) (h : HP) : Option (Int32 × HP) :=
  (if v4 = (1 : Int32) then
  (some (s0, h))
  else
  (some ((-1 : Int32), h)))
noncomputable def f_X_counter (v0 : Nat) (v1 : Int32) (v2 : Int32) (v3 : Int32) (v4 : Int32) (h : HP) : Option (Int32 × HP) :=
  (if v1 < (2 : Int32) then
  (some ((-1 : Int32), h))
  else
  ((if (4 : Int32) < v1 then
  (some ((-1 : Int32), h))
  else
  ((if v2 < (1 : Int32) then
  (some ((-1 : Int32), h))
  else
  ((if (3 : Int32) < v2 then
  (some ((-1 : Int32), h))
  else
  ((if v3 < 0 then
  (some ((-1 : Int32), h))
  else
  ((if v3 ≤ (1 : Int32) then
  (xx_l ((((v1 - (2 : Int32)) * v2) + ((1 : Int32) - v3)) + (1 : Int32)) fun v5_1 =>
  (if v4 = 0 then
  (some (v5_1, h))
  else
  ((if ((v1 - (1 : Int32)) * v2) < v5_1 then
  (f_X_counter_67 v4 (0 : Int32) h)
  else
  (f_X_counter_67 v4 (1 : Int32) h)))))
  else
  (some ((-1 : Int32), h)))))))))))))
/-! LampYard$Course.unevenness(I)I -/
noncomputable def f_Co_unevenness_17b (v0 : Nat) (v1 : Int32) (v2 : Int32) (v3 : Int32) (v4 : Int32) (h : HP) : Option ((Int32 × Int32 × Int32 × HP) ⊕ (Int32 × HP)) :=
  (if v1 ≤ v4 then
  (some (.inr ((v3 - v2), h)))
  else
  ((if (6 : Int32) ≤ v4 then
  (some (.inr ((v3 - v2), h)))
  else
  ((hp_r h v0 4).bind fun q_7 =>
  if hp_in v4 (hp_n h q_7) = true then
  xx_l (if (hp_i h q_7 (v4).toNatClampNeg) < v2 then (hp_i h q_7 (v4).toNatClampNeg) else v2) fun v2_9 =>
  (hp_r h v0 4).bind fun q_10 =>
  if hp_in v4 (hp_n h q_10) = true then
  xx_l (if v3 < (hp_i h q_10 (v4).toNatClampNeg) then (hp_i h q_10 (v4).toNatClampNeg) else v3) fun v3_12 =>
  xx_l (v4 + (1 : Int32)) fun v4_13 =>
  some (.inl (v2_9, v3_12, v4_13, h))
  else none
  else none))))
noncomputable def f_Co_unevenness_17 (v0 : Nat) (v1 : Int32) (v2 : Int32) (v3 : Int32) (v4 : Int32) (h : HP) : Option (Int32 × HP) :=
  xx_lp (fun s : (Int32 × Int32 × Int32 × HP) => f_Co_unevenness_17b v0 v1 s.1 s.2.1 s.2.2.1 s.2.2.2) (v2, v3, v4, h)
noncomputable def f_Co_unevenness (v0 : Nat) (v1 : Int32) (h : HP) : Option (Int32 × HP) :=
  (hp_r h v0 4).bind fun q_1 =>
  if hp_in (0 : Int32) (hp_n h q_1) = true then
  xx_l (hp_i h q_1 ((0 : Int32)).toNatClampNeg) fun v2_3 =>
  (hp_r h v0 4).bind fun q_4 =>
  if hp_in (0 : Int32) (hp_n h q_4) = true then
  xx_l (hp_i h q_4 ((0 : Int32)).toNatClampNeg) fun v3_6 =>
  f_Co_unevenness_17 v0 v1 v2_3 v3_6 (1 : Int32) h
  else none
  else none
/-! LampYard.fair()I -/
noncomputable def f_X_fair (v0 : Nat) (h : HP) : Option (Int32 × HP) :=
  (hp_r h v0 3).bind fun q_1 =>
  (if (hp_i h q_1 5) = 0 then
  (some ((-1 : Int32), h))
  else
  ((hp_r h v0 5).bind fun q_2 =>
  (hp_r h v0 3).bind fun q_3 =>
  (f_Co_unevenness q_2 (hp_i h q_3 5) h).bind fun x_4 =>
  some (x_4.1, x_4.2)))
/-! LampYard$Logs.tell(II)I -/
noncomputable def f_Lo_tell (v0 : Nat) (v1 : Int32) (v2 : Int32) (h : HP) : Option (Int32 × HP) :=
  (if v1 < 0 then
  (some ((-1 : Int32), h))
  else
  ((if (100 : Int32) ≤ v1 then
  (some ((-1 : Int32), h))
  else
  ((if (hp_i h v0 0) < (60 : Int32) then
  ((hp_r h v0 2).bind fun q_1 =>
  if hp_in (hp_i h v0 0) (hp_n h q_1) = true then
  xx_l (hp_si h q_1 ((hp_i h v0 0)).toNatClampNeg v1) fun h_3 =>
  (hp_r h_3 v0 3).bind fun q_4 =>
  if hp_in (hp_i h_3 v0 0) (hp_n h_3 q_4) = true then
  xx_l (hp_si h_3 q_4 ((hp_i h_3 v0 0)).toNatClampNeg v2) fun h_6 =>
  (hp_r h_6 v0 4).bind fun q_7 =>
  if hp_in (hp_i h_6 v0 0) (hp_n h_6 q_7) = true then
  xx_l (hp_si h_6 q_7 ((hp_i h_6 v0 0)).toNatClampNeg (hp_i h_6 v0 1)) fun h_9 =>
  (hp_r h_9 v0 5).bind fun q_10 =>
  if hp_in (hp_i h_9 v0 0) (hp_n h_9 q_10) = true then
  xx_l (hp_si h_9 q_10 ((hp_i h_9 v0 0)).toNatClampNeg (-1 : Int32)) fun h_12 =>
  xx_l (hp_si h_12 v0 0 ((hp_i h_12 v0 0) + (1 : Int32))) fun h_13 =>
  some (((hp_i h_13 v0 0) - (1 : Int32)), h_13)
  else none
  else none
  else none
  else none)
  else
  (some ((-1 : Int32), h)))))))
/-! LampYard.log(II)I -/
noncomputable def f_X_log (v0 : Nat) (v1 : Int32) (v2 : Int32) (h : HP) : Option (Int32 × HP) :=
  (hp_r h v0 3).bind fun q_1 =>
  (f_Pl_hasMan q_1 v2 h).bind fun x_2 =>
  (if x_2.1 = 0 then
  (some ((-1 : Int32), x_2.2))
  else
  ((hp_r x_2.2 v0 7).bind fun q_3 =>
  (f_Lo_tell q_3 v1 v2 x_2.2).bind fun x_4 =>
  some (x_4.1, x_4.2)))
/-! LampYard$Logs.takeBack(I)Z -/
noncomputable def f_Lo_takeBack (v0 : Nat) (v1 : Int32) (h : HP) : Option (Int32 × HP) :=
  (if v1 < 0 then
  (some ((0 : Int32), h))
  else
  ((if (hp_i h v0 0) ≤ v1 then
  (some ((0 : Int32), h))
  else
  ((hp_r h v0 5).bind fun q_1 =>
  if hp_in v1 (hp_n h q_1) = true then
  (if (hp_i h q_1 (v1).toNatClampNeg) = (-1 : Int32) then
  ((hp_r h v0 5).bind fun q_3 =>
  if hp_in v1 (hp_n h q_3) = true then
  xx_l (hp_si h q_3 (v1).toNatClampNeg (hp_i h v0 1)) fun h_5 =>
  some ((1 : Int32), h_5)
  else none)
  else
  (some ((0 : Int32), h)))
  else none))))
/-! LampYard.untell(I)Z -/
noncomputable def f_X_untell (v0 : Nat) (v1 : Int32) (h : HP) : Option (Int32 × HP) :=
  (hp_r h v0 7).bind fun q_1 =>
  (f_Lo_takeBack q_1 v1 h).bind fun x_2 =>
  if hp_z01 x_2.1 = true then some (x_2.1, x_2.2) else none
/-! LampYard$Logs.goOn(I)I -/
noncomputable def f_Lo_goOn (v0 : Nat) (v1 : Int32) (h : HP) : Option (Int32 × HP) :=
  (if v1 < 0 then
  (some ((-1 : Int32), h))
  else
  ((if (1000 : Int32) < v1 then
  (some ((-1 : Int32), h))
  else
  ((if ((hp_i h v0 1) + v1) ≤ (100000 : Int32) then
  (xx_l (hp_si h v0 1 ((hp_i h v0 1) + v1)) fun h_1 =>
  some ((hp_i h_1 v0 1), h_1))
  else
  (some ((-1 : Int32), h)))))))
/-! LampYard.later(I)I -/
noncomputable def f_X_later (v0 : Nat) (v1 : Int32) (h : HP) : Option (Int32 × HP) :=
  (hp_r h v0 7).bind fun q_1 =>
  (f_Lo_goOn q_1 v1 h).bind fun x_2 =>
  some (x_2.1, x_2.2)
/-! LampYard$Logs.gather(I)V -/
noncomputable def f_Lo_gather_105 (v0 : Nat) (v1 : Int32) (v2 : Int32) (h : HP) : Option ((Int32 × HP) ⊕ HP) :=
  xx_l (v2 + (1 : Int32)) fun v2_9 =>
  some (.inl (v2_9, h))
noncomputable def f_Lo_gather_51 (v0 : Nat) (v1 : Int32) (v2 : Int32) (s0 : Int32) (h : HP) : Option ((Int32 × HP) ⊕ HP) :=
  (hp_r h v0 4).bind fun q_7 =>
  if hp_in v2 (hp_n h q_7) = true then
  (if v1 < (hp_i h q_7 (v2).toNatClampNeg) then
  (f_Lo_gather_105 v0 v1 v2 h)
  else
  ((if s0 = 0 then
  ((hp_r h v0 6).bind fun q_10 =>
  (hp_r h v0 2).bind fun q_11 =>
  if hp_in v2 (hp_n h q_11) = true then
  (hp_r h v0 3).bind fun q_13 =>
  if hp_in v2 (hp_n h q_13) = true then
  if hp_in (hp_i h q_11 (v2).toNatClampNeg) (hp_n h q_10) = true then
  xx_l (hp_si h q_10 ((hp_i h q_11 (v2).toNatClampNeg)).toNatClampNeg (hp_i h q_13 (v2).toNatClampNeg)) fun h_16 =>
  (hp_r h_16 v0 7).bind fun q_17 =>
  (hp_r h_16 v0 2).bind fun q_18 =>
  if hp_in v2 (hp_n h_16 q_18) = true then
  if hp_in (hp_i h_16 q_18 (v2).toNatClampNeg) (hp_n h_16 q_17) = true then
  (hp_r h_16 v0 3).bind fun q_21 =>
  if hp_in v2 (hp_n h_16 q_21) = true then
  if hp_in (hp_i h_16 q_18 (v2).toNatClampNeg) (hp_n h_16 q_17) = true then
  xx_l (hp_si h_16 q_17 ((hp_i h_16 q_18 (v2).toNatClampNeg)).toNatClampNeg ((hp_i h_16 q_17 ((hp_i h_16 q_18 (v2).toNatClampNeg)).toNatClampNeg) ||| ((1 : Int32) <<< ((hp_i h_16 q_21 (v2).toNatClampNeg) &&& 31)))) fun h_24 =>
  f_Lo_gather_105 v0 v1 v2 h_24
  else none
  else none
  else none
  else none
  else none
  else none
  else none)
  else
  (f_Lo_gather_105 v0 v1 v2 h))))
  else none
noncomputable def f_Lo_gather_50 (v0 : Nat) (v1 : Int32) (v2 : Int32) (h : HP) : Option ((Int32 × HP) ⊕ HP) :=
  f_Lo_gather_51 v0 v1 v2 (0 : Int32) h
noncomputable def f_Lo_gather_18b (v0 : Nat) (v1 : Int32) (v2 : Int32) (h : HP) : Option ((Int32 × HP) ⊕ HP) :=
  (if (hp_i h v0 0) ≤ v2 then
  (some (.inr h))
  else
  ((hp_r h v0 5).bind fun q_5 =>
  if hp_in v2 (hp_n h q_5) = true then
  (if (hp_i h q_5 (v2).toNatClampNeg) = (-1 : Int32) then
  (f_Lo_gather_50 v0 v1 v2 h)
  else
  ((hp_r h v0 5).bind fun q_25 =>
  if hp_in v2 (hp_n h q_25) = true then
  (if v1 < (hp_i h q_25 (v2).toNatClampNeg) then
  (f_Lo_gather_50 v0 v1 v2 h)
  else
  (f_Lo_gather_51 v0 v1 v2 (1 : Int32) h))
  else none))
  else none))
noncomputable def f_Lo_gather_18 (v0 : Nat) (v1 : Int32) (v2 : Int32) (h : HP) : Option HP :=
  xx_lp (fun s : (Int32 × HP) => f_Lo_gather_18b v0 v1 s.1 s.2) (v2, h)
noncomputable def f_Lo_gather (v0 : Nat) (v1 : Int32) (h : HP) : Option HP :=
  (hp_r h v0 6).bind fun q_1 =>
  (f_Ar_fillI q_1 (-1 : Int32) h).bind fun x_2 =>
  (hp_r x_2 v0 7).bind fun q_3 =>
  (f_Ar_fillI q_3 (0 : Int32) x_2).bind fun x_4 =>
  f_Lo_gather_18 v0 v1 (0 : Int32) x_4
/-! LampYard$Logs.dayByWhichAll(II)I -/
noncomputable def f_Lo_dayByWhichAll_53 (v0 : Nat) (v3 : Int32) (v4 : Int32) (v5 : Int32) (h : HP) : Option ((Int32 × Int32 × HP) ⊕ (Int32 × HP)) :=
  (if v4 = v3 then
  (some (.inr (v5, h)))
  else
  (xx_l (v5 + (1 : Int32)) fun v5_5 =>
  some (.inl (v4, v5_5, h))))
noncomputable def f_Lo_dayByWhichAll_17b (v0 : Nat) (v3 : Int32) (v4 : Int32) (v5 : Int32) (h : HP) : Option ((Int32 × Int32 × HP) ⊕ (Int32 × HP)) :=
  (if (100 : Int32) ≤ v5 then
  (some (.inr ((-1 : Int32), h)))
  else
  ((if v3 = 0 then
  (some (.inr ((-1 : Int32), h)))
  else
  ((hp_r h v0 6).bind fun q_3 =>
  if hp_in v5 (hp_n h q_3) = true then
  (if (hp_i h q_3 (v5).toNatClampNeg) = (-1 : Int32) then
  (f_Lo_dayByWhichAll_53 v0 v3 v4 v5 h)
  else
  ((hp_r h v0 6).bind fun q_6 =>
  if hp_in v5 (hp_n h q_6) = true then
  xx_l (v4 ||| ((1 : Int32) <<< ((hp_i h q_6 (v5).toNatClampNeg) &&& 31))) fun v4_8 =>
  f_Lo_dayByWhichAll_53 v0 v3 v4_8 v5 h
  else none))
  else none))))
noncomputable def f_Lo_dayByWhichAll_17 (v0 : Nat) (v3 : Int32) (v4 : Int32) (v5 : Int32) (h : HP) : Option (Int32 × HP) :=
  xx_lp (fun s : (Int32 × Int32 × HP) => f_Lo_dayByWhichAll_17b v0 v3 s.1 s.2.1 s.2.2) (v4, v5, h)
noncomputable def f_Lo_dayByWhichAll (v0 : Nat) (v1 : Int32) (v2 : Int32) (h : HP) : Option (Int32 × HP) :=
  (f_Lo_gather v0 v2 h).bind fun x_1 =>
  xx_l (((1 : Int32) <<< (v1 &&& 31)) - (1 : Int32)) fun v3_2 =>
  f_Lo_dayByWhichAll_17 v0 v3_2 (0 : Int32) (0 : Int32) x_1
/-! java/lang/Integer.bitCount(I)I -/
noncomputable def f_In_bitCount (v0 : Int32) (h : HP) : Option (Int32 × HP) :=
  xx_l (v0 - (((v0).toUInt32 >>> (((1 : Int32)).toUInt32 &&& Int32.toUInt32 31)).toInt32 &&& (1431655765 : Int32))) fun v0_1 =>
  xx_l ((v0_1 &&& (858993459 : Int32)) + (((v0_1).toUInt32 >>> (((2 : Int32)).toUInt32 &&& Int32.toUInt32 31)).toInt32 &&& (858993459 : Int32))) fun v0_2 =>
  xx_l ((v0_2 + ((v0_2).toUInt32 >>> (((4 : Int32)).toUInt32 &&& Int32.toUInt32 31)).toInt32) &&& (252645135 : Int32)) fun v0_3 =>
  xx_l (v0_3 + ((v0_3).toUInt32 >>> (((8 : Int32)).toUInt32 &&& Int32.toUInt32 31)).toInt32) fun v0_4 =>
  xx_l (v0_4 + ((v0_4).toUInt32 >>> (((16 : Int32)).toUInt32 &&& Int32.toUInt32 31)).toInt32) fun v0_5 =>
  some ((v0_5 &&& (63 : Int32)), h)
/-! LampYard$Logs.clashes(I)I -/
noncomputable def f_Lo_clashes_31 (v0 : Nat) (v2 : Int32) (v3 : Int32) (h : HP) : Option ((Int32 × Int32 × HP) ⊕ (Int32 × HP)) :=
  xx_l (v3 + (1 : Int32)) fun v3_5 =>
  some (.inl (v2, v3_5, h))
noncomputable def f_Lo_clashes_9b (v0 : Nat) (v2 : Int32) (v3 : Int32) (h : HP) : Option ((Int32 × Int32 × HP) ⊕ (Int32 × HP)) :=
  (if (100 : Int32) ≤ v3 then
  (some (.inr (v2, h)))
  else
  ((hp_r h v0 7).bind fun q_2 =>
  if hp_in v3 (hp_n h q_2) = true then
  (f_In_bitCount (hp_i h q_2 (v3).toNatClampNeg) h).bind fun x_4 =>
  (if x_4.1 ≤ (1 : Int32) then
  (f_Lo_clashes_31 v0 v2 v3 x_4.2)
  else
  (xx_l (v2 + (1 : Int32)) fun v2_6 =>
  f_Lo_clashes_31 v0 v2_6 v3 x_4.2))
  else none))
noncomputable def f_Lo_clashes_9 (v0 : Nat) (v2 : Int32) (v3 : Int32) (h : HP) : Option (Int32 × HP) :=
  xx_lp (fun s : (Int32 × Int32 × HP) => f_Lo_clashes_9b v0 s.1 s.2.1 s.2.2) (v2, v3, h)
noncomputable def f_Lo_clashes (v0 : Nat) (v1 : Int32) (h : HP) : Option (Int32 × HP) :=
  (f_Lo_gather v0 v1 h).bind fun x_1 =>
  f_Lo_clashes_9 v0 (0 : Int32) (0 : Int32) x_1
/-! LampYard.logged(II)I -/
noncomputable def f_X_logged (v0 : Nat) (v1 : Int32) (v2 : Int32) (h : HP) : Option (Int32 × HP) :=
  (if v1 = 0 then
  ((hp_r h v0 7).bind fun q_1 =>
  (hp_r h v0 3).bind fun q_2 =>
  (f_Lo_dayByWhichAll q_1 (hp_i h q_2 5) v2 h).bind fun x_3 =>
  some (x_3.1, x_3.2))
  else
  ((if v1 = (1 : Int32) then
  ((hp_r h v0 7).bind fun q_4 =>
  (f_Lo_clashes q_4 v2 h).bind fun x_5 =>
  some (x_5.1, x_5.2))
  else
  (some ((-1 : Int32), h)))))
/-! LampYard$Logs.latestOf(II)I -/
noncomputable def f_Lo_latestOf_31 (v0 : Nat) (v1 : Int32) (v3 : Int32) (v4 : Int32) (h : HP) : Option ((Int32 × Int32 × HP) ⊕ (Int32 × HP)) :=
  xx_l (v4 + (1 : Int32)) fun v4_4 =>
  some (.inl (v3, v4_4, h))
noncomputable def f_Lo_latestOf_10b (v0 : Nat) (v1 : Int32) (v3 : Int32) (v4 : Int32) (h : HP) : Option ((Int32 × Int32 × HP) ⊕ (Int32 × HP)) :=
  (if (100 : Int32) ≤ v4 then
  (some (.inr (v3, h)))
  else
  ((hp_r h v0 6).bind fun q_2 =>
  if hp_in v4 (hp_n h q_2) = true then
  (if (hp_i h q_2 (v4).toNatClampNeg) = v1 then
  (f_Lo_latestOf_31 v0 v1 v4 v4 h)
  else
  (f_Lo_latestOf_31 v0 v1 v3 v4 h))
  else none))
noncomputable def f_Lo_latestOf_10 (v0 : Nat) (v1 : Int32) (v3 : Int32) (v4 : Int32) (h : HP) : Option (Int32 × HP) :=
  xx_lp (fun s : (Int32 × Int32 × HP) => f_Lo_latestOf_10b v0 v1 s.1 s.2.1 s.2.2) (v3, v4, h)
noncomputable def f_Lo_latestOf (v0 : Nat) (v1 : Int32) (v2 : Int32) (h : HP) : Option (Int32 × HP) :=
  (f_Lo_gather v0 v2 h).bind fun x_1 =>
  f_Lo_latestOf_10 v0 v1 (-1 : Int32) (0 : Int32) x_1
/-! LampYard.last(II)I -/
noncomputable def f_X_last (v0 : Nat) (v1 : Int32) (v2 : Int32) (h : HP) : Option (Int32 × HP) :=
  (hp_r h v0 3).bind fun q_1 =>
  (f_Pl_hasMan q_1 v1 h).bind fun x_2 =>
  (if x_2.1 = 0 then
  (some ((-1 : Int32), x_2.2))
  else
  ((hp_r x_2.2 v0 7).bind fun q_3 =>
  (f_Lo_latestOf q_3 v1 v2 x_2.2).bind fun x_4 =>
  some (x_4.1, x_4.2)))
/-! LampYard$Logs.latestWithoutGap(I)I -/
noncomputable def f_Lo_latestWithoutGap_42 (v2 : Int32) (v3 : Int32) (h : HP) : Option (Int32 × HP) :=
  (if v3 = (v2 + (1 : Int32)) then
  (some (v2, h))
  else
  (some ((-1 : Int32), h)))
noncomputable def f_Lo_latestWithoutGap_36 (v0 : Nat) (v2 : Int32) (v3 : Int32) (v4 : Int32) (h : HP) : Option ((Int32 × Int32 × Int32 × HP) ⊕ (Int32 × HP)) :=
  xx_l (v4 + (1 : Int32)) fun v4_4 =>
  some (.inl (v2, v3, v4_4, h))
noncomputable def f_Lo_latestWithoutGap_12b (v0 : Nat) (v2 : Int32) (v3 : Int32) (v4 : Int32) (h : HP) : Option ((Int32 × Int32 × Int32 × HP) ⊕ (Int32 × HP)) :=
  (if (100 : Int32) ≤ v4 then
  ((f_Lo_latestWithoutGap_42 v2 v3 h).map .inr)
  else
  ((hp_r h v0 6).bind fun q_2 =>
  if hp_in v4 (hp_n h q_2) = true then
  (if (hp_i h q_2 (v4).toNatClampNeg) = (-1 : Int32) then
  (f_Lo_latestWithoutGap_36 v0 v2 v3 v4 h)
  else
  (xx_l (v3 + (1 : Int32)) fun v3_5 =>
  f_Lo_latestWithoutGap_36 v0 v4 v3_5 v4 h))
  else none))
noncomputable def f_Lo_latestWithoutGap_12 (v0 : Nat) (v2 : Int32) (v3 : Int32) (v4 : Int32) (h : HP) : Option (Int32 × HP) :=
  xx_lp (fun s : (Int32 × Int32 × Int32 × HP) => f_Lo_latestWithoutGap_12b v0 s.1 s.2.1 s.2.2.1 s.2.2.2) (v2, v3, v4, h)
noncomputable def f_Lo_latestWithoutGap (v0 : Nat) (v1 : Int32) (h : HP) : Option (Int32 × HP) :=
  (f_Lo_gather v0 v1 h).bind fun x_1 =>
  f_Lo_latestWithoutGap_12 v0 (-1 : Int32) (0 : Int32) (0 : Int32) x_1
/-! LampYard$Logs.agreement(LLampYard$Plan;II)I -/
noncomputable def f_Lo_agreement_73 (v1 : Nat) (v4 : Int32) (v5 : Int64) (v7 : Int32) (h : HP) : Option (Int32 × HP) :=
  (if v7 = v4 then
  ((f_Pl_haveAllBeen v1 v5 h).bind fun x_10 =>
  (if x_10.1 = 0 then
  (some ((0 : Int32), x_10.2))
  else
  (some ((1 : Int32), x_10.2))))
  else
  (some ((0 : Int32), h)))
noncomputable def f_Lo_agreement_25b (v0 : Nat) (v1 : Nat) (v4 : Int32) (v5 : Int64) (v7 : Int32) (h : HP) : Option ((Int64 × Int32 × HP) ⊕ (Int32 × HP)) :=
  (if v4 < v7 then
  (some (.inr ((1 : Int32), h)))
  else
  ((hp_r h v0 6).bind fun q_3 =>
  if hp_in v7 (hp_n h q_3) = true then
  (f_Pl_outcome v1 v5 (hp_i h q_3 (v7).toNatClampNeg) h).bind fun x_5 =>
  (hp_r x_5.2 v0 6).bind fun q_6 =>
  if hp_in v7 (hp_n x_5.2 q_6) = true then
  (f_Pl_after v1 v5 (hp_i x_5.2 q_6 (v7).toNatClampNeg) x_5.1 x_5.2).bind fun x_8 =>
  (if (x_5.1 &&& (128 : Int32)) = 0 then
  (xx_l (v7 + (1 : Int32)) fun v7_9 =>
  some (.inl (x_8.1, v7_9, x_8.2)))
  else
  ((f_Lo_agreement_73 v1 v4 x_8.1 v7 x_8.2).map .inr))
  else none
  else none))
noncomputable def f_Lo_agreement_25 (v0 : Nat) (v1 : Nat) (v4 : Int32) (v5 : Int64) (v7 : Int32) (h : HP) : Option (Int32 × HP) :=
  xx_lp (fun s : (Int64 × Int32 × HP) => f_Lo_agreement_25b v0 v1 v4 s.1 s.2.1 s.2.2) (v5, v7, h)
noncomputable def f_Lo_agreement (v0 : Nat) (v1 : Nat) (v2 : Int32) (v3 : Int32) (h : HP) : Option (Int32 × HP) :=
  (f_Lo_latestWithoutGap v0 v3 h).bind fun x_1 =>
  (if x_1.1 = (-1 : Int32) then
  (some ((-1 : Int32), x_1.2))
  else
  ((f_Pl_firstState v1 v2 x_1.2).bind fun x_2 =>
  f_Lo_agreement_25 v0 v1 x_1.1 x_2.1 (0 : Int32) x_2.2))
/-! LampYard.agrees(II)I -/
noncomputable def f_X_agrees (v0 : Nat) (v1 : Int32) (v2 : Int32) (h : HP) : Option (Int32 × HP) :=
  (hp_r h v0 3).bind fun q_1 =>
  (f_Pl_canBeLamps q_1 v1 h).bind fun x_2 =>
  (if x_2.1 = 0 then
  (some ((-1 : Int32), x_2.2))
  else
  ((hp_r x_2.2 v0 7).bind fun q_3 =>
  (hp_r x_2.2 v0 3).bind fun q_4 =>
  (f_Lo_agreement q_3 q_4 v1 v2 x_2.2).bind fun x_5 =>
  some (x_5.1, x_5.2)))
/-! LampYard$Course.copy(LLampYard$Course;)V -/
noncomputable def f_Co_copy (v0 : Nat) (v1 : Nat) (h : HP) : Option HP :=
  xx_l (hp_sl h v0 0 (hp_l h v1 0)) fun h_1 =>
  xx_l (hp_si h_1 v0 1 (hp_i h_1 v1 1)) fun h_2 =>
  if hp_z01 (hp_i h_2 v1 2) = true then
  xx_l (hp_si h_2 v0 2 (hp_i h_2 v1 2)) fun h_3 =>
  (hp_r h_3 v1 4).bind fun q_5 =>
  (hp_r h_3 v0 4).bind fun q_6 =>
  if 6 ≤ hp_n h_3 q_5 ∧ 6 ≤ hp_n h_3 q_6 then
  xx_l (hp_cp h_3 q_5 0 q_6 0 6) fun h_7 =>
  some h_7
  else none
  else none
/-! LampYard.image(I)I -/
noncomputable def f_X_image (v0 : Nat) (v1 : Int32) (h : HP) : Option (Int32 × HP) :=
  (if v1 < 0 then
  (some ((-1 : Int32), h))
  else
  ((if v1 < (3 : Int32) then
  ((hp_r h v0 6).bind fun q_1 =>
  if hp_in v1 (hp_n h q_1) = true then
  (hp_r h q_1 (v1).toNatClampNeg).bind fun q_3 =>
  (hp_r h v0 5).bind fun q_4 =>
  (f_Co_copy q_3 q_4 h).bind fun x_5 =>
  (hp_r x_5 v0 6).bind fun q_6 =>
  if hp_in v1 (hp_n x_5 q_6) = true then
  (hp_r x_5 q_6 (v1).toNatClampNeg).bind fun q_8 =>
  xx_l (hp_si x_5 q_8 3 (1 : Int32)) fun h_9 =>
  (hp_r h_9 v0 5).bind fun q_10 =>
  some ((hp_i h_9 q_10 1), h_9)
  else none
  else none)
  else
  (some ((-1 : Int32), h)))))
/-! LampYard.back(I)I -/
noncomputable def f_X_back (v0 : Nat) (v1 : Int32) (h : HP) : Option (Int32 × HP) :=
  (if v1 < 0 then
  (some ((-1 : Int32), h))
  else
  ((if (3 : Int32) ≤ v1 then
  (some ((-1 : Int32), h))
  else
  ((hp_r h v0 6).bind fun q_1 =>
  if hp_in v1 (hp_n h q_1) = true then
  (hp_r h q_1 (v1).toNatClampNeg).bind fun q_3 =>
  (if (hp_i h q_3 3) = 0 then
  (some ((-1 : Int32), h))
  else
  ((hp_r h v0 5).bind fun q_4 =>
  (hp_r h v0 6).bind fun q_5 =>
  if hp_in v1 (hp_n h q_5) = true then
  (hp_r h q_5 (v1).toNatClampNeg).bind fun q_7 =>
  (f_Co_copy q_4 q_7 h).bind fun x_8 =>
  (hp_r x_8 v0 5).bind fun q_9 =>
  some ((hp_i x_8 q_9 1), x_8)
  else none))
  else none))))
/-! LampYard.about(I)I -/
noncomputable def f_X_about (v0 : Nat) (v1 : Int32) (h : HP) : Option (Int32 × HP) :=
  (if v1 = (0 : Int32) then
  ((hp_r h v0 3).bind fun q_1 =>
  some ((hp_i h q_1 5), h))
  else
  (if v1 = (1 : Int32) then
  ((hp_r h v0 3).bind fun q_3 =>
  some ((hp_i h q_3 4), h))
  else
  (if v1 = (2 : Int32) then
  ((hp_r h v0 3).bind fun q_5 =>
  some ((hp_i h q_5 6), h))
  else
  (if v1 = (3 : Int32) then
  ((hp_r h v0 5).bind fun q_7 =>
  some ((hp_i h q_7 1), h))
  else
  (if v1 = (4 : Int32) then
  ((hp_r h v0 5).bind fun q_9 =>
  (f_St_lampsOf (hp_l h q_9 0) h).bind fun x_10 =>
  some (x_10.1, x_10.2))
  else
  (if v1 = (5 : Int32) then
  ((hp_r h v0 5).bind fun q_12 =>
  (if (hp_i h q_12 2) = 0 then
  (some ((0 : Int32), h))
  else
  (some ((1 : Int32), h))))
  else
  (if v1 = (6 : Int32) then
  ((hp_r h v0 7).bind fun q_14 =>
  some ((hp_i h q_14 0), h))
  else
  (if v1 = (7 : Int32) then
  ((hp_r h v0 7).bind fun q_16 =>
  some ((hp_i h q_16 1), h))
  else
  (if v1 = (8 : Int32) then
  (some ((hp_i h v0 1), h))
  else
  (if v1 = (9 : Int32) then
  ((hp_r h v0 3).bind fun q_19 =>
  some ((hp_i h q_19 7), h))
  else
  (some ((-1 : Int32), h))))))))))))
/-! LampYardModel.plain()V -/
noncomputable def f_M_plain (v0 : Nat) (h : HP) : Option HP :=
  xx_l (hp_si h v0 28 (1 : Int32)) fun h_1 =>
  xx_l (hp_si h_1 v0 29 (1 : Int32)) fun h_2 =>
  xx_l (hp_si h_2 v0 30 (99 : Int32)) fun h_3 =>
  xx_l (hp_si h_3 v0 31 (0 : Int32)) fun h_4 =>
  some h_4
/-! LampYardModel.fresh(I)V -/
noncomputable def f_M_fresh_41 (v0 : Nat) (v2 : Int32) (s0 : Int32) (s1 : Int32) (s2 : Nat) (h : HP) : Option ((Int32 × HP) ⊕ HP) :=
  if hp_in s1 (hp_n h s2) = true then
  xx_l (hp_si h s2 (s1).toNatClampNeg s0) fun h_5 =>
  (hp_r h_5 v0 48).bind fun q_6 =>
  if hp_in v2 (hp_n h_5 q_6) = true then
  xx_l (hp_si h_5 q_6 (v2).toNatClampNeg (0 : Int32)) fun h_8 =>
  (hp_r h_8 v0 50).bind fun q_9 =>
  if hp_in v2 (hp_n h_8 q_9) = true then
  xx_l (hp_si h_8 q_9 (v2).toNatClampNeg (vp_nar .boolean (0 : Int32))) fun h_11 =>
  xx_l (v2 + (1 : Int32)) fun v2_12 =>
  some (.inl (v2_12, h_11))
  else none
  else none
  else none
noncomputable def f_M_fresh_12b (v0 : Nat) (v2 : Int32) (h : HP) : Option ((Int32 × HP) ⊕ HP) :=
  (if (6 : Int32) ≤ v2 then
  (some (.inr h))
  else
  ((hp_r h v0 47).bind fun q_3 =>
  (if (hp_i h v0 33) ≤ v2 then
  (f_M_fresh_41 v0 v2 (0 : Int32) v2 q_3 h)
  else
  ((hp_r h v0 15).bind fun q_13 =>
  if hp_in v2 (hp_n h q_13) = true then
  f_M_fresh_41 v0 v2 (hp_i h q_13 (v2).toNatClampNeg) v2 q_3 h
  else none))))
noncomputable def f_M_fresh_12 (v0 : Nat) (v2 : Int32) (h : HP) : Option HP :=
  xx_lp (fun s : (Int32 × HP) => f_M_fresh_12b v0 s.1 s.2) (v2, h)
noncomputable def f_M_fresh (v0 : Nat) (v1 : Int32) (h : HP) : Option HP :=
  xx_l (hp_si h v0 51 v1) fun h_1 =>
  xx_l (hp_si h_1 v0 52 (0 : Int32)) fun h_2 =>
  f_M_fresh_12 v0 (0 : Int32) h_2
/-! LampYardModel.beginWith(I)V -/
noncomputable def f_M_beginWith_17b (v0 : Nat) (v2 : Int32) (h : HP) : Option ((Int32 × HP) ⊕ HP) :=
  (if (6 : Int32) ≤ v2 then
  (some (.inr h))
  else
  ((hp_r h v0 49).bind fun q_4 =>
  if hp_in v2 (hp_n h q_4) = true then
  xx_l (hp_si h q_4 (v2).toNatClampNeg (0 : Int32)) fun h_6 =>
  xx_l (v2 + (1 : Int32)) fun v2_7 =>
  some (.inl (v2_7, h_6))
  else none))
noncomputable def f_M_beginWith_17 (v0 : Nat) (v2 : Int32) (h : HP) : Option HP :=
  xx_lp (fun s : (Int32 × HP) => f_M_beginWith_17b v0 s.1 s.2) (v2, h)
noncomputable def f_M_beginWith (v0 : Nat) (v1 : Int32) (h : HP) : Option HP :=
  (f_M_fresh v0 v1 h).bind fun x_1 =>
  xx_l (hp_si x_1 v0 55 (0 : Int32)) fun h_2 =>
  xx_l (hp_si h_2 v0 56 (0 : Int32)) fun h_3 =>
  f_M_beginWith_17 v0 (0 : Int32) h_3
/-! LampYardModel.<init>()V -/
noncomputable def f_M_new (v0 : Nat) (h : HP) : Option HP :=
  xx_l (hp_z h) fun q_1 => xx_l (hp_nw h 13 1400 1400) fun h_2 =>
  xx_l (hp_sr h_2 v0 0 (some q_1)) fun h_3 =>
  xx_l (hp_si h_3 v0 3 (-1 : Int32)) fun h_4 =>
  xx_l (hp_z h_4) fun q_5 => xx_l (hp_nw h_4 14 4 4) fun h_6 =>
  xx_l (hp_sr h_6 v0 10 (some q_5)) fun h_7 =>
  xx_l (hp_z h_7) fun q_8 => xx_l (hp_nw h_7 13 4 4) fun h_9 =>
  xx_l (hp_sr h_9 v0 11 (some q_8)) fun h_10 =>
  xx_l (hp_z h_10) fun q_11 => xx_l (hp_nw h_10 13 4 4) fun h_12 =>
  xx_l (hp_sr h_12 v0 12 (some q_11)) fun h_13 =>
  xx_l (hp_z h_13) fun q_14 => xx_l (hp_nw h_13 13 16 16) fun h_15 =>
  xx_l (hp_sr h_15 v0 13 (some q_14)) fun h_16 =>
  xx_l (hp_z h_16) fun q_17 => xx_l (hp_nw h_16 13 6 6) fun h_18 =>
  xx_l (hp_sr h_18 v0 14 (some q_17)) fun h_19 =>
  xx_l (hp_z h_19) fun q_20 => xx_l (hp_nw h_19 13 6 6) fun h_21 =>
  xx_l (hp_sr h_21 v0 15 (some q_20)) fun h_22 =>
  xx_l (hp_z h_22) fun q_23 => xx_l (hp_nw h_22 13 16 16) fun h_24 =>
  xx_l (hp_sr h_24 v0 16 (some q_23)) fun h_25 =>
  xx_l (hp_z h_25) fun q_26 => xx_l (hp_nw h_25 15 16 16) fun h_27 =>
  xx_l (hp_sr h_27 v0 17 (some q_26)) fun h_28 =>
  xx_l (hp_z h_28) fun q_29 => xx_l (hp_nw h_28 15 16 16) fun h_30 =>
  xx_l (hp_sr h_30 v0 18 (some q_29)) fun h_31 =>
  xx_l (hp_z h_31) fun q_32 => xx_l (hp_nw h_31 15 4 4) fun h_33 =>
  xx_l (hp_sr h_33 v0 19 (some q_32)) fun h_34 =>
  xx_l (hp_z h_34) fun q_35 => xx_l (hp_nw h_34 13 640 640) fun h_36 =>
  xx_l (hp_sr h_36 v0 36 (some q_35)) fun h_37 =>
  xx_l (hp_z h_37) fun q_38 => xx_l (hp_nw h_37 13 640 640) fun h_39 =>
  xx_l (hp_sr h_39 v0 37 (some q_38)) fun h_40 =>
  xx_l (hp_z h_40) fun q_41 => xx_l (hp_nw h_40 13 49 49) fun h_42 =>
  xx_l (hp_sr h_42 v0 38 (some q_41)) fun h_43 =>
  xx_l (hp_z h_43) fun q_44 => xx_l (hp_nw h_43 13 640 640) fun h_45 =>
  xx_l (hp_sr h_45 v0 39 (some q_44)) fun h_46 =>
  xx_l (hp_z h_46) fun q_47 => xx_l (hp_nw h_46 13 640 640) fun h_48 =>
  xx_l (hp_sr h_48 v0 40 (some q_47)) fun h_49 =>
  xx_l (hp_z h_49) fun q_50 => xx_l (hp_nw h_49 13 49 49) fun h_51 =>
  xx_l (hp_sr h_51 v0 41 (some q_50)) fun h_52 =>
  xx_l (hp_z h_52) fun q_53 => xx_l (hp_nw h_52 13 300 300) fun h_54 =>
  xx_l (hp_sr h_54 v0 42 (some q_53)) fun h_55 =>
  xx_l (hp_z h_55) fun q_56 => xx_l (hp_nw h_55 13 70 70) fun h_57 =>
  xx_l (hp_sr h_57 v0 43 (some q_56)) fun h_58 =>
  xx_l (hp_z h_58) fun q_59 => xx_l (hp_nw h_58 13 6 6) fun h_60 =>
  xx_l (hp_sr h_60 v0 47 (some q_59)) fun h_61 =>
  xx_l (hp_z h_61) fun q_62 => xx_l (hp_nw h_61 13 6 6) fun h_63 =>
  xx_l (hp_sr h_63 v0 48 (some q_62)) fun h_64 =>
  xx_l (hp_z h_64) fun q_65 => xx_l (hp_nw h_64 13 6 6) fun h_66 =>
  xx_l (hp_sr h_66 v0 49 (some q_65)) fun h_67 =>
  xx_l (hp_z h_67) fun q_68 => xx_l (hp_nw h_67 15 6 6) fun h_69 =>
  xx_l (hp_sr h_69 v0 50 (some q_68)) fun h_70 =>
  xx_l (hp_z h_70) fun q_71 => xx_l (hp_nw h_70 13 6 6) fun h_72 =>
  xx_l (hp_sr h_72 v0 57 (some q_71)) fun h_73 =>
  xx_l (hp_z h_73) fun q_74 => xx_l (hp_nw h_73 13 6 6) fun h_75 =>
  xx_l (hp_sr h_75 v0 58 (some q_74)) fun h_76 =>
  xx_l (hp_z h_76) fun q_77 => xx_l (hp_nw h_76 15 6 6) fun h_78 =>
  xx_l (hp_sr h_78 v0 59 (some q_77)) fun h_79 =>
  xx_l (hp_z h_79) fun q_80 => xx_l (hp_nw h_79 14 5001 5001) fun h_81 =>
  xx_l (hp_sr h_81 v0 62 (some q_80)) fun h_82 =>
  xx_l (hp_z h_82) fun q_83 => xx_l (hp_nw h_82 13 16384 16384) fun h_84 =>
  xx_l (hp_sr h_84 v0 63 (some q_83)) fun h_85 =>
  xx_l (hp_z h_85) fun q_86 => xx_l (hp_nw h_85 13 30006 30006) fun h_87 =>
  xx_l (hp_sr h_87 v0 64 (some q_86)) fun h_88 =>
  xx_l (hp_z h_88) fun q_89 => xx_l (hp_nw h_88 13 5001 5001) fun h_90 =>
  xx_l (hp_sr h_90 v0 68 (some q_89)) fun h_91 =>
  xx_l (hp_z h_91) fun q_92 => xx_l (hp_nw h_91 13 5002 5002) fun h_93 =>
  xx_l (hp_sr h_93 v0 69 (some q_92)) fun h_94 =>
  xx_l (hp_z h_94) fun q_95 => xx_l (hp_nw h_94 13 30006 30006) fun h_96 =>
  xx_l (hp_sr h_96 v0 70 (some q_95)) fun h_97 =>
  xx_l (hp_z h_97) fun q_98 => xx_l (hp_nw h_97 13 5001 5001) fun h_99 =>
  xx_l (hp_sr h_99 v0 71 (some q_98)) fun h_100 =>
  xx_l (hp_z h_100) fun q_101 => xx_l (hp_nw h_100 13 5001 5001) fun h_102 =>
  xx_l (hp_sr h_102 v0 72 (some q_101)) fun h_103 =>
  xx_l (hp_z h_103) fun q_104 => xx_l (hp_nw h_103 13 5001 5001) fun h_105 =>
  xx_l (hp_sr h_105 v0 73 (some q_104)) fun h_106 =>
  xx_l (hp_z h_106) fun q_107 => xx_l (hp_nw h_106 13 5001 5001) fun h_108 =>
  xx_l (hp_sr h_108 v0 74 (some q_107)) fun h_109 =>
  xx_l (hp_z h_109) fun q_110 => xx_l (hp_nw h_109 13 5001 5001) fun h_111 =>
  xx_l (hp_sr h_111 v0 75 (some q_110)) fun h_112 =>
  xx_l (hp_z h_112) fun q_113 => xx_l (hp_nw h_112 14 5001 5001) fun h_114 =>
  xx_l (hp_sr h_114 v0 76 (some q_113)) fun h_115 =>
  xx_l (hp_z h_115) fun q_116 => xx_l (hp_nw h_115 14 5001 5001) fun h_117 =>
  xx_l (hp_sr h_117 v0 77 (some q_116)) fun h_118 =>
  xx_l (hp_z h_118) fun q_119 => xx_l (hp_nw h_118 14 8 8) fun h_120 =>
  xx_l (hp_sr h_120 v0 78 (some q_119)) fun h_121 =>
  xx_l (hp_z h_121) fun q_122 => xx_l (hp_nw h_121 13 60 60) fun h_123 =>
  xx_l (hp_sr h_123 v0 79 (some q_122)) fun h_124 =>
  xx_l (hp_z h_124) fun q_125 => xx_l (hp_nw h_124 13 60 60) fun h_126 =>
  xx_l (hp_sr h_126 v0 80 (some q_125)) fun h_127 =>
  xx_l (hp_z h_127) fun q_128 => xx_l (hp_nw h_127 13 60 60) fun h_129 =>
  xx_l (hp_sr h_129 v0 81 (some q_128)) fun h_130 =>
  xx_l (hp_z h_130) fun q_131 => xx_l (hp_nw h_130 13 60 60) fun h_132 =>
  xx_l (hp_sr h_132 v0 82 (some q_131)) fun h_133 =>
  xx_l (hp_z h_133) fun q_134 => xx_l (hp_nw h_133 13 100 100) fun h_135 =>
  xx_l (hp_sr h_135 v0 83 (some q_134)) fun h_136 =>
  xx_l (hp_z h_136) fun q_137 => xx_l (hp_nw h_136 15 100 100) fun h_138 =>
  xx_l (hp_sr h_138 v0 84 (some q_137)) fun h_139 =>
  xx_l (hp_z h_139) fun q_140 => xx_l (hp_nw h_139 15 3 3) fun h_141 =>
  xx_l (hp_sr h_141 v0 87 (some q_140)) fun h_142 =>
  xx_l (hp_z h_142) fun q_143 => xx_l (hp_nw h_142 15 3 3) fun h_144 =>
  xx_l (hp_sr h_144 v0 88 (some q_143)) fun h_145 =>
  xx_l (hp_z h_145) fun q_146 => xx_l (hp_nw h_145 15 18 18) fun h_147 =>
  xx_l (hp_sr h_147 v0 89 (some q_146)) fun h_148 =>
  xx_l (hp_z h_148) fun q_149 => xx_l (hp_nw h_148 13 18 18) fun h_150 =>
  xx_l (hp_sr h_150 v0 90 (some q_149)) fun h_151 =>
  xx_l (hp_z h_151) fun q_152 => xx_l (hp_nw h_151 13 18 18) fun h_153 =>
  xx_l (hp_sr h_153 v0 91 (some q_152)) fun h_154 =>
  xx_l (hp_z h_154) fun q_155 => xx_l (hp_nw h_154 13 18 18) fun h_156 =>
  xx_l (hp_sr h_156 v0 92 (some q_155)) fun h_157 =>
  xx_l (hp_z h_157) fun q_158 => xx_l (hp_nw h_157 13 3 3) fun h_159 =>
  xx_l (hp_sr h_159 v0 93 (some q_158)) fun h_160 =>
  xx_l (hp_z h_160) fun q_161 => xx_l (hp_nw h_160 13 3 3) fun h_162 =>
  xx_l (hp_sr h_162 v0 94 (some q_161)) fun h_163 =>
  xx_l (hp_z h_163) fun q_164 => xx_l (hp_nw h_163 13 3 3) fun h_165 =>
  xx_l (hp_sr h_165 v0 95 (some q_164)) fun h_166 =>
  (f_M_plain v0 h_166).bind fun x_167 =>
  (f_M_beginWith v0 (0 : Int32) x_167).bind fun x_168 =>
  some x_168
/-! LampYardModel.four(I)V -/
noncomputable def f_M_four_3b (v0 : Nat) (v1 : Int32) (v2 : Int32) (h : HP) : Option ((Int32 × HP) ⊕ HP) :=
  (if v2 < 0 then
  (some (.inr h))
  else
  ((hp_r h v0 0).bind fun q_1 =>
  if hp_in (hp_i h v0 1) (hp_n h q_1) = true then
  xx_l (hp_si h q_1 ((hp_i h v0 1)).toNatClampNeg ((v1 >>> (v2 &&& 31)) &&& (255 : Int32))) fun h_3 =>
  xx_l (hp_si h_3 v0 1 ((hp_i h_3 v0 1) + (1 : Int32))) fun h_4 =>
  xx_l (v2 + (-8 : Int32)) fun v2_5 =>
  some (.inl (v2_5, h_4))
  else none))
noncomputable def f_M_four_3 (v0 : Nat) (v1 : Int32) (v2 : Int32) (h : HP) : Option HP :=
  xx_lp (fun s : (Int32 × HP) => f_M_four_3b v0 v1 s.1 s.2) (v2, h)
noncomputable def f_M_four (v0 : Nat) (v1 : Int32) (h : HP) : Option HP :=
  f_M_four_3 v0 v1 (24 : Int32) h
/-! LampYardModel.feed(IIIII)I -/
noncomputable def f_M_feed (v0 : Nat) (v1 : Int32) (v2 : Int32) (v3 : Int32) (v4 : Int32) (v5 : Int32) (h : HP) : Option (Int32 × HP) :=
  (if ((hp_i h v0 1) + (20 : Int32)) ≤ (1400 : Int32) then
  ((f_M_four v0 v1 h).bind fun x_1 =>
  (f_M_four v0 v2 x_1).bind fun x_2 =>
  (f_M_four v0 v3 x_2).bind fun x_3 =>
  (f_M_four v0 v4 x_3).bind fun x_4 =>
  (f_M_four v0 v5 x_4).bind fun x_5 =>
  some ((hp_i x_5 v0 1), x_5))
  else
  (some ((-1 : Int32), h)))
/-! LampYardModel.end(I)I -/
noncomputable def f_M_end (v0 : Nat) (v1 : Int32) (h : HP) : Option (Int32 × HP) :=
  (if v1 < 0 then
  (some ((-1 : Int32), h))
  else
  ((if v1 ≤ (hp_i h v0 1) then
  (xx_l (hp_si h v0 1 v1) fun h_1 =>
  some (v1, h_1))
  else
  (some ((-1 : Int32), h)))))
/-! LampYardModel.here(I)I -/
noncomputable def f_M_here (v0 : Nat) (v1 : Int32) (h : HP) : Option (Int32 × HP) :=
  (if (hp_i h v0 5) ≤ ((hp_i h v0 4) + v1) then
  (some ((-1 : Int32), h))
  else
  ((hp_r h v0 0).bind fun q_1 =>
  if hp_in ((hp_i h v0 4) + v1) (hp_n h q_1) = true then
  some ((hp_i h q_1 (((hp_i h v0 4) + v1)).toNatClampNeg), h)
  else none))
/-! LampYardModel.isLetter(I)Z -/
noncomputable def f_M_isLetter (v0 : Int32) (h : HP) : Option (Int32 × HP) :=
  (if v0 < (97 : Int32) then
  (some ((0 : Int32), h))
  else
  ((if (122 : Int32) < v0 then
  (some ((0 : Int32), h))
  else
  (some ((1 : Int32), h)))))
/-! LampYardModel.isDigit(I)Z -/
noncomputable def f_M_isDigit (v0 : Int32) (h : HP) : Option (Int32 × HP) :=
  (if v0 < (48 : Int32) then
  (some ((0 : Int32), h))
  else
  ((if (57 : Int32) < v0 then
  (some ((0 : Int32), h))
  else
  (some ((1 : Int32), h)))))
/-! LampYardModel.isSign(I)Z -/
noncomputable def f_M_isSign (v0 : Int32) (h : HP) : Option (Int32 × HP) :=
  (if v0 = (59 : Int32) then
  (some ((1 : Int32), h))
  else
  ((if v0 = (40 : Int32) then
  (some ((1 : Int32), h))
  else
  ((if v0 = (41 : Int32) then
  (some ((1 : Int32), h))
  else
  ((if v0 = (60 : Int32) then
  (some ((1 : Int32), h))
  else
  ((if v0 = (62 : Int32) then
  (some ((1 : Int32), h))
  else
  ((if v0 = (61 : Int32) then
  (some ((1 : Int32), h))
  else
  ((if v0 = (43 : Int32) then
  (some ((1 : Int32), h))
  else
  ((if v0 = (45 : Int32) then
  (some ((1 : Int32), h))
  else
  ((if v0 = (42 : Int32) then
  (some ((1 : Int32), h))
  else
  (some ((0 : Int32), h)))))))))))))))))))
/-! LampYardModel.token()V -/
noncomputable def f_M_token_20 (v0 : Nat) (h : HP) : Option ((HP) ⊕ HP) :=
  xx_l (hp_si h v0 4 ((hp_i h v0 4) + (1 : Int32))) fun h_2 =>
  some (.inl h_2)
noncomputable def f_M_token_232 (v0 : Nat) (v2 : Int32) (h : HP) : Option HP :=
  (if (hp_i h v0 6) = (3 : Int32) then
  (some h)
  else
  (xx_l (hp_si h v0 4 ((hp_i h v0 4) + v2)) fun h_12 =>
  some h_12))
noncomputable def f_M_token_229 (v0 : Nat) (v2 : Int32) (s0 : Int32) (s1 : Nat) (h : HP) : Option HP :=
  xx_l (hp_si h s1 6 s0) fun h_11 =>
  f_M_token_232 v0 v2 h_11
noncomputable def f_M_token_208 (v0 : Nat) (v2 : Int32) (s0 : Int32) (s1 : Nat) (h : HP) : Option HP :=
  xx_l (hp_si h s1 6 s0) fun h_15 =>
  f_M_token_232 v0 v2 h_15
noncomputable def f_M_token_203 (v0 : Nat) (v2 : Int32) (s0 : Nat) (h : HP) : Option HP :=
  f_M_token_208 v0 v2 (3 : Int32) s0 h
noncomputable def f_M_token_186 (v0 : Nat) (v2 : Int32) (h : HP) : Option HP :=
  (if (4 : Int32) < v2 then
  (f_M_token_203 v0 v2 v0 h)
  else
  ((f_M_here v0 v2 h).bind fun x_16 =>
  (f_M_isLetter x_16.1 x_16.2).bind fun x_17 =>
  (if x_17.1 = 0 then
  (f_M_token_208 v0 v2 (2 : Int32) v0 x_17.2)
  else
  (f_M_token_203 v0 v2 v0 x_17.2))))
noncomputable def f_M_token_180 (v0 : Nat) (v2 : Int32) (h : HP) : Option ((Int32 × HP) ⊕ HP) :=
  xx_l (v2 + (1 : Int32)) fun v2_18 =>
  some (.inl (v2_18, h))
noncomputable def f_M_token_144b (v0 : Nat) (v2 : Int32) (h : HP) : Option ((Int32 × HP) ⊕ HP) :=
  (f_M_here v0 v2 h).bind fun x_13 =>
  (f_M_isDigit x_13.1 x_13.2).bind fun x_14 =>
  (if x_14.1 = 0 then
  ((f_M_token_186 v0 v2 x_14.2).map .inr)
  else
  ((if (4 : Int32) ≤ v2 then
  (f_M_token_180 v0 v2 x_14.2)
  else
  ((f_M_here v0 v2 x_14.2).bind fun x_19 =>
  xx_l (hp_si x_19.2 v0 8 ((((10 : Int32) * (hp_i x_14.2 v0 8)) + x_19.1) - (48 : Int32))) fun h_20 =>
  f_M_token_180 v0 v2 h_20))))
noncomputable def f_M_token_144 (v0 : Nat) (v2 : Int32) (h : HP) : Option HP :=
  xx_lp (fun s : (Int32 × HP) => f_M_token_144b v0 s.1 s.2) (v2, h)
noncomputable def f_M_token_131 (v0 : Nat) (v2 : Int32) (s0 : Int32) (s1 : Nat) (h : HP) : Option HP :=
  xx_l (hp_si h s1 6 s0) fun h_23 =>
  f_M_token_232 v0 v2 h_23
noncomputable def f_M_token_119 (v0 : Nat) (v2 : Int32) (h : HP) : Option HP :=
  (if v2 ≤ (8 : Int32) then
  (f_M_token_131 v0 v2 (1 : Int32) v0 h)
  else
  (f_M_token_131 v0 v2 (3 : Int32) v0 h))
noncomputable def f_M_token_113 (v0 : Nat) (v2 : Int32) (h : HP) : Option ((Int32 × HP) ⊕ HP) :=
  xx_l (v2 + (1 : Int32)) fun v2_24 =>
  some (.inl (v2_24, h))
noncomputable def f_M_token_78b (v0 : Nat) (v2 : Int32) (h : HP) : Option ((Int32 × HP) ⊕ HP) :=
  (f_M_here v0 v2 h).bind fun x_21 =>
  (f_M_isLetter x_21.1 x_21.2).bind fun x_22 =>
  (if x_22.1 = 0 then
  ((f_M_token_119 v0 v2 x_22.2).map .inr)
  else
  ((if (8 : Int32) ≤ v2 then
  (f_M_token_113 v0 v2 x_22.2)
  else
  ((f_M_here v0 v2 x_22.2).bind fun x_25 =>
  xx_l (hp_sl x_25.2 v0 9 (((hp_l x_22.2 v0 9) <<< (((8 : Int32)).toInt64 &&& 63)) ||| (x_25.1).toInt64)) fun h_26 =>
  f_M_token_113 v0 v2 h_26))))
noncomputable def f_M_token_78 (v0 : Nat) (v2 : Int32) (h : HP) : Option HP :=
  xx_lp (fun s : (Int32 × HP) => f_M_token_78b v0 s.1 s.2) (v2, h)
noncomputable def f_M_token_33 (v0 : Nat) (h : HP) : Option HP :=
  xx_l (hp_si h v0 7 (hp_i h v0 4)) fun h_4 =>
  (f_M_here v0 (0 : Int32) h_4).bind fun x_5 =>
  xx_l (hp_sl x_5.2 v0 9 (0 : Int64)) fun h_6 =>
  xx_l (hp_si h_6 v0 8 (0 : Int32)) fun h_7 =>
  (if 0 ≤ x_5.1 then
  ((f_M_isLetter x_5.1 h_7).bind fun x_8 =>
  (if x_8.1 = 0 then
  ((f_M_isDigit x_5.1 x_8.2).bind fun x_9 =>
  (if x_9.1 = 0 then
  ((f_M_isSign x_5.1 x_9.2).bind fun x_10 =>
  (if x_10.1 = 0 then
  (f_M_token_229 v0 (1 : Int32) (3 : Int32) v0 x_10.2)
  else
  (f_M_token_229 v0 (1 : Int32) x_5.1 v0 x_10.2)))
  else
  (f_M_token_144 v0 (0 : Int32) x_9.2)))
  else
  (f_M_token_78 v0 (0 : Int32) x_8.2)))
  else
  (xx_l (hp_si h_7 v0 6 (0 : Int32)) fun h_27 =>
  f_M_token_232 v0 (0 : Int32) h_27))
noncomputable def f_M_tokenb (v0 : Nat) (h : HP) : Option ((HP) ⊕ HP) :=
  (f_M_here v0 (0 : Int32) h).bind fun x_1 =>
  (if x_1.1 = (32 : Int32) then
  (f_M_token_20 v0 x_1.2)
  else
  ((f_M_here v0 (0 : Int32) x_1.2).bind fun x_3 =>
  (if x_3.1 = (10 : Int32) then
  (f_M_token_20 v0 x_3.2)
  else
  ((f_M_token_33 v0 x_3.2).map .inr))))
noncomputable def f_M_token (v0 : Nat) (h : HP) : Option HP :=
  xx_lp (fun s : (HP) => f_M_tokenb v0 s) h
/-! LampYardModel.wrong(I)V -/
noncomputable def f_M_wrong (v0 : Nat) (v1 : Int32) (h : HP) : Option HP :=
  (if (hp_i h v0 2) ≤ 0 then
  ((if (hp_i h v0 6) = (3 : Int32) then
  (xx_l (hp_si h v0 2 (1 : Int32)) fun h_1 =>
  xx_l (hp_si h_1 v0 3 (hp_i h_1 v0 7)) fun h_2 =>
  some h_2)
  else
  (xx_l (hp_si h v0 2 v1) fun h_3 =>
  xx_l (hp_si h_3 v0 3 (hp_i h_3 v0 7)) fun h_4 =>
  some h_4)))
  else
  (some h))
/-! LampYardModel.isWord(J)Z -/
noncomputable def f_M_isWord (v0 : Nat) (v1 : Int64) (h : HP) : Option (Int32 × HP) :=
  (if (hp_i h v0 6) = (1 : Int32) then
  ((if (lg_cmp (hp_l h v0 9) v1) = 0 then
  (some ((1 : Int32), h))
  else
  (some ((0 : Int32), h))))
  else
  (some ((0 : Int32), h)))
/-! LampYardModel.isName()Z -/
noncomputable def f_M_isName_125 (v0 : Nat) (s0 : Int32) (h : HP) : Option (Int32 × HP) :=
  (if s0 = 0 then
  ((if (lg_cmp (hp_l h v0 9) (1920298085 : Int64)) = 0 then
  (some ((0 : Int32), h))
  else
  ((if (lg_cmp (hp_l h v0 9) (2003330414 : Int64)) = 0 then
  (some ((0 : Int32), h))
  else
  ((if (lg_cmp (hp_l h v0 9) (7562612 : Int64)) = 0 then
  (some ((0 : Int32), h))
  else
  ((if (lg_cmp (hp_l h v0 9) (1752132708 : Int64)) = 0 then
  (some ((0 : Int32), h))
  else
  ((if (lg_cmp (hp_l h v0 9) (7561593 : Int64)) = 0 then
  (some ((0 : Int32), h))
  else
  ((if (lg_cmp (hp_l h v0 9) (6578553 : Int64)) = 0 then
  (some ((0 : Int32), h))
  else
  ((if (lg_cmp (hp_l h v0 9) (130195279934579 : Int64)) = 0 then
  (some ((0 : Int32), h))
  else
  ((if (lg_cmp (hp_l h v0 9) (6385252 : Int64)) = 0 then
  (some ((0 : Int32), h))
  else
  ((if (lg_cmp (hp_l h v0 9) (28530 : Int64)) = 0 then
  (some ((0 : Int32), h))
  else
  ((if (lg_cmp (hp_l h v0 9) (7237492 : Int64)) = 0 then
  (some ((0 : Int32), h))
  else
  (some ((1 : Int32), h))))))))))))))))))))))
  else
  (some ((0 : Int32), h)))
noncomputable def f_M_isName_120 (v0 : Nat) (h : HP) : Option (Int32 × HP) :=
  f_M_isName_125 v0 (1 : Int32) h
noncomputable def f_M_isName (v0 : Nat) (h : HP) : Option (Int32 × HP) :=
  (if (hp_i h v0 6) = (1 : Int32) then
  ((if (lg_cmp (hp_l h v0 9) (465491030131 : Int64)) = 0 then
  (f_M_isName_120 v0 h)
  else
  ((if (lg_cmp (hp_l h v0 9) (427238321253 : Int64)) = 0 then
  (f_M_isName_120 v0 h)
  else
  ((if (lg_cmp (hp_l h v0 9) (439720963187 : Int64)) = 0 then
  (f_M_isName_120 v0 h)
  else
  ((if (lg_cmp (hp_l h v0 9) (495873782388 : Int64)) = 0 then
  (f_M_isName_120 v0 h)
  else
  ((if (lg_cmp (hp_l h v0 9) (7300710 : Int64)) = 0 then
  (f_M_isName_120 v0 h)
  else
  ((if (lg_cmp (hp_l h v0 9) (28526 : Int64)) = 0 then
  (f_M_isName_120 v0 h)
  else
  ((if (lg_cmp (hp_l h v0 9) (6385273 : Int64)) = 0 then
  (f_M_isName_120 v0 h)
  else
  ((if (lg_cmp (hp_l h v0 9) (1919904869 : Int64)) = 0 then
  (f_M_isName_120 v0 h)
  else
  ((if (lg_cmp (hp_l h v0 9) (7169390 : Int64)) = 0 then
  (f_M_isName_120 v0 h)
  else
  ((if (lg_cmp (hp_l h v0 9) (448545973363 : Int64)) = 0 then
  (f_M_isName_120 v0 h)
  else
  (f_M_isName_125 v0 (0 : Int32) h)))))))))))))))))))))
  else
  (some ((0 : Int32), h)))
/-! LampYardModel.want(J)V -/
noncomputable def f_M_want (v0 : Nat) (v1 : Int64) (h : HP) : Option HP :=
  (if (hp_i h v0 2) ≤ 0 then
  ((f_M_isWord v0 v1 h).bind fun x_1 =>
  (if x_1.1 = 0 then
  ((f_M_wrong v0 (2 : Int32) x_1.2).bind fun x_2 =>
  some x_2)
  else
  ((f_M_token v0 x_1.2).bind fun x_3 =>
  some x_3)))
  else
  (some h))
/-! LampYardModel.toldNumber(II)I -/
noncomputable def f_M_toldNumber_46 (v0 : Nat) (h : HP) : Option (Int32 × HP) :=
  xx_l (hp_i h v0 8) fun v3_2 =>
  (if (hp_i h v0 2) = 0 then
  ((f_M_token v0 h).bind fun x_3 =>
  some (v3_2, x_3))
  else
  (some (v3_2, h)))
noncomputable def f_M_toldNumber_41 (v0 : Nat) (h : HP) : Option (Int32 × HP) :=
  (f_M_wrong v0 (4 : Int32) h).bind fun x_1 =>
  f_M_toldNumber_46 v0 x_1
noncomputable def f_M_toldNumber (v0 : Nat) (v1 : Int32) (v2 : Int32) (h : HP) : Option (Int32 × HP) :=
  (if (hp_i h v0 2) ≤ 0 then
  ((if (hp_i h v0 6) = (2 : Int32) then
  ((if (hp_i h v0 8) < v1 then
  (f_M_toldNumber_41 v0 h)
  else
  ((if (hp_i h v0 8) ≤ v2 then
  (f_M_toldNumber_46 v0 h)
  else
  (f_M_toldNumber_41 v0 h)))))
  else
  ((f_M_wrong v0 (2 : Int32) h).bind fun x_4 =>
  f_M_toldNumber_46 v0 x_4)))
  else
  (some ((0 : Int32), h)))
/-! LampYardModel.told(JII)I -/
noncomputable def f_M_told (v0 : Nat) (v1 : Int64) (v3 : Int32) (v4 : Int32) (h : HP) : Option (Int32 × HP) :=
  (f_M_want v0 v1 h).bind fun x_1 =>
  (f_M_toldNumber v0 v3 v4 x_1).bind fun x_2 =>
  some (x_2.1, x_2.2)
/-! LampYardModel.note(II)V -/
noncomputable def f_M_note (v0 : Nat) (v1 : Int32) (v2 : Int32) (h : HP) : Option HP :=
  (hp_r h v0 36).bind fun q_1 =>
  if hp_in (hp_i h v0 44) (hp_n h q_1) = true then
  xx_l (hp_si h q_1 ((hp_i h v0 44)).toNatClampNeg v1) fun h_3 =>
  (hp_r h_3 v0 37).bind fun q_4 =>
  if hp_in (hp_i h_3 v0 44) (hp_n h_3 q_4) = true then
  xx_l (hp_si h_3 q_4 ((hp_i h_3 v0 44)).toNatClampNeg v2) fun h_6 =>
  xx_l (hp_si h_6 v0 44 ((hp_i h_6 v0 44) + (1 : Int32))) fun h_7 =>
  some h_7
  else none
  else none
/-! LampYardModel.upper()I -/
noncomputable def f_M_upper (v0 : Nat) (h : HP) : Option (Int32 × HP) :=
  (if (hp_i h v0 45) = 0 then
  (some ((30 : Int32), h))
  else
  ((hp_r h v0 42).bind fun q_1 =>
  if hp_in ((hp_i h v0 45) - (1 : Int32)) (hp_n h q_1) = true then
  some ((hp_i h q_1 (((hp_i h v0 45) - (1 : Int32))).toNatClampNeg), h)
  else none))
/-! LampYardModel.hold(I)V -/
noncomputable def f_M_hold (v0 : Nat) (v1 : Int32) (h : HP) : Option HP :=
  (hp_r h v0 42).bind fun q_1 =>
  if hp_in (hp_i h v0 45) (hp_n h q_1) = true then
  xx_l (hp_si h q_1 ((hp_i h v0 45)).toNatClampNeg v1) fun h_3 =>
  xx_l (hp_si h_3 v0 45 ((hp_i h_3 v0 45) + (1 : Int32))) fun h_4 =>
  (if v1 = (30 : Int32) then
  (xx_l (hp_si h_4 v0 46 ((hp_i h_4 v0 46) + (1 : Int32))) fun h_5 =>
  some h_5)
  else
  ((if v1 = (22 : Int32) then
  (xx_l (hp_si h_4 v0 46 ((hp_i h_4 v0 46) + (1 : Int32))) fun h_6 =>
  some h_6)
  else
  (some h_4))))
  else none
/-! LampYardModel.pop()V -/
noncomputable def f_M_pop_34 (v0 : Nat) (h : HP) : Option HP :=
  (hp_r h v0 42).bind fun q_5 =>
  if hp_in (hp_i h v0 45) (hp_n h q_5) = true then
  (f_M_note v0 (hp_i h q_5 ((hp_i h v0 45)).toNatClampNeg) (0 : Int32) h).bind fun x_7 =>
  some x_7
  else none
noncomputable def f_M_pop (v0 : Nat) (h : HP) : Option HP :=
  xx_l (hp_si h v0 45 ((hp_i h v0 45) - (1 : Int32))) fun h_1 =>
  (hp_r h_1 v0 42).bind fun q_2 =>
  if hp_in (hp_i h_1 v0 45) (hp_n h_1 q_2) = true then
  (if (hp_i h_1 q_2 ((hp_i h_1 v0 45)).toNatClampNeg) = (22 : Int32) then
  (xx_l (hp_si h_1 v0 46 ((hp_i h_1 v0 46) - (1 : Int32))) fun h_4 =>
  f_M_pop_34 v0 h_4)
  else
  (f_M_pop_34 v0 h_1))
  else none
/-! LampYardModel.settle(I)V -/
noncomputable def f_M_settleb (v0 : Nat) (v1 : Int32) (h : HP) : Option ((HP) ⊕ HP) :=
  (f_M_upper v0 h).bind fun x_1 =>
  (if x_1.1 = (30 : Int32) then
  (some (.inr x_1.2))
  else
  ((f_M_upper v0 x_1.2).bind fun x_2 =>
  (if x_2.1 < v1 then
  (some (.inr x_2.2))
  else
  ((f_M_pop v0 x_2.2).bind fun x_3 =>
  some (.inl x_3)))))
noncomputable def f_M_settle (v0 : Nat) (v1 : Int32) (h : HP) : Option HP :=
  xx_lp (fun s : (HP) => f_M_settleb v0 v1 s) h
/-! LampYardModel.isOpen()Z -/
noncomputable def f_M_isOpen_32 (v0 : Nat) (v2 : Int32) (s0 : Int32) (h : HP) : Option ((Int32 × Int32 × HP) ⊕ (Int32 × HP)) :=
  xx_l (v2 + (1 : Int32)) fun v2_4 =>
  some (.inl (s0, v2_4, h))
noncomputable def f_M_isOpen_27 (v0 : Nat) (v2 : Int32) (h : HP) : Option ((Int32 × Int32 × HP) ⊕ (Int32 × HP)) :=
  f_M_isOpen_32 v0 v2 (1 : Int32) h
noncomputable def f_M_isOpen_4b (v0 : Nat) (v1 : Int32) (v2 : Int32) (h : HP) : Option ((Int32 × Int32 × HP) ⊕ (Int32 × HP)) :=
  (if (hp_i h v0 45) ≤ v2 then
  (if hp_z01 v1 = true then some (.inr (v1, h)) else none)
  else
  ((if v1 = 0 then
  ((hp_r h v0 42).bind fun q_2 =>
  if hp_in v2 (hp_n h q_2) = true then
  (if (hp_i h q_2 (v2).toNatClampNeg) = (30 : Int32) then
  (f_M_isOpen_27 v0 v2 h)
  else
  (f_M_isOpen_32 v0 v2 (0 : Int32) h))
  else none)
  else
  (f_M_isOpen_27 v0 v2 h))))
noncomputable def f_M_isOpen_4 (v0 : Nat) (v1 : Int32) (v2 : Int32) (h : HP) : Option (Int32 × HP) :=
  xx_lp (fun s : (Int32 × Int32 × HP) => f_M_isOpen_4b v0 s.1 s.2.1 s.2.2) (v1, v2, h)
noncomputable def f_M_isOpen (v0 : Nat) (h : HP) : Option (Int32 × HP) :=
  f_M_isOpen_4 v0 (0 : Int32) (0 : Int32) h
/-! LampYardModel.rank(I)I -/
noncomputable def f_M_rank (v0 : Int32) (h : HP) : Option (Int32 × HP) :=
  (if v0 = (27 : Int32) then
  (some ((26 : Int32), h))
  else
  ((if v0 = (24 : Int32) then
  (some ((23 : Int32), h))
  else
  ((if v0 = (25 : Int32) then
  (some ((23 : Int32), h))
  else
  (some (v0, h)))))))
/-! LampYardModel.known()I -/
noncomputable def f_M_known (v0 : Nat) (h : HP) : Option (Int32 × HP) :=
  (f_M_isWord v0 (465491030131 : Int64) h).bind fun x_1 =>
  (if x_1.1 = 0 then
  ((f_M_isWord v0 (448545973363 : Int64) x_1.2).bind fun x_2 =>
  (if x_2.1 = 0 then
  ((f_M_isWord v0 (6578553 : Int64) x_2.2).bind fun x_3 =>
  (if x_3.1 = 0 then
  ((f_M_isWord v0 (130195279934579 : Int64) x_3.2).bind fun x_4 =>
  (if x_4.1 = 0 then
  ((f_M_isWord v0 (7169390 : Int64) x_4.2).bind fun x_5 =>
  (if x_5.1 = 0 then
  (some ((-1 : Int32), x_5.2))
  else
  (some ((5 : Int32), x_5.2))))
  else
  (some ((4 : Int32), x_4.2))))
  else
  (some ((3 : Int32), x_3.2))))
  else
  (some ((2 : Int32), x_2.2))))
  else
  (some ((1 : Int32), x_1.2)))
/-! LampYardModel.operand(I)I -/
noncomputable def f_M_operand_169 (v0 : Nat) (s0 : Int32) (s1 : Nat) (h : HP) : Option (Int32 × HP) :=
  (f_M_note s1 s0 (hp_i h v0 8) h).bind fun x_7 =>
  (f_M_token v0 x_7).bind fun x_8 =>
  some ((2 : Int32), x_8)
noncomputable def f_M_operand_103 (v0 : Nat) (v1 : Int32) (v2 : Int32) (v3 : Int32) (h : HP) : Option (Int32 × HP) :=
  (if (hp_i h v0 2) ≤ 0 then
  ((if v2 = 0 then
  (xx_l (hp_si h v0 27 ((hp_i h v0 27) + (1 : Int32))) fun h_4 =>
  (if (hp_i h_4 v0 6) = (40 : Int32) then
  ((f_M_hold v0 (30 : Int32) h_4).bind fun x_5 =>
  (f_M_token v0 x_5).bind fun x_6 =>
  some ((0 : Int32), x_6))
  else
  ((if 0 ≤ v3 then
  (f_M_operand_169 v0 v3 v0 h_4)
  else
  (f_M_operand_169 v0 (0 : Int32) v0 h_4)))))
  else
  ((f_M_hold v0 (22 : Int32) h).bind fun x_9 =>
  (f_M_token v0 x_9).bind fun x_10 =>
  some ((0 : Int32), x_10))))
  else
  (some (v1, h)))
noncomputable def f_M_operand_98 (v0 : Nat) (v1 : Int32) (v2 : Int32) (v3 : Int32) (h : HP) : Option (Int32 × HP) :=
  (f_M_wrong v0 (2 : Int32) h).bind fun x_3 =>
  f_M_operand_103 v0 v1 v2 v3 x_3
noncomputable def f_M_operand_89 (v0 : Nat) (v1 : Int32) (v2 : Int32) (v3 : Int32) (h : HP) : Option (Int32 × HP) :=
  (if (hp_i h v0 46) < (7 : Int32) then
  (f_M_operand_103 v0 v1 v2 v3 h)
  else
  (f_M_operand_98 v0 v1 v2 v3 h))
noncomputable def f_M_operand_76 (v0 : Nat) (v1 : Int32) (v2 : Int32) (v3 : Int32) (h : HP) : Option (Int32 × HP) :=
  (if v2 = 0 then
  ((if (hp_i h v0 6) = (40 : Int32) then
  (f_M_operand_89 v0 v1 v2 v3 h)
  else
  (f_M_operand_103 v0 v1 v2 v3 h)))
  else
  (f_M_operand_89 v0 v1 v2 v3 h))
noncomputable def f_M_operand_62 (v0 : Nat) (v1 : Int32) (v2 : Int32) (v3 : Int32) (v4 : Int32) (h : HP) : Option (Int32 × HP) :=
  (if v4 = 0 then
  (f_M_operand_76 v0 v1 v2 v3 h)
  else
  ((if (hp_i h v0 27) = (60 : Int32) then
  (f_M_operand_98 v0 v1 v2 v3 h)
  else
  (f_M_operand_76 v0 v1 v2 v3 h))))
noncomputable def f_M_operand_51 (v0 : Nat) (v1 : Int32) (v2 : Int32) (v3 : Int32) (s0 : Int32) (h : HP) : Option (Int32 × HP) :=
  (if v2 = 0 then
  ((if s0 = 0 then
  (f_M_operand_98 v0 v1 v2 v3 h)
  else
  (f_M_operand_62 v0 v1 v2 v3 s0 h)))
  else
  (f_M_operand_62 v0 v1 v2 v3 s0 h))
noncomputable def f_M_operand_46 (v0 : Nat) (v1 : Int32) (v2 : Int32) (v3 : Int32) (h : HP) : Option (Int32 × HP) :=
  f_M_operand_51 v0 v1 v2 v3 (1 : Int32) h
noncomputable def f_M_operand_19 (v0 : Nat) (v1 : Int32) (s0 : Int32) (h : HP) : Option (Int32 × HP) :=
  (f_M_known v0 h).bind fun x_2 =>
  (if (hp_i x_2.2 v0 6) = (2 : Int32) then
  (f_M_operand_46 v0 v1 s0 x_2.1 x_2.2)
  else
  ((if (hp_i x_2.2 v0 6) = (40 : Int32) then
  (f_M_operand_46 v0 v1 s0 x_2.1 x_2.2)
  else
  ((if x_2.1 < 0 then
  (f_M_operand_51 v0 v1 s0 x_2.1 (0 : Int32) x_2.2)
  else
  (f_M_operand_46 v0 v1 s0 x_2.1 x_2.2))))))
noncomputable def f_M_operand_18 (v0 : Nat) (v1 : Int32) (h : HP) : Option (Int32 × HP) :=
  f_M_operand_19 v0 v1 (0 : Int32) h
noncomputable def f_M_operand (v0 : Nat) (v1 : Int32) (h : HP) : Option (Int32 × HP) :=
  (if v1 = 0 then
  ((f_M_isWord v0 (7237492 : Int64) h).bind fun x_1 =>
  (if x_1.1 = 0 then
  (f_M_operand_18 v0 v1 x_1.2)
  else
  (f_M_operand_19 v0 v1 (1 : Int32) x_1.2)))
  else
  (f_M_operand_18 v0 v1 h))
/-! LampYardModel.sign()I -/
noncomputable def f_M_sign_217 (v0 : Nat) (v1 : Int32) (h : HP) : Option (Int32 × HP) :=
  (if (hp_i h v0 2) ≤ 0 then
  ((f_M_hold v0 v1 h).bind fun x_7 =>
  (f_M_token v0 x_7).bind fun x_8 =>
  (if v1 = (21 : Int32) then
  (some ((0 : Int32), x_8))
  else
  ((if v1 = (20 : Int32) then
  (some ((0 : Int32), x_8))
  else
  (some ((1 : Int32), x_8))))))
  else
  (some ((2 : Int32), h)))
noncomputable def f_M_sign_163 (v0 : Nat) (v1 : Int32) (h : HP) : Option (Int32 × HP) :=
  (if 0 ≤ v1 then
  ((f_M_rank v1 h).bind fun x_2 =>
  (if x_2.1 = (23 : Int32) then
  ((f_M_settle v0 (26 : Int32) x_2.2).bind fun x_3 =>
  (f_M_upper v0 x_3).bind fun x_4 =>
  (f_M_rank x_4.1 x_4.2).bind fun x_5 =>
  (if x_5.1 = (23 : Int32) then
  ((f_M_wrong v0 (2 : Int32) x_5.2).bind fun x_6 =>
  f_M_sign_217 v0 v1 x_6)
  else
  (f_M_sign_217 v0 v1 x_5.2)))
  else
  ((f_M_rank v1 x_2.2).bind fun x_9 =>
  (f_M_settle v0 x_9.1 x_9.2).bind fun x_10 =>
  f_M_sign_217 v0 v1 x_10)))
  else
  ((f_M_wrong v0 (2 : Int32) h).bind fun x_11 =>
  some ((2 : Int32), x_11)))
noncomputable def f_M_sign_115 (v0 : Nat) (s0 : Int32) (h : HP) : Option (Int32 × HP) :=
  (if (hp_i h v0 6) = (41 : Int32) then
  ((f_M_isOpen v0 h).bind fun x_1 =>
  (if x_1.1 = 0 then
  (f_M_sign_163 v0 s0 x_1.2)
  else
  ((f_M_settle v0 (0 : Int32) x_1.2).bind fun x_12 =>
  xx_l (hp_si x_12 v0 45 ((hp_i x_12 v0 45) - (1 : Int32))) fun h_13 =>
  xx_l (hp_si h_13 v0 46 ((hp_i h_13 v0 46) - (1 : Int32))) fun h_14 =>
  (f_M_token v0 h_14).bind fun x_15 =>
  some ((2 : Int32), x_15))))
  else
  (f_M_sign_163 v0 s0 h))
noncomputable def f_M_sign (v0 : Nat) (h : HP) : Option (Int32 × HP) :=
  (if (hp_i h v0 6) = (43 : Int32) then
  (f_M_sign_115 v0 (26 : Int32) h)
  else
  ((if (hp_i h v0 6) = (45 : Int32) then
  (f_M_sign_115 v0 (27 : Int32) h)
  else
  ((if (hp_i h v0 6) = (42 : Int32) then
  (f_M_sign_115 v0 (28 : Int32) h)
  else
  ((if (hp_i h v0 6) = (61 : Int32) then
  (f_M_sign_115 v0 (23 : Int32) h)
  else
  ((if (hp_i h v0 6) = (60 : Int32) then
  (f_M_sign_115 v0 (24 : Int32) h)
  else
  ((if (hp_i h v0 6) = (62 : Int32) then
  (f_M_sign_115 v0 (25 : Int32) h)
  else
  ((f_M_isWord v0 (6385252 : Int64) h).bind fun x_16 =>
  (if x_16.1 = 0 then
  ((f_M_isWord v0 (28530 : Int64) x_16.2).bind fun x_17 =>
  (if x_17.1 = 0 then
  (f_M_sign_115 v0 (-1 : Int32) x_17.2)
  else
  (f_M_sign_115 v0 (20 : Int32) x_17.2)))
  else
  (f_M_sign_115 v0 (21 : Int32) x_16.2))))))))))))))
/-! LampYardModel.isAfter(I)Z -/
noncomputable def f_M_isAfter (v0 : Nat) (v1 : Int32) (h : HP) : Option (Int32 × HP) :=
  (if v1 = 0 then
  ((f_M_isWord v0 (7562612 : Int64) h).bind fun x_1 =>
  if hp_z01 x_1.1 = true then some (x_1.1, x_1.2) else none)
  else
  ((if v1 = (1 : Int32) then
  ((f_M_isWord v0 (1752132708 : Int64) h).bind fun x_3 =>
  if hp_z01 x_3.1 = true then some (x_3.1, x_3.2) else none)
  else
  ((f_M_isWord v0 (7561593 : Int64) h).bind fun x_5 =>
  (if x_5.1 = 0 then
  ((if (hp_i x_5.2 v0 6) = (59 : Int32) then
  (some ((1 : Int32), x_5.2))
  else
  (some ((0 : Int32), x_5.2))))
  else
  (some ((1 : Int32), x_5.2)))))))
/-! LampYardModel.readPart(I)V -/
noncomputable def f_M_readPart_81 (v0 : Nat) (v1 : Int32) (s0 : Int32) (h : HP) : Option ((Int32 × HP) ⊕ HP) :=
  some (.inl (s0, h))
noncomputable def f_M_readPart_64 (v0 : Nat) (v1 : Int32) (v2 : Int32) (h : HP) : Option ((Int32 × HP) ⊕ HP) :=
  (if v2 = (2 : Int32) then
  ((f_M_sign v0 h).bind fun x_7 =>
  f_M_readPart_81 v0 v1 x_7.1 x_7.2)
  else
  ((f_M_operand v0 v2 h).bind fun x_8 =>
  f_M_readPart_81 v0 v1 x_8.1 x_8.2))
noncomputable def f_M_readPart_85 (v0 : Nat) (h : HP) : Option HP :=
  (if (hp_i h v0 2) = 0 then
  ((f_M_settle v0 (0 : Int32) h).bind fun x_10 =>
  some x_10)
  else
  (some h))
noncomputable def f_M_readPart_37b (v0 : Nat) (v1 : Int32) (v2 : Int32) (h : HP) : Option ((Int32 × HP) ⊕ HP) :=
  (if (hp_i h v0 2) = 0 then
  ((if v2 = (2 : Int32) then
  ((f_M_isAfter v0 v1 h).bind fun x_6 =>
  (if x_6.1 = 0 then
  (f_M_readPart_64 v0 v1 v2 x_6.2)
  else
  ((f_M_isOpen v0 x_6.2).bind fun x_9 =>
  (if x_9.1 = 0 then
  ((f_M_readPart_85 v0 x_9.2).map .inr)
  else
  (f_M_readPart_64 v0 v1 v2 x_9.2)))))
  else
  (f_M_readPart_64 v0 v1 v2 h)))
  else
  ((f_M_readPart_85 v0 h).map .inr))
noncomputable def f_M_readPart_37 (v0 : Nat) (v1 : Int32) (v2 : Int32) (h : HP) : Option HP :=
  xx_lp (fun s : (Int32 × HP) => f_M_readPart_37b v0 v1 s.1 s.2) (v2, h)
noncomputable def f_M_readPart (v0 : Nat) (v1 : Int32) (h : HP) : Option HP :=
  (if (hp_i h v0 2) ≤ 0 then
  ((hp_r h v0 38).bind fun q_1 =>
  if hp_in (((3 : Int32) * (hp_i h v0 26)) + v1) (hp_n h q_1) = true then
  xx_l (hp_si h q_1 ((((3 : Int32) * (hp_i h v0 26)) + v1)).toNatClampNeg (hp_i h v0 44)) fun h_3 =>
  xx_l (hp_si h_3 v0 45 (0 : Int32)) fun h_4 =>
  xx_l (hp_si h_4 v0 46 (0 : Int32)) fun h_5 =>
  f_M_readPart_37 v0 v1 (0 : Int32) h_5
  else none)
  else
  (some h))
/-! LampYardModel.roleNumber(J)I -/
noncomputable def f_M_roleNumber_32 (v0 : Nat) (v1 : Int64) (v4 : Int32) (s0 : Int32) (h : HP) : Option ((Int32 × Int32 × HP) ⊕ (Int32 × HP)) :=
  xx_l (v4 + (1 : Int32)) fun v4_3 =>
  some (.inl (s0, v4_3, h))
noncomputable def f_M_roleNumber_5b (v0 : Nat) (v1 : Int64) (v3 : Int32) (v4 : Int32) (h : HP) : Option ((Int32 × Int32 × HP) ⊕ (Int32 × HP)) :=
  (if (hp_i h v0 24) ≤ v4 then
  (some (.inr (v3, h)))
  else
  ((hp_r h v0 10).bind fun q_1 =>
  if hp_in v4 (hp_n h q_1) = true then
  (if (lg_cmp (hp_l h q_1 (v4).toNatClampNeg) v1) = 0 then
  (f_M_roleNumber_32 v0 v1 v4 v4 h)
  else
  (f_M_roleNumber_32 v0 v1 v4 v3 h))
  else none))
noncomputable def f_M_roleNumber_5 (v0 : Nat) (v1 : Int64) (v3 : Int32) (v4 : Int32) (h : HP) : Option (Int32 × HP) :=
  xx_lp (fun s : (Int32 × Int32 × HP) => f_M_roleNumber_5b v0 v1 s.1 s.2.1 s.2.2) (v3, v4, h)
noncomputable def f_M_roleNumber (v0 : Nat) (v1 : Int64) (h : HP) : Option (Int32 × HP) :=
  f_M_roleNumber_5 v0 v1 (-1 : Int32) (0 : Int32) h
/-! LampYardModel.readRole()V -/
noncomputable def f_M_readRole_35 (v0 : Nat) (h : HP) : Option HP :=
  (if (hp_i h v0 2) ≤ 0 then
  (xx_l (hp_l h v0 9) fun v1_4 =>
  (f_M_token v0 h).bind fun x_5 =>
  (f_M_told v0 (7169390 : Int64) (1 : Int32) ((6 : Int32) - (hp_i x_5 v0 25)) x_5).bind fun x_6 =>
  (f_M_told v0 (448545973363 : Int64) (0 : Int32) (31 : Int32) x_6.2).bind fun x_7 =>
  (if (hp_i x_7.2 v0 2) ≤ 0 then
  ((hp_r x_7.2 v0 10).bind fun q_8 =>
  if hp_in (hp_i x_7.2 v0 24) (hp_n x_7.2 q_8) = true then
  xx_l (hp_sl x_7.2 q_8 ((hp_i x_7.2 v0 24)).toNatClampNeg v1_4) fun h_10 =>
  (hp_r h_10 v0 11).bind fun q_11 =>
  if hp_in (hp_i h_10 v0 24) (hp_n h_10 q_11) = true then
  xx_l (hp_si h_10 q_11 ((hp_i h_10 v0 24)).toNatClampNeg x_6.1) fun h_13 =>
  (hp_r h_13 v0 12).bind fun q_14 =>
  if hp_in (hp_i h_13 v0 24) (hp_n h_13 q_14) = true then
  xx_l (hp_si h_13 q_14 ((hp_i h_13 v0 24)).toNatClampNeg x_7.1) fun h_16 =>
  xx_l (hp_si h_16 v0 24 ((hp_i h_16 v0 24) + (1 : Int32))) fun h_17 =>
  xx_l (hp_si h_17 v0 25 ((hp_i h_17 v0 25) + x_6.1)) fun h_18 =>
  some h_18
  else none
  else none
  else none)
  else
  (some x_7.2)))
  else
  (some h))
noncomputable def f_M_readRole (v0 : Nat) (h : HP) : Option HP :=
  (f_M_token v0 h).bind fun x_1 =>
  (f_M_isName v0 x_1).bind fun x_2 =>
  (if x_2.1 = 0 then
  ((f_M_wrong v0 (2 : Int32) x_2.2).bind fun x_3 =>
  f_M_readRole_35 v0 x_3)
  else
  ((f_M_roleNumber v0 (hp_l x_2.2 v0 9) x_2.2).bind fun x_19 =>
  (if x_19.1 < 0 then
  (f_M_readRole_35 v0 x_19.2)
  else
  ((f_M_wrong v0 (3 : Int32) x_19.2).bind fun x_20 =>
  f_M_readRole_35 v0 x_20))))
/-! LampYardModel.readRule()V -/
noncomputable def f_M_readRule_138 (v0 : Nat) (h : HP) : Option HP :=
  xx_l (hp_si h v0 26 ((hp_i h v0 26) + (1 : Int32))) fun h_20 =>
  (hp_r h_20 v0 38).bind fun q_21 =>
  if hp_in ((3 : Int32) * (hp_i h_20 v0 26)) (hp_n h_20 q_21) = true then
  xx_l (hp_si h_20 q_21 (((3 : Int32) * (hp_i h_20 v0 26))).toNatClampNeg (hp_i h_20 v0 44)) fun h_23 =>
  some h_23
  else none
noncomputable def f_M_readRule_35 (v0 : Nat) (h : HP) : Option HP :=
  (if (hp_i h v0 2) ≤ 0 then
  ((hp_r h v0 13).bind fun q_4 =>
  (f_M_roleNumber v0 (hp_l h v0 9) h).bind fun x_5 =>
  if hp_in (hp_i h v0 26) (hp_n x_5.2 q_4) = true then
  xx_l (hp_si x_5.2 q_4 ((hp_i h v0 26)).toNatClampNeg x_5.1) fun h_7 =>
  (f_M_token v0 h_7).bind fun x_8 =>
  (f_M_want v0 (2003330414 : Int64) x_8).bind fun x_9 =>
  (f_M_readPart v0 (0 : Int32) x_9).bind fun x_10 =>
  (f_M_want v0 (7562612 : Int64) x_10).bind fun x_11 =>
  (f_M_readPart v0 (1 : Int32) x_11).bind fun x_12 =>
  (f_M_want v0 (1752132708 : Int64) x_12).bind fun x_13 =>
  (f_M_readPart v0 (2 : Int32) x_13).bind fun x_14 =>
  (if (hp_i x_14 v0 2) ≤ 0 then
  ((hp_r x_14 v0 17).bind fun q_15 =>
  (f_M_isWord v0 (7561593 : Int64) x_14).bind fun x_16 =>
  if hp_in (hp_i x_14 v0 26) (hp_n x_16.2 q_15) = true then
  xx_l (hp_si x_16.2 q_15 ((hp_i x_14 v0 26)).toNatClampNeg (vp_nar .boolean x_16.1)) fun h_18 =>
  (f_M_isWord v0 (7561593 : Int64) h_18).bind fun x_19 =>
  (if x_19.1 = 0 then
  (f_M_readRule_138 v0 x_19.2)
  else
  ((f_M_token v0 x_19.2).bind fun x_24 =>
  f_M_readRule_138 v0 x_24))
  else none)
  else
  (some x_14))
  else none)
  else
  (some h))
noncomputable def f_M_readRule (v0 : Nat) (h : HP) : Option HP :=
  (f_M_token v0 h).bind fun x_1 =>
  (f_M_isName v0 x_1).bind fun x_2 =>
  (if x_2.1 = 0 then
  ((f_M_wrong v0 (2 : Int32) x_2.2).bind fun x_3 =>
  f_M_readRule_35 v0 x_3)
  else
  ((f_M_roleNumber v0 (hp_l x_2.2 v0 9) x_2.2).bind fun x_25 =>
  (if 0 ≤ x_25.1 then
  (f_M_readRule_35 v0 x_25.2)
  else
  ((f_M_wrong v0 (5 : Int32) x_25.2).bind fun x_26 =>
  f_M_readRule_35 v0 x_26))))
/-! LampYardModel.readStart()V -/
noncomputable def f_M_readStart_69 (v0 : Nat) (s0 : Int32) (s1 : Nat) (h : HP) : Option HP :=
  xx_l (hp_si h s1 23 s0) fun h_8 =>
  (if (hp_i h_8 v0 2) = 0 then
  ((f_M_token v0 h_8).bind fun x_9 =>
  some x_9)
  else
  (some h_8))
noncomputable def f_M_readStart_39 (v0 : Nat) (h : HP) : Option HP :=
  (f_M_isWord v0 (28526 : Int64) h).bind fun x_6 =>
  (if x_6.1 = 0 then
  ((f_M_isWord v0 (6385273 : Int64) x_6.2).bind fun x_7 =>
  (if x_7.1 = 0 then
  (f_M_readStart_69 v0 (0 : Int32) v0 x_7.2)
  else
  (f_M_readStart_69 v0 (2 : Int32) v0 x_7.2)))
  else
  (f_M_readStart_69 v0 (1 : Int32) v0 x_6.2))
noncomputable def f_M_readStart (v0 : Nat) (h : HP) : Option HP :=
  (f_M_token v0 h).bind fun x_1 =>
  (f_M_isWord v0 (7300710 : Int64) x_1).bind fun x_2 =>
  (if x_2.1 = 0 then
  ((f_M_isWord v0 (28526 : Int64) x_2.2).bind fun x_3 =>
  (if x_3.1 = 0 then
  ((f_M_isWord v0 (6385273 : Int64) x_3.2).bind fun x_4 =>
  (if x_4.1 = 0 then
  ((f_M_wrong v0 (2 : Int32) x_4.2).bind fun x_5 =>
  f_M_readStart_39 v0 x_5)
  else
  (f_M_readStart_39 v0 x_4.2)))
  else
  (f_M_readStart_39 v0 x_3.2)))
  else
  (f_M_readStart_39 v0 x_2.2))
/-! LampYardModel.lineOf()I -/
noncomputable def f_M_lineOf_57 (v0 : Nat) (s0 : Int32) (h : HP) : Option (Int32 × HP) :=
  (if s0 < 0 then
  (some ((-1 : Int32), h))
  else
  ((hp_r h v0 19).bind fun q_5 =>
  if hp_in s0 (hp_n h q_5) = true then
  (if (hp_i h q_5 (s0).toNatClampNeg) = 0 then
  (some (s0, h))
  else
  (some ((-1 : Int32), h)))
  else none))
noncomputable def f_M_lineOf (v0 : Nat) (h : HP) : Option (Int32 × HP) :=
  (f_M_isWord v0 (465491030131 : Int64) h).bind fun x_1 =>
  (if x_1.1 = 0 then
  ((f_M_isWord v0 (427238321253 : Int64) x_1.2).bind fun x_2 =>
  (if x_2.1 = 0 then
  ((f_M_isWord v0 (439720963187 : Int64) x_2.2).bind fun x_3 =>
  (if x_3.1 = 0 then
  ((f_M_isWord v0 (495873782388 : Int64) x_3.2).bind fun x_4 =>
  (if x_4.1 = 0 then
  (f_M_lineOf_57 v0 (-1 : Int32) x_4.2)
  else
  (f_M_lineOf_57 v0 (3 : Int32) x_4.2)))
  else
  (f_M_lineOf_57 v0 (2 : Int32) x_3.2)))
  else
  (f_M_lineOf_57 v0 (1 : Int32) x_2.2)))
  else
  (f_M_lineOf_57 v0 (0 : Int32) x_1.2))
/-! LampYardModel.readLine()V -/
noncomputable def f_M_readLine_173 (v0 : Nat) (h : HP) : Option HP :=
  (if (hp_i h v0 2) = 0 then
  ((f_M_token v0 h).bind fun x_4 =>
  some x_4)
  else
  (some h))
noncomputable def f_M_readLine_152 (v0 : Nat) (h : HP) : Option HP :=
  (if (hp_i h v0 2) = 0 then
  ((if (hp_i h v0 6) = (59 : Int32) then
  (f_M_readLine_173 v0 h)
  else
  ((f_M_wrong v0 (2 : Int32) h).bind fun x_5 =>
  f_M_readLine_173 v0 x_5)))
  else
  (f_M_readLine_173 v0 h))
noncomputable def f_M_readLine_147 (v0 : Nat) (h : HP) : Option HP :=
  (f_M_wrong v0 (2 : Int32) h).bind fun x_13 =>
  f_M_readLine_152 v0 x_13
noncomputable def f_M_readLine_121 (v0 : Nat) (h : HP) : Option HP :=
  (f_M_isWord v0 (1920298085 : Int64) h).bind fun x_12 =>
  (if x_12.1 = 0 then
  (f_M_readLine_147 v0 x_12.2)
  else
  ((if (16 : Int32) ≤ (hp_i x_12.2 v0 26) then
  (f_M_readLine_147 v0 x_12.2)
  else
  ((f_M_readRule v0 x_12.2).bind fun x_14 =>
  f_M_readLine_152 v0 x_14))))
noncomputable def f_M_readLine_29 (v0 : Nat) (v1 : Int32) (h : HP) : Option HP :=
  (if v1 = 0 then
  ((f_M_toldNumber v0 (1 : Int32) (2 : Int32) h).bind fun x_2 =>
  xx_l (hp_si x_2.2 v0 20 x_2.1) fun h_3 =>
  f_M_readLine_152 v0 h_3)
  else
  ((if v1 = (1 : Int32) then
  ((f_M_toldNumber v0 (1 : Int32) (12 : Int32) h).bind fun x_6 =>
  xx_l (hp_si x_6.2 v0 21 x_6.1) fun h_7 =>
  f_M_readLine_152 v0 h_7)
  else
  ((if v1 = (2 : Int32) then
  ((f_M_toldNumber v0 (0 : Int32) (11 : Int32) h).bind fun x_8 =>
  xx_l (hp_si x_8.2 v0 22 x_8.1) fun h_9 =>
  f_M_readLine_152 v0 h_9)
  else
  ((if v1 = (3 : Int32) then
  ((f_M_readStart v0 h).bind fun x_10 =>
  f_M_readLine_152 v0 x_10)
  else
  ((f_M_isWord v0 (1919904869 : Int64) h).bind fun x_11 =>
  (if x_11.1 = 0 then
  (f_M_readLine_121 v0 x_11.2)
  else
  ((if (4 : Int32) ≤ (hp_i x_11.2 v0 24) then
  (f_M_readLine_121 v0 x_11.2)
  else
  ((f_M_readRole v0 x_11.2).bind fun x_15 =>
  f_M_readLine_152 v0 x_15))))))))))))
noncomputable def f_M_readLine_16 (v0 : Nat) (v1 : Int32) (h : HP) : Option HP :=
  (if v1 < 0 then
  (f_M_readLine_29 v0 v1 h)
  else
  ((if (3 : Int32) ≤ v1 then
  (f_M_readLine_29 v0 v1 h)
  else
  ((f_M_token v0 h).bind fun x_16 =>
  f_M_readLine_29 v0 v1 x_16))))
noncomputable def f_M_readLine (v0 : Nat) (h : HP) : Option HP :=
  (f_M_lineOf v0 h).bind fun x_1 =>
  (if x_1.1 < 0 then
  (f_M_readLine_16 v0 x_1.1 x_1.2)
  else
  ((hp_r x_1.2 v0 19).bind fun q_17 =>
  if hp_in x_1.1 (hp_n x_1.2 q_17) = true then
  xx_l (hp_si x_1.2 q_17 (x_1.1).toNatClampNeg (vp_nar .boolean (1 : Int32))) fun h_19 =>
  f_M_readLine_16 v0 x_1.1 h_19
  else none))
/-! LampYardModel.plan()I -/
noncomputable def f_M_plan_396 (v0 : Nat) (h : HP) : Option (Int32 × HP) :=
  (f_M_beginWith v0 (0 : Int32) h).bind fun x_25 =>
  some ((hp_i x_25 v0 33), x_25)
noncomputable def f_M_plan_378b (v0 : Nat) (v1 : Int32) (h : HP) : Option ((Int32 × HP) ⊕ (Int32 × HP)) :=
  (if (3 : Int32) ≤ v1 then
  ((f_M_plan_396 v0 h).map .inr)
  else
  ((hp_r h v0 87).bind fun q_26 =>
  if hp_in v1 (hp_n h q_26) = true then
  xx_l (hp_si h q_26 (v1).toNatClampNeg (vp_nar .boolean (0 : Int32))) fun h_28 =>
  xx_l (v1 + (1 : Int32)) fun v1_29 =>
  some (.inl (v1_29, h_28))
  else none))
noncomputable def f_M_plan_378 (v0 : Nat) (v1 : Int32) (h : HP) : Option (Int32 × HP) :=
  xx_lp (fun s : (Int32 × HP) => f_M_plan_378b v0 s.1 s.2) (v1, h)
noncomputable def f_M_plan_371 (v0 : Nat) (h : HP) : Option (Int32 × HP) :=
  xx_l (hp_si h v0 85 (0 : Int32)) fun h_24 =>
  f_M_plan_378 v0 (0 : Int32) h_24
noncomputable def f_M_plan_365 (v0 : Nat) (v1 : Int32) (h : HP) : Option ((Int32 × HP) ⊕ (Int32 × HP)) :=
  xx_l (v1 + (1 : Int32)) fun v1_40 =>
  some (.inl (v1_40, h))
noncomputable def f_M_plan_334b (v0 : Nat) (v1 : Int32) (v2 : Int32) (h : HP) : Option ((Int32 × HP) ⊕ ((Int32 × HP) ⊕ (Int32 × HP))) :=
  (if (4 : Int32) ≤ v2 then
  ((f_M_plan_365 v0 v1 h).map .inr)
  else
  ((hp_r h v0 41).bind fun q_41 =>
  (hp_r h v0 38).bind fun q_42 =>
  if hp_in (((3 : Int32) * v1) + v2) (hp_n h q_42) = true then
  if hp_in (((3 : Int32) * v1) + v2) (hp_n h q_41) = true then
  xx_l (hp_si h q_41 ((((3 : Int32) * v1) + v2)).toNatClampNeg (hp_i h q_42 ((((3 : Int32) * v1) + v2)).toNatClampNeg)) fun h_45 =>
  xx_l (v2 + (1 : Int32)) fun v2_46 =>
  some (.inl (v2_46, h_45))
  else none
  else none))
noncomputable def f_M_plan_334 (v0 : Nat) (v1 : Int32) (v2 : Int32) (h : HP) : Option ((Int32 × HP) ⊕ (Int32 × HP)) :=
  xx_lp (fun s : (Int32 × HP) => f_M_plan_334b v0 v1 s.1 s.2) (v2, h)
noncomputable def f_M_plan_300b (v0 : Nat) (v1 : Int32) (h : HP) : Option ((Int32 × HP) ⊕ (Int32 × HP)) :=
  (if (hp_i h v0 34) ≤ v1 then
  ((f_M_plan_371 v0 h).map .inr)
  else
  ((hp_r h v0 16).bind fun q_30 =>
  (hp_r h v0 13).bind fun q_31 =>
  if hp_in v1 (hp_n h q_31) = true then
  if hp_in v1 (hp_n h q_30) = true then
  xx_l (hp_si h q_30 (v1).toNatClampNeg (hp_i h q_31 (v1).toNatClampNeg)) fun h_34 =>
  (hp_r h_34 v0 18).bind fun q_35 =>
  (hp_r h_34 v0 17).bind fun q_36 =>
  if hp_in v1 (hp_n h_34 q_36) = true then
  if hp_in v1 (hp_n h_34 q_35) = true then
  xx_l (hp_si h_34 q_35 (v1).toNatClampNeg (vp_nar .boolean (hp_i h_34 q_36 (v1).toNatClampNeg))) fun h_39 =>
  f_M_plan_334 v0 v1 (0 : Int32) h_39
  else none
  else none
  else none
  else none))
noncomputable def f_M_plan_300 (v0 : Nat) (v1 : Int32) (h : HP) : Option (Int32 × HP) :=
  xx_lp (fun s : (Int32 × HP) => f_M_plan_300b v0 s.1 s.2) (v1, h)
noncomputable def f_M_plan_298 (v0 : Nat) (h : HP) : Option (Int32 × HP) :=
  f_M_plan_300 v0 (0 : Int32) h
noncomputable def f_M_plan_260b (v0 : Nat) (v1 : Int32) (h : HP) : Option ((Int32 × HP) ⊕ (Int32 × HP)) :=
  (if (hp_i h v0 44) ≤ v1 then
  ((f_M_plan_298 v0 h).map .inr)
  else
  ((hp_r h v0 39).bind fun q_47 =>
  (hp_r h v0 36).bind fun q_48 =>
  if hp_in v1 (hp_n h q_48) = true then
  if hp_in v1 (hp_n h q_47) = true then
  xx_l (hp_si h q_47 (v1).toNatClampNeg (hp_i h q_48 (v1).toNatClampNeg)) fun h_51 =>
  (hp_r h_51 v0 40).bind fun q_52 =>
  (hp_r h_51 v0 37).bind fun q_53 =>
  if hp_in v1 (hp_n h_51 q_53) = true then
  if hp_in v1 (hp_n h_51 q_52) = true then
  xx_l (hp_si h_51 q_52 (v1).toNatClampNeg (hp_i h_51 q_53 (v1).toNatClampNeg)) fun h_56 =>
  xx_l (v1 + (1 : Int32)) fun v1_57 =>
  some (.inl (v1_57, h_56))
  else none
  else none
  else none
  else none))
noncomputable def f_M_plan_260 (v0 : Nat) (v1 : Int32) (h : HP) : Option (Int32 × HP) :=
  xx_lp (fun s : (Int32 × HP) => f_M_plan_260b v0 s.1 s.2) (v1, h)
noncomputable def f_M_plan_242 (v0 : Nat) (h : HP) : Option (Int32 × HP) :=
  xx_l (hp_si h v0 34 (hp_i h v0 26)) fun h_22 =>
  xx_l (hp_si h_22 v0 35 (hp_i h_22 v0 27)) fun h_23 =>
  f_M_plan_260 v0 (0 : Int32) h_23
noncomputable def f_M_plan_236 (v0 : Nat) (v1 : Int32) (h : HP) : Option ((Int32 × HP) ⊕ (Int32 × HP)) :=
  xx_l (v1 + (1 : Int32)) fun v1_60 =>
  some (.inl (v1_60, h))
noncomputable def f_M_plan_185b (v0 : Nat) (v1 : Int32) (v2 : Int32) (h : HP) : Option ((Int32 × HP) ⊕ ((Int32 × HP) ⊕ (Int32 × HP))) :=
  (hp_r h v0 11).bind fun q_58 =>
  if hp_in v1 (hp_n h q_58) = true then
  (if (hp_i h q_58 (v1).toNatClampNeg) ≤ v2 then
  ((f_M_plan_236 v0 v1 h).map .inr)
  else
  ((hp_r h v0 14).bind fun q_61 =>
  if hp_in (hp_i h v0 33) (hp_n h q_61) = true then
  xx_l (hp_si h q_61 ((hp_i h v0 33)).toNatClampNeg v1) fun h_63 =>
  (hp_r h_63 v0 15).bind fun q_64 =>
  (hp_r h_63 v0 12).bind fun q_65 =>
  if hp_in v1 (hp_n h_63 q_65) = true then
  if hp_in (hp_i h_63 v0 33) (hp_n h_63 q_64) = true then
  xx_l (hp_si h_63 q_64 ((hp_i h_63 v0 33)).toNatClampNeg (hp_i h_63 q_65 (v1).toNatClampNeg)) fun h_68 =>
  xx_l (hp_si h_68 v0 33 ((hp_i h_68 v0 33) + (1 : Int32))) fun h_69 =>
  xx_l (v2 + (1 : Int32)) fun v2_70 =>
  some (.inl (v2_70, h_69))
  else none
  else none
  else none))
  else none
noncomputable def f_M_plan_185 (v0 : Nat) (v1 : Int32) (v2 : Int32) (h : HP) : Option ((Int32 × HP) ⊕ (Int32 × HP)) :=
  xx_lp (fun s : (Int32 × HP) => f_M_plan_185b v0 v1 s.1 s.2) (v2, h)
noncomputable def f_M_plan_175b (v0 : Nat) (v1 : Int32) (h : HP) : Option ((Int32 × HP) ⊕ (Int32 × HP)) :=
  (if (hp_i h v0 32) ≤ v1 then
  ((f_M_plan_242 v0 h).map .inr)
  else
  (f_M_plan_185 v0 v1 (0 : Int32) h))
noncomputable def f_M_plan_175 (v0 : Nat) (v1 : Int32) (h : HP) : Option (Int32 × HP) :=
  xx_lp (fun s : (Int32 × HP) => f_M_plan_175b v0 s.1 s.2) (v1, h)
noncomputable def f_M_plan_119 (v0 : Nat) (h : HP) : Option (Int32 × HP) :=
  (if (hp_i h v0 2) ≤ 0 then
  (xx_l (hp_si h v0 28 (hp_i h v0 20)) fun h_16 =>
  xx_l (hp_si h_16 v0 29 (hp_i h_16 v0 21)) fun h_17 =>
  xx_l (hp_si h_17 v0 30 (hp_i h_17 v0 22)) fun h_18 =>
  xx_l (hp_si h_18 v0 31 (hp_i h_18 v0 23)) fun h_19 =>
  xx_l (hp_si h_19 v0 32 (hp_i h_19 v0 24)) fun h_20 =>
  xx_l (hp_si h_20 v0 33 (0 : Int32)) fun h_21 =>
  f_M_plan_175 v0 (0 : Int32) h_21)
  else
  (some ((-1 : Int32), h)))
noncomputable def f_M_plan_98b (v0 : Nat) (h : HP) : Option ((HP) ⊕ (Int32 × HP)) :=
  (if (hp_i h v0 2) = 0 then
  ((if (hp_i h v0 6) = 0 then
  ((f_M_plan_119 v0 h).map .inr)
  else
  ((f_M_readLine v0 h).bind fun x_71 =>
  some (.inl x_71))))
  else
  ((f_M_plan_119 v0 h).map .inr))
noncomputable def f_M_plan_98 (v0 : Nat) (h : HP) : Option (Int32 × HP) :=
  xx_lp (fun s : (HP) => f_M_plan_98b v0 s) h
noncomputable def f_M_plan_94 (v0 : Nat) (h : HP) : Option (Int32 × HP) :=
  (f_M_token v0 h).bind fun x_15 =>
  f_M_plan_98 v0 x_15
noncomputable def f_M_plan_76b (v0 : Nat) (v1 : Int32) (h : HP) : Option ((Int32 × HP) ⊕ (Int32 × HP)) :=
  (if (4 : Int32) ≤ v1 then
  ((f_M_plan_94 v0 h).map .inr)
  else
  ((hp_r h v0 19).bind fun q_72 =>
  if hp_in v1 (hp_n h q_72) = true then
  xx_l (hp_si h q_72 (v1).toNatClampNeg (vp_nar .boolean (0 : Int32))) fun h_74 =>
  xx_l (v1 + (1 : Int32)) fun v1_75 =>
  some (.inl (v1_75, h_74))
  else none))
noncomputable def f_M_plan_76 (v0 : Nat) (v1 : Int32) (h : HP) : Option (Int32 × HP) :=
  xx_lp (fun s : (Int32 × HP) => f_M_plan_76b v0 s.1 s.2) (v1, h)
noncomputable def f_M_plan (v0 : Nat) (h : HP) : Option (Int32 × HP) :=
  xx_l (hp_si h v0 5 (hp_i h v0 1)) fun h_1 =>
  xx_l (hp_si h_1 v0 1 (0 : Int32)) fun h_2 =>
  xx_l (hp_si h_2 v0 4 (0 : Int32)) fun h_3 =>
  xx_l (hp_si h_3 v0 2 (0 : Int32)) fun h_4 =>
  xx_l (hp_si h_4 v0 3 (-1 : Int32)) fun h_5 =>
  xx_l (hp_si h_5 v0 20 (1 : Int32)) fun h_6 =>
  xx_l (hp_si h_6 v0 21 (1 : Int32)) fun h_7 =>
  xx_l (hp_si h_7 v0 22 (99 : Int32)) fun h_8 =>
  xx_l (hp_si h_8 v0 23 (0 : Int32)) fun h_9 =>
  xx_l (hp_si h_9 v0 24 (0 : Int32)) fun h_10 =>
  xx_l (hp_si h_10 v0 25 (0 : Int32)) fun h_11 =>
  xx_l (hp_si h_11 v0 26 (0 : Int32)) fun h_12 =>
  xx_l (hp_si h_12 v0 27 (0 : Int32)) fun h_13 =>
  xx_l (hp_si h_13 v0 44 (0 : Int32)) fun h_14 =>
  f_M_plan_76 v0 (0 : Int32) h_14
/-! LampYardModel.fault(I)I -/
noncomputable def f_M_fault (v0 : Nat) (v1 : Int32) (h : HP) : Option (Int32 × HP) :=
  (if v1 = 0 then
  (some ((hp_i h v0 2), h))
  else
  ((if v1 = (1 : Int32) then
  (some ((hp_i h v0 3), h))
  else
  (some ((-1 : Int32), h)))))
/-! LampYardModel.full()I -/
noncomputable def f_M_full (v0 : Nat) (h : HP) : Option (Int32 × HP) :=
  some ((((1 : Int32) <<< ((hp_i h v0 28) &&& 31)) - (1 : Int32)), h)
/-! LampYardModel.isAll()Z -/
noncomputable def f_M_isAll_30 (v0 : Nat) (v2 : Int32) (s0 : Int32) (h : HP) : Option ((Int32 × Int32 × HP) ⊕ (Int32 × HP)) :=
  xx_l (v2 + (1 : Int32)) fun v2_2 =>
  some (.inl (s0, v2_2, h))
noncomputable def f_M_isAll_29 (v0 : Nat) (v2 : Int32) (h : HP) : Option ((Int32 × Int32 × HP) ⊕ (Int32 × HP)) :=
  f_M_isAll_30 v0 v2 (0 : Int32) h
noncomputable def f_M_isAll_4b (v0 : Nat) (v1 : Int32) (v2 : Int32) (h : HP) : Option ((Int32 × Int32 × HP) ⊕ (Int32 × HP)) :=
  (if (hp_i h v0 33) ≤ v2 then
  (if hp_z01 v1 = true then some (.inr (v1, h)) else none)
  else
  ((if v1 = 0 then
  (f_M_isAll_29 v0 v2 h)
  else
  ((hp_r h v0 50).bind fun q_3 =>
  if hp_in v2 (hp_n h q_3) = true then
  (if (hp_i h q_3 (v2).toNatClampNeg) = 0 then
  (f_M_isAll_29 v0 v2 h)
  else
  (f_M_isAll_30 v0 v2 (1 : Int32) h))
  else none))))
noncomputable def f_M_isAll_4 (v0 : Nat) (v1 : Int32) (v2 : Int32) (h : HP) : Option (Int32 × HP) :=
  xx_lp (fun s : (Int32 × Int32 × HP) => f_M_isAll_4b v0 s.1 s.2.1 s.2.2) (v1, v2, h)
noncomputable def f_M_isAll (v0 : Nat) (h : HP) : Option (Int32 × HP) :=
  f_M_isAll_4 v0 (1 : Int32) (0 : Int32) h
/-! LampYardModel.worked(III)I -/
noncomputable def f_M_worked (v0 : Int32) (v1 : Int32) (v2 : Int32) (h : HP) : Option (Int32 × HP) :=
  (if v0 = (20 : Int32) then
  ((if v1 = 0 then
  ((if v2 = 0 then
  (some ((0 : Int32), h))
  else
  (some ((1 : Int32), h))))
  else
  (some ((1 : Int32), h))))
  else
  (if v0 = (21 : Int32) then
  ((if v1 = 0 then
  (some ((0 : Int32), h))
  else
  ((if v2 = 0 then
  (some ((0 : Int32), h))
  else
  (some ((1 : Int32), h))))))
  else
  (if v0 = (22 : Int32) then
  (some ((v1 * v2), h))
  else
  (if v0 = (23 : Int32) then
  ((if v1 = v2 then
  (some ((1 : Int32), h))
  else
  (some ((0 : Int32), h))))
  else
  (if v0 = (24 : Int32) then
  ((if v2 ≤ v1 then
  (some ((0 : Int32), h))
  else
  (some ((1 : Int32), h))))
  else
  (if v0 = (25 : Int32) then
  ((if v1 ≤ v2 then
  (some ((0 : Int32), h))
  else
  (some ((1 : Int32), h))))
  else
  (if v0 = (26 : Int32) then
  (some ((v1 + v2), h))
  else
  (if v0 = (27 : Int32) then
  (some ((v1 - v2), h))
  else
  (some ((v1 * v2), h))))))))))
/-! LampYardModel.asked(II)I -/
noncomputable def f_M_asked (v0 : Nat) (v1 : Int32) (v2 : Int32) (h : HP) : Option (Int32 × HP) :=
  (hp_r h v0 39).bind fun q_1 =>
  if hp_in v1 (hp_n h q_1) = true then
  xx_l (hp_i h q_1 (v1).toNatClampNeg) fun w_3 =>
  (if w_3 = (0 : Int32) then
  ((hp_r h v0 40).bind fun q_4 =>
  if hp_in v1 (hp_n h q_4) = true then
  some ((hp_i h q_4 (v1).toNatClampNeg), h)
  else none)
  else
  (if w_3 = (1 : Int32) then
  (some ((hp_i h v0 51), h))
  else
  (if w_3 = (2 : Int32) then
  ((hp_r h v0 47).bind fun q_8 =>
  if hp_in v2 (hp_n h q_8) = true then
  some ((hp_i h q_8 (v2).toNatClampNeg), h)
  else none)
  else
  (if w_3 = (3 : Int32) then
  (some ((hp_i h v0 52), h))
  else
  (if w_3 = (4 : Int32) then
  ((hp_r h v0 48).bind fun q_12 =>
  if hp_in v2 (hp_n h q_12) = true then
  some ((hp_i h q_12 (v2).toNatClampNeg), h)
  else none)
  else
  (some ((hp_i h v0 33), h)))))))
  else none
/-! LampYardModel.worth(III)I -/
noncomputable def f_M_worth_143 (v0 : Nat) (v1 : Int32) (v2 : Int32) (v3 : Int32) (v4 : Int32) (v5 : Int32) (h : HP) : Option ((Int32 × Int32 × HP) ⊕ (Int32 × HP)) :=
  xx_l (v5 + (1 : Int32)) fun v5_17 =>
  some (.inl (v4, v5_17, h))
noncomputable def f_M_worth_101 (v0 : Nat) (v1 : Int32) (v2 : Int32) (v3 : Int32) (v4 : Int32) (v5 : Int32) (s0 : Int32) (s1 : Int32) (s2 : Nat) (h : HP) : Option ((Int32 × Int32 × HP) ⊕ (Int32 × HP)) :=
  if hp_in s1 (hp_n h s2) = true then
  xx_l (hp_si h s2 (s1).toNatClampNeg s0) fun h_16 =>
  f_M_worth_143 v0 v1 v2 v3 v4 v5 h_16
  else none
noncomputable def f_M_worth_15b (v0 : Nat) (v1 : Int32) (v2 : Int32) (v3 : Int32) (v4 : Int32) (v5 : Int32) (h : HP) : Option ((Int32 × Int32 × HP) ⊕ (Int32 × HP)) :=
  (hp_r h v0 41).bind fun q_4 =>
  if hp_in ((((3 : Int32) * v1) + v2) + (1 : Int32)) (hp_n h q_4) = true then
  (if (hp_i h q_4 (((((3 : Int32) * v1) + v2) + (1 : Int32))).toNatClampNeg) ≤ v5 then
  ((hp_r h v0 43).bind fun q_6 =>
  if hp_in (0 : Int32) (hp_n h q_6) = true then
  some (.inr ((hp_i h q_6 ((0 : Int32)).toNatClampNeg), h))
  else none)
  else
  ((hp_r h v0 39).bind fun q_8 =>
  if hp_in v5 (hp_n h q_8) = true then
  (if (20 : Int32) ≤ (hp_i h q_8 (v5).toNatClampNeg) then
  ((hp_r h v0 39).bind fun q_10 =>
  if hp_in v5 (hp_n h q_10) = true then
  (if (hp_i h q_10 (v5).toNatClampNeg) = (22 : Int32) then
  ((hp_r h v0 43).bind fun q_12 =>
  (hp_r h v0 43).bind fun q_13 =>
  if hp_in (v4 - (1 : Int32)) (hp_n h q_13) = true then
  (if (hp_i h q_13 ((v4 - (1 : Int32))).toNatClampNeg) = 0 then
  (f_M_worth_101 v0 v1 v2 v3 v4 v5 (1 : Int32) (v4 - (1 : Int32)) q_12 h)
  else
  (f_M_worth_101 v0 v1 v2 v3 v4 v5 (0 : Int32) (v4 - (1 : Int32)) q_12 h))
  else none)
  else
  (xx_l (v4 + (-1 : Int32)) fun v4_18 =>
  (hp_r h v0 43).bind fun q_19 =>
  (hp_r h v0 39).bind fun q_20 =>
  if hp_in v5 (hp_n h q_20) = true then
  (hp_r h v0 43).bind fun q_22 =>
  if hp_in (v4_18 - (1 : Int32)) (hp_n h q_22) = true then
  (hp_r h v0 43).bind fun q_24 =>
  if hp_in v4_18 (hp_n h q_24) = true then
  (f_M_worked (hp_i h q_20 (v5).toNatClampNeg) (hp_i h q_22 ((v4_18 - (1 : Int32))).toNatClampNeg) (hp_i h q_24 (v4_18).toNatClampNeg) h).bind fun x_26 =>
  if hp_in (v4_18 - (1 : Int32)) (hp_n x_26.2 q_19) = true then
  xx_l (hp_si x_26.2 q_19 ((v4_18 - (1 : Int32))).toNatClampNeg x_26.1) fun h_28 =>
  f_M_worth_143 v0 v1 v2 v3 v4_18 v5 h_28
  else none
  else none
  else none
  else none))
  else none)
  else
  ((hp_r h v0 43).bind fun q_29 =>
  (f_M_asked v0 v5 v3 h).bind fun x_30 =>
  if hp_in v4 (hp_n x_30.2 q_29) = true then
  xx_l (hp_si x_30.2 q_29 (v4).toNatClampNeg x_30.1) fun h_32 =>
  xx_l (v4 + (1 : Int32)) fun v4_33 =>
  f_M_worth_143 v0 v1 v2 v3 v4_33 v5 h_32
  else none))
  else none))
  else none
noncomputable def f_M_worth_15 (v0 : Nat) (v1 : Int32) (v2 : Int32) (v3 : Int32) (v4 : Int32) (v5 : Int32) (h : HP) : Option (Int32 × HP) :=
  xx_lp (fun s : (Int32 × Int32 × HP) => f_M_worth_15b v0 v1 v2 v3 s.1 s.2.1 s.2.2) (v4, v5, h)
noncomputable def f_M_worth (v0 : Nat) (v1 : Int32) (v2 : Int32) (v3 : Int32) (h : HP) : Option (Int32 × HP) :=
  (hp_r h v0 41).bind fun q_1 =>
  if hp_in (((3 : Int32) * v1) + v2) (hp_n h q_1) = true then
  xx_l (hp_i h q_1 ((((3 : Int32) * v1) + v2)).toNatClampNeg) fun v5_3 =>
  f_M_worth_15 v0 v1 v2 v3 (0 : Int32) v5_3 h
  else none
/-! LampYardModel.doRules(I)Z -/
noncomputable def f_M_doRules_112 (v0 : Nat) (v1 : Int32) (v2 : Int32) (v3 : Int32) (v4 : Int32) (s0 : Int32) (s1 : Nat) (h : HP) : Option (Int32 × HP) :=
  if hp_z01 s0 = true then
  xx_l (hp_si h s1 53 s0) fun h_6 =>
  xx_l (hp_si h_6 v0 51 v3) fun h_8 =>
  (hp_r h_8 v0 47).bind fun q_9 =>
  (if 0 ≤ v4 then
  ((if v4 ≤ (31 : Int32) then
  (if hp_in v1 (hp_n h_8 q_9) = true then
  xx_l (hp_si h_8 q_9 (v1).toNatClampNeg v4) fun h_11 =>
  (hp_r h_11 v0 18).bind fun q_12 =>
  if hp_in v2 (hp_n h_11 q_12) = true then
  if hp_z01 (hp_i h_11 q_12 (v2).toNatClampNeg) = true then some ((hp_i h_11 q_12 (v2).toNatClampNeg), h_11) else none
  else none
  else none)
  else
  (if hp_in v1 (hp_n h_8 q_9) = true then
  xx_l (hp_si h_8 q_9 (v1).toNatClampNeg (31 : Int32)) fun h_16 =>
  (hp_r h_16 v0 18).bind fun q_17 =>
  if hp_in v2 (hp_n h_16 q_17) = true then
  if hp_z01 (hp_i h_16 q_17 (v2).toNatClampNeg) = true then some ((hp_i h_16 q_17 (v2).toNatClampNeg), h_16) else none
  else none
  else none)))
  else
  (if hp_in v1 (hp_n h_8 q_9) = true then
  xx_l (hp_si h_8 q_9 (v1).toNatClampNeg (0 : Int32)) fun h_21 =>
  (hp_r h_21 v0 18).bind fun q_22 =>
  if hp_in v2 (hp_n h_21 q_22) = true then
  if hp_z01 (hp_i h_21 q_22 (v2).toNatClampNeg) = true then some ((hp_i h_21 q_22 (v2).toNatClampNeg), h_21) else none
  else none
  else none))
  else none
noncomputable def f_M_doRules_57 (v0 : Nat) (v1 : Int32) (v2 : Int32) (h : HP) : Option (Int32 × HP) :=
  xx_l (hp_si h v0 53 (0 : Int32)) fun h_2 =>
  (if v2 = (hp_i h_2 v0 34) then
  (some ((0 : Int32), h_2))
  else
  ((f_M_worth v0 v2 (1 : Int32) v1 h_2).bind fun x_3 =>
  xx_l (x_3.1 &&& (((1 : Int32) <<< ((hp_i x_3.2 v0 28) &&& 31)) - (1 : Int32))) fun v3_4 =>
  (f_M_worth v0 v2 (2 : Int32) v1 x_3.2).bind fun x_5 =>
  (if v3_4 = (hp_i x_5.2 v0 51) then
  (f_M_doRules_112 v0 v1 v2 v3_4 x_5.1 (0 : Int32) v0 x_5.2)
  else
  (f_M_doRules_112 v0 v1 v2 v3_4 x_5.1 (1 : Int32) v0 x_5.2))))
noncomputable def f_M_doRules_51 (v0 : Nat) (v1 : Int32) (v2 : Int32) (h : HP) : Option ((Int32 × HP) ⊕ (Int32 × HP)) :=
  xx_l (v2 + (1 : Int32)) fun v2_30 =>
  some (.inl (v2_30, h))
noncomputable def f_M_doRules_18b (v0 : Nat) (v1 : Int32) (v2 : Int32) (h : HP) : Option ((Int32 × HP) ⊕ (Int32 × HP)) :=
  (if (hp_i h v0 34) ≤ v2 then
  ((f_M_doRules_57 v0 v1 v2 h).map .inr)
  else
  ((hp_r h v0 16).bind fun q_25 =>
  if hp_in v2 (hp_n h q_25) = true then
  (hp_r h v0 14).bind fun q_27 =>
  if hp_in v1 (hp_n h q_27) = true then
  (if (hp_i h q_25 (v2).toNatClampNeg) = (hp_i h q_27 (v1).toNatClampNeg) then
  ((f_M_worth v0 v2 (0 : Int32) v1 h).bind fun x_29 =>
  (if x_29.1 = 0 then
  (f_M_doRules_51 v0 v1 v2 x_29.2)
  else
  ((f_M_doRules_57 v0 v1 v2 x_29.2).map .inr)))
  else
  (f_M_doRules_51 v0 v1 v2 h))
  else none
  else none))
noncomputable def f_M_doRules_18 (v0 : Nat) (v1 : Int32) (v2 : Int32) (h : HP) : Option (Int32 × HP) :=
  xx_lp (fun s : (Int32 × HP) => f_M_doRules_18b v0 v1 s.1 s.2) (v2, h)
noncomputable def f_M_doRules_16 (v0 : Nat) (v1 : Int32) (h : HP) : Option (Int32 × HP) :=
  f_M_doRules_18 v0 v1 (0 : Int32) h
noncomputable def f_M_doRules (v0 : Nat) (v1 : Int32) (h : HP) : Option (Int32 × HP) :=
  (if (hp_i h v0 52) = (hp_i h v0 30) then
  (xx_l (hp_si h v0 51 (0 : Int32)) fun h_1 =>
  f_M_doRules_16 v0 v1 h_1)
  else
  (f_M_doRules_16 v0 v1 h))
/-! LampYardModel.go(I)I -/
noncomputable def f_M_go_59 (v0 : Nat) (v1 : Int32) (v3 : Int32) (s0 : Int32) (s1 : Int32) (s2 : Nat) (h : HP) : Option (Int32 × HP) :=
  if hp_in s1 (hp_n h s2) = true then
  xx_l (hp_si h s2 (s1).toNatClampNeg s0) fun h_13 =>
  (hp_r h_13 v0 50).bind fun q_14 =>
  if hp_in v1 (hp_n h_13 q_14) = true then
  xx_l (hp_si h_13 q_14 (v1).toNatClampNeg (vp_nar .boolean (1 : Int32))) fun h_16 =>
  if ¬ ((hp_i h_16 v0 29) = 0) then
  xx_l (hp_si h_16 v0 52 (((hp_i h_16 v0 52) + (1 : Int32)) - ((hp_i h_16 v0 52) + (1 : Int32)) / (hp_i h_16 v0 29) * (hp_i h_16 v0 29))) fun h_18 =>
  (if v3 = 0 then
  (some ((0 : Int32), h_18))
  else
  ((f_M_isAll v0 h_18).bind fun x_19 =>
  (if x_19.1 = 0 then
  (some ((2 : Int32), x_19.2))
  else
  (some ((1 : Int32), x_19.2)))))
  else none
  else none
  else none
noncomputable def f_M_go_29 (v0 : Nat) (v1 : Int32) (v3 : Int32) (s0 : Int32) (s1 : Nat) (h : HP) : Option (Int32 × HP) :=
  if hp_z01 s0 = true then
  xx_l (hp_si h s1 54 s0) fun h_7 =>
  (hp_r h_7 v0 48).bind fun q_9 =>
  (hp_r h_7 v0 48).bind fun q_10 =>
  if hp_in v1 (hp_n h_7 q_10) = true then
  (if (3 : Int32) ≤ (hp_i h_7 q_10 (v1).toNatClampNeg) then
  (f_M_go_59 v0 v1 v3 (3 : Int32) v1 q_9 h_7)
  else
  ((hp_r h_7 v0 48).bind fun q_20 =>
  if hp_in v1 (hp_n h_7 q_20) = true then
  f_M_go_59 v0 v1 v3 ((hp_i h_7 q_20 (v1).toNatClampNeg) + (1 : Int32)) v1 q_9 h_7
  else none))
  else none
  else none
noncomputable def f_M_go (v0 : Nat) (v1 : Int32) (h : HP) : Option (Int32 × HP) :=
  (hp_r h v0 47).bind fun q_1 =>
  if hp_in v1 (hp_n h q_1) = true then
  xx_l (hp_i h q_1 (v1).toNatClampNeg) fun v2_3 =>
  (f_M_doRules v0 v1 h).bind fun x_4 =>
  (hp_r x_4.2 v0 47).bind fun q_5 =>
  if hp_in v1 (hp_n x_4.2 q_5) = true then
  (if (hp_i x_4.2 q_5 (v1).toNatClampNeg) = v2_3 then
  (f_M_go_29 v0 v1 x_4.1 (0 : Int32) v0 x_4.2)
  else
  (f_M_go_29 v0 v1 x_4.1 (1 : Int32) v0 x_4.2))
  else none
  else none
/-! LampYardModel.forgetAt(I)V -/
noncomputable def f_M_forgetAt (v0 : Nat) (v1 : Int32) (h : HP) : Option HP :=
  (hp_r h v0 47).bind fun q_1 =>
  (hp_r h v0 15).bind fun q_2 =>
  if hp_in v1 (hp_n h q_2) = true then
  if hp_in v1 (hp_n h q_1) = true then
  xx_l (hp_si h q_1 (v1).toNatClampNeg (hp_i h q_2 (v1).toNatClampNeg)) fun h_5 =>
  (hp_r h_5 v0 48).bind fun q_6 =>
  if hp_in v1 (hp_n h_5 q_6) = true then
  xx_l (hp_si h_5 q_6 (v1).toNatClampNeg (0 : Int32)) fun h_8 =>
  some h_8
  else none
  else none
  else none
/-! LampYardModel.put()V -/
noncomputable def f_M_put_18b (v0 : Nat) (v1 : Int32) (h : HP) : Option ((Int32 × HP) ⊕ HP) :=
  (if (6 : Int32) ≤ v1 then
  (some (.inr h))
  else
  ((hp_r h v0 57).bind fun q_3 =>
  (hp_r h v0 47).bind fun q_4 =>
  if hp_in v1 (hp_n h q_4) = true then
  if hp_in v1 (hp_n h q_3) = true then
  xx_l (hp_si h q_3 (v1).toNatClampNeg (hp_i h q_4 (v1).toNatClampNeg)) fun h_7 =>
  (hp_r h_7 v0 58).bind fun q_8 =>
  (hp_r h_7 v0 48).bind fun q_9 =>
  if hp_in v1 (hp_n h_7 q_9) = true then
  if hp_in v1 (hp_n h_7 q_8) = true then
  xx_l (hp_si h_7 q_8 (v1).toNatClampNeg (hp_i h_7 q_9 (v1).toNatClampNeg)) fun h_12 =>
  (hp_r h_12 v0 59).bind fun q_13 =>
  (hp_r h_12 v0 50).bind fun q_14 =>
  if hp_in v1 (hp_n h_12 q_14) = true then
  if hp_in v1 (hp_n h_12 q_13) = true then
  xx_l (hp_si h_12 q_13 (v1).toNatClampNeg (vp_nar .boolean (hp_i h_12 q_14 (v1).toNatClampNeg))) fun h_17 =>
  xx_l (v1 + (1 : Int32)) fun v1_18 =>
  some (.inl (v1_18, h_17))
  else none
  else none
  else none
  else none
  else none
  else none))
noncomputable def f_M_put_18 (v0 : Nat) (v1 : Int32) (h : HP) : Option HP :=
  xx_lp (fun s : (Int32 × HP) => f_M_put_18b v0 s.1 s.2) (v1, h)
noncomputable def f_M_put (v0 : Nat) (h : HP) : Option HP :=
  xx_l (hp_si h v0 60 (hp_i h v0 51)) fun h_1 =>
  xx_l (hp_si h_1 v0 61 (hp_i h_1 v0 52)) fun h_2 =>
  f_M_put_18 v0 (0 : Int32) h_2
/-! LampYardModel.bring()V -/
noncomputable def f_M_bring_18b (v0 : Nat) (v1 : Int32) (h : HP) : Option ((Int32 × HP) ⊕ HP) :=
  (if (6 : Int32) ≤ v1 then
  (some (.inr h))
  else
  ((hp_r h v0 47).bind fun q_3 =>
  (hp_r h v0 57).bind fun q_4 =>
  if hp_in v1 (hp_n h q_4) = true then
  if hp_in v1 (hp_n h q_3) = true then
  xx_l (hp_si h q_3 (v1).toNatClampNeg (hp_i h q_4 (v1).toNatClampNeg)) fun h_7 =>
  (hp_r h_7 v0 48).bind fun q_8 =>
  (hp_r h_7 v0 58).bind fun q_9 =>
  if hp_in v1 (hp_n h_7 q_9) = true then
  if hp_in v1 (hp_n h_7 q_8) = true then
  xx_l (hp_si h_7 q_8 (v1).toNatClampNeg (hp_i h_7 q_9 (v1).toNatClampNeg)) fun h_12 =>
  (hp_r h_12 v0 50).bind fun q_13 =>
  (hp_r h_12 v0 59).bind fun q_14 =>
  if hp_in v1 (hp_n h_12 q_14) = true then
  if hp_in v1 (hp_n h_12 q_13) = true then
  xx_l (hp_si h_12 q_13 (v1).toNatClampNeg (vp_nar .boolean (hp_i h_12 q_14 (v1).toNatClampNeg))) fun h_17 =>
  xx_l (v1 + (1 : Int32)) fun v1_18 =>
  some (.inl (v1_18, h_17))
  else none
  else none
  else none
  else none
  else none
  else none))
noncomputable def f_M_bring_18 (v0 : Nat) (v1 : Int32) (h : HP) : Option HP :=
  xx_lp (fun s : (Int32 × HP) => f_M_bring_18b v0 s.1 s.2) (v1, h)
noncomputable def f_M_bring (v0 : Nat) (h : HP) : Option HP :=
  xx_l (hp_si h v0 51 (hp_i h v0 60)) fun h_1 =>
  xx_l (hp_si h_1 v0 52 (hp_i h_1 v0 61)) fun h_2 =>
  f_M_bring_18 v0 (0 : Int32) h_2
/-! LampYardModel.isLight(I)Z -/
noncomputable def f_M_isLight (v0 : Nat) (v1 : Int32) (h : HP) : Option (Int32 × HP) :=
  (if v1 < 0 then
  (some ((0 : Int32), h))
  else
  ((if ((1 : Int32) <<< ((hp_i h v0 28) &&& 31)) ≤ v1 then
  (some ((0 : Int32), h))
  else
  (some ((1 : Int32), h)))))
/-! LampYardModel.isMan(I)Z -/
noncomputable def f_M_isMan (v0 : Nat) (v1 : Int32) (h : HP) : Option (Int32 × HP) :=
  (if v1 < 0 then
  (some ((0 : Int32), h))
  else
  ((if (hp_i h v0 33) ≤ v1 then
  (some ((0 : Int32), h))
  else
  (some ((1 : Int32), h)))))
/-! LampYardModel.begin(I)Z -/
noncomputable def f_M_begin (v0 : Nat) (v1 : Int32) (h : HP) : Option (Int32 × HP) :=
  (f_M_isLight v0 v1 h).bind fun x_1 =>
  (if x_1.1 = 0 then
  (some ((0 : Int32), x_1.2))
  else
  ((f_M_beginWith v0 v1 x_1.2).bind fun x_2 =>
  some ((1 : Int32), x_2)))
/-! LampYardModel.lead(I)I -/
noncomputable def f_M_lead_52 (v0 : Nat) (v2 : Int32) (s0 : Int32) (s1 : Int32) (s2 : Int32) (s3 : Nat) (h : HP) : Option (Int32 × HP) :=
  if hp_in s2 (hp_n h s3) = true then
  xx_l (hp_si h s3 (s2).toNatClampNeg (s1 + s0)) fun h_6 =>
  xx_l (hp_si h_6 v0 55 ((hp_i h_6 v0 55) + (1 : Int32))) fun h_7 =>
  (if v2 = 0 then
  (xx_l (hp_si h_7 v0 56 (0 : Int32)) fun h_8 =>
  some (v2, h_8))
  else
  (xx_l (hp_si h_7 v0 56 (1 : Int32)) fun h_9 =>
  some (v2, h_9)))
  else none
noncomputable def f_M_lead (v0 : Nat) (v1 : Int32) (h : HP) : Option (Int32 × HP) :=
  (f_M_isMan v0 v1 h).bind fun x_1 =>
  (if x_1.1 = 0 then
  (some ((-1 : Int32), x_1.2))
  else
  ((if (hp_i x_1.2 v0 56) = 0 then
  ((if (hp_i x_1.2 v0 55) = (10000 : Int32) then
  (some ((-1 : Int32), x_1.2))
  else
  ((f_M_go v0 v1 x_1.2).bind fun x_2 =>
  (hp_r x_2.2 v0 49).bind fun q_3 =>
  if hp_in v1 (hp_n x_2.2 q_3) = true then
  (if (hp_i x_2.2 v0 53) = 0 then
  (f_M_lead_52 v0 x_2.1 (0 : Int32) (hp_i x_2.2 q_3 (v1).toNatClampNeg) v1 q_3 x_2.2)
  else
  (f_M_lead_52 v0 x_2.1 (1 : Int32) (hp_i x_2.2 q_3 (v1).toNatClampNeg) v1 q_3 x_2.2))
  else none)))
  else
  (some ((-1 : Int32), x_1.2)))))
/-! LampYardModel.forget(I)Z -/
noncomputable def f_M_forget (v0 : Nat) (v1 : Int32) (h : HP) : Option (Int32 × HP) :=
  (f_M_isMan v0 v1 h).bind fun x_1 =>
  (if x_1.1 = 0 then
  (some ((0 : Int32), x_1.2))
  else
  ((if (hp_i x_1.2 v0 56) = 0 then
  ((f_M_forgetAt v0 v1 x_1.2).bind fun x_2 =>
  some ((1 : Int32), x_2))
  else
  (some ((0 : Int32), x_1.2)))))
/-! LampYardModel.dark(I)I -/
noncomputable def f_M_dark (v0 : Nat) (v1 : Int32) (h : HP) : Option (Int32 × HP) :=
  (f_M_isLight v0 v1 h).bind fun x_1 =>
  (if x_1.1 = 0 then
  (some ((-1 : Int32), x_1.2))
  else
  ((if (hp_i x_1.2 v0 56) = 0 then
  (xx_l (hp_i x_1.2 v0 51) fun v2_2 =>
  xx_l (hp_si x_1.2 v0 51 v1) fun h_3 =>
  some (v2_2, h_3))
  else
  (some ((-1 : Int32), x_1.2)))))
/-! LampYardModel.man(II)I -/
noncomputable def f_M_man (v0 : Nat) (v1 : Int32) (v2 : Int32) (h : HP) : Option (Int32 × HP) :=
  (f_M_isMan v0 v1 h).bind fun x_1 =>
  (if x_1.1 = 0 then
  (some ((-1 : Int32), x_1.2))
  else
  ((if v2 = (0 : Int32) then
  ((hp_r x_1.2 v0 14).bind fun q_2 =>
  if hp_in v1 (hp_n x_1.2 q_2) = true then
  some ((hp_i x_1.2 q_2 (v1).toNatClampNeg), x_1.2)
  else none)
  else
  (if v2 = (1 : Int32) then
  ((hp_r x_1.2 v0 47).bind fun q_5 =>
  if hp_in v1 (hp_n x_1.2 q_5) = true then
  some ((hp_i x_1.2 q_5 (v1).toNatClampNeg), x_1.2)
  else none)
  else
  (if v2 = (2 : Int32) then
  ((hp_r x_1.2 v0 48).bind fun q_8 =>
  if hp_in v1 (hp_n x_1.2 q_8) = true then
  some ((hp_i x_1.2 q_8 (v1).toNatClampNeg), x_1.2)
  else none)
  else
  (if v2 = (3 : Int32) then
  ((hp_r x_1.2 v0 50).bind fun q_11 =>
  if hp_in v1 (hp_n x_1.2 q_11) = true then
  (if (hp_i x_1.2 q_11 (v1).toNatClampNeg) = 0 then
  (some ((0 : Int32), x_1.2))
  else
  (some ((1 : Int32), x_1.2)))
  else none)
  else
  (if v2 = (4 : Int32) then
  ((hp_r x_1.2 v0 49).bind fun q_14 =>
  if hp_in v1 (hp_n x_1.2 q_14) = true then
  some ((hp_i x_1.2 q_14 (v1).toNatClampNeg), x_1.2)
  else none)
  else
  (some ((-1 : Int32), x_1.2)))))))))
/-! LampYardModel.packed()J -/
noncomputable def f_M_packed_69 (v0 : Nat) (v3 : Int32) (s0 : Int32) (s1 : Int32) (s2 : Int64) (h : HP) : Option ((Int64 × Int32 × HP) ⊕ (Int64 × HP)) :=
  xx_l (s2 ||| (((s1 ||| s0)).toInt64 <<< ((((7 : Int32) + ((8 : Int32) * v3))).toInt64 &&& 63))) fun v1_8 =>
  xx_l (v3 + (1 : Int32)) fun v3_9 =>
  some (.inl (v1_8, v3_9, h))
noncomputable def f_M_packed_31b (v0 : Nat) (v1 : Int64) (v3 : Int32) (h : HP) : Option ((Int64 × Int32 × HP) ⊕ (Int64 × HP)) :=
  (if (6 : Int32) ≤ v3 then
  (some (.inr (v1, h)))
  else
  ((hp_r h v0 47).bind fun q_2 =>
  if hp_in v3 (hp_n h q_2) = true then
  (hp_r h v0 48).bind fun q_4 =>
  if hp_in v3 (hp_n h q_4) = true then
  (hp_r h v0 50).bind fun q_6 =>
  if hp_in v3 (hp_n h q_6) = true then
  (if (hp_i h q_6 (v3).toNatClampNeg) = 0 then
  (f_M_packed_69 v0 v3 (0 : Int32) ((hp_i h q_2 (v3).toNatClampNeg) ||| ((hp_i h q_4 (v3).toNatClampNeg) <<< ((5 : Int32) &&& 31))) v1 h)
  else
  (f_M_packed_69 v0 v3 (128 : Int32) ((hp_i h q_2 (v3).toNatClampNeg) ||| ((hp_i h q_4 (v3).toNatClampNeg) <<< ((5 : Int32) &&& 31))) v1 h))
  else none
  else none
  else none))
noncomputable def f_M_packed_31 (v0 : Nat) (v1 : Int64) (v3 : Int32) (h : HP) : Option (Int64 × HP) :=
  xx_lp (fun s : (Int64 × Int32 × HP) => f_M_packed_31b v0 s.1 s.2.1 s.2.2) (v1, v3, h)
noncomputable def f_M_packed_27 (v0 : Nat) (s0 : Int64) (s1 : Int64) (h : HP) : Option (Int64 × HP) :=
  xx_l (s1 ||| s0) fun v1_1 =>
  f_M_packed_31 v0 v1_1 (0 : Int32) h
noncomputable def f_M_packed (v0 : Nat) (h : HP) : Option (Int64 × HP) :=
  (if (hp_i h v0 67) = 0 then
  (f_M_packed_27 v0 (0 : Int64) (((hp_i h v0 51)).toInt64 ||| (((hp_i h v0 52)).toInt64 <<< (((2 : Int32)).toInt64 &&& 63))) h)
  else
  (f_M_packed_27 v0 (64 : Int64) (((hp_i h v0 51)).toInt64 ||| (((hp_i h v0 52)).toInt64 <<< (((2 : Int32)).toInt64 &&& 63))) h))
/-! LampYardModel.unpack(J)V -/
noncomputable def f_M_unpack_106 (v0 : Nat) (v1 : Int64) (v3 : Int32) (s0 : Int32) (s1 : Int32) (s2 : Nat) (h : HP) : Option ((Int32 × HP) ⊕ HP) :=
  if hp_in s1 (hp_n h s2) = true then
  xx_l (hp_si h s2 (s1).toNatClampNeg (vp_nar .boolean s0)) fun h_14 =>
  xx_l (v3 + (1 : Int32)) fun v3_15 =>
  some (.inl (v3_15, h_14))
  else none
noncomputable def f_M_unpack_43b (v0 : Nat) (v1 : Int64) (v3 : Int32) (h : HP) : Option ((Int32 × HP) ⊕ HP) :=
  (if (6 : Int32) ≤ v3 then
  (some (.inr h))
  else
  (xx_l (((v1 >>> ((((7 : Int32) + ((8 : Int32) * v3))).toInt64 &&& 63)) &&& (255 : Int64))).toInt32 fun v4_5 =>
  (hp_r h v0 47).bind fun q_6 =>
  if hp_in v3 (hp_n h q_6) = true then
  xx_l (hp_si h q_6 (v3).toNatClampNeg (v4_5 &&& (31 : Int32))) fun h_8 =>
  (hp_r h_8 v0 48).bind fun q_9 =>
  if hp_in v3 (hp_n h_8 q_9) = true then
  xx_l (hp_si h_8 q_9 (v3).toNatClampNeg ((v4_5 >>> ((5 : Int32) &&& 31)) &&& (3 : Int32))) fun h_11 =>
  (hp_r h_11 v0 50).bind fun q_12 =>
  (if v4_5 < (128 : Int32) then
  (f_M_unpack_106 v0 v1 v3 (0 : Int32) v3 q_12 h_11)
  else
  (f_M_unpack_106 v0 v1 v3 (1 : Int32) v3 q_12 h_11))
  else none
  else none))
noncomputable def f_M_unpack_43 (v0 : Nat) (v1 : Int64) (v3 : Int32) (h : HP) : Option HP :=
  xx_lp (fun s : (Int32 × HP) => f_M_unpack_43b v0 v1 s.1 s.2) (v3, h)
noncomputable def f_M_unpack_38 (v0 : Nat) (v1 : Int64) (s0 : Int32) (s1 : Nat) (h : HP) : Option HP :=
  if hp_z01 s0 = true then
  xx_l (hp_si h s1 67 s0) fun h_3 =>
  f_M_unpack_43 v0 v1 (0 : Int32) h_3
  else none
noncomputable def f_M_unpack (v0 : Nat) (v1 : Int64) (h : HP) : Option HP :=
  xx_l (hp_si h v0 51 ((v1 &&& (3 : Int64))).toInt32) fun h_1 =>
  xx_l (hp_si h_1 v0 52 (((v1 >>> (((2 : Int32)).toInt64 &&& 63)) &&& (15 : Int64))).toInt32) fun h_2 =>
  (if (lg_cmp (v1 &&& (64 : Int64)) (0 : Int64)) = 0 then
  (f_M_unpack_38 v0 v1 (0 : Int32) v0 h_2)
  else
  (f_M_unpack_38 v0 v1 (1 : Int32) v0 h_2))
/-! LampYardModel.slotOf(J)I -/
noncomputable def f_M_slotOf (v0 : Int64) (h : HP) : Option (Int32 × HP) :=
  xx_l (v0 * (-7046029254386353131 : Int64)) fun v2_1 =>
  some (((((v2_1).toUInt64 >>> (((50 : Int32)).toInt64.toUInt64 &&& Int64.toUInt64 63)).toInt64).toInt32 - (((v2_1).toUInt64 >>> (((50 : Int32)).toInt64.toUInt64 &&& Int64.toUInt64 63)).toInt64).toInt32 / (16384 : Int32) * (16384 : Int32)), h)
/-! LampYardModel.number()I -/
noncomputable def f_M_number_48 (v0 : Nat) (v1 : Int64) (v3 : Int32) (h : HP) : Option (Int32 × HP) :=
  (hp_r h v0 63).bind fun q_5 =>
  if hp_in v3 (hp_n h q_5) = true then
  (if (hp_i h q_5 (v3).toNatClampNeg) ≤ 0 then
  ((if (hp_i h v0 65) = (5000 : Int32) then
  (xx_l (hp_si h v0 66 (1 : Int32)) fun h_7 =>
  some ((-1 : Int32), h_7))
  else
  ((hp_r h v0 62).bind fun q_8 =>
  if hp_in (hp_i h v0 65) (hp_n h q_8) = true then
  xx_l (hp_sl h q_8 ((hp_i h v0 65)).toNatClampNeg v1) fun h_10 =>
  xx_l (hp_si h_10 v0 65 ((hp_i h_10 v0 65) + (1 : Int32))) fun h_11 =>
  (hp_r h_11 v0 63).bind fun q_12 =>
  if hp_in v3 (hp_n h_11 q_12) = true then
  xx_l (hp_si h_11 q_12 (v3).toNatClampNeg (hp_i h_11 v0 65)) fun h_14 =>
  some (((hp_i h_14 v0 65) - (1 : Int32)), h_14)
  else none
  else none)))
  else
  ((hp_r h v0 63).bind fun q_15 =>
  if hp_in v3 (hp_n h q_15) = true then
  some (((hp_i h q_15 (v3).toNatClampNeg) - (1 : Int32)), h)
  else none))
  else none
noncomputable def f_M_number_10b (v0 : Nat) (v1 : Int64) (v3 : Int32) (h : HP) : Option ((Int32 × HP) ⊕ (Int32 × HP)) :=
  (hp_r h v0 63).bind fun q_3 =>
  if hp_in v3 (hp_n h q_3) = true then
  (if (hp_i h q_3 (v3).toNatClampNeg) ≤ 0 then
  ((f_M_number_48 v0 v1 v3 h).map .inr)
  else
  ((hp_r h v0 62).bind fun q_17 =>
  (hp_r h v0 63).bind fun q_18 =>
  if hp_in v3 (hp_n h q_18) = true then
  if hp_in ((hp_i h q_18 (v3).toNatClampNeg) - (1 : Int32)) (hp_n h q_17) = true then
  (if (lg_cmp (hp_l h q_17 (((hp_i h q_18 (v3).toNatClampNeg) - (1 : Int32))).toNatClampNeg) v1) = 0 then
  ((f_M_number_48 v0 v1 v3 h).map .inr)
  else
  (xx_l ((v3 + (1 : Int32)) - (v3 + (1 : Int32)) / (16384 : Int32) * (16384 : Int32)) fun v3_21 =>
  some (.inl (v3_21, h))))
  else none
  else none))
  else none
noncomputable def f_M_number_10 (v0 : Nat) (v1 : Int64) (v3 : Int32) (h : HP) : Option (Int32 × HP) :=
  xx_lp (fun s : (Int32 × HP) => f_M_number_10b v0 v1 s.1 s.2) (v3, h)
noncomputable def f_M_number (v0 : Nat) (h : HP) : Option (Int32 × HP) :=
  (f_M_packed v0 h).bind fun x_1 =>
  (f_M_slotOf x_1.1 x_1.2).bind fun x_2 =>
  f_M_number_10 v0 x_1.1 x_2.1 x_2.2
/-! LampYardModel.isStart(I)Z -/
noncomputable def f_M_isStart_37 (s0 : Int32) (s1 : Int32) (h : HP) : Option (Int32 × HP) :=
  (if s1 = s0 then
  (some ((1 : Int32), h))
  else
  (some ((0 : Int32), h)))
noncomputable def f_M_isStart (v0 : Nat) (v1 : Int32) (h : HP) : Option (Int32 × HP) :=
  (f_M_full v0 h).bind fun x_1 =>
  (if x_1.1 < v1 then
  (some ((0 : Int32), x_1.2))
  else
  ((if v1 < 0 then
  (some ((0 : Int32), x_1.2))
  else
  ((if (hp_i x_1.2 v0 31) = (2 : Int32) then
  (some ((1 : Int32), x_1.2))
  else
  ((if (hp_i x_1.2 v0 31) = (1 : Int32) then
  ((f_M_full v0 x_1.2).bind fun x_2 =>
  f_M_isStart_37 x_2.1 v1 x_2.2)
  else
  (f_M_isStart_37 (0 : Int32) v1 x_1.2))))))))
/-! LampYardModel.doFault(II)V -/
noncomputable def f_M_doFault (v0 : Nat) (v1 : Int32) (v2 : Int32) (h : HP) : Option HP :=
  xx_l (hp_si h v0 67 (1 : Int32)) fun h_1 =>
  (if v1 = 0 then
  ((f_M_forgetAt v0 v2 h_1).bind fun x_2 =>
  some x_2)
  else
  ((if v1 = (1 : Int32) then
  (xx_l (hp_si h_1 v0 51 (0 : Int32)) fun h_3 =>
  some h_3)
  else
  (xx_l (hp_si h_1 v0 51 ((hp_i h_1 v0 51) ^^^ (1 : Int32))) fun h_4 =>
  some h_4))))
/-! LampYardModel.follow(II)V -/
noncomputable def f_M_follow_121b (v0 : Nat) (v2 : Int32) (v3 : Int64) (v6 : Int32) (v7 : Int32) (h : HP) : Option ((Int32 × HP) ⊕ HP) :=
  (if v6 ≤ v7 then
  (some (.inr h))
  else
  ((if (hp_i h v0 66) = 0 then
  ((f_M_unpack v0 v3 h).bind fun x_5 =>
  (f_M_doFault v0 v2 v7 x_5).bind fun x_6 =>
  (f_M_number v0 x_6).bind fun x_7 =>
  xx_l (v7 + (1 : Int32)) fun v7_8 =>
  some (.inl (v7_8, x_7.2)))
  else
  (some (.inr h)))))
noncomputable def f_M_follow_121 (v0 : Nat) (v2 : Int32) (v3 : Int64) (v6 : Int32) (v7 : Int32) (h : HP) : Option HP :=
  xx_lp (fun s : (Int32 × HP) => f_M_follow_121b v0 v2 v3 v6 s.1 s.2) (v7, h)
noncomputable def f_M_follow_116 (v0 : Nat) (v2 : Int32) (v3 : Int64) (s0 : Int32) (h : HP) : Option HP :=
  f_M_follow_121 v0 v2 v3 s0 (0 : Int32) h
noncomputable def f_M_follow_83 (v0 : Nat) (v2 : Int32) (v3 : Int64) (h : HP) : Option HP :=
  (f_M_unpack v0 v3 h).bind fun x_4 =>
  (if v2 = (-1 : Int32) then
  (some x_4)
  else
  ((if (hp_i x_4 v0 67) = 0 then
  ((if v2 = 0 then
  (f_M_follow_116 v0 v2 v3 (hp_i x_4 v0 33) x_4)
  else
  (f_M_follow_116 v0 v2 v3 (1 : Int32) x_4)))
  else
  (some x_4))))
noncomputable def f_M_follow_76 (v0 : Nat) (v1 : Int32) (v2 : Int32) (v3 : Int64) (v5 : Int32) (s0 : Int32) (s1 : Int32) (s2 : Nat) (h : HP) : Option ((Int32 × HP) ⊕ HP) :=
  if hp_in s1 (hp_n h s2) = true then
  xx_l (hp_si h s2 (s1).toNatClampNeg s0) fun h_13 =>
  xx_l (v5 + (1 : Int32)) fun v5_14 =>
  some (.inl (v5_14, h_13))
  else none
noncomputable def f_M_follow_10b (v0 : Nat) (v1 : Int32) (v2 : Int32) (v3 : Int64) (v5 : Int32) (h : HP) : Option ((Int32 × HP) ⊕ HP) :=
  (if (hp_i h v0 33) ≤ v5 then
  ((f_M_follow_83 v0 v2 v3 h).map .inr)
  else
  ((if (hp_i h v0 66) = 0 then
  ((f_M_unpack v0 v3 h).bind fun x_9 =>
  (f_M_go v0 v5 x_9).bind fun x_10 =>
  (hp_r x_10.2 v0 64).bind fun q_11 =>
  (if x_10.1 = (1 : Int32) then
  (f_M_follow_76 v0 v1 v2 v3 v5 (-2 : Int32) (((6 : Int32) * v1) + v5) q_11 x_10.2)
  else
  ((if x_10.1 = (2 : Int32) then
  (f_M_follow_76 v0 v1 v2 v3 v5 (-3 : Int32) (((6 : Int32) * v1) + v5) q_11 x_10.2)
  else
  ((f_M_number v0 x_10.2).bind fun x_15 =>
  f_M_follow_76 v0 v1 v2 v3 v5 x_15.1 (((6 : Int32) * v1) + v5) q_11 x_15.2)))))
  else
  ((f_M_follow_83 v0 v2 v3 h).map .inr))))
noncomputable def f_M_follow_10 (v0 : Nat) (v1 : Int32) (v2 : Int32) (v3 : Int64) (v5 : Int32) (h : HP) : Option HP :=
  xx_lp (fun s : (Int32 × HP) => f_M_follow_10b v0 v1 v2 v3 s.1 s.2) (v5, h)
noncomputable def f_M_follow (v0 : Nat) (v1 : Int32) (v2 : Int32) (h : HP) : Option HP :=
  (hp_r h v0 62).bind fun q_1 =>
  if hp_in v1 (hp_n h q_1) = true then
  xx_l (hp_l h q_1 (v1).toNatClampNeg) fun v3_3 =>
  f_M_follow_10 v0 v1 v2 v3_3 (0 : Int32) h
  else none
/-! LampYardModel.layStates(I)Z -/
noncomputable def f_M_layStates_102 (v0 : Nat) (h : HP) : Option (Int32 × HP) :=
  xx_l (hp_si h v0 67 (0 : Int32)) fun h_5 =>
  (if (hp_i h_5 v0 66) = 0 then
  (some ((1 : Int32), h_5))
  else
  (some ((0 : Int32), h_5)))
noncomputable def f_M_layStates_75b (v0 : Nat) (v1 : Int32) (v3 : Int32) (h : HP) : Option ((Int32 × HP) ⊕ (Int32 × HP)) :=
  (if (hp_i h v0 65) ≤ v3 then
  ((f_M_layStates_102 v0 h).map .inr)
  else
  ((if (hp_i h v0 66) = 0 then
  ((f_M_follow v0 v3 v1 h).bind fun x_6 =>
  xx_l (v3 + (1 : Int32)) fun v3_7 =>
  some (.inl (v3_7, x_6)))
  else
  ((f_M_layStates_102 v0 h).map .inr))))
noncomputable def f_M_layStates_75 (v0 : Nat) (v1 : Int32) (v3 : Int32) (h : HP) : Option (Int32 × HP) :=
  xx_lp (fun s : (Int32 × HP) => f_M_layStates_75b v0 v1 s.1 s.2) (v3, h)
noncomputable def f_M_layStates_73 (v0 : Nat) (v1 : Int32) (h : HP) : Option (Int32 × HP) :=
  f_M_layStates_75 v0 v1 (0 : Int32) h
noncomputable def f_M_layStates_67 (v0 : Nat) (v1 : Int32) (v3 : Int32) (h : HP) : Option ((Int32 × HP) ⊕ (Int32 × HP)) :=
  xx_l (v3 + (1 : Int32)) fun v3_10 =>
  some (.inl (v3_10, h))
noncomputable def f_M_layStates_41b (v0 : Nat) (v1 : Int32) (v3 : Int32) (h : HP) : Option ((Int32 × HP) ⊕ (Int32 × HP)) :=
  (f_M_full v0 h).bind fun x_4 =>
  (if x_4.1 < v3 then
  ((f_M_layStates_73 v0 v1 x_4.2).map .inr)
  else
  ((f_M_fresh v0 v3 x_4.2).bind fun x_8 =>
  (f_M_isStart v0 v3 x_8).bind fun x_9 =>
  (if x_9.1 = 0 then
  (f_M_layStates_67 v0 v1 v3 x_9.2)
  else
  ((f_M_number v0 x_9.2).bind fun x_11 =>
  f_M_layStates_67 v0 v1 v3 x_11.2))))
noncomputable def f_M_layStates_41 (v0 : Nat) (v1 : Int32) (v3 : Int32) (h : HP) : Option (Int32 × HP) :=
  xx_lp (fun s : (Int32 × HP) => f_M_layStates_41b v0 v1 s.1 s.2) (v3, h)
noncomputable def f_M_layStates_32 (v0 : Nat) (v1 : Int32) (h : HP) : Option (Int32 × HP) :=
  xx_l (hp_si h v0 67 (0 : Int32)) fun h_3 =>
  f_M_layStates_41 v0 v1 (0 : Int32) h_3
noncomputable def f_M_layStates_12b (v0 : Nat) (v1 : Int32) (v2 : Int32) (h : HP) : Option ((Int32 × HP) ⊕ (Int32 × HP)) :=
  (if (16384 : Int32) ≤ v2 then
  ((f_M_layStates_32 v0 v1 h).map .inr)
  else
  ((hp_r h v0 63).bind fun q_12 =>
  if hp_in v2 (hp_n h q_12) = true then
  xx_l (hp_si h q_12 (v2).toNatClampNeg (0 : Int32)) fun h_14 =>
  xx_l (v2 + (1 : Int32)) fun v2_15 =>
  some (.inl (v2_15, h_14))
  else none))
noncomputable def f_M_layStates_12 (v0 : Nat) (v1 : Int32) (v2 : Int32) (h : HP) : Option (Int32 × HP) :=
  xx_lp (fun s : (Int32 × HP) => f_M_layStates_12b v0 v1 s.1 s.2) (v2, h)
noncomputable def f_M_layStates (v0 : Nat) (v1 : Int32) (h : HP) : Option (Int32 × HP) :=
  xx_l (hp_si h v0 65 (0 : Int32)) fun h_1 =>
  xx_l (hp_si h_1 v0 66 (0 : Int32)) fun h_2 =>
  f_M_layStates_12 v0 v1 (0 : Int32) h_2
/-! LampYardModel.layPlan(I)Z -/
noncomputable def f_M_layPlan (v0 : Nat) (v1 : Int32) (h : HP) : Option (Int32 × HP) :=
  (f_M_put v0 h).bind fun x_1 =>
  (f_M_layStates v0 v1 x_1).bind fun x_2 =>
  (f_M_bring v0 x_2.2).bind fun x_3 =>
  if hp_z01 x_2.1 = true then some (x_2.1, x_3) else none
/-! LampYardModel.leads(I)I -/
noncomputable def f_M_leads_54 (v0 : Nat) (v1 : Int32) (v2 : Int32) (v3 : Int32) (h : HP) : Option ((Int32 × Int32 × HP) ⊕ (Int32 × HP)) :=
  xx_l (v3 + (1 : Int32)) fun v3_1 =>
  some (.inl (v2, v3_1, h))
noncomputable def f_M_leads_46 (v0 : Nat) (v1 : Int32) (v3 : Int32) (v4 : Int32) (s0 : Int32) (s1 : Int32) (h : HP) : Option ((Int32 × Int32 × HP) ⊕ ((Int32 × Int32 × HP) ⊕ (Int32 × HP))) :=
  xx_l (s1 + s0) fun v2_4 =>
  xx_l (v4 + (1 : Int32)) fun v4_5 =>
  some (.inl (v2_4, v4_5, h))
noncomputable def f_M_leads_15b (v0 : Nat) (v1 : Int32) (v3 : Int32) (v2 : Int32) (v4 : Int32) (h : HP) : Option ((Int32 × Int32 × HP) ⊕ ((Int32 × Int32 × HP) ⊕ (Int32 × HP))) :=
  (if (hp_i h v0 33) ≤ v4 then
  ((f_M_leads_54 v0 v1 v2 v3 h).map .inr)
  else
  ((hp_r h v0 64).bind fun q_2 =>
  if hp_in (((6 : Int32) * v3) + v4) (hp_n h q_2) = true then
  (if (hp_i h q_2 ((((6 : Int32) * v3) + v4)).toNatClampNeg) = v1 then
  (f_M_leads_46 v0 v1 v3 v4 (1 : Int32) v2 h)
  else
  (f_M_leads_46 v0 v1 v3 v4 (0 : Int32) v2 h))
  else none))
noncomputable def f_M_leads_15 (v0 : Nat) (v1 : Int32) (v3 : Int32) (v2 : Int32) (v4 : Int32) (h : HP) : Option ((Int32 × Int32 × HP) ⊕ (Int32 × HP)) :=
  xx_lp (fun s : (Int32 × Int32 × HP) => f_M_leads_15b v0 v1 v3 s.1 s.2.1 s.2.2) (v2, v4, h)
noncomputable def f_M_leads_4b (v0 : Nat) (v1 : Int32) (v2 : Int32) (v3 : Int32) (h : HP) : Option ((Int32 × Int32 × HP) ⊕ (Int32 × HP)) :=
  (if (hp_i h v0 65) ≤ v3 then
  (some (.inr (v2, h)))
  else
  (f_M_leads_15 v0 v1 v3 v2 (0 : Int32) h))
noncomputable def f_M_leads_4 (v0 : Nat) (v1 : Int32) (v2 : Int32) (v3 : Int32) (h : HP) : Option (Int32 × HP) :=
  xx_lp (fun s : (Int32 × Int32 × HP) => f_M_leads_4b v0 v1 s.1 s.2.1 s.2.2) (v2, v3, h)
noncomputable def f_M_leads (v0 : Nat) (v1 : Int32) (h : HP) : Option (Int32 × HP) :=
  f_M_leads_4 v0 v1 (0 : Int32) (0 : Int32) h
/-! LampYardModel.states(I)I -/
noncomputable def f_M_states_46 (s0 : Int32) (s1 : Nat) (h : HP) : Option (Int32 × HP) :=
  (f_M_leads s1 s0 h).bind fun x_2 =>
  some (x_2.1, x_2.2)
noncomputable def f_M_states (v0 : Nat) (v1 : Int32) (h : HP) : Option (Int32 × HP) :=
  (if v1 < 0 then
  (some ((-1 : Int32), h))
  else
  ((if v1 ≤ (2 : Int32) then
  ((f_M_layPlan v0 (-1 : Int32) h).bind fun x_1 =>
  (if x_1.1 = 0 then
  (some ((-2 : Int32), x_1.2))
  else
  ((if v1 = 0 then
  (some ((hp_i x_1.2 v0 65), x_1.2))
  else
  ((if v1 = (1 : Int32) then
  (f_M_states_46 (-2 : Int32) v0 x_1.2)
  else
  (f_M_states_46 (-3 : Int32) v0 x_1.2)))))))
  else
  (some ((-1 : Int32), h)))))
/-! LampYardModel.right()I -/
noncomputable def f_M_right (v0 : Nat) (h : HP) : Option (Int32 × HP) :=
  (f_M_layPlan v0 (-1 : Int32) h).bind fun x_1 =>
  (if x_1.1 = 0 then
  (some ((-2 : Int32), x_1.2))
  else
  ((f_M_leads v0 (-3 : Int32) x_1.2).bind fun x_2 =>
  (if x_2.1 = 0 then
  (some ((1 : Int32), x_2.2))
  else
  (some ((0 : Int32), x_2.2)))))
/-! LampYardModel.bears(I)I -/
noncomputable def f_M_bears (v0 : Nat) (v1 : Int32) (h : HP) : Option (Int32 × HP) :=
  (if v1 < 0 then
  (some ((-1 : Int32), h))
  else
  ((if v1 ≤ (2 : Int32) then
  ((f_M_layPlan v0 v1 h).bind fun x_1 =>
  (if x_1.1 = 0 then
  (some ((-2 : Int32), x_1.2))
  else
  ((f_M_leads v0 (-3 : Int32) x_1.2).bind fun x_2 =>
  (if x_2.1 = 0 then
  (some ((1 : Int32), x_2.2))
  else
  (some ((0 : Int32), x_2.2))))))
  else
  (some ((-1 : Int32), h)))))
/-! LampYardModel.isNear(III)Z -/
noncomputable def f_M_isNear_60 (v0 : Nat) (v1 : Int32) (v2 : Int32) (v3 : Int32) (v4 : Int32) (h : HP) : Option ((Int32 × HP) ⊕ (Int32 × HP)) :=
  xx_l (v4 + (1 : Int32)) fun v4_4 =>
  some (.inl (v4_4, h))
noncomputable def f_M_isNear_3b (v0 : Nat) (v1 : Int32) (v2 : Int32) (v3 : Int32) (v4 : Int32) (h : HP) : Option ((Int32 × HP) ⊕ (Int32 × HP)) :=
  (if (hp_i h v0 33) ≤ v4 then
  (some (.inr ((0 : Int32), h)))
  else
  ((hp_r h v0 64).bind fun q_1 =>
  if hp_in (((6 : Int32) * v1) + v4) (hp_n h q_1) = true then
  xx_l (hp_i h q_1 ((((6 : Int32) * v1) + v4)).toNatClampNeg) fun v5_3 =>
  (if v3 = (1 : Int32) then
  ((if v5_3 = v2 then
  (some (.inr ((1 : Int32), h)))
  else
  (f_M_isNear_60 v0 v1 v2 v3 v4 h)))
  else
  ((if v5_3 < 0 then
  (f_M_isNear_60 v0 v1 v2 v3 v4 h)
  else
  ((hp_r h v0 68).bind fun q_5 =>
  if hp_in v5_3 (hp_n h q_5) = true then
  (if (hp_i h q_5 (v5_3).toNatClampNeg) = (v3 - (1 : Int32)) then
  (some (.inr ((1 : Int32), h)))
  else
  (f_M_isNear_60 v0 v1 v2 v3 v4 h))
  else none))))
  else none))
noncomputable def f_M_isNear_3 (v0 : Nat) (v1 : Int32) (v2 : Int32) (v3 : Int32) (v4 : Int32) (h : HP) : Option (Int32 × HP) :=
  xx_lp (fun s : (Int32 × HP) => f_M_isNear_3b v0 v1 v2 v3 s.1 s.2) (v4, h)
noncomputable def f_M_isNear (v0 : Nat) (v1 : Int32) (v2 : Int32) (v3 : Int32) (h : HP) : Option (Int32 × HP) :=
  f_M_isNear_3 v0 v1 v2 v3 (0 : Int32) h
/-! LampYardModel.laySoon(I)V -/
noncomputable def f_M_laySoon_85 (v0 : Nat) (v1 : Int32) (v2 : Int32) (v3 : Int32) (h : HP) : Option ((Int32 × Int32 × HP) ⊕ HP) :=
  xx_l (v3 + (1 : Int32)) fun v3_1 =>
  some (.inl (v2, v3_1, h))
noncomputable def f_M_laySoon_79 (v0 : Nat) (v1 : Int32) (v2 : Int32) (v3 : Int32) (v4 : Int32) (h : HP) : Option ((Int32 × Int32 × HP) ⊕ ((Int32 × Int32 × HP) ⊕ HP)) :=
  xx_l (v4 + (1 : Int32)) fun v4_4 =>
  some (.inl (v2, v4_4, h))
noncomputable def f_M_laySoon_36b (v0 : Nat) (v1 : Int32) (v3 : Int32) (v2 : Int32) (v4 : Int32) (h : HP) : Option ((Int32 × Int32 × HP) ⊕ ((Int32 × Int32 × HP) ⊕ HP)) :=
  (if (hp_i h v0 65) ≤ v4 then
  ((f_M_laySoon_85 v0 v1 v2 v3 h).map .inr)
  else
  ((hp_r h v0 68).bind fun q_2 =>
  if hp_in v4 (hp_n h q_2) = true then
  (if 0 < (hp_i h q_2 (v4).toNatClampNeg) then
  (f_M_laySoon_79 v0 v1 v2 v3 v4 h)
  else
  ((f_M_isNear v0 v4 v1 v3 h).bind fun x_5 =>
  (if x_5.1 = 0 then
  (f_M_laySoon_79 v0 v1 v2 v3 v4 x_5.2)
  else
  ((hp_r x_5.2 v0 68).bind fun q_6 =>
  if hp_in v4 (hp_n x_5.2 q_6) = true then
  xx_l (hp_si x_5.2 q_6 (v4).toNatClampNeg v3) fun h_8 =>
  f_M_laySoon_79 v0 v1 (1 : Int32) v3 v4 h_8
  else none))))
  else none))
noncomputable def f_M_laySoon_36 (v0 : Nat) (v1 : Int32) (v3 : Int32) (v2 : Int32) (v4 : Int32) (h : HP) : Option ((Int32 × Int32 × HP) ⊕ HP) :=
  xx_lp (fun s : (Int32 × Int32 × HP) => f_M_laySoon_36b v0 v1 v3 s.1 s.2.1 s.2.2) (v2, v4, h)
noncomputable def f_M_laySoon_27b (v0 : Nat) (v1 : Int32) (v2 : Int32) (v3 : Int32) (h : HP) : Option ((Int32 × Int32 × HP) ⊕ HP) :=
  (if v2 = 0 then
  (some (.inr h))
  else
  (f_M_laySoon_36 v0 v1 v3 (0 : Int32) (0 : Int32) h))
noncomputable def f_M_laySoon_27 (v0 : Nat) (v1 : Int32) (v2 : Int32) (v3 : Int32) (h : HP) : Option HP :=
  xx_lp (fun s : (Int32 × Int32 × HP) => f_M_laySoon_27b v0 v1 s.1 s.2.1 s.2.2) (v2, v3, h)
noncomputable def f_M_laySoon_23 (v0 : Nat) (v1 : Int32) (h : HP) : Option HP :=
  f_M_laySoon_27 v0 v1 (1 : Int32) (1 : Int32) h
noncomputable def f_M_laySoon_2b (v0 : Nat) (v1 : Int32) (v2 : Int32) (h : HP) : Option ((Int32 × HP) ⊕ HP) :=
  (if (hp_i h v0 65) ≤ v2 then
  ((f_M_laySoon_23 v0 v1 h).map .inr)
  else
  ((hp_r h v0 68).bind fun q_9 =>
  if hp_in v2 (hp_n h q_9) = true then
  xx_l (hp_si h q_9 (v2).toNatClampNeg (0 : Int32)) fun h_11 =>
  xx_l (v2 + (1 : Int32)) fun v2_12 =>
  some (.inl (v2_12, h_11))
  else none))
noncomputable def f_M_laySoon_2 (v0 : Nat) (v1 : Int32) (v2 : Int32) (h : HP) : Option HP :=
  xx_lp (fun s : (Int32 × HP) => f_M_laySoon_2b v0 v1 s.1 s.2) (v2, h)
noncomputable def f_M_laySoon (v0 : Nat) (v1 : Int32) (h : HP) : Option HP :=
  f_M_laySoon_2 v0 v1 (0 : Int32) h
/-! LampYardModel.startNumber(I)I -/
noncomputable def f_M_startNumber_23 (v0 : Nat) (v1 : Int32) (v3 : Int32) (s0 : Int32) (s1 : Int32) (h : HP) : Option ((Int32 × Int32 × HP) ⊕ (Int32 × HP)) :=
  xx_l (s1 + s0) fun v2_2 =>
  xx_l (v3 + (1 : Int32)) fun v3_3 =>
  some (.inl (v2_2, v3_3, h))
noncomputable def f_M_startNumber_4b (v0 : Nat) (v1 : Int32) (v2 : Int32) (v3 : Int32) (h : HP) : Option ((Int32 × Int32 × HP) ⊕ (Int32 × HP)) :=
  (if v1 ≤ v3 then
  (some (.inr (v2, h)))
  else
  ((f_M_isStart v0 v3 h).bind fun x_1 =>
  (if x_1.1 = 0 then
  (f_M_startNumber_23 v0 v1 v3 (0 : Int32) v2 x_1.2)
  else
  (f_M_startNumber_23 v0 v1 v3 (1 : Int32) v2 x_1.2))))
noncomputable def f_M_startNumber_4 (v0 : Nat) (v1 : Int32) (v2 : Int32) (v3 : Int32) (h : HP) : Option (Int32 × HP) :=
  xx_lp (fun s : (Int32 × Int32 × HP) => f_M_startNumber_4b v0 v1 s.1 s.2.1 s.2.2) (v2, v3, h)
noncomputable def f_M_startNumber (v0 : Nat) (v1 : Int32) (h : HP) : Option (Int32 × HP) :=
  f_M_startNumber_4 v0 v1 (0 : Int32) (0 : Int32) h
/-! LampYardModel.soonStart(I)I -/
noncomputable def f_M_soonStart_66 (v0 : Nat) (v2 : Int32) (v3 : Int32) (h : HP) : Option ((Int32 × Int32 × HP) ⊕ (Int32 × HP)) :=
  xx_l (v3 + (1 : Int32)) fun v3_4 =>
  some (.inl (v2, v3_4, h))
noncomputable def f_M_soonStart_64 (v0 : Nat) (v3 : Int32) (h : HP) : Option ((Int32 × Int32 × HP) ⊕ (Int32 × HP)) :=
  f_M_soonStart_66 v0 v3 v3 h
noncomputable def f_M_soonStart_9b (v0 : Nat) (v2 : Int32) (v3 : Int32) (h : HP) : Option ((Int32 × Int32 × HP) ⊕ (Int32 × HP)) :=
  (f_M_full v0 h).bind fun x_2 =>
  (if x_2.1 < v3 then
  (some (.inr (v2, x_2.2)))
  else
  ((f_M_isStart v0 v3 x_2.2).bind fun x_3 =>
  (if x_3.1 = 0 then
  (f_M_soonStart_66 v0 v2 v3 x_3.2)
  else
  ((hp_r x_3.2 v0 68).bind fun q_5 =>
  (f_M_startNumber v0 v3 x_3.2).bind fun x_6 =>
  if hp_in x_6.1 (hp_n x_6.2 q_5) = true then
  xx_l (hp_i x_6.2 q_5 (x_6.1).toNatClampNeg) fun v4_8 =>
  (if v4_8 ≤ 0 then
  (f_M_soonStart_66 v0 v2 v3 x_6.2)
  else
  ((if v2 < 0 then
  (f_M_soonStart_64 v0 v3 x_6.2)
  else
  ((hp_r x_6.2 v0 68).bind fun q_9 =>
  (f_M_startNumber v0 v2 x_6.2).bind fun x_10 =>
  if hp_in x_10.1 (hp_n x_10.2 q_9) = true then
  (if (hp_i x_10.2 q_9 (x_10.1).toNatClampNeg) ≤ v4_8 then
  (f_M_soonStart_66 v0 v2 v3 x_10.2)
  else
  (f_M_soonStart_64 v0 v3 x_10.2))
  else none))))
  else none))))
noncomputable def f_M_soonStart_9 (v0 : Nat) (v2 : Int32) (v3 : Int32) (h : HP) : Option (Int32 × HP) :=
  xx_lp (fun s : (Int32 × Int32 × HP) => f_M_soonStart_9b v0 s.1 s.2.1 s.2.2) (v2, v3, h)
noncomputable def f_M_soonStart (v0 : Nat) (v1 : Int32) (h : HP) : Option (Int32 × HP) :=
  (f_M_laySoon v0 v1 h).bind fun x_1 =>
  f_M_soonStart_9 v0 (-1 : Int32) (0 : Int32) x_1
/-! LampYardModel.shown(I)I -/
noncomputable def f_M_shown (v0 : Nat) (v1 : Int32) (h : HP) : Option (Int32 × HP) :=
  (if v1 < 0 then
  (some ((-1 : Int32), h))
  else
  ((if v1 ≤ (1 : Int32) then
  ((f_M_layPlan v0 (-1 : Int32) h).bind fun x_1 =>
  (if x_1.1 = 0 then
  (some ((-2 : Int32), x_1.2))
  else
  ((f_M_soonStart v0 (-3 : Int32) x_1.2).bind fun x_2 =>
  (if 0 ≤ x_2.1 then
  ((if v1 = 0 then
  ((hp_r x_2.2 v0 68).bind fun q_3 =>
  (f_M_startNumber v0 x_2.1 x_2.2).bind fun x_4 =>
  if hp_in x_4.1 (hp_n x_4.2 q_3) = true then
  some ((hp_i x_4.2 q_3 (x_4.1).toNatClampNeg), x_4.2)
  else none)
  else
  (some (x_2.1, x_2.2))))
  else
  (some ((-1 : Int32), x_2.2))))))
  else
  (some ((-1 : Int32), h)))))
/-! LampYardModel.shows(I)I -/
noncomputable def f_M_shows_164 (v0 : Nat) (v1 : Int32) (v4 : Int32) (v5 : Int32) (s0 : Int32) (h : HP) : Option ((Int32 × Int32 × Int32 × HP) ⊕ (Int32 × HP)) :=
  xx_l (v5 + (1 : Int32)) fun v5_12 =>
  some (.inl (s0, v4, v5_12, h))
noncomputable def f_M_shows_142 (v0 : Nat) (v1 : Int32) (v3 : Int32) (v4 : Int32) (v5 : Int32) (v6 : Int32) (h : HP) : Option ((Int32 × Int32 × Int32 × HP) ⊕ (Int32 × HP)) :=
  (if v6 = (1 : Int32) then
  (f_M_shows_164 v0 v1 v4 v5 v3 h)
  else
  ((hp_r h v0 64).bind fun q_13 =>
  if hp_in (((6 : Int32) * v3) + v4) (hp_n h q_13) = true then
  f_M_shows_164 v0 v1 v4 v5 (hp_i h q_13 ((((6 : Int32) * v3) + v4)).toNatClampNeg) h
  else none))
noncomputable def f_M_shows_136 (v0 : Nat) (v1 : Int32) (v3 : Int32) (v4 : Int32) (v5 : Int32) (v6 : Int32) (h : HP) : Option ((Int32 × HP) ⊕ ((Int32 × Int32 × Int32 × HP) ⊕ (Int32 × HP))) :=
  xx_l (v4 + (1 : Int32)) fun v4_15 =>
  some (.inl (v4_15, h))
noncomputable def f_M_shows_71b (v0 : Nat) (v1 : Int32) (v3 : Int32) (v5 : Int32) (v6 : Int32) (v4 : Int32) (h : HP) : Option ((Int32 × HP) ⊕ ((Int32 × Int32 × Int32 × HP) ⊕ (Int32 × HP))) :=
  (if v6 = (1 : Int32) then
  ((hp_r h v0 64).bind fun q_10 =>
  if hp_in (((6 : Int32) * v3) + v4) (hp_n h q_10) = true then
  (if (hp_i h q_10 ((((6 : Int32) * v3) + v4)).toNatClampNeg) = (-3 : Int32) then
  ((f_M_shows_142 v0 v1 v3 v4 v5 v6 h).map .inr)
  else
  (f_M_shows_136 v0 v1 v3 v4 v5 v6 h))
  else none)
  else
  ((hp_r h v0 64).bind fun q_16 =>
  if hp_in (((6 : Int32) * v3) + v4) (hp_n h q_16) = true then
  (if (hp_i h q_16 ((((6 : Int32) * v3) + v4)).toNatClampNeg) < 0 then
  (f_M_shows_136 v0 v1 v3 v4 v5 v6 h)
  else
  ((hp_r h v0 68).bind fun q_18 =>
  (hp_r h v0 64).bind fun q_19 =>
  if hp_in (((6 : Int32) * v3) + v4) (hp_n h q_19) = true then
  if hp_in (hp_i h q_19 ((((6 : Int32) * v3) + v4)).toNatClampNeg) (hp_n h q_18) = true then
  (if (hp_i h q_18 ((hp_i h q_19 ((((6 : Int32) * v3) + v4)).toNatClampNeg)).toNatClampNeg) = (v6 - (1 : Int32)) then
  ((f_M_shows_142 v0 v1 v3 v4 v5 v6 h).map .inr)
  else
  (f_M_shows_136 v0 v1 v3 v4 v5 v6 h))
  else none
  else none))
  else none))
noncomputable def f_M_shows_71 (v0 : Nat) (v1 : Int32) (v3 : Int32) (v5 : Int32) (v6 : Int32) (v4 : Int32) (h : HP) : Option ((Int32 × Int32 × Int32 × HP) ⊕ (Int32 × HP)) :=
  xx_lp (fun s : (Int32 × HP) => f_M_shows_71b v0 v1 v3 v5 v6 s.1 s.2) (v4, h)
noncomputable def f_M_shows_54b (v0 : Nat) (v1 : Int32) (v3 : Int32) (v4 : Int32) (v5 : Int32) (h : HP) : Option ((Int32 × Int32 × Int32 × HP) ⊕ (Int32 × HP)) :=
  (if v1 < v5 then
  (some (.inr (v4, h)))
  else
  ((hp_r h v0 68).bind fun q_7 =>
  if hp_in v3 (hp_n h q_7) = true then
  xx_l (hp_i h q_7 (v3).toNatClampNeg) fun v6_9 =>
  f_M_shows_71 v0 v1 v3 v5 v6_9 (0 : Int32) h
  else none))
noncomputable def f_M_shows_54 (v0 : Nat) (v1 : Int32) (v3 : Int32) (v4 : Int32) (v5 : Int32) (h : HP) : Option (Int32 × HP) :=
  xx_lp (fun s : (Int32 × Int32 × Int32 × HP) => f_M_shows_54b v0 v1 s.1 s.2.1 s.2.2.1 s.2.2.2) (v3, v4, v5, h)
noncomputable def f_M_shows (v0 : Nat) (v1 : Int32) (h : HP) : Option (Int32 × HP) :=
  (f_M_layPlan v0 (-1 : Int32) h).bind fun x_1 =>
  (if x_1.1 = 0 then
  (some ((-2 : Int32), x_1.2))
  else
  ((f_M_soonStart v0 (-3 : Int32) x_1.2).bind fun x_2 =>
  (if x_2.1 < 0 then
  (some ((-1 : Int32), x_2.2))
  else
  ((if v1 < 0 then
  (some ((-1 : Int32), x_2.2))
  else
  ((hp_r x_2.2 v0 68).bind fun q_3 =>
  (f_M_startNumber v0 x_2.1 x_2.2).bind fun x_4 =>
  if hp_in x_4.1 (hp_n x_4.2 q_3) = true then
  (if v1 < (hp_i x_4.2 q_3 (x_4.1).toNatClampNeg) then
  ((f_M_startNumber v0 x_2.1 x_4.2).bind fun x_6 =>
  f_M_shows_54 v0 v1 x_6.1 (0 : Int32) (0 : Int32) x_6.2)
  else
  (some ((-1 : Int32), x_4.2)))
  else none))))))
/-! LampYardModel.soonest()I -/
noncomputable def f_M_soonest (v0 : Nat) (h : HP) : Option (Int32 × HP) :=
  (f_M_layPlan v0 (-1 : Int32) h).bind fun x_1 =>
  (if x_1.1 = 0 then
  (some ((-2 : Int32), x_1.2))
  else
  ((f_M_soonStart v0 (-2 : Int32) x_1.2).bind fun x_2 =>
  (if 0 ≤ x_2.1 then
  ((hp_r x_2.2 v0 68).bind fun q_3 =>
  (f_M_startNumber v0 x_2.1 x_2.2).bind fun x_4 =>
  if hp_in x_4.1 (hp_n x_4.2 q_3) = true then
  some ((hp_i x_4.2 q_3 (x_4.1).toNatClampNeg), x_4.2)
  else none)
  else
  (some ((-1 : Int32), x_2.2)))))
/-! LampYardModel.layBack()V -/
noncomputable def f_M_layBack_202 (v0 : Nat) (v1 : Int32) (h : HP) : Option ((Int32 × HP) ⊕ HP) :=
  xx_l (v1 + (1 : Int32)) fun v1_1 =>
  some (.inl (v1_1, h))
noncomputable def f_M_layBack_121b (v0 : Nat) (v1 : Int32) (h : HP) : Option ((Int32 × HP) ⊕ HP) :=
  (if ((6 : Int32) * (hp_i h v0 65)) ≤ v1 then
  (some (.inr h))
  else
  ((if (hp_i h v0 33) ≤ (v1 - v1 / (6 : Int32) * (6 : Int32)) then
  (f_M_layBack_202 v0 v1 h)
  else
  ((hp_r h v0 64).bind fun q_2 =>
  if hp_in v1 (hp_n h q_2) = true then
  (if 0 ≤ (hp_i h q_2 (v1).toNatClampNeg) then
  ((hp_r h v0 70).bind fun q_4 =>
  (hp_r h v0 69).bind fun q_5 =>
  (hp_r h v0 64).bind fun q_6 =>
  if hp_in v1 (hp_n h q_6) = true then
  if hp_in (hp_i h q_6 (v1).toNatClampNeg) (hp_n h q_5) = true then
  (hp_r h v0 73).bind fun q_9 =>
  (hp_r h v0 64).bind fun q_10 =>
  if hp_in v1 (hp_n h q_10) = true then
  if hp_in (hp_i h q_10 (v1).toNatClampNeg) (hp_n h q_9) = true then
  if hp_in ((hp_i h q_5 ((hp_i h q_6 (v1).toNatClampNeg)).toNatClampNeg) + (hp_i h q_9 ((hp_i h q_10 (v1).toNatClampNeg)).toNatClampNeg)) (hp_n h q_4) = true then
  xx_l (hp_si h q_4 (((hp_i h q_5 ((hp_i h q_6 (v1).toNatClampNeg)).toNatClampNeg) + (hp_i h q_9 ((hp_i h q_10 (v1).toNatClampNeg)).toNatClampNeg))).toNatClampNeg (v1 / (6 : Int32))) fun h_14 =>
  (hp_r h_14 v0 73).bind fun q_15 =>
  (hp_r h_14 v0 64).bind fun q_16 =>
  if hp_in v1 (hp_n h_14 q_16) = true then
  if hp_in (hp_i h_14 q_16 (v1).toNatClampNeg) (hp_n h_14 q_15) = true then
  if hp_in (hp_i h_14 q_16 (v1).toNatClampNeg) (hp_n h_14 q_15) = true then
  xx_l (hp_si h_14 q_15 ((hp_i h_14 q_16 (v1).toNatClampNeg)).toNatClampNeg ((hp_i h_14 q_15 ((hp_i h_14 q_16 (v1).toNatClampNeg)).toNatClampNeg) + (1 : Int32))) fun h_20 =>
  f_M_layBack_202 v0 v1 h_20
  else none
  else none
  else none
  else none
  else none
  else none
  else none
  else none)
  else
  (f_M_layBack_202 v0 v1 h))
  else none))))
noncomputable def f_M_layBack_121 (v0 : Nat) (v1 : Int32) (h : HP) : Option HP :=
  xx_lp (fun s : (Int32 × HP) => f_M_layBack_121b v0 s.1 s.2) (v1, h)
noncomputable def f_M_layBack_119 (v0 : Nat) (h : HP) : Option HP :=
  f_M_layBack_121 v0 (0 : Int32) h
noncomputable def f_M_layBack_81b (v0 : Nat) (v1 : Int32) (h : HP) : Option ((Int32 × HP) ⊕ HP) :=
  (if (hp_i h v0 65) ≤ v1 then
  ((f_M_layBack_119 v0 h).map .inr)
  else
  ((hp_r h v0 69).bind fun q_21 =>
  if hp_in (v1 + (1 : Int32)) (hp_n h q_21) = true then
  (hp_r h v0 69).bind fun q_23 =>
  if hp_in v1 (hp_n h q_23) = true then
  if hp_in (v1 + (1 : Int32)) (hp_n h q_21) = true then
  xx_l (hp_si h q_21 ((v1 + (1 : Int32))).toNatClampNeg ((hp_i h q_21 ((v1 + (1 : Int32))).toNatClampNeg) + (hp_i h q_23 (v1).toNatClampNeg))) fun h_26 =>
  (hp_r h_26 v0 73).bind fun q_27 =>
  if hp_in v1 (hp_n h_26 q_27) = true then
  xx_l (hp_si h_26 q_27 (v1).toNatClampNeg (0 : Int32)) fun h_29 =>
  xx_l (v1 + (1 : Int32)) fun v1_30 =>
  some (.inl (v1_30, h_29))
  else none
  else none
  else none
  else none))
noncomputable def f_M_layBack_81 (v0 : Nat) (v1 : Int32) (h : HP) : Option HP :=
  xx_lp (fun s : (Int32 × HP) => f_M_layBack_81b v0 s.1 s.2) (v1, h)
noncomputable def f_M_layBack_79 (v0 : Nat) (h : HP) : Option HP :=
  f_M_layBack_81 v0 (0 : Int32) h
noncomputable def f_M_layBack_73 (v0 : Nat) (v1 : Int32) (h : HP) : Option ((Int32 × HP) ⊕ HP) :=
  xx_l (v1 + (1 : Int32)) fun v1_31 =>
  some (.inl (v1_31, h))
noncomputable def f_M_layBack_25b (v0 : Nat) (v1 : Int32) (h : HP) : Option ((Int32 × HP) ⊕ HP) :=
  (if ((6 : Int32) * (hp_i h v0 65)) ≤ v1 then
  ((f_M_layBack_79 v0 h).map .inr)
  else
  ((if (hp_i h v0 33) ≤ (v1 - v1 / (6 : Int32) * (6 : Int32)) then
  (f_M_layBack_73 v0 v1 h)
  else
  ((hp_r h v0 64).bind fun q_32 =>
  if hp_in v1 (hp_n h q_32) = true then
  (if (hp_i h q_32 (v1).toNatClampNeg) < 0 then
  (f_M_layBack_73 v0 v1 h)
  else
  ((hp_r h v0 69).bind fun q_34 =>
  (hp_r h v0 64).bind fun q_35 =>
  if hp_in v1 (hp_n h q_35) = true then
  if hp_in ((hp_i h q_35 (v1).toNatClampNeg) + (1 : Int32)) (hp_n h q_34) = true then
  if hp_in ((hp_i h q_35 (v1).toNatClampNeg) + (1 : Int32)) (hp_n h q_34) = true then
  xx_l (hp_si h q_34 (((hp_i h q_35 (v1).toNatClampNeg) + (1 : Int32))).toNatClampNeg ((hp_i h q_34 (((hp_i h q_35 (v1).toNatClampNeg) + (1 : Int32))).toNatClampNeg) + (1 : Int32))) fun h_39 =>
  f_M_layBack_73 v0 v1 h_39
  else none
  else none
  else none))
  else none))))
noncomputable def f_M_layBack_25 (v0 : Nat) (v1 : Int32) (h : HP) : Option HP :=
  xx_lp (fun s : (Int32 × HP) => f_M_layBack_25b v0 s.1 s.2) (v1, h)
noncomputable def f_M_layBack_23 (v0 : Nat) (h : HP) : Option HP :=
  f_M_layBack_25 v0 (0 : Int32) h
noncomputable def f_M_layBack_2b (v0 : Nat) (v1 : Int32) (h : HP) : Option ((Int32 × HP) ⊕ HP) :=
  (if (hp_i h v0 65) < v1 then
  ((f_M_layBack_23 v0 h).map .inr)
  else
  ((hp_r h v0 69).bind fun q_40 =>
  if hp_in v1 (hp_n h q_40) = true then
  xx_l (hp_si h q_40 (v1).toNatClampNeg (0 : Int32)) fun h_42 =>
  xx_l (v1 + (1 : Int32)) fun v1_43 =>
  some (.inl (v1_43, h_42))
  else none))
noncomputable def f_M_layBack_2 (v0 : Nat) (v1 : Int32) (h : HP) : Option HP :=
  xx_lp (fun s : (Int32 × HP) => f_M_layBack_2b v0 s.1 s.2) (v1, h)
noncomputable def f_M_layBack (v0 : Nat) (h : HP) : Option HP :=
  f_M_layBack_2 v0 (0 : Int32) h
/-! LampYardModel.layOrder()V -/
noncomputable def f_M_layOrder_177 (v0 : Nat) (v1 : Int32) (v2 : Int32) (h : HP) : Option ((Int32 × Int32 × HP) ⊕ HP) :=
  xx_l (v2 + (1 : Int32)) fun v2_9 =>
  some (.inl (v1, v2_9, h))
noncomputable def f_M_layOrder_63b (v0 : Nat) (v2 : Int32) (v1 : Int32) (v3 : Int32) (h : HP) : Option ((Int32 × Int32 × HP) ⊕ ((Int32 × Int32 × HP) ⊕ HP)) :=
  (if v3 < 0 then
  ((f_M_layOrder_177 v0 v1 v2 h).map .inr)
  else
  ((hp_r h v0 72).bind fun q_10 =>
  if hp_in v3 (hp_n h q_10) = true then
  xx_l (hp_i h q_10 (v3).toNatClampNeg) fun v4_12 =>
  (hp_r h v0 73).bind fun q_13 =>
  if hp_in v4_12 (hp_n h q_13) = true then
  (if (hp_i h q_13 (v4_12).toNatClampNeg) = (hp_i h v0 33) then
  ((hp_r h v0 71).bind fun q_15 =>
  if hp_in v1 (hp_n h q_15) = true then
  xx_l (hp_si h q_15 (v1).toNatClampNeg v4_12) fun h_17 =>
  xx_l (v1 + (1 : Int32)) fun v1_18 =>
  xx_l (v3 + (-1 : Int32)) fun v3_19 =>
  some (.inl (v1_18, v3_19, h_17))
  else none)
  else
  ((hp_r h v0 64).bind fun q_20 =>
  (hp_r h v0 73).bind fun q_21 =>
  if hp_in v4_12 (hp_n h q_21) = true then
  if hp_in (((6 : Int32) * v4_12) + (hp_i h q_21 (v4_12).toNatClampNeg)) (hp_n h q_20) = true then
  xx_l (hp_i h q_20 ((((6 : Int32) * v4_12) + (hp_i h q_21 (v4_12).toNatClampNeg))).toNatClampNeg) fun v5_24 =>
  (hp_r h v0 73).bind fun q_25 =>
  if hp_in v4_12 (hp_n h q_25) = true then
  if hp_in v4_12 (hp_n h q_25) = true then
  xx_l (hp_si h q_25 (v4_12).toNatClampNeg ((hp_i h q_25 (v4_12).toNatClampNeg) + (1 : Int32))) fun h_28 =>
  (if v5_24 < 0 then
  (some (.inl (v1, v3, h_28)))
  else
  ((hp_r h_28 v0 73).bind fun q_29 =>
  if hp_in v5_24 (hp_n h_28 q_29) = true then
  (if (hp_i h_28 q_29 (v5_24).toNatClampNeg) < 0 then
  (xx_l (v3 + (1 : Int32)) fun v3_31 =>
  (hp_r h_28 v0 72).bind fun q_32 =>
  if hp_in v3_31 (hp_n h_28 q_32) = true then
  xx_l (hp_si h_28 q_32 (v3_31).toNatClampNeg v5_24) fun h_34 =>
  (hp_r h_34 v0 73).bind fun q_35 =>
  if hp_in v5_24 (hp_n h_34 q_35) = true then
  xx_l (hp_si h_34 q_35 (v5_24).toNatClampNeg (0 : Int32)) fun h_37 =>
  some (.inl (v1, v3_31, h_37))
  else none
  else none)
  else
  (some (.inl (v1, v3, h_28))))
  else none))
  else none
  else none
  else none
  else none))
  else none
  else none))
noncomputable def f_M_layOrder_63 (v0 : Nat) (v2 : Int32) (v1 : Int32) (v3 : Int32) (h : HP) : Option ((Int32 × Int32 × HP) ⊕ HP) :=
  xx_lp (fun s : (Int32 × Int32 × HP) => f_M_layOrder_63b v0 v2 s.1 s.2.1 s.2.2) (v1, v3, h)
noncomputable def f_M_layOrder_27b (v0 : Nat) (v1 : Int32) (v2 : Int32) (h : HP) : Option ((Int32 × Int32 × HP) ⊕ HP) :=
  (if (hp_i h v0 65) ≤ v2 then
  (some (.inr h))
  else
  ((hp_r h v0 73).bind fun q_1 =>
  if hp_in v2 (hp_n h q_1) = true then
  (if (hp_i h q_1 (v2).toNatClampNeg) < 0 then
  ((hp_r h v0 72).bind fun q_3 =>
  if hp_in (0 : Int32) (hp_n h q_3) = true then
  xx_l (hp_si h q_3 ((0 : Int32)).toNatClampNeg v2) fun h_5 =>
  (hp_r h_5 v0 73).bind fun q_6 =>
  if hp_in v2 (hp_n h_5 q_6) = true then
  xx_l (hp_si h_5 q_6 (v2).toNatClampNeg (0 : Int32)) fun h_8 =>
  f_M_layOrder_63 v0 v2 v1 (0 : Int32) h_8
  else none
  else none)
  else
  (f_M_layOrder_177 v0 v1 v2 h))
  else none))
noncomputable def f_M_layOrder_27 (v0 : Nat) (v1 : Int32) (v2 : Int32) (h : HP) : Option HP :=
  xx_lp (fun s : (Int32 × Int32 × HP) => f_M_layOrder_27b v0 s.1 s.2.1 s.2.2) (v1, v2, h)
noncomputable def f_M_layOrder_25 (v0 : Nat) (v1 : Int32) (h : HP) : Option HP :=
  f_M_layOrder_27 v0 v1 (0 : Int32) h
noncomputable def f_M_layOrder_4b (v0 : Nat) (v1 : Int32) (v2 : Int32) (h : HP) : Option ((Int32 × HP) ⊕ HP) :=
  (if (hp_i h v0 65) ≤ v2 then
  ((f_M_layOrder_25 v0 v1 h).map .inr)
  else
  ((hp_r h v0 73).bind fun q_38 =>
  if hp_in v2 (hp_n h q_38) = true then
  xx_l (hp_si h q_38 (v2).toNatClampNeg (-1 : Int32)) fun h_40 =>
  xx_l (v2 + (1 : Int32)) fun v2_41 =>
  some (.inl (v2_41, h_40))
  else none))
noncomputable def f_M_layOrder_4 (v0 : Nat) (v1 : Int32) (v2 : Int32) (h : HP) : Option HP :=
  xx_lp (fun s : (Int32 × HP) => f_M_layOrder_4b v0 v1 s.1 s.2) (v2, h)
noncomputable def f_M_layOrder (v0 : Nat) (h : HP) : Option HP :=
  f_M_layOrder_4 v0 (0 : Int32) (0 : Int32) h
/-! LampYardModel.layParts()V -/
noncomputable def f_M_layParts_186 (v0 : Nat) (v1 : Int32) (h : HP) : Option ((Int32 × HP) ⊕ HP) :=
  xx_l (v1 + (-1 : Int32)) fun v1_20 =>
  some (.inl (v1_20, h))
noncomputable def f_M_layParts_183 (v0 : Nat) (v1 : Int32) (v2 : Int32) (h : HP) : Option ((Int32 × HP) ⊕ ((Int32 × HP) ⊕ HP)) :=
  some (.inl (v2, h))
noncomputable def f_M_layParts_177 (v0 : Nat) (v1 : Int32) (v2 : Int32) (v3 : Int32) (v4 : Int32) (h : HP) : Option ((Int32 × Int32 × HP) ⊕ ((Int32 × HP) ⊕ ((Int32 × HP) ⊕ HP))) :=
  xx_l (v4 + (1 : Int32)) fun v4_47 =>
  some (.inl (v2, v4_47, h))
noncomputable def f_M_layParts_112b (v0 : Nat) (v1 : Int32) (v3 : Int32) (v2 : Int32) (v4 : Int32) (h : HP) : Option ((Int32 × Int32 × HP) ⊕ ((Int32 × HP) ⊕ ((Int32 × HP) ⊕ HP))) :=
  (hp_r h v0 69).bind fun q_28 =>
  if hp_in (v3 + (1 : Int32)) (hp_n h q_28) = true then
  (if (hp_i h q_28 ((v3 + (1 : Int32))).toNatClampNeg) ≤ v4 then
  ((f_M_layParts_183 v0 v1 v2 h).map .inr)
  else
  ((hp_r h v0 74).bind fun q_30 =>
  (hp_r h v0 70).bind fun q_31 =>
  if hp_in v4 (hp_n h q_31) = true then
  if hp_in (hp_i h q_31 (v4).toNatClampNeg) (hp_n h q_30) = true then
  (if (hp_i h q_30 ((hp_i h q_31 (v4).toNatClampNeg)).toNatClampNeg) < 0 then
  ((hp_r h v0 74).bind fun q_34 =>
  (hp_r h v0 70).bind fun q_35 =>
  if hp_in v4 (hp_n h q_35) = true then
  (hp_r h v0 71).bind fun q_37 =>
  if hp_in v1 (hp_n h q_37) = true then
  if hp_in (hp_i h q_35 (v4).toNatClampNeg) (hp_n h q_34) = true then
  xx_l (hp_si h q_34 ((hp_i h q_35 (v4).toNatClampNeg)).toNatClampNeg (hp_i h q_37 (v1).toNatClampNeg)) fun h_40 =>
  xx_l (v2 + (1 : Int32)) fun v2_41 =>
  (hp_r h_40 v0 72).bind fun q_42 =>
  (hp_r h_40 v0 70).bind fun q_43 =>
  if hp_in v4 (hp_n h_40 q_43) = true then
  if hp_in v2_41 (hp_n h_40 q_42) = true then
  xx_l (hp_si h_40 q_42 (v2_41).toNatClampNeg (hp_i h_40 q_43 (v4).toNatClampNeg)) fun h_46 =>
  f_M_layParts_177 v0 v1 v2_41 v3 v4 h_46
  else none
  else none
  else none
  else none
  else none)
  else
  (f_M_layParts_177 v0 v1 v2 v3 v4 h))
  else none
  else none))
  else none
noncomputable def f_M_layParts_112 (v0 : Nat) (v1 : Int32) (v3 : Int32) (v2 : Int32) (v4 : Int32) (h : HP) : Option ((Int32 × HP) ⊕ ((Int32 × HP) ⊕ HP)) :=
  xx_lp (fun s : (Int32 × Int32 × HP) => f_M_layParts_112b v0 v1 v3 s.1 s.2.1 s.2.2) (v2, v4, h)
noncomputable def f_M_layParts_90b (v0 : Nat) (v1 : Int32) (v2 : Int32) (h : HP) : Option ((Int32 × HP) ⊕ ((Int32 × HP) ⊕ HP)) :=
  (if v2 < 0 then
  ((f_M_layParts_186 v0 v1 h).map .inr)
  else
  ((hp_r h v0 72).bind fun q_21 =>
  if hp_in v2 (hp_n h q_21) = true then
  xx_l (hp_i h q_21 (v2).toNatClampNeg) fun v3_23 =>
  xx_l (v2 + (-1 : Int32)) fun v2_24 =>
  (hp_r h v0 69).bind fun q_25 =>
  if hp_in v3_23 (hp_n h q_25) = true then
  xx_l (hp_i h q_25 (v3_23).toNatClampNeg) fun v4_27 =>
  f_M_layParts_112 v0 v1 v3_23 v2_24 v4_27 h
  else none
  else none))
noncomputable def f_M_layParts_90 (v0 : Nat) (v1 : Int32) (v2 : Int32) (h : HP) : Option ((Int32 × HP) ⊕ HP) :=
  xx_lp (fun s : (Int32 × HP) => f_M_layParts_90b v0 v1 s.1 s.2) (v2, h)
noncomputable def f_M_layParts_38b (v0 : Nat) (v1 : Int32) (h : HP) : Option ((Int32 × HP) ⊕ HP) :=
  (if v1 < 0 then
  (some (.inr h))
  else
  ((hp_r h v0 74).bind fun q_4 =>
  (hp_r h v0 71).bind fun q_5 =>
  if hp_in v1 (hp_n h q_5) = true then
  if hp_in (hp_i h q_5 (v1).toNatClampNeg) (hp_n h q_4) = true then
  (if (hp_i h q_4 ((hp_i h q_5 (v1).toNatClampNeg)).toNatClampNeg) < 0 then
  ((hp_r h v0 72).bind fun q_8 =>
  (hp_r h v0 71).bind fun q_9 =>
  if hp_in v1 (hp_n h q_9) = true then
  if hp_in (0 : Int32) (hp_n h q_8) = true then
  xx_l (hp_si h q_8 ((0 : Int32)).toNatClampNeg (hp_i h q_9 (v1).toNatClampNeg)) fun h_12 =>
  (hp_r h_12 v0 74).bind fun q_13 =>
  (hp_r h_12 v0 71).bind fun q_14 =>
  if hp_in v1 (hp_n h_12 q_14) = true then
  (hp_r h_12 v0 71).bind fun q_16 =>
  if hp_in v1 (hp_n h_12 q_16) = true then
  if hp_in (hp_i h_12 q_14 (v1).toNatClampNeg) (hp_n h_12 q_13) = true then
  xx_l (hp_si h_12 q_13 ((hp_i h_12 q_14 (v1).toNatClampNeg)).toNatClampNeg (hp_i h_12 q_16 (v1).toNatClampNeg)) fun h_19 =>
  f_M_layParts_90 v0 v1 (0 : Int32) h_19
  else none
  else none
  else none
  else none
  else none)
  else
  (f_M_layParts_186 v0 v1 h))
  else none
  else none))
noncomputable def f_M_layParts_38 (v0 : Nat) (v1 : Int32) (h : HP) : Option HP :=
  xx_lp (fun s : (Int32 × HP) => f_M_layParts_38b v0 s.1 s.2) (v1, h)
noncomputable def f_M_layParts_31 (v0 : Nat) (h : HP) : Option HP :=
  xx_l ((hp_i h v0 65) - (1 : Int32)) fun v1_3 =>
  f_M_layParts_38 v0 v1_3 h
noncomputable def f_M_layParts_10b (v0 : Nat) (v1 : Int32) (h : HP) : Option ((Int32 × HP) ⊕ HP) :=
  (if (hp_i h v0 65) ≤ v1 then
  ((f_M_layParts_31 v0 h).map .inr)
  else
  ((hp_r h v0 74).bind fun q_48 =>
  if hp_in v1 (hp_n h q_48) = true then
  xx_l (hp_si h q_48 (v1).toNatClampNeg (-1 : Int32)) fun h_50 =>
  xx_l (v1 + (1 : Int32)) fun v1_51 =>
  some (.inl (v1_51, h_50))
  else none))
noncomputable def f_M_layParts_10 (v0 : Nat) (v1 : Int32) (h : HP) : Option HP :=
  xx_lp (fun s : (Int32 × HP) => f_M_layParts_10b v0 s.1 s.2) (v1, h)
noncomputable def f_M_layParts (v0 : Nat) (h : HP) : Option HP :=
  (f_M_layBack v0 h).bind fun x_1 =>
  (f_M_layOrder v0 x_1).bind fun x_2 =>
  f_M_layParts_10 v0 (0 : Int32) x_2
/-! LampYardModel.endlessMany()I -/
noncomputable def f_M_endlessMany_156 (v0 : Nat) (v2 : Int32) (s0 : Int32) (s1 : Int32) (h : HP) : Option ((Int32 × Int32 × HP) ⊕ (Int32 × HP)) :=
  xx_l (s1 + s0) fun v1_6 =>
  xx_l (v2 + (1 : Int32)) fun v2_7 =>
  some (.inl (v1_6, v2_7, h))
noncomputable def f_M_endlessMany_120b (v0 : Nat) (v1 : Int32) (v2 : Int32) (h : HP) : Option ((Int32 × Int32 × HP) ⊕ (Int32 × HP)) :=
  (if (hp_i h v0 65) ≤ v2 then
  (some (.inr (v1, h)))
  else
  ((hp_r h v0 75).bind fun q_2 =>
  (hp_r h v0 74).bind fun q_3 =>
  if hp_in v2 (hp_n h q_3) = true then
  if hp_in (hp_i h q_3 (v2).toNatClampNeg) (hp_n h q_2) = true then
  (if (hp_i h q_2 ((hp_i h q_3 (v2).toNatClampNeg)).toNatClampNeg) = (((1 : Int32) <<< ((hp_i h v0 33) &&& 31)) - (1 : Int32)) then
  (f_M_endlessMany_156 v0 v2 (1 : Int32) v1 h)
  else
  (f_M_endlessMany_156 v0 v2 (0 : Int32) v1 h))
  else none
  else none))
noncomputable def f_M_endlessMany_120 (v0 : Nat) (v1 : Int32) (v2 : Int32) (h : HP) : Option (Int32 × HP) :=
  xx_lp (fun s : (Int32 × Int32 × HP) => f_M_endlessMany_120b v0 s.1 s.2.1 s.2.2) (v1, v2, h)
noncomputable def f_M_endlessMany_116 (v0 : Nat) (h : HP) : Option (Int32 × HP) :=
  f_M_endlessMany_120 v0 (0 : Int32) (0 : Int32) h
noncomputable def f_M_endlessMany_110 (v0 : Nat) (v1 : Int32) (h : HP) : Option ((Int32 × HP) ⊕ (Int32 × HP)) :=
  xx_l (v1 + (1 : Int32)) fun v1_8 =>
  some (.inl (v1_8, h))
noncomputable def f_M_endlessMany_104 (v0 : Nat) (v1 : Int32) (v2 : Int32) (h : HP) : Option ((Int32 × HP) ⊕ ((Int32 × HP) ⊕ (Int32 × HP))) :=
  xx_l (v2 + (1 : Int32)) fun v2_12 =>
  some (.inl (v2_12, h))
noncomputable def f_M_endlessMany_48b (v0 : Nat) (v1 : Int32) (v2 : Int32) (h : HP) : Option ((Int32 × HP) ⊕ ((Int32 × HP) ⊕ (Int32 × HP))) :=
  (if (hp_i h v0 33) ≤ v2 then
  ((f_M_endlessMany_110 v0 v1 h).map .inr)
  else
  ((hp_r h v0 64).bind fun q_9 =>
  if hp_in (((6 : Int32) * v1) + v2) (hp_n h q_9) = true then
  xx_l (hp_i h q_9 ((((6 : Int32) * v1) + v2)).toNatClampNeg) fun v3_11 =>
  (if v3_11 < 0 then
  (f_M_endlessMany_104 v0 v1 v2 h)
  else
  ((hp_r h v0 74).bind fun q_13 =>
  if hp_in v3_11 (hp_n h q_13) = true then
  (hp_r h v0 74).bind fun q_15 =>
  if hp_in v1 (hp_n h q_15) = true then
  (if (hp_i h q_13 (v3_11).toNatClampNeg) = (hp_i h q_15 (v1).toNatClampNeg) then
  ((hp_r h v0 75).bind fun q_17 =>
  (hp_r h v0 74).bind fun q_18 =>
  if hp_in v1 (hp_n h q_18) = true then
  if hp_in (hp_i h q_18 (v1).toNatClampNeg) (hp_n h q_17) = true then
  if hp_in (hp_i h q_18 (v1).toNatClampNeg) (hp_n h q_17) = true then
  xx_l (hp_si h q_17 ((hp_i h q_18 (v1).toNatClampNeg)).toNatClampNeg ((hp_i h q_17 ((hp_i h q_18 (v1).toNatClampNeg)).toNatClampNeg) ||| ((1 : Int32) <<< (v2 &&& 31)))) fun h_22 =>
  f_M_endlessMany_104 v0 v1 v2 h_22
  else none
  else none
  else none)
  else
  (f_M_endlessMany_104 v0 v1 v2 h))
  else none
  else none))
  else none))
noncomputable def f_M_endlessMany_48 (v0 : Nat) (v1 : Int32) (v2 : Int32) (h : HP) : Option ((Int32 × HP) ⊕ (Int32 × HP)) :=
  xx_lp (fun s : (Int32 × HP) => f_M_endlessMany_48b v0 v1 s.1 s.2) (v2, h)
noncomputable def f_M_endlessMany_38b (v0 : Nat) (v1 : Int32) (h : HP) : Option ((Int32 × HP) ⊕ (Int32 × HP)) :=
  (if (hp_i h v0 65) ≤ v1 then
  ((f_M_endlessMany_116 v0 h).map .inr)
  else
  (f_M_endlessMany_48 v0 v1 (0 : Int32) h))
noncomputable def f_M_endlessMany_38 (v0 : Nat) (v1 : Int32) (h : HP) : Option (Int32 × HP) :=
  xx_lp (fun s : (Int32 × HP) => f_M_endlessMany_38b v0 s.1 s.2) (v1, h)
noncomputable def f_M_endlessMany_36 (v0 : Nat) (h : HP) : Option (Int32 × HP) :=
  f_M_endlessMany_38 v0 (0 : Int32) h
noncomputable def f_M_endlessMany_15b (v0 : Nat) (v1 : Int32) (h : HP) : Option ((Int32 × HP) ⊕ (Int32 × HP)) :=
  (if (hp_i h v0 65) ≤ v1 then
  ((f_M_endlessMany_36 v0 h).map .inr)
  else
  ((hp_r h v0 75).bind fun q_23 =>
  if hp_in v1 (hp_n h q_23) = true then
  xx_l (hp_si h q_23 (v1).toNatClampNeg (0 : Int32)) fun h_25 =>
  xx_l (v1 + (1 : Int32)) fun v1_26 =>
  some (.inl (v1_26, h_25))
  else none))
noncomputable def f_M_endlessMany_15 (v0 : Nat) (v1 : Int32) (h : HP) : Option (Int32 × HP) :=
  xx_lp (fun s : (Int32 × HP) => f_M_endlessMany_15b v0 s.1 s.2) (v1, h)
noncomputable def f_M_endlessMany (v0 : Nat) (h : HP) : Option (Int32 × HP) :=
  (if (hp_i h v0 33) = 0 then
  (some ((0 : Int32), h))
  else
  ((f_M_layParts v0 h).bind fun x_1 =>
  f_M_endlessMany_15 v0 (0 : Int32) x_1))
/-! LampYardModel.ends()I -/
noncomputable def f_M_ends (v0 : Nat) (h : HP) : Option (Int32 × HP) :=
  (f_M_layPlan v0 (-1 : Int32) h).bind fun x_1 =>
  (if x_1.1 = 0 then
  (some ((-2 : Int32), x_1.2))
  else
  ((f_M_endlessMany v0 x_1.2).bind fun x_2 =>
  (if x_2.1 = 0 then
  (some ((1 : Int32), x_2.2))
  else
  (some ((0 : Int32), x_2.2)))))
/-! LampYardModel.endless()I -/
noncomputable def f_M_endless (v0 : Nat) (h : HP) : Option (Int32 × HP) :=
  (f_M_layPlan v0 (-1 : Int32) h).bind fun x_1 =>
  (if x_1.1 = 0 then
  (some ((-2 : Int32), x_1.2))
  else
  ((f_M_endlessMany v0 x_1.2).bind fun x_2 =>
  some (x_2.1, x_2.2)))
/-! LampYardModel.idle()I -/
noncomputable def f_M_idle_100 (v0 : Nat) (v1 : Int32) (h : HP) : Option (Int32 × HP) :=
  (f_M_bring v0 h).bind fun x_4 =>
  some (v1, x_4)
noncomputable def f_M_idle_94 (v0 : Nat) (v1 : Int32) (v3 : Int32) (h : HP) : Option ((Int32 × Int32 × HP) ⊕ (Int32 × HP)) :=
  xx_l (v3 + (1 : Int32)) fun v3_5 =>
  some (.inl (v1, v3_5, h))
noncomputable def f_M_idle_88 (v0 : Nat) (v1 : Int32) (v3 : Int32) (v4 : Int32) (h : HP) : Option ((Int32 × Int32 × HP) ⊕ ((Int32 × Int32 × HP) ⊕ (Int32 × HP))) :=
  xx_l (v4 + (1 : Int32)) fun v4_10 =>
  some (.inl (v1, v4_10, h))
noncomputable def f_M_idle_79 (v0 : Nat) (v1 : Int32) (v3 : Int32) (v4 : Int32) (h : HP) : Option ((Int32 × Int32 × HP) ⊕ ((Int32 × Int32 × HP) ⊕ (Int32 × HP))) :=
  xx_l (v1 &&& (((1 : Int32) <<< (v4 &&& 31)) ^^^ (-1 : Int32))) fun v1_11 =>
  f_M_idle_88 v0 v1_11 v3 v4 h
noncomputable def f_M_idle_39b (v0 : Nat) (v3 : Int32) (v1 : Int32) (v4 : Int32) (h : HP) : Option ((Int32 × Int32 × HP) ⊕ ((Int32 × Int32 × HP) ⊕ (Int32 × HP))) :=
  (if (hp_i h v0 33) ≤ v4 then
  ((f_M_idle_94 v0 v1 v3 h).map .inr)
  else
  ((hp_r h v0 62).bind fun q_6 =>
  if hp_in v3 (hp_n h q_6) = true then
  (f_M_unpack v0 (hp_l h q_6 (v3).toNatClampNeg) h).bind fun x_8 =>
  (f_M_go v0 v4 x_8).bind fun x_9 =>
  (if (hp_i x_9.2 v0 53) = 0 then
  ((if (hp_i x_9.2 v0 54) = 0 then
  (f_M_idle_88 v0 v1 v3 v4 x_9.2)
  else
  (f_M_idle_79 v0 v1 v3 v4 x_9.2)))
  else
  (f_M_idle_79 v0 v1 v3 v4 x_9.2))
  else none))
noncomputable def f_M_idle_39 (v0 : Nat) (v3 : Int32) (v1 : Int32) (v4 : Int32) (h : HP) : Option ((Int32 × Int32 × HP) ⊕ (Int32 × HP)) :=
  xx_lp (fun s : (Int32 × Int32 × HP) => f_M_idle_39b v0 v3 s.1 s.2.1 s.2.2) (v1, v4, h)
noncomputable def f_M_idle_28b (v0 : Nat) (v1 : Int32) (v3 : Int32) (h : HP) : Option ((Int32 × Int32 × HP) ⊕ (Int32 × HP)) :=
  (if (hp_i h v0 65) ≤ v3 then
  ((f_M_idle_100 v0 v1 h).map .inr)
  else
  (f_M_idle_39 v0 v3 v1 (0 : Int32) h))
noncomputable def f_M_idle_28 (v0 : Nat) (v1 : Int32) (v3 : Int32) (h : HP) : Option (Int32 × HP) :=
  xx_lp (fun s : (Int32 × Int32 × HP) => f_M_idle_28b v0 s.1 s.2.1 s.2.2) (v1, v3, h)
noncomputable def f_M_idle (v0 : Nat) (h : HP) : Option (Int32 × HP) :=
  (f_M_layPlan v0 (-1 : Int32) h).bind fun x_1 =>
  (if x_1.1 = 0 then
  (some ((-2 : Int32), x_1.2))
  else
  (xx_l (((1 : Int32) <<< ((hp_i x_1.2 v0 33) &&& 31)) - (1 : Int32)) fun v1_2 =>
  (f_M_put v0 x_1.2).bind fun x_3 =>
  f_M_idle_28 v0 v1_2 (0 : Int32) x_3))
/-! LampYardModel.most(I)I -/
noncomputable def f_M_most_66 (v0 : Nat) (v1 : Int32) (v3 : Int32) (s0 : Int32) (h : HP) : Option ((Int32 × Int32 × HP) ⊕ (Int32 × HP)) :=
  xx_l (v3 + (1 : Int32)) fun v3_6 =>
  some (.inl (s0, v3_6, h))
noncomputable def f_M_most_25b (v0 : Nat) (v1 : Int32) (v2 : Int32) (v3 : Int32) (h : HP) : Option ((Int32 × Int32 × HP) ⊕ (Int32 × HP)) :=
  (if (hp_i h v0 65) ≤ v3 then
  (some (.inr (v2, h)))
  else
  ((hp_r h v0 62).bind fun q_3 =>
  if hp_in v3 (hp_n h q_3) = true then
  xx_l ((((hp_l h q_3 (v3).toNatClampNeg) >>> ((((7 : Int32) + ((8 : Int32) * v1))).toInt64 &&& 63)) &&& (31 : Int64))).toInt32 fun v4_5 =>
  (if v4_5 ≤ v2 then
  (f_M_most_66 v0 v1 v3 v2 h)
  else
  (f_M_most_66 v0 v1 v3 v4_5 h))
  else none))
noncomputable def f_M_most_25 (v0 : Nat) (v1 : Int32) (v2 : Int32) (v3 : Int32) (h : HP) : Option (Int32 × HP) :=
  xx_lp (fun s : (Int32 × Int32 × HP) => f_M_most_25b v0 v1 s.1 s.2.1 s.2.2) (v2, v3, h)
noncomputable def f_M_most (v0 : Nat) (v1 : Int32) (h : HP) : Option (Int32 × HP) :=
  (f_M_isMan v0 v1 h).bind fun x_1 =>
  (if x_1.1 = 0 then
  (some ((-1 : Int32), x_1.2))
  else
  ((f_M_layPlan v0 (-1 : Int32) x_1.2).bind fun x_2 =>
  (if x_2.1 = 0 then
  (some ((-2 : Int32), x_2.2))
  else
  (f_M_most_25 v0 v1 (0 : Int32) (0 : Int32) x_2.2))))
/-! LampYardModel.common(JJ)J -/
noncomputable def f_M_common_6b (v4 : Int64) (v6 : Int64) (h : HP) : Option ((Int64 × Int64 × HP) ⊕ (Int64 × HP)) :=
  (if (lg_cmp v6 (0 : Int64)) ≤ 0 then
  (some (.inr (v4, h)))
  else
  (if ¬ (v6 = 0) then
  xx_l (v4 - v4 / v6 * v6) fun v8_2 =>
  some (.inl (v6, v8_2, h))
  else none))
noncomputable def f_M_common_6 (v4 : Int64) (v6 : Int64) (h : HP) : Option (Int64 × HP) :=
  xx_lp (fun s : (Int64 × Int64 × HP) => f_M_common_6b s.1 s.2.1 s.2.2) (v4, v6, h)
noncomputable def f_M_common (v0 : Int64) (v2 : Int64) (h : HP) : Option (Int64 × HP) :=
  f_M_common_6 v0 v2 h
/-! LampYardModel.partOf(JJI)J -/
noncomputable def f_M_partOf (v0 : Int64) (v2 : Int64) (v4 : Int32) (h : HP) : Option (Int64 × HP) :=
  (f_M_common v2 v0 h).bind fun x_1 =>
  (if v4 = 0 then
  (if ¬ (x_1.1 = 0) then
  some ((v0 / x_1.1), x_1.2)
  else none)
  else
  (if ¬ (x_1.1 = 0) then
  some ((v2 / x_1.1), x_1.2)
  else none))
/-! LampYardModel.isPart(I)Z -/
noncomputable def f_M_isPart (v0 : Int32) (h : HP) : Option (Int32 × HP) :=
  (if v0 = 0 then
  (some ((1 : Int32), h))
  else
  ((if v0 = (1 : Int32) then
  (some ((1 : Int32), h))
  else
  (some ((0 : Int32), h)))))
/-! LampYardModel.said(IIII)J -/
noncomputable def f_M_said_317 (v4 : Int32) (v5 : Int64) (v7 : Int64) (h : HP) : Option (Int64 × HP) :=
  (f_M_partOf v7 v5 v4 h).bind fun x_9 =>
  some (x_9.1, x_9.2)
noncomputable def f_M_said_311 (v0 : Nat) (v2 : Int32) (v3 : Int32) (v4 : Int32) (v5 : Int64) (v7 : Int64) (v9 : Int32) (h : HP) : Option ((Int64 × Int64 × Int32 × HP) ⊕ (Int64 × HP)) :=
  xx_l (v9 + (1 : Int32)) fun v9_12 =>
  some (.inl (v5, v7, v9_12, h))
noncomputable def f_M_said_282b (v0 : Nat) (v2 : Int32) (v3 : Int32) (v4 : Int32) (v5 : Int64) (v7 : Int64) (v9 : Int32) (v10 : Int32) (h : HP) : Option ((Int32 × HP) ⊕ ((Int64 × Int64 × Int32 × HP) ⊕ (Int64 × HP))) :=
  (if (hp_i h v0 65) ≤ v10 then
  ((f_M_said_311 v0 v2 v3 v4 v5 v7 v9 h).map .inr)
  else
  ((hp_r h v0 76).bind fun q_13 =>
  (hp_r h v0 77).bind fun q_14 =>
  if hp_in v10 (hp_n h q_14) = true then
  if hp_in v10 (hp_n h q_13) = true then
  xx_l (hp_sl h q_13 (v10).toNatClampNeg (hp_l h q_14 (v10).toNatClampNeg)) fun h_17 =>
  xx_l (v10 + (1 : Int32)) fun v10_18 =>
  some (.inl (v10_18, h_17))
  else none
  else none))
noncomputable def f_M_said_282 (v0 : Nat) (v2 : Int32) (v3 : Int32) (v4 : Int32) (v5 : Int64) (v7 : Int64) (v9 : Int32) (v10 : Int32) (h : HP) : Option ((Int64 × Int64 × Int32 × HP) ⊕ (Int64 × HP)) :=
  xx_lp (fun s : (Int32 × HP) => f_M_said_282b v0 v2 v3 v4 v5 v7 v9 s.1 s.2) (v10, h)
noncomputable def f_M_said_279 (v0 : Nat) (v2 : Int32) (v3 : Int32) (v4 : Int32) (v5 : Int64) (v7 : Int64) (v9 : Int32) (h : HP) : Option ((Int64 × Int64 × Int32 × HP) ⊕ (Int64 × HP)) :=
  f_M_said_282 v0 v2 v3 v4 v5 v7 v9 (0 : Int32) h
noncomputable def f_M_said_273 (v0 : Nat) (v2 : Int32) (v3 : Int32) (v4 : Int32) (v5 : Int64) (v7 : Int64) (v9 : Int32) (v10 : Int32) (h : HP) : Option ((Int64 × Int32 × HP) ⊕ ((Int64 × Int64 × Int32 × HP) ⊕ (Int64 × HP))) :=
  xx_l (v10 + (1 : Int32)) fun v10_19 =>
  some (.inl (v7, v10_19, h))
noncomputable def f_M_said_267 (v0 : Nat) (v2 : Int32) (v3 : Int32) (v4 : Int32) (v5 : Int64) (v7 : Int64) (v9 : Int32) (v10 : Int32) (v11 : Int32) (h : HP) : Option ((Int64 × Int32 × HP) ⊕ ((Int64 × Int32 × HP) ⊕ ((Int64 × Int64 × Int32 × HP) ⊕ (Int64 × HP)))) :=
  xx_l (v11 + (1 : Int32)) fun v11_28 =>
  some (.inl (v7, v11_28, h))
noncomputable def f_M_said_264 (v0 : Nat) (v2 : Int32) (v3 : Int32) (v4 : Int32) (v5 : Int64) (v9 : Int32) (v10 : Int32) (v11 : Int32) (s0 : Int64) (s1 : Int64) (h : HP) : Option ((Int64 × Int32 × HP) ⊕ ((Int64 × Int32 × HP) ⊕ ((Int64 × Int64 × Int32 × HP) ⊕ (Int64 × HP)))) :=
  xx_l (s1 + s0) fun v7_27 =>
  f_M_said_267 v0 v2 v3 v4 v5 v7_27 v9 v10 v11 h
noncomputable def f_M_said_253 (v0 : Nat) (v2 : Int32) (v3 : Int32) (v4 : Int32) (v5 : Int64) (v9 : Int32) (v10 : Int32) (v11 : Int32) (s0 : Int64) (h : HP) : Option ((Int64 × Int32 × HP) ⊕ ((Int64 × Int32 × HP) ⊕ ((Int64 × Int64 × Int32 × HP) ⊕ (Int64 × HP)))) :=
  (hp_r h v0 76).bind fun q_25 =>
  if hp_in v10 (hp_n h q_25) = true then
  f_M_said_264 v0 v2 v3 v4 v5 v9 v10 v11 (hp_l h q_25 (v10).toNatClampNeg) s0 h
  else none
noncomputable def f_M_said_179b (v0 : Nat) (v2 : Int32) (v3 : Int32) (v4 : Int32) (v5 : Int64) (v9 : Int32) (v10 : Int32) (v7 : Int64) (v11 : Int32) (h : HP) : Option ((Int64 × Int32 × HP) ⊕ ((Int64 × Int32 × HP) ⊕ ((Int64 × Int64 × Int32 × HP) ⊕ (Int64 × HP)))) :=
  (if (hp_i h v0 33) ≤ v11 then
  ((f_M_said_273 v0 v2 v3 v4 v5 v7 v9 v10 h).map .inr)
  else
  ((hp_r h v0 76).bind fun q_20 =>
  if hp_in v10 (hp_n h q_20) = true then
  (if (lg_cmp (hp_l h q_20 (v10).toNatClampNeg) (0 : Int64)) ≤ 0 then
  ((f_M_said_273 v0 v2 v3 v4 v5 v7 v9 v10 h).map .inr)
  else
  ((hp_r h v0 64).bind fun q_22 =>
  if hp_in (((6 : Int32) * v10) + v11) (hp_n h q_22) = true then
  xx_l (hp_i h q_22 ((((6 : Int32) * v10) + v11)).toNatClampNeg) fun v12_24 =>
  (if v12_24 < 0 then
  ((if v3 = 0 then
  (f_M_said_253 v0 v2 v3 v4 v5 v9 v10 v11 v7 h)
  else
  ((if v12_24 = (-3 : Int32) then
  (f_M_said_253 v0 v2 v3 v4 v5 v9 v10 v11 v7 h)
  else
  (f_M_said_264 v0 v2 v3 v4 v5 v9 v10 v11 (0 : Int64) v7 h)))))
  else
  ((hp_r h v0 77).bind fun q_29 =>
  if hp_in v12_24 (hp_n h q_29) = true then
  (hp_r h v0 76).bind fun q_31 =>
  if hp_in v10 (hp_n h q_31) = true then
  if hp_in v12_24 (hp_n h q_29) = true then
  xx_l (hp_sl h q_29 (v12_24).toNatClampNeg ((hp_l h q_29 (v12_24).toNatClampNeg) + (hp_l h q_31 (v10).toNatClampNeg))) fun h_34 =>
  f_M_said_267 v0 v2 v3 v4 v5 v7 v9 v10 v11 h_34
  else none
  else none
  else none))
  else none))
  else none))
noncomputable def f_M_said_179 (v0 : Nat) (v2 : Int32) (v3 : Int32) (v4 : Int32) (v5 : Int64) (v9 : Int32) (v10 : Int32) (v7 : Int64) (v11 : Int32) (h : HP) : Option ((Int64 × Int32 × HP) ⊕ ((Int64 × Int64 × Int32 × HP) ⊕ (Int64 × HP))) :=
  xx_lp (fun s : (Int64 × Int32 × HP) => f_M_said_179b v0 v2 v3 v4 v5 v9 v10 s.1 s.2.1 s.2.2) (v7, v11, h)
noncomputable def f_M_said_167b (v0 : Nat) (v2 : Int32) (v3 : Int32) (v4 : Int32) (v5 : Int64) (v9 : Int32) (v7 : Int64) (v10 : Int32) (h : HP) : Option ((Int64 × Int32 × HP) ⊕ ((Int64 × Int64 × Int32 × HP) ⊕ (Int64 × HP))) :=
  (if (hp_i h v0 65) ≤ v10 then
  ((f_M_said_279 v0 v2 v3 v4 v5 v7 v9 h).map .inr)
  else
  (f_M_said_179 v0 v2 v3 v4 v5 v9 v10 v7 (0 : Int32) h))
noncomputable def f_M_said_167 (v0 : Nat) (v2 : Int32) (v3 : Int32) (v4 : Int32) (v5 : Int64) (v9 : Int32) (v7 : Int64) (v10 : Int32) (h : HP) : Option ((Int64 × Int64 × Int32 × HP) ⊕ (Int64 × HP)) :=
  xx_lp (fun s : (Int64 × Int32 × HP) => f_M_said_167b v0 v2 v3 v4 v5 v9 s.1 s.2.1 s.2.2) (v7, v10, h)
noncomputable def f_M_said_164 (v0 : Nat) (v2 : Int32) (v3 : Int32) (v4 : Int32) (v5 : Int64) (v7 : Int64) (v9 : Int32) (h : HP) : Option ((Int64 × Int64 × Int32 × HP) ⊕ (Int64 × HP)) :=
  f_M_said_167 v0 v2 v3 v4 v5 v9 v7 (0 : Int32) h
noncomputable def f_M_said_141b (v0 : Nat) (v2 : Int32) (v3 : Int32) (v4 : Int32) (v5 : Int64) (v7 : Int64) (v9 : Int32) (v10 : Int32) (h : HP) : Option ((Int32 × HP) ⊕ ((Int64 × Int64 × Int32 × HP) ⊕ (Int64 × HP))) :=
  (if (hp_i h v0 65) ≤ v10 then
  ((f_M_said_164 v0 v2 v3 v4 v5 v7 v9 h).map .inr)
  else
  ((hp_r h v0 77).bind fun q_35 =>
  if hp_in v10 (hp_n h q_35) = true then
  xx_l (hp_sl h q_35 (v10).toNatClampNeg (0 : Int64)) fun h_37 =>
  xx_l (v10 + (1 : Int32)) fun v10_38 =>
  some (.inl (v10_38, h_37))
  else none))
noncomputable def f_M_said_141 (v0 : Nat) (v2 : Int32) (v3 : Int32) (v4 : Int32) (v5 : Int64) (v7 : Int64) (v9 : Int32) (v10 : Int32) (h : HP) : Option ((Int64 × Int64 × Int32 × HP) ⊕ (Int64 × HP)) :=
  xx_lp (fun s : (Int32 × HP) => f_M_said_141b v0 v2 v3 v4 v5 v7 v9 s.1 s.2) (v10, h)
noncomputable def f_M_said_112b (v0 : Nat) (v2 : Int32) (v3 : Int32) (v4 : Int32) (v5 : Int64) (v7 : Int64) (v9 : Int32) (h : HP) : Option ((Int64 × Int64 × Int32 × HP) ⊕ (Int64 × HP)) :=
  (if v2 ≤ v9 then
  ((f_M_said_317 v4 v5 v7 h).map .inr)
  else
  (xx_l (v5 * ((hp_i h v0 33)).toInt64) fun v5_10 =>
  xx_l (v7 * ((hp_i h v0 33)).toInt64) fun v7_11 =>
  f_M_said_141 v0 v2 v3 v4 v5_10 v7_11 v9 (0 : Int32) h))
noncomputable def f_M_said_112 (v0 : Nat) (v2 : Int32) (v3 : Int32) (v4 : Int32) (v5 : Int64) (v7 : Int64) (v9 : Int32) (h : HP) : Option (Int64 × HP) :=
  xx_lp (fun s : (Int64 × Int64 × Int32 × HP) => f_M_said_112b v0 v2 v3 v4 s.1 s.2.1 s.2.2.1 s.2.2.2) (v5, v7, v9, h)
noncomputable def f_M_said_92 (v0 : Nat) (v1 : Int32) (v2 : Int32) (v3 : Int32) (v4 : Int32) (h : HP) : Option (Int64 × HP) :=
  (hp_r h v0 76).bind fun q_5 =>
  (f_M_startNumber v0 v1 h).bind fun x_6 =>
  if hp_in x_6.1 (hp_n x_6.2 q_5) = true then
  xx_l (hp_sl x_6.2 q_5 (x_6.1).toNatClampNeg (1 : Int64)) fun h_8 =>
  f_M_said_112 v0 v2 v3 v4 (1 : Int64) (0 : Int64) (0 : Int32) h_8
  else none
noncomputable def f_M_said_69b (v0 : Nat) (v1 : Int32) (v2 : Int32) (v3 : Int32) (v4 : Int32) (v5 : Int32) (h : HP) : Option ((Int32 × HP) ⊕ (Int64 × HP)) :=
  (if (hp_i h v0 65) ≤ v5 then
  ((f_M_said_92 v0 v1 v2 v3 v4 h).map .inr)
  else
  ((hp_r h v0 76).bind fun q_39 =>
  if hp_in v5 (hp_n h q_39) = true then
  xx_l (hp_sl h q_39 (v5).toNatClampNeg (0 : Int64)) fun h_41 =>
  xx_l (v5 + (1 : Int32)) fun v5_42 =>
  some (.inl (v5_42, h_41))
  else none))
noncomputable def f_M_said_69 (v0 : Nat) (v1 : Int32) (v2 : Int32) (v3 : Int32) (v4 : Int32) (v5 : Int32) (h : HP) : Option (Int64 × HP) :=
  xx_lp (fun s : (Int32 × HP) => f_M_said_69b v0 v1 v2 v3 v4 s.1 s.2) (v5, h)
noncomputable def f_M_said (v0 : Nat) (v1 : Int32) (v2 : Int32) (v3 : Int32) (v4 : Int32) (h : HP) : Option (Int64 × HP) :=
  (if (hp_i h v0 33) = 0 then
  (some ((-1 : Int64), h))
  else
  ((f_M_isLight v0 v1 h).bind fun x_1 =>
  (if x_1.1 = 0 then
  (some ((-1 : Int64), x_1.2))
  else
  ((f_M_isStart v0 v1 x_1.2).bind fun x_2 =>
  (if x_2.1 = 0 then
  (some ((-1 : Int64), x_2.2))
  else
  ((if v2 < 0 then
  (some ((-1 : Int64), x_2.2))
  else
  ((if (12 : Int32) < v2 then
  (some ((-1 : Int64), x_2.2))
  else
  ((if v3 < 0 then
  (some ((-1 : Int64), x_2.2))
  else
  ((if (1 : Int32) < v3 then
  (some ((-1 : Int64), x_2.2))
  else
  ((f_M_isPart v4 x_2.2).bind fun x_3 =>
  (if x_3.1 = 0 then
  (some ((-1 : Int64), x_3.2))
  else
  ((f_M_layPlan v0 (-1 : Int32) x_3.2).bind fun x_4 =>
  (if x_4.1 = 0 then
  (some ((-2 : Int64), x_4.2))
  else
  (f_M_said_69 v0 v1 v2 v3 v4 (0 : Int32) x_4.2))))))))))))))))))
/-! LampYardModel.layRows(II)J -/
noncomputable def f_M_layRows_90 (v0 : Nat) (v1 : Int32) (v2 : Int32) (v3 : Int64) (v5 : Int32) (h : HP) : Option ((Int64 × Int32 × HP) ⊕ (Int64 × HP)) :=
  (hp_r h v0 78).bind fun q_1 =>
  if hp_in (0 : Int32) (hp_n h q_1) = true then
  xx_l (hp_sl h q_1 ((0 : Int32)).toNatClampNeg (0 : Int64)) fun h_3 =>
  xx_l (v3 * (v1).toInt64) fun v3_4 =>
  xx_l (v5 + (1 : Int32)) fun v5_5 =>
  some (.inl (v3_4, v5_5, h_3))
  else none
noncomputable def f_M_layRows_43b (v0 : Nat) (v1 : Int32) (v2 : Int32) (v3 : Int64) (v5 : Int32) (v6 : Int32) (h : HP) : Option ((Int32 × HP) ⊕ ((Int64 × Int32 × HP) ⊕ (Int64 × HP))) :=
  (if v6 ≤ 0 then
  ((f_M_layRows_90 v0 v1 v2 v3 v5 h).map .inr)
  else
  ((hp_r h v0 78).bind fun q_6 =>
  (hp_r h v0 78).bind fun q_7 =>
  if hp_in v6 (hp_n h q_7) = true then
  (hp_r h v0 78).bind fun q_9 =>
  if hp_in (v6 - (1 : Int32)) (hp_n h q_9) = true then
  if hp_in v6 (hp_n h q_6) = true then
  xx_l (hp_sl h q_6 (v6).toNatClampNeg (((hp_l h q_7 (v6).toNatClampNeg) * (v6).toInt64) + ((hp_l h q_9 ((v6 - (1 : Int32))).toNatClampNeg) * (((v1 - v6) + (1 : Int32))).toInt64))) fun h_12 =>
  xx_l (v6 + (-1 : Int32)) fun v6_13 =>
  some (.inl (v6_13, h_12))
  else none
  else none
  else none))
noncomputable def f_M_layRows_43 (v0 : Nat) (v1 : Int32) (v2 : Int32) (v3 : Int64) (v5 : Int32) (v6 : Int32) (h : HP) : Option ((Int64 × Int32 × HP) ⊕ (Int64 × HP)) :=
  xx_lp (fun s : (Int32 × HP) => f_M_layRows_43b v0 v1 v2 v3 v5 s.1 s.2) (v6, h)
noncomputable def f_M_layRows_34b (v0 : Nat) (v1 : Int32) (v2 : Int32) (v3 : Int64) (v5 : Int32) (h : HP) : Option ((Int64 × Int32 × HP) ⊕ (Int64 × HP)) :=
  (if v2 ≤ v5 then
  (some (.inr (v3, h)))
  else
  (f_M_layRows_43 v0 v1 v2 v3 v5 v1 h))
noncomputable def f_M_layRows_34 (v0 : Nat) (v1 : Int32) (v2 : Int32) (v3 : Int64) (v5 : Int32) (h : HP) : Option (Int64 × HP) :=
  xx_lp (fun s : (Int64 × Int32 × HP) => f_M_layRows_34b v0 v1 v2 s.1 s.2.1 s.2.2) (v3, v5, h)
noncomputable def f_M_layRows_29 (v0 : Nat) (v1 : Int32) (v2 : Int32) (h : HP) : Option (Int64 × HP) :=
  f_M_layRows_34 v0 v1 v2 (1 : Int64) (0 : Int32) h
noncomputable def f_M_layRows_22 (v0 : Nat) (v1 : Int32) (v2 : Int32) (v3 : Int32) (s0 : Int64) (s1 : Int32) (s2 : Nat) (h : HP) : Option ((Int32 × HP) ⊕ (Int64 × HP)) :=
  if hp_in s1 (hp_n h s2) = true then
  xx_l (hp_sl h s2 (s1).toNatClampNeg s0) fun h_16 =>
  xx_l (v3 + (1 : Int32)) fun v3_17 =>
  some (.inl (v3_17, h_16))
  else none
noncomputable def f_M_layRows_2b (v0 : Nat) (v1 : Int32) (v2 : Int32) (v3 : Int32) (h : HP) : Option ((Int32 × HP) ⊕ (Int64 × HP)) :=
  (if (8 : Int32) ≤ v3 then
  ((f_M_layRows_29 v0 v1 v2 h).map .inr)
  else
  ((hp_r h v0 78).bind fun q_14 =>
  (if v3 = 0 then
  (f_M_layRows_22 v0 v1 v2 v3 (1 : Int64) v3 q_14 h)
  else
  (f_M_layRows_22 v0 v1 v2 v3 (0 : Int64) v3 q_14 h))))
noncomputable def f_M_layRows_2 (v0 : Nat) (v1 : Int32) (v2 : Int32) (v3 : Int32) (h : HP) : Option (Int64 × HP) :=
  xx_lp (fun s : (Int32 × HP) => f_M_layRows_2b v0 v1 v2 s.1 s.2) (v3, h)
noncomputable def f_M_layRows (v0 : Nat) (v1 : Int32) (v2 : Int32) (h : HP) : Option (Int64 × HP) :=
  f_M_layRows_2 v0 v1 v2 (0 : Int32) h
/-! LampYardModel.isMany(I)Z -/
noncomputable def f_M_isMany (v0 : Int32) (h : HP) : Option (Int32 × HP) :=
  (if v0 < (1 : Int32) then
  (some ((0 : Int32), h))
  else
  ((if (6 : Int32) < v0 then
  (some ((0 : Int32), h))
  else
  (some ((1 : Int32), h)))))
/-! LampYardModel.all(III)J -/
noncomputable def f_M_all (v0 : Nat) (v1 : Int32) (v2 : Int32) (v3 : Int32) (h : HP) : Option (Int64 × HP) :=
  (f_M_isMany v1 h).bind fun x_1 =>
  (if x_1.1 = 0 then
  (some ((-1 : Int64), x_1.2))
  else
  ((if v2 < 0 then
  (some ((-1 : Int64), x_1.2))
  else
  ((if (20 : Int32) < v2 then
  (some ((-1 : Int64), x_1.2))
  else
  ((f_M_isPart v3 x_1.2).bind fun x_2 =>
  (if x_2.1 = 0 then
  (some ((-1 : Int64), x_2.2))
  else
  ((f_M_layRows v0 v1 v2 x_2.2).bind fun x_3 =>
  (hp_r x_3.2 v0 78).bind fun q_4 =>
  if hp_in v1 (hp_n x_3.2 q_4) = true then
  (f_M_partOf (hp_l x_3.2 q_4 (v1).toNatClampNeg) x_3.1 v3 x_3.2).bind fun x_6 =>
  some (x_6.1, x_6.2)
  else none))))))))
/-! LampYardModel.guess(II)I -/
noncomputable def f_M_guess_22b (v0 : Nat) (v1 : Int32) (v2 : Int32) (v3 : Int32) (h : HP) : Option ((Int32 × HP) ⊕ (Int32 × HP)) :=
  (if (20 : Int32) < v3 then
  (some (.inr ((-1 : Int32), h)))
  else
  ((f_M_layRows v0 v1 v3 h).bind fun x_2 =>
  (hp_r x_2.2 v0 78).bind fun q_3 =>
  if hp_in v1 (hp_n x_2.2 q_3) = true then
  (if 0 < (lg_cmp ((x_2.1 - (hp_l x_2.2 q_3 (v1).toNatClampNeg)) * (1000 : Int64)) ((v2).toInt64 * x_2.1)) then
  (xx_l (v3 + (1 : Int32)) fun v3_5 =>
  some (.inl (v3_5, x_2.2)))
  else
  (some (.inr (v3, x_2.2))))
  else none))
noncomputable def f_M_guess_22 (v0 : Nat) (v1 : Int32) (v2 : Int32) (v3 : Int32) (h : HP) : Option (Int32 × HP) :=
  xx_lp (fun s : (Int32 × HP) => f_M_guess_22b v0 v1 v2 s.1 s.2) (v3, h)
noncomputable def f_M_guess (v0 : Nat) (v1 : Int32) (v2 : Int32) (h : HP) : Option (Int32 × HP) :=
  (f_M_isMany v1 h).bind fun x_1 =>
  (if x_1.1 = 0 then
  (some ((-1 : Int32), x_1.2))
  else
  ((if v2 < 0 then
  (some ((-1 : Int32), x_1.2))
  else
  ((if v2 ≤ (1000 : Int32) then
  (f_M_guess_22 v0 v1 v2 (0 : Int32) x_1.2)
  else
  (some ((-1 : Int32), x_1.2)))))))
/-! LampYardModel.mean(II)J -/
noncomputable def f_M_mean_48 (v2 : Int32) (v3 : Int64) (h : HP) : Option (Int64 × HP) :=
  (f_M_partOf v3 (60 : Int64) v2 h).bind fun x_3 =>
  some (x_3.1, x_3.2)
noncomputable def f_M_mean_23b (v1 : Int32) (v2 : Int32) (v3 : Int64) (v5 : Int32) (h : HP) : Option ((Int64 × Int32 × HP) ⊕ (Int64 × HP)) :=
  (if v1 < v5 then
  ((f_M_mean_48 v2 v3 h).map .inr)
  else
  (if ¬ ((v5).toInt64 = 0) then
  xx_l (v3 + (((60 : Int64) * (v1).toInt64) / (v5).toInt64)) fun v3_5 =>
  xx_l (v5 + (1 : Int32)) fun v5_6 =>
  some (.inl (v3_5, v5_6, h))
  else none))
noncomputable def f_M_mean_23 (v1 : Int32) (v2 : Int32) (v3 : Int64) (v5 : Int32) (h : HP) : Option (Int64 × HP) :=
  xx_lp (fun s : (Int64 × Int32 × HP) => f_M_mean_23b v1 v2 s.1 s.2.1 s.2.2) (v3, v5, h)
noncomputable def f_M_mean (v0 : Nat) (v1 : Int32) (v2 : Int32) (h : HP) : Option (Int64 × HP) :=
  (f_M_isMany v1 h).bind fun x_1 =>
  (if x_1.1 = 0 then
  (some ((-1 : Int64), x_1.2))
  else
  ((f_M_isPart v2 x_1.2).bind fun x_2 =>
  (if x_2.1 = 0 then
  (some ((-1 : Int64), x_2.2))
  else
  (f_M_mean_23 v1 v2 (0 : Int64) (1 : Int32) x_2.2))))
/-! LampYardModel.counter(IIII)I -/
noncomputable def f_M_counter_57 (v1 : Int32) (v2 : Int32) (v4 : Int32) (s0 : Int32) (s1 : Int32) (h : HP) : Option (Int32 × HP) :=
  xx_l (s1 + s0) fun v5_1 =>
  (if v4 = 0 then
  (some (v5_1, h))
  else
  ((if ((v1 - (1 : Int32)) * v2) < v5_1 then
  (some ((0 : Int32), h))
  else
  (some ((1 : Int32), h)))))
noncomputable def f_M_counter (v0 : Nat) (v1 : Int32) (v2 : Int32) (v3 : Int32) (v4 : Int32) (h : HP) : Option (Int32 × HP) :=
  (if v1 < (2 : Int32) then
  (some ((-1 : Int32), h))
  else
  ((if (4 : Int32) < v1 then
  (some ((-1 : Int32), h))
  else
  ((if v2 < (1 : Int32) then
  (some ((-1 : Int32), h))
  else
  ((if (3 : Int32) < v2 then
  (some ((-1 : Int32), h))
  else
  ((if v3 < 0 then
  (some ((-1 : Int32), h))
  else
  ((if (1 : Int32) < v3 then
  (some ((-1 : Int32), h))
  else
  ((if v4 < 0 then
  (some ((-1 : Int32), h))
  else
  ((if v4 ≤ (1 : Int32) then
  ((if v3 = (1 : Int32) then
  (f_M_counter_57 v1 v2 v4 (1 : Int32) ((v1 - (2 : Int32)) * v2) h)
  else
  (f_M_counter_57 v1 v2 v4 (2 : Int32) ((v1 - (2 : Int32)) * v2) h)))
  else
  (some ((-1 : Int32), h)))))))))))))))))
/-! LampYardModel.fair()I -/
noncomputable def f_M_fair_69 (v0 : Nat) (v1 : Int32) (v3 : Int32) (s0 : Int32) (h : HP) : Option ((Int32 × Int32 × Int32 × HP) ⊕ (Int32 × HP)) :=
  xx_l (v3 + (1 : Int32)) fun v3_8 =>
  some (.inl (v1, s0, v3_8, h))
noncomputable def f_M_fair_48 (v0 : Nat) (v2 : Int32) (v3 : Int32) (s0 : Int32) (h : HP) : Option ((Int32 × Int32 × Int32 × HP) ⊕ (Int32 × HP)) :=
  (hp_r h v0 49).bind fun q_6 =>
  if hp_in v3 (hp_n h q_6) = true then
  (if v2 ≤ (hp_i h q_6 (v3).toNatClampNeg) then
  (f_M_fair_69 v0 s0 v3 v2 h)
  else
  ((hp_r h v0 49).bind fun q_9 =>
  if hp_in v3 (hp_n h q_9) = true then
  f_M_fair_69 v0 s0 v3 (hp_i h q_9 (v3).toNatClampNeg) h
  else none))
  else none
noncomputable def f_M_fair_20b (v0 : Nat) (v1 : Int32) (v2 : Int32) (v3 : Int32) (h : HP) : Option ((Int32 × Int32 × Int32 × HP) ⊕ (Int32 × HP)) :=
  (if (hp_i h v0 33) ≤ v3 then
  (some (.inr ((v1 - v2), h)))
  else
  ((hp_r h v0 49).bind fun q_4 =>
  if hp_in v3 (hp_n h q_4) = true then
  (if (hp_i h q_4 (v3).toNatClampNeg) ≤ v1 then
  (f_M_fair_48 v0 v2 v3 v1 h)
  else
  ((hp_r h v0 49).bind fun q_11 =>
  if hp_in v3 (hp_n h q_11) = true then
  f_M_fair_48 v0 v2 v3 (hp_i h q_11 (v3).toNatClampNeg) h
  else none))
  else none))
noncomputable def f_M_fair_20 (v0 : Nat) (v1 : Int32) (v2 : Int32) (v3 : Int32) (h : HP) : Option (Int32 × HP) :=
  xx_lp (fun s : (Int32 × Int32 × Int32 × HP) => f_M_fair_20b v0 s.1 s.2.1 s.2.2.1 s.2.2.2) (v1, v2, v3, h)
noncomputable def f_M_fair (v0 : Nat) (h : HP) : Option (Int32 × HP) :=
  (if (hp_i h v0 33) = 0 then
  (some ((-1 : Int32), h))
  else
  ((hp_r h v0 49).bind fun q_1 =>
  if hp_in (0 : Int32) (hp_n h q_1) = true then
  xx_l (hp_i h q_1 ((0 : Int32)).toNatClampNeg) fun v2_3 =>
  f_M_fair_20 v0 (0 : Int32) v2_3 (0 : Int32) h
  else none))
/-! LampYardModel.log(II)I -/
noncomputable def f_M_log (v0 : Nat) (v1 : Int32) (v2 : Int32) (h : HP) : Option (Int32 × HP) :=
  (if v1 < 0 then
  (some ((-1 : Int32), h))
  else
  ((if (100 : Int32) ≤ v1 then
  (some ((-1 : Int32), h))
  else
  ((f_M_isMan v0 v2 h).bind fun x_1 =>
  (if x_1.1 = 0 then
  (some ((-1 : Int32), x_1.2))
  else
  ((if (hp_i x_1.2 v0 85) = (60 : Int32) then
  (some ((-1 : Int32), x_1.2))
  else
  ((hp_r x_1.2 v0 79).bind fun q_2 =>
  if hp_in (hp_i x_1.2 v0 85) (hp_n x_1.2 q_2) = true then
  xx_l (hp_si x_1.2 q_2 ((hp_i x_1.2 v0 85)).toNatClampNeg v1) fun h_4 =>
  (hp_r h_4 v0 80).bind fun q_5 =>
  if hp_in (hp_i h_4 v0 85) (hp_n h_4 q_5) = true then
  xx_l (hp_si h_4 q_5 ((hp_i h_4 v0 85)).toNatClampNeg v2) fun h_7 =>
  (hp_r h_7 v0 81).bind fun q_8 =>
  if hp_in (hp_i h_7 v0 85) (hp_n h_7 q_8) = true then
  xx_l (hp_si h_7 q_8 ((hp_i h_7 v0 85)).toNatClampNeg (hp_i h_7 v0 86)) fun h_10 =>
  (hp_r h_10 v0 82).bind fun q_11 =>
  if hp_in (hp_i h_10 v0 85) (hp_n h_10 q_11) = true then
  xx_l (hp_si h_10 q_11 ((hp_i h_10 v0 85)).toNatClampNeg (-1 : Int32)) fun h_13 =>
  xx_l (hp_si h_13 v0 85 ((hp_i h_13 v0 85) + (1 : Int32))) fun h_14 =>
  some (((hp_i h_14 v0 85) - (1 : Int32)), h_14)
  else none
  else none
  else none
  else none))))))))
/-! LampYardModel.untell(I)Z -/
noncomputable def f_M_untell (v0 : Nat) (v1 : Int32) (h : HP) : Option (Int32 × HP) :=
  (if v1 < 0 then
  (some ((0 : Int32), h))
  else
  ((if (hp_i h v0 85) ≤ v1 then
  (some ((0 : Int32), h))
  else
  ((hp_r h v0 82).bind fun q_1 =>
  if hp_in v1 (hp_n h q_1) = true then
  (if (hp_i h q_1 (v1).toNatClampNeg) < 0 then
  ((hp_r h v0 82).bind fun q_3 =>
  if hp_in v1 (hp_n h q_3) = true then
  xx_l (hp_si h q_3 (v1).toNatClampNeg (hp_i h v0 86)) fun h_5 =>
  some ((1 : Int32), h_5)
  else none)
  else
  (some ((0 : Int32), h)))
  else none))))
/-! LampYardModel.later(I)I -/
noncomputable def f_M_later (v0 : Nat) (v1 : Int32) (h : HP) : Option (Int32 × HP) :=
  (if v1 < 0 then
  (some ((-1 : Int32), h))
  else
  ((if (1000 : Int32) < v1 then
  (some ((-1 : Int32), h))
  else
  ((if ((hp_i h v0 86) + v1) ≤ (100000 : Int32) then
  (xx_l (hp_si h v0 86 ((hp_i h v0 86) + v1)) fun h_1 =>
  some ((hp_i h_1 v0 86), h_1))
  else
  (some ((-1 : Int32), h)))))))
/-! LampYardModel.layLogs(I)I -/
noncomputable def f_M_layLogs_164 (v0 : Nat) (v3 : Int32) (s0 : Int32) (s1 : Int32) (h : HP) : Option ((Int32 × Int32 × HP) ⊕ (Int32 × HP)) :=
  xx_l (s1 + s0) fun v2_3 =>
  xx_l (v3 + (1 : Int32)) fun v3_4 =>
  some (.inl (v2_3, v3_4, h))
noncomputable def f_M_layLogs_143b (v0 : Nat) (v2 : Int32) (v3 : Int32) (h : HP) : Option ((Int32 × Int32 × HP) ⊕ (Int32 × HP)) :=
  (if (100 : Int32) ≤ v3 then
  (some (.inr (v2, h)))
  else
  ((hp_r h v0 84).bind fun q_1 =>
  if hp_in v3 (hp_n h q_1) = true then
  (if (hp_i h q_1 (v3).toNatClampNeg) = 0 then
  (f_M_layLogs_164 v0 v3 (0 : Int32) v2 h)
  else
  (f_M_layLogs_164 v0 v3 (1 : Int32) v2 h))
  else none))
noncomputable def f_M_layLogs_143 (v0 : Nat) (v2 : Int32) (v3 : Int32) (h : HP) : Option (Int32 × HP) :=
  xx_lp (fun s : (Int32 × Int32 × HP) => f_M_layLogs_143b v0 s.1 s.2.1 s.2.2) (v2, v3, h)
noncomputable def f_M_layLogs_139 (v0 : Nat) (h : HP) : Option (Int32 × HP) :=
  f_M_layLogs_143 v0 (0 : Int32) (0 : Int32) h
noncomputable def f_M_layLogs_133 (v0 : Nat) (v1 : Int32) (v2 : Int32) (h : HP) : Option ((Int32 × HP) ⊕ (Int32 × HP)) :=
  xx_l (v2 + (1 : Int32)) fun v2_7 =>
  some (.inl (v2_7, h))
noncomputable def f_M_layLogs_120 (v0 : Nat) (v1 : Int32) (v2 : Int32) (v3 : Int32) (s0 : Int32) (s1 : Int32) (s2 : Nat) (h : HP) : Option ((Int32 × HP) ⊕ (Int32 × HP)) :=
  if hp_in s1 (hp_n h s2) = true then
  xx_l (hp_si h s2 (s1).toNatClampNeg (vp_nar .boolean s0)) fun h_19 =>
  (hp_r h_19 v0 83).bind fun q_20 =>
  (hp_r h_19 v0 80).bind fun q_21 =>
  if hp_in v2 (hp_n h_19 q_21) = true then
  if hp_in v3 (hp_n h_19 q_20) = true then
  xx_l (hp_si h_19 q_20 (v3).toNatClampNeg (hp_i h_19 q_21 (v2).toNatClampNeg)) fun h_24 =>
  f_M_layLogs_133 v0 v1 v2 h_24
  else none
  else none
  else none
noncomputable def f_M_layLogs_119 (v0 : Nat) (v1 : Int32) (v2 : Int32) (v3 : Int32) (s0 : Int32) (s1 : Nat) (h : HP) : Option ((Int32 × HP) ⊕ (Int32 × HP)) :=
  f_M_layLogs_120 v0 v1 v2 v3 (0 : Int32) s0 s1 h
noncomputable def f_M_layLogs_115 (v0 : Nat) (v1 : Int32) (v2 : Int32) (v3 : Int32) (s0 : Int32) (s1 : Nat) (h : HP) : Option ((Int32 × HP) ⊕ (Int32 × HP)) :=
  f_M_layLogs_120 v0 v1 v2 v3 (1 : Int32) s0 s1 h
noncomputable def f_M_layLogs_70 (v0 : Nat) (v1 : Int32) (v2 : Int32) (h : HP) : Option ((Int32 × HP) ⊕ (Int32 × HP)) :=
  (hp_r h v0 79).bind fun q_10 =>
  if hp_in v2 (hp_n h q_10) = true then
  xx_l (hp_i h q_10 (v2).toNatClampNeg) fun v3_12 =>
  (hp_r h v0 84).bind fun q_13 =>
  (hp_r h v0 84).bind fun q_14 =>
  if hp_in v3_12 (hp_n h q_14) = true then
  (if (hp_i h q_14 (v3_12).toNatClampNeg) = 0 then
  ((hp_r h v0 83).bind fun q_16 =>
  if hp_in v3_12 (hp_n h q_16) = true then
  (if (hp_i h q_16 (v3_12).toNatClampNeg) < 0 then
  (f_M_layLogs_119 v0 v1 v2 v3_12 v3_12 q_13 h)
  else
  ((hp_r h v0 83).bind fun q_25 =>
  if hp_in v3_12 (hp_n h q_25) = true then
  (hp_r h v0 80).bind fun q_27 =>
  if hp_in v2 (hp_n h q_27) = true then
  (if (hp_i h q_25 (v3_12).toNatClampNeg) = (hp_i h q_27 (v2).toNatClampNeg) then
  (f_M_layLogs_119 v0 v1 v2 v3_12 v3_12 q_13 h)
  else
  (f_M_layLogs_115 v0 v1 v2 v3_12 v3_12 q_13 h))
  else none
  else none))
  else none)
  else
  (f_M_layLogs_115 v0 v1 v2 v3_12 v3_12 q_13 h))
  else none
  else none
noncomputable def f_M_layLogs_30b (v0 : Nat) (v1 : Int32) (v2 : Int32) (h : HP) : Option ((Int32 × HP) ⊕ (Int32 × HP)) :=
  (if (hp_i h v0 85) ≤ v2 then
  ((f_M_layLogs_139 v0 h).map .inr)
  else
  ((hp_r h v0 81).bind fun q_5 =>
  if hp_in v2 (hp_n h q_5) = true then
  (if v1 < (hp_i h q_5 (v2).toNatClampNeg) then
  (f_M_layLogs_133 v0 v1 v2 h)
  else
  ((hp_r h v0 82).bind fun q_8 =>
  if hp_in v2 (hp_n h q_8) = true then
  (if (hp_i h q_8 (v2).toNatClampNeg) < 0 then
  (f_M_layLogs_70 v0 v1 v2 h)
  else
  ((hp_r h v0 82).bind fun q_29 =>
  if hp_in v2 (hp_n h q_29) = true then
  (if v1 < (hp_i h q_29 (v2).toNatClampNeg) then
  (f_M_layLogs_70 v0 v1 v2 h)
  else
  (f_M_layLogs_133 v0 v1 v2 h))
  else none))
  else none))
  else none))
noncomputable def f_M_layLogs_30 (v0 : Nat) (v1 : Int32) (v2 : Int32) (h : HP) : Option (Int32 × HP) :=
  xx_lp (fun s : (Int32 × HP) => f_M_layLogs_30b v0 v1 s.1 s.2) (v2, h)
noncomputable def f_M_layLogs_28 (v0 : Nat) (v1 : Int32) (h : HP) : Option (Int32 × HP) :=
  f_M_layLogs_30 v0 v1 (0 : Int32) h
noncomputable def f_M_layLogs_2b (v0 : Nat) (v1 : Int32) (v2 : Int32) (h : HP) : Option ((Int32 × HP) ⊕ (Int32 × HP)) :=
  (if (100 : Int32) ≤ v2 then
  ((f_M_layLogs_28 v0 v1 h).map .inr)
  else
  ((hp_r h v0 83).bind fun q_31 =>
  if hp_in v2 (hp_n h q_31) = true then
  xx_l (hp_si h q_31 (v2).toNatClampNeg (-1 : Int32)) fun h_33 =>
  (hp_r h_33 v0 84).bind fun q_34 =>
  if hp_in v2 (hp_n h_33 q_34) = true then
  xx_l (hp_si h_33 q_34 (v2).toNatClampNeg (vp_nar .boolean (0 : Int32))) fun h_36 =>
  xx_l (v2 + (1 : Int32)) fun v2_37 =>
  some (.inl (v2_37, h_36))
  else none
  else none))
noncomputable def f_M_layLogs_2 (v0 : Nat) (v1 : Int32) (v2 : Int32) (h : HP) : Option (Int32 × HP) :=
  xx_lp (fun s : (Int32 × HP) => f_M_layLogs_2b v0 v1 s.1 s.2) (v2, h)
noncomputable def f_M_layLogs (v0 : Nat) (v1 : Int32) (h : HP) : Option (Int32 × HP) :=
  f_M_layLogs_2 v0 v1 (0 : Int32) h
/-! LampYardModel.logged(II)I -/
noncomputable def f_M_logged_69 (v0 : Nat) (v5 : Int32) (s0 : Int32) (s1 : Int32) (h : HP) : Option ((Int32 × Int32 × HP) ⊕ (Int32 × HP)) :=
  xx_l (s1 ||| s0) fun v4_4 =>
  (if v4_4 = (((1 : Int32) <<< ((hp_i h v0 33) &&& 31)) - (1 : Int32)) then
  (some (.inr (v5, h)))
  else
  (xx_l (v5 + (1 : Int32)) fun v5_5 =>
  some (.inl (v4_4, v5_5, h))))
noncomputable def f_M_logged_30b (v0 : Nat) (v4 : Int32) (v5 : Int32) (h : HP) : Option ((Int32 × Int32 × HP) ⊕ (Int32 × HP)) :=
  (if (100 : Int32) ≤ v5 then
  (some (.inr ((-1 : Int32), h)))
  else
  ((if (hp_i h v0 33) ≤ 0 then
  (some (.inr ((-1 : Int32), h)))
  else
  ((hp_r h v0 83).bind fun q_2 =>
  if hp_in v5 (hp_n h q_2) = true then
  (if (hp_i h q_2 (v5).toNatClampNeg) < 0 then
  (f_M_logged_69 v0 v5 (0 : Int32) v4 h)
  else
  ((hp_r h v0 83).bind fun q_6 =>
  if hp_in v5 (hp_n h q_6) = true then
  f_M_logged_69 v0 v5 ((1 : Int32) <<< ((hp_i h q_6 (v5).toNatClampNeg) &&& 31)) v4 h
  else none))
  else none))))
noncomputable def f_M_logged_30 (v0 : Nat) (v4 : Int32) (v5 : Int32) (h : HP) : Option (Int32 × HP) :=
  xx_lp (fun s : (Int32 × Int32 × HP) => f_M_logged_30b v0 s.1 s.2.1 s.2.2) (v4, v5, h)
noncomputable def f_M_logged (v0 : Nat) (v1 : Int32) (v2 : Int32) (h : HP) : Option (Int32 × HP) :=
  (if v1 < 0 then
  (some ((-1 : Int32), h))
  else
  ((if v1 ≤ (1 : Int32) then
  ((f_M_layLogs v0 v2 h).bind fun x_1 =>
  (if v1 = (1 : Int32) then
  (some (x_1.1, x_1.2))
  else
  (f_M_logged_30 v0 (0 : Int32) (0 : Int32) x_1.2)))
  else
  (some ((-1 : Int32), h)))))
/-! LampYardModel.last(II)I -/
noncomputable def f_M_last_55 (v3 : Int32) (v4 : Int32) (h : HP) : Option (Int32 × HP) :=
  (if 0 ≤ v3 then
  (some (v4, h))
  else
  (some ((-1 : Int32), h)))
noncomputable def f_M_last_47 (v0 : Nat) (v1 : Int32) (v3 : Int32) (v5 : Int32) (s0 : Int32) (h : HP) : Option ((Int32 × Int32 × HP) ⊕ (Int32 × HP)) :=
  xx_l (v5 + (1 : Int32)) fun v5_5 =>
  some (.inl (s0, v5_5, h))
noncomputable def f_M_last_22b (v0 : Nat) (v1 : Int32) (v3 : Int32) (v4 : Int32) (v5 : Int32) (h : HP) : Option ((Int32 × Int32 × HP) ⊕ (Int32 × HP)) :=
  (if (100 : Int32) ≤ v5 then
  ((f_M_last_55 v3 v4 h).map .inr)
  else
  ((hp_r h v0 83).bind fun q_3 =>
  if hp_in v5 (hp_n h q_3) = true then
  (if (hp_i h q_3 (v5).toNatClampNeg) = v1 then
  (f_M_last_47 v0 v1 v3 v5 v5 h)
  else
  (f_M_last_47 v0 v1 v3 v5 v4 h))
  else none))
noncomputable def f_M_last_22 (v0 : Nat) (v1 : Int32) (v3 : Int32) (v4 : Int32) (v5 : Int32) (h : HP) : Option (Int32 × HP) :=
  xx_lp (fun s : (Int32 × Int32 × HP) => f_M_last_22b v0 v1 v3 s.1 s.2.1 s.2.2) (v4, v5, h)
noncomputable def f_M_last (v0 : Nat) (v1 : Int32) (v2 : Int32) (h : HP) : Option (Int32 × HP) :=
  (f_M_isMan v0 v1 h).bind fun x_1 =>
  (if x_1.1 = 0 then
  (some ((-1 : Int32), x_1.2))
  else
  ((f_M_layLogs v0 v2 x_1.2).bind fun x_2 =>
  f_M_last_22 v0 v1 x_2.1 (-1 : Int32) (0 : Int32) x_2.2))
/-! LampYardModel.agrees(II)I -/
noncomputable def f_M_agrees_180 (v0 : Nat) (v6 : Int32) (h : HP) : Option (Int32 × HP) :=
  (f_M_bring v0 h).bind fun x_5 =>
  (if v6 = 0 then
  (some ((0 : Int32), x_5))
  else
  (some ((1 : Int32), x_5)))
noncomputable def f_M_agrees_172 (v0 : Nat) (v4 : Int32) (v7 : Int32) (s0 : Int32) (h : HP) : Option ((Int32 × Int32 × HP) ⊕ (Int32 × HP)) :=
  xx_l (v7 + (1 : Int32)) fun v7_9 =>
  some (.inl (s0, v7_9, h))
noncomputable def f_M_agrees_167 (v0 : Nat) (v4 : Int32) (v7 : Int32) (h : HP) : Option ((Int32 × Int32 × HP) ⊕ (Int32 × HP)) :=
  f_M_agrees_172 v0 v4 v7 (1 : Int32) h
noncomputable def f_M_agrees_171 (v0 : Nat) (v4 : Int32) (v7 : Int32) (h : HP) : Option ((Int32 × Int32 × HP) ⊕ (Int32 × HP)) :=
  f_M_agrees_172 v0 v4 v7 (0 : Int32) h
noncomputable def f_M_agrees_124b (v0 : Nat) (v4 : Int32) (v6 : Int32) (v7 : Int32) (h : HP) : Option ((Int32 × Int32 × HP) ⊕ (Int32 × HP)) :=
  (if v4 < v7 then
  ((f_M_agrees_180 v0 v6 h).map .inr)
  else
  ((if v6 = 0 then
  ((f_M_agrees_180 v0 v6 h).map .inr)
  else
  ((hp_r h v0 83).bind fun q_6 =>
  if hp_in v7 (hp_n h q_6) = true then
  (f_M_go v0 (hp_i h q_6 (v7).toNatClampNeg) h).bind fun x_8 =>
  (if x_8.1 = 0 then
  (f_M_agrees_167 v0 v4 v7 x_8.2)
  else
  ((if x_8.1 = (1 : Int32) then
  ((if v7 = v4 then
  (f_M_agrees_167 v0 v4 v7 x_8.2)
  else
  (f_M_agrees_171 v0 v4 v7 x_8.2)))
  else
  (f_M_agrees_171 v0 v4 v7 x_8.2))))
  else none))))
noncomputable def f_M_agrees_124 (v0 : Nat) (v4 : Int32) (v6 : Int32) (v7 : Int32) (h : HP) : Option (Int32 × HP) :=
  xx_lp (fun s : (Int32 × Int32 × HP) => f_M_agrees_124b v0 v4 s.1 s.2.1 s.2.2) (v6, v7, h)
noncomputable def f_M_agrees_85 (v0 : Nat) (v1 : Int32) (v3 : Int32) (v4 : Int32) (v5 : Int32) (h : HP) : Option (Int32 × HP) :=
  (f_M_isLight v0 v1 h).bind fun x_2 =>
  (if x_2.1 = 0 then
  (some ((-1 : Int32), x_2.2))
  else
  ((if v4 < 0 then
  (some ((-1 : Int32), x_2.2))
  else
  ((if v5 = 0 then
  (some ((-1 : Int32), x_2.2))
  else
  ((if 0 ≤ v3 then
  ((f_M_put v0 x_2.2).bind fun x_3 =>
  (f_M_fresh v0 v1 x_3).bind fun x_4 =>
  f_M_agrees_124 v0 v4 (1 : Int32) (0 : Int32) x_4)
  else
  (some ((-1 : Int32), x_2.2)))))))))
noncomputable def f_M_agrees_77 (v0 : Nat) (v1 : Int32) (v3 : Int32) (v4 : Int32) (v6 : Int32) (s0 : Int32) (h : HP) : Option ((Int32 × Int32 × HP) ⊕ (Int32 × HP)) :=
  xx_l (v6 + (1 : Int32)) fun v6_10 =>
  some (.inl (s0, v6_10, h))
noncomputable def f_M_agrees_76 (v0 : Nat) (v1 : Int32) (v3 : Int32) (v4 : Int32) (v6 : Int32) (h : HP) : Option ((Int32 × Int32 × HP) ⊕ (Int32 × HP)) :=
  f_M_agrees_77 v0 v1 v3 v4 v6 (0 : Int32) h
noncomputable def f_M_agrees_50b (v0 : Nat) (v1 : Int32) (v3 : Int32) (v4 : Int32) (v5 : Int32) (v6 : Int32) (h : HP) : Option ((Int32 × Int32 × HP) ⊕ (Int32 × HP)) :=
  (if v4 < v6 then
  ((f_M_agrees_85 v0 v1 v3 v4 v5 h).map .inr)
  else
  ((if v5 = 0 then
  (f_M_agrees_76 v0 v1 v3 v4 v6 h)
  else
  ((hp_r h v0 83).bind fun q_11 =>
  if hp_in v6 (hp_n h q_11) = true then
  (if (hp_i h q_11 (v6).toNatClampNeg) < 0 then
  (f_M_agrees_76 v0 v1 v3 v4 v6 h)
  else
  (f_M_agrees_77 v0 v1 v3 v4 v6 (1 : Int32) h))
  else none))))
noncomputable def f_M_agrees_50 (v0 : Nat) (v1 : Int32) (v3 : Int32) (v4 : Int32) (v5 : Int32) (v6 : Int32) (h : HP) : Option (Int32 × HP) :=
  xx_lp (fun s : (Int32 × Int32 × HP) => f_M_agrees_50b v0 v1 v3 v4 s.1 s.2.1 s.2.2) (v5, v6, h)
noncomputable def f_M_agrees_47 (v0 : Nat) (v1 : Int32) (v3 : Int32) (v4 : Int32) (v5 : Int32) (h : HP) : Option (Int32 × HP) :=
  f_M_agrees_50 v0 v1 v3 v4 v5 (0 : Int32) h
noncomputable def f_M_agrees_39 (v0 : Nat) (v1 : Int32) (v3 : Int32) (v5 : Int32) (v6 : Int32) (s0 : Int32) (h : HP) : Option ((Int32 × Int32 × HP) ⊕ (Int32 × HP)) :=
  xx_l (v6 + (1 : Int32)) fun v6_15 =>
  some (.inl (s0, v6_15, h))
noncomputable def f_M_agrees_15b (v0 : Nat) (v1 : Int32) (v3 : Int32) (v5 : Int32) (v4 : Int32) (v6 : Int32) (h : HP) : Option ((Int32 × Int32 × HP) ⊕ (Int32 × HP)) :=
  (if (100 : Int32) ≤ v6 then
  ((f_M_agrees_47 v0 v1 v3 v4 v5 h).map .inr)
  else
  ((hp_r h v0 83).bind fun q_13 =>
  if hp_in v6 (hp_n h q_13) = true then
  (if (hp_i h q_13 (v6).toNatClampNeg) < 0 then
  (f_M_agrees_39 v0 v1 v3 v5 v6 v4 h)
  else
  (f_M_agrees_39 v0 v1 v3 v5 v6 v6 h))
  else none))
noncomputable def f_M_agrees_15 (v0 : Nat) (v1 : Int32) (v3 : Int32) (v5 : Int32) (v4 : Int32) (v6 : Int32) (h : HP) : Option (Int32 × HP) :=
  xx_lp (fun s : (Int32 × Int32 × HP) => f_M_agrees_15b v0 v1 v3 v5 s.1 s.2.1 s.2.2) (v4, v6, h)
noncomputable def f_M_agrees (v0 : Nat) (v1 : Int32) (v2 : Int32) (h : HP) : Option (Int32 × HP) :=
  (f_M_layLogs v0 v2 h).bind fun x_1 =>
  f_M_agrees_15 v0 v1 x_1.1 (1 : Int32) (-1 : Int32) (0 : Int32) x_1.2
/-! LampYardModel.isBox(I)Z -/
noncomputable def f_M_isBox (v0 : Int32) (h : HP) : Option (Int32 × HP) :=
  (if v0 < 0 then
  (some ((0 : Int32), h))
  else
  ((if (3 : Int32) ≤ v0 then
  (some ((0 : Int32), h))
  else
  (some ((1 : Int32), h)))))
/-! LampYardModel.image(I)I -/
noncomputable def f_M_image_58b (v0 : Nat) (v1 : Int32) (v2 : Int32) (h : HP) : Option ((Int32 × HP) ⊕ (Int32 × HP)) :=
  (if (6 : Int32) ≤ v2 then
  (some (.inr ((hp_i h v0 55), h)))
  else
  ((hp_r h v0 90).bind fun q_17 =>
  (hp_r h v0 47).bind fun q_18 =>
  if hp_in v2 (hp_n h q_18) = true then
  if hp_in (((6 : Int32) * v1) + v2) (hp_n h q_17) = true then
  xx_l (hp_si h q_17 ((((6 : Int32) * v1) + v2)).toNatClampNeg (hp_i h q_18 (v2).toNatClampNeg)) fun h_21 =>
  (hp_r h_21 v0 91).bind fun q_22 =>
  (hp_r h_21 v0 48).bind fun q_23 =>
  if hp_in v2 (hp_n h_21 q_23) = true then
  if hp_in (((6 : Int32) * v1) + v2) (hp_n h_21 q_22) = true then
  xx_l (hp_si h_21 q_22 ((((6 : Int32) * v1) + v2)).toNatClampNeg (hp_i h_21 q_23 (v2).toNatClampNeg)) fun h_26 =>
  (hp_r h_26 v0 89).bind fun q_27 =>
  (hp_r h_26 v0 50).bind fun q_28 =>
  if hp_in v2 (hp_n h_26 q_28) = true then
  if hp_in (((6 : Int32) * v1) + v2) (hp_n h_26 q_27) = true then
  xx_l (hp_si h_26 q_27 ((((6 : Int32) * v1) + v2)).toNatClampNeg (vp_nar .boolean (hp_i h_26 q_28 (v2).toNatClampNeg))) fun h_31 =>
  (hp_r h_31 v0 92).bind fun q_32 =>
  (hp_r h_31 v0 49).bind fun q_33 =>
  if hp_in v2 (hp_n h_31 q_33) = true then
  if hp_in (((6 : Int32) * v1) + v2) (hp_n h_31 q_32) = true then
  xx_l (hp_si h_31 q_32 ((((6 : Int32) * v1) + v2)).toNatClampNeg (hp_i h_31 q_33 (v2).toNatClampNeg)) fun h_36 =>
  xx_l (v2 + (1 : Int32)) fun v2_37 =>
  some (.inl (v2_37, h_36))
  else none
  else none
  else none
  else none
  else none
  else none
  else none
  else none))
noncomputable def f_M_image_58 (v0 : Nat) (v1 : Int32) (v2 : Int32) (h : HP) : Option (Int32 × HP) :=
  xx_lp (fun s : (Int32 × HP) => f_M_image_58b v0 v1 s.1 s.2) (v2, h)
noncomputable def f_M_image (v0 : Nat) (v1 : Int32) (h : HP) : Option (Int32 × HP) :=
  (f_M_isBox v1 h).bind fun x_1 =>
  (if x_1.1 = 0 then
  (some ((-1 : Int32), x_1.2))
  else
  ((hp_r x_1.2 v0 87).bind fun q_2 =>
  if hp_in v1 (hp_n x_1.2 q_2) = true then
  xx_l (hp_si x_1.2 q_2 (v1).toNatClampNeg (vp_nar .boolean (1 : Int32))) fun h_4 =>
  (hp_r h_4 v0 88).bind fun q_5 =>
  if hp_in v1 (hp_n h_4 q_5) = true then
  xx_l (hp_si h_4 q_5 (v1).toNatClampNeg (vp_nar .boolean (hp_i h_4 v0 56))) fun h_7 =>
  (hp_r h_7 v0 93).bind fun q_8 =>
  if hp_in v1 (hp_n h_7 q_8) = true then
  xx_l (hp_si h_7 q_8 (v1).toNatClampNeg (hp_i h_7 v0 51)) fun h_10 =>
  (hp_r h_10 v0 94).bind fun q_11 =>
  if hp_in v1 (hp_n h_10 q_11) = true then
  xx_l (hp_si h_10 q_11 (v1).toNatClampNeg (hp_i h_10 v0 52)) fun h_13 =>
  (hp_r h_13 v0 95).bind fun q_14 =>
  if hp_in v1 (hp_n h_13 q_14) = true then
  xx_l (hp_si h_13 q_14 (v1).toNatClampNeg (hp_i h_13 v0 55)) fun h_16 =>
  f_M_image_58 v0 v1 (0 : Int32) h_16
  else none
  else none
  else none
  else none
  else none))
/-! LampYardModel.back(I)I -/
noncomputable def f_M_back_60b (v0 : Nat) (v1 : Int32) (v2 : Int32) (h : HP) : Option ((Int32 × HP) ⊕ (Int32 × HP)) :=
  (if (6 : Int32) ≤ v2 then
  (some (.inr ((hp_i h v0 55), h)))
  else
  ((hp_r h v0 47).bind fun q_17 =>
  (hp_r h v0 90).bind fun q_18 =>
  if hp_in (((6 : Int32) * v1) + v2) (hp_n h q_18) = true then
  if hp_in v2 (hp_n h q_17) = true then
  xx_l (hp_si h q_17 (v2).toNatClampNeg (hp_i h q_18 ((((6 : Int32) * v1) + v2)).toNatClampNeg)) fun h_21 =>
  (hp_r h_21 v0 48).bind fun q_22 =>
  (hp_r h_21 v0 91).bind fun q_23 =>
  if hp_in (((6 : Int32) * v1) + v2) (hp_n h_21 q_23) = true then
  if hp_in v2 (hp_n h_21 q_22) = true then
  xx_l (hp_si h_21 q_22 (v2).toNatClampNeg (hp_i h_21 q_23 ((((6 : Int32) * v1) + v2)).toNatClampNeg)) fun h_26 =>
  (hp_r h_26 v0 50).bind fun q_27 =>
  (hp_r h_26 v0 89).bind fun q_28 =>
  if hp_in (((6 : Int32) * v1) + v2) (hp_n h_26 q_28) = true then
  if hp_in v2 (hp_n h_26 q_27) = true then
  xx_l (hp_si h_26 q_27 (v2).toNatClampNeg (vp_nar .boolean (hp_i h_26 q_28 ((((6 : Int32) * v1) + v2)).toNatClampNeg))) fun h_31 =>
  (hp_r h_31 v0 49).bind fun q_32 =>
  (hp_r h_31 v0 92).bind fun q_33 =>
  if hp_in (((6 : Int32) * v1) + v2) (hp_n h_31 q_33) = true then
  if hp_in v2 (hp_n h_31 q_32) = true then
  xx_l (hp_si h_31 q_32 (v2).toNatClampNeg (hp_i h_31 q_33 ((((6 : Int32) * v1) + v2)).toNatClampNeg)) fun h_36 =>
  xx_l (v2 + (1 : Int32)) fun v2_37 =>
  some (.inl (v2_37, h_36))
  else none
  else none
  else none
  else none
  else none
  else none
  else none
  else none))
noncomputable def f_M_back_60 (v0 : Nat) (v1 : Int32) (v2 : Int32) (h : HP) : Option (Int32 × HP) :=
  xx_lp (fun s : (Int32 × HP) => f_M_back_60b v0 v1 s.1 s.2) (v2, h)
noncomputable def f_M_back (v0 : Nat) (v1 : Int32) (h : HP) : Option (Int32 × HP) :=
  (f_M_isBox v1 h).bind fun x_1 =>
  (if x_1.1 = 0 then
  (some ((-1 : Int32), x_1.2))
  else
  ((hp_r x_1.2 v0 87).bind fun q_2 =>
  if hp_in v1 (hp_n x_1.2 q_2) = true then
  (if (hp_i x_1.2 q_2 (v1).toNatClampNeg) = 0 then
  (some ((-1 : Int32), x_1.2))
  else
  ((hp_r x_1.2 v0 88).bind fun q_4 =>
  if hp_in v1 (hp_n x_1.2 q_4) = true then
  if hp_z01 (hp_i x_1.2 q_4 (v1).toNatClampNeg) = true then
  xx_l (hp_si x_1.2 v0 56 (hp_i x_1.2 q_4 (v1).toNatClampNeg)) fun h_6 =>
  (hp_r h_6 v0 93).bind fun q_8 =>
  if hp_in v1 (hp_n h_6 q_8) = true then
  xx_l (hp_si h_6 v0 51 (hp_i h_6 q_8 (v1).toNatClampNeg)) fun h_10 =>
  (hp_r h_10 v0 94).bind fun q_11 =>
  if hp_in v1 (hp_n h_10 q_11) = true then
  xx_l (hp_si h_10 v0 52 (hp_i h_10 q_11 (v1).toNatClampNeg)) fun h_13 =>
  (hp_r h_13 v0 95).bind fun q_14 =>
  if hp_in v1 (hp_n h_13 q_14) = true then
  xx_l (hp_si h_13 v0 55 (hp_i h_13 q_14 (v1).toNatClampNeg)) fun h_16 =>
  f_M_back_60 v0 v1 (0 : Int32) h_16
  else none
  else none
  else none
  else none
  else none))
  else none))
/-! LampYardModel.about(I)I -/
noncomputable def f_M_about (v0 : Nat) (v1 : Int32) (h : HP) : Option (Int32 × HP) :=
  (if v1 = (0 : Int32) then
  (some ((hp_i h v0 33), h))
  else
  (if v1 = (1 : Int32) then
  (some ((hp_i h v0 32), h))
  else
  (if v1 = (2 : Int32) then
  (some ((hp_i h v0 34), h))
  else
  (if v1 = (3 : Int32) then
  (some ((hp_i h v0 55), h))
  else
  (if v1 = (4 : Int32) then
  (some ((hp_i h v0 51), h))
  else
  (if v1 = (5 : Int32) then
  ((if (hp_i h v0 56) = 0 then
  (some ((0 : Int32), h))
  else
  (some ((1 : Int32), h))))
  else
  (if v1 = (6 : Int32) then
  (some ((hp_i h v0 85), h))
  else
  (if v1 = (7 : Int32) then
  (some ((hp_i h v0 86), h))
  else
  (if v1 = (8 : Int32) then
  (some ((hp_i h v0 1), h))
  else
  (if v1 = (9 : Int32) then
  (some ((hp_i h v0 35), h))
  else
  (some ((-1 : Int32), h))))))))))))
