/-! the words of the constructors -/
def mX0_init : ME := (yX0_init, cX0_init, 1, none, 1)
theorem oki0 : okI mX0_init := ⟨⟨tb1 147 rfl rfl, tb1 8 rfl rfl, ⟨by decide, by decide⟩, by decide, by decide⟩, tb1 146 rfl rfl, rfl, rfl, by decide +kernel⟩
theorem fn0_7 : FNk RX0 7 0 0 (.int) false := ⟨RX0, TX0, 1, rfl, by decide, inG0, tb1 149 rfl rfl, rfl, by decide +kernel, ⟨tyX0, tyX0_ok⟩, nmX0, rfl⟩
def mX1_init : ME := (yX1_init, cX1_init, 1, none, 2)
theorem oki1 : okI mX1_init := ⟨⟨tb1 161 rfl rfl, tb1 9 rfl rfl, ⟨by decide, by decide⟩, by decide, by decide⟩, tb1 160 rfl rfl, rfl, rfl, by decide +kernel⟩
theorem fn1_10 : FNk RX1 10 1 0 (.object "BeadWords$Picture") true := ⟨RX1, TX1, 3, rfl, by decide, inG1, tb1 167 rfl rfl, rfl, by decide +kernel, ⟨tyX1, tyX1_ok⟩, nmX1, rfl⟩
theorem fn1_19 : FNk RX1 19 1 1 (.object "BeadWords$Strand") true := ⟨RX1, TX1, 3, rfl, by decide, inG1, tb1 169 rfl rfl, rfl, by decide +kernel, ⟨tyX1, tyX1_ok⟩, nmX1, rfl⟩
theorem fn1_23 : FNk RX1 23 1 2 (.boolean) false := ⟨RX1, TX1, 3, rfl, by decide, inG1, tb1 171 rfl rfl, rfl, by decide +kernel, ⟨tyX1, tyX1_ok⟩, nmX1, rfl⟩
def mX2_init : ME := (yX2_init, cX2_init, 1, none, 1)
theorem oki2 : okI mX2_init := ⟨⟨tb1 29 rfl rfl, tb1 2 rfl rfl, ⟨by decide, by decide⟩, by decide, by decide⟩, tb1 28 rfl rfl, rfl, rfl, by decide +kernel⟩
theorem fn2_9 : FNk RX2 9 2 0 (.array .int) true := ⟨RX2, TX2, 4, rfl, by decide, inG2, tb1 31 rfl rfl, rfl, by decide +kernel, ⟨tyX2, tyX2_ok⟩, nmX2, rfl⟩
theorem fn2_15 : FNk RX2 15 2 1 (.int) false := ⟨RX2, TX2, 4, rfl, by decide, inG2, tb1 32 rfl rfl, rfl, by decide +kernel, ⟨tyX2, tyX2_ok⟩, nmX2, rfl⟩
theorem fn2_19 : FNk RX2 19 2 2 (.int) false := ⟨RX2, TX2, 4, rfl, by decide, inG2, tb1 36 rfl rfl, rfl, by decide +kernel, ⟨tyX2, tyX2_ok⟩, nmX2, rfl⟩
theorem fn2_22 : FNk RX2 22 2 3 (.int) false := ⟨RX2, TX2, 4, rfl, by decide, inG2, tb1 41 rfl rfl, rfl, by decide +kernel, ⟨tyX2, tyX2_ok⟩, nmX2, rfl⟩
def mX3_init : ME := (yX3_init, cX3_init, 1, none, 2)
theorem oki3 : okI mX3_init := ⟨⟨tb1 88 rfl rfl, tb1 5 rfl rfl, ⟨by decide, by decide⟩, by decide, by decide⟩, tb1 87 rfl rfl, rfl, rfl, by decide +kernel⟩
theorem fn3_12 : FNk RX3 12 3 0 (.object "BeadWords$Picture") true := ⟨RX3, TX3, 5, rfl, by decide, inG3, tb1 92 rfl rfl, rfl, by decide +kernel, ⟨tyX3, tyX3_ok⟩, nmX3, rfl⟩
theorem fn3_18 : FNk RX3 18 3 1 (.int) false := ⟨RX3, TX3, 5, rfl, by decide, inG3, tb1 94 rfl rfl, rfl, by decide +kernel, ⟨tyX3, tyX3_ok⟩, nmX3, rfl⟩
theorem fn3_22 : FNk RX3 22 3 2 (.int) false := ⟨RX3, TX3, 5, rfl, by decide, inG3, tb1 96 rfl rfl, rfl, by decide +kernel, ⟨tyX3, tyX3_ok⟩, nmX3, rfl⟩
theorem fn3_25 : FNk RX3 25 3 3 (.int) false := ⟨RX3, TX3, 5, rfl, by decide, inG3, tb1 97 rfl rfl, rfl, by decide +kernel, ⟨tyX3, tyX3_ok⟩, nmX3, rfl⟩
theorem fn3_28 : FNk RX3 28 3 4 (.boolean) false := ⟨RX3, TX3, 5, rfl, by decide, inG3, tb1 98 rfl rfl, rfl, by decide +kernel, ⟨tyX3, tyX3_ok⟩, nmX3, rfl⟩
def mX4_init : ME := (yX4_init, cX4_init, 1, none, 1)
theorem oki4 : okI mX4_init := ⟨⟨tb1 183 rfl rfl, tb1 10 rfl rfl, ⟨by decide, by decide⟩, by decide, by decide⟩, tb1 182 rfl rfl, rfl, rfl, by decide +kernel⟩
theorem fn4_9 : FNk RX4 9 4 0 (.array .int) true := ⟨RX4, TX4, 3, rfl, by decide, inG4, tb1 185 rfl rfl, rfl, by decide +kernel, ⟨tyX4, tyX4_ok⟩, nmX4, rfl⟩
theorem fn4_15 : FNk RX4 15 4 1 (.int) false := ⟨RX4, TX4, 3, rfl, by decide, inG4, tb1 187 rfl rfl, rfl, by decide +kernel, ⟨tyX4, tyX4_ok⟩, nmX4, rfl⟩
theorem fn4_19 : FNk RX4 19 4 2 (.int) false := ⟨RX4, TX4, 3, rfl, by decide, inG4, tb1 189 rfl rfl, rfl, by decide +kernel, ⟨tyX4, tyX4_ok⟩, nmX4, rfl⟩
def mX5_init : ME := (yX5_init, cX5_init, 1, none, 1)
theorem oki5 : okI mX5_init := ⟨⟨tb1 129 rfl rfl, tb1 7 rfl rfl, ⟨by decide, by decide⟩, by decide, by decide⟩, tb1 128 rfl rfl, rfl, rfl, by decide +kernel⟩
theorem fn5_9 : FNk RX5 9 5 0 (.array .int) true := ⟨RX5, TX5, 3, rfl, by decide, inG5, tb1 131 rfl rfl, rfl, by decide +kernel, ⟨tyX5, tyX5_ok⟩, nmX5, rfl⟩
theorem fn5_15 : FNk RX5 15 5 1 (.int) false := ⟨RX5, TX5, 3, rfl, by decide, inG5, tb1 133 rfl rfl, rfl, by decide +kernel, ⟨tyX5, tyX5_ok⟩, nmX5, rfl⟩
theorem fn5_19 : FNk RX5 19 5 2 (.array .int) true := ⟨RX5, TX5, 3, rfl, by decide, inG5, tb1 135 rfl rfl, rfl, by decide +kernel, ⟨tyX5, tyX5_ok⟩, nmX5, rfl⟩
def mX6_init : ME := (yX6_init, cX6_init, 1, none, 1)
theorem oki6 : okI mX6_init := ⟨⟨tb1 58 rfl rfl, tb1 3 rfl rfl, ⟨by decide, by decide⟩, by decide, by decide⟩, tb1 57 rfl rfl, rfl, rfl, by decide +kernel⟩
theorem fn6_9 : FNk RX6 9 6 0 (.array .int) true := ⟨RX6, TX6, 2, rfl, by decide, inG6, tb1 60 rfl rfl, rfl, by decide +kernel, ⟨tyX6, tyX6_ok⟩, nmX6, rfl⟩
theorem fn6_15 : FNk RX6 15 6 1 (.int) false := ⟨RX6, TX6, 2, rfl, by decide, inG6, tb1 61 rfl rfl, rfl, by decide +kernel, ⟨tyX6, tyX6_ok⟩, nmX6, rfl⟩
def mX7_init : ME := (yX7_init, cX7_init, 1, none, 1)
theorem oki7 : okI mX7_init := ⟨⟨tb1 72 rfl rfl, tb1 4 rfl rfl, ⟨by decide, by decide⟩, by decide, by decide⟩, tb1 71 rfl rfl, rfl, rfl, by decide +kernel⟩
theorem fn7_9 : FNk RX7 9 7 0 (.array .int) true := ⟨RX7, TX7, 2, rfl, by decide, inG7, tb1 74 rfl rfl, rfl, by decide +kernel, ⟨tyX7, tyX7_ok⟩, nmX7, rfl⟩
theorem fn7_15 : FNk RX7 15 7 1 (.int) false := ⟨RX7, TX7, 2, rfl, by decide, inG7, tb1 76 rfl rfl, rfl, by decide +kernel, ⟨tyX7, tyX7_ok⟩, nmX7, rfl⟩
def mX8_init : ME := (yX8_init, cX8_init, 1, none, 1)
theorem oki8 : okI mX8_init := ⟨⟨tb1 114 rfl rfl, tb1 6 rfl rfl, ⟨by decide, by decide⟩, by decide, by decide⟩, tb1 113 rfl rfl, rfl, rfl, by decide +kernel⟩
theorem fn8_9 : FNk RX8 9 8 0 (.array .int) true := ⟨RX8, TX8, 2, rfl, by decide, inG8, tb1 116 rfl rfl, rfl, by decide +kernel, ⟨tyX8, tyX8_ok⟩, nmX8, rfl⟩
theorem fn8_15 : FNk RX8 15 8 1 (.int) false := ⟨RX8, TX8, 2, rfl, by decide, inG8, tb1 118 rfl rfl, rfl, by decide +kernel, ⟨tyX8, tyX8_ok⟩, nmX8, rfl⟩
def mX9_init : ME := (yX9_init, cX9_init, 2, none, 3)
theorem oki9 : okI mX9_init := ⟨⟨tb1 21 rfl rfl, tb1 1 rfl rfl, ⟨by decide, by decide⟩, by decide, by decide⟩, tb1 20 rfl rfl, rfl, rfl, by decide +kernel⟩
theorem fn9_12 : FNk RX9 12 9 0 (.object "BeadWords$Picture") true := ⟨RX9, TX9, 11, rfl, by decide, inG9, tb1 198 rfl rfl, rfl, by decide +kernel, ⟨tyX9, tyX9_ok⟩, nmX9, rfl⟩
theorem fn9_19 : FNk RX9 19 9 1 (.object "BeadWords$Strand") true := ⟨RX9, TX9, 11, rfl, by decide, inG9, tb1 199 rfl rfl, rfl, by decide +kernel, ⟨tyX9, tyX9_ok⟩, nmX9, rfl⟩
theorem fn9_26 : FNk RX9 26 9 2 (.object "BeadWords$Tape") true := ⟨RX9, TX9, 11, rfl, by decide, inG9, tb1 200 rfl rfl, rfl, by decide +kernel, ⟨tyX9, tyX9_ok⟩, nmX9, rfl⟩
theorem fn9_33 : FNk RX9 33 9 3 (.object "BeadWords$Reader") true := ⟨RX9, TX9, 11, rfl, by decide, inG9, tb1 201 rfl rfl, rfl, by decide +kernel, ⟨tyX9, tyX9_ok⟩, nmX9, rfl⟩
theorem fn9_40 : FNk RX9 40 9 4 (.object "BeadWords$Teller") true := ⟨RX9, TX9, 11, rfl, by decide, inG9, tb1 202 rfl rfl, rfl, by decide +kernel, ⟨tyX9, tyX9_ok⟩, nmX9, rfl⟩
theorem fn9_47 : FNk RX9 47 9 5 (.object "BeadWords$Slip") true := ⟨RX9, TX9, 11, rfl, by decide, inG9, tb1 203 rfl rfl, rfl, by decide +kernel, ⟨tyX9, tyX9_ok⟩, nmX9, rfl⟩
theorem fn9_54 : FNk RX9 54 9 6 (.object "BeadWords$Chance") true := ⟨RX9, TX9, 11, rfl, by decide, inG9, tb1 204 rfl rfl, rfl, by decide +kernel, ⟨tyX9, tyX9_ok⟩, nmX9, rfl⟩
theorem fn9_60 : FNk RX9 60 9 7 (.array (.object "BeadWords$Image")) true := ⟨RX9, TX9, 11, rfl, by decide, inG9, tb1 205 rfl rfl, rfl, by decide +kernel, ⟨tyX9, tyX9_ok⟩, nmX9, rfl⟩
theorem fn9_66 : FNk RX9 66 9 8 (.array (.object "BeadWords$Sheet")) true := ⟨RX9, TX9, 11, rfl, by decide, inG9, tb1 206 rfl rfl, rfl, by decide +kernel, ⟨tyX9, tyX9_ok⟩, nmX9, rfl⟩
theorem fn9_70 : FNk RX9 70 9 9 (.int) false := ⟨RX9, TX9, 11, rfl, by decide, inG9, tb1 207 rfl rfl, rfl, by decide +kernel, ⟨tyX9, tyX9_ok⟩, nmX9, rfl⟩
theorem fn9_74 : FNk RX9 74 9 10 (.int) false := ⟨RX9, TX9, 11, rfl, by decide, inG9, tb1 208 rfl rfl, rfl, by decide +kernel, ⟨tyX9, tyX9_ok⟩, nmX9, rfl⟩
def mX10_init : ME := (yX10_init, cX10_init, 2, none, 1)
theorem oki10 : okI mX10_init := ⟨⟨tb4 15 rfl rfl, tb1 11 rfl rfl, ⟨by decide, by decide⟩, by decide, by decide⟩, tb4 14 rfl rfl, rfl, rfl, by decide +kernel⟩
theorem fn10_7 : FNk RX10 7 10 0 (.array .int) true := ⟨RX10, TX10, 20, rfl, by decide, inG10, tb4 17 rfl rfl, rfl, by decide +kernel, ⟨tyX10, tyX10_ok⟩, nmX10, rfl⟩
theorem fn10_13 : FNk RX10 13 10 1 (.array .int) true := ⟨RX10, TX10, 20, rfl, by decide, inG10, tb4 18 rfl rfl, rfl, by decide +kernel, ⟨tyX10, tyX10_ok⟩, nmX10, rfl⟩
theorem fn10_16 : FNk RX10 16 10 2 (.array .int) true := ⟨RX10, TX10, 20, rfl, by decide, inG10, tb4 19 rfl rfl, rfl, by decide +kernel, ⟨tyX10, tyX10_ok⟩, nmX10, rfl⟩
theorem fn10_19 : FNk RX10 19 10 3 (.array .boolean) true := ⟨RX10, TX10, 20, rfl, by decide, inG10, tb4 20 rfl rfl, rfl, by decide +kernel, ⟨tyX10, tyX10_ok⟩, nmX10, rfl⟩
theorem fn10_23 : FNk RX10 23 10 4 (.array .int) true := ⟨RX10, TX10, 20, rfl, by decide, inG10, tb4 21 rfl rfl, rfl, by decide +kernel, ⟨tyX10, tyX10_ok⟩, nmX10, rfl⟩
theorem fn10_26 : FNk RX10 26 10 11 (.array .int) true := ⟨RX10, TX10, 20, rfl, by decide, inG10, tb4 28 rfl rfl, rfl, by decide +kernel, ⟨tyX10, tyX10_ok⟩, nmX10, rfl⟩
theorem fn10_29 : FNk RX10 29 10 13 (.array .int) true := ⟨RX10, TX10, 20, rfl, by decide, inG10, tb4 30 rfl rfl, rfl, by decide +kernel, ⟨tyX10, tyX10_ok⟩, nmX10, rfl⟩
theorem fn10_32 : FNk RX10 32 10 16 (.array .int) true := ⟨RX10, TX10, 20, rfl, by decide, inG10, tb4 33 rfl rfl, rfl, by decide +kernel, ⟨tyX10, tyX10_ok⟩, nmX10, rfl⟩
theorem fn10_35 : FNk RX10 35 10 17 (.array .int) true := ⟨RX10, TX10, 20, rfl, by decide, inG10, tb4 34 rfl rfl, rfl, by decide +kernel, ⟨tyX10, tyX10_ok⟩, nmX10, rfl⟩
theorem fn10_38 : FNk RX10 38 10 18 (.array .int) true := ⟨RX10, TX10, 20, rfl, by decide, inG10, tb4 35 rfl rfl, rfl, by decide +kernel, ⟨tyX10, tyX10_ok⟩, nmX10, rfl⟩
theorem nwRX1_7 : NWk RX1 7 2 4 [.null, .int 0, .int 0, .int 0] := ⟨RX2, TX2, rfl, inG2, tb1 163 rfl rfl, tb1 26 rfl rfl, tb1 2 rfl rfl, tyX2, tyX2_ok, (fun j hj => by rcases (show j = 0 ∨ j = 1 ∨ j = 2 ∨ j = 3 by omega) with rfl | rfl | rfl | rfl <;> rfl)⟩
theorem nwRX1_16 : NWk RX1 16 6 2 [.null, .int 0] := ⟨RX6, TX6, rfl, inG6, tb1 165 rfl rfl, tb1 55 rfl rfl, tb1 3 rfl rfl, tyX6, tyX6_ok, (fun j hj => by rcases (show j = 0 ∨ j = 1 by omega) with rfl | rfl <;> rfl)⟩
theorem nwRX3_9 : NWk RX3 9 2 4 [.null, .int 0, .int 0, .int 0] := ⟨RX2, TX2, rfl, inG2, tb1 90 rfl rfl, tb1 26 rfl rfl, tb1 2 rfl rfl, tyX2, tyX2_ok, (fun j hj => by rcases (show j = 0 ∨ j = 1 ∨ j = 2 ∨ j = 3 by omega) with rfl | rfl | rfl | rfl <;> rfl)⟩
theorem nwRX9_9 : NWk RX9 9 2 4 [.null, .int 0, .int 0, .int 0] := ⟨RX2, TX2, rfl, inG2, tb1 25 rfl rfl, tb1 26 rfl rfl, tb1 2 rfl rfl, tyX2, tyX2_ok, (fun j hj => by rcases (show j = 0 ∨ j = 1 ∨ j = 2 ∨ j = 3 by omega) with rfl | rfl | rfl | rfl <;> rfl)⟩
theorem nwRX9_16 : NWk RX9 16 6 2 [.null, .int 0] := ⟨RX6, TX6, rfl, inG6, tb1 54 rfl rfl, tb1 55 rfl rfl, tb1 3 rfl rfl, tyX6, tyX6_ok, (fun j hj => by rcases (show j = 0 ∨ j = 1 by omega) with rfl | rfl <;> rfl)⟩
theorem nwRX9_23 : NWk RX9 23 7 2 [.null, .int 0] := ⟨RX7, TX7, rfl, inG7, tb1 68 rfl rfl, tb1 69 rfl rfl, tb1 4 rfl rfl, tyX7, tyX7_ok, (fun j hj => by rcases (show j = 0 ∨ j = 1 by omega) with rfl | rfl <;> rfl)⟩
theorem nwRX9_30 : NWk RX9 30 3 5 [.null, .int 0, .int 0, .int 0, .int 0] := ⟨RX3, TX3, rfl, inG3, tb1 84 rfl rfl, tb1 85 rfl rfl, tb1 5 rfl rfl, tyX3, tyX3_ok, (fun j hj => by rcases (show j = 0 ∨ j = 1 ∨ j = 2 ∨ j = 3 ∨ j = 4 by omega) with rfl | rfl | rfl | rfl | rfl <;> rfl)⟩
theorem nwRX9_37 : NWk RX9 37 8 2 [.null, .int 0] := ⟨RX8, TX8, rfl, inG8, tb1 110 rfl rfl, tb1 111 rfl rfl, tb1 6 rfl rfl, tyX8, tyX8_ok, (fun j hj => by rcases (show j = 0 ∨ j = 1 by omega) with rfl | rfl <;> rfl)⟩
theorem nwRX9_44 : NWk RX9 44 5 3 [.null, .int 0, .null] := ⟨RX5, TX5, rfl, inG5, tb1 125 rfl rfl, tb1 126 rfl rfl, tb1 7 rfl rfl, tyX5, tyX5_ok, (fun j hj => by rcases (show j = 0 ∨ j = 1 ∨ j = 2 by omega) with rfl | rfl | rfl <;> rfl)⟩
theorem nwRX9_51 : NWk RX9 51 0 1 [.int 0] := ⟨RX0, TX0, rfl, inG0, tb1 143 rfl rfl, tb1 144 rfl rfl, tb1 8 rfl rfl, tyX0, tyX0_ok, (fun j hj => by rcases (show j = 0 by omega) with rfl <;> rfl)⟩
theorem nwRX9_58 : NWk RX9 58 1 3 [.null, .null, .int 0] := ⟨RX1, TX1, rfl, inG1, tb1 154 rfl rfl, tb1 158 rfl rfl, tb1 9 rfl rfl, tyX1, tyX1_ok, (fun j hj => by rcases (show j = 0 ∨ j = 1 ∨ j = 2 by omega) with rfl | rfl | rfl <;> rfl)⟩
theorem nwRX9_64 : NWk RX9 64 4 3 [.null, .int 0, .int 0] := ⟨RX4, TX4, rfl, inG4, tb1 156 rfl rfl, tb1 180 rfl rfl, tb1 10 rfl rfl, tyX4, tyX4_ok, (fun j hj => by rcases (show j = 0 ∨ j = 1 ∨ j = 2 by omega) with rfl | rfl | rfl <;> rfl)⟩
theorem nwRL_7 : NWk RL 7 9 11 [.null, .null, .null, .null, .null, .null, .null, .null, .null, .int 0, .int 0] := ⟨RX9, TX9, rfl, inG9, tb1 17 rfl rfl, tb1 18 rfl rfl, tb1 1 rfl rfl, tyX9, tyX9_ok, (fun j hj => by rcases (show j = 0 ∨ j = 1 ∨ j = 2 ∨ j = 3 ∨ j = 4 ∨ j = 5 ∨ j = 6 ∨ j = 7 ∨ j = 8 ∨ j = 9 ∨ j = 10 by omega) with rfl | rfl | rfl | rfl | rfl | rfl | rfl | rfl | rfl | rfl | rfl <;> rfl)⟩
theorem nwRL_10 : NWk RL 10 10 20 [.null, .null, .null, .null, .null, .int 0, .int 0, .int 0, .int 0, .int 0, .int 0, .null, .int 0, .null, .int 0, .int 0, .null, .null, .null, .int 0] := ⟨RX10, TX10, rfl, inG10, tb4 11 rfl rfl, tb4 12 rfl rfl, tb1 11 rfl rfl, tyX10, tyX10_ok, (fun j hj => by rcases (show j = 0 ∨ j = 1 ∨ j = 2 ∨ j = 3 ∨ j = 4 ∨ j = 5 ∨ j = 6 ∨ j = 7 ∨ j = 8 ∨ j = 9 ∨ j = 10 ∨ j = 11 ∨ j = 12 ∨ j = 13 ∨ j = 14 ∨ j = 15 ∨ j = 16 ∨ j = 17 ∨ j = 18 ∨ j = 19 by omega) with rfl | rfl | rfl | rfl | rfl | rfl | rfl | rfl | rfl | rfl | rfl | rfl | rfl | rfl | rfl | rfl | rfl | rfl | rfl | rfl <;> rfl)⟩
def bX2 (cI : ClassId) (h0 : Nat) (u : Nat → Nat) : va_W := [(h0, .inr (2, [.ref (u 1), .int (nI 0), .int (nI 0), .int (nI 0)])), ((u 1), .inl (cI, 192, .inl (fun _ => 0)))]
theorem ct2 {l : Launch} {D : va_G} {cI cZ : ClassId} : CN l D cI cZ mX2_init 1 192 2 [.null, .int 0, .int 0, .int 0] (bX2 cI) (fun _ _ _ => True) := by
  refine CN_of oki2 (by decide) ?_
  intro h0 p e s m args below meth c A C hK
  refine V_aload C 0 (by decide +kernel : decode mX2_init.2.1 0 = .ok (.aload_n 0, 1)) rfl ?_
  refine V_obj C (by decide +kernel : decode mX2_init.2.1 1 = .ok (.invokespecial 3, 3)) (tb1 30 rfl rfl) (by decide) (by decide) ?_
  refine V_aload C 0 (by decide +kernel : decode mX2_init.2.1 4 = .ok (.aload_n 0, 1)) rfl ?_
  refine V_sipush C (nI 192) (by decide +kernel : decode mX2_init.2.1 5 = .ok (.sipush 192, 3)) (by decide) ?_
  refine V_newi C hK rfl (by decide +kernel : decode mX2_init.2.1 8 = .ok (.newarray .int, 2)) (by decide) (Nat.le_of_ble_eq_true rfl) (Nat.le_of_ble_eq_true rfl) (fun q1 => ?_)
  refine V_putF C hK 0 (by decide +kernel : decode mX2_init.2.1 10 = .ok (.putfield 9, 3)) fn2_9 rfl (Nat.le_of_ble_eq_true rfl) rfl rfl rfl ?_
  refine V_eq (ws' := [(h0, .inr (2, [.ref q1, .int 0, .int 0, .int 0])), (q1, .inl (cI, 192, .inl (fun _ => 0)))]) rfl ?_
  refine V_aload C 0 (by decide +kernel : decode mX2_init.2.1 13 = .ok (.aload_n 0, 1)) rfl ?_
  refine V_iconst C (nI 0) (by decide +kernel : decode mX2_init.2.1 14 = .ok (.iconst 0, 1)) (by decide) ?_
  refine V_put C hK 0 (by decide +kernel : decode mX2_init.2.1 15 = .ok (.putfield 15, 3)) fn2_15 rfl (Nat.le_of_ble_eq_true rfl) rfl rfl ?_
  refine V_eq (ws' := [(h0, .inr (2, [.ref q1, .int (nI 0), .int 0, .int 0])), (q1, .inl (cI, 192, .inl (fun _ => 0)))]) rfl ?_
  refine V_aload C 0 (by decide +kernel : decode mX2_init.2.1 18 = .ok (.aload_n 0, 1)) rfl ?_
  refine V_iconst C (nI 0) (by decide +kernel : decode mX2_init.2.1 19 = .ok (.iconst 0, 1)) (by decide) ?_
  refine V_put C hK 0 (by decide +kernel : decode mX2_init.2.1 20 = .ok (.putfield 19, 3)) fn2_19 rfl (Nat.le_of_ble_eq_true rfl) rfl rfl ?_
  refine V_eq (ws' := [(h0, .inr (2, [.ref q1, .int (nI 0), .int (nI 0), .int 0])), (q1, .inl (cI, 192, .inl (fun _ => 0)))]) rfl ?_
  refine V_aload C 0 (by decide +kernel : decode mX2_init.2.1 23 = .ok (.aload_n 0, 1)) rfl ?_
  refine V_iconst C (nI 0) (by decide +kernel : decode mX2_init.2.1 24 = .ok (.iconst 0, 1)) (by decide) ?_
  refine V_put C hK 0 (by decide +kernel : decode mX2_init.2.1 25 = .ok (.putfield 22, 3)) fn2_22 rfl (Nat.le_of_ble_eq_true rfl) rfl rfl ?_
  refine V_eq (ws' := [(h0, .inr (2, [.ref q1, .int (nI 0), .int (nI 0), .int (nI 0)])), (q1, .inl (cI, 192, .inl (fun _ => 0)))]) rfl ?_
  exact V_ret (B := bX2 cI h0) (E := fun _ _ => True) C (fun k => [h0, q1].getD k 0) (by decide +kernel : decode mX2_init.2.1 28 = .ok (.return_, 1)) rfl rfl (fun _ _ => trivial)
def bX6 (cI : ClassId) (h0 : Nat) (u : Nat → Nat) : va_W := [(h0, .inr (6, [.ref (u 1), .int (nI 0)])), ((u 1), .inl (cI, 192, .inl (fun _ => 0)))]
theorem ct6 {l : Launch} {D : va_G} {cI cZ : ClassId} : CN l D cI cZ mX6_init 1 192 6 [.null, .int 0] (bX6 cI) (fun _ _ _ => True) := by
  refine CN_of oki6 (by decide) ?_
  intro h0 p e s m args below meth c A C hK
  refine V_aload C 0 (by decide +kernel : decode mX6_init.2.1 0 = .ok (.aload_n 0, 1)) rfl ?_
  refine V_obj C (by decide +kernel : decode mX6_init.2.1 1 = .ok (.invokespecial 3, 3)) (tb1 59 rfl rfl) (by decide) (by decide) ?_
  refine V_aload C 0 (by decide +kernel : decode mX6_init.2.1 4 = .ok (.aload_n 0, 1)) rfl ?_
  refine V_sipush C (nI 192) (by decide +kernel : decode mX6_init.2.1 5 = .ok (.sipush 192, 3)) (by decide) ?_
  refine V_newi C hK rfl (by decide +kernel : decode mX6_init.2.1 8 = .ok (.newarray .int, 2)) (by decide) (Nat.le_of_ble_eq_true rfl) (Nat.le_of_ble_eq_true rfl) (fun q1 => ?_)
  refine V_putF C hK 0 (by decide +kernel : decode mX6_init.2.1 10 = .ok (.putfield 9, 3)) fn6_9 rfl (Nat.le_of_ble_eq_true rfl) rfl rfl rfl ?_
  refine V_eq (ws' := [(h0, .inr (6, [.ref q1, .int 0])), (q1, .inl (cI, 192, .inl (fun _ => 0)))]) rfl ?_
  refine V_aload C 0 (by decide +kernel : decode mX6_init.2.1 13 = .ok (.aload_n 0, 1)) rfl ?_
  refine V_iconst C (nI 0) (by decide +kernel : decode mX6_init.2.1 14 = .ok (.iconst 0, 1)) (by decide) ?_
  refine V_put C hK 0 (by decide +kernel : decode mX6_init.2.1 15 = .ok (.putfield 15, 3)) fn6_15 rfl (Nat.le_of_ble_eq_true rfl) rfl rfl ?_
  refine V_eq (ws' := [(h0, .inr (6, [.ref q1, .int (nI 0)])), (q1, .inl (cI, 192, .inl (fun _ => 0)))]) rfl ?_
  exact V_ret (B := bX6 cI h0) (E := fun _ _ => True) C (fun k => [h0, q1].getD k 0) (by decide +kernel : decode mX6_init.2.1 18 = .ok (.return_, 1)) rfl rfl (fun _ _ => trivial)
def bX7 (cI : ClassId) (h0 : Nat) (u : Nat → Nat) : va_W := [(h0, .inr (7, [.ref (u 1), .int (nI 0)])), ((u 1), .inl (cI, 300, .inl (fun _ => 0)))]
theorem ct7 {l : Launch} {D : va_G} {cI cZ : ClassId} : CN l D cI cZ mX7_init 1 300 7 [.null, .int 0] (bX7 cI) (fun _ _ _ => True) := by
  refine CN_of oki7 (by decide) ?_
  intro h0 p e s m args below meth c A C hK
  refine V_aload C 0 (by decide +kernel : decode mX7_init.2.1 0 = .ok (.aload_n 0, 1)) rfl ?_
  refine V_obj C (by decide +kernel : decode mX7_init.2.1 1 = .ok (.invokespecial 3, 3)) (tb1 73 rfl rfl) (by decide) (by decide) ?_
  refine V_aload C 0 (by decide +kernel : decode mX7_init.2.1 4 = .ok (.aload_n 0, 1)) rfl ?_
  refine V_sipush C (nI 300) (by decide +kernel : decode mX7_init.2.1 5 = .ok (.sipush 300, 3)) (by decide) ?_
  refine V_newi C hK rfl (by decide +kernel : decode mX7_init.2.1 8 = .ok (.newarray .int, 2)) (by decide) (Nat.le_of_ble_eq_true rfl) (Nat.le_of_ble_eq_true rfl) (fun q1 => ?_)
  refine V_putF C hK 0 (by decide +kernel : decode mX7_init.2.1 10 = .ok (.putfield 9, 3)) fn7_9 rfl (Nat.le_of_ble_eq_true rfl) rfl rfl rfl ?_
  refine V_eq (ws' := [(h0, .inr (7, [.ref q1, .int 0])), (q1, .inl (cI, 300, .inl (fun _ => 0)))]) rfl ?_
  refine V_aload C 0 (by decide +kernel : decode mX7_init.2.1 13 = .ok (.aload_n 0, 1)) rfl ?_
  refine V_iconst C (nI 0) (by decide +kernel : decode mX7_init.2.1 14 = .ok (.iconst 0, 1)) (by decide) ?_
  refine V_put C hK 0 (by decide +kernel : decode mX7_init.2.1 15 = .ok (.putfield 15, 3)) fn7_15 rfl (Nat.le_of_ble_eq_true rfl) rfl rfl ?_
  refine V_eq (ws' := [(h0, .inr (7, [.ref q1, .int (nI 0)])), (q1, .inl (cI, 300, .inl (fun _ => 0)))]) rfl ?_
  exact V_ret (B := bX7 cI h0) (E := fun _ _ => True) C (fun k => [h0, q1].getD k 0) (by decide +kernel : decode mX7_init.2.1 18 = .ok (.return_, 1)) rfl rfl (fun _ _ => trivial)
def bX8 (cI : ClassId) (h0 : Nat) (u : Nat → Nat) : va_W := [(h0, .inr (8, [.ref (u 1), .int (nI 0)])), ((u 1), .inl (cI, 40, .inl (fun _ => 0)))]
theorem ct8 {l : Launch} {D : va_G} {cI cZ : ClassId} : CN l D cI cZ mX8_init 1 40 8 [.null, .int 0] (bX8 cI) (fun _ _ _ => True) := by
  refine CN_of oki8 (by decide) ?_
  intro h0 p e s m args below meth c A C hK
  refine V_aload C 0 (by decide +kernel : decode mX8_init.2.1 0 = .ok (.aload_n 0, 1)) rfl ?_
  refine V_obj C (by decide +kernel : decode mX8_init.2.1 1 = .ok (.invokespecial 3, 3)) (tb1 115 rfl rfl) (by decide) (by decide) ?_
  refine V_aload C 0 (by decide +kernel : decode mX8_init.2.1 4 = .ok (.aload_n 0, 1)) rfl ?_
  refine V_bipush C (nI 40) (by decide +kernel : decode mX8_init.2.1 5 = .ok (.bipush 40, 2)) (by decide) ?_
  refine V_newi C hK rfl (by decide +kernel : decode mX8_init.2.1 7 = .ok (.newarray .int, 2)) (by decide) (Nat.le_of_ble_eq_true rfl) (Nat.le_of_ble_eq_true rfl) (fun q1 => ?_)
  refine V_putF C hK 0 (by decide +kernel : decode mX8_init.2.1 9 = .ok (.putfield 9, 3)) fn8_9 rfl (Nat.le_of_ble_eq_true rfl) rfl rfl rfl ?_
  refine V_eq (ws' := [(h0, .inr (8, [.ref q1, .int 0])), (q1, .inl (cI, 40, .inl (fun _ => 0)))]) rfl ?_
  refine V_aload C 0 (by decide +kernel : decode mX8_init.2.1 12 = .ok (.aload_n 0, 1)) rfl ?_
  refine V_iconst C (nI 0) (by decide +kernel : decode mX8_init.2.1 13 = .ok (.iconst 0, 1)) (by decide) ?_
  refine V_put C hK 0 (by decide +kernel : decode mX8_init.2.1 14 = .ok (.putfield 15, 3)) fn8_15 rfl (Nat.le_of_ble_eq_true rfl) rfl rfl ?_
  refine V_eq (ws' := [(h0, .inr (8, [.ref q1, .int (nI 0)])), (q1, .inl (cI, 40, .inl (fun _ => 0)))]) rfl ?_
  exact V_ret (B := bX8 cI h0) (E := fun _ _ => True) C (fun k => [h0, q1].getD k 0) (by decide +kernel : decode mX8_init.2.1 17 = .ok (.return_, 1)) rfl rfl (fun _ _ => trivial)
def bX0 (cI : ClassId) (h0 : Nat) (u : Nat → Nat) : va_W := [(h0, .inr (0, [.int (nI 0)]))]
theorem ct0 {l : Launch} {D : va_G} {cI cZ : ClassId} : CN l D cI cZ mX0_init 0 0 0 [.int 0] (bX0 cI) (fun _ _ _ => True) := by
  refine CN_of oki0 (by decide) ?_
  intro h0 p e s m args below meth c A C hK
  refine V_aload C 0 (by decide +kernel : decode mX0_init.2.1 0 = .ok (.aload_n 0, 1)) rfl ?_
  refine V_obj C (by decide +kernel : decode mX0_init.2.1 1 = .ok (.invokespecial 1, 3)) (tb1 148 rfl rfl) (by decide) (by decide) ?_
  refine V_aload C 0 (by decide +kernel : decode mX0_init.2.1 4 = .ok (.aload_n 0, 1)) rfl ?_
  refine V_iconst C (nI 0) (by decide +kernel : decode mX0_init.2.1 5 = .ok (.iconst 0, 1)) (by decide) ?_
  refine V_put C hK 0 (by decide +kernel : decode mX0_init.2.1 6 = .ok (.putfield 7, 3)) fn0_7 rfl (Nat.le_of_ble_eq_true rfl) rfl rfl ?_
  refine V_eq (ws' := [(h0, .inr (0, [.int (nI 0)]))]) rfl ?_
  exact V_ret (B := bX0 cI h0) (E := fun _ _ => True) C (fun k => [h0].getD k 0) (by decide +kernel : decode mX0_init.2.1 9 = .ok (.return_, 1)) rfl rfl (fun _ _ => trivial)
def bX4 (cI : ClassId) (h0 : Nat) (u : Nat → Nat) : va_W := [(h0, .inr (4, [.ref (u 1), .int (nI 0), .int (-nI 4)])), ((u 1), .inl (cI, 32, .inl (fun _ => 0)))]
theorem ct4 {l : Launch} {D : va_G} {cI cZ : ClassId} : CN l D cI cZ mX4_init 1 32 4 [.null, .int 0, .int 0] (bX4 cI) (fun _ _ _ => True) := by
  refine CN_of oki4 (by decide) ?_
  intro h0 p e s m args below meth c A C hK
  refine V_aload C 0 (by decide +kernel : decode mX4_init.2.1 0 = .ok (.aload_n 0, 1)) rfl ?_
  refine V_obj C (by decide +kernel : decode mX4_init.2.1 1 = .ok (.invokespecial 3, 3)) (tb1 184 rfl rfl) (by decide) (by decide) ?_
  refine V_aload C 0 (by decide +kernel : decode mX4_init.2.1 4 = .ok (.aload_n 0, 1)) rfl ?_
  refine V_bipush C (nI 32) (by decide +kernel : decode mX4_init.2.1 5 = .ok (.bipush 32, 2)) (by decide) ?_
  refine V_newi C hK rfl (by decide +kernel : decode mX4_init.2.1 7 = .ok (.newarray .int, 2)) (by decide) (Nat.le_of_ble_eq_true rfl) (Nat.le_of_ble_eq_true rfl) (fun q1 => ?_)
  refine V_putF C hK 0 (by decide +kernel : decode mX4_init.2.1 9 = .ok (.putfield 9, 3)) fn4_9 rfl (Nat.le_of_ble_eq_true rfl) rfl rfl rfl ?_
  refine V_eq (ws' := [(h0, .inr (4, [.ref q1, .int 0, .int 0])), (q1, .inl (cI, 32, .inl (fun _ => 0)))]) rfl ?_
  refine V_aload C 0 (by decide +kernel : decode mX4_init.2.1 12 = .ok (.aload_n 0, 1)) rfl ?_
  refine V_iconst C (nI 0) (by decide +kernel : decode mX4_init.2.1 13 = .ok (.iconst 0, 1)) (by decide) ?_
  refine V_put C hK 0 (by decide +kernel : decode mX4_init.2.1 14 = .ok (.putfield 15, 3)) fn4_15 rfl (Nat.le_of_ble_eq_true rfl) rfl rfl ?_
  refine V_eq (ws' := [(h0, .inr (4, [.ref q1, .int (nI 0), .int 0])), (q1, .inl (cI, 32, .inl (fun _ => 0)))]) rfl ?_
  refine V_aload C 0 (by decide +kernel : decode mX4_init.2.1 17 = .ok (.aload_n 0, 1)) rfl ?_
  refine V_bipush C (-nI 4) (by decide +kernel : decode mX4_init.2.1 18 = .ok (.bipush (-4), 2)) (by decide) ?_
  refine V_put C hK 0 (by decide +kernel : decode mX4_init.2.1 20 = .ok (.putfield 19, 3)) fn4_19 rfl (Nat.le_of_ble_eq_true rfl) rfl rfl ?_
  refine V_eq (ws' := [(h0, .inr (4, [.ref q1, .int (nI 0), .int (-nI 4)])), (q1, .inl (cI, 32, .inl (fun _ => 0)))]) rfl ?_
  exact V_ret (B := bX4 cI h0) (E := fun _ _ => True) C (fun k => [h0, q1].getD k 0) (by decide +kernel : decode mX4_init.2.1 23 = .ok (.return_, 1)) rfl rfl (fun _ _ => trivial)
def bX5 (cI : ClassId) (h0 : Nat) (u : Nat → Nat) : va_W := [(h0, .inr (5, [.ref (u 1), .int (nI 0), .ref (u 2)])), ((u 1), .inl (cI, 16, .inl (fun _ => 0))), ((u 2), .inl (cI, 40, .inl (fun _ => 0)))]
theorem ct5 {l : Launch} {D : va_G} {cI cZ : ClassId} : CN l D cI cZ mX5_init 2 56 5 [.null, .int 0, .null] (bX5 cI) (fun _ _ _ => True) := by
  refine CN_of oki5 (by decide) ?_
  intro h0 p e s m args below meth c A C hK
  refine V_aload C 0 (by decide +kernel : decode mX5_init.2.1 0 = .ok (.aload_n 0, 1)) rfl ?_
  refine V_obj C (by decide +kernel : decode mX5_init.2.1 1 = .ok (.invokespecial 3, 3)) (tb1 130 rfl rfl) (by decide) (by decide) ?_
  refine V_aload C 0 (by decide +kernel : decode mX5_init.2.1 4 = .ok (.aload_n 0, 1)) rfl ?_
  refine V_bipush C (nI 16) (by decide +kernel : decode mX5_init.2.1 5 = .ok (.bipush 16, 2)) (by decide) ?_
  refine V_newi C hK rfl (by decide +kernel : decode mX5_init.2.1 7 = .ok (.newarray .int, 2)) (by decide) (Nat.le_of_ble_eq_true rfl) (Nat.le_of_ble_eq_true rfl) (fun q1 => ?_)
  refine V_putF C hK 0 (by decide +kernel : decode mX5_init.2.1 9 = .ok (.putfield 9, 3)) fn5_9 rfl (Nat.le_of_ble_eq_true rfl) rfl rfl rfl ?_
  refine V_eq (ws' := [(h0, .inr (5, [.ref q1, .int 0, .null])), (q1, .inl (cI, 16, .inl (fun _ => 0)))]) rfl ?_
  refine V_aload C 0 (by decide +kernel : decode mX5_init.2.1 12 = .ok (.aload_n 0, 1)) rfl ?_
  refine V_iconst C (nI 0) (by decide +kernel : decode mX5_init.2.1 13 = .ok (.iconst 0, 1)) (by decide) ?_
  refine V_put C hK 0 (by decide +kernel : decode mX5_init.2.1 14 = .ok (.putfield 15, 3)) fn5_15 rfl (Nat.le_of_ble_eq_true rfl) rfl rfl ?_
  refine V_eq (ws' := [(h0, .inr (5, [.ref q1, .int (nI 0), .null])), (q1, .inl (cI, 16, .inl (fun _ => 0)))]) rfl ?_
  refine V_aload C 0 (by decide +kernel : decode mX5_init.2.1 17 = .ok (.aload_n 0, 1)) rfl ?_
  refine V_bipush C (nI 40) (by decide +kernel : decode mX5_init.2.1 18 = .ok (.bipush 40, 2)) (by decide) ?_
  refine V_newi C hK rfl (by decide +kernel : decode mX5_init.2.1 20 = .ok (.newarray .int, 2)) (by decide) (Nat.le_of_ble_eq_true rfl) (Nat.le_of_ble_eq_true rfl) (fun q2 => ?_)
  refine V_putF C hK 0 (by decide +kernel : decode mX5_init.2.1 22 = .ok (.putfield 19, 3)) fn5_19 rfl (Nat.le_of_ble_eq_true rfl) rfl rfl rfl ?_
  refine V_eq (ws' := [(h0, .inr (5, [.ref q1, .int (nI 0), .ref q2])), (q1, .inl (cI, 16, .inl (fun _ => 0))), (q2, .inl (cI, 40, .inl (fun _ => 0)))]) rfl ?_
  exact V_ret (B := bX5 cI h0) (E := fun _ _ => True) C (fun k => [h0, q1, q2].getD k 0) (by decide +kernel : decode mX5_init.2.1 25 = .ok (.return_, 1)) rfl rfl (fun _ _ => trivial)
def bX3 (cI : ClassId) (h0 : Nat) (u : Nat → Nat) : va_W := [(h0, .inr (3, [.ref (u 1), .int (nI 0), .int (nI 0), .int (nI 3), .int (nI 0)])), ((u 1), .inr (2, [.ref (u 2), .int (nI 0), .int (nI 0), .int (nI 0)])), ((u 2), .inl (cI, 192, .inl (fun _ => 0)))]
theorem ct3 {l : Launch} {D : va_G} {cI cZ : ClassId} : CN l D cI cZ mX3_init 2 196 3 [.null, .int 0, .int 0, .int 0, .int 0] (bX3 cI) (fun _ _ _ => True) := by
  refine CN_of oki3 (by decide) ?_
  intro h0 p e s m args below meth c A C hK
  refine V_aload C 0 (by decide +kernel : decode mX3_init.2.1 0 = .ok (.aload_n 0, 1)) rfl ?_
  refine V_obj C (by decide +kernel : decode mX3_init.2.1 1 = .ok (.invokespecial 3, 3)) (tb1 89 rfl rfl) (by decide) (by decide) ?_
  refine V_aload C 0 (by decide +kernel : decode mX3_init.2.1 4 = .ok (.aload_n 0, 1)) rfl ?_
  refine V_new C hK (by decide +kernel : decode mX3_init.2.1 5 = .ok (.new 9, 3)) nwRX3_9 (Nat.le_of_ble_eq_true rfl) (Nat.le_of_ble_eq_true rfl) (fun q1 => ?_)
  refine V_dup C (by decide +kernel : decode mX3_init.2.1 8 = .ok (.dup, 1)) ?_
  refine V_callN (me' := mX2_init) C hK ct2 oki2 (List.mem_of_getElem? (i := 0) rfl) ⟨Nat.le_of_ble_eq_true rfl, Nat.le_of_ble_eq_true rfl⟩ (by decide +kernel : decode mX3_init.2.1 9 = .ok (.invokespecial 11, 3)) (Nat.le_of_ble_eq_true rfl) (Nat.le_of_ble_eq_true rfl) (Nat.le_of_ble_eq_true rfl) (fun u2 _ _ _ => ?_)
  refine V_eq (ws' := [(h0, .inr (3, [.null, .int 0, .int 0, .int 0, .int 0])), (q1, .inr (2, [.ref (u2 1), .int (nI 0), .int (nI 0), .int (nI 0)])), ((u2 1), .inl (cI, 192, .inl (fun _ => 0)))]) rfl ?_
  refine V_putF C hK 0 (by decide +kernel : decode mX3_init.2.1 12 = .ok (.putfield 12, 3)) fn3_12 rfl (Nat.le_of_ble_eq_true rfl) rfl rfl rfl ?_
  refine V_eq (ws' := [(h0, .inr (3, [.ref q1, .int 0, .int 0, .int 0, .int 0])), (q1, .inr (2, [.ref (u2 1), .int (nI 0), .int (nI 0), .int (nI 0)])), ((u2 1), .inl (cI, 192, .inl (fun _ => 0)))]) rfl ?_
  refine V_aload C 0 (by decide +kernel : decode mX3_init.2.1 15 = .ok (.aload_n 0, 1)) rfl ?_
  refine V_iconst C (nI 0) (by decide +kernel : decode mX3_init.2.1 16 = .ok (.iconst 0, 1)) (by decide) ?_
  refine V_put C hK 0 (by decide +kernel : decode mX3_init.2.1 17 = .ok (.putfield 18, 3)) fn3_18 rfl (Nat.le_of_ble_eq_true rfl) rfl rfl ?_
  refine V_eq (ws' := [(h0, .inr (3, [.ref q1, .int (nI 0), .int 0, .int 0, .int 0])), (q1, .inr (2, [.ref (u2 1), .int (nI 0), .int (nI 0), .int (nI 0)])), ((u2 1), .inl (cI, 192, .inl (fun _ => 0)))]) rfl ?_
  refine V_aload C 0 (by decide +kernel : decode mX3_init.2.1 20 = .ok (.aload_n 0, 1)) rfl ?_
  refine V_iconst C (nI 0) (by decide +kernel : decode mX3_init.2.1 21 = .ok (.iconst 0, 1)) (by decide) ?_
  refine V_put C hK 0 (by decide +kernel : decode mX3_init.2.1 22 = .ok (.putfield 22, 3)) fn3_22 rfl (Nat.le_of_ble_eq_true rfl) rfl rfl ?_
  refine V_eq (ws' := [(h0, .inr (3, [.ref q1, .int (nI 0), .int (nI 0), .int 0, .int 0])), (q1, .inr (2, [.ref (u2 1), .int (nI 0), .int (nI 0), .int (nI 0)])), ((u2 1), .inl (cI, 192, .inl (fun _ => 0)))]) rfl ?_
  refine V_aload C 0 (by decide +kernel : decode mX3_init.2.1 25 = .ok (.aload_n 0, 1)) rfl ?_
  refine V_iconst C (nI 3) (by decide +kernel : decode mX3_init.2.1 26 = .ok (.iconst 3, 1)) (by decide) ?_
  refine V_put C hK 0 (by decide +kernel : decode mX3_init.2.1 27 = .ok (.putfield 25, 3)) fn3_25 rfl (Nat.le_of_ble_eq_true rfl) rfl rfl ?_
  refine V_eq (ws' := [(h0, .inr (3, [.ref q1, .int (nI 0), .int (nI 0), .int (nI 3), .int 0])), (q1, .inr (2, [.ref (u2 1), .int (nI 0), .int (nI 0), .int (nI 0)])), ((u2 1), .inl (cI, 192, .inl (fun _ => 0)))]) rfl ?_
  refine V_aload C 0 (by decide +kernel : decode mX3_init.2.1 30 = .ok (.aload_n 0, 1)) rfl ?_
  refine V_iconst C (nI 0) (by decide +kernel : decode mX3_init.2.1 31 = .ok (.iconst 0, 1)) (by decide) ?_
  refine V_put C hK 0 (by decide +kernel : decode mX3_init.2.1 32 = .ok (.putfield 28, 3)) fn3_28 rfl (Nat.le_of_ble_eq_true rfl) (by decide) (by decide) ?_
  refine V_eq (ws' := [(h0, .inr (3, [.ref q1, .int (nI 0), .int (nI 0), .int (nI 3), .int (nI 0)])), (q1, .inr (2, [.ref (u2 1), .int (nI 0), .int (nI 0), .int (nI 0)])), ((u2 1), .inl (cI, 192, .inl (fun _ => 0)))]) rfl ?_
  exact V_ret (B := bX3 cI h0) (E := fun _ _ => True) C (fun k => [h0, q1, (u2 1)].getD k 0) (by decide +kernel : decode mX3_init.2.1 35 = .ok (.return_, 1)) rfl rfl (fun _ _ => trivial)
def bX1 (cI : ClassId) (h0 : Nat) (u : Nat → Nat) : va_W := [(h0, .inr (1, [.ref (u 1), .ref (u 3), .int (nI 0)])), ((u 1), .inr (2, [.ref (u 2), .int (nI 0), .int (nI 0), .int (nI 0)])), ((u 2), .inl (cI, 192, .inl (fun _ => 0))), ((u 3), .inr (6, [.ref (u 4), .int (nI 0)])), ((u 4), .inl (cI, 192, .inl (fun _ => 0)))]
theorem ct1 {l : Launch} {D : va_G} {cI cZ : ClassId} : CN l D cI cZ mX1_init 4 390 1 [.null, .null, .int 0] (bX1 cI) (fun _ _ _ => True) := by
  refine CN_of oki1 (by decide) ?_
  intro h0 p e s m args below meth c A C hK
  refine V_aload C 0 (by decide +kernel : decode mX1_init.2.1 0 = .ok (.aload_n 0, 1)) rfl ?_
  refine V_obj C (by decide +kernel : decode mX1_init.2.1 1 = .ok (.invokespecial 1, 3)) (tb1 162 rfl rfl) (by decide) (by decide) ?_
  refine V_aload C 0 (by decide +kernel : decode mX1_init.2.1 4 = .ok (.aload_n 0, 1)) rfl ?_
  refine V_new C hK (by decide +kernel : decode mX1_init.2.1 5 = .ok (.new 7, 3)) nwRX1_7 (Nat.le_of_ble_eq_true rfl) (Nat.le_of_ble_eq_true rfl) (fun q1 => ?_)
  refine V_dup C (by decide +kernel : decode mX1_init.2.1 8 = .ok (.dup, 1)) ?_
  refine V_callN (me' := mX2_init) C hK ct2 oki2 (List.mem_of_getElem? (i := 1) rfl) ⟨Nat.le_of_ble_eq_true rfl, Nat.le_of_ble_eq_true rfl⟩ (by decide +kernel : decode mX1_init.2.1 9 = .ok (.invokespecial 9, 3)) (Nat.le_of_ble_eq_true rfl) (Nat.le_of_ble_eq_true rfl) (Nat.le_of_ble_eq_true rfl) (fun u2 _ _ _ => ?_)
  refine V_eq (ws' := [(h0, .inr (1, [.null, .null, .int 0])), (q1, .inr (2, [.ref (u2 1), .int (nI 0), .int (nI 0), .int (nI 0)])), ((u2 1), .inl (cI, 192, .inl (fun _ => 0)))]) rfl ?_
  refine V_putF C hK 0 (by decide +kernel : decode mX1_init.2.1 12 = .ok (.putfield 10, 3)) fn1_10 rfl (Nat.le_of_ble_eq_true rfl) rfl rfl rfl ?_
  refine V_eq (ws' := [(h0, .inr (1, [.ref q1, .null, .int 0])), (q1, .inr (2, [.ref (u2 1), .int (nI 0), .int (nI 0), .int (nI 0)])), ((u2 1), .inl (cI, 192, .inl (fun _ => 0)))]) rfl ?_
  refine V_aload C 0 (by decide +kernel : decode mX1_init.2.1 15 = .ok (.aload_n 0, 1)) rfl ?_
  refine V_new C hK (by decide +kernel : decode mX1_init.2.1 16 = .ok (.new 16, 3)) nwRX1_16 (Nat.le_of_ble_eq_true rfl) (Nat.le_of_ble_eq_true rfl) (fun q3 => ?_)
  refine V_dup C (by decide +kernel : decode mX1_init.2.1 19 = .ok (.dup, 1)) ?_
  refine V_callN (me' := mX6_init) C hK ct6 oki6 (List.mem_of_getElem? (i := 2) rfl) ⟨Nat.le_of_ble_eq_true rfl, Nat.le_of_ble_eq_true rfl⟩ (by decide +kernel : decode mX1_init.2.1 20 = .ok (.invokespecial 18, 3)) (Nat.le_of_ble_eq_true rfl) (Nat.le_of_ble_eq_true rfl) (Nat.le_of_ble_eq_true rfl) (fun u4 _ _ _ => ?_)
  refine V_eq (ws' := [(h0, .inr (1, [.ref q1, .null, .int 0])), (q1, .inr (2, [.ref (u2 1), .int (nI 0), .int (nI 0), .int (nI 0)])), ((u2 1), .inl (cI, 192, .inl (fun _ => 0))), (q3, .inr (6, [.ref (u4 1), .int (nI 0)])), ((u4 1), .inl (cI, 192, .inl (fun _ => 0)))]) rfl ?_
  refine V_putF C hK 0 (by decide +kernel : decode mX1_init.2.1 23 = .ok (.putfield 19, 3)) fn1_19 rfl (Nat.le_of_ble_eq_true rfl) rfl rfl rfl ?_
  refine V_eq (ws' := [(h0, .inr (1, [.ref q1, .ref q3, .int 0])), (q1, .inr (2, [.ref (u2 1), .int (nI 0), .int (nI 0), .int (nI 0)])), ((u2 1), .inl (cI, 192, .inl (fun _ => 0))), (q3, .inr (6, [.ref (u4 1), .int (nI 0)])), ((u4 1), .inl (cI, 192, .inl (fun _ => 0)))]) rfl ?_
  refine V_aload C 0 (by decide +kernel : decode mX1_init.2.1 26 = .ok (.aload_n 0, 1)) rfl ?_
  refine V_iconst C (nI 0) (by decide +kernel : decode mX1_init.2.1 27 = .ok (.iconst 0, 1)) (by decide) ?_
  refine V_put C hK 0 (by decide +kernel : decode mX1_init.2.1 28 = .ok (.putfield 23, 3)) fn1_23 rfl (Nat.le_of_ble_eq_true rfl) (by decide) (by decide) ?_
  refine V_eq (ws' := [(h0, .inr (1, [.ref q1, .ref q3, .int (nI 0)])), (q1, .inr (2, [.ref (u2 1), .int (nI 0), .int (nI 0), .int (nI 0)])), ((u2 1), .inl (cI, 192, .inl (fun _ => 0))), (q3, .inr (6, [.ref (u4 1), .int (nI 0)])), ((u4 1), .inl (cI, 192, .inl (fun _ => 0)))]) rfl ?_
  exact V_ret (B := bX1 cI h0) (E := fun _ _ => True) C (fun k => [h0, q1, (u2 1), q3, (u4 1)].getD k 0) (by decide +kernel : decode mX1_init.2.1 31 = .ok (.return_, 1)) rfl rfl (fun _ _ => trivial)
