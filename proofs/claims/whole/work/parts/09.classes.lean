theorem inG0 : ∀ w ∈ u_ws RX0 TX0 1, w ∈ wsG := by
  intro w hw
  obtain ⟨k, hk, rfl⟩ := List.mem_map.mp hw
  have hk := List.mem_range.mp hk
  obtain rfl : k = 0 := by omega
  exact tb1 151 rfl rfl
theorem inG1 : ∀ w ∈ u_ws RX1 TX1 3, w ∈ wsG := by
  intro w hw
  obtain ⟨k, hk, rfl⟩ := List.mem_map.mp hw
  have hk := List.mem_range.mp hk
  rcases (show k = 0 ∨ k = 1 ∨ k = 2 by omega) with rfl | rfl | rfl
  · exact tb1 173 rfl rfl
  · exact tb1 175 rfl rfl
  · exact tb1 177 rfl rfl
theorem inG2 : ∀ w ∈ u_ws RX2 TX2 4, w ∈ wsG := by
  intro w hw
  obtain ⟨k, hk, rfl⟩ := List.mem_map.mp hw
  have hk := List.mem_range.mp hk
  rcases (show k = 0 ∨ k = 1 ∨ k = 2 ∨ k = 3 by omega) with rfl | rfl | rfl | rfl
  · exact tb1 44 rfl rfl
  · exact tb1 46 rfl rfl
  · exact tb1 48 rfl rfl
  · exact tb1 50 rfl rfl
theorem inG3 : ∀ w ∈ u_ws RX3 TX3 5, w ∈ wsG := by
  intro w hw
  obtain ⟨k, hk, rfl⟩ := List.mem_map.mp hw
  have hk := List.mem_range.mp hk
  rcases (show k = 0 ∨ k = 1 ∨ k = 2 ∨ k = 3 ∨ k = 4 by omega) with rfl | rfl | rfl | rfl | rfl
  · exact tb1 99 rfl rfl
  · exact tb1 101 rfl rfl
  · exact tb1 103 rfl rfl
  · exact tb1 105 rfl rfl
  · exact tb1 107 rfl rfl
theorem inG4 : ∀ w ∈ u_ws RX4 TX4 3, w ∈ wsG := by
  intro w hw
  obtain ⟨k, hk, rfl⟩ := List.mem_map.mp hw
  have hk := List.mem_range.mp hk
  rcases (show k = 0 ∨ k = 1 ∨ k = 2 by omega) with rfl | rfl | rfl
  · exact tb1 191 rfl rfl
  · exact tb1 193 rfl rfl
  · exact tb1 195 rfl rfl
theorem inG5 : ∀ w ∈ u_ws RX5 TX5 3, w ∈ wsG := by
  intro w hw
  obtain ⟨k, hk, rfl⟩ := List.mem_map.mp hw
  have hk := List.mem_range.mp hk
  rcases (show k = 0 ∨ k = 1 ∨ k = 2 by omega) with rfl | rfl | rfl
  · exact tb1 136 rfl rfl
  · exact tb1 138 rfl rfl
  · exact tb1 140 rfl rfl
theorem inG6 : ∀ w ∈ u_ws RX6 TX6 2, w ∈ wsG := by
  intro w hw
  obtain ⟨k, hk, rfl⟩ := List.mem_map.mp hw
  have hk := List.mem_range.mp hk
  rcases (show k = 0 ∨ k = 1 by omega) with rfl | rfl
  · exact tb1 63 rfl rfl
  · exact tb1 65 rfl rfl
theorem inG7 : ∀ w ∈ u_ws RX7 TX7 2, w ∈ wsG := by
  intro w hw
  obtain ⟨k, hk, rfl⟩ := List.mem_map.mp hw
  have hk := List.mem_range.mp hk
  rcases (show k = 0 ∨ k = 1 by omega) with rfl | rfl
  · exact tb1 79 rfl rfl
  · exact tb1 81 rfl rfl
theorem inG8 : ∀ w ∈ u_ws RX8 TX8 2, w ∈ wsG := by
  intro w hw
  obtain ⟨k, hk, rfl⟩ := List.mem_map.mp hw
  have hk := List.mem_range.mp hk
  rcases (show k = 0 ∨ k = 1 by omega) with rfl | rfl
  · exact tb1 120 rfl rfl
  · exact tb1 122 rfl rfl
theorem inG9 : ∀ w ∈ u_ws RX9 TX9 11, w ∈ wsG := by
  intro w hw
  obtain ⟨k, hk, rfl⟩ := List.mem_map.mp hw
  have hk := List.mem_range.mp hk
  rcases (show k = 0 ∨ k = 1 ∨ k = 2 ∨ k = 3 ∨ k = 4 ∨ k = 5 ∨ k = 6 ∨ k = 7 ∨ k = 8 ∨ k = 9 ∨ k = 10 by omega) with rfl | rfl | rfl | rfl | rfl | rfl | rfl | rfl | rfl | rfl | rfl
  · exact tb1 209 rfl rfl
  · exact tb1 211 rfl rfl
  · exact tb1 213 rfl rfl
  · exact tb1 215 rfl rfl
  · exact tb1 217 rfl rfl
  · exact tb1 219 rfl rfl
  · exact tb1 221 rfl rfl
  · exact tb1 223 rfl rfl
  · exact tb1 225 rfl rfl
  · exact tb1 227 rfl rfl
  · exact tb1 229 rfl rfl
theorem inG10 : ∀ w ∈ u_ws RX10 TX10 20, w ∈ wsG := by
  intro w hw
  obtain ⟨k, hk, rfl⟩ := List.mem_map.mp hw
  have hk := List.mem_range.mp hk
  rcases (show k = 0 ∨ k = 1 ∨ k = 2 ∨ k = 3 ∨ k = 4 ∨ k = 5 ∨ k = 6 ∨ k = 7 ∨ k = 8 ∨ k = 9 ∨ k = 10 ∨ k = 11 ∨ k = 12 ∨ k = 13 ∨ k = 14 ∨ k = 15 ∨ k = 16 ∨ k = 17 ∨ k = 18 ∨ k = 19 by omega) with rfl | rfl | rfl | rfl | rfl | rfl | rfl | rfl | rfl | rfl | rfl | rfl | rfl | rfl | rfl | rfl | rfl | rfl | rfl | rfl
  · exact tb4 37 rfl rfl
  · exact tb4 39 rfl rfl
  · exact tb4 41 rfl rfl
  · exact tb4 43 rfl rfl
  · exact tb4 45 rfl rfl
  · exact tb4 47 rfl rfl
  · exact tb4 49 rfl rfl
  · exact tb4 51 rfl rfl
  · exact tb4 53 rfl rfl
  · exact tb4 55 rfl rfl
  · exact tb4 57 rfl rfl
  · exact tb4 59 rfl rfl
  · exact tb4 61 rfl rfl
  · exact tb4 63 rfl rfl
  · exact tb4 65 rfl rfl
  · exact tb4 67 rfl rfl
  · exact tb4 69 rfl rfl
  · exact tb4 71 rfl rfl
  · exact tb4 73 rfl rfl
  · exact tb4 75 rfl rfl
theorem fk0_7 : okF RX0 (7, 0, 0, 0) := ⟨⟨RX0, TX0, 1, rfl, by decide, inG0, tb1 149 rfl rfl⟩, fun _ => ⟨RX0, TX0, 1, rfl, by decide, inG0, tb1 149 rfl rfl, rfl, by decide +kernel, ⟨tyX0, tyX0_ok⟩, nmX0⟩, fun h => absurd h (by decide)⟩
def tX0 : CT := ([(7, 0, 0, 0)], [], [(13, 1103515245)], [], [])
theorem okX0 : okCT RX0 tX0 := ⟨List.forall_mem_cons.mpr ⟨fk0_7, fun _ h => absurd h List.not_mem_nil⟩, fun _ h => absurd h List.not_mem_nil, List.forall_mem_cons.mpr ⟨tb3 193 rfl rfl, fun _ h => absurd h List.not_mem_nil⟩, fun _ h => absurd h List.not_mem_nil, fun _ h => absurd h List.not_mem_nil⟩
def tX1 : CT := ([], [], [], [], [])
theorem okX1 : okCT RX1 tX1 := ⟨fun _ h => absurd h List.not_mem_nil, fun _ h => absurd h List.not_mem_nil, fun _ h => absurd h List.not_mem_nil, fun _ h => absurd h List.not_mem_nil, fun _ h => absurd h List.not_mem_nil⟩
theorem fk2_9 : okF RX2 (9, 2, 0, 2) := ⟨⟨RX2, TX2, 4, rfl, by decide, inG2, tb1 31 rfl rfl⟩, fun h => absurd h (by decide), fun h => absurd h (by decide)⟩
theorem fk2_15 : okF RX2 (15, 2, 1, 0) := ⟨⟨RX2, TX2, 4, rfl, by decide, inG2, tb1 32 rfl rfl⟩, fun _ => ⟨RX2, TX2, 4, rfl, by decide, inG2, tb1 32 rfl rfl, rfl, by decide +kernel, ⟨tyX2, tyX2_ok⟩, nmX2⟩, fun h => absurd h (by decide)⟩
theorem fk2_19 : okF RX2 (19, 2, 2, 0) := ⟨⟨RX2, TX2, 4, rfl, by decide, inG2, tb1 36 rfl rfl⟩, fun _ => ⟨RX2, TX2, 4, rfl, by decide, inG2, tb1 36 rfl rfl, rfl, by decide +kernel, ⟨tyX2, tyX2_ok⟩, nmX2⟩, fun h => absurd h (by decide)⟩
theorem fk2_22 : okF RX2 (22, 2, 3, 0) := ⟨⟨RX2, TX2, 4, rfl, by decide, inG2, tb1 41 rfl rfl⟩, fun _ => ⟨RX2, TX2, 4, rfl, by decide, inG2, tb1 41 rfl rfl, rfl, by decide +kernel, ⟨tyX2, tyX2_ok⟩, nmX2⟩, fun h => absurd h (by decide)⟩
theorem ik2_25 : okIv RX2 (25, 3, 5, mX0_below) := ⟨fun h => absurd h (by decide), fun h => absurd h (by decide), fun h => absurd h (by decide), fun _ => ⟨tb2 117 rfl rfl, tb2 119 rfl rfl, tb2 118 rfl rfl, tb1 16 rfl rfl⟩⟩
theorem ik2_31 : okIv RX2 (31, 0, 1, mX2_hasRow) := ⟨fun _ => ⟨tb2 228 rfl rfl, omX2_hasRow⟩, fun h => absurd h (by decide), fun h => absurd h (by decide), fun h => absurd h (by decide)⟩
theorem ik2_35 : okIv RX2 (35, 0, 2, mX2_placeOf) := ⟨fun _ => ⟨tb2 161 rfl rfl, omX2_placeOf⟩, fun h => absurd h (by decide), fun h => absurd h (by decide), fun h => absurd h (by decide)⟩
theorem ik2_39 : okIv RX2 (39, 0, 2, mX2_colourAt) := ⟨fun _ => ⟨tb2 216 rfl rfl, omX2_colourAt⟩, fun h => absurd h (by decide), fun h => absurd h (by decide), fun h => absurd h (by decide)⟩
theorem ik2_42 : okIv RX2 (42, 0, 2, mX2_manyIn) := ⟨fun _ => ⟨tb2 212 rfl rfl, omX2_manyIn⟩, fun h => absurd h (by decide), fun h => absurd h (by decide), fun h => absurd h (by decide)⟩
theorem ik2_45 : okIv RX2 (45, 0, 2, mX2_readAt) := ⟨fun _ => ⟨tb2 157 rfl rfl, omX2_readAt⟩, fun h => absurd h (by decide), fun h => absurd h (by decide), fun h => absurd h (by decide)⟩
theorem ik2_48 : okIv RX2 (48, 0, 3, mX2_sameLine) := ⟨fun _ => ⟨tb2 153 rfl rfl, omX2_sameLine⟩, fun h => absurd h (by decide), fun h => absurd h (by decide), fun h => absurd h (by decide)⟩
theorem ik2_52 : okIv RX2 (52, 0, 2, mX2_likeAhead) := ⟨fun _ => ⟨tb2 195 rfl rfl, omX2_likeAhead⟩, fun h => absurd h (by decide), fun h => absurd h (by decide), fun h => absurd h (by decide)⟩
theorem ik2_56 : okIv RX2 (56, 0, 1, mX2_runsOf) := ⟨fun _ => ⟨tb2 200 rfl rfl, omX2_runsOf⟩, fun h => absurd h (by decide), fun h => absurd h (by decide), fun h => absurd h (by decide)⟩
theorem ik2_60 : okIv RX2 (60, 0, 2, mX2_comesAgain) := ⟨fun _ => ⟨tb2 183 rfl rfl, omX2_comesAgain⟩, fun h => absurd h (by decide), fun h => absurd h (by decide), fun h => absurd h (by decide)⟩
theorem ik2_64 : okIv RX2 (64, 0, 0, mX2_size) := ⟨fun _ => ⟨tb3 99 rfl rfl, omX2_size⟩, fun h => absurd h (by decide), fun h => absurd h (by decide), fun h => absurd h (by decide)⟩
theorem ik2_68 : okIv RX2 (68, 0, 1, mX2_rowOfPlan) := ⟨fun _ => ⟨tb3 100 rfl rfl, omX2_rowOfPlan⟩, fun h => absurd h (by decide), fun h => absurd h (by decide), fun h => absurd h (by decide)⟩
theorem ik2_71 : okIv RX2 (71, 0, 1, mX2_placeOfPlan) := ⟨fun _ => ⟨tb3 104 rfl rfl, omX2_placeOfPlan⟩, fun h => absurd h (by decide), fun h => absurd h (by decide), fun h => absurd h (by decide)⟩
theorem ik2_74 : okIv RX2 (74, 0, 1, mX2_takeRow) := ⟨fun _ => ⟨tb3 77 rfl rfl, omX2_takeRow⟩, fun h => absurd h (by decide), fun h => absurd h (by decide), fun h => absurd h (by decide)⟩
theorem ik2_78 : okIv RX2 (78, 0, 3, mX2_put) := ⟨fun _ => ⟨tb3 78 rfl rfl, omX2_put⟩, fun h => absurd h (by decide), fun h => absurd h (by decide), fun h => absurd h (by decide)⟩
theorem ik2_82 : okIv RX2 (82, 0, 2, mX2_copyRow) := ⟨fun _ => ⟨tb3 157 rfl rfl, omX2_copyRow⟩, fun h => absurd h (by decide), fun h => absurd h (by decide), fun h => absurd h (by decide)⟩
def tX2 : CT := ([(9, 2, 0, 2), (15, 2, 1, 0), (19, 2, 2, 0), (22, 2, 3, 0)], [(25, 3, 5, mX0_below), (31, 0, 1, mX2_hasRow), (35, 0, 2, mX2_placeOf), (39, 0, 2, mX2_colourAt), (42, 0, 2, mX2_manyIn), (45, 0, 2, mX2_readAt), (48, 0, 3, mX2_sameLine), (52, 0, 2, mX2_likeAhead), (56, 0, 1, mX2_runsOf), (60, 0, 2, mX2_comesAgain), (64, 0, 0, mX2_size), (68, 0, 1, mX2_rowOfPlan), (71, 0, 1, mX2_placeOfPlan), (74, 0, 1, mX2_takeRow), (78, 0, 3, mX2_put), (82, 0, 2, mX2_copyRow)], [], [], [])
theorem okX2 : okCT RX2 tX2 := ⟨List.forall_mem_cons.mpr ⟨fk2_9, List.forall_mem_cons.mpr ⟨fk2_15, List.forall_mem_cons.mpr ⟨fk2_19, List.forall_mem_cons.mpr ⟨fk2_22, fun _ h => absurd h List.not_mem_nil⟩⟩⟩⟩, List.forall_mem_cons.mpr ⟨ik2_25, List.forall_mem_cons.mpr ⟨ik2_31, List.forall_mem_cons.mpr ⟨ik2_35, List.forall_mem_cons.mpr ⟨ik2_39, List.forall_mem_cons.mpr ⟨ik2_42, List.forall_mem_cons.mpr ⟨ik2_45, List.forall_mem_cons.mpr ⟨ik2_48, List.forall_mem_cons.mpr ⟨ik2_52, List.forall_mem_cons.mpr ⟨ik2_56, List.forall_mem_cons.mpr ⟨ik2_60, List.forall_mem_cons.mpr ⟨ik2_64, List.forall_mem_cons.mpr ⟨ik2_68, List.forall_mem_cons.mpr ⟨ik2_71, List.forall_mem_cons.mpr ⟨ik2_74, List.forall_mem_cons.mpr ⟨ik2_78, List.forall_mem_cons.mpr ⟨ik2_82, fun _ h => absurd h List.not_mem_nil⟩⟩⟩⟩⟩⟩⟩⟩⟩⟩⟩⟩⟩⟩⟩⟩, fun _ h => absurd h List.not_mem_nil, fun _ h => absurd h List.not_mem_nil, fun _ h => absurd h List.not_mem_nil⟩
theorem fk3_12 : okF RX3 (12, 3, 0, 2) := ⟨⟨RX3, TX3, 5, rfl, by decide, inG3, tb1 92 rfl rfl⟩, fun h => absurd h (by decide), fun h => absurd h (by decide)⟩
theorem fk3_18 : okF RX3 (18, 3, 1, 0) := ⟨⟨RX3, TX3, 5, rfl, by decide, inG3, tb1 94 rfl rfl⟩, fun _ => ⟨RX3, TX3, 5, rfl, by decide, inG3, tb1 94 rfl rfl, rfl, by decide +kernel, ⟨tyX3, tyX3_ok⟩, nmX3⟩, fun h => absurd h (by decide)⟩
theorem fk3_22 : okF RX3 (22, 3, 2, 0) := ⟨⟨RX3, TX3, 5, rfl, by decide, inG3, tb1 96 rfl rfl⟩, fun _ => ⟨RX3, TX3, 5, rfl, by decide, inG3, tb1 96 rfl rfl, rfl, by decide +kernel, ⟨tyX3, tyX3_ok⟩, nmX3⟩, fun h => absurd h (by decide)⟩
theorem fk3_25 : okF RX3 (25, 3, 3, 0) := ⟨⟨RX3, TX3, 5, rfl, by decide, inG3, tb1 97 rfl rfl⟩, fun _ => ⟨RX3, TX3, 5, rfl, by decide, inG3, tb1 97 rfl rfl, rfl, by decide +kernel, ⟨tyX3, tyX3_ok⟩, nmX3⟩, fun h => absurd h (by decide)⟩
theorem fk3_28 : okF RX3 (28, 3, 4, 1) := ⟨⟨RX3, TX3, 5, rfl, by decide, inG3, tb1 98 rfl rfl⟩, fun h => absurd h (by decide), fun _ => ⟨RX3, TX3, 5, rfl, by decide, inG3, tb1 98 rfl rfl, rfl, by decide +kernel, ⟨tyX3, tyX3_ok⟩, nmX3⟩⟩
theorem fk3_43 : okF RX3 (43, 7, 1, 0) := ⟨⟨RX7, TX7, 2, rfl, by decide, inG7, tb1 78 rfl rfl⟩, fun _ => ⟨RX7, TX7, 2, rfl, by decide, inG7, tb1 78 rfl rfl, rfl, by decide +kernel, ⟨tyX7, tyX7_ok⟩, nmX7⟩, fun h => absurd h (by decide)⟩
theorem fk3_48 : okF RX3 (48, 7, 0, 2) := ⟨⟨RX7, TX7, 2, rfl, by decide, inG7, tb1 75 rfl rfl⟩, fun h => absurd h (by decide), fun h => absurd h (by decide)⟩
theorem fk3_74 : okF RX3 (74, 2, 1, 0) := ⟨⟨RX2, TX2, 4, rfl, by decide, inG2, tb1 34 rfl rfl⟩, fun _ => ⟨RX2, TX2, 4, rfl, by decide, inG2, tb1 34 rfl rfl, rfl, by decide +kernel, ⟨tyX2, tyX2_ok⟩, nmX2⟩, fun h => absurd h (by decide)⟩
theorem fk3_85 : okF RX3 (85, 2, 2, 0) := ⟨⟨RX2, TX2, 4, rfl, by decide, inG2, tb1 39 rfl rfl⟩, fun _ => ⟨RX2, TX2, 4, rfl, by decide, inG2, tb1 39 rfl rfl, rfl, by decide +kernel, ⟨tyX2, tyX2_ok⟩, nmX2⟩, fun h => absurd h (by decide)⟩
theorem fk3_95 : okF RX3 (95, 2, 3, 0) := ⟨⟨RX2, TX2, 4, rfl, by decide, inG2, tb1 42 rfl rfl⟩, fun _ => ⟨RX2, TX2, 4, rfl, by decide, inG2, tb1 42 rfl rfl, rfl, by decide +kernel, ⟨tyX2, tyX2_ok⟩, nmX2⟩, fun h => absurd h (by decide)⟩
theorem ik3_106 : okIv RX3 (106, 2, 1, mX9_isColour) := ⟨fun h => absurd h (by decide), fun h => absurd h (by decide), fun _ => ⟨⟨Or.inl ⟨rfl, rfl⟩, rfl⟩, omX9_isColour⟩, fun h => absurd h (by decide)⟩
theorem ik3_32 : okIv RX3 (32, 0, 0, mX2_clear) := ⟨fun _ => ⟨tb2 12 rfl rfl, omX2_clear⟩, fun h => absurd h (by decide), fun h => absurd h (by decide), fun h => absurd h (by decide)⟩
theorem ik3_35 : okIv RX3 (35, 0, 1, mX3_readToken) := ⟨fun _ => ⟨tb2 16 rfl rfl, omX3_readToken⟩, fun h => absurd h (by decide), fun h => absurd h (by decide), fun h => absurd h (by decide)⟩
theorem ik3_39 : okIv RX3 (39, 0, 1, mX3_readLine) := ⟨fun _ => ⟨tb2 24 rfl rfl, omX3_readLine⟩, fun h => absurd h (by decide), fun h => absurd h (by decide), fun h => absurd h (by decide)⟩
theorem ik3_52 : okIv RX3 (52, 0, 1, mX7_isLetter) := ⟨fun _ => ⟨tb2 20 rfl rfl, omX7_isLetter⟩, fun h => absurd h (by decide), fun h => absurd h (by decide), fun h => absurd h (by decide)⟩
theorem ik3_56 : okIv RX3 (56, 0, 0, mX3_unfit) := ⟨fun _ => ⟨tb2 28 rfl rfl, omX3_unfit⟩, fun h => absurd h (by decide), fun h => absurd h (by decide), fun h => absurd h (by decide)⟩
theorem ik3_62 : okIv RX3 (62, 0, 2, mX3_isName) := ⟨fun _ => ⟨tb2 33 rfl rfl, omX3_isName⟩, fun h => absurd h (by decide), fun h => absurd h (by decide), fun h => absurd h (by decide)⟩
theorem ik3_66 : okIv RX3 (66, 0, 1, mX3_readRow) := ⟨fun _ => ⟨tb2 85 rfl rfl, omX3_readRow⟩, fun h => absurd h (by decide), fun h => absurd h (by decide), fun h => absurd h (by decide)⟩
theorem ik3_71 : okIv RX3 (71, 0, 1, mX3_readFro) := ⟨fun _ => ⟨tb2 109 rfl rfl, omX3_readFro⟩, fun h => absurd h (by decide), fun h => absurd h (by decide), fun h => absurd h (by decide)⟩
theorem ik3_77 : okIv RX3 (77, 0, 1, mX3_isBeads) := ⟨fun _ => ⟨tb2 89 rfl rfl, omX3_isBeads⟩, fun h => absurd h (by decide), fun h => absurd h (by decide), fun h => absurd h (by decide)⟩
theorem ik3_81 : okIv RX3 (81, 0, 1, mX2_takeRow) := ⟨fun _ => ⟨tb2 96 rfl rfl, omX2_takeRow⟩, fun h => absurd h (by decide), fun h => absurd h (by decide), fun h => absurd h (by decide)⟩
theorem ik3_88 : okIv RX3 (88, 0, 3, mX2_put) := ⟨fun _ => ⟨tb2 100 rfl rfl, omX2_put⟩, fun h => absurd h (by decide), fun h => absurd h (by decide), fun h => absurd h (by decide)⟩
theorem ik3_92 : okIv RX3 (92, 0, 1, mX3_readSign) := ⟨fun _ => ⟨tb2 104 rfl rfl, omX3_readSign⟩, fun h => absurd h (by decide), fun h => absurd h (by decide), fun h => absurd h (by decide)⟩
def tX3 : CT := ([(12, 3, 0, 2), (18, 3, 1, 0), (22, 3, 2, 0), (25, 3, 3, 0), (28, 3, 4, 1), (43, 7, 1, 0), (48, 7, 0, 2), (74, 2, 1, 0), (85, 2, 2, 0), (95, 2, 3, 0)], [(106, 2, 1, mX9_isColour), (32, 0, 0, mX2_clear), (35, 0, 1, mX3_readToken), (39, 0, 1, mX3_readLine), (52, 0, 1, mX7_isLetter), (56, 0, 0, mX3_unfit), (62, 0, 2, mX3_isName), (66, 0, 1, mX3_readRow), (71, 0, 1, mX3_readFro), (77, 0, 1, mX3_isBeads), (81, 0, 1, mX2_takeRow), (88, 0, 3, mX2_put), (92, 0, 1, mX3_readSign)], [], [], [(60, 0), (69, 1)])
theorem okX3 : okCT RX3 tX3 := ⟨List.forall_mem_cons.mpr ⟨fk3_12, List.forall_mem_cons.mpr ⟨fk3_18, List.forall_mem_cons.mpr ⟨fk3_22, List.forall_mem_cons.mpr ⟨fk3_25, List.forall_mem_cons.mpr ⟨fk3_28, List.forall_mem_cons.mpr ⟨fk3_43, List.forall_mem_cons.mpr ⟨fk3_48, List.forall_mem_cons.mpr ⟨fk3_74, List.forall_mem_cons.mpr ⟨fk3_85, List.forall_mem_cons.mpr ⟨fk3_95, fun _ h => absurd h List.not_mem_nil⟩⟩⟩⟩⟩⟩⟩⟩⟩⟩, List.forall_mem_cons.mpr ⟨ik3_106, List.forall_mem_cons.mpr ⟨ik3_32, List.forall_mem_cons.mpr ⟨ik3_35, List.forall_mem_cons.mpr ⟨ik3_39, List.forall_mem_cons.mpr ⟨ik3_52, List.forall_mem_cons.mpr ⟨ik3_56, List.forall_mem_cons.mpr ⟨ik3_62, List.forall_mem_cons.mpr ⟨ik3_66, List.forall_mem_cons.mpr ⟨ik3_71, List.forall_mem_cons.mpr ⟨ik3_77, List.forall_mem_cons.mpr ⟨ik3_81, List.forall_mem_cons.mpr ⟨ik3_88, List.forall_mem_cons.mpr ⟨ik3_92, fun _ h => absurd h List.not_mem_nil⟩⟩⟩⟩⟩⟩⟩⟩⟩⟩⟩⟩⟩, fun _ h => absurd h List.not_mem_nil, fun _ h => absurd h List.not_mem_nil, List.forall_mem_cons.mpr ⟨⟨rfl, Or.inl rfl⟩, List.forall_mem_cons.mpr ⟨⟨rfl, Or.inr rfl⟩, fun _ h => absurd h List.not_mem_nil⟩⟩⟩
theorem fk4_9 : okF RX4 (9, 4, 0, 2) := ⟨⟨RX4, TX4, 3, rfl, by decide, inG4, tb1 185 rfl rfl⟩, fun h => absurd h (by decide), fun h => absurd h (by decide)⟩
theorem fk4_15 : okF RX4 (15, 4, 1, 0) := ⟨⟨RX4, TX4, 3, rfl, by decide, inG4, tb1 187 rfl rfl⟩, fun _ => ⟨RX4, TX4, 3, rfl, by decide, inG4, tb1 187 rfl rfl, rfl, by decide +kernel, ⟨tyX4, tyX4_ok⟩, nmX4⟩, fun h => absurd h (by decide)⟩
theorem fk4_19 : okF RX4 (19, 4, 2, 0) := ⟨⟨RX4, TX4, 3, rfl, by decide, inG4, tb1 189 rfl rfl⟩, fun _ => ⟨RX4, TX4, 3, rfl, by decide, inG4, tb1 189 rfl rfl, rfl, by decide +kernel, ⟨tyX4, tyX4_ok⟩, nmX4⟩, fun h => absurd h (by decide)⟩
def tX4 : CT := ([(9, 4, 0, 2), (15, 4, 1, 0), (19, 4, 2, 0)], [], [], [], [])
theorem okX4 : okCT RX4 tX4 := ⟨List.forall_mem_cons.mpr ⟨fk4_9, List.forall_mem_cons.mpr ⟨fk4_15, List.forall_mem_cons.mpr ⟨fk4_19, fun _ h => absurd h List.not_mem_nil⟩⟩⟩, fun _ h => absurd h List.not_mem_nil, fun _ h => absurd h List.not_mem_nil, fun _ h => absurd h List.not_mem_nil, fun _ h => absurd h List.not_mem_nil⟩
theorem fk5_9 : okF RX5 (9, 5, 0, 2) := ⟨⟨RX5, TX5, 3, rfl, by decide, inG5, tb1 131 rfl rfl⟩, fun h => absurd h (by decide), fun h => absurd h (by decide)⟩
theorem fk5_15 : okF RX5 (15, 5, 1, 0) := ⟨⟨RX5, TX5, 3, rfl, by decide, inG5, tb1 133 rfl rfl⟩, fun _ => ⟨RX5, TX5, 3, rfl, by decide, inG5, tb1 133 rfl rfl, rfl, by decide +kernel, ⟨tyX5, tyX5_ok⟩, nmX5⟩, fun h => absurd h (by decide)⟩
theorem fk5_19 : okF RX5 (19, 5, 2, 2) := ⟨⟨RX5, TX5, 3, rfl, by decide, inG5, tb1 135 rfl rfl⟩, fun h => absurd h (by decide), fun h => absurd h (by decide)⟩
theorem fk5_47 : okF RX5 (47, 2, 2, 0) := ⟨⟨RX2, TX2, 4, rfl, by decide, inG2, tb1 38 rfl rfl⟩, fun _ => ⟨RX2, TX2, 4, rfl, by decide, inG2, tb1 38 rfl rfl, rfl, by decide +kernel, ⟨tyX2, tyX2_ok⟩, nmX2⟩, fun h => absurd h (by decide)⟩
theorem fk5_57 : okF RX5 (57, 2, 1, 0) := ⟨⟨RX2, TX2, 4, rfl, by decide, inG2, tb1 35 rfl rfl⟩, fun _ => ⟨RX2, TX2, 4, rfl, by decide, inG2, tb1 35 rfl rfl, rfl, by decide +kernel, ⟨tyX2, tyX2_ok⟩, nmX2⟩, fun h => absurd h (by decide)⟩
theorem ik5_37 : okIv RX5 (37, 1, 2, mX5_fitting) := ⟨fun h => absurd h (by decide), fun _ => ⟨tb3 62 rfl rfl, omX5_fitting, rfl⟩, fun h => absurd h (by decide), fun h => absurd h (by decide)⟩
theorem ik5_54 : okIv RX5 (54, 2, 1, mX9_isColour) := ⟨fun h => absurd h (by decide), fun h => absurd h (by decide), fun _ => ⟨⟨Or.inr ⟨rfl, rfl⟩, rfl⟩, omX9_isColour⟩, fun h => absurd h (by decide)⟩
theorem ik5_22 : okIv RX5 (22, 0, 2, mX5_speakLike) := ⟨fun _ => ⟨tb3 43 rfl rfl, omX5_speakLike⟩, fun h => absurd h (by decide), fun h => absurd h (by decide), fun h => absurd h (by decide)⟩
theorem ik5_26 : okIv RX5 (26, 0, 1, mX5_speakMirror) := ⟨fun _ => ⟨tb3 49 rfl rfl, omX5_speakMirror⟩, fun h => absurd h (by decide), fun h => absurd h (by decide), fun h => absurd h (by decide)⟩
theorem ik5_30 : okIv RX5 (30, 0, 1, mX5_speakTimes) := ⟨fun _ => ⟨tb3 58 rfl rfl, omX5_speakTimes⟩, fun h => absurd h (by decide), fun h => absurd h (by decide), fun h => absurd h (by decide)⟩
theorem ik5_33 : okIv RX5 (33, 0, 1, mX5_speakRuns) := ⟨fun _ => ⟨tb3 53 rfl rfl, omX5_speakRuns⟩, fun h => absurd h (by decide), fun h => absurd h (by decide), fun h => absurd h (by decide)⟩
theorem ik5_41 : okIv RX5 (41, 0, 1, mX2_hasRow) := ⟨fun _ => ⟨tb3 47 rfl rfl, omX2_hasRow⟩, fun h => absurd h (by decide), fun h => absurd h (by decide), fun h => absurd h (by decide)⟩
theorem ik5_50 : okIv RX5 (50, 0, 2, mX2_readAt) := ⟨fun _ => ⟨tb3 48 rfl rfl, omX2_readAt⟩, fun h => absurd h (by decide), fun h => absurd h (by decide), fun h => absurd h (by decide)⟩
def tX5 : CT := ([(9, 5, 0, 2), (15, 5, 1, 0), (19, 5, 2, 2), (47, 2, 2, 0), (57, 2, 1, 0)], [(37, 1, 2, mX5_fitting), (54, 2, 1, mX9_isColour), (22, 0, 2, mX5_speakLike), (26, 0, 1, mX5_speakMirror), (30, 0, 1, mX5_speakTimes), (33, 0, 1, mX5_speakRuns), (41, 0, 1, mX2_hasRow), (50, 0, 2, mX2_readAt)], [], [], [])
theorem okX5 : okCT RX5 tX5 := ⟨List.forall_mem_cons.mpr ⟨fk5_9, List.forall_mem_cons.mpr ⟨fk5_15, List.forall_mem_cons.mpr ⟨fk5_19, List.forall_mem_cons.mpr ⟨fk5_47, List.forall_mem_cons.mpr ⟨fk5_57, fun _ h => absurd h List.not_mem_nil⟩⟩⟩⟩⟩, List.forall_mem_cons.mpr ⟨ik5_37, List.forall_mem_cons.mpr ⟨ik5_54, List.forall_mem_cons.mpr ⟨ik5_22, List.forall_mem_cons.mpr ⟨ik5_26, List.forall_mem_cons.mpr ⟨ik5_30, List.forall_mem_cons.mpr ⟨ik5_33, List.forall_mem_cons.mpr ⟨ik5_41, List.forall_mem_cons.mpr ⟨ik5_50, fun _ h => absurd h List.not_mem_nil⟩⟩⟩⟩⟩⟩⟩⟩, fun _ h => absurd h List.not_mem_nil, fun _ h => absurd h List.not_mem_nil, fun _ h => absurd h List.not_mem_nil⟩
theorem fk6_9 : okF RX6 (9, 6, 0, 2) := ⟨⟨RX6, TX6, 2, rfl, by decide, inG6, tb1 60 rfl rfl⟩, fun h => absurd h (by decide), fun h => absurd h (by decide)⟩
theorem fk6_15 : okF RX6 (15, 6, 1, 0) := ⟨⟨RX6, TX6, 2, rfl, by decide, inG6, tb1 61 rfl rfl⟩, fun _ => ⟨RX6, TX6, 2, rfl, by decide, inG6, tb1 61 rfl rfl, rfl, by decide +kernel, ⟨tyX6, tyX6_ok⟩, nmX6⟩, fun h => absurd h (by decide)⟩
theorem ik6_19 : okIv RX6 (19, 3, 5, mX0_below) := ⟨fun h => absurd h (by decide), fun h => absurd h (by decide), fun h => absurd h (by decide), fun _ => ⟨tb3 203 rfl rfl, tb2 119 rfl rfl, tb2 118 rfl rfl, tb1 16 rfl rfl⟩⟩
theorem ik6_25 : okIv RX6 (25, 0, 1, mX2_planAt) := ⟨fun _ => ⟨tb3 116 rfl rfl, omX2_planAt⟩, fun h => absurd h (by decide), fun h => absurd h (by decide), fun h => absurd h (by decide)⟩
theorem ik6_31 : okIv RX6 (31, 0, 3, mX6_asTold) := ⟨fun _ => ⟨tb3 123 rfl rfl, omX6_asTold⟩, fun h => absurd h (by decide), fun h => absurd h (by decide), fun h => absurd h (by decide)⟩
def tX6 : CT := ([(9, 6, 0, 2), (15, 6, 1, 0)], [(19, 3, 5, mX0_below), (25, 0, 1, mX2_planAt), (31, 0, 3, mX6_asTold)], [], [], [])
theorem okX6 : okCT RX6 tX6 := ⟨List.forall_mem_cons.mpr ⟨fk6_9, List.forall_mem_cons.mpr ⟨fk6_15, fun _ h => absurd h List.not_mem_nil⟩⟩, List.forall_mem_cons.mpr ⟨ik6_19, List.forall_mem_cons.mpr ⟨ik6_25, List.forall_mem_cons.mpr ⟨ik6_31, fun _ h => absurd h List.not_mem_nil⟩⟩⟩, fun _ h => absurd h List.not_mem_nil, fun _ h => absurd h List.not_mem_nil, fun _ h => absurd h List.not_mem_nil⟩
theorem fk7_9 : okF RX7 (9, 7, 0, 2) := ⟨⟨RX7, TX7, 2, rfl, by decide, inG7, tb1 74 rfl rfl⟩, fun h => absurd h (by decide), fun h => absurd h (by decide)⟩
theorem fk7_15 : okF RX7 (15, 7, 1, 0) := ⟨⟨RX7, TX7, 2, rfl, by decide, inG7, tb1 76 rfl rfl⟩, fun _ => ⟨RX7, TX7, 2, rfl, by decide, inG7, tb1 76 rfl rfl, rfl, by decide +kernel, ⟨tyX7, tyX7_ok⟩, nmX7⟩, fun h => absurd h (by decide)⟩
def tX7 : CT := ([(9, 7, 0, 2), (15, 7, 1, 0)], [], [], [], [])
theorem okX7 : okCT RX7 tX7 := ⟨List.forall_mem_cons.mpr ⟨fk7_9, List.forall_mem_cons.mpr ⟨fk7_15, fun _ h => absurd h List.not_mem_nil⟩⟩, fun _ h => absurd h List.not_mem_nil, fun _ h => absurd h List.not_mem_nil, fun _ h => absurd h List.not_mem_nil, fun _ h => absurd h List.not_mem_nil⟩
theorem fk8_9 : okF RX8 (9, 8, 0, 2) := ⟨⟨RX8, TX8, 2, rfl, by decide, inG8, tb1 116 rfl rfl⟩, fun h => absurd h (by decide), fun h => absurd h (by decide)⟩
theorem fk8_15 : okF RX8 (15, 8, 1, 0) := ⟨⟨RX8, TX8, 2, rfl, by decide, inG8, tb1 118 rfl rfl⟩, fun _ => ⟨RX8, TX8, 2, rfl, by decide, inG8, tb1 118 rfl rfl, rfl, by decide +kernel, ⟨tyX8, tyX8_ok⟩, nmX8⟩, fun h => absurd h (by decide)⟩
theorem fk8_47 : okF RX8 (47, 2, 2, 0) := ⟨⟨RX2, TX2, 4, rfl, by decide, inG2, tb1 37 rfl rfl⟩, fun _ => ⟨RX2, TX2, 4, rfl, by decide, inG2, tb1 37 rfl rfl, rfl, by decide +kernel, ⟨tyX2, tyX2_ok⟩, nmX2⟩, fun h => absurd h (by decide)⟩
theorem ik8_19 : okIv RX8 (19, 0, 3, mX8_tellBy) := ⟨fun _ => ⟨tb2 141 rfl rfl, omX8_tellBy⟩, fun h => absurd h (by decide), fun h => absurd h (by decide), fun h => absurd h (by decide)⟩
theorem ik8_23 : okIv RX8 (23, 0, 1, mX8_put) := ⟨fun _ => ⟨tb2 145 rfl rfl, omX8_put⟩, fun h => absurd h (by decide), fun h => absurd h (by decide), fun h => absurd h (by decide)⟩
theorem ik8_27 : okIv RX8 (27, 0, 2, mX2_likeAhead) := ⟨fun _ => ⟨tb2 149 rfl rfl, omX2_likeAhead⟩, fun h => absurd h (by decide), fun h => absurd h (by decide), fun h => absurd h (by decide)⟩
theorem ik8_33 : okIv RX8 (33, 0, 1, mX8_tellLike) := ⟨fun _ => ⟨tb2 165 rfl rfl, omX8_tellLike⟩, fun h => absurd h (by decide), fun h => absurd h (by decide), fun h => absurd h (by decide)⟩
theorem ik8_37 : okIv RX8 (37, 0, 2, mX8_tellMirror) := ⟨fun _ => ⟨tb2 169 rfl rfl, omX8_tellMirror⟩, fun h => absurd h (by decide), fun h => absurd h (by decide), fun h => absurd h (by decide)⟩
theorem ik8_41 : okIv RX8 (41, 0, 1, mX2_partOf) := ⟨fun _ => ⟨tb2 179 rfl rfl, omX2_partOf⟩, fun h => absurd h (by decide), fun h => absurd h (by decide), fun h => absurd h (by decide)⟩
theorem ik8_44 : okIv RX8 (44, 0, 3, mX8_tellTimes) := ⟨fun _ => ⟨tb2 187 rfl rfl, omX8_tellTimes⟩, fun h => absurd h (by decide), fun h => absurd h (by decide), fun h => absurd h (by decide)⟩
theorem ik8_50 : okIv RX8 (50, 0, 3, mX8_tellRuns) := ⟨fun _ => ⟨tb2 174 rfl rfl, omX8_tellRuns⟩, fun h => absurd h (by decide), fun h => absurd h (by decide), fun h => absurd h (by decide)⟩
theorem ik8_53 : okIv RX8 (53, 0, 3, mX2_sameLine) := ⟨fun _ => ⟨tb2 173 rfl rfl, omX2_sameLine⟩, fun h => absurd h (by decide), fun h => absurd h (by decide), fun h => absurd h (by decide)⟩
theorem ik8_57 : okIv RX8 (57, 0, 2, mX2_readAt) := ⟨fun _ => ⟨tb2 178 rfl rfl, omX2_readAt⟩, fun h => absurd h (by decide), fun h => absurd h (by decide), fun h => absurd h (by decide)⟩
def tX8 : CT := ([(9, 8, 0, 2), (15, 8, 1, 0), (47, 2, 2, 0)], [(19, 0, 3, mX8_tellBy), (23, 0, 1, mX8_put), (27, 0, 2, mX2_likeAhead), (33, 0, 1, mX8_tellLike), (37, 0, 2, mX8_tellMirror), (41, 0, 1, mX2_partOf), (44, 0, 3, mX8_tellTimes), (50, 0, 3, mX8_tellRuns), (53, 0, 3, mX2_sameLine), (57, 0, 2, mX2_readAt)], [], [], [])
theorem okX8 : okCT RX8 tX8 := ⟨List.forall_mem_cons.mpr ⟨fk8_9, List.forall_mem_cons.mpr ⟨fk8_15, List.forall_mem_cons.mpr ⟨fk8_47, fun _ h => absurd h List.not_mem_nil⟩⟩⟩, List.forall_mem_cons.mpr ⟨ik8_19, List.forall_mem_cons.mpr ⟨ik8_23, List.forall_mem_cons.mpr ⟨ik8_27, List.forall_mem_cons.mpr ⟨ik8_33, List.forall_mem_cons.mpr ⟨ik8_37, List.forall_mem_cons.mpr ⟨ik8_41, List.forall_mem_cons.mpr ⟨ik8_44, List.forall_mem_cons.mpr ⟨ik8_50, List.forall_mem_cons.mpr ⟨ik8_53, List.forall_mem_cons.mpr ⟨ik8_57, fun _ h => absurd h List.not_mem_nil⟩⟩⟩⟩⟩⟩⟩⟩⟩⟩, fun _ h => absurd h List.not_mem_nil, fun _ h => absurd h List.not_mem_nil, fun _ h => absurd h List.not_mem_nil⟩
theorem fk9_12 : okF RX9 (12, 9, 0, 2) := ⟨⟨RX9, TX9, 11, rfl, by decide, inG9, tb1 198 rfl rfl⟩, fun h => absurd h (by decide), fun h => absurd h (by decide)⟩
theorem fk9_19 : okF RX9 (19, 9, 1, 2) := ⟨⟨RX9, TX9, 11, rfl, by decide, inG9, tb1 199 rfl rfl⟩, fun h => absurd h (by decide), fun h => absurd h (by decide)⟩
theorem fk9_26 : okF RX9 (26, 9, 2, 2) := ⟨⟨RX9, TX9, 11, rfl, by decide, inG9, tb1 200 rfl rfl⟩, fun h => absurd h (by decide), fun h => absurd h (by decide)⟩
theorem fk9_33 : okF RX9 (33, 9, 3, 2) := ⟨⟨RX9, TX9, 11, rfl, by decide, inG9, tb1 201 rfl rfl⟩, fun h => absurd h (by decide), fun h => absurd h (by decide)⟩
theorem fk9_40 : okF RX9 (40, 9, 4, 2) := ⟨⟨RX9, TX9, 11, rfl, by decide, inG9, tb1 202 rfl rfl⟩, fun h => absurd h (by decide), fun h => absurd h (by decide)⟩
theorem fk9_47 : okF RX9 (47, 9, 5, 2) := ⟨⟨RX9, TX9, 11, rfl, by decide, inG9, tb1 203 rfl rfl⟩, fun h => absurd h (by decide), fun h => absurd h (by decide)⟩
theorem fk9_54 : okF RX9 (54, 9, 6, 2) := ⟨⟨RX9, TX9, 11, rfl, by decide, inG9, tb1 204 rfl rfl⟩, fun h => absurd h (by decide), fun h => absurd h (by decide)⟩
theorem fk9_60 : okF RX9 (60, 9, 7, 2) := ⟨⟨RX9, TX9, 11, rfl, by decide, inG9, tb1 205 rfl rfl⟩, fun h => absurd h (by decide), fun h => absurd h (by decide)⟩
theorem fk9_66 : okF RX9 (66, 9, 8, 2) := ⟨⟨RX9, TX9, 11, rfl, by decide, inG9, tb1 206 rfl rfl⟩, fun h => absurd h (by decide), fun h => absurd h (by decide)⟩
theorem fk9_70 : okF RX9 (70, 9, 9, 0) := ⟨⟨RX9, TX9, 11, rfl, by decide, inG9, tb1 207 rfl rfl⟩, fun _ => ⟨RX9, TX9, 11, rfl, by decide, inG9, tb1 207 rfl rfl, rfl, by decide +kernel, ⟨tyX9, tyX9_ok⟩, nmX9⟩, fun h => absurd h (by decide)⟩
theorem fk9_74 : okF RX9 (74, 9, 10, 0) := ⟨⟨RX9, TX9, 11, rfl, by decide, inG9, tb1 208 rfl rfl⟩, fun _ => ⟨RX9, TX9, 11, rfl, by decide, inG9, tb1 208 rfl rfl, rfl, by decide +kernel, ⟨tyX9, tyX9_ok⟩, nmX9⟩, fun h => absurd h (by decide)⟩
theorem fk9_83 : okF RX9 (83, 7, 1, 0) := ⟨⟨RX7, TX7, 2, rfl, by decide, inG7, tb1 77 rfl rfl⟩, fun _ => ⟨RX7, TX7, 2, rfl, by decide, inG7, tb1 77 rfl rfl, rfl, by decide +kernel, ⟨tyX7, tyX7_ok⟩, nmX7⟩, fun h => absurd h (by decide)⟩
theorem fk9_90 : okF RX9 (90, 3, 1, 0) := ⟨⟨RX3, TX3, 5, rfl, by decide, inG3, tb1 95 rfl rfl⟩, fun _ => ⟨RX3, TX3, 5, rfl, by decide, inG3, tb1 95 rfl rfl, rfl, by decide +kernel, ⟨tyX3, tyX3_ok⟩, nmX3⟩, fun h => absurd h (by decide)⟩
theorem fk9_93 : okF RX9 (93, 3, 0, 2) := ⟨⟨RX3, TX3, 5, rfl, by decide, inG3, tb1 93 rfl rfl⟩, fun h => absurd h (by decide), fun h => absurd h (by decide)⟩
theorem fk9_100 : okF RX9 (100, 6, 1, 0) := ⟨⟨RX6, TX6, 2, rfl, by decide, inG6, tb1 62 rfl rfl⟩, fun _ => ⟨RX6, TX6, 2, rfl, by decide, inG6, tb1 62 rfl rfl, rfl, by decide +kernel, ⟨tyX6, tyX6_ok⟩, nmX6⟩, fun h => absurd h (by decide)⟩
theorem fk9_101 : okF RX9 (101, 1, 2, 1) := ⟨⟨RX1, TX1, 3, rfl, by decide, inG1, tb1 172 rfl rfl⟩, fun h => absurd h (by decide), fun _ => ⟨RX1, TX1, 3, rfl, by decide, inG1, tb1 172 rfl rfl, rfl, by decide +kernel, ⟨tyX1, tyX1_ok⟩, nmX1⟩⟩
theorem fk9_105 : okF RX9 (105, 2, 1, 0) := ⟨⟨RX2, TX2, 4, rfl, by decide, inG2, tb1 33 rfl rfl⟩, fun _ => ⟨RX2, TX2, 4, rfl, by decide, inG2, tb1 33 rfl rfl, rfl, by decide +kernel, ⟨tyX2, tyX2_ok⟩, nmX2⟩, fun h => absurd h (by decide)⟩
theorem fk9_108 : okF RX9 (108, 2, 2, 0) := ⟨⟨RX2, TX2, 4, rfl, by decide, inG2, tb1 40 rfl rfl⟩, fun _ => ⟨RX2, TX2, 4, rfl, by decide, inG2, tb1 40 rfl rfl, rfl, by decide +kernel, ⟨tyX2, tyX2_ok⟩, nmX2⟩, fun h => absurd h (by decide)⟩
theorem fk9_111 : okF RX9 (111, 2, 3, 0) := ⟨⟨RX2, TX2, 4, rfl, by decide, inG2, tb1 43 rfl rfl⟩, fun _ => ⟨RX2, TX2, 4, rfl, by decide, inG2, tb1 43 rfl rfl, rfl, by decide +kernel, ⟨tyX2, tyX2_ok⟩, nmX2⟩, fun h => absurd h (by decide)⟩
theorem fk9_130 : okF RX9 (130, 5, 1, 0) := ⟨⟨RX5, TX5, 3, rfl, by decide, inG5, tb1 134 rfl rfl⟩, fun _ => ⟨RX5, TX5, 3, rfl, by decide, inG5, tb1 134 rfl rfl, rfl, by decide +kernel, ⟨tyX5, tyX5_ok⟩, nmX5⟩, fun h => absurd h (by decide)⟩
theorem fk9_156 : okF RX9 (156, 8, 0, 2) := ⟨⟨RX8, TX8, 2, rfl, by decide, inG8, tb1 117 rfl rfl⟩, fun h => absurd h (by decide), fun h => absurd h (by decide)⟩
theorem fk9_176 : okF RX9 (176, 8, 1, 0) := ⟨⟨RX8, TX8, 2, rfl, by decide, inG8, tb1 119 rfl rfl⟩, fun _ => ⟨RX8, TX8, 2, rfl, by decide, inG8, tb1 119 rfl rfl, rfl, by decide +kernel, ⟨tyX8, tyX8_ok⟩, nmX8⟩, fun h => absurd h (by decide)⟩
theorem fk9_182 : okF RX9 (182, 5, 0, 2) := ⟨⟨RX5, TX5, 3, rfl, by decide, inG5, tb1 132 rfl rfl⟩, fun h => absurd h (by decide), fun h => absurd h (by decide)⟩
theorem fk9_236 : okF RX9 (236, 0, 0, 0) := ⟨⟨RX0, TX0, 1, rfl, by decide, inG0, tb1 150 rfl rfl⟩, fun _ => ⟨RX0, TX0, 1, rfl, by decide, inG0, tb1 150 rfl rfl, rfl, by decide +kernel, ⟨tyX0, tyX0_ok⟩, nmX0⟩, fun h => absurd h (by decide)⟩
theorem fk9_242 : okF RX9 (242, 1, 0, 2) := ⟨⟨RX1, TX1, 3, rfl, by decide, inG1, tb1 168 rfl rfl⟩, fun h => absurd h (by decide), fun h => absurd h (by decide)⟩
theorem fk9_243 : okF RX9 (243, 1, 1, 2) := ⟨⟨RX1, TX1, 3, rfl, by decide, inG1, tb1 170 rfl rfl⟩, fun h => absurd h (by decide), fun h => absurd h (by decide)⟩
theorem fk9_256 : okF RX9 (256, 4, 2, 0) := ⟨⟨RX4, TX4, 3, rfl, by decide, inG4, tb1 190 rfl rfl⟩, fun _ => ⟨RX4, TX4, 3, rfl, by decide, inG4, tb1 190 rfl rfl, rfl, by decide +kernel, ⟨tyX4, tyX4_ok⟩, nmX4⟩, fun h => absurd h (by decide)⟩
theorem fk9_264 : okF RX9 (264, 4, 0, 2) := ⟨⟨RX4, TX4, 3, rfl, by decide, inG4, tb1 186 rfl rfl⟩, fun h => absurd h (by decide), fun h => absurd h (by decide)⟩
theorem fk9_273 : okF RX9 (273, 4, 1, 0) := ⟨⟨RX4, TX4, 3, rfl, by decide, inG4, tb1 188 rfl rfl⟩, fun _ => ⟨RX4, TX4, 3, rfl, by decide, inG4, tb1 188 rfl rfl, rfl, by decide +kernel, ⟨tyX4, tyX4_ok⟩, nmX4⟩, fun h => absurd h (by decide)⟩
theorem ik9_139 : okIv RX9 (139, 1, 1, mX9_isColour) := ⟨fun h => absurd h (by decide), fun _ => ⟨tb2 237 rfl rfl, omX9_isColour, rfl⟩, fun h => absurd h (by decide), fun h => absurd h (by decide)⟩
theorem ik9_247 : okIv RX9 (247, 1, 1, mX9_isSheet) := ⟨fun h => absurd h (by decide), fun _ => ⟨tb3 212 rfl rfl, omX9_isSheet, rfl⟩, fun h => absurd h (by decide), fun h => absurd h (by decide)⟩
theorem ik9_250 : okIv RX9 (250, 1, 1, mX9_isLane) := ⟨fun h => absurd h (by decide), fun _ => ⟨tb3 215 rfl rfl, omX9_isLane, rfl⟩, fun h => absurd h (by decide), fun h => absurd h (by decide)⟩
theorem ik9_79 : okIv RX9 (79, 0, 1, mX7_take) := ⟨fun _ => ⟨tb1 236 rfl rfl, omX7_take⟩, fun h => absurd h (by decide), fun h => absurd h (by decide), fun h => absurd h (by decide)⟩
theorem ik9_86 : okIv RX9 (86, 0, 1, mX3_readAll) := ⟨fun _ => ⟨tb2 8 rfl rfl, omX3_readAll⟩, fun h => absurd h (by decide), fun h => absurd h (by decide), fun h => absurd h (by decide)⟩
theorem ik9_96 : okIv RX9 (96, 0, 1, mX2_become) := ⟨fun _ => ⟨tb2 113 rfl rfl, omX2_become⟩, fun h => absurd h (by decide), fun h => absurd h (by decide), fun h => absurd h (by decide)⟩
theorem ik9_114 : okIv RX9 (114, 0, 0, mX2_size) := ⟨fun _ => ⟨tb2 129 rfl rfl, omX2_size⟩, fun h => absurd h (by decide), fun h => absurd h (by decide), fun h => absurd h (by decide)⟩
theorem ik9_118 : okIv RX9 (118, 0, 0, mX9_wordsInAll) := ⟨fun _ => ⟨tb2 133 rfl rfl, omX9_wordsInAll⟩, fun h => absurd h (by decide), fun h => absurd h (by decide), fun h => absurd h (by decide)⟩
theorem ik9_121 : okIv RX9 (121, 0, 0, mX2_linesUnlike) := ⟨fun _ => ⟨tb2 191 rfl rfl, omX2_linesUnlike⟩, fun h => absurd h (by decide), fun h => absurd h (by decide), fun h => absurd h (by decide)⟩
theorem ik9_124 : okIv RX9 (124, 0, 0, mX2_runsInAll) := ⟨fun _ => ⟨tb2 196 rfl rfl, omX2_runsInAll⟩, fun h => absurd h (by decide), fun h => absurd h (by decide), fun h => absurd h (by decide)⟩
theorem ik9_127 : okIv RX9 (127, 0, 0, mX9_coloursInAll) := ⟨fun _ => ⟨tb2 204 rfl rfl, omX9_coloursInAll⟩, fun h => absurd h (by decide), fun h => absurd h (by decide), fun h => absurd h (by decide)⟩
theorem ik9_131 : okIv RX9 (131, 0, 2, mX2_hasBead) := ⟨fun _ => ⟨tb2 224 rfl rfl, omX2_hasBead⟩, fun h => absurd h (by decide), fun h => absurd h (by decide), fun h => absurd h (by decide)⟩
theorem ik9_135 : okIv RX9 (135, 0, 2, mX2_colourAt) := ⟨fun _ => ⟨tb2 232 rfl rfl, omX2_colourAt⟩, fun h => absurd h (by decide), fun h => absurd h (by decide), fun h => absurd h (by decide)⟩
theorem ik9_142 : okIv RX9 (142, 0, 1, mX2_manyInAll) := ⟨fun _ => ⟨tb2 208 rfl rfl, omX2_manyInAll⟩, fun h => absurd h (by decide), fun h => absurd h (by decide), fun h => absurd h (by decide)⟩
theorem ik9_146 : okIv RX9 (146, 0, 1, mX2_hasRow) := ⟨fun _ => ⟨tb2 238 rfl rfl, omX2_hasRow⟩, fun h => absurd h (by decide), fun h => absurd h (by decide), fun h => absurd h (by decide)⟩
theorem ik9_149 : okIv RX9 (149, 0, 2, mX2_manyIn) := ⟨fun _ => ⟨tb2 239 rfl rfl, omX2_manyIn⟩, fun h => absurd h (by decide), fun h => absurd h (by decide), fun h => absurd h (by decide)⟩
theorem ik9_152 : okIv RX9 (152, 0, 2, mX8_tellBest) := ⟨fun _ => ⟨tb2 137 rfl rfl, omX8_tellBest⟩, fun h => absurd h (by decide), fun h => absurd h (by decide), fun h => absurd h (by decide)⟩
theorem ik9_160 : okIv RX9 (160, 0, 1, mX2_runsOf) := ⟨fun _ => ⟨tb3 4 rfl rfl, omX2_runsOf⟩, fun h => absurd h (by decide), fun h => absurd h (by decide), fun h => absurd h (by decide)⟩
theorem ik9_163 : okIv RX9 (163, 0, 1, mX2_firstLike) := ⟨fun _ => ⟨tb3 5 rfl rfl, omX2_firstLike⟩, fun h => absurd h (by decide), fun h => absurd h (by decide), fun h => absurd h (by decide)⟩
theorem ik9_166 : okIv RX9 (166, 0, 1, mX2_manyLike) := ⟨fun _ => ⟨tb3 9 rfl rfl, omX2_manyLike⟩, fun h => absurd h (by decide), fun h => absurd h (by decide), fun h => absurd h (by decide)⟩
theorem ik9_169 : okIv RX9 (169, 0, 1, mX2_partOf) := ⟨fun _ => ⟨tb3 13 rfl rfl, omX2_partOf⟩, fun h => absurd h (by decide), fun h => absurd h (by decide), fun h => absurd h (by decide)⟩
theorem ik9_172 : okIv RX9 (172, 0, 3, mX8_tellBy) := ⟨fun _ => ⟨tb3 18 rfl rfl, omX8_tellBy⟩, fun h => absurd h (by decide), fun h => absurd h (by decide), fun h => absurd h (by decide)⟩
theorem ik9_177 : okIv RX9 (177, 0, 1, mX5_take) := ⟨fun _ => ⟨tb3 27 rfl rfl, omX5_take⟩, fun h => absurd h (by decide), fun h => absurd h (by decide), fun h => absurd h (by decide)⟩
theorem ik9_178 : okIv RX9 (178, 0, 1, mX5_speak) := ⟨fun _ => ⟨tb3 39 rfl rfl, omX5_speak⟩, fun h => absurd h (by decide), fun h => absurd h (by decide), fun h => absurd h (by decide)⟩
theorem ik9_185 : okIv RX9 (185, 0, 2, mX2_takeLine) := ⟨fun _ => ⟨tb3 73 rfl rfl, omX2_takeLine⟩, fun h => absurd h (by decide), fun h => absurd h (by decide), fun h => absurd h (by decide)⟩
theorem ik9_189 : okIv RX9 (189, 0, 1, mX6_take) := ⟨fun _ => ⟨tb3 83 rfl rfl, omX6_take⟩, fun h => absurd h (by decide), fun h => absurd h (by decide), fun h => absurd h (by decide)⟩
theorem ik9_192 : okIv RX9 (192, 0, 1, mX2_planAt) := ⟨fun _ => ⟨tb3 95 rfl rfl, omX2_planAt⟩, fun h => absurd h (by decide), fun h => absurd h (by decide), fun h => absurd h (by decide)⟩
theorem ik9_195 : okIv RX9 (195, 0, 1, mX6_firstWrong) := ⟨fun _ => ⟨tb3 112 rfl rfl, omX6_firstWrong⟩, fun h => absurd h (by decide), fun h => absurd h (by decide), fun h => absurd h (by decide)⟩
theorem ik9_198 : okIv RX9 (198, 0, 1, mX2_rowOfPlan) := ⟨fun _ => ⟨tb3 117 rfl rfl, omX2_rowOfPlan⟩, fun h => absurd h (by decide), fun h => absurd h (by decide), fun h => absurd h (by decide)⟩
theorem ik9_201 : okIv RX9 (201, 0, 1, mX2_placeOfPlan) := ⟨fun _ => ⟨tb3 118 rfl rfl, omX2_placeOfPlan⟩, fun h => absurd h (by decide), fun h => absurd h (by decide), fun h => absurd h (by decide)⟩
theorem ik9_204 : okIv RX9 (204, 0, 2, mX6_kindOf) := ⟨fun _ => ⟨tb3 119 rfl rfl, omX6_kindOf⟩, fun h => absurd h (by decide), fun h => absurd h (by decide), fun h => absurd h (by decide)⟩
theorem ik9_207 : okIv RX9 (207, 0, 3, mX6_asTold) := ⟨fun _ => ⟨tb3 127 rfl rfl, omX6_asTold⟩, fun h => absurd h (by decide), fun h => absurd h (by decide), fun h => absurd h (by decide)⟩
theorem ik9_210 : okIv RX9 (210, 0, 3, mX2_put) := ⟨fun _ => ⟨tb3 132 rfl rfl, omX2_put⟩, fun h => absurd h (by decide), fun h => absurd h (by decide), fun h => absurd h (by decide)⟩
theorem ik9_214 : okIv RX9 (214, 0, 2, mX2_dyeAll) := ⟨fun _ => ⟨tb3 137 rfl rfl, omX2_dyeAll⟩, fun h => absurd h (by decide), fun h => absurd h (by decide), fun h => absurd h (by decide)⟩
theorem ik9_218 : okIv RX9 (218, 0, 1, mX2_turn) := ⟨fun _ => ⟨tb3 145 rfl rfl, omX2_turn⟩, fun h => absurd h (by decide), fun h => absurd h (by decide), fun h => absurd h (by decide)⟩
theorem ik9_221 : okIv RX9 (221, 0, 1, mX2_moveOn) := ⟨fun _ => ⟨tb3 149 rfl rfl, omX2_moveOn⟩, fun h => absurd h (by decide), fun h => absurd h (by decide), fun h => absurd h (by decide)⟩
theorem ik9_224 : okIv RX9 (224, 0, 1, mX2_drop) := ⟨fun _ => ⟨tb3 153 rfl rfl, omX2_drop⟩, fun h => absurd h (by decide), fun h => absurd h (by decide), fun h => absurd h (by decide)⟩
theorem ik9_227 : okIv RX9 (227, 0, 1, mX2_repeat) := ⟨fun _ => ⟨tb3 161 rfl rfl, omX2_repeat⟩, fun h => absurd h (by decide), fun h => absurd h (by decide), fun h => absurd h (by decide)⟩
theorem ik9_230 : okIv RX9 (230, 0, 2, mX2_sameBeads) := ⟨fun _ => ⟨tb3 169 rfl rfl, omX2_sameBeads⟩, fun h => absurd h (by decide), fun h => absurd h (by decide), fun h => absurd h (by decide)⟩
theorem ik9_233 : okIv RX9 (233, 0, 2, mX2_exchange) := ⟨fun _ => ⟨tb3 173 rfl rfl, omX2_exchange⟩, fun h => absurd h (by decide), fun h => absurd h (by decide), fun h => absurd h (by decide)⟩
theorem ik9_239 : okIv RX9 (239, 0, 2, mX9_drawRow) := ⟨fun _ => ⟨tb3 185 rfl rfl, omX9_drawRow⟩, fun h => absurd h (by decide), fun h => absurd h (by decide), fun h => absurd h (by decide)⟩
theorem ik9_244 : okIv RX9 (244, 0, 1, mX6_become) := ⟨fun _ => ⟨tb3 199 rfl rfl, omX6_become⟩, fun h => absurd h (by decide), fun h => absurd h (by decide), fun h => absurd h (by decide)⟩
theorem ik9_253 : okIv RX9 (253, 0, 2, mX4_renew) := ⟨fun _ => ⟨tb3 218 rfl rfl, omX4_renew⟩, fun h => absurd h (by decide), fun h => absurd h (by decide), fun h => absurd h (by decide)⟩
theorem ik9_259 : okIv RX9 (259, 0, 2, mX4_faultAt) := ⟨fun _ => ⟨tb3 226 rfl rfl, omX4_faultAt⟩, fun h => absurd h (by decide), fun h => absurd h (by decide), fun h => absurd h (by decide)⟩
theorem ik9_262 : okIv RX9 (262, 0, 2, mX4_put) := ⟨fun _ => ⟨tb3 230 rfl rfl, omX4_put⟩, fun h => absurd h (by decide), fun h => absurd h (by decide), fun h => absurd h (by decide)⟩
theorem ik9_267 : okIv RX9 (267, 0, 1, mX9_string) := ⟨fun _ => ⟨tb3 238 rfl rfl, omX9_string⟩, fun h => absurd h (by decide), fun h => absurd h (by decide), fun h => absurd h (by decide)⟩
theorem ik9_270 : okIv RX9 (270, 0, 0, mX9_imagesThere) := ⟨fun _ => ⟨tb4 7 rfl rfl, omX9_imagesThere⟩, fun h => absurd h (by decide), fun h => absurd h (by decide), fun h => absurd h (by decide)⟩
theorem ik9_274 : okIv RX9 (274, 0, 1, mX0_below) := ⟨fun _ => ⟨tb3 189 rfl rfl, omX0_below⟩, fun h => absurd h (by decide), fun h => absurd h (by decide), fun h => absurd h (by decide)⟩
theorem ik9_277 : okIv RX9 (277, 0, 2, mX2_copyRow) := ⟨fun _ => ⟨tb3 194 rfl rfl, omX2_copyRow⟩, fun h => absurd h (by decide), fun h => absurd h (by decide), fun h => absurd h (by decide)⟩
def tX9 : CT := ([(12, 9, 0, 2), (19, 9, 1, 2), (26, 9, 2, 2), (33, 9, 3, 2), (40, 9, 4, 2), (47, 9, 5, 2), (54, 9, 6, 2), (60, 9, 7, 2), (66, 9, 8, 2), (70, 9, 9, 0), (74, 9, 10, 0), (83, 7, 1, 0), (90, 3, 1, 0), (93, 3, 0, 2), (100, 6, 1, 0), (101, 1, 2, 1), (105, 2, 1, 0), (108, 2, 2, 0), (111, 2, 3, 0), (130, 5, 1, 0), (156, 8, 0, 2), (176, 8, 1, 0), (182, 5, 0, 2), (236, 0, 0, 0), (242, 1, 0, 2), (243, 1, 1, 2), (256, 4, 2, 0), (264, 4, 0, 2), (273, 4, 1, 0)], [(139, 1, 1, mX9_isColour), (247, 1, 1, mX9_isSheet), (250, 1, 1, mX9_isLane), (79, 0, 1, mX7_take), (86, 0, 1, mX3_readAll), (96, 0, 1, mX2_become), (114, 0, 0, mX2_size), (118, 0, 0, mX9_wordsInAll), (121, 0, 0, mX2_linesUnlike), (124, 0, 0, mX2_runsInAll), (127, 0, 0, mX9_coloursInAll), (131, 0, 2, mX2_hasBead), (135, 0, 2, mX2_colourAt), (142, 0, 1, mX2_manyInAll), (146, 0, 1, mX2_hasRow), (149, 0, 2, mX2_manyIn), (152, 0, 2, mX8_tellBest), (160, 0, 1, mX2_runsOf), (163, 0, 1, mX2_firstLike), (166, 0, 1, mX2_manyLike), (169, 0, 1, mX2_partOf), (172, 0, 3, mX8_tellBy), (177, 0, 1, mX5_take), (178, 0, 1, mX5_speak), (185, 0, 2, mX2_takeLine), (189, 0, 1, mX6_take), (192, 0, 1, mX2_planAt), (195, 0, 1, mX6_firstWrong), (198, 0, 1, mX2_rowOfPlan), (201, 0, 1, mX2_placeOfPlan), (204, 0, 2, mX6_kindOf), (207, 0, 3, mX6_asTold), (210, 0, 3, mX2_put), (214, 0, 2, mX2_dyeAll), (218, 0, 1, mX2_turn), (221, 0, 1, mX2_moveOn), (224, 0, 1, mX2_drop), (227, 0, 1, mX2_repeat), (230, 0, 2, mX2_sameBeads), (233, 0, 2, mX2_exchange), (239, 0, 2, mX9_drawRow), (244, 0, 1, mX6_become), (253, 0, 2, mX4_renew), (259, 0, 2, mX4_faultAt), (262, 0, 2, mX4_put), (267, 0, 1, mX9_string), (270, 0, 0, mX9_imagesThere), (274, 0, 1, mX0_below), (277, 0, 2, mX2_copyRow)], [], [], [])
theorem okX9 : okCT RX9 tX9 := ⟨List.forall_mem_cons.mpr ⟨fk9_12, List.forall_mem_cons.mpr ⟨fk9_19, List.forall_mem_cons.mpr ⟨fk9_26, List.forall_mem_cons.mpr ⟨fk9_33, List.forall_mem_cons.mpr ⟨fk9_40, List.forall_mem_cons.mpr ⟨fk9_47, List.forall_mem_cons.mpr ⟨fk9_54, List.forall_mem_cons.mpr ⟨fk9_60, List.forall_mem_cons.mpr ⟨fk9_66, List.forall_mem_cons.mpr ⟨fk9_70, List.forall_mem_cons.mpr ⟨fk9_74, List.forall_mem_cons.mpr ⟨fk9_83, List.forall_mem_cons.mpr ⟨fk9_90, List.forall_mem_cons.mpr ⟨fk9_93, List.forall_mem_cons.mpr ⟨fk9_100, List.forall_mem_cons.mpr ⟨fk9_101, List.forall_mem_cons.mpr ⟨fk9_105, List.forall_mem_cons.mpr ⟨fk9_108, List.forall_mem_cons.mpr ⟨fk9_111, List.forall_mem_cons.mpr ⟨fk9_130, List.forall_mem_cons.mpr ⟨fk9_156, List.forall_mem_cons.mpr ⟨fk9_176, List.forall_mem_cons.mpr ⟨fk9_182, List.forall_mem_cons.mpr ⟨fk9_236, List.forall_mem_cons.mpr ⟨fk9_242, List.forall_mem_cons.mpr ⟨fk9_243, List.forall_mem_cons.mpr ⟨fk9_256, List.forall_mem_cons.mpr ⟨fk9_264, List.forall_mem_cons.mpr ⟨fk9_273, fun _ h => absurd h List.not_mem_nil⟩⟩⟩⟩⟩⟩⟩⟩⟩⟩⟩⟩⟩⟩⟩⟩⟩⟩⟩⟩⟩⟩⟩⟩⟩⟩⟩⟩⟩, List.forall_mem_cons.mpr ⟨ik9_139, List.forall_mem_cons.mpr ⟨ik9_247, List.forall_mem_cons.mpr ⟨ik9_250, List.forall_mem_cons.mpr ⟨ik9_79, List.forall_mem_cons.mpr ⟨ik9_86, List.forall_mem_cons.mpr ⟨ik9_96, List.forall_mem_cons.mpr ⟨ik9_114, List.forall_mem_cons.mpr ⟨ik9_118, List.forall_mem_cons.mpr ⟨ik9_121, List.forall_mem_cons.mpr ⟨ik9_124, List.forall_mem_cons.mpr ⟨ik9_127, List.forall_mem_cons.mpr ⟨ik9_131, List.forall_mem_cons.mpr ⟨ik9_135, List.forall_mem_cons.mpr ⟨ik9_142, List.forall_mem_cons.mpr ⟨ik9_146, List.forall_mem_cons.mpr ⟨ik9_149, List.forall_mem_cons.mpr ⟨ik9_152, List.forall_mem_cons.mpr ⟨ik9_160, List.forall_mem_cons.mpr ⟨ik9_163, List.forall_mem_cons.mpr ⟨ik9_166, List.forall_mem_cons.mpr ⟨ik9_169, List.forall_mem_cons.mpr ⟨ik9_172, List.forall_mem_cons.mpr ⟨ik9_177, List.forall_mem_cons.mpr ⟨ik9_178, List.forall_mem_cons.mpr ⟨ik9_185, List.forall_mem_cons.mpr ⟨ik9_189, List.forall_mem_cons.mpr ⟨ik9_192, List.forall_mem_cons.mpr ⟨ik9_195, List.forall_mem_cons.mpr ⟨ik9_198, List.forall_mem_cons.mpr ⟨ik9_201, List.forall_mem_cons.mpr ⟨ik9_204, List.forall_mem_cons.mpr ⟨ik9_207, List.forall_mem_cons.mpr ⟨ik9_210, List.forall_mem_cons.mpr ⟨ik9_214, List.forall_mem_cons.mpr ⟨ik9_218, List.forall_mem_cons.mpr ⟨ik9_221, List.forall_mem_cons.mpr ⟨ik9_224, List.forall_mem_cons.mpr ⟨ik9_227, List.forall_mem_cons.mpr ⟨ik9_230, List.forall_mem_cons.mpr ⟨ik9_233, List.forall_mem_cons.mpr ⟨ik9_239, List.forall_mem_cons.mpr ⟨ik9_244, List.forall_mem_cons.mpr ⟨ik9_253, List.forall_mem_cons.mpr ⟨ik9_259, List.forall_mem_cons.mpr ⟨ik9_262, List.forall_mem_cons.mpr ⟨ik9_267, List.forall_mem_cons.mpr ⟨ik9_270, List.forall_mem_cons.mpr ⟨ik9_274, List.forall_mem_cons.mpr ⟨ik9_277, fun _ h => absurd h List.not_mem_nil⟩⟩⟩⟩⟩⟩⟩⟩⟩⟩⟩⟩⟩⟩⟩⟩⟩⟩⟩⟩⟩⟩⟩⟩⟩⟩⟩⟩⟩⟩⟩⟩⟩⟩⟩⟩⟩⟩⟩⟩⟩⟩⟩⟩⟩⟩⟩⟩⟩, fun _ h => absurd h List.not_mem_nil, fun _ h => absurd h List.not_mem_nil, fun _ h => absurd h List.not_mem_nil⟩
theorem fk10_7 : okF RX10 (7, 10, 0, 2) := ⟨⟨RX10, TX10, 20, rfl, by decide, inG10, tb4 17 rfl rfl⟩, fun h => absurd h (by decide), fun h => absurd h (by decide)⟩
theorem fk10_13 : okF RX10 (13, 10, 1, 2) := ⟨⟨RX10, TX10, 20, rfl, by decide, inG10, tb4 18 rfl rfl⟩, fun h => absurd h (by decide), fun h => absurd h (by decide)⟩
theorem fk10_16 : okF RX10 (16, 10, 2, 2) := ⟨⟨RX10, TX10, 20, rfl, by decide, inG10, tb4 19 rfl rfl⟩, fun h => absurd h (by decide), fun h => absurd h (by decide)⟩
theorem fk10_19 : okF RX10 (19, 10, 3, 2) := ⟨⟨RX10, TX10, 20, rfl, by decide, inG10, tb4 20 rfl rfl⟩, fun h => absurd h (by decide), fun h => absurd h (by decide)⟩
theorem fk10_23 : okF RX10 (23, 10, 4, 2) := ⟨⟨RX10, TX10, 20, rfl, by decide, inG10, tb4 21 rfl rfl⟩, fun h => absurd h (by decide), fun h => absurd h (by decide)⟩
theorem fk10_26 : okF RX10 (26, 10, 11, 2) := ⟨⟨RX10, TX10, 20, rfl, by decide, inG10, tb4 28 rfl rfl⟩, fun h => absurd h (by decide), fun h => absurd h (by decide)⟩
theorem fk10_29 : okF RX10 (29, 10, 13, 2) := ⟨⟨RX10, TX10, 20, rfl, by decide, inG10, tb4 30 rfl rfl⟩, fun h => absurd h (by decide), fun h => absurd h (by decide)⟩
theorem fk10_32 : okF RX10 (32, 10, 16, 2) := ⟨⟨RX10, TX10, 20, rfl, by decide, inG10, tb4 33 rfl rfl⟩, fun h => absurd h (by decide), fun h => absurd h (by decide)⟩
theorem fk10_35 : okF RX10 (35, 10, 17, 2) := ⟨⟨RX10, TX10, 20, rfl, by decide, inG10, tb4 34 rfl rfl⟩, fun h => absurd h (by decide), fun h => absurd h (by decide)⟩
theorem fk10_38 : okF RX10 (38, 10, 18, 2) := ⟨⟨RX10, TX10, 20, rfl, by decide, inG10, tb4 35 rfl rfl⟩, fun h => absurd h (by decide), fun h => absurd h (by decide)⟩
theorem fk10_47 : okF RX10 (47, 10, 5, 0) := ⟨⟨RX10, TX10, 20, rfl, by decide, inG10, tb4 22 rfl rfl⟩, fun _ => ⟨RX10, TX10, 20, rfl, by decide, inG10, tb4 22 rfl rfl, rfl, by decide +kernel, ⟨tyX10, tyX10_ok⟩, nmX10⟩, fun h => absurd h (by decide)⟩
theorem fk10_51 : okF RX10 (51, 10, 9, 0) := ⟨⟨RX10, TX10, 20, rfl, by decide, inG10, tb4 26 rfl rfl⟩, fun _ => ⟨RX10, TX10, 20, rfl, by decide, inG10, tb4 26 rfl rfl, rfl, by decide +kernel, ⟨tyX10, tyX10_ok⟩, nmX10⟩, fun h => absurd h (by decide)⟩
theorem fk10_54 : okF RX10 (54, 10, 7, 0) := ⟨⟨RX10, TX10, 20, rfl, by decide, inG10, tb4 24 rfl rfl⟩, fun _ => ⟨RX10, TX10, 20, rfl, by decide, inG10, tb4 24 rfl rfl, rfl, by decide +kernel, ⟨tyX10, tyX10_ok⟩, nmX10⟩, fun h => absurd h (by decide)⟩
theorem fk10_57 : okF RX10 (57, 10, 10, 0) := ⟨⟨RX10, TX10, 20, rfl, by decide, inG10, tb4 27 rfl rfl⟩, fun _ => ⟨RX10, TX10, 20, rfl, by decide, inG10, tb4 27 rfl rfl, rfl, by decide +kernel, ⟨tyX10, tyX10_ok⟩, nmX10⟩, fun h => absurd h (by decide)⟩
theorem fk10_60 : okF RX10 (60, 10, 6, 0) := ⟨⟨RX10, TX10, 20, rfl, by decide, inG10, tb4 23 rfl rfl⟩, fun _ => ⟨RX10, TX10, 20, rfl, by decide, inG10, tb4 23 rfl rfl, rfl, by decide +kernel, ⟨tyX10, tyX10_ok⟩, nmX10⟩, fun h => absurd h (by decide)⟩
theorem fk10_67 : okF RX10 (67, 10, 8, 0) := ⟨⟨RX10, TX10, 20, rfl, by decide, inG10, tb4 25 rfl rfl⟩, fun _ => ⟨RX10, TX10, 20, rfl, by decide, inG10, tb4 25 rfl rfl, rfl, by decide +kernel, ⟨tyX10, tyX10_ok⟩, nmX10⟩, fun h => absurd h (by decide)⟩
theorem fk10_154 : okF RX10 (154, 10, 12, 0) := ⟨⟨RX10, TX10, 20, rfl, by decide, inG10, tb4 29 rfl rfl⟩, fun _ => ⟨RX10, TX10, 20, rfl, by decide, inG10, tb4 29 rfl rfl, rfl, by decide +kernel, ⟨tyX10, tyX10_ok⟩, nmX10⟩, fun h => absurd h (by decide)⟩
theorem fk10_173 : okF RX10 (173, 10, 14, 0) := ⟨⟨RX10, TX10, 20, rfl, by decide, inG10, tb4 31 rfl rfl⟩, fun _ => ⟨RX10, TX10, 20, rfl, by decide, inG10, tb4 31 rfl rfl, rfl, by decide +kernel, ⟨tyX10, tyX10_ok⟩, nmX10⟩, fun h => absurd h (by decide)⟩
theorem fk10_223 : okF RX10 (223, 10, 15, 0) := ⟨⟨RX10, TX10, 20, rfl, by decide, inG10, tb4 32 rfl rfl⟩, fun _ => ⟨RX10, TX10, 20, rfl, by decide, inG10, tb4 32 rfl rfl, rfl, by decide +kernel, ⟨tyX10, tyX10_ok⟩, nmX10⟩, fun h => absurd h (by decide)⟩
theorem fk10_242 : okF RX10 (242, 10, 19, 0) := ⟨⟨RX10, TX10, 20, rfl, by decide, inG10, tb4 36 rfl rfl⟩, fun _ => ⟨RX10, TX10, 20, rfl, by decide, inG10, tb4 36 rfl rfl, rfl, by decide +kernel, ⟨tyX10, tyX10_ok⟩, nmX10⟩, fun h => absurd h (by decide)⟩
theorem ik10_43 : okIv RX10 (43, 1, 3, mX10_in) := ⟨fun h => absurd h (by decide), fun _ => ⟨tb4 84 rfl rfl, omX10_in, rfl⟩, fun h => absurd h (by decide), fun h => absurd h (by decide)⟩
theorem ik10_112 : okIv RX10 (112, 1, 1, mX10_flag) := ⟨fun h => absurd h (by decide), fun _ => ⟨tb4 177 rfl rfl, omX10_flag, rfl⟩, fun h => absurd h (by decide), fun h => absurd h (by decide)⟩
theorem ik10_160 : okIv RX10 (160, 1, 1, mX10_isColour) := ⟨fun h => absurd h (by decide), fun _ => ⟨tb4 212 rfl rfl, omX10_isColour, rfl⟩, fun h => absurd h (by decide), fun h => absurd h (by decide)⟩
theorem ik10_236 : okIv RX10 (236, 1, 2, mX10_isSheet) := ⟨fun h => absurd h (by decide), fun _ => ⟨tb5 132 rfl rfl, omX10_isSheet, rfl⟩, fun h => absurd h (by decide), fun h => absurd h (by decide)⟩
theorem ik10_63 : okIv RX10 (63, 0, 1, mX10_byteAt) := ⟨fun _ => ⟨tb4 99 rfl rfl, omX10_byteAt⟩, fun h => absurd h (by decide), fun h => absurd h (by decide), fun h => absurd h (by decide)⟩
theorem ik10_74 : okIv RX10 (74, 0, 2, mX10_requires) := ⟨fun _ => ⟨tb4 105 rfl rfl, omX10_requires⟩, fun h => absurd h (by decide), fun h => absurd h (by decide), fun h => absurd h (by decide)⟩
theorem ik10_78 : okIv RX10 (78, 0, 0, mX10_reads) := ⟨fun _ => ⟨tb4 95 rfl rfl, omX10_reads⟩, fun h => absurd h (by decide), fun h => absurd h (by decide), fun h => absurd h (by decide)⟩
theorem ik10_81 : okIv RX10 (81, 0, 0, mX10_areBeads) := ⟨fun _ => ⟨tb4 121 rfl rfl, omX10_areBeads⟩, fun h => absurd h (by decide), fun h => absurd h (by decide), fun h => absurd h (by decide)⟩
theorem ik10_85 : okIv RX10 (85, 0, 3, mX10_is) := ⟨fun _ => ⟨tb4 113 rfl rfl, omX10_is⟩, fun h => absurd h (by decide), fun h => absurd h (by decide), fun h => absurd h (by decide)⟩
theorem ik10_89 : okIv RX10 (89, 0, 0, mX10_readRow) := ⟨fun _ => ⟨tb4 117 rfl rfl, omX10_readRow⟩, fun h => absurd h (by decide), fun h => absurd h (by decide), fun h => absurd h (by decide)⟩
theorem ik10_92 : okIv RX10 (92, 0, 0, mX10_readLine) := ⟨fun _ => ⟨tb4 109 rfl rfl, omX10_readLine⟩, fun h => absurd h (by decide), fun h => absurd h (by decide), fun h => absurd h (by decide)⟩
theorem ik10_97 : okIv RX10 (97, 0, 1, mX10_isBack) := ⟨fun _ => ⟨tb4 165 rfl rfl, omX10_isBack⟩, fun h => absurd h (by decide), fun h => absurd h (by decide), fun h => absurd h (by decide)⟩
theorem ik10_101 : okIv RX10 (101, 0, 2, mX10_beadOf) := ⟨fun _ => ⟨tb4 169 rfl rfl, omX10_beadOf⟩, fun h => absurd h (by decide), fun h => absurd h (by decide), fun h => absurd h (by decide)⟩
theorem ik10_105 : okIv RX10 (105, 0, 2, mX10_lineOf) := ⟨fun _ => ⟨tb4 161 rfl rfl, omX10_lineOf⟩, fun h => absurd h (by decide), fun h => absurd h (by decide), fun h => absurd h (by decide)⟩
theorem ik10_108 : okIv RX10 (108, 0, 3, mX10_isSame) := ⟨fun _ => ⟨tb4 157 rfl rfl, omX10_isSame⟩, fun h => absurd h (by decide), fun h => absurd h (by decide), fun h => absurd h (by decide)⟩
theorem ik10_116 : okIv RX10 (116, 0, 3, mX10_likeOf) := ⟨fun _ => ⟨tb4 153 rfl rfl, omX10_likeOf⟩, fun h => absurd h (by decide), fun h => absurd h (by decide), fun h => absurd h (by decide)⟩
theorem ik10_120 : okIv RX10 (120, 0, 2, mX10_runsOf) := ⟨fun _ => ⟨tb4 173 rfl rfl, omX10_runsOf⟩, fun h => absurd h (by decide), fun h => absurd h (by decide), fun h => absurd h (by decide)⟩
theorem ik10_123 : okIv RX10 (123, 0, 1, mX10_partOf) := ⟨fun _ => ⟨tb4 180 rfl rfl, omX10_partOf⟩, fun h => absurd h (by decide), fun h => absurd h (by decide), fun h => absurd h (by decide)⟩
theorem ik10_126 : okIv RX10 (126, 0, 2, mX10_wordsBy) := ⟨fun _ => ⟨tb4 149 rfl rfl, omX10_wordsBy⟩, fun h => absurd h (by decide), fun h => absurd h (by decide), fun h => absurd h (by decide)⟩
theorem ik10_129 : okIv RX10 (129, 0, 1, mX10_formOf) := ⟨fun _ => ⟨tb4 145 rfl rfl, omX10_formOf⟩, fun h => absurd h (by decide), fun h => absurd h (by decide), fun h => absurd h (by decide)⟩
theorem ik10_132 : okIv RX10 (132, 0, 0, mX10_width) := ⟨fun _ => ⟨tb4 133 rfl rfl, omX10_width⟩, fun h => absurd h (by decide), fun h => absurd h (by decide), fun h => absurd h (by decide)⟩
theorem ik10_136 : okIv RX10 (136, 0, 2, mX10_manyOf) := ⟨fun _ => ⟨tb4 196 rfl rfl, omX10_manyOf⟩, fun h => absurd h (by decide), fun h => absurd h (by decide), fun h => absurd h (by decide)⟩
theorem ik10_139 : okIv RX10 (139, 0, 0, mX10_beads) := ⟨fun _ => ⟨tb4 137 rfl rfl, omX10_beads⟩, fun h => absurd h (by decide), fun h => absurd h (by decide), fun h => absurd h (by decide)⟩
theorem ik10_142 : okIv RX10 (142, 0, 0, mX10_allWords) := ⟨fun _ => ⟨tb4 141 rfl rfl, omX10_allWords⟩, fun h => absurd h (by decide), fun h => absurd h (by decide), fun h => absurd h (by decide)⟩
theorem ik10_145 : okIv RX10 (145, 0, 0, mX10_unlike) := ⟨fun _ => ⟨tb4 184 rfl rfl, omX10_unlike⟩, fun h => absurd h (by decide), fun h => absurd h (by decide), fun h => absurd h (by decide)⟩
theorem ik10_148 : okIv RX10 (148, 0, 0, mX10_allRuns) := ⟨fun _ => ⟨tb4 188 rfl rfl, omX10_allRuns⟩, fun h => absurd h (by decide), fun h => absurd h (by decide), fun h => absurd h (by decide)⟩
theorem ik10_151 : okIv RX10 (151, 0, 0, mX10_colours) := ⟨fun _ => ⟨tb4 192 rfl rfl, omX10_colours⟩, fun h => absurd h (by decide), fun h => absurd h (by decide), fun h => absurd h (by decide)⟩
theorem ik10_157 : okIv RX10 (157, 0, 1, mX10_isRow) := ⟨fun _ => ⟨tb4 204 rfl rfl, omX10_isRow⟩, fun h => absurd h (by decide), fun h => absurd h (by decide), fun h => absurd h (by decide)⟩
theorem ik10_163 : okIv RX10 (163, 0, 1, mX10_likes) := ⟨fun _ => ⟨tb4 220 rfl rfl, omX10_likes⟩, fun h => absurd h (by decide), fun h => absurd h (by decide), fun h => absurd h (by decide)⟩
theorem ik10_168 : okIv RX10 (168, 0, 2, mX10_wordOf) := ⟨fun _ => ⟨tb4 233 rfl rfl, omX10_wordOf⟩, fun h => absurd h (by decide), fun h => absurd h (by decide), fun h => absurd h (by decide)⟩
theorem ik10_178 : okIv RX10 (178, 0, 1, mX10_readRuns) := ⟨fun _ => ⟨tb5 22 rfl rfl, omX10_readRuns⟩, fun h => absurd h (by decide), fun h => absurd h (by decide), fun h => absurd h (by decide)⟩
theorem ik10_183 : okIv RX10 (183, 0, 1, mX10_readLike) := ⟨fun _ => ⟨tb5 14 rfl rfl, omX10_readLike⟩, fun h => absurd h (by decide), fun h => absurd h (by decide), fun h => absurd h (by decide)⟩
theorem ik10_187 : okIv RX10 (187, 0, 0, mX10_readMirror) := ⟨fun _ => ⟨tb5 18 rfl rfl, omX10_readMirror⟩, fun h => absurd h (by decide), fun h => absurd h (by decide), fun h => absurd h (by decide)⟩
theorem ik10_190 : okIv RX10 (190, 0, 0, mX10_readTimes) := ⟨fun _ => ⟨tb5 27 rfl rfl, omX10_readTimes⟩, fun h => absurd h (by decide), fun h => absurd h (by decide), fun h => absurd h (by decide)⟩
theorem ik10_193 : okIv RX10 (193, 0, 0, mX10_speaks) := ⟨fun _ => ⟨tb5 10 rfl rfl, omX10_speaks⟩, fun h => absurd h (by decide), fun h => absurd h (by decide), fun h => absurd h (by decide)⟩
theorem ik10_196 : okIv RX10 (196, 0, 1, mX10_planOf) := ⟨fun _ => ⟨tb5 52 rfl rfl, omX10_planOf⟩, fun h => absurd h (by decide), fun h => absurd h (by decide), fun h => absurd h (by decide)⟩
theorem ik10_199 : okIv RX10 (199, 0, 2, mX10_asTold) := ⟨fun _ => ⟨tb5 69 rfl rfl, omX10_asTold⟩, fun h => absurd h (by decide), fun h => absurd h (by decide), fun h => absurd h (by decide)⟩
theorem ik10_204 : okIv RX10 (204, 0, 0, mX10_firstMistake) := ⟨fun _ => ⟨tb5 61 rfl rfl, omX10_firstMistake⟩, fun h => absurd h (by decide), fun h => absurd h (by decide), fun h => absurd h (by decide)⟩
theorem ik10_207 : okIv RX10 (207, 0, 1, mX10_kindOf) := ⟨fun _ => ⟨tb5 65 rfl rfl, omX10_kindOf⟩, fun h => absurd h (by decide), fun h => absurd h (by decide), fun h => absurd h (by decide)⟩
theorem ik10_212 : okIv RX10 (212, 0, 1, mX10_turns) := ⟨fun _ => ⟨tb5 86 rfl rfl, omX10_turns⟩, fun h => absurd h (by decide), fun h => absurd h (by decide), fun h => absurd h (by decide)⟩
theorem ik10_216 : okIv RX10 (216, 0, 1, mX10_goesOn) := ⟨fun _ => ⟨tb5 90 rfl rfl, omX10_goesOn⟩, fun h => absurd h (by decide), fun h => absurd h (by decide), fun h => absurd h (by decide)⟩
theorem ik10_219 : okIv RX10 (219, 0, 2, mX10_copiesRow) := ⟨fun _ => ⟨tb5 94 rfl rfl, omX10_copiesRow⟩, fun h => absurd h (by decide), fun h => absurd h (by decide), fun h => absurd h (by decide)⟩
theorem ik10_227 : okIv RX10 (227, 0, 0, mX10_gets) := ⟨fun _ => ⟨tb5 115 rfl rfl, omX10_gets⟩, fun h => absurd h (by decide), fun h => absurd h (by decide), fun h => absurd h (by decide)⟩
theorem ik10_232 : okIv RX10 (232, 0, 3, mX10_drawsRow) := ⟨fun _ => ⟨tb5 111 rfl rfl, omX10_drawsRow⟩, fun h => absurd h (by decide), fun h => absurd h (by decide), fun h => absurd h (by decide)⟩
theorem ik10_245 : okIv RX10 (245, 0, 1, mX10_string) := ⟨fun _ => ⟨tb5 144 rfl rfl, omX10_string⟩, fun h => absurd h (by decide), fun h => absurd h (by decide), fun h => absurd h (by decide)⟩
def tX10 : CT := ([(7, 10, 0, 2), (13, 10, 1, 2), (16, 10, 2, 2), (19, 10, 3, 2), (23, 10, 4, 2), (26, 10, 11, 2), (29, 10, 13, 2), (32, 10, 16, 2), (35, 10, 17, 2), (38, 10, 18, 2), (47, 10, 5, 0), (51, 10, 9, 0), (54, 10, 7, 0), (57, 10, 10, 0), (60, 10, 6, 0), (67, 10, 8, 0), (154, 10, 12, 0), (173, 10, 14, 0), (223, 10, 15, 0), (242, 10, 19, 0)], [(43, 1, 3, mX10_in), (112, 1, 1, mX10_flag), (160, 1, 1, mX10_isColour), (236, 1, 2, mX10_isSheet), (63, 0, 1, mX10_byteAt), (74, 0, 2, mX10_requires), (78, 0, 0, mX10_reads), (81, 0, 0, mX10_areBeads), (85, 0, 3, mX10_is), (89, 0, 0, mX10_readRow), (92, 0, 0, mX10_readLine), (97, 0, 1, mX10_isBack), (101, 0, 2, mX10_beadOf), (105, 0, 2, mX10_lineOf), (108, 0, 3, mX10_isSame), (116, 0, 3, mX10_likeOf), (120, 0, 2, mX10_runsOf), (123, 0, 1, mX10_partOf), (126, 0, 2, mX10_wordsBy), (129, 0, 1, mX10_formOf), (132, 0, 0, mX10_width), (136, 0, 2, mX10_manyOf), (139, 0, 0, mX10_beads), (142, 0, 0, mX10_allWords), (145, 0, 0, mX10_unlike), (148, 0, 0, mX10_allRuns), (151, 0, 0, mX10_colours), (157, 0, 1, mX10_isRow), (163, 0, 1, mX10_likes), (168, 0, 2, mX10_wordOf), (178, 0, 1, mX10_readRuns), (183, 0, 1, mX10_readLike), (187, 0, 0, mX10_readMirror), (190, 0, 0, mX10_readTimes), (193, 0, 0, mX10_speaks), (196, 0, 1, mX10_planOf), (199, 0, 2, mX10_asTold), (204, 0, 0, mX10_firstMistake), (207, 0, 1, mX10_kindOf), (212, 0, 1, mX10_turns), (216, 0, 1, mX10_goesOn), (219, 0, 2, mX10_copiesRow), (227, 0, 0, mX10_gets), (232, 0, 3, mX10_drawsRow), (245, 0, 1, mX10_string)], [(226, 1103515245)], [(41, lN 127), (70, lN 97), (72, lN 122), (95, lN 5), (166, lN 4), (171, lN 99), (176, lN 16), (181, lN 2), (202, lN 6), (210, lN 3), (230, lN 12), (240, lN 32)], [])
theorem okX10 : okCT RX10 tX10 := ⟨List.forall_mem_cons.mpr ⟨fk10_7, List.forall_mem_cons.mpr ⟨fk10_13, List.forall_mem_cons.mpr ⟨fk10_16, List.forall_mem_cons.mpr ⟨fk10_19, List.forall_mem_cons.mpr ⟨fk10_23, List.forall_mem_cons.mpr ⟨fk10_26, List.forall_mem_cons.mpr ⟨fk10_29, List.forall_mem_cons.mpr ⟨fk10_32, List.forall_mem_cons.mpr ⟨fk10_35, List.forall_mem_cons.mpr ⟨fk10_38, List.forall_mem_cons.mpr ⟨fk10_47, List.forall_mem_cons.mpr ⟨fk10_51, List.forall_mem_cons.mpr ⟨fk10_54, List.forall_mem_cons.mpr ⟨fk10_57, List.forall_mem_cons.mpr ⟨fk10_60, List.forall_mem_cons.mpr ⟨fk10_67, List.forall_mem_cons.mpr ⟨fk10_154, List.forall_mem_cons.mpr ⟨fk10_173, List.forall_mem_cons.mpr ⟨fk10_223, List.forall_mem_cons.mpr ⟨fk10_242, fun _ h => absurd h List.not_mem_nil⟩⟩⟩⟩⟩⟩⟩⟩⟩⟩⟩⟩⟩⟩⟩⟩⟩⟩⟩⟩, List.forall_mem_cons.mpr ⟨ik10_43, List.forall_mem_cons.mpr ⟨ik10_112, List.forall_mem_cons.mpr ⟨ik10_160, List.forall_mem_cons.mpr ⟨ik10_236, List.forall_mem_cons.mpr ⟨ik10_63, List.forall_mem_cons.mpr ⟨ik10_74, List.forall_mem_cons.mpr ⟨ik10_78, List.forall_mem_cons.mpr ⟨ik10_81, List.forall_mem_cons.mpr ⟨ik10_85, List.forall_mem_cons.mpr ⟨ik10_89, List.forall_mem_cons.mpr ⟨ik10_92, List.forall_mem_cons.mpr ⟨ik10_97, List.forall_mem_cons.mpr ⟨ik10_101, List.forall_mem_cons.mpr ⟨ik10_105, List.forall_mem_cons.mpr ⟨ik10_108, List.forall_mem_cons.mpr ⟨ik10_116, List.forall_mem_cons.mpr ⟨ik10_120, List.forall_mem_cons.mpr ⟨ik10_123, List.forall_mem_cons.mpr ⟨ik10_126, List.forall_mem_cons.mpr ⟨ik10_129, List.forall_mem_cons.mpr ⟨ik10_132, List.forall_mem_cons.mpr ⟨ik10_136, List.forall_mem_cons.mpr ⟨ik10_139, List.forall_mem_cons.mpr ⟨ik10_142, List.forall_mem_cons.mpr ⟨ik10_145, List.forall_mem_cons.mpr ⟨ik10_148, List.forall_mem_cons.mpr ⟨ik10_151, List.forall_mem_cons.mpr ⟨ik10_157, List.forall_mem_cons.mpr ⟨ik10_163, List.forall_mem_cons.mpr ⟨ik10_168, List.forall_mem_cons.mpr ⟨ik10_178, List.forall_mem_cons.mpr ⟨ik10_183, List.forall_mem_cons.mpr ⟨ik10_187, List.forall_mem_cons.mpr ⟨ik10_190, List.forall_mem_cons.mpr ⟨ik10_193, List.forall_mem_cons.mpr ⟨ik10_196, List.forall_mem_cons.mpr ⟨ik10_199, List.forall_mem_cons.mpr ⟨ik10_204, List.forall_mem_cons.mpr ⟨ik10_207, List.forall_mem_cons.mpr ⟨ik10_212, List.forall_mem_cons.mpr ⟨ik10_216, List.forall_mem_cons.mpr ⟨ik10_219, List.forall_mem_cons.mpr ⟨ik10_227, List.forall_mem_cons.mpr ⟨ik10_232, List.forall_mem_cons.mpr ⟨ik10_245, fun _ h => absurd h List.not_mem_nil⟩⟩⟩⟩⟩⟩⟩⟩⟩⟩⟩⟩⟩⟩⟩⟩⟩⟩⟩⟩⟩⟩⟩⟩⟩⟩⟩⟩⟩⟩⟩⟩⟩⟩⟩⟩⟩⟩⟩⟩⟩⟩⟩⟩⟩, List.forall_mem_cons.mpr ⟨tb5 119 rfl rfl, fun _ h => absurd h List.not_mem_nil⟩, List.forall_mem_cons.mpr ⟨tb4 83 rfl rfl, List.forall_mem_cons.mpr ⟨tb4 103 rfl rfl, List.forall_mem_cons.mpr ⟨tb4 104 rfl rfl, List.forall_mem_cons.mpr ⟨tb4 215 rfl rfl, List.forall_mem_cons.mpr ⟨tb4 228 rfl rfl, List.forall_mem_cons.mpr ⟨tb5 1 rfl rfl, List.forall_mem_cons.mpr ⟨tb5 26 rfl rfl, List.forall_mem_cons.mpr ⟨tb5 31 rfl rfl, List.forall_mem_cons.mpr ⟨tb5 60 rfl rfl, List.forall_mem_cons.mpr ⟨tb5 85 rfl rfl, List.forall_mem_cons.mpr ⟨tb5 110 rfl rfl, List.forall_mem_cons.mpr ⟨tb5 143 rfl rfl, fun _ h => absurd h List.not_mem_nil⟩⟩⟩⟩⟩⟩⟩⟩⟩⟩⟩⟩, fun _ h => absurd h List.not_mem_nil⟩
