abbrev Sh : Type := (FieldType × Nat) ⊕ (Nat × List FieldType)
/-- the cells of the two systems and the law's own row, in the order in which they are made -/
def shL : List Sh := [.inr (11, [.object "OneHand$Land", .object "OneHand$Deeds", .object "OneHand$Links", .object "OneHand$Sheet", .object "OneHand$Sheet", .object "OneHand$Sheet", .object "OneHand$Likeness", .object "OneHand$Partings", .object "OneHand$Groups", .object "OneHand$Trails", .object "OneHand$Rights", .object "OneHand$Reader", .object "OneHand$Trays", .array .int, .int, .array .int]),
  .inr (2, [.int, .int, .array .int, .array .int, .array .int, .int, .int, .array .int, .int, .array .int, .array .int]),
  .inl (.int, 30),
  .inl (.int, 30),
  .inl (.int, 30),
  .inl (.int, 20),
  .inl (.int, 10),
  .inl (.int, 10),
  .inr (0, [.object "OneHand$Land", .int, .array .int, .array .int, .array .int, .array .int, .array .int, .array .int, .array .long, .array .long, .array .long, .long, .long, .long, .int, .int]),
  .inl (.int, 60),
  .inl (.int, 60),
  .inl (.int, 60),
  .inl (.int, 60),
  .inl (.int, 60),
  .inl (.int, 60),
  .inl (.long, 60),
  .inl (.long, 60),
  .inl (.long, 20),
  .inr (4, [.int, .array .int, .array .int, .array .int]),
  .inl (.int, 40),
  .inl (.int, 40),
  .inl (.int, 40),
  .inr (8, [.array .long, .array .long, .array .long]),
  .inl (.long, 16),
  .inl (.long, 16),
  .inl (.long, 16),
  .inr (8, [.array .long, .array .long, .array .long]),
  .inl (.long, 16),
  .inl (.long, 16),
  .inl (.long, 16),
  .inr (8, [.array .long, .array .long, .array .long]),
  .inl (.long, 16),
  .inl (.long, 16),
  .inl (.long, 16),
  .inr (3, [.object "OneHand$Land", .object "OneHand$Deeds", .object "OneHand$Sheet", .long, .array .long, .array .long, .array .int, .array .int, .array .int, .array .int, .array .int, .array .int, .array .int, .array .boolean]),
  .inl (.long, 60),
  .inl (.long, 60),
  .inl (.int, 16),
  .inl (.int, 256),
  .inl (.int, 16),
  .inl (.int, 16),
  .inl (.int, 16),
  .inl (.int, 512),
  .inl (.int, 256),
  .inl (.boolean, 64),
  .inr (5, [.array .int, .int, .array .int, .array .int, .array .int, .array .int, .array .int, .array .int, .boolean, .int, .int, .int, .long, .long]),
  .inl (.int, 9),
  .inl (.int, 9),
  .inl (.int, 9),
  .inl (.int, 512),
  .inl (.int, 9),
  .inl (.int, 9),
  .inl (.int, 9),
  .inr (1, [.int, .long, .array .long, .array .long, .array .int]),
  .inl (.long, 60),
  .inl (.long, 60),
  .inl (.int, 3600),
  .inr (9, [.object "OneHand$Land", .object "OneHand$Deeds", .int, .array .int, .array .int, .array .int, .array .int, .array .int, .int, .array .int, .array .int]),
  .inl (.int, 120),
  .inl (.int, 120),
  .inl (.int, 60),
  .inl (.int, 30),
  .inl (.int, 30),
  .inl (.int, 20),
  .inl (.int, 20),
  .inr (7, [.int, .array .int, .array .int, .array .int, .array .int, .array .int, .int, .array .long, .array .long]),
  .inl (.int, 12),
  .inl (.int, 12),
  .inl (.int, 12),
  .inl (.int, 12),
  .inl (.int, 300),
  .inl (.long, 7),
  .inl (.long, 300),
  .inr (6, [.object "OneHand$Rights", .int, .int, .array .int, .array .int, .array .int, .int, .int, .int]),
  .inr (7, [.int, .array .int, .array .int, .array .int, .array .int, .array .int, .int, .array .long, .array .long]),
  .inl (.int, 12),
  .inl (.int, 12),
  .inl (.int, 12),
  .inl (.int, 12),
  .inl (.int, 300),
  .inl (.long, 7),
  .inl (.long, 300),
  .inl (.int, 301),
  .inl (.int, 301),
  .inl (.int, 301),
  .inr (10, [.array .int, .array .int, .array .long]),
  .inl (.int, 4),
  .inl (.int, 4),
  .inl (.long, 160),
  .inl (.int, 300),
  .inl (.int, 60),
  .inr (12, [.int, .int, .int, .int, .int, .int, .int, .int, .int, .array .int, .array .int, .array .int, .array .int, .array .int, .array .int, .array .int, .array .int, .array .int, .array .int, .array .int, .array .int, .array .boolean, .array .boolean, .array .boolean, .array .int, .array .int, .array .int, .array .int, .array .int, .int, .int, .array .int, .array .int, .array .int, .array .int, .array .int, .int, .int, .int, .array .int, .array .int, .array .int, .int, .array .int, .array .int, .array .int, .array .int, .array .int, .int, .int, .boolean, .int, .array .int, .array .int, .int, .array .int, .array .int, .array .int, .array .int, .array .int, .array .int, .array .boolean, .array .int, .array .int, .array .int, .array .int, .array .int, .int, .int, .int, .int, .int, .int, .int, .int, .int, .int, .int, .int, .int, .array .int, .array .int, .array .long, .array .long, .array .int, .array .int, .array .long]),
  .inl (.int, 30),
  .inl (.int, 30),
  .inl (.int, 30),
  .inl (.int, 20),
  .inl (.int, 10),
  .inl (.int, 10),
  .inl (.int, 60),
  .inl (.int, 60),
  .inl (.int, 60),
  .inl (.int, 60),
  .inl (.int, 60),
  .inl (.int, 60),
  .inl (.boolean, 60),
  .inl (.boolean, 60),
  .inl (.boolean, 3600),
  .inl (.int, 960),
  .inl (.int, 960),
  .inl (.int, 40),
  .inl (.int, 40),
  .inl (.int, 40),
  .inl (.int, 960),
  .inl (.int, 3600),
  .inl (.int, 16),
  .inl (.int, 384),
  .inl (.int, 192),
  .inl (.int, 256),
  .inl (.int, 16),
  .inl (.int, 16),
  .inl (.int, 9),
  .inl (.int, 9),
  .inl (.int, 9),
  .inl (.int, 81),
  .inl (.int, 81),
  .inl (.int, 60),
  .inl (.int, 3600),
  .inl (.int, 120),
  .inl (.int, 120),
  .inl (.int, 30),
  .inl (.int, 30),
  .inl (.int, 20),
  .inl (.int, 20),
  .inl (.boolean, 60),
  .inl (.int, 960),
  .inl (.int, 60),
  .inl (.int, 300),
  .inl (.int, 500),
  .inl (.int, 500),
  .inl (.int, 48),
  .inl (.int, 48),
  .inl (.long, 7),
  .inl (.long, 64),
  .inl (.int, 4),
  .inl (.int, 4),
  .inl (.long, 160),
  .inl (.long, 1)]
def SHP (c : Nat) : Sh := shL.getD c (.inr (0, []))
def SF (c k ci : Nat) (ty : FieldType) : Prop := ∃ tys : List FieldType, SHP c = .inr (ci, tys) ∧ tys[k]? = some ty
theorem sf_0_0 : SF 0 0 11 (.object "OneHand$Land") := ⟨_, rfl, rfl⟩
theorem sf_0_1 : SF 0 1 11 (.object "OneHand$Deeds") := ⟨_, rfl, rfl⟩
theorem sf_0_2 : SF 0 2 11 (.object "OneHand$Links") := ⟨_, rfl, rfl⟩
theorem sf_0_3 : SF 0 3 11 (.object "OneHand$Sheet") := ⟨_, rfl, rfl⟩
theorem sf_0_4 : SF 0 4 11 (.object "OneHand$Sheet") := ⟨_, rfl, rfl⟩
theorem sf_0_5 : SF 0 5 11 (.object "OneHand$Sheet") := ⟨_, rfl, rfl⟩
theorem sf_0_6 : SF 0 6 11 (.object "OneHand$Likeness") := ⟨_, rfl, rfl⟩
theorem sf_0_7 : SF 0 7 11 (.object "OneHand$Partings") := ⟨_, rfl, rfl⟩
theorem sf_0_8 : SF 0 8 11 (.object "OneHand$Groups") := ⟨_, rfl, rfl⟩
theorem sf_0_9 : SF 0 9 11 (.object "OneHand$Trails") := ⟨_, rfl, rfl⟩
theorem sf_0_10 : SF 0 10 11 (.object "OneHand$Rights") := ⟨_, rfl, rfl⟩
theorem sf_0_11 : SF 0 11 11 (.object "OneHand$Reader") := ⟨_, rfl, rfl⟩
theorem sf_0_12 : SF 0 12 11 (.object "OneHand$Trays") := ⟨_, rfl, rfl⟩
theorem sf_0_13 : SF 0 13 11 (.array .int) := ⟨_, rfl, rfl⟩
theorem sf_0_14 : SF 0 14 11 (.int) := ⟨_, rfl, rfl⟩
theorem sf_0_15 : SF 0 15 11 (.array .int) := ⟨_, rfl, rfl⟩
theorem sf_1_0 : SF 1 0 2 (.int) := ⟨_, rfl, rfl⟩
theorem sf_1_1 : SF 1 1 2 (.int) := ⟨_, rfl, rfl⟩
theorem sf_1_2 : SF 1 2 2 (.array .int) := ⟨_, rfl, rfl⟩
theorem sf_1_3 : SF 1 3 2 (.array .int) := ⟨_, rfl, rfl⟩
theorem sf_1_4 : SF 1 4 2 (.array .int) := ⟨_, rfl, rfl⟩
theorem sf_1_5 : SF 1 5 2 (.int) := ⟨_, rfl, rfl⟩
theorem sf_1_6 : SF 1 6 2 (.int) := ⟨_, rfl, rfl⟩
theorem sf_1_7 : SF 1 7 2 (.array .int) := ⟨_, rfl, rfl⟩
theorem sf_1_8 : SF 1 8 2 (.int) := ⟨_, rfl, rfl⟩
theorem sf_1_9 : SF 1 9 2 (.array .int) := ⟨_, rfl, rfl⟩
theorem sf_1_10 : SF 1 10 2 (.array .int) := ⟨_, rfl, rfl⟩
theorem sa_2 : SHP 2 = .inl (.int, 30) := rfl
theorem sa_3 : SHP 3 = .inl (.int, 30) := rfl
theorem sa_4 : SHP 4 = .inl (.int, 30) := rfl
theorem sa_5 : SHP 5 = .inl (.int, 20) := rfl
theorem sa_6 : SHP 6 = .inl (.int, 10) := rfl
theorem sa_7 : SHP 7 = .inl (.int, 10) := rfl
theorem sf_8_0 : SF 8 0 0 (.object "OneHand$Land") := ⟨_, rfl, rfl⟩
theorem sf_8_1 : SF 8 1 0 (.int) := ⟨_, rfl, rfl⟩
theorem sf_8_2 : SF 8 2 0 (.array .int) := ⟨_, rfl, rfl⟩
theorem sf_8_3 : SF 8 3 0 (.array .int) := ⟨_, rfl, rfl⟩
theorem sf_8_4 : SF 8 4 0 (.array .int) := ⟨_, rfl, rfl⟩
theorem sf_8_5 : SF 8 5 0 (.array .int) := ⟨_, rfl, rfl⟩
theorem sf_8_6 : SF 8 6 0 (.array .int) := ⟨_, rfl, rfl⟩
theorem sf_8_7 : SF 8 7 0 (.array .int) := ⟨_, rfl, rfl⟩
theorem sf_8_8 : SF 8 8 0 (.array .long) := ⟨_, rfl, rfl⟩
theorem sf_8_9 : SF 8 9 0 (.array .long) := ⟨_, rfl, rfl⟩
theorem sf_8_10 : SF 8 10 0 (.array .long) := ⟨_, rfl, rfl⟩
theorem sf_8_11 : SF 8 11 0 (.long) := ⟨_, rfl, rfl⟩
theorem sf_8_12 : SF 8 12 0 (.long) := ⟨_, rfl, rfl⟩
theorem sf_8_13 : SF 8 13 0 (.long) := ⟨_, rfl, rfl⟩
theorem sf_8_14 : SF 8 14 0 (.int) := ⟨_, rfl, rfl⟩
theorem sf_8_15 : SF 8 15 0 (.int) := ⟨_, rfl, rfl⟩
theorem sa_9 : SHP 9 = .inl (.int, 60) := rfl
theorem sa_10 : SHP 10 = .inl (.int, 60) := rfl
theorem sa_11 : SHP 11 = .inl (.int, 60) := rfl
theorem sa_12 : SHP 12 = .inl (.int, 60) := rfl
theorem sa_13 : SHP 13 = .inl (.int, 60) := rfl
theorem sa_14 : SHP 14 = .inl (.int, 60) := rfl
theorem sa_15 : SHP 15 = .inl (.long, 60) := rfl
theorem sa_16 : SHP 16 = .inl (.long, 60) := rfl
theorem sa_17 : SHP 17 = .inl (.long, 20) := rfl
theorem sf_18_0 : SF 18 0 4 (.int) := ⟨_, rfl, rfl⟩
theorem sf_18_1 : SF 18 1 4 (.array .int) := ⟨_, rfl, rfl⟩
theorem sf_18_2 : SF 18 2 4 (.array .int) := ⟨_, rfl, rfl⟩
theorem sf_18_3 : SF 18 3 4 (.array .int) := ⟨_, rfl, rfl⟩
theorem sa_19 : SHP 19 = .inl (.int, 40) := rfl
theorem sa_20 : SHP 20 = .inl (.int, 40) := rfl
theorem sa_21 : SHP 21 = .inl (.int, 40) := rfl
theorem sf_22_0 : SF 22 0 8 (.array .long) := ⟨_, rfl, rfl⟩
theorem sf_22_1 : SF 22 1 8 (.array .long) := ⟨_, rfl, rfl⟩
theorem sf_22_2 : SF 22 2 8 (.array .long) := ⟨_, rfl, rfl⟩
theorem sa_23 : SHP 23 = .inl (.long, 16) := rfl
theorem sa_24 : SHP 24 = .inl (.long, 16) := rfl
theorem sa_25 : SHP 25 = .inl (.long, 16) := rfl
theorem sf_26_0 : SF 26 0 8 (.array .long) := ⟨_, rfl, rfl⟩
theorem sf_26_1 : SF 26 1 8 (.array .long) := ⟨_, rfl, rfl⟩
theorem sf_26_2 : SF 26 2 8 (.array .long) := ⟨_, rfl, rfl⟩
theorem sa_27 : SHP 27 = .inl (.long, 16) := rfl
theorem sa_28 : SHP 28 = .inl (.long, 16) := rfl
theorem sa_29 : SHP 29 = .inl (.long, 16) := rfl
theorem sf_30_0 : SF 30 0 8 (.array .long) := ⟨_, rfl, rfl⟩
theorem sf_30_1 : SF 30 1 8 (.array .long) := ⟨_, rfl, rfl⟩
theorem sf_30_2 : SF 30 2 8 (.array .long) := ⟨_, rfl, rfl⟩
theorem sa_31 : SHP 31 = .inl (.long, 16) := rfl
theorem sa_32 : SHP 32 = .inl (.long, 16) := rfl
theorem sa_33 : SHP 33 = .inl (.long, 16) := rfl
theorem sf_34_0 : SF 34 0 3 (.object "OneHand$Land") := ⟨_, rfl, rfl⟩
theorem sf_34_1 : SF 34 1 3 (.object "OneHand$Deeds") := ⟨_, rfl, rfl⟩
theorem sf_34_2 : SF 34 2 3 (.object "OneHand$Sheet") := ⟨_, rfl, rfl⟩
theorem sf_34_3 : SF 34 3 3 (.long) := ⟨_, rfl, rfl⟩
theorem sf_34_4 : SF 34 4 3 (.array .long) := ⟨_, rfl, rfl⟩
theorem sf_34_5 : SF 34 5 3 (.array .long) := ⟨_, rfl, rfl⟩
theorem sf_34_6 : SF 34 6 3 (.array .int) := ⟨_, rfl, rfl⟩
theorem sf_34_7 : SF 34 7 3 (.array .int) := ⟨_, rfl, rfl⟩
theorem sf_34_8 : SF 34 8 3 (.array .int) := ⟨_, rfl, rfl⟩
theorem sf_34_9 : SF 34 9 3 (.array .int) := ⟨_, rfl, rfl⟩
theorem sf_34_10 : SF 34 10 3 (.array .int) := ⟨_, rfl, rfl⟩
theorem sf_34_11 : SF 34 11 3 (.array .int) := ⟨_, rfl, rfl⟩
theorem sf_34_12 : SF 34 12 3 (.array .int) := ⟨_, rfl, rfl⟩
theorem sf_34_13 : SF 34 13 3 (.array .boolean) := ⟨_, rfl, rfl⟩
theorem sa_35 : SHP 35 = .inl (.long, 60) := rfl
theorem sa_36 : SHP 36 = .inl (.long, 60) := rfl
theorem sa_37 : SHP 37 = .inl (.int, 16) := rfl
theorem sa_38 : SHP 38 = .inl (.int, 256) := rfl
theorem sa_39 : SHP 39 = .inl (.int, 16) := rfl
theorem sa_40 : SHP 40 = .inl (.int, 16) := rfl
theorem sa_41 : SHP 41 = .inl (.int, 16) := rfl
theorem sa_42 : SHP 42 = .inl (.int, 512) := rfl
theorem sa_43 : SHP 43 = .inl (.int, 256) := rfl
theorem sa_44 : SHP 44 = .inl (.boolean, 64) := rfl
theorem sf_45_0 : SF 45 0 5 (.array .int) := ⟨_, rfl, rfl⟩
theorem sf_45_1 : SF 45 1 5 (.int) := ⟨_, rfl, rfl⟩
theorem sf_45_2 : SF 45 2 5 (.array .int) := ⟨_, rfl, rfl⟩
theorem sf_45_3 : SF 45 3 5 (.array .int) := ⟨_, rfl, rfl⟩
theorem sf_45_4 : SF 45 4 5 (.array .int) := ⟨_, rfl, rfl⟩
theorem sf_45_5 : SF 45 5 5 (.array .int) := ⟨_, rfl, rfl⟩
theorem sf_45_6 : SF 45 6 5 (.array .int) := ⟨_, rfl, rfl⟩
theorem sf_45_7 : SF 45 7 5 (.array .int) := ⟨_, rfl, rfl⟩
theorem sf_45_8 : SF 45 8 5 (.boolean) := ⟨_, rfl, rfl⟩
theorem sf_45_9 : SF 45 9 5 (.int) := ⟨_, rfl, rfl⟩
theorem sf_45_10 : SF 45 10 5 (.int) := ⟨_, rfl, rfl⟩
theorem sf_45_11 : SF 45 11 5 (.int) := ⟨_, rfl, rfl⟩
theorem sf_45_12 : SF 45 12 5 (.long) := ⟨_, rfl, rfl⟩
theorem sf_45_13 : SF 45 13 5 (.long) := ⟨_, rfl, rfl⟩
theorem sa_46 : SHP 46 = .inl (.int, 9) := rfl
theorem sa_47 : SHP 47 = .inl (.int, 9) := rfl
theorem sa_48 : SHP 48 = .inl (.int, 9) := rfl
theorem sa_49 : SHP 49 = .inl (.int, 512) := rfl
theorem sa_50 : SHP 50 = .inl (.int, 9) := rfl
theorem sa_51 : SHP 51 = .inl (.int, 9) := rfl
theorem sa_52 : SHP 52 = .inl (.int, 9) := rfl
theorem sf_53_0 : SF 53 0 1 (.int) := ⟨_, rfl, rfl⟩
theorem sf_53_1 : SF 53 1 1 (.long) := ⟨_, rfl, rfl⟩
theorem sf_53_2 : SF 53 2 1 (.array .long) := ⟨_, rfl, rfl⟩
theorem sf_53_3 : SF 53 3 1 (.array .long) := ⟨_, rfl, rfl⟩
theorem sf_53_4 : SF 53 4 1 (.array .int) := ⟨_, rfl, rfl⟩
theorem sa_54 : SHP 54 = .inl (.long, 60) := rfl
theorem sa_55 : SHP 55 = .inl (.long, 60) := rfl
theorem sa_56 : SHP 56 = .inl (.int, 3600) := rfl
theorem sf_57_0 : SF 57 0 9 (.object "OneHand$Land") := ⟨_, rfl, rfl⟩
theorem sf_57_1 : SF 57 1 9 (.object "OneHand$Deeds") := ⟨_, rfl, rfl⟩
theorem sf_57_2 : SF 57 2 9 (.int) := ⟨_, rfl, rfl⟩
theorem sf_57_3 : SF 57 3 9 (.array .int) := ⟨_, rfl, rfl⟩
theorem sf_57_4 : SF 57 4 9 (.array .int) := ⟨_, rfl, rfl⟩
theorem sf_57_5 : SF 57 5 9 (.array .int) := ⟨_, rfl, rfl⟩
theorem sf_57_6 : SF 57 6 9 (.array .int) := ⟨_, rfl, rfl⟩
theorem sf_57_7 : SF 57 7 9 (.array .int) := ⟨_, rfl, rfl⟩
theorem sf_57_8 : SF 57 8 9 (.int) := ⟨_, rfl, rfl⟩
theorem sf_57_9 : SF 57 9 9 (.array .int) := ⟨_, rfl, rfl⟩
theorem sf_57_10 : SF 57 10 9 (.array .int) := ⟨_, rfl, rfl⟩
theorem sa_58 : SHP 58 = .inl (.int, 120) := rfl
theorem sa_59 : SHP 59 = .inl (.int, 120) := rfl
theorem sa_60 : SHP 60 = .inl (.int, 60) := rfl
theorem sa_61 : SHP 61 = .inl (.int, 30) := rfl
theorem sa_62 : SHP 62 = .inl (.int, 30) := rfl
theorem sa_63 : SHP 63 = .inl (.int, 20) := rfl
theorem sa_64 : SHP 64 = .inl (.int, 20) := rfl
theorem sf_65_0 : SF 65 0 7 (.int) := ⟨_, rfl, rfl⟩
theorem sf_65_1 : SF 65 1 7 (.array .int) := ⟨_, rfl, rfl⟩
theorem sf_65_2 : SF 65 2 7 (.array .int) := ⟨_, rfl, rfl⟩
theorem sf_65_3 : SF 65 3 7 (.array .int) := ⟨_, rfl, rfl⟩
theorem sf_65_4 : SF 65 4 7 (.array .int) := ⟨_, rfl, rfl⟩
theorem sf_65_5 : SF 65 5 7 (.array .int) := ⟨_, rfl, rfl⟩
theorem sf_65_6 : SF 65 6 7 (.int) := ⟨_, rfl, rfl⟩
theorem sf_65_7 : SF 65 7 7 (.array .long) := ⟨_, rfl, rfl⟩
theorem sf_65_8 : SF 65 8 7 (.array .long) := ⟨_, rfl, rfl⟩
theorem sa_66 : SHP 66 = .inl (.int, 12) := rfl
theorem sa_67 : SHP 67 = .inl (.int, 12) := rfl
theorem sa_68 : SHP 68 = .inl (.int, 12) := rfl
theorem sa_69 : SHP 69 = .inl (.int, 12) := rfl
theorem sa_70 : SHP 70 = .inl (.int, 300) := rfl
theorem sa_71 : SHP 71 = .inl (.long, 7) := rfl
theorem sa_72 : SHP 72 = .inl (.long, 300) := rfl
theorem sf_73_0 : SF 73 0 6 (.object "OneHand$Rights") := ⟨_, rfl, rfl⟩
theorem sf_73_1 : SF 73 1 6 (.int) := ⟨_, rfl, rfl⟩
theorem sf_73_2 : SF 73 2 6 (.int) := ⟨_, rfl, rfl⟩
theorem sf_73_3 : SF 73 3 6 (.array .int) := ⟨_, rfl, rfl⟩
theorem sf_73_4 : SF 73 4 6 (.array .int) := ⟨_, rfl, rfl⟩
theorem sf_73_5 : SF 73 5 6 (.array .int) := ⟨_, rfl, rfl⟩
theorem sf_73_6 : SF 73 6 6 (.int) := ⟨_, rfl, rfl⟩
theorem sf_73_7 : SF 73 7 6 (.int) := ⟨_, rfl, rfl⟩
theorem sf_73_8 : SF 73 8 6 (.int) := ⟨_, rfl, rfl⟩
theorem sf_74_0 : SF 74 0 7 (.int) := ⟨_, rfl, rfl⟩
theorem sf_74_1 : SF 74 1 7 (.array .int) := ⟨_, rfl, rfl⟩
theorem sf_74_2 : SF 74 2 7 (.array .int) := ⟨_, rfl, rfl⟩
theorem sf_74_3 : SF 74 3 7 (.array .int) := ⟨_, rfl, rfl⟩
theorem sf_74_4 : SF 74 4 7 (.array .int) := ⟨_, rfl, rfl⟩
theorem sf_74_5 : SF 74 5 7 (.array .int) := ⟨_, rfl, rfl⟩
theorem sf_74_6 : SF 74 6 7 (.int) := ⟨_, rfl, rfl⟩
theorem sf_74_7 : SF 74 7 7 (.array .long) := ⟨_, rfl, rfl⟩
theorem sf_74_8 : SF 74 8 7 (.array .long) := ⟨_, rfl, rfl⟩
theorem sa_75 : SHP 75 = .inl (.int, 12) := rfl
theorem sa_76 : SHP 76 = .inl (.int, 12) := rfl
theorem sa_77 : SHP 77 = .inl (.int, 12) := rfl
theorem sa_78 : SHP 78 = .inl (.int, 12) := rfl
theorem sa_79 : SHP 79 = .inl (.int, 300) := rfl
theorem sa_80 : SHP 80 = .inl (.long, 7) := rfl
theorem sa_81 : SHP 81 = .inl (.long, 300) := rfl
theorem sa_82 : SHP 82 = .inl (.int, 301) := rfl
theorem sa_83 : SHP 83 = .inl (.int, 301) := rfl
theorem sa_84 : SHP 84 = .inl (.int, 301) := rfl
theorem sf_85_0 : SF 85 0 10 (.array .int) := ⟨_, rfl, rfl⟩
theorem sf_85_1 : SF 85 1 10 (.array .int) := ⟨_, rfl, rfl⟩
theorem sf_85_2 : SF 85 2 10 (.array .long) := ⟨_, rfl, rfl⟩
theorem sa_86 : SHP 86 = .inl (.int, 4) := rfl
theorem sa_87 : SHP 87 = .inl (.int, 4) := rfl
theorem sa_88 : SHP 88 = .inl (.long, 160) := rfl
theorem sa_89 : SHP 89 = .inl (.int, 300) := rfl
theorem sa_90 : SHP 90 = .inl (.int, 60) := rfl
theorem sf_91_0 : SF 91 0 12 (.int) := ⟨_, rfl, rfl⟩
theorem sf_91_1 : SF 91 1 12 (.int) := ⟨_, rfl, rfl⟩
theorem sf_91_2 : SF 91 2 12 (.int) := ⟨_, rfl, rfl⟩
theorem sf_91_3 : SF 91 3 12 (.int) := ⟨_, rfl, rfl⟩
theorem sf_91_4 : SF 91 4 12 (.int) := ⟨_, rfl, rfl⟩
theorem sf_91_5 : SF 91 5 12 (.int) := ⟨_, rfl, rfl⟩
theorem sf_91_6 : SF 91 6 12 (.int) := ⟨_, rfl, rfl⟩
theorem sf_91_7 : SF 91 7 12 (.int) := ⟨_, rfl, rfl⟩
theorem sf_91_8 : SF 91 8 12 (.int) := ⟨_, rfl, rfl⟩
theorem sf_91_9 : SF 91 9 12 (.array .int) := ⟨_, rfl, rfl⟩
theorem sf_91_10 : SF 91 10 12 (.array .int) := ⟨_, rfl, rfl⟩
theorem sf_91_11 : SF 91 11 12 (.array .int) := ⟨_, rfl, rfl⟩
theorem sf_91_12 : SF 91 12 12 (.array .int) := ⟨_, rfl, rfl⟩
theorem sf_91_13 : SF 91 13 12 (.array .int) := ⟨_, rfl, rfl⟩
theorem sf_91_14 : SF 91 14 12 (.array .int) := ⟨_, rfl, rfl⟩
theorem sf_91_15 : SF 91 15 12 (.array .int) := ⟨_, rfl, rfl⟩
theorem sf_91_16 : SF 91 16 12 (.array .int) := ⟨_, rfl, rfl⟩
theorem sf_91_17 : SF 91 17 12 (.array .int) := ⟨_, rfl, rfl⟩
theorem sf_91_18 : SF 91 18 12 (.array .int) := ⟨_, rfl, rfl⟩
theorem sf_91_19 : SF 91 19 12 (.array .int) := ⟨_, rfl, rfl⟩
theorem sf_91_20 : SF 91 20 12 (.array .int) := ⟨_, rfl, rfl⟩
theorem sf_91_21 : SF 91 21 12 (.array .boolean) := ⟨_, rfl, rfl⟩
theorem sf_91_22 : SF 91 22 12 (.array .boolean) := ⟨_, rfl, rfl⟩
theorem sf_91_23 : SF 91 23 12 (.array .boolean) := ⟨_, rfl, rfl⟩
theorem sf_91_24 : SF 91 24 12 (.array .int) := ⟨_, rfl, rfl⟩
theorem sf_91_25 : SF 91 25 12 (.array .int) := ⟨_, rfl, rfl⟩
theorem sf_91_26 : SF 91 26 12 (.array .int) := ⟨_, rfl, rfl⟩
theorem sf_91_27 : SF 91 27 12 (.array .int) := ⟨_, rfl, rfl⟩
theorem sf_91_28 : SF 91 28 12 (.array .int) := ⟨_, rfl, rfl⟩
theorem sf_91_29 : SF 91 29 12 (.int) := ⟨_, rfl, rfl⟩
theorem sf_91_30 : SF 91 30 12 (.int) := ⟨_, rfl, rfl⟩
theorem sf_91_31 : SF 91 31 12 (.array .int) := ⟨_, rfl, rfl⟩
theorem sf_91_32 : SF 91 32 12 (.array .int) := ⟨_, rfl, rfl⟩
theorem sf_91_33 : SF 91 33 12 (.array .int) := ⟨_, rfl, rfl⟩
theorem sf_91_34 : SF 91 34 12 (.array .int) := ⟨_, rfl, rfl⟩
theorem sf_91_35 : SF 91 35 12 (.array .int) := ⟨_, rfl, rfl⟩
theorem sf_91_36 : SF 91 36 12 (.int) := ⟨_, rfl, rfl⟩
theorem sf_91_37 : SF 91 37 12 (.int) := ⟨_, rfl, rfl⟩
theorem sf_91_38 : SF 91 38 12 (.int) := ⟨_, rfl, rfl⟩
theorem sf_91_39 : SF 91 39 12 (.array .int) := ⟨_, rfl, rfl⟩
theorem sf_91_40 : SF 91 40 12 (.array .int) := ⟨_, rfl, rfl⟩
theorem sf_91_41 : SF 91 41 12 (.array .int) := ⟨_, rfl, rfl⟩
theorem sf_91_42 : SF 91 42 12 (.int) := ⟨_, rfl, rfl⟩
theorem sf_91_43 : SF 91 43 12 (.array .int) := ⟨_, rfl, rfl⟩
theorem sf_91_44 : SF 91 44 12 (.array .int) := ⟨_, rfl, rfl⟩
theorem sf_91_45 : SF 91 45 12 (.array .int) := ⟨_, rfl, rfl⟩
theorem sf_91_46 : SF 91 46 12 (.array .int) := ⟨_, rfl, rfl⟩
theorem sf_91_47 : SF 91 47 12 (.array .int) := ⟨_, rfl, rfl⟩
theorem sf_91_48 : SF 91 48 12 (.int) := ⟨_, rfl, rfl⟩
theorem sf_91_49 : SF 91 49 12 (.int) := ⟨_, rfl, rfl⟩
theorem sf_91_50 : SF 91 50 12 (.boolean) := ⟨_, rfl, rfl⟩
theorem sf_91_51 : SF 91 51 12 (.int) := ⟨_, rfl, rfl⟩
theorem sf_91_52 : SF 91 52 12 (.array .int) := ⟨_, rfl, rfl⟩
theorem sf_91_53 : SF 91 53 12 (.array .int) := ⟨_, rfl, rfl⟩
theorem sf_91_54 : SF 91 54 12 (.int) := ⟨_, rfl, rfl⟩
theorem sf_91_55 : SF 91 55 12 (.array .int) := ⟨_, rfl, rfl⟩
theorem sf_91_56 : SF 91 56 12 (.array .int) := ⟨_, rfl, rfl⟩
theorem sf_91_57 : SF 91 57 12 (.array .int) := ⟨_, rfl, rfl⟩
theorem sf_91_58 : SF 91 58 12 (.array .int) := ⟨_, rfl, rfl⟩
theorem sf_91_59 : SF 91 59 12 (.array .int) := ⟨_, rfl, rfl⟩
theorem sf_91_60 : SF 91 60 12 (.array .int) := ⟨_, rfl, rfl⟩
theorem sf_91_61 : SF 91 61 12 (.array .boolean) := ⟨_, rfl, rfl⟩
theorem sf_91_62 : SF 91 62 12 (.array .int) := ⟨_, rfl, rfl⟩
theorem sf_91_63 : SF 91 63 12 (.array .int) := ⟨_, rfl, rfl⟩
theorem sf_91_64 : SF 91 64 12 (.array .int) := ⟨_, rfl, rfl⟩
theorem sf_91_65 : SF 91 65 12 (.array .int) := ⟨_, rfl, rfl⟩
theorem sf_91_66 : SF 91 66 12 (.array .int) := ⟨_, rfl, rfl⟩
theorem sf_91_67 : SF 91 67 12 (.int) := ⟨_, rfl, rfl⟩
theorem sf_91_68 : SF 91 68 12 (.int) := ⟨_, rfl, rfl⟩
theorem sf_91_69 : SF 91 69 12 (.int) := ⟨_, rfl, rfl⟩
theorem sf_91_70 : SF 91 70 12 (.int) := ⟨_, rfl, rfl⟩
theorem sf_91_71 : SF 91 71 12 (.int) := ⟨_, rfl, rfl⟩
theorem sf_91_72 : SF 91 72 12 (.int) := ⟨_, rfl, rfl⟩
theorem sf_91_73 : SF 91 73 12 (.int) := ⟨_, rfl, rfl⟩
theorem sf_91_74 : SF 91 74 12 (.int) := ⟨_, rfl, rfl⟩
theorem sf_91_75 : SF 91 75 12 (.int) := ⟨_, rfl, rfl⟩
theorem sf_91_76 : SF 91 76 12 (.int) := ⟨_, rfl, rfl⟩
theorem sf_91_77 : SF 91 77 12 (.int) := ⟨_, rfl, rfl⟩
theorem sf_91_78 : SF 91 78 12 (.int) := ⟨_, rfl, rfl⟩
theorem sf_91_79 : SF 91 79 12 (.int) := ⟨_, rfl, rfl⟩
theorem sf_91_80 : SF 91 80 12 (.array .int) := ⟨_, rfl, rfl⟩
theorem sf_91_81 : SF 91 81 12 (.array .int) := ⟨_, rfl, rfl⟩
theorem sf_91_82 : SF 91 82 12 (.array .long) := ⟨_, rfl, rfl⟩
theorem sf_91_83 : SF 91 83 12 (.array .long) := ⟨_, rfl, rfl⟩
theorem sf_91_84 : SF 91 84 12 (.array .int) := ⟨_, rfl, rfl⟩
theorem sf_91_85 : SF 91 85 12 (.array .int) := ⟨_, rfl, rfl⟩
theorem sf_91_86 : SF 91 86 12 (.array .long) := ⟨_, rfl, rfl⟩
theorem sa_92 : SHP 92 = .inl (.int, 30) := rfl
theorem sa_93 : SHP 93 = .inl (.int, 30) := rfl
theorem sa_94 : SHP 94 = .inl (.int, 30) := rfl
theorem sa_95 : SHP 95 = .inl (.int, 20) := rfl
theorem sa_96 : SHP 96 = .inl (.int, 10) := rfl
theorem sa_97 : SHP 97 = .inl (.int, 10) := rfl
theorem sa_98 : SHP 98 = .inl (.int, 60) := rfl
theorem sa_99 : SHP 99 = .inl (.int, 60) := rfl
theorem sa_100 : SHP 100 = .inl (.int, 60) := rfl
theorem sa_101 : SHP 101 = .inl (.int, 60) := rfl
theorem sa_102 : SHP 102 = .inl (.int, 60) := rfl
theorem sa_103 : SHP 103 = .inl (.int, 60) := rfl
theorem sa_104 : SHP 104 = .inl (.boolean, 60) := rfl
theorem sa_105 : SHP 105 = .inl (.boolean, 60) := rfl
theorem sa_106 : SHP 106 = .inl (.boolean, 3600) := rfl
theorem sa_107 : SHP 107 = .inl (.int, 960) := rfl
theorem sa_108 : SHP 108 = .inl (.int, 960) := rfl
theorem sa_109 : SHP 109 = .inl (.int, 40) := rfl
theorem sa_110 : SHP 110 = .inl (.int, 40) := rfl
theorem sa_111 : SHP 111 = .inl (.int, 40) := rfl
theorem sa_112 : SHP 112 = .inl (.int, 960) := rfl
theorem sa_113 : SHP 113 = .inl (.int, 3600) := rfl
theorem sa_114 : SHP 114 = .inl (.int, 16) := rfl
theorem sa_115 : SHP 115 = .inl (.int, 384) := rfl
theorem sa_116 : SHP 116 = .inl (.int, 192) := rfl
theorem sa_117 : SHP 117 = .inl (.int, 256) := rfl
theorem sa_118 : SHP 118 = .inl (.int, 16) := rfl
theorem sa_119 : SHP 119 = .inl (.int, 16) := rfl
theorem sa_120 : SHP 120 = .inl (.int, 9) := rfl
theorem sa_121 : SHP 121 = .inl (.int, 9) := rfl
theorem sa_122 : SHP 122 = .inl (.int, 9) := rfl
theorem sa_123 : SHP 123 = .inl (.int, 81) := rfl
theorem sa_124 : SHP 124 = .inl (.int, 81) := rfl
theorem sa_125 : SHP 125 = .inl (.int, 60) := rfl
theorem sa_126 : SHP 126 = .inl (.int, 3600) := rfl
theorem sa_127 : SHP 127 = .inl (.int, 120) := rfl
theorem sa_128 : SHP 128 = .inl (.int, 120) := rfl
theorem sa_129 : SHP 129 = .inl (.int, 30) := rfl
theorem sa_130 : SHP 130 = .inl (.int, 30) := rfl
theorem sa_131 : SHP 131 = .inl (.int, 20) := rfl
theorem sa_132 : SHP 132 = .inl (.int, 20) := rfl
theorem sa_133 : SHP 133 = .inl (.boolean, 60) := rfl
theorem sa_134 : SHP 134 = .inl (.int, 960) := rfl
theorem sa_135 : SHP 135 = .inl (.int, 60) := rfl
theorem sa_136 : SHP 136 = .inl (.int, 300) := rfl
theorem sa_137 : SHP 137 = .inl (.int, 500) := rfl
theorem sa_138 : SHP 138 = .inl (.int, 500) := rfl
theorem sa_139 : SHP 139 = .inl (.int, 48) := rfl
theorem sa_140 : SHP 140 = .inl (.int, 48) := rfl
theorem sa_141 : SHP 141 = .inl (.long, 7) := rfl
theorem sa_142 : SHP 142 = .inl (.long, 64) := rfl
theorem sa_143 : SHP 143 = .inl (.int, 4) := rfl
theorem sa_144 : SHP 144 = .inl (.int, 4) := rfl
theorem sa_145 : SHP 145 = .inl (.long, 160) := rfl
theorem sa_146 : SHP 146 = .inl (.long, 1) := rfl
abbrev Hr : Type := (Nat → Nat → Option Nat) × Nat
/-- the references that stay -/
def rfL : List (Nat × Nat × Nat) := [(0, 0, 1), (0, 1, 8), (0, 2, 18), (0, 3, 22), (0, 4, 26), (0, 5, 30), (0, 6, 34), (0, 7, 45), (0, 8, 53), (0, 9, 57), (0, 10, 65), (0, 11, 73), (0, 12, 85), (0, 13, 89), (0, 15, 90), (1, 2, 2), (1, 3, 3), (1, 4, 4), (1, 7, 5), (1, 9, 6), (1, 10, 7), (8, 0, 1), (8, 2, 9), (8, 3, 10), (8, 4, 11), (8, 5, 12), (8, 6, 13), (8, 7, 14), (8, 8, 15), (8, 9, 16), (8, 10, 17), (18, 1, 19), (18, 2, 20), (18, 3, 21), (22, 0, 23), (22, 1, 24), (22, 2, 25), (26, 0, 27), (26, 1, 28), (26, 2, 29), (30, 0, 31), (30, 1, 32), (30, 2, 33), (34, 0, 1), (34, 1, 8), (34, 4, 35), (34, 5, 36), (34, 6, 37), (34, 7, 38), (34, 8, 39), (34, 9, 40), (34, 10, 41), (34, 11, 42), (34, 12, 43), (34, 13, 44), (45, 0, 46), (45, 2, 47), (45, 3, 48), (45, 4, 49), (45, 5, 50), (45, 6, 51), (45, 7, 52), (53, 2, 54), (53, 3, 55), (53, 4, 56), (57, 0, 1), (57, 1, 8), (57, 3, 58), (57, 4, 59), (57, 5, 60), (57, 6, 61), (57, 7, 62), (57, 9, 63), (57, 10, 64), (65, 1, 66), (65, 2, 67), (65, 3, 68), (65, 4, 69), (65, 5, 70), (65, 7, 71), (65, 8, 72), (73, 0, 74), (73, 3, 82), (73, 4, 83), (73, 5, 84), (74, 1, 75), (74, 2, 76), (74, 3, 77), (74, 4, 78), (74, 5, 79), (74, 7, 80), (74, 8, 81), (85, 0, 86), (85, 1, 87), (85, 2, 88), (91, 9, 92), (91, 10, 93), (91, 11, 94), (91, 12, 95), (91, 13, 96), (91, 14, 97), (91, 15, 98), (91, 16, 99), (91, 17, 100), (91, 18, 101), (91, 19, 102), (91, 20, 103), (91, 21, 104), (91, 22, 105), (91, 23, 106), (91, 24, 107), (91, 25, 108), (91, 26, 109), (91, 27, 110), (91, 28, 111), (91, 31, 112), (91, 32, 113), (91, 33, 114), (91, 34, 115), (91, 35, 116), (91, 39, 117), (91, 40, 118), (91, 41, 119), (91, 43, 120), (91, 44, 121), (91, 45, 122), (91, 46, 123), (91, 47, 124), (91, 52, 125), (91, 53, 126), (91, 55, 127), (91, 56, 128), (91, 57, 129), (91, 58, 130), (91, 59, 131), (91, 60, 132), (91, 61, 133), (91, 62, 134), (91, 63, 135), (91, 64, 136), (91, 65, 137), (91, 66, 138), (91, 80, 139), (91, 81, 140), (91, 82, 141), (91, 83, 142), (91, 84, 143), (91, 85, 144), (91, 86, 145)]
def Std (r : Hr) : Prop := (∀ q ∈ rfL, r.1 q.1 q.2.1 = some q.2.2) ∧ r.2 = 147
theorem sr_0_0 : (0, 0, 1) ∈ rfL := List.mem_of_getElem? (i := 0) rfl
theorem sr_0_1 : (0, 1, 8) ∈ rfL := List.mem_of_getElem? (i := 1) rfl
theorem sr_0_2 : (0, 2, 18) ∈ rfL := List.mem_of_getElem? (i := 2) rfl
theorem sr_0_3 : (0, 3, 22) ∈ rfL := List.mem_of_getElem? (i := 3) rfl
theorem sr_0_4 : (0, 4, 26) ∈ rfL := List.mem_of_getElem? (i := 4) rfl
theorem sr_0_5 : (0, 5, 30) ∈ rfL := List.mem_of_getElem? (i := 5) rfl
theorem sr_0_6 : (0, 6, 34) ∈ rfL := List.mem_of_getElem? (i := 6) rfl
theorem sr_0_7 : (0, 7, 45) ∈ rfL := List.mem_of_getElem? (i := 7) rfl
theorem sr_0_8 : (0, 8, 53) ∈ rfL := List.mem_of_getElem? (i := 8) rfl
theorem sr_0_9 : (0, 9, 57) ∈ rfL := List.mem_of_getElem? (i := 9) rfl
theorem sr_0_10 : (0, 10, 65) ∈ rfL := List.mem_of_getElem? (i := 10) rfl
theorem sr_0_11 : (0, 11, 73) ∈ rfL := List.mem_of_getElem? (i := 11) rfl
theorem sr_0_12 : (0, 12, 85) ∈ rfL := List.mem_of_getElem? (i := 12) rfl
theorem sr_0_13 : (0, 13, 89) ∈ rfL := List.mem_of_getElem? (i := 13) rfl
theorem sr_0_15 : (0, 15, 90) ∈ rfL := List.mem_of_getElem? (i := 14) rfl
theorem sr_1_2 : (1, 2, 2) ∈ rfL := List.mem_of_getElem? (i := 15) rfl
theorem sr_1_3 : (1, 3, 3) ∈ rfL := List.mem_of_getElem? (i := 16) rfl
theorem sr_1_4 : (1, 4, 4) ∈ rfL := List.mem_of_getElem? (i := 17) rfl
theorem sr_1_7 : (1, 7, 5) ∈ rfL := List.mem_of_getElem? (i := 18) rfl
theorem sr_1_9 : (1, 9, 6) ∈ rfL := List.mem_of_getElem? (i := 19) rfl
theorem sr_1_10 : (1, 10, 7) ∈ rfL := List.mem_of_getElem? (i := 20) rfl
theorem sr_8_0 : (8, 0, 1) ∈ rfL := List.mem_of_getElem? (i := 21) rfl
theorem sr_8_2 : (8, 2, 9) ∈ rfL := List.mem_of_getElem? (i := 22) rfl
theorem sr_8_3 : (8, 3, 10) ∈ rfL := List.mem_of_getElem? (i := 23) rfl
theorem sr_8_4 : (8, 4, 11) ∈ rfL := List.mem_of_getElem? (i := 24) rfl
theorem sr_8_5 : (8, 5, 12) ∈ rfL := List.mem_of_getElem? (i := 25) rfl
theorem sr_8_6 : (8, 6, 13) ∈ rfL := List.mem_of_getElem? (i := 26) rfl
theorem sr_8_7 : (8, 7, 14) ∈ rfL := List.mem_of_getElem? (i := 27) rfl
theorem sr_8_8 : (8, 8, 15) ∈ rfL := List.mem_of_getElem? (i := 28) rfl
theorem sr_8_9 : (8, 9, 16) ∈ rfL := List.mem_of_getElem? (i := 29) rfl
theorem sr_8_10 : (8, 10, 17) ∈ rfL := List.mem_of_getElem? (i := 30) rfl
theorem sr_18_1 : (18, 1, 19) ∈ rfL := List.mem_of_getElem? (i := 31) rfl
theorem sr_18_2 : (18, 2, 20) ∈ rfL := List.mem_of_getElem? (i := 32) rfl
theorem sr_18_3 : (18, 3, 21) ∈ rfL := List.mem_of_getElem? (i := 33) rfl
theorem sr_22_0 : (22, 0, 23) ∈ rfL := List.mem_of_getElem? (i := 34) rfl
theorem sr_22_1 : (22, 1, 24) ∈ rfL := List.mem_of_getElem? (i := 35) rfl
theorem sr_22_2 : (22, 2, 25) ∈ rfL := List.mem_of_getElem? (i := 36) rfl
theorem sr_26_0 : (26, 0, 27) ∈ rfL := List.mem_of_getElem? (i := 37) rfl
theorem sr_26_1 : (26, 1, 28) ∈ rfL := List.mem_of_getElem? (i := 38) rfl
theorem sr_26_2 : (26, 2, 29) ∈ rfL := List.mem_of_getElem? (i := 39) rfl
theorem sr_30_0 : (30, 0, 31) ∈ rfL := List.mem_of_getElem? (i := 40) rfl
theorem sr_30_1 : (30, 1, 32) ∈ rfL := List.mem_of_getElem? (i := 41) rfl
theorem sr_30_2 : (30, 2, 33) ∈ rfL := List.mem_of_getElem? (i := 42) rfl
theorem sr_34_0 : (34, 0, 1) ∈ rfL := List.mem_of_getElem? (i := 43) rfl
theorem sr_34_1 : (34, 1, 8) ∈ rfL := List.mem_of_getElem? (i := 44) rfl
theorem sr_34_4 : (34, 4, 35) ∈ rfL := List.mem_of_getElem? (i := 45) rfl
theorem sr_34_5 : (34, 5, 36) ∈ rfL := List.mem_of_getElem? (i := 46) rfl
theorem sr_34_6 : (34, 6, 37) ∈ rfL := List.mem_of_getElem? (i := 47) rfl
theorem sr_34_7 : (34, 7, 38) ∈ rfL := List.mem_of_getElem? (i := 48) rfl
theorem sr_34_8 : (34, 8, 39) ∈ rfL := List.mem_of_getElem? (i := 49) rfl
theorem sr_34_9 : (34, 9, 40) ∈ rfL := List.mem_of_getElem? (i := 50) rfl
theorem sr_34_10 : (34, 10, 41) ∈ rfL := List.mem_of_getElem? (i := 51) rfl
theorem sr_34_11 : (34, 11, 42) ∈ rfL := List.mem_of_getElem? (i := 52) rfl
theorem sr_34_12 : (34, 12, 43) ∈ rfL := List.mem_of_getElem? (i := 53) rfl
theorem sr_34_13 : (34, 13, 44) ∈ rfL := List.mem_of_getElem? (i := 54) rfl
theorem sr_45_0 : (45, 0, 46) ∈ rfL := List.mem_of_getElem? (i := 55) rfl
theorem sr_45_2 : (45, 2, 47) ∈ rfL := List.mem_of_getElem? (i := 56) rfl
theorem sr_45_3 : (45, 3, 48) ∈ rfL := List.mem_of_getElem? (i := 57) rfl
theorem sr_45_4 : (45, 4, 49) ∈ rfL := List.mem_of_getElem? (i := 58) rfl
theorem sr_45_5 : (45, 5, 50) ∈ rfL := List.mem_of_getElem? (i := 59) rfl
theorem sr_45_6 : (45, 6, 51) ∈ rfL := List.mem_of_getElem? (i := 60) rfl
theorem sr_45_7 : (45, 7, 52) ∈ rfL := List.mem_of_getElem? (i := 61) rfl
theorem sr_53_2 : (53, 2, 54) ∈ rfL := List.mem_of_getElem? (i := 62) rfl
theorem sr_53_3 : (53, 3, 55) ∈ rfL := List.mem_of_getElem? (i := 63) rfl
theorem sr_53_4 : (53, 4, 56) ∈ rfL := List.mem_of_getElem? (i := 64) rfl
theorem sr_57_0 : (57, 0, 1) ∈ rfL := List.mem_of_getElem? (i := 65) rfl
theorem sr_57_1 : (57, 1, 8) ∈ rfL := List.mem_of_getElem? (i := 66) rfl
theorem sr_57_3 : (57, 3, 58) ∈ rfL := List.mem_of_getElem? (i := 67) rfl
theorem sr_57_4 : (57, 4, 59) ∈ rfL := List.mem_of_getElem? (i := 68) rfl
theorem sr_57_5 : (57, 5, 60) ∈ rfL := List.mem_of_getElem? (i := 69) rfl
theorem sr_57_6 : (57, 6, 61) ∈ rfL := List.mem_of_getElem? (i := 70) rfl
theorem sr_57_7 : (57, 7, 62) ∈ rfL := List.mem_of_getElem? (i := 71) rfl
theorem sr_57_9 : (57, 9, 63) ∈ rfL := List.mem_of_getElem? (i := 72) rfl
theorem sr_57_10 : (57, 10, 64) ∈ rfL := List.mem_of_getElem? (i := 73) rfl
theorem sr_65_1 : (65, 1, 66) ∈ rfL := List.mem_of_getElem? (i := 74) rfl
theorem sr_65_2 : (65, 2, 67) ∈ rfL := List.mem_of_getElem? (i := 75) rfl
theorem sr_65_3 : (65, 3, 68) ∈ rfL := List.mem_of_getElem? (i := 76) rfl
theorem sr_65_4 : (65, 4, 69) ∈ rfL := List.mem_of_getElem? (i := 77) rfl
theorem sr_65_5 : (65, 5, 70) ∈ rfL := List.mem_of_getElem? (i := 78) rfl
theorem sr_65_7 : (65, 7, 71) ∈ rfL := List.mem_of_getElem? (i := 79) rfl
theorem sr_65_8 : (65, 8, 72) ∈ rfL := List.mem_of_getElem? (i := 80) rfl
theorem sr_73_0 : (73, 0, 74) ∈ rfL := List.mem_of_getElem? (i := 81) rfl
theorem sr_73_3 : (73, 3, 82) ∈ rfL := List.mem_of_getElem? (i := 82) rfl
theorem sr_73_4 : (73, 4, 83) ∈ rfL := List.mem_of_getElem? (i := 83) rfl
theorem sr_73_5 : (73, 5, 84) ∈ rfL := List.mem_of_getElem? (i := 84) rfl
theorem sr_74_1 : (74, 1, 75) ∈ rfL := List.mem_of_getElem? (i := 85) rfl
theorem sr_74_2 : (74, 2, 76) ∈ rfL := List.mem_of_getElem? (i := 86) rfl
theorem sr_74_3 : (74, 3, 77) ∈ rfL := List.mem_of_getElem? (i := 87) rfl
theorem sr_74_4 : (74, 4, 78) ∈ rfL := List.mem_of_getElem? (i := 88) rfl
theorem sr_74_5 : (74, 5, 79) ∈ rfL := List.mem_of_getElem? (i := 89) rfl
theorem sr_74_7 : (74, 7, 80) ∈ rfL := List.mem_of_getElem? (i := 90) rfl
theorem sr_74_8 : (74, 8, 81) ∈ rfL := List.mem_of_getElem? (i := 91) rfl
theorem sr_85_0 : (85, 0, 86) ∈ rfL := List.mem_of_getElem? (i := 92) rfl
theorem sr_85_1 : (85, 1, 87) ∈ rfL := List.mem_of_getElem? (i := 93) rfl
theorem sr_85_2 : (85, 2, 88) ∈ rfL := List.mem_of_getElem? (i := 94) rfl
theorem sr_91_9 : (91, 9, 92) ∈ rfL := List.mem_of_getElem? (i := 95) rfl
theorem sr_91_10 : (91, 10, 93) ∈ rfL := List.mem_of_getElem? (i := 96) rfl
theorem sr_91_11 : (91, 11, 94) ∈ rfL := List.mem_of_getElem? (i := 97) rfl
theorem sr_91_12 : (91, 12, 95) ∈ rfL := List.mem_of_getElem? (i := 98) rfl
theorem sr_91_13 : (91, 13, 96) ∈ rfL := List.mem_of_getElem? (i := 99) rfl
theorem sr_91_14 : (91, 14, 97) ∈ rfL := List.mem_of_getElem? (i := 100) rfl
theorem sr_91_15 : (91, 15, 98) ∈ rfL := List.mem_of_getElem? (i := 101) rfl
theorem sr_91_16 : (91, 16, 99) ∈ rfL := List.mem_of_getElem? (i := 102) rfl
theorem sr_91_17 : (91, 17, 100) ∈ rfL := List.mem_of_getElem? (i := 103) rfl
theorem sr_91_18 : (91, 18, 101) ∈ rfL := List.mem_of_getElem? (i := 104) rfl
theorem sr_91_19 : (91, 19, 102) ∈ rfL := List.mem_of_getElem? (i := 105) rfl
theorem sr_91_20 : (91, 20, 103) ∈ rfL := List.mem_of_getElem? (i := 106) rfl
theorem sr_91_21 : (91, 21, 104) ∈ rfL := List.mem_of_getElem? (i := 107) rfl
theorem sr_91_22 : (91, 22, 105) ∈ rfL := List.mem_of_getElem? (i := 108) rfl
theorem sr_91_23 : (91, 23, 106) ∈ rfL := List.mem_of_getElem? (i := 109) rfl
theorem sr_91_24 : (91, 24, 107) ∈ rfL := List.mem_of_getElem? (i := 110) rfl
theorem sr_91_25 : (91, 25, 108) ∈ rfL := List.mem_of_getElem? (i := 111) rfl
theorem sr_91_26 : (91, 26, 109) ∈ rfL := List.mem_of_getElem? (i := 112) rfl
theorem sr_91_27 : (91, 27, 110) ∈ rfL := List.mem_of_getElem? (i := 113) rfl
theorem sr_91_28 : (91, 28, 111) ∈ rfL := List.mem_of_getElem? (i := 114) rfl
theorem sr_91_31 : (91, 31, 112) ∈ rfL := List.mem_of_getElem? (i := 115) rfl
theorem sr_91_32 : (91, 32, 113) ∈ rfL := List.mem_of_getElem? (i := 116) rfl
theorem sr_91_33 : (91, 33, 114) ∈ rfL := List.mem_of_getElem? (i := 117) rfl
theorem sr_91_34 : (91, 34, 115) ∈ rfL := List.mem_of_getElem? (i := 118) rfl
theorem sr_91_35 : (91, 35, 116) ∈ rfL := List.mem_of_getElem? (i := 119) rfl
theorem sr_91_39 : (91, 39, 117) ∈ rfL := List.mem_of_getElem? (i := 120) rfl
theorem sr_91_40 : (91, 40, 118) ∈ rfL := List.mem_of_getElem? (i := 121) rfl
theorem sr_91_41 : (91, 41, 119) ∈ rfL := List.mem_of_getElem? (i := 122) rfl
theorem sr_91_43 : (91, 43, 120) ∈ rfL := List.mem_of_getElem? (i := 123) rfl
theorem sr_91_44 : (91, 44, 121) ∈ rfL := List.mem_of_getElem? (i := 124) rfl
theorem sr_91_45 : (91, 45, 122) ∈ rfL := List.mem_of_getElem? (i := 125) rfl
theorem sr_91_46 : (91, 46, 123) ∈ rfL := List.mem_of_getElem? (i := 126) rfl
theorem sr_91_47 : (91, 47, 124) ∈ rfL := List.mem_of_getElem? (i := 127) rfl
theorem sr_91_52 : (91, 52, 125) ∈ rfL := List.mem_of_getElem? (i := 128) rfl
theorem sr_91_53 : (91, 53, 126) ∈ rfL := List.mem_of_getElem? (i := 129) rfl
theorem sr_91_55 : (91, 55, 127) ∈ rfL := List.mem_of_getElem? (i := 130) rfl
theorem sr_91_56 : (91, 56, 128) ∈ rfL := List.mem_of_getElem? (i := 131) rfl
theorem sr_91_57 : (91, 57, 129) ∈ rfL := List.mem_of_getElem? (i := 132) rfl
theorem sr_91_58 : (91, 58, 130) ∈ rfL := List.mem_of_getElem? (i := 133) rfl
theorem sr_91_59 : (91, 59, 131) ∈ rfL := List.mem_of_getElem? (i := 134) rfl
theorem sr_91_60 : (91, 60, 132) ∈ rfL := List.mem_of_getElem? (i := 135) rfl
theorem sr_91_61 : (91, 61, 133) ∈ rfL := List.mem_of_getElem? (i := 136) rfl
theorem sr_91_62 : (91, 62, 134) ∈ rfL := List.mem_of_getElem? (i := 137) rfl
theorem sr_91_63 : (91, 63, 135) ∈ rfL := List.mem_of_getElem? (i := 138) rfl
theorem sr_91_64 : (91, 64, 136) ∈ rfL := List.mem_of_getElem? (i := 139) rfl
theorem sr_91_65 : (91, 65, 137) ∈ rfL := List.mem_of_getElem? (i := 140) rfl
theorem sr_91_66 : (91, 66, 138) ∈ rfL := List.mem_of_getElem? (i := 141) rfl
theorem sr_91_80 : (91, 80, 139) ∈ rfL := List.mem_of_getElem? (i := 142) rfl
theorem sr_91_81 : (91, 81, 140) ∈ rfL := List.mem_of_getElem? (i := 143) rfl
theorem sr_91_82 : (91, 82, 141) ∈ rfL := List.mem_of_getElem? (i := 144) rfl
theorem sr_91_83 : (91, 83, 142) ∈ rfL := List.mem_of_getElem? (i := 145) rfl
theorem sr_91_84 : (91, 84, 143) ∈ rfL := List.mem_of_getElem? (i := 146) rfl
theorem sr_91_85 : (91, 85, 144) ∈ rfL := List.mem_of_getElem? (i := 147) rfl
theorem sr_91_86 : (91, 86, 145) ∈ rfL := List.mem_of_getElem? (i := 148) rfl
theorem std_get {r : Hr} {c k d : Nat} (h : Std r) (hq : (c, k, d) ∈ rfL) : r.1 c k = some d := h.1 _ hq
def ShOK (S : Nat) : Prop := (SF S 0 8 (.array .long) ∧ SF S 1 8 (.array .long) ∧ SF S 2 8 (.array .long)) ∧ (SHP (S + 1) = .inl (.long, 16) ∧ SHP (S + 2) = .inl (.long, 16) ∧ SHP (S + 3) = .inl (.long, 16)) ∧ ((S, 0, S + 1) ∈ rfL ∧ (S, 1, S + 2) ∈ rfL ∧ (S, 2, S + 3) ∈ rfL) ∧ S + 3 < 147 ∧ (S = 22 ∨ S = 26 ∨ S = 30)
theorem shok_22 : ShOK 22 := ⟨⟨sf_22_0, sf_22_1, sf_22_2⟩, ⟨sa_23, sa_24, sa_25⟩, ⟨sr_22_0, sr_22_1, sr_22_2⟩, by decide, by decide⟩
theorem shok_26 : ShOK 26 := ⟨⟨sf_26_0, sf_26_1, sf_26_2⟩, ⟨sa_27, sa_28, sa_29⟩, ⟨sr_26_0, sr_26_1, sr_26_2⟩, by decide, by decide⟩
theorem shok_30 : ShOK 30 := ⟨⟨sf_30_0, sf_30_1, sf_30_2⟩, ⟨sa_31, sa_32, sa_33⟩, ⟨sr_30_0, sr_30_1, sr_30_2⟩, by decide, by decide⟩
def strL : List (String × Nat × String) := [("OneHand", 111, "not so many hours"),
  ("OneHand", 122, "there is no such hour"),
  ("OneHand", 137, "no such x, y or land"),
  ("OneHand", 538, "no such place"),
  ("OneHand", 156, "no such land or rank"),
  ("OneHand", 162, "no such hours"),
  ("OneHand", 546, "no such deed"),
  ("OneHand", 540, "no such mark"),
  ("OneHand", 175, "no such state"),
  ("OneHand", 542, "no such hand"),
  ("OneHand", 278, "both deeds are one"),
  ("OneHand", 544, "no such officer"),
  ("OneHand", 251, "no such outcome"),
  ("OneHand", 266, "both marks are one"),
  ("OneHand", 550, "no such set of deeds that stand"),
  ("OneHand", 593, "there is no parting"),
  ("OneHand", 554, "t is not 0 to 1,000,000"),
  ("OneHand", 313, "not two of the set"),
  ("OneHand", 548, "the deed is doubted"),
  ("OneHand", 556, "it is not 0 to 3"),
  ("OneHand", 350, "not looked for"),
  ("OneHand", 560, "s is not 1 to 10,000"),
  ("OneHand", 375, "no such map"),
  ("OneHand", 381, "that is known already"),
  ("OneHand", 411, "no such distance"),
  ("OneHand", 430, "nothing of that kind is told"),
  ("OneHand", 447, "no such seed or times"),
  ("OneHand", 463, "the tape has not so many"),
  ("OneHand$Reader", 76, "let    bar    keep   if     or     and    not    rank   land   age    solved doubtedthere  links  "),
  ("OneHand", 562, "no such tray"),
  ("OneHand", 502, "no such sort, or not so many"),
  ("OneHand", 564, "the tray is missing"),
  ("OneHand", 513, "the tray has no such place"),
  ("OneHand", 522, "the tray is no row of states"),
  ("OneHandModel", 536, "let"),
  ("OneHandModel", 538, "bar"),
  ("OneHandModel", 540, "keep"),
  ("OneHandModel", 519, "rank"),
  ("OneHandModel", 525, "land"),
  ("OneHandModel", 527, "age"),
  ("OneHandModel", 529, "solved"),
  ("OneHandModel", 531, "doubted"),
  ("OneHandModel", 533, "there"),
  ("OneHandModel", 535, "links"),
  ("OneHandModel", 583, "if"),
  ("OneHandModel", 565, "not"),
  ("OneHandModel", 573, "and"),
  ("OneHandModel", 578, "or")]
def nstL : List (String × Nat × MethodName × String) := [("OneHand", 9, ⟨"OneHand$Land", "<init>", "()V"⟩, "OneHand"),
  ("OneHand", 27, ⟨"OneHand$Links", "<init>", "()V"⟩, "OneHand"),
  ("OneHand", 34, ⟨"OneHand$Sheet", "<init>", "()V"⟩, "OneHand"),
  ("OneHand", 56, ⟨"OneHand$Partings", "<init>", "()V"⟩, "OneHand"),
  ("OneHand", 63, ⟨"OneHand$Groups", "<init>", "()V"⟩, "OneHand"),
  ("OneHand", 79, ⟨"OneHand$Rights", "<init>", "()V"⟩, "OneHand"),
  ("OneHand", 86, ⟨"OneHand$Reader", "<init>", "()V"⟩, "OneHand"),
  ("OneHand$Reader", 11, ⟨"OneHand$Rights", "<init>", "()V"⟩, "OneHand"),
  ("OneHand$Deeds", 74, ⟨"OneHand", "only", "(I)J"⟩, "OneHand"),
  ("OneHand$Deeds", 93, ⟨"OneHand", "has", "(JI)Z"⟩, "OneHand"),
  ("OneHand$Likeness", 70, ⟨"OneHand", "has", "(JI)Z"⟩, "OneHand"),
  ("OneHand$Likeness", 74, ⟨"OneHand", "above", "(I)J"⟩, "OneHand"),
  ("OneHand$Sheet", 21, ⟨"OneHand", "has", "(JI)Z"⟩, "OneHand"),
  ("OneHand$Likeness", 149, ⟨"OneHand", "logOf", "(I)I"⟩, "OneHand"),
  ("OneHand$Deeds", 113, ⟨"OneHand", "above", "(I)J"⟩, "OneHand"),
  ("OneHand$Sheet", 25, ⟨"OneHand", "only", "(I)J"⟩, "OneHand"),
  ("OneHand$Partings", 57, ⟨"OneHand", "has", "(JI)Z"⟩, "OneHand"),
  ("OneHand$Groups", 39, ⟨"OneHand", "has", "(JI)Z"⟩, "OneHand"),
  ("OneHand$Groups", 43, ⟨"OneHand", "only", "(I)J"⟩, "OneHand"),
  ("OneHand$Trails", 70, ⟨"OneHand", "has", "(JI)Z"⟩, "OneHand"),
  ("OneHand$Trails", 113, ⟨"OneHand", "quotient", "(II)I"⟩, "OneHand"),
  ("OneHand$Sheet", 43, ⟨"OneHand", "quotient", "(II)I"⟩, "OneHand"),
  ("OneHand$Trays", 30, ⟨"OneHand", "isWithin", "(JJJ)Z"⟩, "OneHand")]
theorem nst_0 : ("OneHand", 9, (⟨"OneHand$Land", "<init>", "()V"⟩ : MethodName), "OneHand") ∈ nstL := List.mem_of_getElem? (i := 0) rfl
theorem nst_1 : ("OneHand", 27, (⟨"OneHand$Links", "<init>", "()V"⟩ : MethodName), "OneHand") ∈ nstL := List.mem_of_getElem? (i := 1) rfl
theorem nst_2 : ("OneHand", 34, (⟨"OneHand$Sheet", "<init>", "()V"⟩ : MethodName), "OneHand") ∈ nstL := List.mem_of_getElem? (i := 2) rfl
theorem nst_3 : ("OneHand", 56, (⟨"OneHand$Partings", "<init>", "()V"⟩ : MethodName), "OneHand") ∈ nstL := List.mem_of_getElem? (i := 3) rfl
theorem nst_4 : ("OneHand", 63, (⟨"OneHand$Groups", "<init>", "()V"⟩ : MethodName), "OneHand") ∈ nstL := List.mem_of_getElem? (i := 4) rfl
theorem nst_5 : ("OneHand", 79, (⟨"OneHand$Rights", "<init>", "()V"⟩ : MethodName), "OneHand") ∈ nstL := List.mem_of_getElem? (i := 5) rfl
theorem nst_6 : ("OneHand", 86, (⟨"OneHand$Reader", "<init>", "()V"⟩ : MethodName), "OneHand") ∈ nstL := List.mem_of_getElem? (i := 6) rfl
theorem nst_7 : ("OneHand$Reader", 11, (⟨"OneHand$Rights", "<init>", "()V"⟩ : MethodName), "OneHand") ∈ nstL := List.mem_of_getElem? (i := 7) rfl
theorem nst_8 : ("OneHand$Deeds", 74, (⟨"OneHand", "only", "(I)J"⟩ : MethodName), "OneHand") ∈ nstL := List.mem_of_getElem? (i := 8) rfl
theorem nst_9 : ("OneHand$Deeds", 93, (⟨"OneHand", "has", "(JI)Z"⟩ : MethodName), "OneHand") ∈ nstL := List.mem_of_getElem? (i := 9) rfl
theorem nst_10 : ("OneHand$Likeness", 70, (⟨"OneHand", "has", "(JI)Z"⟩ : MethodName), "OneHand") ∈ nstL := List.mem_of_getElem? (i := 10) rfl
theorem nst_11 : ("OneHand$Likeness", 74, (⟨"OneHand", "above", "(I)J"⟩ : MethodName), "OneHand") ∈ nstL := List.mem_of_getElem? (i := 11) rfl
theorem nst_12 : ("OneHand$Sheet", 21, (⟨"OneHand", "has", "(JI)Z"⟩ : MethodName), "OneHand") ∈ nstL := List.mem_of_getElem? (i := 12) rfl
theorem nst_13 : ("OneHand$Likeness", 149, (⟨"OneHand", "logOf", "(I)I"⟩ : MethodName), "OneHand") ∈ nstL := List.mem_of_getElem? (i := 13) rfl
theorem nst_14 : ("OneHand$Deeds", 113, (⟨"OneHand", "above", "(I)J"⟩ : MethodName), "OneHand") ∈ nstL := List.mem_of_getElem? (i := 14) rfl
theorem nst_15 : ("OneHand$Sheet", 25, (⟨"OneHand", "only", "(I)J"⟩ : MethodName), "OneHand") ∈ nstL := List.mem_of_getElem? (i := 15) rfl
theorem nst_16 : ("OneHand$Partings", 57, (⟨"OneHand", "has", "(JI)Z"⟩ : MethodName), "OneHand") ∈ nstL := List.mem_of_getElem? (i := 16) rfl
theorem nst_17 : ("OneHand$Groups", 39, (⟨"OneHand", "has", "(JI)Z"⟩ : MethodName), "OneHand") ∈ nstL := List.mem_of_getElem? (i := 17) rfl
theorem nst_18 : ("OneHand$Groups", 43, (⟨"OneHand", "only", "(I)J"⟩ : MethodName), "OneHand") ∈ nstL := List.mem_of_getElem? (i := 18) rfl
theorem nst_19 : ("OneHand$Trails", 70, (⟨"OneHand", "has", "(JI)Z"⟩ : MethodName), "OneHand") ∈ nstL := List.mem_of_getElem? (i := 19) rfl
theorem nst_20 : ("OneHand$Trails", 113, (⟨"OneHand", "quotient", "(II)I"⟩ : MethodName), "OneHand") ∈ nstL := List.mem_of_getElem? (i := 20) rfl
theorem nst_21 : ("OneHand$Sheet", 43, (⟨"OneHand", "quotient", "(II)I"⟩ : MethodName), "OneHand") ∈ nstL := List.mem_of_getElem? (i := 21) rfl
theorem nst_22 : ("OneHand$Trays", 30, (⟨"OneHand", "isWithin", "(JJJ)Z"⟩ : MethodName), "OneHand") ∈ nstL := List.mem_of_getElem? (i := 22) rfl
def casL : List (String × String) := [("java/lang/IllegalArgumentException", "java/lang/IllegalArgumentException"), ("java/lang/IllegalStateException", "java/lang/IllegalStateException"), ("java/util/NoSuchElementException", "java/util/NoSuchElementException"), ("java/lang/IndexOutOfBoundsException", "java/lang/IndexOutOfBoundsException"), ("OneHand", "java/lang/Object"), ("OneHand$Land", "java/lang/Object"), ("OneHand$Deeds", "java/lang/Object"), ("OneHand$Links", "java/lang/Object"), ("OneHand$Sheet", "java/lang/Object"), ("OneHand$Likeness", "java/lang/Object"), ("OneHand$Partings", "java/lang/Object"), ("OneHand$Groups", "java/lang/Object"), ("OneHand$Trails", "java/lang/Object"), ("OneHand$Rights", "java/lang/Object"), ("OneHand$Reader", "java/lang/Object"), ("OneHand$Trays", "java/lang/Object"), ("OneHandModel", "java/lang/Object"), ("java/lang/IllegalArgumentException", "java/lang/Object"), ("java/lang/IllegalStateException", "java/lang/Object"), ("java/util/NoSuchElementException", "java/lang/Object"), ("java/lang/IndexOutOfBoundsException", "java/lang/Object"), ("java/lang/Throwable", "java/lang/Object"), ("java/lang/String", "java/lang/Object")]
def decL : List MethodName := [⟨"java/lang/RuntimeException", "<init>", "()V"⟩, ⟨"java/lang/RuntimeException", "<init>", "(Ljava/lang/String;)V"⟩, ⟨"java/lang/Exception", "<init>", "()V"⟩, ⟨"java/lang/Exception", "<init>", "(Ljava/lang/String;)V"⟩, ⟨"java/lang/Throwable", "<init>", "()V"⟩, ⟨"java/lang/Throwable", "<init>", "(Ljava/lang/String;)V"⟩]
theorem lay_X0 : ∀ k, k < 16 → u_lay RX0 TX0 k ∈ BIG
  | 0, _ => b_1_127
  | 1, _ => b_1_129
  | 2, _ => b_1_131
  | 3, _ => b_1_133
  | 4, _ => b_1_135
  | 5, _ => b_1_137
  | 6, _ => b_1_139
  | 7, _ => b_1_141
  | 8, _ => b_1_143
  | 9, _ => b_1_145
  | 10, _ => b_1_147
  | 11, _ => b_1_149
  | 12, _ => b_1_151
  | 13, _ => b_1_153
  | 14, _ => b_1_155
  | 15, _ => b_1_157
  | n + 16, h => absurd h (by omega)
theorem inX0 : ∀ w ∈ u_ws RX0 TX0 16, w ∈ BIG := fun w hw => by
  obtain ⟨k, hk, rfl⟩ := List.mem_map.mp hw
  exact lay_X0 k (List.mem_range.mp hk)
theorem lay_X1 : ∀ k, k < 5 → u_lay RX1 TX1 k ∈ BIG
  | 0, _ => b_2_78
  | 1, _ => b_2_80
  | 2, _ => b_2_82
  | 3, _ => b_2_84
  | 4, _ => b_2_86
  | n + 5, h => absurd h (by omega)
theorem inX1 : ∀ w ∈ u_ws RX1 TX1 5, w ∈ BIG := fun w hw => by
  obtain ⟨k, hk, rfl⟩ := List.mem_map.mp hw
  exact lay_X1 k (List.mem_range.mp hk)
theorem lay_X2 : ∀ k, k < 11 → u_lay RX2 TX2 k ∈ BIG
  | 0, _ => b_1_65
  | 1, _ => b_1_67
  | 2, _ => b_1_69
  | 3, _ => b_1_71
  | 4, _ => b_1_73
  | 5, _ => b_1_75
  | 6, _ => b_1_77
  | 7, _ => b_1_79
  | 8, _ => b_1_81
  | 9, _ => b_1_83
  | 10, _ => b_1_85
  | n + 11, h => absurd h (by omega)
theorem inX2 : ∀ w ∈ u_ws RX2 TX2 11, w ∈ BIG := fun w hw => by
  obtain ⟨k, hk, rfl⟩ := List.mem_map.mp hw
  exact lay_X2 k (List.mem_range.mp hk)
theorem lay_X3 : ∀ k, k < 14 → u_lay RX3 TX3 k ∈ BIG
  | 0, _ => b_1_223
  | 1, _ => b_1_225
  | 2, _ => b_1_227
  | 3, _ => b_1_229
  | 4, _ => b_1_231
  | 5, _ => b_1_233
  | 6, _ => b_1_235
  | 7, _ => b_1_237
  | 8, _ => b_1_239
  | 9, _ => b_2_1
  | 10, _ => b_2_3
  | 11, _ => b_2_5
  | 12, _ => b_2_7
  | 13, _ => b_2_9
  | n + 14, h => absurd h (by omega)
theorem inX3 : ∀ w ∈ u_ws RX3 TX3 14, w ∈ BIG := fun w hw => by
  obtain ⟨k, hk, rfl⟩ := List.mem_map.mp hw
  exact lay_X3 k (List.mem_range.mp hk)
theorem lay_X4 : ∀ k, k < 4 → u_lay RX4 TX4 k ∈ BIG
  | 0, _ => b_1_175
  | 1, _ => b_1_177
  | 2, _ => b_1_179
  | 3, _ => b_1_181
  | n + 4, h => absurd h (by omega)
theorem inX4 : ∀ w ∈ u_ws RX4 TX4 4, w ∈ BIG := fun w hw => by
  obtain ⟨k, hk, rfl⟩ := List.mem_map.mp hw
  exact lay_X4 k (List.mem_range.mp hk)
theorem lay_X5 : ∀ k, k < 14 → u_lay RX5 TX5 k ∈ BIG
  | 0, _ => b_2_37
  | 1, _ => b_2_39
  | 2, _ => b_2_41
  | 3, _ => b_2_43
  | 4, _ => b_2_45
  | 5, _ => b_2_47
  | 6, _ => b_2_49
  | 7, _ => b_2_51
  | 8, _ => b_2_53
  | 9, _ => b_2_55
  | 10, _ => b_2_57
  | 11, _ => b_2_59
  | 12, _ => b_2_61
  | 13, _ => b_2_63
  | n + 14, h => absurd h (by omega)
theorem inX5 : ∀ w ∈ u_ws RX5 TX5 14, w ∈ BIG := fun w hw => by
  obtain ⟨k, hk, rfl⟩ := List.mem_map.mp hw
  exact lay_X5 k (List.mem_range.mp hk)
theorem lay_X6 : ∀ k, k < 9 → u_lay RX6 TX6 k ∈ BIG
  | 0, _ => b_2_195
  | 1, _ => b_2_197
  | 2, _ => b_2_199
  | 3, _ => b_2_201
  | 4, _ => b_2_203
  | 5, _ => b_2_205
  | 6, _ => b_2_207
  | 7, _ => b_2_209
  | 8, _ => b_2_211
  | n + 9, h => absurd h (by omega)
theorem inX6 : ∀ w ∈ u_ws RX6 TX6 9, w ∈ BIG := fun w hw => by
  obtain ⟨k, hk, rfl⟩ := List.mem_map.mp hw
  exact lay_X6 k (List.mem_range.mp hk)
theorem lay_X7 : ∀ k, k < 9 → u_lay RX7 TX7 k ∈ BIG
  | 0, _ => b_2_156
  | 1, _ => b_2_158
  | 2, _ => b_2_160
  | 3, _ => b_2_162
  | 4, _ => b_2_164
  | 5, _ => b_2_166
  | 6, _ => b_2_168
  | 7, _ => b_2_170
  | 8, _ => b_2_172
  | n + 9, h => absurd h (by omega)
theorem inX7 : ∀ w ∈ u_ws RX7 TX7 9, w ∈ BIG := fun w hw => by
  obtain ⟨k, hk, rfl⟩ := List.mem_map.mp hw
  exact lay_X7 k (List.mem_range.mp hk)
theorem lay_X8 : ∀ k, k < 3 → u_lay RX8 TX8 k ∈ BIG
  | 0, _ => b_1_195
  | 1, _ => b_1_197
  | 2, _ => b_1_199
  | n + 3, h => absurd h (by omega)
theorem inX8 : ∀ w ∈ u_ws RX8 TX8 3, w ∈ BIG := fun w hw => by
  obtain ⟨k, hk, rfl⟩ := List.mem_map.mp hw
  exact lay_X8 k (List.mem_range.mp hk)
theorem lay_X9 : ∀ k, k < 11 → u_lay RX9 TX9 k ∈ BIG
  | 0, _ => b_2_110
  | 1, _ => b_2_112
  | 2, _ => b_2_114
  | 3, _ => b_2_116
  | 4, _ => b_2_118
  | 5, _ => b_2_120
  | 6, _ => b_2_122
  | 7, _ => b_2_124
  | 8, _ => b_2_126
  | 9, _ => b_2_128
  | 10, _ => b_2_130
  | n + 11, h => absurd h (by omega)
theorem inX9 : ∀ w ∈ u_ws RX9 TX9 11, w ∈ BIG := fun w hw => by
  obtain ⟨k, hk, rfl⟩ := List.mem_map.mp hw
  exact lay_X9 k (List.mem_range.mp hk)
theorem lay_X10 : ∀ k, k < 3 → u_lay RX10 TX10 k ∈ BIG
  | 0, _ => b_2_224
  | 1, _ => b_2_226
  | 2, _ => b_2_228
  | n + 3, h => absurd h (by omega)
theorem inX10 : ∀ w ∈ u_ws RX10 TX10 3, w ∈ BIG := fun w hw => by
  obtain ⟨k, hk, rfl⟩ := List.mem_map.mp hw
  exact lay_X10 k (List.mem_range.mp hk)
theorem lay_X11 : ∀ k, k < 16 → u_lay RX11 TX11 k ∈ BIG
  | 0, _ => b_3_7
  | 1, _ => b_3_9
  | 2, _ => b_3_11
  | 3, _ => b_3_13
  | 4, _ => b_3_15
  | 5, _ => b_3_17
  | 6, _ => b_3_19
  | 7, _ => b_3_21
  | 8, _ => b_3_23
  | 9, _ => b_3_25
  | 10, _ => b_3_27
  | 11, _ => b_3_29
  | 12, _ => b_3_31
  | 13, _ => b_3_33
  | 14, _ => b_3_35
  | 15, _ => b_3_37
  | n + 16, h => absurd h (by omega)
theorem inX11 : ∀ w ∈ u_ws RX11 TX11 16, w ∈ BIG := fun w hw => by
  obtain ⟨k, hk, rfl⟩ := List.mem_map.mp hw
  exact lay_X11 k (List.mem_range.mp hk)
theorem lay_X12 : ∀ k, k < 87 → u_lay RX12 TX12 k ∈ BIG
  | 0, _ => b_8_110
  | 1, _ => b_8_112
  | 2, _ => b_8_114
  | 3, _ => b_8_116
  | 4, _ => b_8_118
  | 5, _ => b_8_120
  | 6, _ => b_8_122
  | 7, _ => b_8_124
  | 8, _ => b_8_126
  | 9, _ => b_8_128
  | 10, _ => b_8_130
  | 11, _ => b_8_132
  | 12, _ => b_8_134
  | 13, _ => b_8_136
  | 14, _ => b_8_138
  | 15, _ => b_8_140
  | 16, _ => b_8_142
  | 17, _ => b_8_144
  | 18, _ => b_8_146
  | 19, _ => b_8_148
  | 20, _ => b_8_150
  | 21, _ => b_8_152
  | 22, _ => b_8_154
  | 23, _ => b_8_156
  | 24, _ => b_8_158
  | 25, _ => b_8_160
  | 26, _ => b_8_162
  | 27, _ => b_8_164
  | 28, _ => b_8_166
  | 29, _ => b_8_168
  | 30, _ => b_8_170
  | 31, _ => b_8_172
  | 32, _ => b_8_174
  | 33, _ => b_8_176
  | 34, _ => b_8_178
  | 35, _ => b_8_180
  | 36, _ => b_8_182
  | 37, _ => b_8_184
  | 38, _ => b_8_186
  | 39, _ => b_8_188
  | 40, _ => b_8_190
  | 41, _ => b_8_192
  | 42, _ => b_8_194
  | 43, _ => b_8_196
  | 44, _ => b_8_198
  | 45, _ => b_8_200
  | 46, _ => b_8_202
  | 47, _ => b_8_204
  | 48, _ => b_8_206
  | 49, _ => b_8_208
  | 50, _ => b_8_210
  | 51, _ => b_8_212
  | 52, _ => b_8_214
  | 53, _ => b_8_216
  | 54, _ => b_8_218
  | 55, _ => b_8_220
  | 56, _ => b_8_222
  | 57, _ => b_8_224
  | 58, _ => b_8_226
  | 59, _ => b_8_228
  | 60, _ => b_8_230
  | 61, _ => b_8_232
  | 62, _ => b_8_234
  | 63, _ => b_8_236
  | 64, _ => b_8_238
  | 65, _ => b_9_0
  | 66, _ => b_9_2
  | 67, _ => b_9_4
  | 68, _ => b_9_6
  | 69, _ => b_9_8
  | 70, _ => b_9_10
  | 71, _ => b_9_12
  | 72, _ => b_9_14
  | 73, _ => b_9_16
  | 74, _ => b_9_18
  | 75, _ => b_9_20
  | 76, _ => b_9_22
  | 77, _ => b_9_24
  | 78, _ => b_9_26
  | 79, _ => b_9_28
  | 80, _ => b_9_30
  | 81, _ => b_9_32
  | 82, _ => b_9_34
  | 83, _ => b_9_36
  | 84, _ => b_9_38
  | 85, _ => b_9_40
  | 86, _ => b_9_42
  | n + 87, h => absurd h (by omega)
theorem inX12 : ∀ w ∈ u_ws RX12 TX12 87, w ∈ BIG := fun w hw => by
  obtain ⟨k, hk, rfl⟩ := List.mem_map.mp hw
  exact lay_X12 k (List.mem_range.mp hk)
def FLK (own : String) (ix ci k : Nat) (ty : FieldType) (fin : Bool) : Prop := ∃ (CN : String) (T : u_T) (N : Nat) (tyf : Nat → FieldType), vwCl[ci]? = some (CN, T, N) ∧ (∀ w ∈ u_ws CN T N, w ∈ BIG) ∧ (∀ j, j < N → parseFieldDescriptor (T j).2.2.1 = some (tyf j)) ∧ (∀ a, a < N → ∀ b, b < N → a ≠ b → (T a).2.1 ≠ (T b).2.1) ∧ k < N ∧ Cond.fieldLink own ix (T k).1 (T k).2.1 (T k).2.2.1 ∈ BIG ∧ parseFieldDescriptor (T k).2.2.1 = some ty ∧ (T k).2.2.2 = fin ∧ (fin = true → (T k).1 = own ∨ own ≠ CN)
theorem fl_X2_9 : FLK RX2 9 2 0 (.int) false := ⟨RX2, TX2, 11, tyX2, rfl, inX2, tyX2_ok, nmX2, by decide, b_1_41, rfl, rfl, fun _ => Or.inl rfl⟩
theorem fl_X11_116 : FLK RX11 116 2 0 (.int) false := ⟨RX2, TX2, 11, tyX2, rfl, inX2, tyX2_ok, nmX2, by decide, b_1_42, rfl, rfl, fun h => absurd h (by decide)⟩
theorem fl_X0_65 : FLK RX0 65 2 0 (.int) false := ⟨RX2, TX2, 11, tyX2, rfl, inX2, tyX2_ok, nmX2, by decide, b_1_43, rfl, rfl, fun h => absurd h (by decide)⟩
theorem fl_X2_15 : FLK RX2 15 2 1 (.int) false := ⟨RX2, TX2, 11, tyX2, rfl, inX2, tyX2_ok, nmX2, by decide, b_1_44, rfl, rfl, fun _ => Or.inl rfl⟩
theorem fl_X9_107 : FLK RX9 107 2 1 (.int) false := ⟨RX2, TX2, 11, tyX2, rfl, inX2, tyX2_ok, nmX2, by decide, b_1_45, rfl, rfl, fun h => absurd h (by decide)⟩
theorem fl_X11_531 : FLK RX11 531 2 1 (.int) false := ⟨RX2, TX2, 11, tyX2, rfl, inX2, tyX2_ok, nmX2, by decide, b_1_46, rfl, rfl, fun h => absurd h (by decide)⟩
theorem fl_X2_18 : FLK RX2 18 2 2 (.array .int) true := ⟨RX2, TX2, 11, tyX2, rfl, inX2, tyX2_ok, nmX2, by decide, b_1_47, rfl, rfl, fun _ => Or.inl rfl⟩
theorem fl_X2_22 : FLK RX2 22 2 3 (.array .int) true := ⟨RX2, TX2, 11, tyX2, rfl, inX2, tyX2_ok, nmX2, by decide, b_1_48, rfl, rfl, fun _ => Or.inl rfl⟩
theorem fl_X2_25 : FLK RX2 25 2 4 (.array .int) true := ⟨RX2, TX2, 11, tyX2, rfl, inX2, tyX2_ok, nmX2, by decide, b_1_49, rfl, rfl, fun _ => Or.inl rfl⟩
theorem fl_X11_607 : FLK RX11 607 2 4 (.array .int) true := ⟨RX2, TX2, 11, tyX2, rfl, inX2, tyX2_ok, nmX2, by decide, b_1_50, rfl, rfl, fun _ => Or.inr (by decide)⟩
theorem fl_X2_28 : FLK RX2 28 2 5 (.int) false := ⟨RX2, TX2, 11, tyX2, rfl, inX2, tyX2_ok, nmX2, by decide, b_1_51, rfl, rfl, fun _ => Or.inl rfl⟩
theorem fl_X3_115 : FLK RX3 115 2 5 (.int) false := ⟨RX2, TX2, 11, tyX2, rfl, inX2, tyX2_ok, nmX2, by decide, b_1_52, rfl, rfl, fun h => absurd h (by decide)⟩
theorem fl_X11_435 : FLK RX11 435 2 5 (.int) false := ⟨RX2, TX2, 11, tyX2, rfl, inX2, tyX2_ok, nmX2, by decide, b_1_53, rfl, rfl, fun h => absurd h (by decide)⟩
theorem fl_X2_31 : FLK RX2 31 2 6 (.int) false := ⟨RX2, TX2, 11, tyX2, rfl, inX2, tyX2_ok, nmX2, by decide, b_1_54, rfl, rfl, fun _ => Or.inl rfl⟩
theorem fl_X9_54 : FLK RX9 54 2 6 (.int) false := ⟨RX2, TX2, 11, tyX2, rfl, inX2, tyX2_ok, nmX2, by decide, b_1_55, rfl, rfl, fun h => absurd h (by decide)⟩
theorem fl_X11_413 : FLK RX11 413 2 6 (.int) false := ⟨RX2, TX2, 11, tyX2, rfl, inX2, tyX2_ok, nmX2, by decide, b_1_56, rfl, rfl, fun h => absurd h (by decide)⟩
theorem fl_X2_34 : FLK RX2 34 2 7 (.array .int) true := ⟨RX2, TX2, 11, tyX2, rfl, inX2, tyX2_ok, nmX2, by decide, b_1_57, rfl, rfl, fun _ => Or.inl rfl⟩
theorem fl_X11_419 : FLK RX11 419 2 7 (.array .int) true := ⟨RX2, TX2, 11, tyX2, rfl, inX2, tyX2_ok, nmX2, by decide, b_1_58, rfl, rfl, fun _ => Or.inr (by decide)⟩
theorem fl_X2_37 : FLK RX2 37 2 8 (.int) false := ⟨RX2, TX2, 11, tyX2, rfl, inX2, tyX2_ok, nmX2, by decide, b_1_59, rfl, rfl, fun _ => Or.inl rfl⟩
theorem fl_X11_487 : FLK RX11 487 2 8 (.int) false := ⟨RX2, TX2, 11, tyX2, rfl, inX2, tyX2_ok, nmX2, by decide, b_1_60, rfl, rfl, fun h => absurd h (by decide)⟩
theorem fl_X2_40 : FLK RX2 40 2 9 (.array .int) true := ⟨RX2, TX2, 11, tyX2, rfl, inX2, tyX2_ok, nmX2, by decide, b_1_61, rfl, rfl, fun _ => Or.inl rfl⟩
theorem fl_X11_604 : FLK RX11 604 2 9 (.array .int) true := ⟨RX2, TX2, 11, tyX2, rfl, inX2, tyX2_ok, nmX2, by decide, b_1_62, rfl, rfl, fun _ => Or.inr (by decide)⟩
theorem fl_X2_43 : FLK RX2 43 2 10 (.array .int) true := ⟨RX2, TX2, 11, tyX2, rfl, inX2, tyX2_ok, nmX2, by decide, b_1_63, rfl, rfl, fun _ => Or.inl rfl⟩
theorem fl_X11_610 : FLK RX11 610 2 10 (.array .int) true := ⟨RX2, TX2, 11, tyX2, rfl, inX2, tyX2_ok, nmX2, by decide, b_1_64, rfl, rfl, fun _ => Or.inr (by decide)⟩
theorem fl_X0_61 : FLK RX0 61 0 0 (.object "OneHand$Land") true := ⟨RX0, TX0, 16, tyX0, rfl, inX0, tyX0_ok, nmX0, by decide, b_1_96, rfl, rfl, fun _ => Or.inl rfl⟩
theorem fl_X0_9 : FLK RX0 9 0 1 (.int) false := ⟨RX0, TX0, 16, tyX0, rfl, inX0, tyX0_ok, nmX0, by decide, b_1_97, rfl, rfl, fun _ => Or.inl rfl⟩
theorem fl_X1_30 : FLK RX1 30 0 1 (.int) false := ⟨RX0, TX0, 16, tyX0, rfl, inX0, tyX0_ok, nmX0, by decide, b_1_98, rfl, rfl, fun h => absurd h (by decide)⟩
theorem fl_X3_66 : FLK RX3 66 0 1 (.int) false := ⟨RX0, TX0, 16, tyX0, rfl, inX0, tyX0_ok, nmX0, by decide, b_1_99, rfl, rfl, fun h => absurd h (by decide)⟩
theorem fl_X9_67 : FLK RX9 67 0 1 (.int) false := ⟨RX0, TX0, 16, tyX0, rfl, inX0, tyX0_ok, nmX0, by decide, b_1_100, rfl, rfl, fun h => absurd h (by decide)⟩
theorem fl_X11_332 : FLK RX11 332 0 1 (.int) false := ⟨RX0, TX0, 16, tyX0, rfl, inX0, tyX0_ok, nmX0, by decide, b_1_101, rfl, rfl, fun h => absurd h (by decide)⟩
theorem fl_X0_15 : FLK RX0 15 0 2 (.array .int) true := ⟨RX0, TX0, 16, tyX0, rfl, inX0, tyX0_ok, nmX0, by decide, b_1_102, rfl, rfl, fun _ => Or.inl rfl⟩
theorem fl_X9_77 : FLK RX9 77 0 2 (.array .int) true := ⟨RX0, TX0, 16, tyX0, rfl, inX0, tyX0_ok, nmX0, by decide, b_1_103, rfl, rfl, fun _ => Or.inr (by decide)⟩
theorem fl_X11_383 : FLK RX11 383 0 2 (.array .int) true := ⟨RX0, TX0, 16, tyX0, rfl, inX0, tyX0_ok, nmX0, by decide, b_1_104, rfl, rfl, fun _ => Or.inr (by decide)⟩
theorem fl_X0_19 : FLK RX0 19 0 3 (.array .int) true := ⟨RX0, TX0, 16, tyX0, rfl, inX0, tyX0_ok, nmX0, by decide, b_1_105, rfl, rfl, fun _ => Or.inl rfl⟩
theorem fl_X9_74 : FLK RX9 74 0 3 (.array .int) true := ⟨RX0, TX0, 16, tyX0, rfl, inX0, tyX0_ok, nmX0, by decide, b_1_106, rfl, rfl, fun _ => Or.inr (by decide)⟩
theorem fl_X0_22 : FLK RX0 22 0 4 (.array .int) true := ⟨RX0, TX0, 16, tyX0, rfl, inX0, tyX0_ok, nmX0, by decide, b_1_107, rfl, rfl, fun _ => Or.inl rfl⟩
theorem fl_X0_25 : FLK RX0 25 0 5 (.array .int) true := ⟨RX0, TX0, 16, tyX0, rfl, inX0, tyX0_ok, nmX0, by decide, b_1_108, rfl, rfl, fun _ => Or.inl rfl⟩
theorem fl_X11_576 : FLK RX11 576 0 5 (.array .int) true := ⟨RX0, TX0, 16, tyX0, rfl, inX0, tyX0_ok, nmX0, by decide, b_1_109, rfl, rfl, fun _ => Or.inr (by decide)⟩
theorem fl_X0_28 : FLK RX0 28 0 6 (.array .int) true := ⟨RX0, TX0, 16, tyX0, rfl, inX0, tyX0_ok, nmX0, by decide, b_1_110, rfl, rfl, fun _ => Or.inl rfl⟩
theorem fl_X0_31 : FLK RX0 31 0 7 (.array .int) true := ⟨RX0, TX0, 16, tyX0, rfl, inX0, tyX0_ok, nmX0, by decide, b_1_111, rfl, rfl, fun _ => Or.inl rfl⟩
theorem fl_X0_34 : FLK RX0 34 0 8 (.array .long) true := ⟨RX0, TX0, 16, tyX0, rfl, inX0, tyX0_ok, nmX0, by decide, b_1_112, rfl, rfl, fun _ => Or.inl rfl⟩
theorem fl_X0_38 : FLK RX0 38 0 9 (.array .long) true := ⟨RX0, TX0, 16, tyX0, rfl, inX0, tyX0_ok, nmX0, by decide, b_1_113, rfl, rfl, fun _ => Or.inl rfl⟩
theorem fl_X0_41 : FLK RX0 41 0 10 (.array .long) true := ⟨RX0, TX0, 16, tyX0, rfl, inX0, tyX0_ok, nmX0, by decide, b_1_114, rfl, rfl, fun _ => Or.inl rfl⟩
theorem fl_X9_59 : FLK RX9 59 0 10 (.array .long) true := ⟨RX0, TX0, 16, tyX0, rfl, inX0, tyX0_ok, nmX0, by decide, b_1_115, rfl, rfl, fun _ => Or.inr (by decide)⟩
theorem fl_X11_416 : FLK RX11 416 0 10 (.array .long) true := ⟨RX0, TX0, 16, tyX0, rfl, inX0, tyX0_ok, nmX0, by decide, b_1_116, rfl, rfl, fun _ => Or.inr (by decide)⟩
theorem fl_X0_44 : FLK RX0 44 0 11 (.long) false := ⟨RX0, TX0, 16, tyX0, rfl, inX0, tyX0_ok, nmX0, by decide, b_1_117, rfl, rfl, fun _ => Or.inl rfl⟩
theorem fl_X11_579 : FLK RX11 579 0 11 (.long) false := ⟨RX0, TX0, 16, tyX0, rfl, inX0, tyX0_ok, nmX0, by decide, b_1_118, rfl, rfl, fun h => absurd h (by decide)⟩
theorem fl_X0_48 : FLK RX0 48 0 12 (.long) false := ⟨RX0, TX0, 16, tyX0, rfl, inX0, tyX0_ok, nmX0, by decide, b_1_119, rfl, rfl, fun _ => Or.inl rfl⟩
theorem fl_X11_188 : FLK RX11 188 0 12 (.long) false := ⟨RX0, TX0, 16, tyX0, rfl, inX0, tyX0_ok, nmX0, by decide, b_1_120, rfl, rfl, fun h => absurd h (by decide)⟩
theorem fl_X0_51 : FLK RX0 51 0 13 (.long) false := ⟨RX0, TX0, 16, tyX0, rfl, inX0, tyX0_ok, nmX0, by decide, b_1_121, rfl, rfl, fun _ => Or.inl rfl⟩
theorem fl_X11_566 : FLK RX11 566 0 13 (.long) false := ⟨RX0, TX0, 16, tyX0, rfl, inX0, tyX0_ok, nmX0, by decide, b_1_122, rfl, rfl, fun h => absurd h (by decide)⟩
theorem fl_X0_54 : FLK RX0 54 0 14 (.int) false := ⟨RX0, TX0, 16, tyX0, rfl, inX0, tyX0_ok, nmX0, by decide, b_1_123, rfl, rfl, fun _ => Or.inl rfl⟩
theorem fl_X11_245 : FLK RX11 245 0 14 (.int) false := ⟨RX0, TX0, 16, tyX0, rfl, inX0, tyX0_ok, nmX0, by decide, b_1_124, rfl, rfl, fun h => absurd h (by decide)⟩
theorem fl_X0_58 : FLK RX0 58 0 15 (.int) false := ⟨RX0, TX0, 16, tyX0, rfl, inX0, tyX0_ok, nmX0, by decide, b_1_125, rfl, rfl, fun _ => Or.inl rfl⟩
theorem fl_X11_248 : FLK RX11 248 0 15 (.int) false := ⟨RX0, TX0, 16, tyX0, rfl, inX0, tyX0_ok, nmX0, by decide, b_1_126, rfl, rfl, fun h => absurd h (by decide)⟩
theorem fl_X4_9 : FLK RX4 9 4 0 (.int) false := ⟨RX4, TX4, 4, tyX4, rfl, inX4, tyX4_ok, nmX4, by decide, b_1_167, rfl, rfl, fun _ => Or.inl rfl⟩
theorem fl_X11_226 : FLK RX11 226 4 0 (.int) false := ⟨RX4, TX4, 4, tyX4, rfl, inX4, tyX4_ok, nmX4, by decide, b_1_168, rfl, rfl, fun h => absurd h (by decide)⟩
theorem fl_X4_15 : FLK RX4 15 4 1 (.array .int) true := ⟨RX4, TX4, 4, tyX4, rfl, inX4, tyX4_ok, nmX4, by decide, b_1_169, rfl, rfl, fun _ => Or.inl rfl⟩
theorem fl_X11_229 : FLK RX11 229 4 1 (.array .int) true := ⟨RX4, TX4, 4, tyX4, rfl, inX4, tyX4_ok, nmX4, by decide, b_1_170, rfl, rfl, fun _ => Or.inr (by decide)⟩
theorem fl_X4_19 : FLK RX4 19 4 2 (.array .int) true := ⟨RX4, TX4, 4, tyX4, rfl, inX4, tyX4_ok, nmX4, by decide, b_1_171, rfl, rfl, fun _ => Or.inl rfl⟩
theorem fl_X11_232 : FLK RX11 232 4 2 (.array .int) true := ⟨RX4, TX4, 4, tyX4, rfl, inX4, tyX4_ok, nmX4, by decide, b_1_172, rfl, rfl, fun _ => Or.inr (by decide)⟩
theorem fl_X4_22 : FLK RX4 22 4 3 (.array .int) true := ⟨RX4, TX4, 4, tyX4, rfl, inX4, tyX4_ok, nmX4, by decide, b_1_173, rfl, rfl, fun _ => Or.inl rfl⟩
theorem fl_X11_235 : FLK RX11 235 4 3 (.array .int) true := ⟨RX4, TX4, 4, tyX4, rfl, inX4, tyX4_ok, nmX4, by decide, b_1_174, rfl, rfl, fun _ => Or.inr (by decide)⟩
theorem fl_X8_9 : FLK RX8 9 8 0 (.array .long) true := ⟨RX8, TX8, 3, tyX8, rfl, inX8, tyX8_ok, nmX8, by decide, b_1_190, rfl, rfl, fun _ => Or.inl rfl⟩
theorem fl_X3_93 : FLK RX3 93 8 0 (.array .long) true := ⟨RX8, TX8, 3, tyX8, rfl, inX8, tyX8_ok, nmX8, by decide, b_1_191, rfl, rfl, fun _ => Or.inr (by decide)⟩
theorem fl_X8_15 : FLK RX8 15 8 1 (.array .long) true := ⟨RX8, TX8, 3, tyX8, rfl, inX8, tyX8_ok, nmX8, by decide, b_1_192, rfl, rfl, fun _ => Or.inl rfl⟩
theorem fl_X3_98 : FLK RX3 98 8 1 (.array .long) true := ⟨RX8, TX8, 3, tyX8, rfl, inX8, tyX8_ok, nmX8, by decide, b_1_193, rfl, rfl, fun _ => Or.inr (by decide)⟩
theorem fl_X8_18 : FLK RX8 18 8 2 (.array .long) true := ⟨RX8, TX8, 3, tyX8, rfl, inX8, tyX8_ok, nmX8, by decide, b_1_194, rfl, rfl, fun _ => Or.inl rfl⟩
theorem fl_X3_48 : FLK RX3 48 3 0 (.object "OneHand$Land") true := ⟨RX3, TX3, 14, tyX3, rfl, inX3, tyX3_ok, nmX3, by decide, b_1_208, rfl, rfl, fun _ => Or.inl rfl⟩
theorem fl_X3_52 : FLK RX3 52 3 1 (.object "OneHand$Deeds") true := ⟨RX3, TX3, 14, tyX3, rfl, inX3, tyX3_ok, nmX3, by decide, b_1_209, rfl, rfl, fun _ => Or.inl rfl⟩
theorem fl_X3_56 : FLK RX3 56 3 2 (.object "OneHand$Sheet") false := ⟨RX3, TX3, 14, tyX3, rfl, inX3, tyX3_ok, nmX3, by decide, b_1_210, rfl, rfl, fun _ => Or.inl rfl⟩
theorem fl_X3_9 : FLK RX3 9 3 3 (.long) false := ⟨RX3, TX3, 14, tyX3, rfl, inX3, tyX3_ok, nmX3, by decide, b_1_211, rfl, rfl, fun _ => Or.inl rfl⟩
theorem fl_X3_15 : FLK RX3 15 3 4 (.array .long) true := ⟨RX3, TX3, 14, tyX3, rfl, inX3, tyX3_ok, nmX3, by decide, b_1_212, rfl, rfl, fun _ => Or.inl rfl⟩
theorem fl_X3_19 : FLK RX3 19 3 5 (.array .long) true := ⟨RX3, TX3, 14, tyX3, rfl, inX3, tyX3_ok, nmX3, by decide, b_1_213, rfl, rfl, fun _ => Or.inl rfl⟩
theorem fl_X3_22 : FLK RX3 22 3 6 (.array .int) true := ⟨RX3, TX3, 14, tyX3, rfl, inX3, tyX3_ok, nmX3, by decide, b_1_214, rfl, rfl, fun _ => Or.inl rfl⟩
theorem fl_X11_271 : FLK RX11 271 3 6 (.array .int) true := ⟨RX3, TX3, 14, tyX3, rfl, inX3, tyX3_ok, nmX3, by decide, b_1_215, rfl, rfl, fun _ => Or.inr (by decide)⟩
theorem fl_X3_26 : FLK RX3 26 3 7 (.array .int) true := ⟨RX3, TX3, 14, tyX3, rfl, inX3, tyX3_ok, nmX3, by decide, b_1_216, rfl, rfl, fun _ => Or.inl rfl⟩
theorem fl_X3_29 : FLK RX3 29 3 8 (.array .int) true := ⟨RX3, TX3, 14, tyX3, rfl, inX3, tyX3_ok, nmX3, by decide, b_1_217, rfl, rfl, fun _ => Or.inl rfl⟩
theorem fl_X3_32 : FLK RX3 32 3 9 (.array .int) true := ⟨RX3, TX3, 14, tyX3, rfl, inX3, tyX3_ok, nmX3, by decide, b_1_218, rfl, rfl, fun _ => Or.inl rfl⟩
theorem fl_X3_35 : FLK RX3 35 3 10 (.array .int) true := ⟨RX3, TX3, 14, tyX3, rfl, inX3, tyX3_ok, nmX3, by decide, b_1_219, rfl, rfl, fun _ => Or.inl rfl⟩
theorem fl_X3_38 : FLK RX3 38 3 11 (.array .int) true := ⟨RX3, TX3, 14, tyX3, rfl, inX3, tyX3_ok, nmX3, by decide, b_1_220, rfl, rfl, fun _ => Or.inl rfl⟩
theorem fl_X3_41 : FLK RX3 41 3 12 (.array .int) true := ⟨RX3, TX3, 14, tyX3, rfl, inX3, tyX3_ok, nmX3, by decide, b_1_221, rfl, rfl, fun _ => Or.inl rfl⟩
theorem fl_X3_44 : FLK RX3 44 3 13 (.array .boolean) true := ⟨RX3, TX3, 14, tyX3, rfl, inX3, tyX3_ok, nmX3, by decide, b_1_222, rfl, rfl, fun _ => Or.inl rfl⟩
theorem fl_X5_9 : FLK RX5 9 5 0 (.array .int) true := ⟨RX5, TX5, 14, tyX5, rfl, inX5, tyX5_ok, nmX5, by decide, b_2_19, rfl, rfl, fun _ => Or.inl rfl⟩
theorem fl_X5_15 : FLK RX5 15 5 1 (.int) false := ⟨RX5, TX5, 14, tyX5, rfl, inX5, tyX5_ok, nmX5, by decide, b_2_20, rfl, rfl, fun _ => Or.inl rfl⟩
theorem fl_X5_19 : FLK RX5 19 5 2 (.array .int) true := ⟨RX5, TX5, 14, tyX5, rfl, inX5, tyX5_ok, nmX5, by decide, b_2_21, rfl, rfl, fun _ => Or.inl rfl⟩
theorem fl_X5_22 : FLK RX5 22 5 3 (.array .int) true := ⟨RX5, TX5, 14, tyX5, rfl, inX5, tyX5_ok, nmX5, by decide, b_2_22, rfl, rfl, fun _ => Or.inl rfl⟩
theorem fl_X5_25 : FLK RX5 25 5 4 (.array .int) true := ⟨RX5, TX5, 14, tyX5, rfl, inX5, tyX5_ok, nmX5, by decide, b_2_23, rfl, rfl, fun _ => Or.inl rfl⟩
theorem fl_X5_28 : FLK RX5 28 5 5 (.array .int) true := ⟨RX5, TX5, 14, tyX5, rfl, inX5, tyX5_ok, nmX5, by decide, b_2_24, rfl, rfl, fun _ => Or.inl rfl⟩
theorem fl_X5_31 : FLK RX5 31 5 6 (.array .int) true := ⟨RX5, TX5, 14, tyX5, rfl, inX5, tyX5_ok, nmX5, by decide, b_2_25, rfl, rfl, fun _ => Or.inl rfl⟩
theorem fl_X5_34 : FLK RX5 34 5 7 (.array .int) true := ⟨RX5, TX5, 14, tyX5, rfl, inX5, tyX5_ok, nmX5, by decide, b_2_26, rfl, rfl, fun _ => Or.inl rfl⟩
theorem fl_X11_298 : FLK RX11 298 5 7 (.array .int) true := ⟨RX5, TX5, 14, tyX5, rfl, inX5, tyX5_ok, nmX5, by decide, b_2_27, rfl, rfl, fun _ => Or.inr (by decide)⟩
theorem fl_X5_37 : FLK RX5 37 5 8 (.boolean) false := ⟨RX5, TX5, 14, tyX5, rfl, inX5, tyX5_ok, nmX5, by decide, b_2_28, rfl, rfl, fun _ => Or.inl rfl⟩
theorem fl_X11_589 : FLK RX11 589 5 8 (.boolean) false := ⟨RX5, TX5, 14, tyX5, rfl, inX5, tyX5_ok, nmX5, by decide, b_2_29, rfl, rfl, fun h => absurd h (by decide)⟩
theorem fl_X5_41 : FLK RX5 41 5 9 (.int) false := ⟨RX5, TX5, 14, tyX5, rfl, inX5, tyX5_ok, nmX5, by decide, b_2_30, rfl, rfl, fun _ => Or.inl rfl⟩
theorem fl_X11_292 : FLK RX11 292 5 9 (.int) false := ⟨RX5, TX5, 14, tyX5, rfl, inX5, tyX5_ok, nmX5, by decide, b_2_31, rfl, rfl, fun h => absurd h (by decide)⟩
theorem fl_X5_44 : FLK RX5 44 5 10 (.int) false := ⟨RX5, TX5, 14, tyX5, rfl, inX5, tyX5_ok, nmX5, by decide, b_2_32, rfl, rfl, fun _ => Or.inl rfl⟩
theorem fl_X5_47 : FLK RX5 47 5 11 (.int) false := ⟨RX5, TX5, 14, tyX5, rfl, inX5, tyX5_ok, nmX5, by decide, b_2_33, rfl, rfl, fun _ => Or.inl rfl⟩
theorem fl_X11_307 : FLK RX11 307 5 11 (.int) false := ⟨RX5, TX5, 14, tyX5, rfl, inX5, tyX5_ok, nmX5, by decide, b_2_34, rfl, rfl, fun h => absurd h (by decide)⟩
theorem fl_X5_50 : FLK RX5 50 5 12 (.long) false := ⟨RX5, TX5, 14, tyX5, rfl, inX5, tyX5_ok, nmX5, by decide, b_2_35, rfl, rfl, fun _ => Or.inl rfl⟩
theorem fl_X5_54 : FLK RX5 54 5 13 (.long) false := ⟨RX5, TX5, 14, tyX5, rfl, inX5, tyX5_ok, nmX5, by decide, b_2_36, rfl, rfl, fun _ => Or.inl rfl⟩
theorem fl_X1_9 : FLK RX1 9 1 0 (.int) false := ⟨RX1, TX1, 5, tyX1, rfl, inX1, tyX1_ok, nmX1, by decide, b_2_72, rfl, rfl, fun _ => Or.inl rfl⟩
theorem fl_X1_15 : FLK RX1 15 1 1 (.long) false := ⟨RX1, TX1, 5, tyX1, rfl, inX1, tyX1_ok, nmX1, by decide, b_2_73, rfl, rfl, fun _ => Or.inl rfl⟩
theorem fl_X1_19 : FLK RX1 19 1 2 (.array .long) true := ⟨RX1, TX1, 5, tyX1, rfl, inX1, tyX1_ok, nmX1, by decide, b_2_74, rfl, rfl, fun _ => Or.inl rfl⟩
theorem fl_X11_392 : FLK RX11 392 1 2 (.array .long) true := ⟨RX1, TX1, 5, tyX1, rfl, inX1, tyX1_ok, nmX1, by decide, b_2_75, rfl, rfl, fun _ => Or.inr (by decide)⟩
theorem fl_X1_23 : FLK RX1 23 1 3 (.array .long) true := ⟨RX1, TX1, 5, tyX1, rfl, inX1, tyX1_ok, nmX1, by decide, b_2_76, rfl, rfl, fun _ => Or.inl rfl⟩
theorem fl_X1_26 : FLK RX1 26 1 4 (.array .int) true := ⟨RX1, TX1, 5, tyX1, rfl, inX1, tyX1_ok, nmX1, by decide, b_2_77, rfl, rfl, fun _ => Or.inl rfl⟩
theorem fl_X9_40 : FLK RX9 40 9 0 (.object "OneHand$Land") true := ⟨RX9, TX9, 11, tyX9, rfl, inX9, tyX9_ok, nmX9, by decide, b_2_95, rfl, rfl, fun _ => Or.inl rfl⟩
theorem fl_X9_44 : FLK RX9 44 9 1 (.object "OneHand$Deeds") true := ⟨RX9, TX9, 11, tyX9, rfl, inX9, tyX9_ok, nmX9, by decide, b_2_96, rfl, rfl, fun _ => Or.inl rfl⟩
theorem fl_X9_9 : FLK RX9 9 9 2 (.int) false := ⟨RX9, TX9, 11, tyX9, rfl, inX9, tyX9_ok, nmX9, by decide, b_2_97, rfl, rfl, fun _ => Or.inl rfl⟩
theorem fl_X11_400 : FLK RX11 400 9 2 (.int) false := ⟨RX9, TX9, 11, tyX9, rfl, inX9, tyX9_ok, nmX9, by decide, b_2_98, rfl, rfl, fun h => absurd h (by decide)⟩
theorem fl_X9_15 : FLK RX9 15 9 3 (.array .int) true := ⟨RX9, TX9, 11, tyX9, rfl, inX9, tyX9_ok, nmX9, by decide, b_2_99, rfl, rfl, fun _ => Or.inl rfl⟩
theorem fl_X9_19 : FLK RX9 19 9 4 (.array .int) true := ⟨RX9, TX9, 11, tyX9, rfl, inX9, tyX9_ok, nmX9, by decide, b_2_100, rfl, rfl, fun _ => Or.inl rfl⟩
theorem fl_X9_22 : FLK RX9 22 9 5 (.array .int) true := ⟨RX9, TX9, 11, tyX9, rfl, inX9, tyX9_ok, nmX9, by decide, b_2_101, rfl, rfl, fun _ => Or.inl rfl⟩
theorem fl_X9_25 : FLK RX9 25 9 6 (.array .int) true := ⟨RX9, TX9, 11, tyX9, rfl, inX9, tyX9_ok, nmX9, by decide, b_2_102, rfl, rfl, fun _ => Or.inl rfl⟩
theorem fl_X11_358 : FLK RX11 358 9 6 (.array .int) true := ⟨RX9, TX9, 11, tyX9, rfl, inX9, tyX9_ok, nmX9, by decide, b_2_103, rfl, rfl, fun _ => Or.inr (by decide)⟩
theorem fl_X9_28 : FLK RX9 28 9 7 (.array .int) true := ⟨RX9, TX9, 11, tyX9, rfl, inX9, tyX9_ok, nmX9, by decide, b_2_104, rfl, rfl, fun _ => Or.inl rfl⟩
theorem fl_X9_31 : FLK RX9 31 9 8 (.int) false := ⟨RX9, TX9, 11, tyX9, rfl, inX9, tyX9_ok, nmX9, by decide, b_2_105, rfl, rfl, fun _ => Or.inl rfl⟩
theorem fl_X11_370 : FLK RX11 370 9 8 (.int) false := ⟨RX9, TX9, 11, tyX9, rfl, inX9, tyX9_ok, nmX9, by decide, b_2_106, rfl, rfl, fun h => absurd h (by decide)⟩
theorem fl_X9_34 : FLK RX9 34 9 9 (.array .int) true := ⟨RX9, TX9, 11, tyX9, rfl, inX9, tyX9_ok, nmX9, by decide, b_2_107, rfl, rfl, fun _ => Or.inl rfl⟩
theorem fl_X9_37 : FLK RX9 37 9 10 (.array .int) true := ⟨RX9, TX9, 11, tyX9, rfl, inX9, tyX9_ok, nmX9, by decide, b_2_108, rfl, rfl, fun _ => Or.inl rfl⟩
theorem fl_X11_378 : FLK RX11 378 9 10 (.array .int) true := ⟨RX9, TX9, 11, tyX9, rfl, inX9, tyX9_ok, nmX9, by decide, b_2_109, rfl, rfl, fun _ => Or.inr (by decide)⟩
theorem fl_X7_9 : FLK RX7 9 7 0 (.int) false := ⟨RX7, TX7, 9, tyX7, rfl, inX7, tyX7_ok, nmX7, by decide, b_2_139, rfl, rfl, fun _ => Or.inl rfl⟩
theorem fl_X6_91 : FLK RX6 91 7 0 (.int) false := ⟨RX7, TX7, 9, tyX7, rfl, inX7, tyX7_ok, nmX7, by decide, b_2_140, rfl, rfl, fun h => absurd h (by decide)⟩
theorem fl_X11_478 : FLK RX11 478 7 0 (.int) false := ⟨RX7, TX7, 9, tyX7, rfl, inX7, tyX7_ok, nmX7, by decide, b_2_141, rfl, rfl, fun h => absurd h (by decide)⟩
theorem fl_X7_15 : FLK RX7 15 7 1 (.array .int) true := ⟨RX7, TX7, 9, tyX7, rfl, inX7, tyX7_ok, nmX7, by decide, b_2_142, rfl, rfl, fun _ => Or.inl rfl⟩
theorem fl_X6_94 : FLK RX6 94 7 1 (.array .int) true := ⟨RX7, TX7, 9, tyX7, rfl, inX7, tyX7_ok, nmX7, by decide, b_2_143, rfl, rfl, fun _ => Or.inr (by decide)⟩
theorem fl_X7_19 : FLK RX7 19 7 2 (.array .int) true := ⟨RX7, TX7, 9, tyX7, rfl, inX7, tyX7_ok, nmX7, by decide, b_2_144, rfl, rfl, fun _ => Or.inl rfl⟩
theorem fl_X6_97 : FLK RX6 97 7 2 (.array .int) true := ⟨RX7, TX7, 9, tyX7, rfl, inX7, tyX7_ok, nmX7, by decide, b_2_145, rfl, rfl, fun _ => Or.inr (by decide)⟩
theorem fl_X7_22 : FLK RX7 22 7 3 (.array .int) true := ⟨RX7, TX7, 9, tyX7, rfl, inX7, tyX7_ok, nmX7, by decide, b_2_146, rfl, rfl, fun _ => Or.inl rfl⟩
theorem fl_X6_106 : FLK RX6 106 7 3 (.array .int) true := ⟨RX7, TX7, 9, tyX7, rfl, inX7, tyX7_ok, nmX7, by decide, b_2_147, rfl, rfl, fun _ => Or.inr (by decide)⟩
theorem fl_X7_25 : FLK RX7 25 7 4 (.array .int) true := ⟨RX7, TX7, 9, tyX7, rfl, inX7, tyX7_ok, nmX7, by decide, b_2_148, rfl, rfl, fun _ => Or.inl rfl⟩
theorem fl_X6_112 : FLK RX6 112 7 4 (.array .int) true := ⟨RX7, TX7, 9, tyX7, rfl, inX7, tyX7_ok, nmX7, by decide, b_2_149, rfl, rfl, fun _ => Or.inr (by decide)⟩
theorem fl_X7_28 : FLK RX7 28 7 5 (.array .int) true := ⟨RX7, TX7, 9, tyX7, rfl, inX7, tyX7_ok, nmX7, by decide, b_2_150, rfl, rfl, fun _ => Or.inl rfl⟩
theorem fl_X7_31 : FLK RX7 31 7 6 (.int) false := ⟨RX7, TX7, 9, tyX7, rfl, inX7, tyX7_ok, nmX7, by decide, b_2_151, rfl, rfl, fun _ => Or.inl rfl⟩
theorem fl_X6_100 : FLK RX6 100 7 6 (.int) false := ⟨RX7, TX7, 9, tyX7, rfl, inX7, tyX7_ok, nmX7, by decide, b_2_152, rfl, rfl, fun h => absurd h (by decide)⟩
theorem fl_X7_34 : FLK RX7 34 7 7 (.array .long) true := ⟨RX7, TX7, 9, tyX7, rfl, inX7, tyX7_ok, nmX7, by decide, b_2_153, rfl, rfl, fun _ => Or.inl rfl⟩
theorem fl_X11_623 : FLK RX11 623 7 7 (.array .long) true := ⟨RX7, TX7, 9, tyX7, rfl, inX7, tyX7_ok, nmX7, by decide, b_2_154, rfl, rfl, fun _ => Or.inr (by decide)⟩
theorem fl_X7_38 : FLK RX7 38 7 8 (.array .long) true := ⟨RX7, TX7, 9, tyX7, rfl, inX7, tyX7_ok, nmX7, by decide, b_2_155, rfl, rfl, fun _ => Or.inl rfl⟩
theorem fl_X6_12 : FLK RX6 12 6 0 (.object "OneHand$Rights") true := ⟨RX6, TX6, 9, tyX6, rfl, inX6, tyX6_ok, nmX6, by decide, b_2_183, rfl, rfl, fun _ => Or.inl rfl⟩
theorem fl_X11_472 : FLK RX11 472 6 0 (.object "OneHand$Rights") true := ⟨RX6, TX6, 9, tyX6, rfl, inX6, tyX6_ok, nmX6, by decide, b_2_184, rfl, rfl, fun _ => Or.inr (by decide)⟩
theorem fl_X6_18 : FLK RX6 18 6 1 (.int) false := ⟨RX6, TX6, 9, tyX6, rfl, inX6, tyX6_ok, nmX6, by decide, b_2_185, rfl, rfl, fun _ => Or.inl rfl⟩
theorem fl_X11_469 : FLK RX11 469 6 1 (.int) false := ⟨RX6, TX6, 9, tyX6, rfl, inX6, tyX6_ok, nmX6, by decide, b_2_186, rfl, rfl, fun h => absurd h (by decide)⟩
theorem fl_X6_22 : FLK RX6 22 6 2 (.int) false := ⟨RX6, TX6, 9, tyX6, rfl, inX6, tyX6_ok, nmX6, by decide, b_2_187, rfl, rfl, fun _ => Or.inl rfl⟩
theorem fl_X11_481 : FLK RX11 481 6 2 (.int) false := ⟨RX6, TX6, 9, tyX6, rfl, inX6, tyX6_ok, nmX6, by decide, b_2_188, rfl, rfl, fun h => absurd h (by decide)⟩
theorem fl_X6_25 : FLK RX6 25 6 3 (.array .int) true := ⟨RX6, TX6, 9, tyX6, rfl, inX6, tyX6_ok, nmX6, by decide, b_2_189, rfl, rfl, fun _ => Or.inl rfl⟩
theorem fl_X6_29 : FLK RX6 29 6 4 (.array .int) true := ⟨RX6, TX6, 9, tyX6, rfl, inX6, tyX6_ok, nmX6, by decide, b_2_190, rfl, rfl, fun _ => Or.inl rfl⟩
theorem fl_X6_32 : FLK RX6 32 6 5 (.array .int) true := ⟨RX6, TX6, 9, tyX6, rfl, inX6, tyX6_ok, nmX6, by decide, b_2_191, rfl, rfl, fun _ => Or.inl rfl⟩
theorem fl_X6_35 : FLK RX6 35 6 6 (.int) false := ⟨RX6, TX6, 9, tyX6, rfl, inX6, tyX6_ok, nmX6, by decide, b_2_192, rfl, rfl, fun _ => Or.inl rfl⟩
theorem fl_X6_38 : FLK RX6 38 6 7 (.int) false := ⟨RX6, TX6, 9, tyX6, rfl, inX6, tyX6_ok, nmX6, by decide, b_2_193, rfl, rfl, fun _ => Or.inl rfl⟩
theorem fl_X6_41 : FLK RX6 41 6 8 (.int) false := ⟨RX6, TX6, 9, tyX6, rfl, inX6, tyX6_ok, nmX6, by decide, b_2_194, rfl, rfl, fun _ => Or.inl rfl⟩
theorem fl_X10_9 : FLK RX10 9 10 0 (.array .int) true := ⟨RX10, TX10, 3, tyX10, rfl, inX10, tyX10_ok, nmX10, by decide, b_2_220, rfl, rfl, fun _ => Or.inl rfl⟩
theorem fl_X11_509 : FLK RX11 509 10 0 (.array .int) true := ⟨RX10, TX10, 3, tyX10, rfl, inX10, tyX10_ok, nmX10, by decide, b_2_221, rfl, rfl, fun _ => Or.inr (by decide)⟩
theorem fl_X10_15 : FLK RX10 15 10 1 (.array .int) true := ⟨RX10, TX10, 3, tyX10, rfl, inX10, tyX10_ok, nmX10, by decide, b_2_222, rfl, rfl, fun _ => Or.inl rfl⟩
theorem fl_X10_18 : FLK RX10 18 10 2 (.array .long) true := ⟨RX10, TX10, 3, tyX10, rfl, inX10, tyX10_ok, nmX10, by decide, b_2_223, rfl, rfl, fun _ => Or.inl rfl⟩
theorem fl_X11_10 : FLK RX11 10 11 0 (.object "OneHand$Land") true := ⟨RX11, TX11, 16, tyX11, rfl, inX11, tyX11_ok, nmX11, by decide, b_2_231, rfl, rfl, fun _ => Or.inl rfl⟩
theorem fl_X11_21 : FLK RX11 21 11 1 (.object "OneHand$Deeds") true := ⟨RX11, TX11, 16, tyX11, rfl, inX11, tyX11_ok, nmX11, by decide, b_2_232, rfl, rfl, fun _ => Or.inl rfl⟩
theorem fl_X11_28 : FLK RX11 28 11 2 (.object "OneHand$Links") true := ⟨RX11, TX11, 16, tyX11, rfl, inX11, tyX11_ok, nmX11, by decide, b_2_233, rfl, rfl, fun _ => Or.inl rfl⟩
theorem fl_X11_35 : FLK RX11 35 11 3 (.object "OneHand$Sheet") true := ⟨RX11, TX11, 16, tyX11, rfl, inX11, tyX11_ok, nmX11, by decide, b_2_234, rfl, rfl, fun _ => Or.inl rfl⟩
theorem fl_X11_39 : FLK RX11 39 11 4 (.object "OneHand$Sheet") true := ⟨RX11, TX11, 16, tyX11, rfl, inX11, tyX11_ok, nmX11, by decide, b_2_235, rfl, rfl, fun _ => Or.inl rfl⟩
theorem fl_X11_42 : FLK RX11 42 11 5 (.object "OneHand$Sheet") true := ⟨RX11, TX11, 16, tyX11, rfl, inX11, tyX11_ok, nmX11, by decide, b_2_236, rfl, rfl, fun _ => Or.inl rfl⟩
theorem fl_X11_50 : FLK RX11 50 11 6 (.object "OneHand$Likeness") true := ⟨RX11, TX11, 16, tyX11, rfl, inX11, tyX11_ok, nmX11, by decide, b_2_237, rfl, rfl, fun _ => Or.inl rfl⟩
theorem fl_X11_57 : FLK RX11 57 11 7 (.object "OneHand$Partings") true := ⟨RX11, TX11, 16, tyX11, rfl, inX11, tyX11_ok, nmX11, by decide, b_2_238, rfl, rfl, fun _ => Or.inl rfl⟩
theorem fl_X11_64 : FLK RX11 64 11 8 (.object "OneHand$Groups") true := ⟨RX11, TX11, 16, tyX11, rfl, inX11, tyX11_ok, nmX11, by decide, b_2_239, rfl, rfl, fun _ => Or.inl rfl⟩
theorem fl_X11_73 : FLK RX11 73 11 9 (.object "OneHand$Trails") true := ⟨RX11, TX11, 16, tyX11, rfl, inX11, tyX11_ok, nmX11, by decide, b_3_0, rfl, rfl, fun _ => Or.inl rfl⟩
theorem fl_X11_80 : FLK RX11 80 11 10 (.object "OneHand$Rights") true := ⟨RX11, TX11, 16, tyX11, rfl, inX11, tyX11_ok, nmX11, by decide, b_3_1, rfl, rfl, fun _ => Or.inl rfl⟩
theorem fl_X11_87 : FLK RX11 87 11 11 (.object "OneHand$Reader") true := ⟨RX11, TX11, 16, tyX11, rfl, inX11, tyX11_ok, nmX11, by decide, b_3_2, rfl, rfl, fun _ => Or.inl rfl⟩
theorem fl_X11_94 : FLK RX11 94 11 12 (.object "OneHand$Trays") true := ⟨RX11, TX11, 16, tyX11, rfl, inX11, tyX11_ok, nmX11, by decide, b_3_3, rfl, rfl, fun _ => Or.inl rfl⟩
theorem fl_X11_98 : FLK RX11 98 11 13 (.array .int) true := ⟨RX11, TX11, 16, tyX11, rfl, inX11, tyX11_ok, nmX11, by decide, b_3_4, rfl, rfl, fun _ => Or.inl rfl⟩
theorem fl_X11_102 : FLK RX11 102 11 14 (.int) false := ⟨RX11, TX11, 16, tyX11, rfl, inX11, tyX11_ok, nmX11, by decide, b_3_5, rfl, rfl, fun _ => Or.inl rfl⟩
theorem fl_X11_106 : FLK RX11 106 11 15 (.array .int) true := ⟨RX11, TX11, 16, tyX11, rfl, inX11, tyX11_ok, nmX11, by decide, b_3_6, rfl, rfl, fun _ => Or.inl rfl⟩
theorem fl_X12_185 : FLK RX12 185 12 0 (.int) false := ⟨RX12, TX12, 87, tyX12, rfl, inX12, tyX12_ok, nmX12, by decide, b_8_23, rfl, rfl, fun _ => Or.inl rfl⟩
theorem fl_X12_240 : FLK RX12 240 12 1 (.int) false := ⟨RX12, TX12, 87, tyX12, rfl, inX12, tyX12_ok, nmX12, by decide, b_8_24, rfl, rfl, fun _ => Or.inl rfl⟩
theorem fl_X12_194 : FLK RX12 194 12 2 (.int) false := ⟨RX12, TX12, 87, tyX12, rfl, inX12, tyX12_ok, nmX12, by decide, b_8_25, rfl, rfl, fun _ => Or.inl rfl⟩
theorem fl_X12_197 : FLK RX12 197 12 3 (.int) false := ⟨RX12, TX12, 87, tyX12, rfl, inX12, tyX12_ok, nmX12, by decide, b_8_26, rfl, rfl, fun _ => Or.inl rfl⟩
theorem fl_X12_200 : FLK RX12 200 12 4 (.int) false := ⟨RX12, TX12, 87, tyX12, rfl, inX12, tyX12_ok, nmX12, by decide, b_8_27, rfl, rfl, fun _ => Or.inl rfl⟩
theorem fl_X12_234 : FLK RX12 234 12 5 (.int) false := ⟨RX12, TX12, 87, tyX12, rfl, inX12, tyX12_ok, nmX12, by decide, b_8_28, rfl, rfl, fun _ => Or.inl rfl⟩
theorem fl_X12_203 : FLK RX12 203 12 6 (.int) false := ⟨RX12, TX12, 87, tyX12, rfl, inX12, tyX12_ok, nmX12, by decide, b_8_29, rfl, rfl, fun _ => Or.inl rfl⟩
theorem fl_X12_243 : FLK RX12 243 12 7 (.int) false := ⟨RX12, TX12, 87, tyX12, rfl, inX12, tyX12_ok, nmX12, by decide, b_8_30, rfl, rfl, fun _ => Or.inl rfl⟩
theorem fl_X12_441 : FLK RX12 441 12 8 (.int) false := ⟨RX12, TX12, 87, tyX12, rfl, inX12, tyX12_ok, nmX12, by decide, b_8_31, rfl, rfl, fun _ => Or.inl rfl⟩
theorem fl_X12_9 : FLK RX12 9 12 9 (.array .int) true := ⟨RX12, TX12, 87, tyX12, rfl, inX12, tyX12_ok, nmX12, by decide, b_8_32, rfl, rfl, fun _ => Or.inl rfl⟩
theorem fl_X12_13 : FLK RX12 13 12 10 (.array .int) true := ⟨RX12, TX12, 87, tyX12, rfl, inX12, tyX12_ok, nmX12, by decide, b_8_33, rfl, rfl, fun _ => Or.inl rfl⟩
theorem fl_X12_16 : FLK RX12 16 12 11 (.array .int) true := ⟨RX12, TX12, 87, tyX12, rfl, inX12, tyX12_ok, nmX12, by decide, b_8_34, rfl, rfl, fun _ => Or.inl rfl⟩
theorem fl_X12_19 : FLK RX12 19 12 12 (.array .int) true := ⟨RX12, TX12, 87, tyX12, rfl, inX12, tyX12_ok, nmX12, by decide, b_8_35, rfl, rfl, fun _ => Or.inl rfl⟩
theorem fl_X12_22 : FLK RX12 22 12 13 (.array .int) true := ⟨RX12, TX12, 87, tyX12, rfl, inX12, tyX12_ok, nmX12, by decide, b_8_36, rfl, rfl, fun _ => Or.inl rfl⟩
theorem fl_X12_25 : FLK RX12 25 12 14 (.array .int) true := ⟨RX12, TX12, 87, tyX12, rfl, inX12, tyX12_ok, nmX12, by decide, b_8_37, rfl, rfl, fun _ => Or.inl rfl⟩
theorem fl_X12_28 : FLK RX12 28 12 15 (.array .int) true := ⟨RX12, TX12, 87, tyX12, rfl, inX12, tyX12_ok, nmX12, by decide, b_8_38, rfl, rfl, fun _ => Or.inl rfl⟩
theorem fl_X12_31 : FLK RX12 31 12 16 (.array .int) true := ⟨RX12, TX12, 87, tyX12, rfl, inX12, tyX12_ok, nmX12, by decide, b_8_39, rfl, rfl, fun _ => Or.inl rfl⟩
theorem fl_X12_34 : FLK RX12 34 12 17 (.array .int) true := ⟨RX12, TX12, 87, tyX12, rfl, inX12, tyX12_ok, nmX12, by decide, b_8_40, rfl, rfl, fun _ => Or.inl rfl⟩
theorem fl_X12_37 : FLK RX12 37 12 18 (.array .int) true := ⟨RX12, TX12, 87, tyX12, rfl, inX12, tyX12_ok, nmX12, by decide, b_8_41, rfl, rfl, fun _ => Or.inl rfl⟩
theorem fl_X12_40 : FLK RX12 40 12 19 (.array .int) true := ⟨RX12, TX12, 87, tyX12, rfl, inX12, tyX12_ok, nmX12, by decide, b_8_42, rfl, rfl, fun _ => Or.inl rfl⟩
theorem fl_X12_43 : FLK RX12 43 12 20 (.array .int) true := ⟨RX12, TX12, 87, tyX12, rfl, inX12, tyX12_ok, nmX12, by decide, b_8_43, rfl, rfl, fun _ => Or.inl rfl⟩
theorem fl_X12_46 : FLK RX12 46 12 21 (.array .boolean) true := ⟨RX12, TX12, 87, tyX12, rfl, inX12, tyX12_ok, nmX12, by decide, b_8_44, rfl, rfl, fun _ => Or.inl rfl⟩
theorem fl_X12_50 : FLK RX12 50 12 22 (.array .boolean) true := ⟨RX12, TX12, 87, tyX12, rfl, inX12, tyX12_ok, nmX12, by decide, b_8_45, rfl, rfl, fun _ => Or.inl rfl⟩
theorem fl_X12_53 : FLK RX12 53 12 23 (.array .boolean) true := ⟨RX12, TX12, 87, tyX12, rfl, inX12, tyX12_ok, nmX12, by decide, b_8_46, rfl, rfl, fun _ => Or.inl rfl⟩
theorem fl_X12_56 : FLK RX12 56 12 24 (.array .int) true := ⟨RX12, TX12, 87, tyX12, rfl, inX12, tyX12_ok, nmX12, by decide, b_8_47, rfl, rfl, fun _ => Or.inl rfl⟩
theorem fl_X12_59 : FLK RX12 59 12 25 (.array .int) true := ⟨RX12, TX12, 87, tyX12, rfl, inX12, tyX12_ok, nmX12, by decide, b_8_48, rfl, rfl, fun _ => Or.inl rfl⟩
theorem fl_X12_62 : FLK RX12 62 12 26 (.array .int) true := ⟨RX12, TX12, 87, tyX12, rfl, inX12, tyX12_ok, nmX12, by decide, b_8_49, rfl, rfl, fun _ => Or.inl rfl⟩
theorem fl_X12_65 : FLK RX12 65 12 27 (.array .int) true := ⟨RX12, TX12, 87, tyX12, rfl, inX12, tyX12_ok, nmX12, by decide, b_8_50, rfl, rfl, fun _ => Or.inl rfl⟩
theorem fl_X12_68 : FLK RX12 68 12 28 (.array .int) true := ⟨RX12, TX12, 87, tyX12, rfl, inX12, tyX12_ok, nmX12, by decide, b_8_51, rfl, rfl, fun _ => Or.inl rfl⟩
theorem fl_X12_213 : FLK RX12 213 12 29 (.int) false := ⟨RX12, TX12, 87, tyX12, rfl, inX12, tyX12_ok, nmX12, by decide, b_8_52, rfl, rfl, fun _ => Or.inl rfl⟩
theorem fl_X12_72 : FLK RX12 72 12 30 (.int) false := ⟨RX12, TX12, 87, tyX12, rfl, inX12, tyX12_ok, nmX12, by decide, b_8_53, rfl, rfl, fun _ => Or.inl rfl⟩
theorem fl_X12_76 : FLK RX12 76 12 31 (.array .int) true := ⟨RX12, TX12, 87, tyX12, rfl, inX12, tyX12_ok, nmX12, by decide, b_8_54, rfl, rfl, fun _ => Or.inl rfl⟩
theorem fl_X12_79 : FLK RX12 79 12 32 (.array .int) true := ⟨RX12, TX12, 87, tyX12, rfl, inX12, tyX12_ok, nmX12, by decide, b_8_55, rfl, rfl, fun _ => Or.inl rfl⟩
theorem fl_X12_82 : FLK RX12 82 12 33 (.array .int) true := ⟨RX12, TX12, 87, tyX12, rfl, inX12, tyX12_ok, nmX12, by decide, b_8_56, rfl, rfl, fun _ => Or.inl rfl⟩
theorem fl_X12_85 : FLK RX12 85 12 34 (.array .int) true := ⟨RX12, TX12, 87, tyX12, rfl, inX12, tyX12_ok, nmX12, by decide, b_8_57, rfl, rfl, fun _ => Or.inl rfl⟩
theorem fl_X12_88 : FLK RX12 88 12 35 (.array .int) true := ⟨RX12, TX12, 87, tyX12, rfl, inX12, tyX12_ok, nmX12, by decide, b_8_58, rfl, rfl, fun _ => Or.inl rfl⟩
theorem fl_X12_91 : FLK RX12 91 12 36 (.int) false := ⟨RX12, TX12, 87, tyX12, rfl, inX12, tyX12_ok, nmX12, by decide, b_8_59, rfl, rfl, fun _ => Or.inl rfl⟩
theorem fl_X12_299 : FLK RX12 299 12 37 (.int) false := ⟨RX12, TX12, 87, tyX12, rfl, inX12, tyX12_ok, nmX12, by decide, b_8_60, rfl, rfl, fun _ => Or.inl rfl⟩
theorem fl_X12_302 : FLK RX12 302 12 38 (.int) false := ⟨RX12, TX12, 87, tyX12, rfl, inX12, tyX12_ok, nmX12, by decide, b_8_61, rfl, rfl, fun _ => Or.inl rfl⟩
theorem fl_X12_94 : FLK RX12 94 12 39 (.array .int) true := ⟨RX12, TX12, 87, tyX12, rfl, inX12, tyX12_ok, nmX12, by decide, b_8_62, rfl, rfl, fun _ => Or.inl rfl⟩
theorem fl_X12_97 : FLK RX12 97 12 40 (.array .int) true := ⟨RX12, TX12, 87, tyX12, rfl, inX12, tyX12_ok, nmX12, by decide, b_8_63, rfl, rfl, fun _ => Or.inl rfl⟩
theorem fl_X12_100 : FLK RX12 100 12 41 (.array .int) true := ⟨RX12, TX12, 87, tyX12, rfl, inX12, tyX12_ok, nmX12, by decide, b_8_64, rfl, rfl, fun _ => Or.inl rfl⟩
theorem fl_X12_356 : FLK RX12 356 12 42 (.int) false := ⟨RX12, TX12, 87, tyX12, rfl, inX12, tyX12_ok, nmX12, by decide, b_8_65, rfl, rfl, fun _ => Or.inl rfl⟩
theorem fl_X12_103 : FLK RX12 103 12 43 (.array .int) true := ⟨RX12, TX12, 87, tyX12, rfl, inX12, tyX12_ok, nmX12, by decide, b_8_66, rfl, rfl, fun _ => Or.inl rfl⟩
theorem fl_X12_106 : FLK RX12 106 12 44 (.array .int) true := ⟨RX12, TX12, 87, tyX12, rfl, inX12, tyX12_ok, nmX12, by decide, b_8_67, rfl, rfl, fun _ => Or.inl rfl⟩
theorem fl_X12_109 : FLK RX12 109 12 45 (.array .int) true := ⟨RX12, TX12, 87, tyX12, rfl, inX12, tyX12_ok, nmX12, by decide, b_8_68, rfl, rfl, fun _ => Or.inl rfl⟩
theorem fl_X12_112 : FLK RX12 112 12 46 (.array .int) true := ⟨RX12, TX12, 87, tyX12, rfl, inX12, tyX12_ok, nmX12, by decide, b_8_69, rfl, rfl, fun _ => Or.inl rfl⟩
theorem fl_X12_115 : FLK RX12 115 12 47 (.array .int) true := ⟨RX12, TX12, 87, tyX12, rfl, inX12, tyX12_ok, nmX12, by decide, b_8_70, rfl, rfl, fun _ => Or.inl rfl⟩
theorem fl_X12_373 : FLK RX12 373 12 48 (.int) false := ⟨RX12, TX12, 87, tyX12, rfl, inX12, tyX12_ok, nmX12, by decide, b_8_71, rfl, rfl, fun _ => Or.inl rfl⟩
theorem fl_X12_379 : FLK RX12 379 12 49 (.int) false := ⟨RX12, TX12, 87, tyX12, rfl, inX12, tyX12_ok, nmX12, by decide, b_8_72, rfl, rfl, fun _ => Or.inl rfl⟩
theorem fl_X12_362 : FLK RX12 362 12 50 (.boolean) false := ⟨RX12, TX12, 87, tyX12, rfl, inX12, tyX12_ok, nmX12, by decide, b_8_73, rfl, rfl, fun _ => Or.inl rfl⟩
theorem fl_X12_359 : FLK RX12 359 12 51 (.int) false := ⟨RX12, TX12, 87, tyX12, rfl, inX12, tyX12_ok, nmX12, by decide, b_8_74, rfl, rfl, fun _ => Or.inl rfl⟩
theorem fl_X12_118 : FLK RX12 118 12 52 (.array .int) true := ⟨RX12, TX12, 87, tyX12, rfl, inX12, tyX12_ok, nmX12, by decide, b_8_75, rfl, rfl, fun _ => Or.inl rfl⟩
theorem fl_X12_121 : FLK RX12 121 12 53 (.array .int) true := ⟨RX12, TX12, 87, tyX12, rfl, inX12, tyX12_ok, nmX12, by decide, b_8_76, rfl, rfl, fun _ => Or.inl rfl⟩
theorem fl_X12_417 : FLK RX12 417 12 54 (.int) false := ⟨RX12, TX12, 87, tyX12, rfl, inX12, tyX12_ok, nmX12, by decide, b_8_77, rfl, rfl, fun _ => Or.inl rfl⟩
theorem fl_X12_124 : FLK RX12 124 12 55 (.array .int) true := ⟨RX12, TX12, 87, tyX12, rfl, inX12, tyX12_ok, nmX12, by decide, b_8_78, rfl, rfl, fun _ => Or.inl rfl⟩
theorem fl_X12_127 : FLK RX12 127 12 56 (.array .int) true := ⟨RX12, TX12, 87, tyX12, rfl, inX12, tyX12_ok, nmX12, by decide, b_8_79, rfl, rfl, fun _ => Or.inl rfl⟩
theorem fl_X12_130 : FLK RX12 130 12 57 (.array .int) true := ⟨RX12, TX12, 87, tyX12, rfl, inX12, tyX12_ok, nmX12, by decide, b_8_80, rfl, rfl, fun _ => Or.inl rfl⟩
theorem fl_X12_133 : FLK RX12 133 12 58 (.array .int) true := ⟨RX12, TX12, 87, tyX12, rfl, inX12, tyX12_ok, nmX12, by decide, b_8_81, rfl, rfl, fun _ => Or.inl rfl⟩
theorem fl_X12_136 : FLK RX12 136 12 59 (.array .int) true := ⟨RX12, TX12, 87, tyX12, rfl, inX12, tyX12_ok, nmX12, by decide, b_8_82, rfl, rfl, fun _ => Or.inl rfl⟩
theorem fl_X12_139 : FLK RX12 139 12 60 (.array .int) true := ⟨RX12, TX12, 87, tyX12, rfl, inX12, tyX12_ok, nmX12, by decide, b_8_83, rfl, rfl, fun _ => Or.inl rfl⟩
theorem fl_X12_142 : FLK RX12 142 12 61 (.array .boolean) true := ⟨RX12, TX12, 87, tyX12, rfl, inX12, tyX12_ok, nmX12, by decide, b_8_84, rfl, rfl, fun _ => Or.inl rfl⟩
theorem fl_X12_145 : FLK RX12 145 12 62 (.array .int) true := ⟨RX12, TX12, 87, tyX12, rfl, inX12, tyX12_ok, nmX12, by decide, b_8_85, rfl, rfl, fun _ => Or.inl rfl⟩
theorem fl_X12_148 : FLK RX12 148 12 63 (.array .int) true := ⟨RX12, TX12, 87, tyX12, rfl, inX12, tyX12_ok, nmX12, by decide, b_8_86, rfl, rfl, fun _ => Or.inl rfl⟩
theorem fl_X12_151 : FLK RX12 151 12 64 (.array .int) true := ⟨RX12, TX12, 87, tyX12, rfl, inX12, tyX12_ok, nmX12, by decide, b_8_87, rfl, rfl, fun _ => Or.inl rfl⟩
theorem fl_X12_154 : FLK RX12 154 12 65 (.array .int) true := ⟨RX12, TX12, 87, tyX12, rfl, inX12, tyX12_ok, nmX12, by decide, b_8_88, rfl, rfl, fun _ => Or.inl rfl⟩
theorem fl_X12_157 : FLK RX12 157 12 66 (.array .int) true := ⟨RX12, TX12, 87, tyX12, rfl, inX12, tyX12_ok, nmX12, by decide, b_8_89, rfl, rfl, fun _ => Or.inl rfl⟩
theorem fl_X12_463 : FLK RX12 463 12 67 (.int) false := ⟨RX12, TX12, 87, tyX12, rfl, inX12, tyX12_ok, nmX12, by decide, b_8_90, rfl, rfl, fun _ => Or.inl rfl⟩
theorem fl_X12_466 : FLK RX12 466 12 68 (.int) false := ⟨RX12, TX12, 87, tyX12, rfl, inX12, tyX12_ok, nmX12, by decide, b_8_91, rfl, rfl, fun _ => Or.inl rfl⟩
theorem fl_X12_469 : FLK RX12 469 12 69 (.int) false := ⟨RX12, TX12, 87, tyX12, rfl, inX12, tyX12_ok, nmX12, by decide, b_8_92, rfl, rfl, fun _ => Or.inl rfl⟩
theorem fl_X12_471 : FLK RX12 471 12 70 (.int) false := ⟨RX12, TX12, 87, tyX12, rfl, inX12, tyX12_ok, nmX12, by decide, b_8_93, rfl, rfl, fun _ => Or.inl rfl⟩
theorem fl_X12_474 : FLK RX12 474 12 71 (.int) false := ⟨RX12, TX12, 87, tyX12, rfl, inX12, tyX12_ok, nmX12, by decide, b_8_94, rfl, rfl, fun _ => Or.inl rfl⟩
theorem fl_X12_486 : FLK RX12 486 12 72 (.int) false := ⟨RX12, TX12, 87, tyX12, rfl, inX12, tyX12_ok, nmX12, by decide, b_8_95, rfl, rfl, fun _ => Or.inl rfl⟩
theorem fl_X12_492 : FLK RX12 492 12 73 (.int) false := ⟨RX12, TX12, 87, tyX12, rfl, inX12, tyX12_ok, nmX12, by decide, b_8_96, rfl, rfl, fun _ => Or.inl rfl⟩
theorem fl_X12_495 : FLK RX12 495 12 74 (.int) false := ⟨RX12, TX12, 87, tyX12, rfl, inX12, tyX12_ok, nmX12, by decide, b_8_97, rfl, rfl, fun _ => Or.inl rfl⟩
theorem fl_X12_588 : FLK RX12 588 12 75 (.int) false := ⟨RX12, TX12, 87, tyX12, rfl, inX12, tyX12_ok, nmX12, by decide, b_8_98, rfl, rfl, fun _ => Or.inl rfl⟩
theorem fl_X12_160 : FLK RX12 160 12 76 (.int) false := ⟨RX12, TX12, 87, tyX12, rfl, inX12, tyX12_ok, nmX12, by decide, b_8_99, rfl, rfl, fun _ => Or.inl rfl⟩
theorem fl_X12_516 : FLK RX12 516 12 77 (.int) false := ⟨RX12, TX12, 87, tyX12, rfl, inX12, tyX12_ok, nmX12, by decide, b_8_100, rfl, rfl, fun _ => Or.inl rfl⟩
theorem fl_X12_542 : FLK RX12 542 12 78 (.int) false := ⟨RX12, TX12, 87, tyX12, rfl, inX12, tyX12_ok, nmX12, by decide, b_8_101, rfl, rfl, fun _ => Or.inl rfl⟩
theorem fl_X12_591 : FLK RX12 591 12 79 (.int) false := ⟨RX12, TX12, 87, tyX12, rfl, inX12, tyX12_ok, nmX12, by decide, b_8_102, rfl, rfl, fun _ => Or.inl rfl⟩
theorem fl_X12_163 : FLK RX12 163 12 80 (.array .int) true := ⟨RX12, TX12, 87, tyX12, rfl, inX12, tyX12_ok, nmX12, by decide, b_8_103, rfl, rfl, fun _ => Or.inl rfl⟩
theorem fl_X12_166 : FLK RX12 166 12 81 (.array .int) true := ⟨RX12, TX12, 87, tyX12, rfl, inX12, tyX12_ok, nmX12, by decide, b_8_104, rfl, rfl, fun _ => Or.inl rfl⟩
theorem fl_X12_169 : FLK RX12 169 12 82 (.array .long) true := ⟨RX12, TX12, 87, tyX12, rfl, inX12, tyX12_ok, nmX12, by decide, b_8_105, rfl, rfl, fun _ => Or.inl rfl⟩
theorem fl_X12_173 : FLK RX12 173 12 83 (.array .long) true := ⟨RX12, TX12, 87, tyX12, rfl, inX12, tyX12_ok, nmX12, by decide, b_8_106, rfl, rfl, fun _ => Or.inl rfl⟩
theorem fl_X12_176 : FLK RX12 176 12 84 (.array .int) true := ⟨RX12, TX12, 87, tyX12, rfl, inX12, tyX12_ok, nmX12, by decide, b_8_107, rfl, rfl, fun _ => Or.inl rfl⟩
theorem fl_X12_179 : FLK RX12 179 12 85 (.array .int) true := ⟨RX12, TX12, 87, tyX12, rfl, inX12, tyX12_ok, nmX12, by decide, b_8_108, rfl, rfl, fun _ => Or.inl rfl⟩
theorem fl_X12_182 : FLK RX12 182 12 86 (.array .long) true := ⟨RX12, TX12, 87, tyX12, rfl, inX12, tyX12_ok, nmX12, by decide, b_8_109, rfl, rfl, fun _ => Or.inl rfl⟩
