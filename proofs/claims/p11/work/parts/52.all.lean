/-! All contracts hold. -/
noncomputable section
theorem kCnd {b : Bool} {x y : List kC} {c : kC} (h : c ∈ @Bool.rec (fun _ => List kC) y x b) : (b = true ∧ c ∈ x) ∨ (b = false ∧ c ∈ y) := by
  cases b with
  | true => exact Or.inl ⟨rfl, h⟩
  | false => exact Or.inr ⟨rfl, h⟩
def kOkc (mi pc : Nat) (c : kC) : Prop := c.1 = (mi, pc) ∧ kGo c = true
theorem kCs_3_ok {pc : Nat} {c : kC} (h : c ∈ kCs_3 pc) : kOkc 3 pc c := by
  unfold kCs_3 at h
  have g := kCnd h; clear h; rcases g with ⟨hb, h⟩ | ⟨-, h⟩
  · obtain rfl := Nat.eq_of_beq_eq_true hb
    simp only [List.mem_cons, List.not_mem_nil, or_false] at h
    rcases h with rfl | rfl | rfl | rfl | rfl | rfl
    · exact ⟨rfl, kt_0⟩
    · exact ⟨rfl, kt_1⟩
    · exact ⟨rfl, kt_2⟩
    · exact ⟨rfl, kt_3⟩
    · exact ⟨rfl, kt_4⟩
    · exact ⟨rfl, kt_5⟩
  cases h
theorem kCs_9_ok {pc : Nat} {c : kC} (h : c ∈ kCs_9 pc) : kOkc 9 pc c := by
  unfold kCs_9 at h
  have g := kCnd h; clear h; rcases g with ⟨hb, h⟩ | ⟨-, h⟩
  · obtain rfl := Nat.eq_of_beq_eq_true hb
    simp only [List.mem_cons, List.not_mem_nil, or_false] at h
    subst h
    exact ⟨rfl, kt_6⟩
  cases h
theorem kCs_12_ok {pc : Nat} {c : kC} (h : c ∈ kCs_12 pc) : kOkc 12 pc c := by
  unfold kCs_12 at h
  have g := kCnd h; clear h; rcases g with ⟨hb, h⟩ | ⟨-, h⟩
  · obtain rfl := Nat.eq_of_beq_eq_true hb
    simp only [List.mem_cons, List.not_mem_nil, or_false] at h
    subst h
    exact ⟨rfl, kt_7⟩
  have g := kCnd h; clear h; rcases g with ⟨hb, h⟩ | ⟨-, h⟩
  · obtain rfl := Nat.eq_of_beq_eq_true hb
    simp only [List.mem_cons, List.not_mem_nil, or_false] at h
    subst h
    exact ⟨rfl, kt_8⟩
  have g := kCnd h; clear h; rcases g with ⟨hb, h⟩ | ⟨-, h⟩
  · obtain rfl := Nat.eq_of_beq_eq_true hb
    simp only [List.mem_cons, List.not_mem_nil, or_false] at h
    subst h
    exact ⟨rfl, kt_9⟩
  cases h
theorem kCs_13_ok {pc : Nat} {c : kC} (h : c ∈ kCs_13 pc) : kOkc 13 pc c := by
  unfold kCs_13 at h
  have g := kCnd h; clear h; rcases g with ⟨hb, h⟩ | ⟨-, h⟩
  · obtain rfl := Nat.eq_of_beq_eq_true hb
    simp only [List.mem_cons, List.not_mem_nil, or_false] at h
    subst h
    exact ⟨rfl, kt_10⟩
  have g := kCnd h; clear h; rcases g with ⟨hb, h⟩ | ⟨-, h⟩
  · obtain rfl := Nat.eq_of_beq_eq_true hb
    simp only [List.mem_cons, List.not_mem_nil, or_false] at h
    subst h
    exact ⟨rfl, kt_11⟩
  cases h
theorem kCs_14_ok {pc : Nat} {c : kC} (h : c ∈ kCs_14 pc) : kOkc 14 pc c := by
  unfold kCs_14 at h
  have g := kCnd h; clear h; rcases g with ⟨hb, h⟩ | ⟨-, h⟩
  · obtain rfl := Nat.eq_of_beq_eq_true hb
    simp only [List.mem_cons, List.not_mem_nil, or_false] at h
    subst h
    exact ⟨rfl, kt_12⟩
  have g := kCnd h; clear h; rcases g with ⟨hb, h⟩ | ⟨-, h⟩
  · obtain rfl := Nat.eq_of_beq_eq_true hb
    simp only [List.mem_cons, List.not_mem_nil, or_false] at h
    subst h
    exact ⟨rfl, kt_13⟩
  cases h
theorem kCs_16_ok {pc : Nat} {c : kC} (h : c ∈ kCs_16 pc) : kOkc 16 pc c := by
  unfold kCs_16 at h
  have g := kCnd h; clear h; rcases g with ⟨hb, h⟩ | ⟨-, h⟩
  · obtain rfl := Nat.eq_of_beq_eq_true hb
    simp only [List.mem_cons, List.not_mem_nil, or_false] at h
    subst h
    exact ⟨rfl, kt_14⟩
  cases h
theorem kCs_18_ok {pc : Nat} {c : kC} (h : c ∈ kCs_18 pc) : kOkc 18 pc c := by
  unfold kCs_18 at h
  have g := kCnd h; clear h; rcases g with ⟨hb, h⟩ | ⟨-, h⟩
  · obtain rfl := Nat.eq_of_beq_eq_true hb
    simp only [List.mem_cons, List.not_mem_nil, or_false] at h
    subst h
    exact ⟨rfl, kt_15⟩
  have g := kCnd h; clear h; rcases g with ⟨hb, h⟩ | ⟨-, h⟩
  · obtain rfl := Nat.eq_of_beq_eq_true hb
    simp only [List.mem_cons, List.not_mem_nil, or_false] at h
    subst h
    exact ⟨rfl, kt_16⟩
  cases h
theorem kCs_20_ok {pc : Nat} {c : kC} (h : c ∈ kCs_20 pc) : kOkc 20 pc c := by
  unfold kCs_20 at h
  have g := kCnd h; clear h; rcases g with ⟨hb, h⟩ | ⟨-, h⟩
  · obtain rfl := Nat.eq_of_beq_eq_true hb
    simp only [List.mem_cons, List.not_mem_nil, or_false] at h
    subst h
    exact ⟨rfl, kt_17⟩
  have g := kCnd h; clear h; rcases g with ⟨hb, h⟩ | ⟨-, h⟩
  · obtain rfl := Nat.eq_of_beq_eq_true hb
    simp only [List.mem_cons, List.not_mem_nil, or_false] at h
    subst h
    exact ⟨rfl, kt_18⟩
  cases h
theorem kCs_21_ok {pc : Nat} {c : kC} (h : c ∈ kCs_21 pc) : kOkc 21 pc c := by
  unfold kCs_21 at h
  have g := kCnd h; clear h; rcases g with ⟨hb, h⟩ | ⟨-, h⟩
  · obtain rfl := Nat.eq_of_beq_eq_true hb
    simp only [List.mem_cons, List.not_mem_nil, or_false] at h
    subst h
    exact ⟨rfl, kt_19⟩
  have g := kCnd h; clear h; rcases g with ⟨hb, h⟩ | ⟨-, h⟩
  · obtain rfl := Nat.eq_of_beq_eq_true hb
    simp only [List.mem_cons, List.not_mem_nil, or_false] at h
    rcases h with rfl | rfl | rfl | rfl | rfl | rfl
    · exact ⟨rfl, kt_20⟩
    · exact ⟨rfl, kt_21⟩
    · exact ⟨rfl, kt_22⟩
    · exact ⟨rfl, kt_23⟩
    · exact ⟨rfl, kt_24⟩
    · exact ⟨rfl, kt_25⟩
  cases h
theorem kCs_23_ok {pc : Nat} {c : kC} (h : c ∈ kCs_23 pc) : kOkc 23 pc c := by
  unfold kCs_23 at h
  have g := kCnd h; clear h; rcases g with ⟨hb, h⟩ | ⟨-, h⟩
  · obtain rfl := Nat.eq_of_beq_eq_true hb
    simp only [List.mem_cons, List.not_mem_nil, or_false] at h
    subst h
    exact ⟨rfl, kt_26⟩
  cases h
theorem kCs_25_ok {pc : Nat} {c : kC} (h : c ∈ kCs_25 pc) : kOkc 25 pc c := by
  unfold kCs_25 at h
  have g := kCnd h; clear h; rcases g with ⟨hb, h⟩ | ⟨-, h⟩
  · obtain rfl := Nat.eq_of_beq_eq_true hb
    simp only [List.mem_cons, List.not_mem_nil, or_false] at h
    subst h
    exact ⟨rfl, kt_27⟩
  have g := kCnd h; clear h; rcases g with ⟨hb, h⟩ | ⟨-, h⟩
  · obtain rfl := Nat.eq_of_beq_eq_true hb
    simp only [List.mem_cons, List.not_mem_nil, or_false] at h
    subst h
    exact ⟨rfl, kt_28⟩
  cases h
theorem kCs_26_ok {pc : Nat} {c : kC} (h : c ∈ kCs_26 pc) : kOkc 26 pc c := by
  unfold kCs_26 at h
  have g := kCnd h; clear h; rcases g with ⟨hb, h⟩ | ⟨-, h⟩
  · obtain rfl := Nat.eq_of_beq_eq_true hb
    simp only [List.mem_cons, List.not_mem_nil, or_false] at h
    subst h
    exact ⟨rfl, kt_29⟩
  cases h
theorem kCs_27_ok {pc : Nat} {c : kC} (h : c ∈ kCs_27 pc) : kOkc 27 pc c := by
  unfold kCs_27 at h
  have g := kCnd h; clear h; rcases g with ⟨hb, h⟩ | ⟨-, h⟩
  · obtain rfl := Nat.eq_of_beq_eq_true hb
    simp only [List.mem_cons, List.not_mem_nil, or_false] at h
    rcases h with rfl | rfl | rfl | rfl | rfl | rfl
    · exact ⟨rfl, kt_30⟩
    · exact ⟨rfl, kt_31⟩
    · exact ⟨rfl, kt_32⟩
    · exact ⟨rfl, kt_33⟩
    · exact ⟨rfl, kt_34⟩
    · exact ⟨rfl, kt_35⟩
  have g := kCnd h; clear h; rcases g with ⟨hb, h⟩ | ⟨-, h⟩
  · obtain rfl := Nat.eq_of_beq_eq_true hb
    simp only [List.mem_cons, List.not_mem_nil, or_false] at h
    rcases h with rfl | rfl | rfl | rfl | rfl | rfl
    · exact ⟨rfl, kt_36⟩
    · exact ⟨rfl, kt_37⟩
    · exact ⟨rfl, kt_38⟩
    · exact ⟨rfl, kt_39⟩
    · exact ⟨rfl, kt_40⟩
    · exact ⟨rfl, kt_41⟩
  cases h
theorem kCs_28_ok {pc : Nat} {c : kC} (h : c ∈ kCs_28 pc) : kOkc 28 pc c := by
  unfold kCs_28 at h
  have g := kCnd h; clear h; rcases g with ⟨hb, h⟩ | ⟨-, h⟩
  · obtain rfl := Nat.eq_of_beq_eq_true hb
    simp only [List.mem_cons, List.not_mem_nil, or_false] at h
    subst h
    exact ⟨rfl, kt_42⟩
  cases h
theorem kCs_29_ok {pc : Nat} {c : kC} (h : c ∈ kCs_29 pc) : kOkc 29 pc c := by
  unfold kCs_29 at h
  have g := kCnd h; clear h; rcases g with ⟨hb, h⟩ | ⟨-, h⟩
  · obtain rfl := Nat.eq_of_beq_eq_true hb
    simp only [List.mem_cons, List.not_mem_nil, or_false] at h
    rcases h with rfl | rfl | rfl | rfl | rfl | rfl
    · exact ⟨rfl, kt_43⟩
    · exact ⟨rfl, kt_44⟩
    · exact ⟨rfl, kt_45⟩
    · exact ⟨rfl, kt_46⟩
    · exact ⟨rfl, kt_47⟩
    · exact ⟨rfl, kt_48⟩
  have g := kCnd h; clear h; rcases g with ⟨hb, h⟩ | ⟨-, h⟩
  · obtain rfl := Nat.eq_of_beq_eq_true hb
    simp only [List.mem_cons, List.not_mem_nil, or_false] at h
    rcases h with rfl | rfl | rfl | rfl | rfl | rfl
    · exact ⟨rfl, kt_49⟩
    · exact ⟨rfl, kt_50⟩
    · exact ⟨rfl, kt_51⟩
    · exact ⟨rfl, kt_52⟩
    · exact ⟨rfl, kt_53⟩
    · exact ⟨rfl, kt_54⟩
  cases h
theorem kCs_30_ok {pc : Nat} {c : kC} (h : c ∈ kCs_30 pc) : kOkc 30 pc c := by
  unfold kCs_30 at h
  have g := kCnd h; clear h; rcases g with ⟨hb, h⟩ | ⟨-, h⟩
  · obtain rfl := Nat.eq_of_beq_eq_true hb
    simp only [List.mem_cons, List.not_mem_nil, or_false] at h
    rcases h with rfl | rfl | rfl | rfl | rfl | rfl
    · exact ⟨rfl, kt_55⟩
    · exact ⟨rfl, kt_56⟩
    · exact ⟨rfl, kt_57⟩
    · exact ⟨rfl, kt_58⟩
    · exact ⟨rfl, kt_59⟩
    · exact ⟨rfl, kt_60⟩
  have g := kCnd h; clear h; rcases g with ⟨hb, h⟩ | ⟨-, h⟩
  · obtain rfl := Nat.eq_of_beq_eq_true hb
    simp only [List.mem_cons, List.not_mem_nil, or_false] at h
    rcases h with rfl | rfl | rfl | rfl | rfl | rfl
    · exact ⟨rfl, kt_61⟩
    · exact ⟨rfl, kt_62⟩
    · exact ⟨rfl, kt_63⟩
    · exact ⟨rfl, kt_64⟩
    · exact ⟨rfl, kt_65⟩
    · exact ⟨rfl, kt_66⟩
  cases h
theorem kCs_31_ok {pc : Nat} {c : kC} (h : c ∈ kCs_31 pc) : kOkc 31 pc c := by
  unfold kCs_31 at h
  have g := kCnd h; clear h; rcases g with ⟨hb, h⟩ | ⟨-, h⟩
  · obtain rfl := Nat.eq_of_beq_eq_true hb
    simp only [List.mem_cons, List.not_mem_nil, or_false] at h
    rcases h with rfl | rfl | rfl | rfl | rfl | rfl
    · exact ⟨rfl, kt_67⟩
    · exact ⟨rfl, kt_68⟩
    · exact ⟨rfl, kt_69⟩
    · exact ⟨rfl, kt_70⟩
    · exact ⟨rfl, kt_71⟩
    · exact ⟨rfl, kt_72⟩
  have g := kCnd h; clear h; rcases g with ⟨hb, h⟩ | ⟨-, h⟩
  · obtain rfl := Nat.eq_of_beq_eq_true hb
    simp only [List.mem_cons, List.not_mem_nil, or_false] at h
    subst h
    exact ⟨rfl, kt_73⟩
  cases h
theorem kCs_32_ok {pc : Nat} {c : kC} (h : c ∈ kCs_32 pc) : kOkc 32 pc c := by
  unfold kCs_32 at h
  have g := kCnd h; clear h; rcases g with ⟨hb, h⟩ | ⟨-, h⟩
  · obtain rfl := Nat.eq_of_beq_eq_true hb
    simp only [List.mem_cons, List.not_mem_nil, or_false] at h
    subst h
    exact ⟨rfl, kt_74⟩
  have g := kCnd h; clear h; rcases g with ⟨hb, h⟩ | ⟨-, h⟩
  · obtain rfl := Nat.eq_of_beq_eq_true hb
    simp only [List.mem_cons, List.not_mem_nil, or_false] at h
    subst h
    exact ⟨rfl, kt_75⟩
  cases h
theorem kCs_33_ok {pc : Nat} {c : kC} (h : c ∈ kCs_33 pc) : kOkc 33 pc c := by
  unfold kCs_33 at h
  have g := kCnd h; clear h; rcases g with ⟨hb, h⟩ | ⟨-, h⟩
  · obtain rfl := Nat.eq_of_beq_eq_true hb
    simp only [List.mem_cons, List.not_mem_nil, or_false] at h
    subst h
    exact ⟨rfl, kt_76⟩
  have g := kCnd h; clear h; rcases g with ⟨hb, h⟩ | ⟨-, h⟩
  · obtain rfl := Nat.eq_of_beq_eq_true hb
    simp only [List.mem_cons, List.not_mem_nil, or_false] at h
    subst h
    exact ⟨rfl, kt_77⟩
  cases h
theorem kCs_43_ok {pc : Nat} {c : kC} (h : c ∈ kCs_43 pc) : kOkc 43 pc c := by
  unfold kCs_43 at h
  have g := kCnd h; clear h; rcases g with ⟨hb, h⟩ | ⟨-, h⟩
  · obtain rfl := Nat.eq_of_beq_eq_true hb
    simp only [List.mem_cons, List.not_mem_nil, or_false] at h
    subst h
    exact ⟨rfl, kt_78⟩
  cases h
theorem kCs_44_ok {pc : Nat} {c : kC} (h : c ∈ kCs_44 pc) : kOkc 44 pc c := by
  unfold kCs_44 at h
  have g := kCnd h; clear h; rcases g with ⟨hb, h⟩ | ⟨-, h⟩
  · obtain rfl := Nat.eq_of_beq_eq_true hb
    simp only [List.mem_cons, List.not_mem_nil, or_false] at h
    subst h
    exact ⟨rfl, kt_79⟩
  cases h
theorem kCs_47_ok {pc : Nat} {c : kC} (h : c ∈ kCs_47 pc) : kOkc 47 pc c := by
  unfold kCs_47 at h
  have g := kCnd h; clear h; rcases g with ⟨hb, h⟩ | ⟨-, h⟩
  · obtain rfl := Nat.eq_of_beq_eq_true hb
    simp only [List.mem_cons, List.not_mem_nil, or_false] at h
    rcases h with rfl | rfl | rfl | rfl | rfl | rfl
    · exact ⟨rfl, kt_80⟩
    · exact ⟨rfl, kt_81⟩
    · exact ⟨rfl, kt_82⟩
    · exact ⟨rfl, kt_83⟩
    · exact ⟨rfl, kt_84⟩
    · exact ⟨rfl, kt_85⟩
  cases h
theorem kCs_48_ok {pc : Nat} {c : kC} (h : c ∈ kCs_48 pc) : kOkc 48 pc c := by
  unfold kCs_48 at h
  have g := kCnd h; clear h; rcases g with ⟨hb, h⟩ | ⟨-, h⟩
  · obtain rfl := Nat.eq_of_beq_eq_true hb
    simp only [List.mem_cons, List.not_mem_nil, or_false] at h
    subst h
    exact ⟨rfl, kt_86⟩
  cases h
theorem kCs_49_ok {pc : Nat} {c : kC} (h : c ∈ kCs_49 pc) : kOkc 49 pc c := by
  unfold kCs_49 at h
  have g := kCnd h; clear h; rcases g with ⟨hb, h⟩ | ⟨-, h⟩
  · obtain rfl := Nat.eq_of_beq_eq_true hb
    simp only [List.mem_cons, List.not_mem_nil, or_false] at h
    rcases h with rfl | rfl | rfl | rfl | rfl | rfl | rfl | rfl | rfl | rfl | rfl | rfl | rfl | rfl | rfl | rfl | rfl | rfl | rfl | rfl | rfl | rfl | rfl | rfl | rfl | rfl | rfl | rfl | rfl | rfl | rfl | rfl | rfl | rfl | rfl | rfl
    · exact ⟨rfl, kt_87⟩
    · exact ⟨rfl, kt_88⟩
    · exact ⟨rfl, kt_89⟩
    · exact ⟨rfl, kt_90⟩
    · exact ⟨rfl, kt_91⟩
    · exact ⟨rfl, kt_92⟩
    · exact ⟨rfl, kt_93⟩
    · exact ⟨rfl, kt_94⟩
    · exact ⟨rfl, kt_95⟩
    · exact ⟨rfl, kt_96⟩
    · exact ⟨rfl, kt_97⟩
    · exact ⟨rfl, kt_98⟩
    · exact ⟨rfl, kt_99⟩
    · exact ⟨rfl, kt_100⟩
    · exact ⟨rfl, kt_101⟩
    · exact ⟨rfl, kt_102⟩
    · exact ⟨rfl, kt_103⟩
    · exact ⟨rfl, kt_104⟩
    · exact ⟨rfl, kt_105⟩
    · exact ⟨rfl, kt_106⟩
    · exact ⟨rfl, kt_107⟩
    · exact ⟨rfl, kt_108⟩
    · exact ⟨rfl, kt_109⟩
    · exact ⟨rfl, kt_110⟩
    · exact ⟨rfl, kt_111⟩
    · exact ⟨rfl, kt_112⟩
    · exact ⟨rfl, kt_113⟩
    · exact ⟨rfl, kt_114⟩
    · exact ⟨rfl, kt_115⟩
    · exact ⟨rfl, kt_116⟩
    · exact ⟨rfl, kt_117⟩
    · exact ⟨rfl, kt_118⟩
    · exact ⟨rfl, kt_119⟩
    · exact ⟨rfl, kt_120⟩
    · exact ⟨rfl, kt_121⟩
    · exact ⟨rfl, kt_122⟩
  cases h
theorem kCs_50_ok {pc : Nat} {c : kC} (h : c ∈ kCs_50 pc) : kOkc 50 pc c := by
  unfold kCs_50 at h
  have g := kCnd h; clear h; rcases g with ⟨hb, h⟩ | ⟨-, h⟩
  · obtain rfl := Nat.eq_of_beq_eq_true hb
    simp only [List.mem_cons, List.not_mem_nil, or_false] at h
    subst h
    exact ⟨rfl, kt_123⟩
  cases h
theorem kCs_60_ok {pc : Nat} {c : kC} (h : c ∈ kCs_60 pc) : kOkc 60 pc c := by
  unfold kCs_60 at h
  have g := kCnd h; clear h; rcases g with ⟨hb, h⟩ | ⟨-, h⟩
  · obtain rfl := Nat.eq_of_beq_eq_true hb
    simp only [List.mem_cons, List.not_mem_nil, or_false] at h
    rcases h with rfl | rfl | rfl | rfl | rfl | rfl
    · exact ⟨rfl, kt_124⟩
    · exact ⟨rfl, kt_125⟩
    · exact ⟨rfl, kt_126⟩
    · exact ⟨rfl, kt_127⟩
    · exact ⟨rfl, kt_128⟩
    · exact ⟨rfl, kt_129⟩
  cases h
theorem kCs_64_ok {pc : Nat} {c : kC} (h : c ∈ kCs_64 pc) : kOkc 64 pc c := by
  unfold kCs_64 at h
  have g := kCnd h; clear h; rcases g with ⟨hb, h⟩ | ⟨-, h⟩
  · obtain rfl := Nat.eq_of_beq_eq_true hb
    simp only [List.mem_cons, List.not_mem_nil, or_false] at h
    rcases h with rfl | rfl | rfl | rfl | rfl | rfl | rfl | rfl | rfl | rfl
    · exact ⟨rfl, kt_130⟩
    · exact ⟨rfl, kt_131⟩
    · exact ⟨rfl, kt_132⟩
    · exact ⟨rfl, kt_133⟩
    · exact ⟨rfl, kt_134⟩
    · exact ⟨rfl, kt_135⟩
    · exact ⟨rfl, kt_136⟩
    · exact ⟨rfl, kt_137⟩
    · exact ⟨rfl, kt_138⟩
    · exact ⟨rfl, kt_139⟩
  cases h
theorem kCs_78_ok {pc : Nat} {c : kC} (h : c ∈ kCs_78 pc) : kOkc 78 pc c := by
  unfold kCs_78 at h
  have g := kCnd h; clear h; rcases g with ⟨hb, h⟩ | ⟨-, h⟩
  · obtain rfl := Nat.eq_of_beq_eq_true hb
    simp only [List.mem_cons, List.not_mem_nil, or_false] at h
    subst h
    exact ⟨rfl, kt_140⟩
  cases h
theorem kCs_79_ok {pc : Nat} {c : kC} (h : c ∈ kCs_79 pc) : kOkc 79 pc c := by
  unfold kCs_79 at h
  have g := kCnd h; clear h; rcases g with ⟨hb, h⟩ | ⟨-, h⟩
  · obtain rfl := Nat.eq_of_beq_eq_true hb
    simp only [List.mem_cons, List.not_mem_nil, or_false] at h
    subst h
    exact ⟨rfl, kt_141⟩
  have g := kCnd h; clear h; rcases g with ⟨hb, h⟩ | ⟨-, h⟩
  · obtain rfl := Nat.eq_of_beq_eq_true hb
    simp only [List.mem_cons, List.not_mem_nil, or_false] at h
    subst h
    exact ⟨rfl, kt_142⟩
  cases h
theorem kCs_80_ok {pc : Nat} {c : kC} (h : c ∈ kCs_80 pc) : kOkc 80 pc c := by
  unfold kCs_80 at h
  have g := kCnd h; clear h; rcases g with ⟨hb, h⟩ | ⟨-, h⟩
  · obtain rfl := Nat.eq_of_beq_eq_true hb
    simp only [List.mem_cons, List.not_mem_nil, or_false] at h
    subst h
    exact ⟨rfl, kt_143⟩
  have g := kCnd h; clear h; rcases g with ⟨hb, h⟩ | ⟨-, h⟩
  · obtain rfl := Nat.eq_of_beq_eq_true hb
    simp only [List.mem_cons, List.not_mem_nil, or_false] at h
    subst h
    exact ⟨rfl, kt_144⟩
  cases h
theorem kCs_81_ok {pc : Nat} {c : kC} (h : c ∈ kCs_81 pc) : kOkc 81 pc c := by
  unfold kCs_81 at h
  have g := kCnd h; clear h; rcases g with ⟨hb, h⟩ | ⟨-, h⟩
  · obtain rfl := Nat.eq_of_beq_eq_true hb
    simp only [List.mem_cons, List.not_mem_nil, or_false] at h
    subst h
    exact ⟨rfl, kt_145⟩
  cases h
theorem kCs_82_ok {pc : Nat} {c : kC} (h : c ∈ kCs_82 pc) : kOkc 82 pc c := by
  unfold kCs_82 at h
  have g := kCnd h; clear h; rcases g with ⟨hb, h⟩ | ⟨-, h⟩
  · obtain rfl := Nat.eq_of_beq_eq_true hb
    simp only [List.mem_cons, List.not_mem_nil, or_false] at h
    subst h
    exact ⟨rfl, kt_146⟩
  have g := kCnd h; clear h; rcases g with ⟨hb, h⟩ | ⟨-, h⟩
  · obtain rfl := Nat.eq_of_beq_eq_true hb
    simp only [List.mem_cons, List.not_mem_nil, or_false] at h
    subst h
    exact ⟨rfl, kt_147⟩
  cases h
theorem kCs_83_ok {pc : Nat} {c : kC} (h : c ∈ kCs_83 pc) : kOkc 83 pc c := by
  unfold kCs_83 at h
  have g := kCnd h; clear h; rcases g with ⟨hb, h⟩ | ⟨-, h⟩
  · obtain rfl := Nat.eq_of_beq_eq_true hb
    simp only [List.mem_cons, List.not_mem_nil, or_false] at h
    subst h
    exact ⟨rfl, kt_148⟩
  have g := kCnd h; clear h; rcases g with ⟨hb, h⟩ | ⟨-, h⟩
  · obtain rfl := Nat.eq_of_beq_eq_true hb
    simp only [List.mem_cons, List.not_mem_nil, or_false] at h
    subst h
    exact ⟨rfl, kt_149⟩
  cases h
theorem kCs_84_ok {pc : Nat} {c : kC} (h : c ∈ kCs_84 pc) : kOkc 84 pc c := by
  unfold kCs_84 at h
  have g := kCnd h; clear h; rcases g with ⟨hb, h⟩ | ⟨-, h⟩
  · obtain rfl := Nat.eq_of_beq_eq_true hb
    simp only [List.mem_cons, List.not_mem_nil, or_false] at h
    subst h
    exact ⟨rfl, kt_150⟩
  cases h
theorem kCs_85_ok {pc : Nat} {c : kC} (h : c ∈ kCs_85 pc) : kOkc 85 pc c := by
  unfold kCs_85 at h
  have g := kCnd h; clear h; rcases g with ⟨hb, h⟩ | ⟨-, h⟩
  · obtain rfl := Nat.eq_of_beq_eq_true hb
    simp only [List.mem_cons, List.not_mem_nil, or_false] at h
    subst h
    exact ⟨rfl, kt_151⟩
  have g := kCnd h; clear h; rcases g with ⟨hb, h⟩ | ⟨-, h⟩
  · obtain rfl := Nat.eq_of_beq_eq_true hb
    simp only [List.mem_cons, List.not_mem_nil, or_false] at h
    rcases h with rfl | rfl
    · exact ⟨rfl, kt_152⟩
    · exact ⟨rfl, kt_153⟩
  have g := kCnd h; clear h; rcases g with ⟨hb, h⟩ | ⟨-, h⟩
  · obtain rfl := Nat.eq_of_beq_eq_true hb
    simp only [List.mem_cons, List.not_mem_nil, or_false] at h
    subst h
    exact ⟨rfl, kt_154⟩
  have g := kCnd h; clear h; rcases g with ⟨hb, h⟩ | ⟨-, h⟩
  · obtain rfl := Nat.eq_of_beq_eq_true hb
    simp only [List.mem_cons, List.not_mem_nil, or_false] at h
    subst h
    exact ⟨rfl, kt_155⟩
  cases h
theorem kCs_87_ok {pc : Nat} {c : kC} (h : c ∈ kCs_87 pc) : kOkc 87 pc c := by
  unfold kCs_87 at h
  have g := kCnd h; clear h; rcases g with ⟨hb, h⟩ | ⟨-, h⟩
  · obtain rfl := Nat.eq_of_beq_eq_true hb
    simp only [List.mem_cons, List.not_mem_nil, or_false] at h
    subst h
    exact ⟨rfl, kt_156⟩
  have g := kCnd h; clear h; rcases g with ⟨hb, h⟩ | ⟨-, h⟩
  · obtain rfl := Nat.eq_of_beq_eq_true hb
    simp only [List.mem_cons, List.not_mem_nil, or_false] at h
    subst h
    exact ⟨rfl, kt_157⟩
  cases h
theorem kCs_88_ok {pc : Nat} {c : kC} (h : c ∈ kCs_88 pc) : kOkc 88 pc c := by
  unfold kCs_88 at h
  have g := kCnd h; clear h; rcases g with ⟨hb, h⟩ | ⟨-, h⟩
  · obtain rfl := Nat.eq_of_beq_eq_true hb
    simp only [List.mem_cons, List.not_mem_nil, or_false] at h
    subst h
    exact ⟨rfl, kt_158⟩
  have g := kCnd h; clear h; rcases g with ⟨hb, h⟩ | ⟨-, h⟩
  · obtain rfl := Nat.eq_of_beq_eq_true hb
    simp only [List.mem_cons, List.not_mem_nil, or_false] at h
    subst h
    exact ⟨rfl, kt_159⟩
  cases h
theorem kCs_90_ok {pc : Nat} {c : kC} (h : c ∈ kCs_90 pc) : kOkc 90 pc c := by
  unfold kCs_90 at h
  have g := kCnd h; clear h; rcases g with ⟨hb, h⟩ | ⟨-, h⟩
  · obtain rfl := Nat.eq_of_beq_eq_true hb
    simp only [List.mem_cons, List.not_mem_nil, or_false] at h
    subst h
    exact ⟨rfl, kt_160⟩
  cases h
theorem kCs_93_ok {pc : Nat} {c : kC} (h : c ∈ kCs_93 pc) : kOkc 93 pc c := by
  unfold kCs_93 at h
  have g := kCnd h; clear h; rcases g with ⟨hb, h⟩ | ⟨-, h⟩
  · obtain rfl := Nat.eq_of_beq_eq_true hb
    simp only [List.mem_cons, List.not_mem_nil, or_false] at h
    rcases h with rfl | rfl | rfl | rfl | rfl | rfl | rfl
    · exact ⟨rfl, kt_161⟩
    · exact ⟨rfl, kt_162⟩
    · exact ⟨rfl, kt_163⟩
    · exact ⟨rfl, kt_164⟩
    · exact ⟨rfl, kt_165⟩
    · exact ⟨rfl, kt_166⟩
    · exact ⟨rfl, kt_167⟩
  have g := kCnd h; clear h; rcases g with ⟨hb, h⟩ | ⟨-, h⟩
  · obtain rfl := Nat.eq_of_beq_eq_true hb
    simp only [List.mem_cons, List.not_mem_nil, or_false] at h
    rcases h with rfl | rfl | rfl | rfl | rfl | rfl | rfl
    · exact ⟨rfl, kt_168⟩
    · exact ⟨rfl, kt_169⟩
    · exact ⟨rfl, kt_170⟩
    · exact ⟨rfl, kt_171⟩
    · exact ⟨rfl, kt_172⟩
    · exact ⟨rfl, kt_173⟩
    · exact ⟨rfl, kt_174⟩
  cases h
theorem kCs_94_ok {pc : Nat} {c : kC} (h : c ∈ kCs_94 pc) : kOkc 94 pc c := by
  unfold kCs_94 at h
  have g := kCnd h; clear h; rcases g with ⟨hb, h⟩ | ⟨-, h⟩
  · obtain rfl := Nat.eq_of_beq_eq_true hb
    simp only [List.mem_cons, List.not_mem_nil, or_false] at h
    rcases h with rfl | rfl | rfl
    · exact ⟨rfl, kt_175⟩
    · exact ⟨rfl, kt_176⟩
    · exact ⟨rfl, kt_177⟩
  have g := kCnd h; clear h; rcases g with ⟨hb, h⟩ | ⟨-, h⟩
  · obtain rfl := Nat.eq_of_beq_eq_true hb
    simp only [List.mem_cons, List.not_mem_nil, or_false] at h
    rcases h with rfl | rfl | rfl
    · exact ⟨rfl, kt_178⟩
    · exact ⟨rfl, kt_179⟩
    · exact ⟨rfl, kt_180⟩
  cases h
theorem kCs_95_ok {pc : Nat} {c : kC} (h : c ∈ kCs_95 pc) : kOkc 95 pc c := by
  unfold kCs_95 at h
  have g := kCnd h; clear h; rcases g with ⟨hb, h⟩ | ⟨-, h⟩
  · obtain rfl := Nat.eq_of_beq_eq_true hb
    simp only [List.mem_cons, List.not_mem_nil, or_false] at h
    subst h
    exact ⟨rfl, kt_181⟩
  cases h
theorem kCs_96_ok {pc : Nat} {c : kC} (h : c ∈ kCs_96 pc) : kOkc 96 pc c := by
  unfold kCs_96 at h
  have g := kCnd h; clear h; rcases g with ⟨hb, h⟩ | ⟨-, h⟩
  · obtain rfl := Nat.eq_of_beq_eq_true hb
    simp only [List.mem_cons, List.not_mem_nil, or_false] at h
    subst h
    exact ⟨rfl, kt_182⟩
  cases h
theorem kCs_98_ok {pc : Nat} {c : kC} (h : c ∈ kCs_98 pc) : kOkc 98 pc c := by
  unfold kCs_98 at h
  have g := kCnd h; clear h; rcases g with ⟨hb, h⟩ | ⟨-, h⟩
  · obtain rfl := Nat.eq_of_beq_eq_true hb
    simp only [List.mem_cons, List.not_mem_nil, or_false] at h
    subst h
    exact ⟨rfl, kt_183⟩
  have g := kCnd h; clear h; rcases g with ⟨hb, h⟩ | ⟨-, h⟩
  · obtain rfl := Nat.eq_of_beq_eq_true hb
    simp only [List.mem_cons, List.not_mem_nil, or_false] at h
    subst h
    exact ⟨rfl, kt_184⟩
  cases h
theorem kCs_99_ok {pc : Nat} {c : kC} (h : c ∈ kCs_99 pc) : kOkc 99 pc c := by
  unfold kCs_99 at h
  have g := kCnd h; clear h; rcases g with ⟨hb, h⟩ | ⟨-, h⟩
  · obtain rfl := Nat.eq_of_beq_eq_true hb
    simp only [List.mem_cons, List.not_mem_nil, or_false] at h
    subst h
    exact ⟨rfl, kt_185⟩
  cases h
theorem kCs_101_ok {pc : Nat} {c : kC} (h : c ∈ kCs_101 pc) : kOkc 101 pc c := by
  unfold kCs_101 at h
  have g := kCnd h; clear h; rcases g with ⟨hb, h⟩ | ⟨-, h⟩
  · obtain rfl := Nat.eq_of_beq_eq_true hb
    simp only [List.mem_cons, List.not_mem_nil, or_false] at h
    subst h
    exact ⟨rfl, kt_186⟩
  have g := kCnd h; clear h; rcases g with ⟨hb, h⟩ | ⟨-, h⟩
  · obtain rfl := Nat.eq_of_beq_eq_true hb
    simp only [List.mem_cons, List.not_mem_nil, or_false] at h
    subst h
    exact ⟨rfl, kt_187⟩
  cases h
theorem kCs_102_ok {pc : Nat} {c : kC} (h : c ∈ kCs_102 pc) : kOkc 102 pc c := by
  unfold kCs_102 at h
  have g := kCnd h; clear h; rcases g with ⟨hb, h⟩ | ⟨-, h⟩
  · obtain rfl := Nat.eq_of_beq_eq_true hb
    simp only [List.mem_cons, List.not_mem_nil, or_false] at h
    subst h
    exact ⟨rfl, kt_188⟩
  cases h
theorem kCs_103_ok {pc : Nat} {c : kC} (h : c ∈ kCs_103 pc) : kOkc 103 pc c := by
  unfold kCs_103 at h
  have g := kCnd h; clear h; rcases g with ⟨hb, h⟩ | ⟨-, h⟩
  · obtain rfl := Nat.eq_of_beq_eq_true hb
    simp only [List.mem_cons, List.not_mem_nil, or_false] at h
    rcases h with rfl | rfl | rfl | rfl | rfl | rfl
    · exact ⟨rfl, kt_189⟩
    · exact ⟨rfl, kt_190⟩
    · exact ⟨rfl, kt_191⟩
    · exact ⟨rfl, kt_192⟩
    · exact ⟨rfl, kt_193⟩
    · exact ⟨rfl, kt_194⟩
  cases h
theorem kCs_104_ok {pc : Nat} {c : kC} (h : c ∈ kCs_104 pc) : kOkc 104 pc c := by
  unfold kCs_104 at h
  have g := kCnd h; clear h; rcases g with ⟨hb, h⟩ | ⟨-, h⟩
  · obtain rfl := Nat.eq_of_beq_eq_true hb
    simp only [List.mem_cons, List.not_mem_nil, or_false] at h
    subst h
    exact ⟨rfl, kt_195⟩
  have g := kCnd h; clear h; rcases g with ⟨hb, h⟩ | ⟨-, h⟩
  · obtain rfl := Nat.eq_of_beq_eq_true hb
    simp only [List.mem_cons, List.not_mem_nil, or_false] at h
    subst h
    exact ⟨rfl, kt_196⟩
  have g := kCnd h; clear h; rcases g with ⟨hb, h⟩ | ⟨-, h⟩
  · obtain rfl := Nat.eq_of_beq_eq_true hb
    simp only [List.mem_cons, List.not_mem_nil, or_false] at h
    subst h
    exact ⟨rfl, kt_197⟩
  cases h
theorem kCs_107_ok {pc : Nat} {c : kC} (h : c ∈ kCs_107 pc) : kOkc 107 pc c := by
  unfold kCs_107 at h
  have g := kCnd h; clear h; rcases g with ⟨hb, h⟩ | ⟨-, h⟩
  · obtain rfl := Nat.eq_of_beq_eq_true hb
    simp only [List.mem_cons, List.not_mem_nil, or_false] at h
    subst h
    exact ⟨rfl, kt_198⟩
  have g := kCnd h; clear h; rcases g with ⟨hb, h⟩ | ⟨-, h⟩
  · obtain rfl := Nat.eq_of_beq_eq_true hb
    simp only [List.mem_cons, List.not_mem_nil, or_false] at h
    subst h
    exact ⟨rfl, kt_199⟩
  have g := kCnd h; clear h; rcases g with ⟨hb, h⟩ | ⟨-, h⟩
  · obtain rfl := Nat.eq_of_beq_eq_true hb
    simp only [List.mem_cons, List.not_mem_nil, or_false] at h
    subst h
    exact ⟨rfl, kt_200⟩
  have g := kCnd h; clear h; rcases g with ⟨hb, h⟩ | ⟨-, h⟩
  · obtain rfl := Nat.eq_of_beq_eq_true hb
    simp only [List.mem_cons, List.not_mem_nil, or_false] at h
    subst h
    exact ⟨rfl, kt_201⟩
  have g := kCnd h; clear h; rcases g with ⟨hb, h⟩ | ⟨-, h⟩
  · obtain rfl := Nat.eq_of_beq_eq_true hb
    simp only [List.mem_cons, List.not_mem_nil, or_false] at h
    subst h
    exact ⟨rfl, kt_202⟩
  cases h
theorem kCs_108_ok {pc : Nat} {c : kC} (h : c ∈ kCs_108 pc) : kOkc 108 pc c := by
  unfold kCs_108 at h
  have g := kCnd h; clear h; rcases g with ⟨hb, h⟩ | ⟨-, h⟩
  · obtain rfl := Nat.eq_of_beq_eq_true hb
    simp only [List.mem_cons, List.not_mem_nil, or_false] at h
    subst h
    exact ⟨rfl, kt_203⟩
  have g := kCnd h; clear h; rcases g with ⟨hb, h⟩ | ⟨-, h⟩
  · obtain rfl := Nat.eq_of_beq_eq_true hb
    simp only [List.mem_cons, List.not_mem_nil, or_false] at h
    rcases h with rfl | rfl
    · exact ⟨rfl, kt_204⟩
    · exact ⟨rfl, kt_205⟩
  have g := kCnd h; clear h; rcases g with ⟨hb, h⟩ | ⟨-, h⟩
  · obtain rfl := Nat.eq_of_beq_eq_true hb
    simp only [List.mem_cons, List.not_mem_nil, or_false] at h
    rcases h with rfl | rfl
    · exact ⟨rfl, kt_206⟩
    · exact ⟨rfl, kt_207⟩
  cases h
theorem kCs_110_ok {pc : Nat} {c : kC} (h : c ∈ kCs_110 pc) : kOkc 110 pc c := by
  unfold kCs_110 at h
  have g := kCnd h; clear h; rcases g with ⟨hb, h⟩ | ⟨-, h⟩
  · obtain rfl := Nat.eq_of_beq_eq_true hb
    simp only [List.mem_cons, List.not_mem_nil, or_false] at h
    subst h
    exact ⟨rfl, kt_208⟩
  cases h
theorem kCs_113_ok {pc : Nat} {c : kC} (h : c ∈ kCs_113 pc) : kOkc 113 pc c := by
  unfold kCs_113 at h
  have g := kCnd h; clear h; rcases g with ⟨hb, h⟩ | ⟨-, h⟩
  · obtain rfl := Nat.eq_of_beq_eq_true hb
    simp only [List.mem_cons, List.not_mem_nil, or_false] at h
    rcases h with rfl | rfl
    · exact ⟨rfl, kt_209⟩
    · exact ⟨rfl, kt_210⟩
  have g := kCnd h; clear h; rcases g with ⟨hb, h⟩ | ⟨-, h⟩
  · obtain rfl := Nat.eq_of_beq_eq_true hb
    simp only [List.mem_cons, List.not_mem_nil, or_false] at h
    subst h
    exact ⟨rfl, kt_211⟩
  cases h
theorem kCs_114_ok {pc : Nat} {c : kC} (h : c ∈ kCs_114 pc) : kOkc 114 pc c := by
  unfold kCs_114 at h
  have g := kCnd h; clear h; rcases g with ⟨hb, h⟩ | ⟨-, h⟩
  · obtain rfl := Nat.eq_of_beq_eq_true hb
    simp only [List.mem_cons, List.not_mem_nil, or_false] at h
    rcases h with rfl | rfl
    · exact ⟨rfl, kt_212⟩
    · exact ⟨rfl, kt_213⟩
  have g := kCnd h; clear h; rcases g with ⟨hb, h⟩ | ⟨-, h⟩
  · obtain rfl := Nat.eq_of_beq_eq_true hb
    simp only [List.mem_cons, List.not_mem_nil, or_false] at h
    subst h
    exact ⟨rfl, kt_214⟩
  have g := kCnd h; clear h; rcases g with ⟨hb, h⟩ | ⟨-, h⟩
  · obtain rfl := Nat.eq_of_beq_eq_true hb
    simp only [List.mem_cons, List.not_mem_nil, or_false] at h
    subst h
    exact ⟨rfl, kt_215⟩
  have g := kCnd h; clear h; rcases g with ⟨hb, h⟩ | ⟨-, h⟩
  · obtain rfl := Nat.eq_of_beq_eq_true hb
    simp only [List.mem_cons, List.not_mem_nil, or_false] at h
    rcases h with rfl | rfl
    · exact ⟨rfl, kt_216⟩
    · exact ⟨rfl, kt_217⟩
  cases h
theorem kCs_115_ok {pc : Nat} {c : kC} (h : c ∈ kCs_115 pc) : kOkc 115 pc c := by
  unfold kCs_115 at h
  have g := kCnd h; clear h; rcases g with ⟨hb, h⟩ | ⟨-, h⟩
  · obtain rfl := Nat.eq_of_beq_eq_true hb
    simp only [List.mem_cons, List.not_mem_nil, or_false] at h
    subst h
    exact ⟨rfl, kt_218⟩
  have g := kCnd h; clear h; rcases g with ⟨hb, h⟩ | ⟨-, h⟩
  · obtain rfl := Nat.eq_of_beq_eq_true hb
    simp only [List.mem_cons, List.not_mem_nil, or_false] at h
    subst h
    exact ⟨rfl, kt_219⟩
  have g := kCnd h; clear h; rcases g with ⟨hb, h⟩ | ⟨-, h⟩
  · obtain rfl := Nat.eq_of_beq_eq_true hb
    simp only [List.mem_cons, List.not_mem_nil, or_false] at h
    subst h
    exact ⟨rfl, kt_220⟩
  cases h
theorem kCs_116_ok {pc : Nat} {c : kC} (h : c ∈ kCs_116 pc) : kOkc 116 pc c := by
  unfold kCs_116 at h
  have g := kCnd h; clear h; rcases g with ⟨hb, h⟩ | ⟨-, h⟩
  · obtain rfl := Nat.eq_of_beq_eq_true hb
    simp only [List.mem_cons, List.not_mem_nil, or_false] at h
    subst h
    exact ⟨rfl, kt_221⟩
  have g := kCnd h; clear h; rcases g with ⟨hb, h⟩ | ⟨-, h⟩
  · obtain rfl := Nat.eq_of_beq_eq_true hb
    simp only [List.mem_cons, List.not_mem_nil, or_false] at h
    subst h
    exact ⟨rfl, kt_222⟩
  have g := kCnd h; clear h; rcases g with ⟨hb, h⟩ | ⟨-, h⟩
  · obtain rfl := Nat.eq_of_beq_eq_true hb
    simp only [List.mem_cons, List.not_mem_nil, or_false] at h
    subst h
    exact ⟨rfl, kt_223⟩
  cases h
theorem kCs_117_ok {pc : Nat} {c : kC} (h : c ∈ kCs_117 pc) : kOkc 117 pc c := by
  unfold kCs_117 at h
  have g := kCnd h; clear h; rcases g with ⟨hb, h⟩ | ⟨-, h⟩
  · obtain rfl := Nat.eq_of_beq_eq_true hb
    simp only [List.mem_cons, List.not_mem_nil, or_false] at h
    subst h
    exact ⟨rfl, kt_224⟩
  have g := kCnd h; clear h; rcases g with ⟨hb, h⟩ | ⟨-, h⟩
  · obtain rfl := Nat.eq_of_beq_eq_true hb
    simp only [List.mem_cons, List.not_mem_nil, or_false] at h
    subst h
    exact ⟨rfl, kt_225⟩
  cases h
theorem kCs_118_ok {pc : Nat} {c : kC} (h : c ∈ kCs_118 pc) : kOkc 118 pc c := by
  unfold kCs_118 at h
  have g := kCnd h; clear h; rcases g with ⟨hb, h⟩ | ⟨-, h⟩
  · obtain rfl := Nat.eq_of_beq_eq_true hb
    simp only [List.mem_cons, List.not_mem_nil, or_false] at h
    subst h
    exact ⟨rfl, kt_226⟩
  have g := kCnd h; clear h; rcases g with ⟨hb, h⟩ | ⟨-, h⟩
  · obtain rfl := Nat.eq_of_beq_eq_true hb
    simp only [List.mem_cons, List.not_mem_nil, or_false] at h
    subst h
    exact ⟨rfl, kt_227⟩
  have g := kCnd h; clear h; rcases g with ⟨hb, h⟩ | ⟨-, h⟩
  · obtain rfl := Nat.eq_of_beq_eq_true hb
    simp only [List.mem_cons, List.not_mem_nil, or_false] at h
    subst h
    exact ⟨rfl, kt_228⟩
  cases h
theorem kCs_121_ok {pc : Nat} {c : kC} (h : c ∈ kCs_121 pc) : kOkc 121 pc c := by
  unfold kCs_121 at h
  have g := kCnd h; clear h; rcases g with ⟨hb, h⟩ | ⟨-, h⟩
  · obtain rfl := Nat.eq_of_beq_eq_true hb
    simp only [List.mem_cons, List.not_mem_nil, or_false] at h
    subst h
    exact ⟨rfl, kt_229⟩
  cases h
theorem kCs_122_ok {pc : Nat} {c : kC} (h : c ∈ kCs_122 pc) : kOkc 122 pc c := by
  unfold kCs_122 at h
  have g := kCnd h; clear h; rcases g with ⟨hb, h⟩ | ⟨-, h⟩
  · obtain rfl := Nat.eq_of_beq_eq_true hb
    simp only [List.mem_cons, List.not_mem_nil, or_false] at h
    subst h
    exact ⟨rfl, kt_230⟩
  have g := kCnd h; clear h; rcases g with ⟨hb, h⟩ | ⟨-, h⟩
  · obtain rfl := Nat.eq_of_beq_eq_true hb
    simp only [List.mem_cons, List.not_mem_nil, or_false] at h
    subst h
    exact ⟨rfl, kt_231⟩
  cases h
theorem kCs_124_ok {pc : Nat} {c : kC} (h : c ∈ kCs_124 pc) : kOkc 124 pc c := by
  unfold kCs_124 at h
  have g := kCnd h; clear h; rcases g with ⟨hb, h⟩ | ⟨-, h⟩
  · obtain rfl := Nat.eq_of_beq_eq_true hb
    simp only [List.mem_cons, List.not_mem_nil, or_false] at h
    subst h
    exact ⟨rfl, kt_232⟩
  have g := kCnd h; clear h; rcases g with ⟨hb, h⟩ | ⟨-, h⟩
  · obtain rfl := Nat.eq_of_beq_eq_true hb
    simp only [List.mem_cons, List.not_mem_nil, or_false] at h
    subst h
    exact ⟨rfl, kt_233⟩
  have g := kCnd h; clear h; rcases g with ⟨hb, h⟩ | ⟨-, h⟩
  · obtain rfl := Nat.eq_of_beq_eq_true hb
    simp only [List.mem_cons, List.not_mem_nil, or_false] at h
    subst h
    exact ⟨rfl, kt_234⟩
  have g := kCnd h; clear h; rcases g with ⟨hb, h⟩ | ⟨-, h⟩
  · obtain rfl := Nat.eq_of_beq_eq_true hb
    simp only [List.mem_cons, List.not_mem_nil, or_false] at h
    subst h
    exact ⟨rfl, kt_235⟩
  cases h
theorem kCs_125_ok {pc : Nat} {c : kC} (h : c ∈ kCs_125 pc) : kOkc 125 pc c := by
  unfold kCs_125 at h
  have g := kCnd h; clear h; rcases g with ⟨hb, h⟩ | ⟨-, h⟩
  · obtain rfl := Nat.eq_of_beq_eq_true hb
    simp only [List.mem_cons, List.not_mem_nil, or_false] at h
    subst h
    exact ⟨rfl, kt_236⟩
  have g := kCnd h; clear h; rcases g with ⟨hb, h⟩ | ⟨-, h⟩
  · obtain rfl := Nat.eq_of_beq_eq_true hb
    simp only [List.mem_cons, List.not_mem_nil, or_false] at h
    subst h
    exact ⟨rfl, kt_237⟩
  cases h
theorem kCs_126_ok {pc : Nat} {c : kC} (h : c ∈ kCs_126 pc) : kOkc 126 pc c := by
  unfold kCs_126 at h
  have g := kCnd h; clear h; rcases g with ⟨hb, h⟩ | ⟨-, h⟩
  · obtain rfl := Nat.eq_of_beq_eq_true hb
    simp only [List.mem_cons, List.not_mem_nil, or_false] at h
    subst h
    exact ⟨rfl, kt_238⟩
  have g := kCnd h; clear h; rcases g with ⟨hb, h⟩ | ⟨-, h⟩
  · obtain rfl := Nat.eq_of_beq_eq_true hb
    simp only [List.mem_cons, List.not_mem_nil, or_false] at h
    subst h
    exact ⟨rfl, kt_239⟩
  cases h
theorem kCs_127_ok {pc : Nat} {c : kC} (h : c ∈ kCs_127 pc) : kOkc 127 pc c := by
  unfold kCs_127 at h
  have g := kCnd h; clear h; rcases g with ⟨hb, h⟩ | ⟨-, h⟩
  · obtain rfl := Nat.eq_of_beq_eq_true hb
    simp only [List.mem_cons, List.not_mem_nil, or_false] at h
    subst h
    exact ⟨rfl, kt_240⟩
  cases h
theorem kCs_128_ok {pc : Nat} {c : kC} (h : c ∈ kCs_128 pc) : kOkc 128 pc c := by
  unfold kCs_128 at h
  have g := kCnd h; clear h; rcases g with ⟨hb, h⟩ | ⟨-, h⟩
  · obtain rfl := Nat.eq_of_beq_eq_true hb
    simp only [List.mem_cons, List.not_mem_nil, or_false] at h
    subst h
    exact ⟨rfl, kt_241⟩
  have g := kCnd h; clear h; rcases g with ⟨hb, h⟩ | ⟨-, h⟩
  · obtain rfl := Nat.eq_of_beq_eq_true hb
    simp only [List.mem_cons, List.not_mem_nil, or_false] at h
    subst h
    exact ⟨rfl, kt_242⟩
  have g := kCnd h; clear h; rcases g with ⟨hb, h⟩ | ⟨-, h⟩
  · obtain rfl := Nat.eq_of_beq_eq_true hb
    simp only [List.mem_cons, List.not_mem_nil, or_false] at h
    subst h
    exact ⟨rfl, kt_243⟩
  cases h
theorem kCs_129_ok {pc : Nat} {c : kC} (h : c ∈ kCs_129 pc) : kOkc 129 pc c := by
  unfold kCs_129 at h
  have g := kCnd h; clear h; rcases g with ⟨hb, h⟩ | ⟨-, h⟩
  · obtain rfl := Nat.eq_of_beq_eq_true hb
    simp only [List.mem_cons, List.not_mem_nil, or_false] at h
    subst h
    exact ⟨rfl, kt_244⟩
  cases h
theorem kCs_130_ok {pc : Nat} {c : kC} (h : c ∈ kCs_130 pc) : kOkc 130 pc c := by
  unfold kCs_130 at h
  have g := kCnd h; clear h; rcases g with ⟨hb, h⟩ | ⟨-, h⟩
  · obtain rfl := Nat.eq_of_beq_eq_true hb
    simp only [List.mem_cons, List.not_mem_nil, or_false] at h
    subst h
    exact ⟨rfl, kt_245⟩
  have g := kCnd h; clear h; rcases g with ⟨hb, h⟩ | ⟨-, h⟩
  · obtain rfl := Nat.eq_of_beq_eq_true hb
    simp only [List.mem_cons, List.not_mem_nil, or_false] at h
    subst h
    exact ⟨rfl, kt_246⟩
  cases h
theorem kCs_131_ok {pc : Nat} {c : kC} (h : c ∈ kCs_131 pc) : kOkc 131 pc c := by
  unfold kCs_131 at h
  have g := kCnd h; clear h; rcases g with ⟨hb, h⟩ | ⟨-, h⟩
  · obtain rfl := Nat.eq_of_beq_eq_true hb
    simp only [List.mem_cons, List.not_mem_nil, or_false] at h
    subst h
    exact ⟨rfl, kt_247⟩
  have g := kCnd h; clear h; rcases g with ⟨hb, h⟩ | ⟨-, h⟩
  · obtain rfl := Nat.eq_of_beq_eq_true hb
    simp only [List.mem_cons, List.not_mem_nil, or_false] at h
    subst h
    exact ⟨rfl, kt_248⟩
  cases h
theorem kCs_132_ok {pc : Nat} {c : kC} (h : c ∈ kCs_132 pc) : kOkc 132 pc c := by
  unfold kCs_132 at h
  have g := kCnd h; clear h; rcases g with ⟨hb, h⟩ | ⟨-, h⟩
  · obtain rfl := Nat.eq_of_beq_eq_true hb
    simp only [List.mem_cons, List.not_mem_nil, or_false] at h
    subst h
    exact ⟨rfl, kt_249⟩
  have g := kCnd h; clear h; rcases g with ⟨hb, h⟩ | ⟨-, h⟩
  · obtain rfl := Nat.eq_of_beq_eq_true hb
    simp only [List.mem_cons, List.not_mem_nil, or_false] at h
    subst h
    exact ⟨rfl, kt_250⟩
  have g := kCnd h; clear h; rcases g with ⟨hb, h⟩ | ⟨-, h⟩
  · obtain rfl := Nat.eq_of_beq_eq_true hb
    simp only [List.mem_cons, List.not_mem_nil, or_false] at h
    subst h
    exact ⟨rfl, kt_251⟩
  cases h
theorem kCs_133_ok {pc : Nat} {c : kC} (h : c ∈ kCs_133 pc) : kOkc 133 pc c := by
  unfold kCs_133 at h
  have g := kCnd h; clear h; rcases g with ⟨hb, h⟩ | ⟨-, h⟩
  · obtain rfl := Nat.eq_of_beq_eq_true hb
    simp only [List.mem_cons, List.not_mem_nil, or_false] at h
    subst h
    exact ⟨rfl, kt_252⟩
  cases h
theorem kCs_134_ok {pc : Nat} {c : kC} (h : c ∈ kCs_134 pc) : kOkc 134 pc c := by
  unfold kCs_134 at h
  have g := kCnd h; clear h; rcases g with ⟨hb, h⟩ | ⟨-, h⟩
  · obtain rfl := Nat.eq_of_beq_eq_true hb
    simp only [List.mem_cons, List.not_mem_nil, or_false] at h
    subst h
    exact ⟨rfl, kt_253⟩
  have g := kCnd h; clear h; rcases g with ⟨hb, h⟩ | ⟨-, h⟩
  · obtain rfl := Nat.eq_of_beq_eq_true hb
    simp only [List.mem_cons, List.not_mem_nil, or_false] at h
    subst h
    exact ⟨rfl, kt_254⟩
  cases h
theorem kCs_135_ok {pc : Nat} {c : kC} (h : c ∈ kCs_135 pc) : kOkc 135 pc c := by
  unfold kCs_135 at h
  have g := kCnd h; clear h; rcases g with ⟨hb, h⟩ | ⟨-, h⟩
  · obtain rfl := Nat.eq_of_beq_eq_true hb
    simp only [List.mem_cons, List.not_mem_nil, or_false] at h
    subst h
    exact ⟨rfl, kt_255⟩
  cases h
theorem kCs_136_ok {pc : Nat} {c : kC} (h : c ∈ kCs_136 pc) : kOkc 136 pc c := by
  unfold kCs_136 at h
  have g := kCnd h; clear h; rcases g with ⟨hb, h⟩ | ⟨-, h⟩
  · obtain rfl := Nat.eq_of_beq_eq_true hb
    simp only [List.mem_cons, List.not_mem_nil, or_false] at h
    subst h
    exact ⟨rfl, kt_256⟩
  have g := kCnd h; clear h; rcases g with ⟨hb, h⟩ | ⟨-, h⟩
  · obtain rfl := Nat.eq_of_beq_eq_true hb
    simp only [List.mem_cons, List.not_mem_nil, or_false] at h
    subst h
    exact ⟨rfl, kt_257⟩
  cases h
theorem kCs_137_ok {pc : Nat} {c : kC} (h : c ∈ kCs_137 pc) : kOkc 137 pc c := by
  unfold kCs_137 at h
  have g := kCnd h; clear h; rcases g with ⟨hb, h⟩ | ⟨-, h⟩
  · obtain rfl := Nat.eq_of_beq_eq_true hb
    simp only [List.mem_cons, List.not_mem_nil, or_false] at h
    subst h
    exact ⟨rfl, kt_258⟩
  have g := kCnd h; clear h; rcases g with ⟨hb, h⟩ | ⟨-, h⟩
  · obtain rfl := Nat.eq_of_beq_eq_true hb
    simp only [List.mem_cons, List.not_mem_nil, or_false] at h
    subst h
    exact ⟨rfl, kt_259⟩
  cases h
theorem kCs_146_ok {pc : Nat} {c : kC} (h : c ∈ kCs_146 pc) : kOkc 146 pc c := by
  unfold kCs_146 at h
  have g := kCnd h; clear h; rcases g with ⟨hb, h⟩ | ⟨-, h⟩
  · obtain rfl := Nat.eq_of_beq_eq_true hb
    simp only [List.mem_cons, List.not_mem_nil, or_false] at h
    subst h
    exact ⟨rfl, kt_260⟩
  cases h
theorem kCs_160_ok {pc : Nat} {c : kC} (h : c ∈ kCs_160 pc) : kOkc 160 pc c := by
  unfold kCs_160 at h
  have g := kCnd h; clear h; rcases g with ⟨hb, h⟩ | ⟨-, h⟩
  · obtain rfl := Nat.eq_of_beq_eq_true hb
    simp only [List.mem_cons, List.not_mem_nil, or_false] at h
    subst h
    exact ⟨rfl, kt_261⟩
  cases h
theorem kCs_164_ok {pc : Nat} {c : kC} (h : c ∈ kCs_164 pc) : kOkc 164 pc c := by
  unfold kCs_164 at h
  have g := kCnd h; clear h; rcases g with ⟨hb, h⟩ | ⟨-, h⟩
  · obtain rfl := Nat.eq_of_beq_eq_true hb
    simp only [List.mem_cons, List.not_mem_nil, or_false] at h
    rcases h with rfl | rfl | rfl | rfl | rfl | rfl
    · exact ⟨rfl, kt_262⟩
    · exact ⟨rfl, kt_263⟩
    · exact ⟨rfl, kt_264⟩
    · exact ⟨rfl, kt_265⟩
    · exact ⟨rfl, kt_266⟩
    · exact ⟨rfl, kt_267⟩
  cases h
theorem kCs_166_ok {pc : Nat} {c : kC} (h : c ∈ kCs_166 pc) : kOkc 166 pc c := by
  unfold kCs_166 at h
  have g := kCnd h; clear h; rcases g with ⟨hb, h⟩ | ⟨-, h⟩
  · obtain rfl := Nat.eq_of_beq_eq_true hb
    simp only [List.mem_cons, List.not_mem_nil, or_false] at h
    rcases h with rfl | rfl | rfl | rfl | rfl | rfl | rfl | rfl | rfl | rfl | rfl | rfl
    · exact ⟨rfl, kt_268⟩
    · exact ⟨rfl, kt_269⟩
    · exact ⟨rfl, kt_270⟩
    · exact ⟨rfl, kt_271⟩
    · exact ⟨rfl, kt_272⟩
    · exact ⟨rfl, kt_273⟩
    · exact ⟨rfl, kt_274⟩
    · exact ⟨rfl, kt_275⟩
    · exact ⟨rfl, kt_276⟩
    · exact ⟨rfl, kt_277⟩
    · exact ⟨rfl, kt_278⟩
    · exact ⟨rfl, kt_279⟩
  cases h
theorem kCs_167_ok {pc : Nat} {c : kC} (h : c ∈ kCs_167 pc) : kOkc 167 pc c := by
  unfold kCs_167 at h
  have g := kCnd h; clear h; rcases g with ⟨hb, h⟩ | ⟨-, h⟩
  · obtain rfl := Nat.eq_of_beq_eq_true hb
    simp only [List.mem_cons, List.not_mem_nil, or_false] at h
    subst h
    exact ⟨rfl, kt_280⟩
  cases h
theorem kCs_168_ok {pc : Nat} {c : kC} (h : c ∈ kCs_168 pc) : kOkc 168 pc c := by
  unfold kCs_168 at h
  have g := kCnd h; clear h; rcases g with ⟨hb, h⟩ | ⟨-, h⟩
  · obtain rfl := Nat.eq_of_beq_eq_true hb
    simp only [List.mem_cons, List.not_mem_nil, or_false] at h
    rcases h with rfl | rfl | rfl | rfl | rfl | rfl | rfl | rfl | rfl | rfl | rfl | rfl | rfl | rfl | rfl | rfl | rfl | rfl | rfl | rfl | rfl | rfl | rfl | rfl | rfl | rfl | rfl | rfl | rfl | rfl | rfl | rfl | rfl | rfl | rfl | rfl | rfl | rfl | rfl | rfl | rfl | rfl | rfl | rfl | rfl | rfl | rfl | rfl | rfl | rfl | rfl | rfl | rfl | rfl | rfl | rfl | rfl | rfl | rfl | rfl | rfl | rfl | rfl | rfl | rfl | rfl | rfl | rfl | rfl | rfl | rfl | rfl
    · exact ⟨rfl, kt_281⟩
    · exact ⟨rfl, kt_282⟩
    · exact ⟨rfl, kt_283⟩
    · exact ⟨rfl, kt_284⟩
    · exact ⟨rfl, kt_285⟩
    · exact ⟨rfl, kt_286⟩
    · exact ⟨rfl, kt_287⟩
    · exact ⟨rfl, kt_288⟩
    · exact ⟨rfl, kt_289⟩
    · exact ⟨rfl, kt_290⟩
    · exact ⟨rfl, kt_291⟩
    · exact ⟨rfl, kt_292⟩
    · exact ⟨rfl, kt_293⟩
    · exact ⟨rfl, kt_294⟩
    · exact ⟨rfl, kt_295⟩
    · exact ⟨rfl, kt_296⟩
    · exact ⟨rfl, kt_297⟩
    · exact ⟨rfl, kt_298⟩
    · exact ⟨rfl, kt_299⟩
    · exact ⟨rfl, kt_300⟩
    · exact ⟨rfl, kt_301⟩
    · exact ⟨rfl, kt_302⟩
    · exact ⟨rfl, kt_303⟩
    · exact ⟨rfl, kt_304⟩
    · exact ⟨rfl, kt_305⟩
    · exact ⟨rfl, kt_306⟩
    · exact ⟨rfl, kt_307⟩
    · exact ⟨rfl, kt_308⟩
    · exact ⟨rfl, kt_309⟩
    · exact ⟨rfl, kt_310⟩
    · exact ⟨rfl, kt_311⟩
    · exact ⟨rfl, kt_312⟩
    · exact ⟨rfl, kt_313⟩
    · exact ⟨rfl, kt_314⟩
    · exact ⟨rfl, kt_315⟩
    · exact ⟨rfl, kt_316⟩
    · exact ⟨rfl, kt_317⟩
    · exact ⟨rfl, kt_318⟩
    · exact ⟨rfl, kt_319⟩
    · exact ⟨rfl, kt_320⟩
    · exact ⟨rfl, kt_321⟩
    · exact ⟨rfl, kt_322⟩
    · exact ⟨rfl, kt_323⟩
    · exact ⟨rfl, kt_324⟩
    · exact ⟨rfl, kt_325⟩
    · exact ⟨rfl, kt_326⟩
    · exact ⟨rfl, kt_327⟩
    · exact ⟨rfl, kt_328⟩
    · exact ⟨rfl, kt_329⟩
    · exact ⟨rfl, kt_330⟩
    · exact ⟨rfl, kt_331⟩
    · exact ⟨rfl, kt_332⟩
    · exact ⟨rfl, kt_333⟩
    · exact ⟨rfl, kt_334⟩
    · exact ⟨rfl, kt_335⟩
    · exact ⟨rfl, kt_336⟩
    · exact ⟨rfl, kt_337⟩
    · exact ⟨rfl, kt_338⟩
    · exact ⟨rfl, kt_339⟩
    · exact ⟨rfl, kt_340⟩
    · exact ⟨rfl, kt_341⟩
    · exact ⟨rfl, kt_342⟩
    · exact ⟨rfl, kt_343⟩
    · exact ⟨rfl, kt_344⟩
    · exact ⟨rfl, kt_345⟩
    · exact ⟨rfl, kt_346⟩
    · exact ⟨rfl, kt_347⟩
    · exact ⟨rfl, kt_348⟩
    · exact ⟨rfl, kt_349⟩
    · exact ⟨rfl, kt_350⟩
    · exact ⟨rfl, kt_351⟩
    · exact ⟨rfl, kt_352⟩
  have g := kCnd h; clear h; rcases g with ⟨hb, h⟩ | ⟨-, h⟩
  · obtain rfl := Nat.eq_of_beq_eq_true hb
    simp only [List.mem_cons, List.not_mem_nil, or_false] at h
    rcases h with rfl | rfl | rfl | rfl | rfl | rfl
    · exact ⟨rfl, kt_353⟩
    · exact ⟨rfl, kt_354⟩
    · exact ⟨rfl, kt_355⟩
    · exact ⟨rfl, kt_356⟩
    · exact ⟨rfl, kt_357⟩
    · exact ⟨rfl, kt_358⟩
  have g := kCnd h; clear h; rcases g with ⟨hb, h⟩ | ⟨-, h⟩
  · obtain rfl := Nat.eq_of_beq_eq_true hb
    simp only [List.mem_cons, List.not_mem_nil, or_false] at h
    rcases h with rfl | rfl | rfl | rfl | rfl | rfl
    · exact ⟨rfl, kt_359⟩
    · exact ⟨rfl, kt_360⟩
    · exact ⟨rfl, kt_361⟩
    · exact ⟨rfl, kt_362⟩
    · exact ⟨rfl, kt_363⟩
    · exact ⟨rfl, kt_364⟩
  cases h
theorem kCs_169_ok {pc : Nat} {c : kC} (h : c ∈ kCs_169 pc) : kOkc 169 pc c := by
  unfold kCs_169 at h
  have g := kCnd h; clear h; rcases g with ⟨hb, h⟩ | ⟨-, h⟩
  · obtain rfl := Nat.eq_of_beq_eq_true hb
    simp only [List.mem_cons, List.not_mem_nil, or_false] at h
    subst h
    exact ⟨rfl, kt_365⟩
  cases h
theorem kCs_172_ok {pc : Nat} {c : kC} (h : c ∈ kCs_172 pc) : kOkc 172 pc c := by
  unfold kCs_172 at h
  have g := kCnd h; clear h; rcases g with ⟨hb, h⟩ | ⟨-, h⟩
  · obtain rfl := Nat.eq_of_beq_eq_true hb
    simp only [List.mem_cons, List.not_mem_nil, or_false] at h
    subst h
    exact ⟨rfl, kt_366⟩
  cases h
theorem kCs_181_ok {pc : Nat} {c : kC} (h : c ∈ kCs_181 pc) : kOkc 181 pc c := by
  unfold kCs_181 at h
  have g := kCnd h; clear h; rcases g with ⟨hb, h⟩ | ⟨-, h⟩
  · obtain rfl := Nat.eq_of_beq_eq_true hb
    simp only [List.mem_cons, List.not_mem_nil, or_false] at h
    rcases h with rfl | rfl | rfl | rfl | rfl | rfl | rfl | rfl | rfl | rfl | rfl | rfl
    · exact ⟨rfl, kt_367⟩
    · exact ⟨rfl, kt_368⟩
    · exact ⟨rfl, kt_369⟩
    · exact ⟨rfl, kt_370⟩
    · exact ⟨rfl, kt_371⟩
    · exact ⟨rfl, kt_372⟩
    · exact ⟨rfl, kt_373⟩
    · exact ⟨rfl, kt_374⟩
    · exact ⟨rfl, kt_375⟩
    · exact ⟨rfl, kt_376⟩
    · exact ⟨rfl, kt_377⟩
    · exact ⟨rfl, kt_378⟩
  cases h
theorem kCs_183_ok {pc : Nat} {c : kC} (h : c ∈ kCs_183 pc) : kOkc 183 pc c := by
  unfold kCs_183 at h
  have g := kCnd h; clear h; rcases g with ⟨hb, h⟩ | ⟨-, h⟩
  · obtain rfl := Nat.eq_of_beq_eq_true hb
    simp only [List.mem_cons, List.not_mem_nil, or_false] at h
    subst h
    exact ⟨rfl, kt_379⟩
  have g := kCnd h; clear h; rcases g with ⟨hb, h⟩ | ⟨-, h⟩
  · obtain rfl := Nat.eq_of_beq_eq_true hb
    simp only [List.mem_cons, List.not_mem_nil, or_false] at h
    subst h
    exact ⟨rfl, kt_380⟩
  have g := kCnd h; clear h; rcases g with ⟨hb, h⟩ | ⟨-, h⟩
  · obtain rfl := Nat.eq_of_beq_eq_true hb
    simp only [List.mem_cons, List.not_mem_nil, or_false] at h
    subst h
    exact ⟨rfl, kt_381⟩
  cases h
theorem kCs_184_ok {pc : Nat} {c : kC} (h : c ∈ kCs_184 pc) : kOkc 184 pc c := by
  unfold kCs_184 at h
  have g := kCnd h; clear h; rcases g with ⟨hb, h⟩ | ⟨-, h⟩
  · obtain rfl := Nat.eq_of_beq_eq_true hb
    simp only [List.mem_cons, List.not_mem_nil, or_false] at h
    subst h
    exact ⟨rfl, kt_382⟩
  have g := kCnd h; clear h; rcases g with ⟨hb, h⟩ | ⟨-, h⟩
  · obtain rfl := Nat.eq_of_beq_eq_true hb
    simp only [List.mem_cons, List.not_mem_nil, or_false] at h
    subst h
    exact ⟨rfl, kt_383⟩
  cases h
theorem kCs_185_ok {pc : Nat} {c : kC} (h : c ∈ kCs_185 pc) : kOkc 185 pc c := by
  unfold kCs_185 at h
  have g := kCnd h; clear h; rcases g with ⟨hb, h⟩ | ⟨-, h⟩
  · obtain rfl := Nat.eq_of_beq_eq_true hb
    simp only [List.mem_cons, List.not_mem_nil, or_false] at h
    subst h
    exact ⟨rfl, kt_384⟩
  have g := kCnd h; clear h; rcases g with ⟨hb, h⟩ | ⟨-, h⟩
  · obtain rfl := Nat.eq_of_beq_eq_true hb
    simp only [List.mem_cons, List.not_mem_nil, or_false] at h
    subst h
    exact ⟨rfl, kt_385⟩
  have g := kCnd h; clear h; rcases g with ⟨hb, h⟩ | ⟨-, h⟩
  · obtain rfl := Nat.eq_of_beq_eq_true hb
    simp only [List.mem_cons, List.not_mem_nil, or_false] at h
    subst h
    exact ⟨rfl, kt_386⟩
  have g := kCnd h; clear h; rcases g with ⟨hb, h⟩ | ⟨-, h⟩
  · obtain rfl := Nat.eq_of_beq_eq_true hb
    simp only [List.mem_cons, List.not_mem_nil, or_false] at h
    subst h
    exact ⟨rfl, kt_387⟩
  cases h
theorem kCs_186_ok {pc : Nat} {c : kC} (h : c ∈ kCs_186 pc) : kOkc 186 pc c := by
  unfold kCs_186 at h
  have g := kCnd h; clear h; rcases g with ⟨hb, h⟩ | ⟨-, h⟩
  · obtain rfl := Nat.eq_of_beq_eq_true hb
    simp only [List.mem_cons, List.not_mem_nil, or_false] at h
    rcases h with rfl | rfl | rfl | rfl | rfl
    · exact ⟨rfl, kt_388⟩
    · exact ⟨rfl, kt_389⟩
    · exact ⟨rfl, kt_390⟩
    · exact ⟨rfl, kt_391⟩
    · exact ⟨rfl, kt_392⟩
  cases h
theorem kCs_187_ok {pc : Nat} {c : kC} (h : c ∈ kCs_187 pc) : kOkc 187 pc c := by
  unfold kCs_187 at h
  have g := kCnd h; clear h; rcases g with ⟨hb, h⟩ | ⟨-, h⟩
  · obtain rfl := Nat.eq_of_beq_eq_true hb
    simp only [List.mem_cons, List.not_mem_nil, or_false] at h
    subst h
    exact ⟨rfl, kt_393⟩
  have g := kCnd h; clear h; rcases g with ⟨hb, h⟩ | ⟨-, h⟩
  · obtain rfl := Nat.eq_of_beq_eq_true hb
    simp only [List.mem_cons, List.not_mem_nil, or_false] at h
    subst h
    exact ⟨rfl, kt_394⟩
  cases h
theorem kCs_188_ok {pc : Nat} {c : kC} (h : c ∈ kCs_188 pc) : kOkc 188 pc c := by
  unfold kCs_188 at h
  have g := kCnd h; clear h; rcases g with ⟨hb, h⟩ | ⟨-, h⟩
  · obtain rfl := Nat.eq_of_beq_eq_true hb
    simp only [List.mem_cons, List.not_mem_nil, or_false] at h
    subst h
    exact ⟨rfl, kt_395⟩
  have g := kCnd h; clear h; rcases g with ⟨hb, h⟩ | ⟨-, h⟩
  · obtain rfl := Nat.eq_of_beq_eq_true hb
    simp only [List.mem_cons, List.not_mem_nil, or_false] at h
    subst h
    exact ⟨rfl, kt_396⟩
  cases h
theorem kCs_189_ok {pc : Nat} {c : kC} (h : c ∈ kCs_189 pc) : kOkc 189 pc c := by
  unfold kCs_189 at h
  have g := kCnd h; clear h; rcases g with ⟨hb, h⟩ | ⟨-, h⟩
  · obtain rfl := Nat.eq_of_beq_eq_true hb
    simp only [List.mem_cons, List.not_mem_nil, or_false] at h
    subst h
    exact ⟨rfl, kt_397⟩
  have g := kCnd h; clear h; rcases g with ⟨hb, h⟩ | ⟨-, h⟩
  · obtain rfl := Nat.eq_of_beq_eq_true hb
    simp only [List.mem_cons, List.not_mem_nil, or_false] at h
    subst h
    exact ⟨rfl, kt_398⟩
  cases h
theorem kCs_192_ok {pc : Nat} {c : kC} (h : c ∈ kCs_192 pc) : kOkc 192 pc c := by
  unfold kCs_192 at h
  have g := kCnd h; clear h; rcases g with ⟨hb, h⟩ | ⟨-, h⟩
  · obtain rfl := Nat.eq_of_beq_eq_true hb
    simp only [List.mem_cons, List.not_mem_nil, or_false] at h
    rcases h with rfl | rfl
    · exact ⟨rfl, kt_399⟩
    · exact ⟨rfl, kt_400⟩
  have g := kCnd h; clear h; rcases g with ⟨hb, h⟩ | ⟨-, h⟩
  · obtain rfl := Nat.eq_of_beq_eq_true hb
    simp only [List.mem_cons, List.not_mem_nil, or_false] at h
    rcases h with rfl | rfl
    · exact ⟨rfl, kt_401⟩
    · exact ⟨rfl, kt_402⟩
  have g := kCnd h; clear h; rcases g with ⟨hb, h⟩ | ⟨-, h⟩
  · obtain rfl := Nat.eq_of_beq_eq_true hb
    simp only [List.mem_cons, List.not_mem_nil, or_false] at h
    rcases h with rfl | rfl
    · exact ⟨rfl, kt_403⟩
    · exact ⟨rfl, kt_404⟩
  cases h
theorem kCs_193_ok {pc : Nat} {c : kC} (h : c ∈ kCs_193 pc) : kOkc 193 pc c := by
  unfold kCs_193 at h
  have g := kCnd h; clear h; rcases g with ⟨hb, h⟩ | ⟨-, h⟩
  · obtain rfl := Nat.eq_of_beq_eq_true hb
    simp only [List.mem_cons, List.not_mem_nil, or_false] at h
    rcases h with rfl | rfl
    · exact ⟨rfl, kt_405⟩
    · exact ⟨rfl, kt_406⟩
  have g := kCnd h; clear h; rcases g with ⟨hb, h⟩ | ⟨-, h⟩
  · obtain rfl := Nat.eq_of_beq_eq_true hb
    simp only [List.mem_cons, List.not_mem_nil, or_false] at h
    rcases h with rfl | rfl
    · exact ⟨rfl, kt_407⟩
    · exact ⟨rfl, kt_408⟩
  cases h
theorem kCs_194_ok {pc : Nat} {c : kC} (h : c ∈ kCs_194 pc) : kOkc 194 pc c := by
  unfold kCs_194 at h
  have g := kCnd h; clear h; rcases g with ⟨hb, h⟩ | ⟨-, h⟩
  · obtain rfl := Nat.eq_of_beq_eq_true hb
    simp only [List.mem_cons, List.not_mem_nil, or_false] at h
    rcases h with rfl | rfl
    · exact ⟨rfl, kt_409⟩
    · exact ⟨rfl, kt_410⟩
  have g := kCnd h; clear h; rcases g with ⟨hb, h⟩ | ⟨-, h⟩
  · obtain rfl := Nat.eq_of_beq_eq_true hb
    simp only [List.mem_cons, List.not_mem_nil, or_false] at h
    rcases h with rfl | rfl
    · exact ⟨rfl, kt_411⟩
    · exact ⟨rfl, kt_412⟩
  cases h
theorem kCs_195_ok {pc : Nat} {c : kC} (h : c ∈ kCs_195 pc) : kOkc 195 pc c := by
  unfold kCs_195 at h
  have g := kCnd h; clear h; rcases g with ⟨hb, h⟩ | ⟨-, h⟩
  · obtain rfl := Nat.eq_of_beq_eq_true hb
    simp only [List.mem_cons, List.not_mem_nil, or_false] at h
    rcases h with rfl | rfl
    · exact ⟨rfl, kt_413⟩
    · exact ⟨rfl, kt_414⟩
  cases h
theorem kCs_196_ok {pc : Nat} {c : kC} (h : c ∈ kCs_196 pc) : kOkc 196 pc c := by
  unfold kCs_196 at h
  have g := kCnd h; clear h; rcases g with ⟨hb, h⟩ | ⟨-, h⟩
  · obtain rfl := Nat.eq_of_beq_eq_true hb
    simp only [List.mem_cons, List.not_mem_nil, or_false] at h
    rcases h with rfl | rfl
    · exact ⟨rfl, kt_415⟩
    · exact ⟨rfl, kt_416⟩
  cases h
theorem kCs_198_ok {pc : Nat} {c : kC} (h : c ∈ kCs_198 pc) : kOkc 198 pc c := by
  unfold kCs_198 at h
  have g := kCnd h; clear h; rcases g with ⟨hb, h⟩ | ⟨-, h⟩
  · obtain rfl := Nat.eq_of_beq_eq_true hb
    simp only [List.mem_cons, List.not_mem_nil, or_false] at h
    rcases h with rfl | rfl
    · exact ⟨rfl, kt_417⟩
    · exact ⟨rfl, kt_418⟩
  cases h
theorem kCs_215_ok {pc : Nat} {c : kC} (h : c ∈ kCs_215 pc) : kOkc 215 pc c := by
  unfold kCs_215 at h
  have g := kCnd h; clear h; rcases g with ⟨hb, h⟩ | ⟨-, h⟩
  · obtain rfl := Nat.eq_of_beq_eq_true hb
    simp only [List.mem_cons, List.not_mem_nil, or_false] at h
    rcases h with rfl | rfl | rfl
    · exact ⟨rfl, kt_419⟩
    · exact ⟨rfl, kt_420⟩
    · exact ⟨rfl, kt_421⟩
  have g := kCnd h; clear h; rcases g with ⟨hb, h⟩ | ⟨-, h⟩
  · obtain rfl := Nat.eq_of_beq_eq_true hb
    simp only [List.mem_cons, List.not_mem_nil, or_false] at h
    rcases h with rfl | rfl
    · exact ⟨rfl, kt_422⟩
    · exact ⟨rfl, kt_423⟩
  cases h
theorem kCs_221_ok {pc : Nat} {c : kC} (h : c ∈ kCs_221 pc) : kOkc 221 pc c := by
  unfold kCs_221 at h
  have g := kCnd h; clear h; rcases g with ⟨hb, h⟩ | ⟨-, h⟩
  · obtain rfl := Nat.eq_of_beq_eq_true hb
    simp only [List.mem_cons, List.not_mem_nil, or_false] at h
    subst h
    exact ⟨rfl, kt_424⟩
  have g := kCnd h; clear h; rcases g with ⟨hb, h⟩ | ⟨-, h⟩
  · obtain rfl := Nat.eq_of_beq_eq_true hb
    simp only [List.mem_cons, List.not_mem_nil, or_false] at h
    subst h
    exact ⟨rfl, kt_425⟩
  cases h
theorem kCs_222_ok {pc : Nat} {c : kC} (h : c ∈ kCs_222 pc) : kOkc 222 pc c := by
  unfold kCs_222 at h
  have g := kCnd h; clear h; rcases g with ⟨hb, h⟩ | ⟨-, h⟩
  · obtain rfl := Nat.eq_of_beq_eq_true hb
    simp only [List.mem_cons, List.not_mem_nil, or_false] at h
    subst h
    exact ⟨rfl, kt_426⟩
  cases h
theorem kCs_223_ok {pc : Nat} {c : kC} (h : c ∈ kCs_223 pc) : kOkc 223 pc c := by
  unfold kCs_223 at h
  have g := kCnd h; clear h; rcases g with ⟨hb, h⟩ | ⟨-, h⟩
  · obtain rfl := Nat.eq_of_beq_eq_true hb
    simp only [List.mem_cons, List.not_mem_nil, or_false] at h
    subst h
    exact ⟨rfl, kt_427⟩
  have g := kCnd h; clear h; rcases g with ⟨hb, h⟩ | ⟨-, h⟩
  · obtain rfl := Nat.eq_of_beq_eq_true hb
    simp only [List.mem_cons, List.not_mem_nil, or_false] at h
    subst h
    exact ⟨rfl, kt_428⟩
  cases h
theorem kCs_224_ok {pc : Nat} {c : kC} (h : c ∈ kCs_224 pc) : kOkc 224 pc c := by
  unfold kCs_224 at h
  have g := kCnd h; clear h; rcases g with ⟨hb, h⟩ | ⟨-, h⟩
  · obtain rfl := Nat.eq_of_beq_eq_true hb
    simp only [List.mem_cons, List.not_mem_nil, or_false] at h
    subst h
    exact ⟨rfl, kt_429⟩
  have g := kCnd h; clear h; rcases g with ⟨hb, h⟩ | ⟨-, h⟩
  · obtain rfl := Nat.eq_of_beq_eq_true hb
    simp only [List.mem_cons, List.not_mem_nil, or_false] at h
    subst h
    exact ⟨rfl, kt_430⟩
  cases h
theorem kCs_225_ok {pc : Nat} {c : kC} (h : c ∈ kCs_225 pc) : kOkc 225 pc c := by
  unfold kCs_225 at h
  have g := kCnd h; clear h; rcases g with ⟨hb, h⟩ | ⟨-, h⟩
  · obtain rfl := Nat.eq_of_beq_eq_true hb
    simp only [List.mem_cons, List.not_mem_nil, or_false] at h
    subst h
    exact ⟨rfl, kt_431⟩
  cases h
theorem kCs_226_ok {pc : Nat} {c : kC} (h : c ∈ kCs_226 pc) : kOkc 226 pc c := by
  unfold kCs_226 at h
  have g := kCnd h; clear h; rcases g with ⟨hb, h⟩ | ⟨-, h⟩
  · obtain rfl := Nat.eq_of_beq_eq_true hb
    simp only [List.mem_cons, List.not_mem_nil, or_false] at h
    subst h
    exact ⟨rfl, kt_432⟩
  have g := kCnd h; clear h; rcases g with ⟨hb, h⟩ | ⟨-, h⟩
  · obtain rfl := Nat.eq_of_beq_eq_true hb
    simp only [List.mem_cons, List.not_mem_nil, or_false] at h
    subst h
    exact ⟨rfl, kt_433⟩
  cases h
theorem kCs_227_ok {pc : Nat} {c : kC} (h : c ∈ kCs_227 pc) : kOkc 227 pc c := by
  unfold kCs_227 at h
  have g := kCnd h; clear h; rcases g with ⟨hb, h⟩ | ⟨-, h⟩
  · obtain rfl := Nat.eq_of_beq_eq_true hb
    simp only [List.mem_cons, List.not_mem_nil, or_false] at h
    subst h
    exact ⟨rfl, kt_434⟩
  have g := kCnd h; clear h; rcases g with ⟨hb, h⟩ | ⟨-, h⟩
  · obtain rfl := Nat.eq_of_beq_eq_true hb
    simp only [List.mem_cons, List.not_mem_nil, or_false] at h
    subst h
    exact ⟨rfl, kt_435⟩
  cases h
theorem kCs_229_ok {pc : Nat} {c : kC} (h : c ∈ kCs_229 pc) : kOkc 229 pc c := by
  unfold kCs_229 at h
  have g := kCnd h; clear h; rcases g with ⟨hb, h⟩ | ⟨-, h⟩
  · obtain rfl := Nat.eq_of_beq_eq_true hb
    simp only [List.mem_cons, List.not_mem_nil, or_false] at h
    subst h
    exact ⟨rfl, kt_436⟩
  cases h
theorem kCs_247_ok {pc : Nat} {c : kC} (h : c ∈ kCs_247 pc) : kOkc 247 pc c := by
  unfold kCs_247 at h
  have g := kCnd h; clear h; rcases g with ⟨hb, h⟩ | ⟨-, h⟩
  · obtain rfl := Nat.eq_of_beq_eq_true hb
    simp only [List.mem_cons, List.not_mem_nil, or_false] at h
    subst h
    exact ⟨rfl, kt_437⟩
  have g := kCnd h; clear h; rcases g with ⟨hb, h⟩ | ⟨-, h⟩
  · obtain rfl := Nat.eq_of_beq_eq_true hb
    simp only [List.mem_cons, List.not_mem_nil, or_false] at h
    subst h
    exact ⟨rfl, kt_438⟩
  cases h
theorem kCs_249_ok {pc : Nat} {c : kC} (h : c ∈ kCs_249 pc) : kOkc 249 pc c := by
  unfold kCs_249 at h
  have g := kCnd h; clear h; rcases g with ⟨hb, h⟩ | ⟨-, h⟩
  · obtain rfl := Nat.eq_of_beq_eq_true hb
    simp only [List.mem_cons, List.not_mem_nil, or_false] at h
    subst h
    exact ⟨rfl, kt_439⟩
  cases h
theorem kCs_250_ok {pc : Nat} {c : kC} (h : c ∈ kCs_250 pc) : kOkc 250 pc c := by
  unfold kCs_250 at h
  have g := kCnd h; clear h; rcases g with ⟨hb, h⟩ | ⟨-, h⟩
  · obtain rfl := Nat.eq_of_beq_eq_true hb
    simp only [List.mem_cons, List.not_mem_nil, or_false] at h
    rcases h with rfl | rfl
    · exact ⟨rfl, kt_440⟩
    · exact ⟨rfl, kt_441⟩
  have g := kCnd h; clear h; rcases g with ⟨hb, h⟩ | ⟨-, h⟩
  · obtain rfl := Nat.eq_of_beq_eq_true hb
    simp only [List.mem_cons, List.not_mem_nil, or_false] at h
    rcases h with rfl | rfl
    · exact ⟨rfl, kt_442⟩
    · exact ⟨rfl, kt_443⟩
  cases h
theorem kCs_252_ok {pc : Nat} {c : kC} (h : c ∈ kCs_252 pc) : kOkc 252 pc c := by
  unfold kCs_252 at h
  have g := kCnd h; clear h; rcases g with ⟨hb, h⟩ | ⟨-, h⟩
  · obtain rfl := Nat.eq_of_beq_eq_true hb
    simp only [List.mem_cons, List.not_mem_nil, or_false] at h
    subst h
    exact ⟨rfl, kt_444⟩
  have g := kCnd h; clear h; rcases g with ⟨hb, h⟩ | ⟨-, h⟩
  · obtain rfl := Nat.eq_of_beq_eq_true hb
    simp only [List.mem_cons, List.not_mem_nil, or_false] at h
    subst h
    exact ⟨rfl, kt_445⟩
  have g := kCnd h; clear h; rcases g with ⟨hb, h⟩ | ⟨-, h⟩
  · obtain rfl := Nat.eq_of_beq_eq_true hb
    simp only [List.mem_cons, List.not_mem_nil, or_false] at h
    subst h
    exact ⟨rfl, kt_446⟩
  cases h
theorem kCs_257_ok {pc : Nat} {c : kC} (h : c ∈ kCs_257 pc) : kOkc 257 pc c := by
  unfold kCs_257 at h
  have g := kCnd h; clear h; rcases g with ⟨hb, h⟩ | ⟨-, h⟩
  · obtain rfl := Nat.eq_of_beq_eq_true hb
    simp only [List.mem_cons, List.not_mem_nil, or_false] at h
    rcases h with rfl | rfl | rfl | rfl | rfl | rfl
    · exact ⟨rfl, kt_447⟩
    · exact ⟨rfl, kt_448⟩
    · exact ⟨rfl, kt_449⟩
    · exact ⟨rfl, kt_450⟩
    · exact ⟨rfl, kt_451⟩
    · exact ⟨rfl, kt_452⟩
  cases h
theorem kCs_266_ok {pc : Nat} {c : kC} (h : c ∈ kCs_266 pc) : kOkc 266 pc c := by
  unfold kCs_266 at h
  have g := kCnd h; clear h; rcases g with ⟨hb, h⟩ | ⟨-, h⟩
  · obtain rfl := Nat.eq_of_beq_eq_true hb
    simp only [List.mem_cons, List.not_mem_nil, or_false] at h
    rcases h with rfl | rfl | rfl | rfl | rfl | rfl | rfl
    · exact ⟨rfl, kt_453⟩
    · exact ⟨rfl, kt_454⟩
    · exact ⟨rfl, kt_455⟩
    · exact ⟨rfl, kt_456⟩
    · exact ⟨rfl, kt_457⟩
    · exact ⟨rfl, kt_458⟩
    · exact ⟨rfl, kt_459⟩
  cases h
theorem kCs_269_ok {pc : Nat} {c : kC} (h : c ∈ kCs_269 pc) : kOkc 269 pc c := by
  unfold kCs_269 at h
  have g := kCnd h; clear h; rcases g with ⟨hb, h⟩ | ⟨-, h⟩
  · obtain rfl := Nat.eq_of_beq_eq_true hb
    simp only [List.mem_cons, List.not_mem_nil, or_false] at h
    rcases h with rfl | rfl
    · exact ⟨rfl, kt_460⟩
    · exact ⟨rfl, kt_461⟩
  have g := kCnd h; clear h; rcases g with ⟨hb, h⟩ | ⟨-, h⟩
  · obtain rfl := Nat.eq_of_beq_eq_true hb
    simp only [List.mem_cons, List.not_mem_nil, or_false] at h
    rcases h with rfl | rfl
    · exact ⟨rfl, kt_462⟩
    · exact ⟨rfl, kt_463⟩
  cases h
theorem kCs_270_ok {pc : Nat} {c : kC} (h : c ∈ kCs_270 pc) : kOkc 270 pc c := by
  unfold kCs_270 at h
  have g := kCnd h; clear h; rcases g with ⟨hb, h⟩ | ⟨-, h⟩
  · obtain rfl := Nat.eq_of_beq_eq_true hb
    simp only [List.mem_cons, List.not_mem_nil, or_false] at h
    subst h
    exact ⟨rfl, kt_464⟩
  cases h
theorem kCs_271_ok {pc : Nat} {c : kC} (h : c ∈ kCs_271 pc) : kOkc 271 pc c := by
  unfold kCs_271 at h
  have g := kCnd h; clear h; rcases g with ⟨hb, h⟩ | ⟨-, h⟩
  · obtain rfl := Nat.eq_of_beq_eq_true hb
    simp only [List.mem_cons, List.not_mem_nil, or_false] at h
    subst h
    exact ⟨rfl, kt_465⟩
  have g := kCnd h; clear h; rcases g with ⟨hb, h⟩ | ⟨-, h⟩
  · obtain rfl := Nat.eq_of_beq_eq_true hb
    simp only [List.mem_cons, List.not_mem_nil, or_false] at h
    subst h
    exact ⟨rfl, kt_466⟩
  cases h
theorem kCs_272_ok {pc : Nat} {c : kC} (h : c ∈ kCs_272 pc) : kOkc 272 pc c := by
  unfold kCs_272 at h
  have g := kCnd h; clear h; rcases g with ⟨hb, h⟩ | ⟨-, h⟩
  · obtain rfl := Nat.eq_of_beq_eq_true hb
    simp only [List.mem_cons, List.not_mem_nil, or_false] at h
    subst h
    exact ⟨rfl, kt_467⟩
  cases h
theorem kCs_273_ok {pc : Nat} {c : kC} (h : c ∈ kCs_273 pc) : kOkc 273 pc c := by
  unfold kCs_273 at h
  have g := kCnd h; clear h; rcases g with ⟨hb, h⟩ | ⟨-, h⟩
  · obtain rfl := Nat.eq_of_beq_eq_true hb
    simp only [List.mem_cons, List.not_mem_nil, or_false] at h
    subst h
    exact ⟨rfl, kt_468⟩
  cases h
theorem kCs_274_ok {pc : Nat} {c : kC} (h : c ∈ kCs_274 pc) : kOkc 274 pc c := by
  unfold kCs_274 at h
  have g := kCnd h; clear h; rcases g with ⟨hb, h⟩ | ⟨-, h⟩
  · obtain rfl := Nat.eq_of_beq_eq_true hb
    simp only [List.mem_cons, List.not_mem_nil, or_false] at h
    subst h
    exact ⟨rfl, kt_469⟩
  have g := kCnd h; clear h; rcases g with ⟨hb, h⟩ | ⟨-, h⟩
  · obtain rfl := Nat.eq_of_beq_eq_true hb
    simp only [List.mem_cons, List.not_mem_nil, or_false] at h
    rcases h with rfl | rfl
    · exact ⟨rfl, kt_470⟩
    · exact ⟨rfl, kt_471⟩
  have g := kCnd h; clear h; rcases g with ⟨hb, h⟩ | ⟨-, h⟩
  · obtain rfl := Nat.eq_of_beq_eq_true hb
    simp only [List.mem_cons, List.not_mem_nil, or_false] at h
    rcases h with rfl | rfl
    · exact ⟨rfl, kt_472⟩
    · exact ⟨rfl, kt_473⟩
  cases h
theorem kCs_276_ok {pc : Nat} {c : kC} (h : c ∈ kCs_276 pc) : kOkc 276 pc c := by
  unfold kCs_276 at h
  have g := kCnd h; clear h; rcases g with ⟨hb, h⟩ | ⟨-, h⟩
  · obtain rfl := Nat.eq_of_beq_eq_true hb
    simp only [List.mem_cons, List.not_mem_nil, or_false] at h
    subst h
    exact ⟨rfl, kt_474⟩
  have g := kCnd h; clear h; rcases g with ⟨hb, h⟩ | ⟨-, h⟩
  · obtain rfl := Nat.eq_of_beq_eq_true hb
    simp only [List.mem_cons, List.not_mem_nil, or_false] at h
    subst h
    exact ⟨rfl, kt_475⟩
  cases h
theorem kCs_278_ok {pc : Nat} {c : kC} (h : c ∈ kCs_278 pc) : kOkc 278 pc c := by
  unfold kCs_278 at h
  have g := kCnd h; clear h; rcases g with ⟨hb, h⟩ | ⟨-, h⟩
  · obtain rfl := Nat.eq_of_beq_eq_true hb
    simp only [List.mem_cons, List.not_mem_nil, or_false] at h
    rcases h with rfl | rfl | rfl | rfl | rfl | rfl | rfl | rfl | rfl | rfl | rfl | rfl
    · exact ⟨rfl, kt_476⟩
    · exact ⟨rfl, kt_477⟩
    · exact ⟨rfl, kt_478⟩
    · exact ⟨rfl, kt_479⟩
    · exact ⟨rfl, kt_480⟩
    · exact ⟨rfl, kt_481⟩
    · exact ⟨rfl, kt_482⟩
    · exact ⟨rfl, kt_483⟩
    · exact ⟨rfl, kt_484⟩
    · exact ⟨rfl, kt_485⟩
    · exact ⟨rfl, kt_486⟩
    · exact ⟨rfl, kt_487⟩
  have g := kCnd h; clear h; rcases g with ⟨hb, h⟩ | ⟨-, h⟩
  · obtain rfl := Nat.eq_of_beq_eq_true hb
    simp only [List.mem_cons, List.not_mem_nil, or_false] at h
    rcases h with rfl | rfl | rfl | rfl | rfl | rfl | rfl | rfl | rfl | rfl | rfl | rfl
    · exact ⟨rfl, kt_488⟩
    · exact ⟨rfl, kt_489⟩
    · exact ⟨rfl, kt_490⟩
    · exact ⟨rfl, kt_491⟩
    · exact ⟨rfl, kt_492⟩
    · exact ⟨rfl, kt_493⟩
    · exact ⟨rfl, kt_494⟩
    · exact ⟨rfl, kt_495⟩
    · exact ⟨rfl, kt_496⟩
    · exact ⟨rfl, kt_497⟩
    · exact ⟨rfl, kt_498⟩
    · exact ⟨rfl, kt_499⟩
  cases h
theorem kCs_279_ok {pc : Nat} {c : kC} (h : c ∈ kCs_279 pc) : kOkc 279 pc c := by
  unfold kCs_279 at h
  have g := kCnd h; clear h; rcases g with ⟨hb, h⟩ | ⟨-, h⟩
  · obtain rfl := Nat.eq_of_beq_eq_true hb
    simp only [List.mem_cons, List.not_mem_nil, or_false] at h
    rcases h with rfl | rfl | rfl | rfl | rfl | rfl | rfl | rfl | rfl | rfl | rfl | rfl
    · exact ⟨rfl, kt_500⟩
    · exact ⟨rfl, kt_501⟩
    · exact ⟨rfl, kt_502⟩
    · exact ⟨rfl, kt_503⟩
    · exact ⟨rfl, kt_504⟩
    · exact ⟨rfl, kt_505⟩
    · exact ⟨rfl, kt_506⟩
    · exact ⟨rfl, kt_507⟩
    · exact ⟨rfl, kt_508⟩
    · exact ⟨rfl, kt_509⟩
    · exact ⟨rfl, kt_510⟩
    · exact ⟨rfl, kt_511⟩
  have g := kCnd h; clear h; rcases g with ⟨hb, h⟩ | ⟨-, h⟩
  · obtain rfl := Nat.eq_of_beq_eq_true hb
    simp only [List.mem_cons, List.not_mem_nil, or_false] at h
    rcases h with rfl | rfl | rfl | rfl | rfl | rfl
    · exact ⟨rfl, kt_512⟩
    · exact ⟨rfl, kt_513⟩
    · exact ⟨rfl, kt_514⟩
    · exact ⟨rfl, kt_515⟩
    · exact ⟨rfl, kt_516⟩
    · exact ⟨rfl, kt_517⟩
  cases h
theorem kCs_280_ok {pc : Nat} {c : kC} (h : c ∈ kCs_280 pc) : kOkc 280 pc c := by
  unfold kCs_280 at h
  have g := kCnd h; clear h; rcases g with ⟨hb, h⟩ | ⟨-, h⟩
  · obtain rfl := Nat.eq_of_beq_eq_true hb
    simp only [List.mem_cons, List.not_mem_nil, or_false] at h
    subst h
    exact ⟨rfl, kt_518⟩
  have g := kCnd h; clear h; rcases g with ⟨hb, h⟩ | ⟨-, h⟩
  · obtain rfl := Nat.eq_of_beq_eq_true hb
    simp only [List.mem_cons, List.not_mem_nil, or_false] at h
    subst h
    exact ⟨rfl, kt_519⟩
  have g := kCnd h; clear h; rcases g with ⟨hb, h⟩ | ⟨-, h⟩
  · obtain rfl := Nat.eq_of_beq_eq_true hb
    simp only [List.mem_cons, List.not_mem_nil, or_false] at h
    subst h
    exact ⟨rfl, kt_520⟩
  have g := kCnd h; clear h; rcases g with ⟨hb, h⟩ | ⟨-, h⟩
  · obtain rfl := Nat.eq_of_beq_eq_true hb
    simp only [List.mem_cons, List.not_mem_nil, or_false] at h
    subst h
    exact ⟨rfl, kt_521⟩
  have g := kCnd h; clear h; rcases g with ⟨hb, h⟩ | ⟨-, h⟩
  · obtain rfl := Nat.eq_of_beq_eq_true hb
    simp only [List.mem_cons, List.not_mem_nil, or_false] at h
    subst h
    exact ⟨rfl, kt_522⟩
  have g := kCnd h; clear h; rcases g with ⟨hb, h⟩ | ⟨-, h⟩
  · obtain rfl := Nat.eq_of_beq_eq_true hb
    simp only [List.mem_cons, List.not_mem_nil, or_false] at h
    subst h
    exact ⟨rfl, kt_523⟩
  have g := kCnd h; clear h; rcases g with ⟨hb, h⟩ | ⟨-, h⟩
  · obtain rfl := Nat.eq_of_beq_eq_true hb
    simp only [List.mem_cons, List.not_mem_nil, or_false] at h
    subst h
    exact ⟨rfl, kt_524⟩
  have g := kCnd h; clear h; rcases g with ⟨hb, h⟩ | ⟨-, h⟩
  · obtain rfl := Nat.eq_of_beq_eq_true hb
    simp only [List.mem_cons, List.not_mem_nil, or_false] at h
    subst h
    exact ⟨rfl, kt_525⟩
  have g := kCnd h; clear h; rcases g with ⟨hb, h⟩ | ⟨-, h⟩
  · obtain rfl := Nat.eq_of_beq_eq_true hb
    simp only [List.mem_cons, List.not_mem_nil, or_false] at h
    subst h
    exact ⟨rfl, kt_526⟩
  have g := kCnd h; clear h; rcases g with ⟨hb, h⟩ | ⟨-, h⟩
  · obtain rfl := Nat.eq_of_beq_eq_true hb
    simp only [List.mem_cons, List.not_mem_nil, or_false] at h
    subst h
    exact ⟨rfl, kt_527⟩
  have g := kCnd h; clear h; rcases g with ⟨hb, h⟩ | ⟨-, h⟩
  · obtain rfl := Nat.eq_of_beq_eq_true hb
    simp only [List.mem_cons, List.not_mem_nil, or_false] at h
    subst h
    exact ⟨rfl, kt_528⟩
  have g := kCnd h; clear h; rcases g with ⟨hb, h⟩ | ⟨-, h⟩
  · obtain rfl := Nat.eq_of_beq_eq_true hb
    simp only [List.mem_cons, List.not_mem_nil, or_false] at h
    subst h
    exact ⟨rfl, kt_529⟩
  have g := kCnd h; clear h; rcases g with ⟨hb, h⟩ | ⟨-, h⟩
  · obtain rfl := Nat.eq_of_beq_eq_true hb
    simp only [List.mem_cons, List.not_mem_nil, or_false] at h
    subst h
    exact ⟨rfl, kt_530⟩
  have g := kCnd h; clear h; rcases g with ⟨hb, h⟩ | ⟨-, h⟩
  · obtain rfl := Nat.eq_of_beq_eq_true hb
    simp only [List.mem_cons, List.not_mem_nil, or_false] at h
    subst h
    exact ⟨rfl, kt_531⟩
  have g := kCnd h; clear h; rcases g with ⟨hb, h⟩ | ⟨-, h⟩
  · obtain rfl := Nat.eq_of_beq_eq_true hb
    simp only [List.mem_cons, List.not_mem_nil, or_false] at h
    subst h
    exact ⟨rfl, kt_532⟩
  have g := kCnd h; clear h; rcases g with ⟨hb, h⟩ | ⟨-, h⟩
  · obtain rfl := Nat.eq_of_beq_eq_true hb
    simp only [List.mem_cons, List.not_mem_nil, or_false] at h
    subst h
    exact ⟨rfl, kt_533⟩
  have g := kCnd h; clear h; rcases g with ⟨hb, h⟩ | ⟨-, h⟩
  · obtain rfl := Nat.eq_of_beq_eq_true hb
    simp only [List.mem_cons, List.not_mem_nil, or_false] at h
    subst h
    exact ⟨rfl, kt_534⟩
  have g := kCnd h; clear h; rcases g with ⟨hb, h⟩ | ⟨-, h⟩
  · obtain rfl := Nat.eq_of_beq_eq_true hb
    simp only [List.mem_cons, List.not_mem_nil, or_false] at h
    subst h
    exact ⟨rfl, kt_535⟩
  have g := kCnd h; clear h; rcases g with ⟨hb, h⟩ | ⟨-, h⟩
  · obtain rfl := Nat.eq_of_beq_eq_true hb
    simp only [List.mem_cons, List.not_mem_nil, or_false] at h
    subst h
    exact ⟨rfl, kt_536⟩
  have g := kCnd h; clear h; rcases g with ⟨hb, h⟩ | ⟨-, h⟩
  · obtain rfl := Nat.eq_of_beq_eq_true hb
    simp only [List.mem_cons, List.not_mem_nil, or_false] at h
    subst h
    exact ⟨rfl, kt_537⟩
  have g := kCnd h; clear h; rcases g with ⟨hb, h⟩ | ⟨-, h⟩
  · obtain rfl := Nat.eq_of_beq_eq_true hb
    simp only [List.mem_cons, List.not_mem_nil, or_false] at h
    subst h
    exact ⟨rfl, kt_538⟩
  have g := kCnd h; clear h; rcases g with ⟨hb, h⟩ | ⟨-, h⟩
  · obtain rfl := Nat.eq_of_beq_eq_true hb
    simp only [List.mem_cons, List.not_mem_nil, or_false] at h
    subst h
    exact ⟨rfl, kt_539⟩
  have g := kCnd h; clear h; rcases g with ⟨hb, h⟩ | ⟨-, h⟩
  · obtain rfl := Nat.eq_of_beq_eq_true hb
    simp only [List.mem_cons, List.not_mem_nil, or_false] at h
    subst h
    exact ⟨rfl, kt_540⟩
  have g := kCnd h; clear h; rcases g with ⟨hb, h⟩ | ⟨-, h⟩
  · obtain rfl := Nat.eq_of_beq_eq_true hb
    simp only [List.mem_cons, List.not_mem_nil, or_false] at h
    subst h
    exact ⟨rfl, kt_541⟩
  have g := kCnd h; clear h; rcases g with ⟨hb, h⟩ | ⟨-, h⟩
  · obtain rfl := Nat.eq_of_beq_eq_true hb
    simp only [List.mem_cons, List.not_mem_nil, or_false] at h
    subst h
    exact ⟨rfl, kt_542⟩
  have g := kCnd h; clear h; rcases g with ⟨hb, h⟩ | ⟨-, h⟩
  · obtain rfl := Nat.eq_of_beq_eq_true hb
    simp only [List.mem_cons, List.not_mem_nil, or_false] at h
    subst h
    exact ⟨rfl, kt_543⟩
  have g := kCnd h; clear h; rcases g with ⟨hb, h⟩ | ⟨-, h⟩
  · obtain rfl := Nat.eq_of_beq_eq_true hb
    simp only [List.mem_cons, List.not_mem_nil, or_false] at h
    subst h
    exact ⟨rfl, kt_544⟩
  have g := kCnd h; clear h; rcases g with ⟨hb, h⟩ | ⟨-, h⟩
  · obtain rfl := Nat.eq_of_beq_eq_true hb
    simp only [List.mem_cons, List.not_mem_nil, or_false] at h
    subst h
    exact ⟨rfl, kt_545⟩
  have g := kCnd h; clear h; rcases g with ⟨hb, h⟩ | ⟨-, h⟩
  · obtain rfl := Nat.eq_of_beq_eq_true hb
    simp only [List.mem_cons, List.not_mem_nil, or_false] at h
    subst h
    exact ⟨rfl, kt_546⟩
  have g := kCnd h; clear h; rcases g with ⟨hb, h⟩ | ⟨-, h⟩
  · obtain rfl := Nat.eq_of_beq_eq_true hb
    simp only [List.mem_cons, List.not_mem_nil, or_false] at h
    subst h
    exact ⟨rfl, kt_547⟩
  have g := kCnd h; clear h; rcases g with ⟨hb, h⟩ | ⟨-, h⟩
  · obtain rfl := Nat.eq_of_beq_eq_true hb
    simp only [List.mem_cons, List.not_mem_nil, or_false] at h
    subst h
    exact ⟨rfl, kt_548⟩
  have g := kCnd h; clear h; rcases g with ⟨hb, h⟩ | ⟨-, h⟩
  · obtain rfl := Nat.eq_of_beq_eq_true hb
    simp only [List.mem_cons, List.not_mem_nil, or_false] at h
    subst h
    exact ⟨rfl, kt_549⟩
  have g := kCnd h; clear h; rcases g with ⟨hb, h⟩ | ⟨-, h⟩
  · obtain rfl := Nat.eq_of_beq_eq_true hb
    simp only [List.mem_cons, List.not_mem_nil, or_false] at h
    subst h
    exact ⟨rfl, kt_550⟩
  have g := kCnd h; clear h; rcases g with ⟨hb, h⟩ | ⟨-, h⟩
  · obtain rfl := Nat.eq_of_beq_eq_true hb
    simp only [List.mem_cons, List.not_mem_nil, or_false] at h
    subst h
    exact ⟨rfl, kt_551⟩
  have g := kCnd h; clear h; rcases g with ⟨hb, h⟩ | ⟨-, h⟩
  · obtain rfl := Nat.eq_of_beq_eq_true hb
    simp only [List.mem_cons, List.not_mem_nil, or_false] at h
    subst h
    exact ⟨rfl, kt_552⟩
  have g := kCnd h; clear h; rcases g with ⟨hb, h⟩ | ⟨-, h⟩
  · obtain rfl := Nat.eq_of_beq_eq_true hb
    simp only [List.mem_cons, List.not_mem_nil, or_false] at h
    subst h
    exact ⟨rfl, kt_553⟩
  have g := kCnd h; clear h; rcases g with ⟨hb, h⟩ | ⟨-, h⟩
  · obtain rfl := Nat.eq_of_beq_eq_true hb
    simp only [List.mem_cons, List.not_mem_nil, or_false] at h
    subst h
    exact ⟨rfl, kt_554⟩
  have g := kCnd h; clear h; rcases g with ⟨hb, h⟩ | ⟨-, h⟩
  · obtain rfl := Nat.eq_of_beq_eq_true hb
    simp only [List.mem_cons, List.not_mem_nil, or_false] at h
    subst h
    exact ⟨rfl, kt_555⟩
  have g := kCnd h; clear h; rcases g with ⟨hb, h⟩ | ⟨-, h⟩
  · obtain rfl := Nat.eq_of_beq_eq_true hb
    simp only [List.mem_cons, List.not_mem_nil, or_false] at h
    subst h
    exact ⟨rfl, kt_556⟩
  have g := kCnd h; clear h; rcases g with ⟨hb, h⟩ | ⟨-, h⟩
  · obtain rfl := Nat.eq_of_beq_eq_true hb
    simp only [List.mem_cons, List.not_mem_nil, or_false] at h
    subst h
    exact ⟨rfl, kt_557⟩
  have g := kCnd h; clear h; rcases g with ⟨hb, h⟩ | ⟨-, h⟩
  · obtain rfl := Nat.eq_of_beq_eq_true hb
    simp only [List.mem_cons, List.not_mem_nil, or_false] at h
    subst h
    exact ⟨rfl, kt_558⟩
  have g := kCnd h; clear h; rcases g with ⟨hb, h⟩ | ⟨-, h⟩
  · obtain rfl := Nat.eq_of_beq_eq_true hb
    simp only [List.mem_cons, List.not_mem_nil, or_false] at h
    subst h
    exact ⟨rfl, kt_559⟩
  have g := kCnd h; clear h; rcases g with ⟨hb, h⟩ | ⟨-, h⟩
  · obtain rfl := Nat.eq_of_beq_eq_true hb
    simp only [List.mem_cons, List.not_mem_nil, or_false] at h
    subst h
    exact ⟨rfl, kt_560⟩
  have g := kCnd h; clear h; rcases g with ⟨hb, h⟩ | ⟨-, h⟩
  · obtain rfl := Nat.eq_of_beq_eq_true hb
    simp only [List.mem_cons, List.not_mem_nil, or_false] at h
    subst h
    exact ⟨rfl, kt_561⟩
  cases h
theorem kCg_1_ok {mi pc : Nat} {c : kC} (h : c ∈ kCg_1 mi pc) : kOkc mi pc c := by
  unfold kCg_1 at h
  have g := kCnd h; clear h; rcases g with ⟨-, h⟩ | ⟨-, h⟩
  · have g := kCnd h; clear h; rcases g with ⟨-, h⟩ | ⟨-, h⟩
    · have g := kCnd h; clear h; rcases g with ⟨hb, h⟩ | ⟨-, h⟩
      · obtain rfl := Nat.eq_of_beq_eq_true hb
        exact kCs_13_ok h
      · cases h
    · have g := kCnd h; clear h; rcases g with ⟨hb, h⟩ | ⟨-, h⟩
      · obtain rfl := Nat.eq_of_beq_eq_true hb
        exact kCs_14_ok h
      · cases h
  · have g := kCnd h; clear h; rcases g with ⟨-, h⟩ | ⟨-, h⟩
    · have g := kCnd h; clear h; rcases g with ⟨hb, h⟩ | ⟨-, h⟩
      · obtain rfl := Nat.eq_of_beq_eq_true hb
        exact kCs_16_ok h
      · cases h
    · have g := kCnd h; clear h; rcases g with ⟨hb, h⟩ | ⟨-, h⟩
      · obtain rfl := Nat.eq_of_beq_eq_true hb
        exact kCs_18_ok h
      · cases h
theorem kCg_2_ok {mi pc : Nat} {c : kC} (h : c ∈ kCg_2 mi pc) : kOkc mi pc c := by
  unfold kCg_2 at h
  have g := kCnd h; clear h; rcases g with ⟨-, h⟩ | ⟨-, h⟩
  · have g := kCnd h; clear h; rcases g with ⟨-, h⟩ | ⟨-, h⟩
    · have g := kCnd h; clear h; rcases g with ⟨hb, h⟩ | ⟨-, h⟩
      · obtain rfl := Nat.eq_of_beq_eq_true hb
        exact kCs_3_ok h
      · cases h
    · have g := kCnd h; clear h; rcases g with ⟨-, h⟩ | ⟨-, h⟩
      · have g := kCnd h; clear h; rcases g with ⟨hb, h⟩ | ⟨-, h⟩
        · obtain rfl := Nat.eq_of_beq_eq_true hb
          exact kCs_9_ok h
        · cases h
      · have g := kCnd h; clear h; rcases g with ⟨hb, h⟩ | ⟨-, h⟩
        · obtain rfl := Nat.eq_of_beq_eq_true hb
          exact kCs_12_ok h
        · cases h
  · exact kCg_1_ok h
theorem kCg_3_ok {mi pc : Nat} {c : kC} (h : c ∈ kCg_3 mi pc) : kOkc mi pc c := by
  unfold kCg_3 at h
  have g := kCnd h; clear h; rcases g with ⟨-, h⟩ | ⟨-, h⟩
  · have g := kCnd h; clear h; rcases g with ⟨-, h⟩ | ⟨-, h⟩
    · have g := kCnd h; clear h; rcases g with ⟨hb, h⟩ | ⟨-, h⟩
      · obtain rfl := Nat.eq_of_beq_eq_true hb
        exact kCs_20_ok h
      · cases h
    · have g := kCnd h; clear h; rcases g with ⟨hb, h⟩ | ⟨-, h⟩
      · obtain rfl := Nat.eq_of_beq_eq_true hb
        exact kCs_21_ok h
      · cases h
  · have g := kCnd h; clear h; rcases g with ⟨-, h⟩ | ⟨-, h⟩
    · have g := kCnd h; clear h; rcases g with ⟨hb, h⟩ | ⟨-, h⟩
      · obtain rfl := Nat.eq_of_beq_eq_true hb
        exact kCs_23_ok h
      · cases h
    · have g := kCnd h; clear h; rcases g with ⟨hb, h⟩ | ⟨-, h⟩
      · obtain rfl := Nat.eq_of_beq_eq_true hb
        exact kCs_25_ok h
      · cases h
theorem kCg_4_ok {mi pc : Nat} {c : kC} (h : c ∈ kCg_4 mi pc) : kOkc mi pc c := by
  unfold kCg_4 at h
  have g := kCnd h; clear h; rcases g with ⟨-, h⟩ | ⟨-, h⟩
  · have g := kCnd h; clear h; rcases g with ⟨-, h⟩ | ⟨-, h⟩
    · have g := kCnd h; clear h; rcases g with ⟨hb, h⟩ | ⟨-, h⟩
      · obtain rfl := Nat.eq_of_beq_eq_true hb
        exact kCs_26_ok h
      · cases h
    · have g := kCnd h; clear h; rcases g with ⟨hb, h⟩ | ⟨-, h⟩
      · obtain rfl := Nat.eq_of_beq_eq_true hb
        exact kCs_27_ok h
      · cases h
  · have g := kCnd h; clear h; rcases g with ⟨-, h⟩ | ⟨-, h⟩
    · have g := kCnd h; clear h; rcases g with ⟨hb, h⟩ | ⟨-, h⟩
      · obtain rfl := Nat.eq_of_beq_eq_true hb
        exact kCs_28_ok h
      · cases h
    · have g := kCnd h; clear h; rcases g with ⟨hb, h⟩ | ⟨-, h⟩
      · obtain rfl := Nat.eq_of_beq_eq_true hb
        exact kCs_29_ok h
      · cases h
theorem kCg_5_ok {mi pc : Nat} {c : kC} (h : c ∈ kCg_5 mi pc) : kOkc mi pc c := by
  unfold kCg_5 at h
  have g := kCnd h; clear h; rcases g with ⟨-, h⟩ | ⟨-, h⟩
  · exact kCg_3_ok h
  · exact kCg_4_ok h
theorem kCg_6_ok {mi pc : Nat} {c : kC} (h : c ∈ kCg_6 mi pc) : kOkc mi pc c := by
  unfold kCg_6 at h
  have g := kCnd h; clear h; rcases g with ⟨-, h⟩ | ⟨-, h⟩
  · exact kCg_2_ok h
  · exact kCg_5_ok h
theorem kCg_7_ok {mi pc : Nat} {c : kC} (h : c ∈ kCg_7 mi pc) : kOkc mi pc c := by
  unfold kCg_7 at h
  have g := kCnd h; clear h; rcases g with ⟨-, h⟩ | ⟨-, h⟩
  · have g := kCnd h; clear h; rcases g with ⟨-, h⟩ | ⟨-, h⟩
    · have g := kCnd h; clear h; rcases g with ⟨hb, h⟩ | ⟨-, h⟩
      · obtain rfl := Nat.eq_of_beq_eq_true hb
        exact kCs_33_ok h
      · cases h
    · have g := kCnd h; clear h; rcases g with ⟨hb, h⟩ | ⟨-, h⟩
      · obtain rfl := Nat.eq_of_beq_eq_true hb
        exact kCs_43_ok h
      · cases h
  · have g := kCnd h; clear h; rcases g with ⟨-, h⟩ | ⟨-, h⟩
    · have g := kCnd h; clear h; rcases g with ⟨hb, h⟩ | ⟨-, h⟩
      · obtain rfl := Nat.eq_of_beq_eq_true hb
        exact kCs_44_ok h
      · cases h
    · have g := kCnd h; clear h; rcases g with ⟨hb, h⟩ | ⟨-, h⟩
      · obtain rfl := Nat.eq_of_beq_eq_true hb
        exact kCs_47_ok h
      · cases h
theorem kCg_8_ok {mi pc : Nat} {c : kC} (h : c ∈ kCg_8 mi pc) : kOkc mi pc c := by
  unfold kCg_8 at h
  have g := kCnd h; clear h; rcases g with ⟨-, h⟩ | ⟨-, h⟩
  · have g := kCnd h; clear h; rcases g with ⟨-, h⟩ | ⟨-, h⟩
    · have g := kCnd h; clear h; rcases g with ⟨hb, h⟩ | ⟨-, h⟩
      · obtain rfl := Nat.eq_of_beq_eq_true hb
        exact kCs_30_ok h
      · cases h
    · have g := kCnd h; clear h; rcases g with ⟨-, h⟩ | ⟨-, h⟩
      · have g := kCnd h; clear h; rcases g with ⟨hb, h⟩ | ⟨-, h⟩
        · obtain rfl := Nat.eq_of_beq_eq_true hb
          exact kCs_31_ok h
        · cases h
      · have g := kCnd h; clear h; rcases g with ⟨hb, h⟩ | ⟨-, h⟩
        · obtain rfl := Nat.eq_of_beq_eq_true hb
          exact kCs_32_ok h
        · cases h
  · exact kCg_7_ok h
theorem kCg_9_ok {mi pc : Nat} {c : kC} (h : c ∈ kCg_9 mi pc) : kOkc mi pc c := by
  unfold kCg_9 at h
  have g := kCnd h; clear h; rcases g with ⟨-, h⟩ | ⟨-, h⟩
  · have g := kCnd h; clear h; rcases g with ⟨-, h⟩ | ⟨-, h⟩
    · have g := kCnd h; clear h; rcases g with ⟨hb, h⟩ | ⟨-, h⟩
      · obtain rfl := Nat.eq_of_beq_eq_true hb
        exact kCs_48_ok h
      · cases h
    · have g := kCnd h; clear h; rcases g with ⟨hb, h⟩ | ⟨-, h⟩
      · obtain rfl := Nat.eq_of_beq_eq_true hb
        exact kCs_49_ok h
      · cases h
  · have g := kCnd h; clear h; rcases g with ⟨-, h⟩ | ⟨-, h⟩
    · have g := kCnd h; clear h; rcases g with ⟨hb, h⟩ | ⟨-, h⟩
      · obtain rfl := Nat.eq_of_beq_eq_true hb
        exact kCs_50_ok h
      · cases h
    · have g := kCnd h; clear h; rcases g with ⟨hb, h⟩ | ⟨-, h⟩
      · obtain rfl := Nat.eq_of_beq_eq_true hb
        exact kCs_60_ok h
      · cases h
theorem kCg_10_ok {mi pc : Nat} {c : kC} (h : c ∈ kCg_10 mi pc) : kOkc mi pc c := by
  unfold kCg_10 at h
  have g := kCnd h; clear h; rcases g with ⟨-, h⟩ | ⟨-, h⟩
  · have g := kCnd h; clear h; rcases g with ⟨-, h⟩ | ⟨-, h⟩
    · have g := kCnd h; clear h; rcases g with ⟨hb, h⟩ | ⟨-, h⟩
      · obtain rfl := Nat.eq_of_beq_eq_true hb
        exact kCs_64_ok h
      · cases h
    · have g := kCnd h; clear h; rcases g with ⟨hb, h⟩ | ⟨-, h⟩
      · obtain rfl := Nat.eq_of_beq_eq_true hb
        exact kCs_78_ok h
      · cases h
  · have g := kCnd h; clear h; rcases g with ⟨-, h⟩ | ⟨-, h⟩
    · have g := kCnd h; clear h; rcases g with ⟨hb, h⟩ | ⟨-, h⟩
      · obtain rfl := Nat.eq_of_beq_eq_true hb
        exact kCs_79_ok h
      · cases h
    · have g := kCnd h; clear h; rcases g with ⟨hb, h⟩ | ⟨-, h⟩
      · obtain rfl := Nat.eq_of_beq_eq_true hb
        exact kCs_80_ok h
      · cases h
theorem kCg_11_ok {mi pc : Nat} {c : kC} (h : c ∈ kCg_11 mi pc) : kOkc mi pc c := by
  unfold kCg_11 at h
  have g := kCnd h; clear h; rcases g with ⟨-, h⟩ | ⟨-, h⟩
  · exact kCg_9_ok h
  · exact kCg_10_ok h
theorem kCg_12_ok {mi pc : Nat} {c : kC} (h : c ∈ kCg_12 mi pc) : kOkc mi pc c := by
  unfold kCg_12 at h
  have g := kCnd h; clear h; rcases g with ⟨-, h⟩ | ⟨-, h⟩
  · exact kCg_8_ok h
  · exact kCg_11_ok h
theorem kCg_13_ok {mi pc : Nat} {c : kC} (h : c ∈ kCg_13 mi pc) : kOkc mi pc c := by
  unfold kCg_13 at h
  have g := kCnd h; clear h; rcases g with ⟨-, h⟩ | ⟨-, h⟩
  · exact kCg_6_ok h
  · exact kCg_12_ok h
theorem kCg_14_ok {mi pc : Nat} {c : kC} (h : c ∈ kCg_14 mi pc) : kOkc mi pc c := by
  unfold kCg_14 at h
  have g := kCnd h; clear h; rcases g with ⟨-, h⟩ | ⟨-, h⟩
  · have g := kCnd h; clear h; rcases g with ⟨-, h⟩ | ⟨-, h⟩
    · have g := kCnd h; clear h; rcases g with ⟨hb, h⟩ | ⟨-, h⟩
      · obtain rfl := Nat.eq_of_beq_eq_true hb
        exact kCs_84_ok h
      · cases h
    · have g := kCnd h; clear h; rcases g with ⟨hb, h⟩ | ⟨-, h⟩
      · obtain rfl := Nat.eq_of_beq_eq_true hb
        exact kCs_85_ok h
      · cases h
  · have g := kCnd h; clear h; rcases g with ⟨-, h⟩ | ⟨-, h⟩
    · have g := kCnd h; clear h; rcases g with ⟨hb, h⟩ | ⟨-, h⟩
      · obtain rfl := Nat.eq_of_beq_eq_true hb
        exact kCs_87_ok h
      · cases h
    · have g := kCnd h; clear h; rcases g with ⟨hb, h⟩ | ⟨-, h⟩
      · obtain rfl := Nat.eq_of_beq_eq_true hb
        exact kCs_88_ok h
      · cases h
theorem kCg_15_ok {mi pc : Nat} {c : kC} (h : c ∈ kCg_15 mi pc) : kOkc mi pc c := by
  unfold kCg_15 at h
  have g := kCnd h; clear h; rcases g with ⟨-, h⟩ | ⟨-, h⟩
  · have g := kCnd h; clear h; rcases g with ⟨-, h⟩ | ⟨-, h⟩
    · have g := kCnd h; clear h; rcases g with ⟨hb, h⟩ | ⟨-, h⟩
      · obtain rfl := Nat.eq_of_beq_eq_true hb
        exact kCs_81_ok h
      · cases h
    · have g := kCnd h; clear h; rcases g with ⟨-, h⟩ | ⟨-, h⟩
      · have g := kCnd h; clear h; rcases g with ⟨hb, h⟩ | ⟨-, h⟩
        · obtain rfl := Nat.eq_of_beq_eq_true hb
          exact kCs_82_ok h
        · cases h
      · have g := kCnd h; clear h; rcases g with ⟨hb, h⟩ | ⟨-, h⟩
        · obtain rfl := Nat.eq_of_beq_eq_true hb
          exact kCs_83_ok h
        · cases h
  · exact kCg_14_ok h
theorem kCg_16_ok {mi pc : Nat} {c : kC} (h : c ∈ kCg_16 mi pc) : kOkc mi pc c := by
  unfold kCg_16 at h
  have g := kCnd h; clear h; rcases g with ⟨-, h⟩ | ⟨-, h⟩
  · have g := kCnd h; clear h; rcases g with ⟨-, h⟩ | ⟨-, h⟩
    · have g := kCnd h; clear h; rcases g with ⟨hb, h⟩ | ⟨-, h⟩
      · obtain rfl := Nat.eq_of_beq_eq_true hb
        exact kCs_90_ok h
      · cases h
    · have g := kCnd h; clear h; rcases g with ⟨hb, h⟩ | ⟨-, h⟩
      · obtain rfl := Nat.eq_of_beq_eq_true hb
        exact kCs_93_ok h
      · cases h
  · have g := kCnd h; clear h; rcases g with ⟨-, h⟩ | ⟨-, h⟩
    · have g := kCnd h; clear h; rcases g with ⟨hb, h⟩ | ⟨-, h⟩
      · obtain rfl := Nat.eq_of_beq_eq_true hb
        exact kCs_94_ok h
      · cases h
    · have g := kCnd h; clear h; rcases g with ⟨hb, h⟩ | ⟨-, h⟩
      · obtain rfl := Nat.eq_of_beq_eq_true hb
        exact kCs_95_ok h
      · cases h
theorem kCg_17_ok {mi pc : Nat} {c : kC} (h : c ∈ kCg_17 mi pc) : kOkc mi pc c := by
  unfold kCg_17 at h
  have g := kCnd h; clear h; rcases g with ⟨-, h⟩ | ⟨-, h⟩
  · have g := kCnd h; clear h; rcases g with ⟨-, h⟩ | ⟨-, h⟩
    · have g := kCnd h; clear h; rcases g with ⟨hb, h⟩ | ⟨-, h⟩
      · obtain rfl := Nat.eq_of_beq_eq_true hb
        exact kCs_96_ok h
      · cases h
    · have g := kCnd h; clear h; rcases g with ⟨hb, h⟩ | ⟨-, h⟩
      · obtain rfl := Nat.eq_of_beq_eq_true hb
        exact kCs_98_ok h
      · cases h
  · have g := kCnd h; clear h; rcases g with ⟨-, h⟩ | ⟨-, h⟩
    · have g := kCnd h; clear h; rcases g with ⟨hb, h⟩ | ⟨-, h⟩
      · obtain rfl := Nat.eq_of_beq_eq_true hb
        exact kCs_99_ok h
      · cases h
    · have g := kCnd h; clear h; rcases g with ⟨hb, h⟩ | ⟨-, h⟩
      · obtain rfl := Nat.eq_of_beq_eq_true hb
        exact kCs_101_ok h
      · cases h
theorem kCg_18_ok {mi pc : Nat} {c : kC} (h : c ∈ kCg_18 mi pc) : kOkc mi pc c := by
  unfold kCg_18 at h
  have g := kCnd h; clear h; rcases g with ⟨-, h⟩ | ⟨-, h⟩
  · exact kCg_16_ok h
  · exact kCg_17_ok h
theorem kCg_19_ok {mi pc : Nat} {c : kC} (h : c ∈ kCg_19 mi pc) : kOkc mi pc c := by
  unfold kCg_19 at h
  have g := kCnd h; clear h; rcases g with ⟨-, h⟩ | ⟨-, h⟩
  · exact kCg_15_ok h
  · exact kCg_18_ok h
theorem kCg_20_ok {mi pc : Nat} {c : kC} (h : c ∈ kCg_20 mi pc) : kOkc mi pc c := by
  unfold kCg_20 at h
  have g := kCnd h; clear h; rcases g with ⟨-, h⟩ | ⟨-, h⟩
  · have g := kCnd h; clear h; rcases g with ⟨-, h⟩ | ⟨-, h⟩
    · have g := kCnd h; clear h; rcases g with ⟨hb, h⟩ | ⟨-, h⟩
      · obtain rfl := Nat.eq_of_beq_eq_true hb
        exact kCs_107_ok h
      · cases h
    · have g := kCnd h; clear h; rcases g with ⟨hb, h⟩ | ⟨-, h⟩
      · obtain rfl := Nat.eq_of_beq_eq_true hb
        exact kCs_108_ok h
      · cases h
  · have g := kCnd h; clear h; rcases g with ⟨-, h⟩ | ⟨-, h⟩
    · have g := kCnd h; clear h; rcases g with ⟨hb, h⟩ | ⟨-, h⟩
      · obtain rfl := Nat.eq_of_beq_eq_true hb
        exact kCs_110_ok h
      · cases h
    · have g := kCnd h; clear h; rcases g with ⟨hb, h⟩ | ⟨-, h⟩
      · obtain rfl := Nat.eq_of_beq_eq_true hb
        exact kCs_113_ok h
      · cases h
theorem kCg_21_ok {mi pc : Nat} {c : kC} (h : c ∈ kCg_21 mi pc) : kOkc mi pc c := by
  unfold kCg_21 at h
  have g := kCnd h; clear h; rcases g with ⟨-, h⟩ | ⟨-, h⟩
  · have g := kCnd h; clear h; rcases g with ⟨-, h⟩ | ⟨-, h⟩
    · have g := kCnd h; clear h; rcases g with ⟨hb, h⟩ | ⟨-, h⟩
      · obtain rfl := Nat.eq_of_beq_eq_true hb
        exact kCs_102_ok h
      · cases h
    · have g := kCnd h; clear h; rcases g with ⟨-, h⟩ | ⟨-, h⟩
      · have g := kCnd h; clear h; rcases g with ⟨hb, h⟩ | ⟨-, h⟩
        · obtain rfl := Nat.eq_of_beq_eq_true hb
          exact kCs_103_ok h
        · cases h
      · have g := kCnd h; clear h; rcases g with ⟨hb, h⟩ | ⟨-, h⟩
        · obtain rfl := Nat.eq_of_beq_eq_true hb
          exact kCs_104_ok h
        · cases h
  · exact kCg_20_ok h
theorem kCg_22_ok {mi pc : Nat} {c : kC} (h : c ∈ kCg_22 mi pc) : kOkc mi pc c := by
  unfold kCg_22 at h
  have g := kCnd h; clear h; rcases g with ⟨-, h⟩ | ⟨-, h⟩
  · have g := kCnd h; clear h; rcases g with ⟨-, h⟩ | ⟨-, h⟩
    · have g := kCnd h; clear h; rcases g with ⟨hb, h⟩ | ⟨-, h⟩
      · obtain rfl := Nat.eq_of_beq_eq_true hb
        exact kCs_114_ok h
      · cases h
    · have g := kCnd h; clear h; rcases g with ⟨hb, h⟩ | ⟨-, h⟩
      · obtain rfl := Nat.eq_of_beq_eq_true hb
        exact kCs_115_ok h
      · cases h
  · have g := kCnd h; clear h; rcases g with ⟨-, h⟩ | ⟨-, h⟩
    · have g := kCnd h; clear h; rcases g with ⟨hb, h⟩ | ⟨-, h⟩
      · obtain rfl := Nat.eq_of_beq_eq_true hb
        exact kCs_116_ok h
      · cases h
    · have g := kCnd h; clear h; rcases g with ⟨hb, h⟩ | ⟨-, h⟩
      · obtain rfl := Nat.eq_of_beq_eq_true hb
        exact kCs_117_ok h
      · cases h
theorem kCg_23_ok {mi pc : Nat} {c : kC} (h : c ∈ kCg_23 mi pc) : kOkc mi pc c := by
  unfold kCg_23 at h
  have g := kCnd h; clear h; rcases g with ⟨-, h⟩ | ⟨-, h⟩
  · have g := kCnd h; clear h; rcases g with ⟨-, h⟩ | ⟨-, h⟩
    · have g := kCnd h; clear h; rcases g with ⟨hb, h⟩ | ⟨-, h⟩
      · obtain rfl := Nat.eq_of_beq_eq_true hb
        exact kCs_118_ok h
      · cases h
    · have g := kCnd h; clear h; rcases g with ⟨hb, h⟩ | ⟨-, h⟩
      · obtain rfl := Nat.eq_of_beq_eq_true hb
        exact kCs_121_ok h
      · cases h
  · have g := kCnd h; clear h; rcases g with ⟨-, h⟩ | ⟨-, h⟩
    · have g := kCnd h; clear h; rcases g with ⟨hb, h⟩ | ⟨-, h⟩
      · obtain rfl := Nat.eq_of_beq_eq_true hb
        exact kCs_122_ok h
      · cases h
    · have g := kCnd h; clear h; rcases g with ⟨hb, h⟩ | ⟨-, h⟩
      · obtain rfl := Nat.eq_of_beq_eq_true hb
        exact kCs_124_ok h
      · cases h
theorem kCg_24_ok {mi pc : Nat} {c : kC} (h : c ∈ kCg_24 mi pc) : kOkc mi pc c := by
  unfold kCg_24 at h
  have g := kCnd h; clear h; rcases g with ⟨-, h⟩ | ⟨-, h⟩
  · exact kCg_22_ok h
  · exact kCg_23_ok h
theorem kCg_25_ok {mi pc : Nat} {c : kC} (h : c ∈ kCg_25 mi pc) : kOkc mi pc c := by
  unfold kCg_25 at h
  have g := kCnd h; clear h; rcases g with ⟨-, h⟩ | ⟨-, h⟩
  · exact kCg_21_ok h
  · exact kCg_24_ok h
theorem kCg_26_ok {mi pc : Nat} {c : kC} (h : c ∈ kCg_26 mi pc) : kOkc mi pc c := by
  unfold kCg_26 at h
  have g := kCnd h; clear h; rcases g with ⟨-, h⟩ | ⟨-, h⟩
  · exact kCg_19_ok h
  · exact kCg_25_ok h
theorem kCg_27_ok {mi pc : Nat} {c : kC} (h : c ∈ kCg_27 mi pc) : kOkc mi pc c := by
  unfold kCg_27 at h
  have g := kCnd h; clear h; rcases g with ⟨-, h⟩ | ⟨-, h⟩
  · exact kCg_13_ok h
  · exact kCg_26_ok h
theorem kCg_28_ok {mi pc : Nat} {c : kC} (h : c ∈ kCg_28 mi pc) : kOkc mi pc c := by
  unfold kCg_28 at h
  have g := kCnd h; clear h; rcases g with ⟨-, h⟩ | ⟨-, h⟩
  · have g := kCnd h; clear h; rcases g with ⟨-, h⟩ | ⟨-, h⟩
    · have g := kCnd h; clear h; rcases g with ⟨hb, h⟩ | ⟨-, h⟩
      · obtain rfl := Nat.eq_of_beq_eq_true hb
        exact kCs_128_ok h
      · cases h
    · have g := kCnd h; clear h; rcases g with ⟨hb, h⟩ | ⟨-, h⟩
      · obtain rfl := Nat.eq_of_beq_eq_true hb
        exact kCs_129_ok h
      · cases h
  · have g := kCnd h; clear h; rcases g with ⟨-, h⟩ | ⟨-, h⟩
    · have g := kCnd h; clear h; rcases g with ⟨hb, h⟩ | ⟨-, h⟩
      · obtain rfl := Nat.eq_of_beq_eq_true hb
        exact kCs_130_ok h
      · cases h
    · have g := kCnd h; clear h; rcases g with ⟨hb, h⟩ | ⟨-, h⟩
      · obtain rfl := Nat.eq_of_beq_eq_true hb
        exact kCs_131_ok h
      · cases h
theorem kCg_29_ok {mi pc : Nat} {c : kC} (h : c ∈ kCg_29 mi pc) : kOkc mi pc c := by
  unfold kCg_29 at h
  have g := kCnd h; clear h; rcases g with ⟨-, h⟩ | ⟨-, h⟩
  · have g := kCnd h; clear h; rcases g with ⟨-, h⟩ | ⟨-, h⟩
    · have g := kCnd h; clear h; rcases g with ⟨hb, h⟩ | ⟨-, h⟩
      · obtain rfl := Nat.eq_of_beq_eq_true hb
        exact kCs_125_ok h
      · cases h
    · have g := kCnd h; clear h; rcases g with ⟨-, h⟩ | ⟨-, h⟩
      · have g := kCnd h; clear h; rcases g with ⟨hb, h⟩ | ⟨-, h⟩
        · obtain rfl := Nat.eq_of_beq_eq_true hb
          exact kCs_126_ok h
        · cases h
      · have g := kCnd h; clear h; rcases g with ⟨hb, h⟩ | ⟨-, h⟩
        · obtain rfl := Nat.eq_of_beq_eq_true hb
          exact kCs_127_ok h
        · cases h
  · exact kCg_28_ok h
theorem kCg_30_ok {mi pc : Nat} {c : kC} (h : c ∈ kCg_30 mi pc) : kOkc mi pc c := by
  unfold kCg_30 at h
  have g := kCnd h; clear h; rcases g with ⟨-, h⟩ | ⟨-, h⟩
  · have g := kCnd h; clear h; rcases g with ⟨-, h⟩ | ⟨-, h⟩
    · have g := kCnd h; clear h; rcases g with ⟨hb, h⟩ | ⟨-, h⟩
      · obtain rfl := Nat.eq_of_beq_eq_true hb
        exact kCs_132_ok h
      · cases h
    · have g := kCnd h; clear h; rcases g with ⟨hb, h⟩ | ⟨-, h⟩
      · obtain rfl := Nat.eq_of_beq_eq_true hb
        exact kCs_133_ok h
      · cases h
  · have g := kCnd h; clear h; rcases g with ⟨-, h⟩ | ⟨-, h⟩
    · have g := kCnd h; clear h; rcases g with ⟨hb, h⟩ | ⟨-, h⟩
      · obtain rfl := Nat.eq_of_beq_eq_true hb
        exact kCs_134_ok h
      · cases h
    · have g := kCnd h; clear h; rcases g with ⟨hb, h⟩ | ⟨-, h⟩
      · obtain rfl := Nat.eq_of_beq_eq_true hb
        exact kCs_135_ok h
      · cases h
theorem kCg_31_ok {mi pc : Nat} {c : kC} (h : c ∈ kCg_31 mi pc) : kOkc mi pc c := by
  unfold kCg_31 at h
  have g := kCnd h; clear h; rcases g with ⟨-, h⟩ | ⟨-, h⟩
  · have g := kCnd h; clear h; rcases g with ⟨-, h⟩ | ⟨-, h⟩
    · have g := kCnd h; clear h; rcases g with ⟨hb, h⟩ | ⟨-, h⟩
      · obtain rfl := Nat.eq_of_beq_eq_true hb
        exact kCs_136_ok h
      · cases h
    · have g := kCnd h; clear h; rcases g with ⟨hb, h⟩ | ⟨-, h⟩
      · obtain rfl := Nat.eq_of_beq_eq_true hb
        exact kCs_137_ok h
      · cases h
  · have g := kCnd h; clear h; rcases g with ⟨-, h⟩ | ⟨-, h⟩
    · have g := kCnd h; clear h; rcases g with ⟨hb, h⟩ | ⟨-, h⟩
      · obtain rfl := Nat.eq_of_beq_eq_true hb
        exact kCs_146_ok h
      · cases h
    · have g := kCnd h; clear h; rcases g with ⟨hb, h⟩ | ⟨-, h⟩
      · obtain rfl := Nat.eq_of_beq_eq_true hb
        exact kCs_160_ok h
      · cases h
theorem kCg_32_ok {mi pc : Nat} {c : kC} (h : c ∈ kCg_32 mi pc) : kOkc mi pc c := by
  unfold kCg_32 at h
  have g := kCnd h; clear h; rcases g with ⟨-, h⟩ | ⟨-, h⟩
  · exact kCg_30_ok h
  · exact kCg_31_ok h
theorem kCg_33_ok {mi pc : Nat} {c : kC} (h : c ∈ kCg_33 mi pc) : kOkc mi pc c := by
  unfold kCg_33 at h
  have g := kCnd h; clear h; rcases g with ⟨-, h⟩ | ⟨-, h⟩
  · exact kCg_29_ok h
  · exact kCg_32_ok h
theorem kCg_34_ok {mi pc : Nat} {c : kC} (h : c ∈ kCg_34 mi pc) : kOkc mi pc c := by
  unfold kCg_34 at h
  have g := kCnd h; clear h; rcases g with ⟨-, h⟩ | ⟨-, h⟩
  · have g := kCnd h; clear h; rcases g with ⟨-, h⟩ | ⟨-, h⟩
    · have g := kCnd h; clear h; rcases g with ⟨hb, h⟩ | ⟨-, h⟩
      · obtain rfl := Nat.eq_of_beq_eq_true hb
        exact kCs_168_ok h
      · cases h
    · have g := kCnd h; clear h; rcases g with ⟨hb, h⟩ | ⟨-, h⟩
      · obtain rfl := Nat.eq_of_beq_eq_true hb
        exact kCs_169_ok h
      · cases h
  · have g := kCnd h; clear h; rcases g with ⟨-, h⟩ | ⟨-, h⟩
    · have g := kCnd h; clear h; rcases g with ⟨hb, h⟩ | ⟨-, h⟩
      · obtain rfl := Nat.eq_of_beq_eq_true hb
        exact kCs_172_ok h
      · cases h
    · have g := kCnd h; clear h; rcases g with ⟨hb, h⟩ | ⟨-, h⟩
      · obtain rfl := Nat.eq_of_beq_eq_true hb
        exact kCs_181_ok h
      · cases h
theorem kCg_35_ok {mi pc : Nat} {c : kC} (h : c ∈ kCg_35 mi pc) : kOkc mi pc c := by
  unfold kCg_35 at h
  have g := kCnd h; clear h; rcases g with ⟨-, h⟩ | ⟨-, h⟩
  · have g := kCnd h; clear h; rcases g with ⟨-, h⟩ | ⟨-, h⟩
    · have g := kCnd h; clear h; rcases g with ⟨hb, h⟩ | ⟨-, h⟩
      · obtain rfl := Nat.eq_of_beq_eq_true hb
        exact kCs_164_ok h
      · cases h
    · have g := kCnd h; clear h; rcases g with ⟨-, h⟩ | ⟨-, h⟩
      · have g := kCnd h; clear h; rcases g with ⟨hb, h⟩ | ⟨-, h⟩
        · obtain rfl := Nat.eq_of_beq_eq_true hb
          exact kCs_166_ok h
        · cases h
      · have g := kCnd h; clear h; rcases g with ⟨hb, h⟩ | ⟨-, h⟩
        · obtain rfl := Nat.eq_of_beq_eq_true hb
          exact kCs_167_ok h
        · cases h
  · exact kCg_34_ok h
theorem kCg_36_ok {mi pc : Nat} {c : kC} (h : c ∈ kCg_36 mi pc) : kOkc mi pc c := by
  unfold kCg_36 at h
  have g := kCnd h; clear h; rcases g with ⟨-, h⟩ | ⟨-, h⟩
  · have g := kCnd h; clear h; rcases g with ⟨-, h⟩ | ⟨-, h⟩
    · have g := kCnd h; clear h; rcases g with ⟨hb, h⟩ | ⟨-, h⟩
      · obtain rfl := Nat.eq_of_beq_eq_true hb
        exact kCs_183_ok h
      · cases h
    · have g := kCnd h; clear h; rcases g with ⟨hb, h⟩ | ⟨-, h⟩
      · obtain rfl := Nat.eq_of_beq_eq_true hb
        exact kCs_184_ok h
      · cases h
  · have g := kCnd h; clear h; rcases g with ⟨-, h⟩ | ⟨-, h⟩
    · have g := kCnd h; clear h; rcases g with ⟨hb, h⟩ | ⟨-, h⟩
      · obtain rfl := Nat.eq_of_beq_eq_true hb
        exact kCs_185_ok h
      · cases h
    · have g := kCnd h; clear h; rcases g with ⟨hb, h⟩ | ⟨-, h⟩
      · obtain rfl := Nat.eq_of_beq_eq_true hb
        exact kCs_186_ok h
      · cases h
theorem kCg_37_ok {mi pc : Nat} {c : kC} (h : c ∈ kCg_37 mi pc) : kOkc mi pc c := by
  unfold kCg_37 at h
  have g := kCnd h; clear h; rcases g with ⟨-, h⟩ | ⟨-, h⟩
  · have g := kCnd h; clear h; rcases g with ⟨-, h⟩ | ⟨-, h⟩
    · have g := kCnd h; clear h; rcases g with ⟨hb, h⟩ | ⟨-, h⟩
      · obtain rfl := Nat.eq_of_beq_eq_true hb
        exact kCs_187_ok h
      · cases h
    · have g := kCnd h; clear h; rcases g with ⟨hb, h⟩ | ⟨-, h⟩
      · obtain rfl := Nat.eq_of_beq_eq_true hb
        exact kCs_188_ok h
      · cases h
  · have g := kCnd h; clear h; rcases g with ⟨-, h⟩ | ⟨-, h⟩
    · have g := kCnd h; clear h; rcases g with ⟨hb, h⟩ | ⟨-, h⟩
      · obtain rfl := Nat.eq_of_beq_eq_true hb
        exact kCs_189_ok h
      · cases h
    · have g := kCnd h; clear h; rcases g with ⟨hb, h⟩ | ⟨-, h⟩
      · obtain rfl := Nat.eq_of_beq_eq_true hb
        exact kCs_192_ok h
      · cases h
theorem kCg_38_ok {mi pc : Nat} {c : kC} (h : c ∈ kCg_38 mi pc) : kOkc mi pc c := by
  unfold kCg_38 at h
  have g := kCnd h; clear h; rcases g with ⟨-, h⟩ | ⟨-, h⟩
  · exact kCg_36_ok h
  · exact kCg_37_ok h
theorem kCg_39_ok {mi pc : Nat} {c : kC} (h : c ∈ kCg_39 mi pc) : kOkc mi pc c := by
  unfold kCg_39 at h
  have g := kCnd h; clear h; rcases g with ⟨-, h⟩ | ⟨-, h⟩
  · exact kCg_35_ok h
  · exact kCg_38_ok h
theorem kCg_40_ok {mi pc : Nat} {c : kC} (h : c ∈ kCg_40 mi pc) : kOkc mi pc c := by
  unfold kCg_40 at h
  have g := kCnd h; clear h; rcases g with ⟨-, h⟩ | ⟨-, h⟩
  · exact kCg_33_ok h
  · exact kCg_39_ok h
theorem kCg_41_ok {mi pc : Nat} {c : kC} (h : c ∈ kCg_41 mi pc) : kOkc mi pc c := by
  unfold kCg_41 at h
  have g := kCnd h; clear h; rcases g with ⟨-, h⟩ | ⟨-, h⟩
  · have g := kCnd h; clear h; rcases g with ⟨-, h⟩ | ⟨-, h⟩
    · have g := kCnd h; clear h; rcases g with ⟨hb, h⟩ | ⟨-, h⟩
      · obtain rfl := Nat.eq_of_beq_eq_true hb
        exact kCs_196_ok h
      · cases h
    · have g := kCnd h; clear h; rcases g with ⟨hb, h⟩ | ⟨-, h⟩
      · obtain rfl := Nat.eq_of_beq_eq_true hb
        exact kCs_198_ok h
      · cases h
  · have g := kCnd h; clear h; rcases g with ⟨-, h⟩ | ⟨-, h⟩
    · have g := kCnd h; clear h; rcases g with ⟨hb, h⟩ | ⟨-, h⟩
      · obtain rfl := Nat.eq_of_beq_eq_true hb
        exact kCs_215_ok h
      · cases h
    · have g := kCnd h; clear h; rcases g with ⟨hb, h⟩ | ⟨-, h⟩
      · obtain rfl := Nat.eq_of_beq_eq_true hb
        exact kCs_221_ok h
      · cases h
theorem kCg_42_ok {mi pc : Nat} {c : kC} (h : c ∈ kCg_42 mi pc) : kOkc mi pc c := by
  unfold kCg_42 at h
  have g := kCnd h; clear h; rcases g with ⟨-, h⟩ | ⟨-, h⟩
  · have g := kCnd h; clear h; rcases g with ⟨-, h⟩ | ⟨-, h⟩
    · have g := kCnd h; clear h; rcases g with ⟨hb, h⟩ | ⟨-, h⟩
      · obtain rfl := Nat.eq_of_beq_eq_true hb
        exact kCs_193_ok h
      · cases h
    · have g := kCnd h; clear h; rcases g with ⟨-, h⟩ | ⟨-, h⟩
      · have g := kCnd h; clear h; rcases g with ⟨hb, h⟩ | ⟨-, h⟩
        · obtain rfl := Nat.eq_of_beq_eq_true hb
          exact kCs_194_ok h
        · cases h
      · have g := kCnd h; clear h; rcases g with ⟨hb, h⟩ | ⟨-, h⟩
        · obtain rfl := Nat.eq_of_beq_eq_true hb
          exact kCs_195_ok h
        · cases h
  · exact kCg_41_ok h
theorem kCg_43_ok {mi pc : Nat} {c : kC} (h : c ∈ kCg_43 mi pc) : kOkc mi pc c := by
  unfold kCg_43 at h
  have g := kCnd h; clear h; rcases g with ⟨-, h⟩ | ⟨-, h⟩
  · have g := kCnd h; clear h; rcases g with ⟨-, h⟩ | ⟨-, h⟩
    · have g := kCnd h; clear h; rcases g with ⟨hb, h⟩ | ⟨-, h⟩
      · obtain rfl := Nat.eq_of_beq_eq_true hb
        exact kCs_222_ok h
      · cases h
    · have g := kCnd h; clear h; rcases g with ⟨hb, h⟩ | ⟨-, h⟩
      · obtain rfl := Nat.eq_of_beq_eq_true hb
        exact kCs_223_ok h
      · cases h
  · have g := kCnd h; clear h; rcases g with ⟨-, h⟩ | ⟨-, h⟩
    · have g := kCnd h; clear h; rcases g with ⟨hb, h⟩ | ⟨-, h⟩
      · obtain rfl := Nat.eq_of_beq_eq_true hb
        exact kCs_224_ok h
      · cases h
    · have g := kCnd h; clear h; rcases g with ⟨hb, h⟩ | ⟨-, h⟩
      · obtain rfl := Nat.eq_of_beq_eq_true hb
        exact kCs_225_ok h
      · cases h
theorem kCg_44_ok {mi pc : Nat} {c : kC} (h : c ∈ kCg_44 mi pc) : kOkc mi pc c := by
  unfold kCg_44 at h
  have g := kCnd h; clear h; rcases g with ⟨-, h⟩ | ⟨-, h⟩
  · have g := kCnd h; clear h; rcases g with ⟨-, h⟩ | ⟨-, h⟩
    · have g := kCnd h; clear h; rcases g with ⟨hb, h⟩ | ⟨-, h⟩
      · obtain rfl := Nat.eq_of_beq_eq_true hb
        exact kCs_226_ok h
      · cases h
    · have g := kCnd h; clear h; rcases g with ⟨hb, h⟩ | ⟨-, h⟩
      · obtain rfl := Nat.eq_of_beq_eq_true hb
        exact kCs_227_ok h
      · cases h
  · have g := kCnd h; clear h; rcases g with ⟨-, h⟩ | ⟨-, h⟩
    · have g := kCnd h; clear h; rcases g with ⟨hb, h⟩ | ⟨-, h⟩
      · obtain rfl := Nat.eq_of_beq_eq_true hb
        exact kCs_229_ok h
      · cases h
    · have g := kCnd h; clear h; rcases g with ⟨hb, h⟩ | ⟨-, h⟩
      · obtain rfl := Nat.eq_of_beq_eq_true hb
        exact kCs_247_ok h
      · cases h
theorem kCg_45_ok {mi pc : Nat} {c : kC} (h : c ∈ kCg_45 mi pc) : kOkc mi pc c := by
  unfold kCg_45 at h
  have g := kCnd h; clear h; rcases g with ⟨-, h⟩ | ⟨-, h⟩
  · exact kCg_43_ok h
  · exact kCg_44_ok h
theorem kCg_46_ok {mi pc : Nat} {c : kC} (h : c ∈ kCg_46 mi pc) : kOkc mi pc c := by
  unfold kCg_46 at h
  have g := kCnd h; clear h; rcases g with ⟨-, h⟩ | ⟨-, h⟩
  · exact kCg_42_ok h
  · exact kCg_45_ok h
theorem kCg_47_ok {mi pc : Nat} {c : kC} (h : c ∈ kCg_47 mi pc) : kOkc mi pc c := by
  unfold kCg_47 at h
  have g := kCnd h; clear h; rcases g with ⟨-, h⟩ | ⟨-, h⟩
  · have g := kCnd h; clear h; rcases g with ⟨-, h⟩ | ⟨-, h⟩
    · have g := kCnd h; clear h; rcases g with ⟨hb, h⟩ | ⟨-, h⟩
      · obtain rfl := Nat.eq_of_beq_eq_true hb
        exact kCs_257_ok h
      · cases h
    · have g := kCnd h; clear h; rcases g with ⟨hb, h⟩ | ⟨-, h⟩
      · obtain rfl := Nat.eq_of_beq_eq_true hb
        exact kCs_266_ok h
      · cases h
  · have g := kCnd h; clear h; rcases g with ⟨-, h⟩ | ⟨-, h⟩
    · have g := kCnd h; clear h; rcases g with ⟨hb, h⟩ | ⟨-, h⟩
      · obtain rfl := Nat.eq_of_beq_eq_true hb
        exact kCs_269_ok h
      · cases h
    · have g := kCnd h; clear h; rcases g with ⟨hb, h⟩ | ⟨-, h⟩
      · obtain rfl := Nat.eq_of_beq_eq_true hb
        exact kCs_270_ok h
      · cases h
theorem kCg_48_ok {mi pc : Nat} {c : kC} (h : c ∈ kCg_48 mi pc) : kOkc mi pc c := by
  unfold kCg_48 at h
  have g := kCnd h; clear h; rcases g with ⟨-, h⟩ | ⟨-, h⟩
  · have g := kCnd h; clear h; rcases g with ⟨-, h⟩ | ⟨-, h⟩
    · have g := kCnd h; clear h; rcases g with ⟨hb, h⟩ | ⟨-, h⟩
      · obtain rfl := Nat.eq_of_beq_eq_true hb
        exact kCs_249_ok h
      · cases h
    · have g := kCnd h; clear h; rcases g with ⟨-, h⟩ | ⟨-, h⟩
      · have g := kCnd h; clear h; rcases g with ⟨hb, h⟩ | ⟨-, h⟩
        · obtain rfl := Nat.eq_of_beq_eq_true hb
          exact kCs_250_ok h
        · cases h
      · have g := kCnd h; clear h; rcases g with ⟨hb, h⟩ | ⟨-, h⟩
        · obtain rfl := Nat.eq_of_beq_eq_true hb
          exact kCs_252_ok h
        · cases h
  · exact kCg_47_ok h
theorem kCg_49_ok {mi pc : Nat} {c : kC} (h : c ∈ kCg_49 mi pc) : kOkc mi pc c := by
  unfold kCg_49 at h
  have g := kCnd h; clear h; rcases g with ⟨-, h⟩ | ⟨-, h⟩
  · have g := kCnd h; clear h; rcases g with ⟨-, h⟩ | ⟨-, h⟩
    · have g := kCnd h; clear h; rcases g with ⟨hb, h⟩ | ⟨-, h⟩
      · obtain rfl := Nat.eq_of_beq_eq_true hb
        exact kCs_271_ok h
      · cases h
    · have g := kCnd h; clear h; rcases g with ⟨hb, h⟩ | ⟨-, h⟩
      · obtain rfl := Nat.eq_of_beq_eq_true hb
        exact kCs_272_ok h
      · cases h
  · have g := kCnd h; clear h; rcases g with ⟨-, h⟩ | ⟨-, h⟩
    · have g := kCnd h; clear h; rcases g with ⟨hb, h⟩ | ⟨-, h⟩
      · obtain rfl := Nat.eq_of_beq_eq_true hb
        exact kCs_273_ok h
      · cases h
    · have g := kCnd h; clear h; rcases g with ⟨hb, h⟩ | ⟨-, h⟩
      · obtain rfl := Nat.eq_of_beq_eq_true hb
        exact kCs_274_ok h
      · cases h
theorem kCg_50_ok {mi pc : Nat} {c : kC} (h : c ∈ kCg_50 mi pc) : kOkc mi pc c := by
  unfold kCg_50 at h
  have g := kCnd h; clear h; rcases g with ⟨-, h⟩ | ⟨-, h⟩
  · have g := kCnd h; clear h; rcases g with ⟨-, h⟩ | ⟨-, h⟩
    · have g := kCnd h; clear h; rcases g with ⟨hb, h⟩ | ⟨-, h⟩
      · obtain rfl := Nat.eq_of_beq_eq_true hb
        exact kCs_276_ok h
      · cases h
    · have g := kCnd h; clear h; rcases g with ⟨hb, h⟩ | ⟨-, h⟩
      · obtain rfl := Nat.eq_of_beq_eq_true hb
        exact kCs_278_ok h
      · cases h
  · have g := kCnd h; clear h; rcases g with ⟨-, h⟩ | ⟨-, h⟩
    · have g := kCnd h; clear h; rcases g with ⟨hb, h⟩ | ⟨-, h⟩
      · obtain rfl := Nat.eq_of_beq_eq_true hb
        exact kCs_279_ok h
      · cases h
    · have g := kCnd h; clear h; rcases g with ⟨hb, h⟩ | ⟨-, h⟩
      · obtain rfl := Nat.eq_of_beq_eq_true hb
        exact kCs_280_ok h
      · cases h
theorem kCg_51_ok {mi pc : Nat} {c : kC} (h : c ∈ kCg_51 mi pc) : kOkc mi pc c := by
  unfold kCg_51 at h
  have g := kCnd h; clear h; rcases g with ⟨-, h⟩ | ⟨-, h⟩
  · exact kCg_49_ok h
  · exact kCg_50_ok h
theorem kCg_52_ok {mi pc : Nat} {c : kC} (h : c ∈ kCg_52 mi pc) : kOkc mi pc c := by
  unfold kCg_52 at h
  have g := kCnd h; clear h; rcases g with ⟨-, h⟩ | ⟨-, h⟩
  · exact kCg_48_ok h
  · exact kCg_51_ok h
theorem kCg_53_ok {mi pc : Nat} {c : kC} (h : c ∈ kCg_53 mi pc) : kOkc mi pc c := by
  unfold kCg_53 at h
  have g := kCnd h; clear h; rcases g with ⟨-, h⟩ | ⟨-, h⟩
  · exact kCg_46_ok h
  · exact kCg_52_ok h
theorem kCg_54_ok {mi pc : Nat} {c : kC} (h : c ∈ kCg_54 mi pc) : kOkc mi pc c := by
  unfold kCg_54 at h
  have g := kCnd h; clear h; rcases g with ⟨-, h⟩ | ⟨-, h⟩
  · exact kCg_40_ok h
  · exact kCg_53_ok h
theorem kCg_55_ok {mi pc : Nat} {c : kC} (h : c ∈ kCg_55 mi pc) : kOkc mi pc c := by
  unfold kCg_55 at h
  have g := kCnd h; clear h; rcases g with ⟨-, h⟩ | ⟨-, h⟩
  · exact kCg_27_ok h
  · exact kCg_54_ok h
theorem kCS_ok {mi pc : Nat} {c : kC} (h : c ∈ kCS mi pc) : kOkc mi pc c := by
  unfold kCS at h
  exact kCg_55_ok h
theorem sRor_tab (ρ : List Int) (T : List Int32) : ∀ i, i < T.length → ∃ a z, (T.map fun v => sC v.toInt)[i]? = some a ∧ sEv ρ a = some z ∧ T.getD i 0 = Int32.ofInt z := by
  intro i hi
  refine ⟨sC T[i].toInt, T[i].toInt, ?_, sEv_C _, ?_⟩
  · rw [List.getElem?_map, List.getElem?_eq_getElem hi]; rfl
  · rw [List.getD_eq_getElem?_getD, List.getElem?_eq_getElem hi, Option.getD_some, Int32.ofInt_toInt]
theorem kRor (ρ : List Int) (L : Nat) (xs : Nat → Int32) : sRor ρ kSOx (eRO L xs) :=
  ⟨⟨Or.inr rfl, sRor_tab ρ eT_LEAST⟩, ⟨Or.inr rfl, sRor_tab ρ eT_MOST⟩, ⟨Or.inr rfl, sRor_tab ρ eT_ABOVE⟩, ⟨Or.inr rfl, sRor_tab ρ eT_OWN⟩, ⟨Or.inl rfl, fun i hi => absurd hi (Nat.not_lt_zero i)⟩, trivial⟩
theorem kSteps (L : Nat) (xs : Nat → Int32) : kStepOk (kGP (kUP (eRO L xs))) kSOx (eRO L xs) eCL eCT (kStep kSOx eCL eCT kUDf nKW nKC kKWL kLC nIC 4) := kStep_ok (kUP_frf _) (nKW_ok _) nKC_ok (kKWL_ok _) kLC_ok nIC_ok (kUP_len _) (kUP_se _) (by decide)
theorem kAllHold (L : Nat) (xs : Nat → Int32) {mi pc : Nat} {c : kC} (h : c ∈ kCS mi pc) (vs : List Int) : kHolds (kGP (kUP (eRO L xs))) (eRO L xs) eCL eCT eMTg 86 c vs :=
  kHold (kGP_fr (kUP_frf _)) (fun _ _ _ h => (kCS_ok h).1) (kSteps L xs) (kHKx_ok _) (kRor [] L xs) (fun _ _ _ h => ⟨100000, (kCS_ok h).2⟩) h vs
/-- the law's run, and its end -/
def eLaw (L : Nat) (xs : Nat → Int32) : Prop := ∃ (n : Nat) (Rf : eR), eRun (eRO L xs) eCL eCT eMTg n 1000 280 (0, [(0, .ref 4)], [], [], 0, 0) = some Rf ∧ Rf.2.2.1 = [.int 1] ∧ Rf.2.2.2.2.1 ≤ 600000 ∧ Rf.2.2.2.2.2 ≤ 7302249
theorem eLaw_all {L : Nat} (hL : L ≤ 3072) (xs : Nat → Int32) : eLaw L xs := by
  have h := kLawGo_ok
  unfold kLawGo at h
  split at h
  · rename_i outs hs
    have hM : sMo [(L : Int)] kLaw0.1.2.2.2.2.2.2 := by
      refine ⟨⟨rfl, fun i b z hb hz => ?_⟩, fun f hf => (by cases hf), fun f hf => (by cases hf), fun q hq => (by cases hq)⟩
      cases i with
      | zero => cases hb; cases hz; exact ⟨by simp only; omega, by simp only; omega⟩
      | succ i => cases hb
    have hD : kD (kGP (kUP (eRO L xs))) [(L : Int)] kLaw0 (0, [(0, .ref 4)], [], [], 0, 0) := by
      refine ⟨hM, ⟨rfl, ?_, trivial, trivial, rfl, rfl⟩, ?_⟩
      · intro i v hv
        have hv : sGetL [(0, ((2, sC 4) : sV))] i = some v := hv
        by_cases hi : 0 = i
        · subst hi
          rw [sGetL_hd] at hv
          cases hv
          exact ⟨.ref 4, rfl, rfl⟩
        · rw [sGetL_tl hi] at hv
          cases hv
      · intro q hq
        obtain rfl : q = (0, [sX 0]) := List.mem_singleton.mp hq
        have e0 : sEv [(L : Int)] (sX 0) = some (L : Int) := sEv_X rfl
        refine ⟨[(L : Int)], by simp only [sVal, e0], ?_⟩
        exact ⟨(L : Int), (L, xs), rfl, rfl, rfl⟩
    obtain ⟨K', hK', ρ', Rf, hp, ⟨n, hr⟩, hE, -⟩ := kRun_ok (kGP_fr (kUP_frf _)) (fun _ _ _ h => (kCS_ok h).1) (kSteps L xs) (kHKx_ok _) kLawX 100000 0 280 kLaw0 outs hs [(L : Int)] _ 1000 0 (kRor _ L xs) (sEv_C 1000) (sEv_C 0) (by decide) (fun mi pc c hc vs z _ => kAllHold L xs hc vs) hD
    have hf := List.all_eq_true.mp h K' hK'
    simp only [kFin, Bool.and_eq_true, decide_eq_true_eq] at hf
    obtain ⟨f1, f2, f3⟩ := hf
    obtain ⟨-, d3, -, ⟨d5, d6⟩, -⟩ := hE
    refine ⟨n, Rf, hr, ?_, by rw [d5]; exact f2, by rw [d6]; exact f3⟩
    rw [f1] at d3
    obtain ⟨pc, ls, stk, G, c, s⟩ := Rf
    simp only at d3 ⊢
    match stk, d3 with
    | [w], ⟨hw, _⟩ =>
      obtain ⟨z, hz, rfl⟩ : ∃ z, sEv ρ' (sC 1) = some z ∧ w = .int (Int32.ofInt z) := hw
      rw [sEv_C] at hz
      cases hz
      rfl
    | [], h => exact h.elim
    | _ :: _ :: _, ⟨_, h⟩ => exact h.elim
  · cases h
end
