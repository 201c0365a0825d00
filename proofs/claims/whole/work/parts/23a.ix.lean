/-- the words of indexOf stand in the tables -/
theorem xl_ixT : ∀ w ∈ xi_T, w ∈ xw_g := by
  intro w hw
  simp only [xi_T, List.mem_cons, List.not_mem_nil, or_false] at hw
  rcases hw with rfl | rfl | rfl | rfl | rfl | rfl | rfl | rfl | rfl | rfl | rfl | rfl | rfl | rfl | rfl | rfl | rfl | rfl | rfl | rfl | rfl | rfl | rfl | rfl | rfl | rfl | rfl | rfl | rfl | rfl | rfl | rfl | rfl | rfl | rfl | rfl | rfl | rfl | rfl | rfl
  · exact xw_1 16 rfl rfl
  · exact xw_1 17 rfl rfl
  · exact xw_1 18 rfl rfl
  · exact xw_2 95 rfl rfl
  · exact xw_2 96 rfl rfl
  · exact xw_2 97 rfl rfl
  · exact xw_2 98 rfl rfl
  · exact xw_2 99 rfl rfl
  · exact xw_2 100 rfl rfl
  · exact xw_2 101 rfl rfl
  · exact xw_2 102 rfl rfl
  · exact xw_2 103 rfl rfl
  · exact xw_2 104 rfl rfl
  · exact xw_2 105 rfl rfl
  · exact xw_2 108 rfl rfl
  · exact xw_2 109 rfl rfl
  · exact xw_2 110 rfl rfl
  · exact xw_2 111 rfl rfl
  · exact xw_2 112 rfl rfl
  · exact xw_2 113 rfl rfl
  · exact xw_2 114 rfl rfl
  · exact xw_2 115 rfl rfl
  · exact xw_2 116 rfl rfl
  · exact xw_2 117 rfl rfl
  · exact xw_2 118 rfl rfl
  · exact xw_2 119 rfl rfl
  · exact xw_2 120 rfl rfl
  · exact xw_2 121 rfl rfl
  · exact xw_2 128 rfl rfl
  · exact xw_2 129 rfl rfl
  · exact xw_2 130 rfl rfl
  · exact xw_2 122 rfl rfl
  · exact xw_2 123 rfl rfl
  · exact xw_2 124 rfl rfl
  · exact xw_2 125 rfl rfl
  · exact xw_2 126 rfl rfl
  · exact xw_2 127 rfl rfl
  · exact xw_2 106 rfl rfl
  · exact xw_6 44 rfl rfl
  · exact xw_6 45 rfl rfl
