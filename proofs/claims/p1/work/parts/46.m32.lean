theorem mw_0 : (Jvm.Cond.initialized "WardFallsLaw") ∈ lw_good := List.mem_filter.mpr ⟨List.mem_append_right _ (List.mem_append_left _ (List.mem_of_getElem? (i := 0) rfl)), rfl⟩
theorem mw_1013 : (Jvm.Cond.methodLink "WardFallsLaw" (83 : Nat) ({ cls := "WardFalls", name := "net", desc := "(IZ)Z" } : Jvm.MethodName)) ∈ lw_good := List.mem_filter.mpr ⟨List.mem_append_right _ (List.mem_append_right _ (List.mem_append_right _ (List.mem_append_right _ (List.mem_append_right _ (List.mem_append_left _ (List.mem_of_getElem? (i := 53) rfl)))))), rfl⟩
theorem mw_1014 : (Jvm.Cond.instanceMethod ({ cls := "WardFalls", name := "net", desc := "(IZ)Z" } : Jvm.MethodName)) ∈ lw_good := List.mem_filter.mpr ⟨List.mem_append_right _ (List.mem_append_right _ (List.mem_append_right _ (List.mem_append_right _ (List.mem_append_right _ (List.mem_append_left _ (List.mem_of_getElem? (i := 54) rfl)))))), rfl⟩
theorem mw_1015 : (Jvm.Cond.selects "WardFalls" ({ cls := "WardFalls", name := "net", desc := "(IZ)Z" } : Jvm.MethodName) ({ cls := "WardFalls", name := "net", desc := "(IZ)Z" } : Jvm.MethodName)) ∈ lw_good := List.mem_filter.mpr ⟨List.mem_append_right _ (List.mem_append_right _ (List.mem_append_right _ (List.mem_append_right _ (List.mem_append_right _ (List.mem_append_left _ (List.mem_of_getElem? (i := 55) rfl)))))), rfl⟩
theorem mw_1017 : (Jvm.Cond.methodLink "WardFallsLaw" (88 : Nat) ({ cls := "WardFalls", name := "lay", desc := "(II)Z" } : Jvm.MethodName)) ∈ lw_good := List.mem_filter.mpr ⟨List.mem_append_right _ (List.mem_append_right _ (List.mem_append_right _ (List.mem_append_right _ (List.mem_append_right _ (List.mem_append_left _ (List.mem_of_getElem? (i := 57) rfl)))))), rfl⟩
theorem mw_1018 : (Jvm.Cond.instanceMethod ({ cls := "WardFalls", name := "lay", desc := "(II)Z" } : Jvm.MethodName)) ∈ lw_good := List.mem_filter.mpr ⟨List.mem_append_right _ (List.mem_append_right _ (List.mem_append_right _ (List.mem_append_right _ (List.mem_append_right _ (List.mem_append_left _ (List.mem_of_getElem? (i := 58) rfl)))))), rfl⟩
theorem mw_1019 : (Jvm.Cond.selects "WardFalls" ({ cls := "WardFalls", name := "lay", desc := "(II)Z" } : Jvm.MethodName) ({ cls := "WardFalls", name := "lay", desc := "(II)Z" } : Jvm.MethodName)) ∈ lw_good := List.mem_filter.mpr ⟨List.mem_append_right _ (List.mem_append_right _ (List.mem_append_right _ (List.mem_append_right _ (List.mem_append_right _ (List.mem_append_left _ (List.mem_of_getElem? (i := 59) rfl)))))), rfl⟩
theorem mw_1022 : (Jvm.Cond.methodLink "WardFallsLaw" (92 : Nat) ({ cls := "WardFalls", name := "pour", desc := "(II)I" } : Jvm.MethodName)) ∈ lw_good := List.mem_filter.mpr ⟨List.mem_append_right _ (List.mem_append_right _ (List.mem_append_right _ (List.mem_append_right _ (List.mem_append_right _ (List.mem_append_left _ (List.mem_of_getElem? (i := 62) rfl)))))), rfl⟩
theorem mw_1023 : (Jvm.Cond.instanceMethod ({ cls := "WardFalls", name := "pour", desc := "(II)I" } : Jvm.MethodName)) ∈ lw_good := List.mem_filter.mpr ⟨List.mem_append_right _ (List.mem_append_right _ (List.mem_append_right _ (List.mem_append_right _ (List.mem_append_right _ (List.mem_append_left _ (List.mem_of_getElem? (i := 63) rfl)))))), rfl⟩
theorem mw_1024 : (Jvm.Cond.selects "WardFalls" ({ cls := "WardFalls", name := "pour", desc := "(II)I" } : Jvm.MethodName) ({ cls := "WardFalls", name := "pour", desc := "(II)I" } : Jvm.MethodName)) ∈ lw_good := List.mem_filter.mpr ⟨List.mem_append_right _ (List.mem_append_right _ (List.mem_append_right _ (List.mem_append_right _ (List.mem_append_right _ (List.mem_append_left _ (List.mem_of_getElem? (i := 64) rfl)))))), rfl⟩
theorem mw_1028 : (Jvm.Cond.methodLink "WardFallsLaw" (96 : Nat) ({ cls := "WardFalls", name := "drain", desc := "()I" } : Jvm.MethodName)) ∈ lw_good := List.mem_filter.mpr ⟨List.mem_append_right _ (List.mem_append_right _ (List.mem_append_right _ (List.mem_append_right _ (List.mem_append_right _ (List.mem_append_left _ (List.mem_of_getElem? (i := 68) rfl)))))), rfl⟩
theorem mw_1029 : (Jvm.Cond.instanceMethod ({ cls := "WardFalls", name := "drain", desc := "()I" } : Jvm.MethodName)) ∈ lw_good := List.mem_filter.mpr ⟨List.mem_append_right _ (List.mem_append_right _ (List.mem_append_right _ (List.mem_append_right _ (List.mem_append_right _ (List.mem_append_left _ (List.mem_of_getElem? (i := 69) rfl)))))), rfl⟩
theorem mw_1030 : (Jvm.Cond.selects "WardFalls" ({ cls := "WardFalls", name := "drain", desc := "()I" } : Jvm.MethodName) ({ cls := "WardFalls", name := "drain", desc := "()I" } : Jvm.MethodName)) ∈ lw_good := List.mem_filter.mpr ⟨List.mem_append_right _ (List.mem_append_right _ (List.mem_append_right _ (List.mem_append_right _ (List.mem_append_right _ (List.mem_append_left _ (List.mem_of_getElem? (i := 70) rfl)))))), rfl⟩
theorem mw_1033 : (Jvm.Cond.methodLink "WardFallsLaw" (100 : Nat) ({ cls := "WardFalls", name := "flood", desc := "(II)J" } : Jvm.MethodName)) ∈ lw_good := List.mem_filter.mpr ⟨List.mem_append_right _ (List.mem_append_right _ (List.mem_append_right _ (List.mem_append_right _ (List.mem_append_right _ (List.mem_append_left _ (List.mem_of_getElem? (i := 73) rfl)))))), rfl⟩
theorem mw_1034 : (Jvm.Cond.instanceMethod ({ cls := "WardFalls", name := "flood", desc := "(II)J" } : Jvm.MethodName)) ∈ lw_good := List.mem_filter.mpr ⟨List.mem_append_right _ (List.mem_append_right _ (List.mem_append_right _ (List.mem_append_right _ (List.mem_append_right _ (List.mem_append_left _ (List.mem_of_getElem? (i := 74) rfl)))))), rfl⟩
theorem mw_1035 : (Jvm.Cond.selects "WardFalls" ({ cls := "WardFalls", name := "flood", desc := "(II)J" } : Jvm.MethodName) ({ cls := "WardFalls", name := "flood", desc := "(II)J" } : Jvm.MethodName)) ∈ lw_good := List.mem_filter.mpr ⟨List.mem_append_right _ (List.mem_append_right _ (List.mem_append_right _ (List.mem_append_right _ (List.mem_append_right _ (List.mem_append_left _ (List.mem_of_getElem? (i := 75) rfl)))))), rfl⟩
theorem mw_1038 : (Jvm.Cond.methodLink "WardFallsLaw" (105 : Nat) ({ cls := "WardFalls", name := "walk", desc := "(II)I" } : Jvm.MethodName)) ∈ lw_good := List.mem_filter.mpr ⟨List.mem_append_right _ (List.mem_append_right _ (List.mem_append_right _ (List.mem_append_right _ (List.mem_append_right _ (List.mem_append_left _ (List.mem_of_getElem? (i := 78) rfl)))))), rfl⟩
theorem mw_1039 : (Jvm.Cond.instanceMethod ({ cls := "WardFalls", name := "walk", desc := "(II)I" } : Jvm.MethodName)) ∈ lw_good := List.mem_filter.mpr ⟨List.mem_append_right _ (List.mem_append_right _ (List.mem_append_right _ (List.mem_append_right _ (List.mem_append_right _ (List.mem_append_left _ (List.mem_of_getElem? (i := 79) rfl)))))), rfl⟩
theorem mw_1040 : (Jvm.Cond.selects "WardFalls" ({ cls := "WardFalls", name := "walk", desc := "(II)I" } : Jvm.MethodName) ({ cls := "WardFalls", name := "walk", desc := "(II)I" } : Jvm.MethodName)) ∈ lw_good := List.mem_filter.mpr ⟨List.mem_append_right _ (List.mem_append_right _ (List.mem_append_right _ (List.mem_append_right _ (List.mem_append_right _ (List.mem_append_left _ (List.mem_of_getElem? (i := 80) rfl)))))), rfl⟩
theorem mw_1080 : (Jvm.Cond.methodLink "WardFallsLaw" (109 : Nat) ({ cls := "WardFalls", name := "step", desc := "(III)I" } : Jvm.MethodName)) ∈ lw_good := List.mem_filter.mpr ⟨List.mem_append_right _ (List.mem_append_right _ (List.mem_append_right _ (List.mem_append_right _ (List.mem_append_right _ (List.mem_append_left _ (List.mem_of_getElem? (i := 120) rfl)))))), rfl⟩
theorem mw_1081 : (Jvm.Cond.instanceMethod ({ cls := "WardFalls", name := "step", desc := "(III)I" } : Jvm.MethodName)) ∈ lw_good := List.mem_filter.mpr ⟨List.mem_append_right _ (List.mem_append_right _ (List.mem_append_right _ (List.mem_append_right _ (List.mem_append_right _ (List.mem_append_left _ (List.mem_of_getElem? (i := 121) rfl)))))), rfl⟩
theorem mw_1082 : (Jvm.Cond.selects "WardFalls" ({ cls := "WardFalls", name := "step", desc := "(III)I" } : Jvm.MethodName) ({ cls := "WardFalls", name := "step", desc := "(III)I" } : Jvm.MethodName)) ∈ lw_good := List.mem_filter.mpr ⟨List.mem_append_right _ (List.mem_append_right _ (List.mem_append_right _ (List.mem_append_right _ (List.mem_append_right _ (List.mem_append_left _ (List.mem_of_getElem? (i := 122) rfl)))))), rfl⟩
theorem mw_1088 : (Jvm.Cond.methodLink "WardFallsLaw" (114 : Nat) ({ cls := "WardFalls", name := "push", desc := "(III)I" } : Jvm.MethodName)) ∈ lw_good := List.mem_filter.mpr ⟨List.mem_append_right _ (List.mem_append_right _ (List.mem_append_right _ (List.mem_append_right _ (List.mem_append_right _ (List.mem_append_left _ (List.mem_of_getElem? (i := 128) rfl)))))), rfl⟩
theorem mw_1089 : (Jvm.Cond.instanceMethod ({ cls := "WardFalls", name := "push", desc := "(III)I" } : Jvm.MethodName)) ∈ lw_good := List.mem_filter.mpr ⟨List.mem_append_right _ (List.mem_append_right _ (List.mem_append_right _ (List.mem_append_right _ (List.mem_append_right _ (List.mem_append_left _ (List.mem_of_getElem? (i := 129) rfl)))))), rfl⟩
theorem mw_1090 : (Jvm.Cond.selects "WardFalls" ({ cls := "WardFalls", name := "push", desc := "(III)I" } : Jvm.MethodName) ({ cls := "WardFalls", name := "push", desc := "(III)I" } : Jvm.MethodName)) ∈ lw_good := List.mem_filter.mpr ⟨List.mem_append_right _ (List.mem_append_right _ (List.mem_append_right _ (List.mem_append_right _ (List.mem_append_right _ (List.mem_append_left _ (List.mem_of_getElem? (i := 130) rfl)))))), rfl⟩
theorem mw_1104 : (Jvm.Cond.methodLink "WardFallsLaw" (118 : Nat) ({ cls := "WardFalls", name := "pushed", desc := "(III)I" } : Jvm.MethodName)) ∈ lw_good := List.mem_filter.mpr ⟨List.mem_append_right _ (List.mem_append_right _ (List.mem_append_right _ (List.mem_append_right _ (List.mem_append_right _ (List.mem_append_left _ (List.mem_of_getElem? (i := 144) rfl)))))), rfl⟩
theorem mw_1105 : (Jvm.Cond.instanceMethod ({ cls := "WardFalls", name := "pushed", desc := "(III)I" } : Jvm.MethodName)) ∈ lw_good := List.mem_filter.mpr ⟨List.mem_append_right _ (List.mem_append_right _ (List.mem_append_right _ (List.mem_append_right _ (List.mem_append_right _ (List.mem_append_left _ (List.mem_of_getElem? (i := 145) rfl)))))), rfl⟩
theorem mw_1106 : (Jvm.Cond.selects "WardFalls" ({ cls := "WardFalls", name := "pushed", desc := "(III)I" } : Jvm.MethodName) ({ cls := "WardFalls", name := "pushed", desc := "(III)I" } : Jvm.MethodName)) ∈ lw_good := List.mem_filter.mpr ⟨List.mem_append_right _ (List.mem_append_right _ (List.mem_append_right _ (List.mem_append_right _ (List.mem_append_right _ (List.mem_append_left _ (List.mem_of_getElem? (i := 146) rfl)))))), rfl⟩
theorem mw_1108 : (Jvm.Cond.methodLink "WardFallsLaw" (122 : Nat) ({ cls := "WardFalls", name := "war", desc := "(II)I" } : Jvm.MethodName)) ∈ lw_good := List.mem_filter.mpr ⟨List.mem_append_right _ (List.mem_append_right _ (List.mem_append_right _ (List.mem_append_right _ (List.mem_append_right _ (List.mem_append_left _ (List.mem_of_getElem? (i := 148) rfl)))))), rfl⟩
theorem mw_1109 : (Jvm.Cond.instanceMethod ({ cls := "WardFalls", name := "war", desc := "(II)I" } : Jvm.MethodName)) ∈ lw_good := List.mem_filter.mpr ⟨List.mem_append_right _ (List.mem_append_right _ (List.mem_append_right _ (List.mem_append_right _ (List.mem_append_right _ (List.mem_append_left _ (List.mem_of_getElem? (i := 149) rfl)))))), rfl⟩
theorem mw_1110 : (Jvm.Cond.selects "WardFalls" ({ cls := "WardFalls", name := "war", desc := "(II)I" } : Jvm.MethodName) ({ cls := "WardFalls", name := "war", desc := "(II)I" } : Jvm.MethodName)) ∈ lw_good := List.mem_filter.mpr ⟨List.mem_append_right _ (List.mem_append_right _ (List.mem_append_right _ (List.mem_append_right _ (List.mem_append_right _ (List.mem_append_left _ (List.mem_of_getElem? (i := 150) rfl)))))), rfl⟩
theorem mw_1118 : (Jvm.Cond.methodLink "WardFallsLaw" (126 : Nat) ({ cls := "WardFalls", name := "nets", desc := "()J" } : Jvm.MethodName)) ∈ lw_good := List.mem_filter.mpr ⟨List.mem_append_right _ (List.mem_append_right _ (List.mem_append_right _ (List.mem_append_right _ (List.mem_append_right _ (List.mem_append_left _ (List.mem_of_getElem? (i := 158) rfl)))))), rfl⟩
theorem mw_1119 : (Jvm.Cond.instanceMethod ({ cls := "WardFalls", name := "nets", desc := "()J" } : Jvm.MethodName)) ∈ lw_good := List.mem_filter.mpr ⟨List.mem_append_right _ (List.mem_append_right _ (List.mem_append_right _ (List.mem_append_right _ (List.mem_append_right _ (List.mem_append_left _ (List.mem_of_getElem? (i := 159) rfl)))))), rfl⟩
theorem mw_1120 : (Jvm.Cond.selects "WardFalls" ({ cls := "WardFalls", name := "nets", desc := "()J" } : Jvm.MethodName) ({ cls := "WardFalls", name := "nets", desc := "()J" } : Jvm.MethodName)) ∈ lw_good := List.mem_filter.mpr ⟨List.mem_append_right _ (List.mem_append_right _ (List.mem_append_right _ (List.mem_append_right _ (List.mem_append_right _ (List.mem_append_left _ (List.mem_of_getElem? (i := 160) rfl)))))), rfl⟩
theorem mw_1124 : (Jvm.Cond.methodLink "WardFallsLaw" (131 : Nat) ({ cls := "WardFalls", name := "clock", desc := "(I)I" } : Jvm.MethodName)) ∈ lw_good := List.mem_filter.mpr ⟨List.mem_append_right _ (List.mem_append_right _ (List.mem_append_right _ (List.mem_append_right _ (List.mem_append_right _ (List.mem_append_left _ (List.mem_of_getElem? (i := 164) rfl)))))), rfl⟩
theorem mw_1125 : (Jvm.Cond.instanceMethod ({ cls := "WardFalls", name := "clock", desc := "(I)I" } : Jvm.MethodName)) ∈ lw_good := List.mem_filter.mpr ⟨List.mem_append_right _ (List.mem_append_right _ (List.mem_append_right _ (List.mem_append_right _ (List.mem_append_right _ (List.mem_append_left _ (List.mem_of_getElem? (i := 165) rfl)))))), rfl⟩
theorem mw_1126 : (Jvm.Cond.selects "WardFalls" ({ cls := "WardFalls", name := "clock", desc := "(I)I" } : Jvm.MethodName) ({ cls := "WardFalls", name := "clock", desc := "(I)I" } : Jvm.MethodName)) ∈ lw_good := List.mem_filter.mpr ⟨List.mem_append_right _ (List.mem_append_right _ (List.mem_append_right _ (List.mem_append_right _ (List.mem_append_right _ (List.mem_append_left _ (List.mem_of_getElem? (i := 166) rfl)))))), rfl⟩
theorem mw_1137 : (Jvm.Cond.methodLink "WardFallsLaw" (135 : Nat) ({ cls := "WardFalls", name := "stays", desc := "()I" } : Jvm.MethodName)) ∈ lw_good := List.mem_filter.mpr ⟨List.mem_append_right _ (List.mem_append_right _ (List.mem_append_right _ (List.mem_append_right _ (List.mem_append_right _ (List.mem_append_left _ (List.mem_of_getElem? (i := 177) rfl)))))), rfl⟩
theorem mw_1138 : (Jvm.Cond.instanceMethod ({ cls := "WardFalls", name := "stays", desc := "()I" } : Jvm.MethodName)) ∈ lw_good := List.mem_filter.mpr ⟨List.mem_append_right _ (List.mem_append_right _ (List.mem_append_right _ (List.mem_append_right _ (List.mem_append_right _ (List.mem_append_left _ (List.mem_of_getElem? (i := 178) rfl)))))), rfl⟩
theorem mw_1139 : (Jvm.Cond.selects "WardFalls" ({ cls := "WardFalls", name := "stays", desc := "()I" } : Jvm.MethodName) ({ cls := "WardFalls", name := "stays", desc := "()I" } : Jvm.MethodName)) ∈ lw_good := List.mem_filter.mpr ⟨List.mem_append_right _ (List.mem_append_right _ (List.mem_append_right _ (List.mem_append_right _ (List.mem_append_right _ (List.mem_append_left _ (List.mem_of_getElem? (i := 179) rfl)))))), rfl⟩
theorem mw_1160 : (Jvm.Cond.methodLink "WardFallsLaw" (139 : Nat) ({ cls := "WardFalls", name := "stay", desc := "(I)I" } : Jvm.MethodName)) ∈ lw_good := List.mem_filter.mpr ⟨List.mem_append_right _ (List.mem_append_right _ (List.mem_append_right _ (List.mem_append_right _ (List.mem_append_right _ (List.mem_append_left _ (List.mem_of_getElem? (i := 200) rfl)))))), rfl⟩
theorem mw_1161 : (Jvm.Cond.instanceMethod ({ cls := "WardFalls", name := "stay", desc := "(I)I" } : Jvm.MethodName)) ∈ lw_good := List.mem_filter.mpr ⟨List.mem_append_right _ (List.mem_append_right _ (List.mem_append_right _ (List.mem_append_right _ (List.mem_append_right _ (List.mem_append_left _ (List.mem_of_getElem? (i := 201) rfl)))))), rfl⟩
theorem mw_1162 : (Jvm.Cond.selects "WardFalls" ({ cls := "WardFalls", name := "stay", desc := "(I)I" } : Jvm.MethodName) ({ cls := "WardFalls", name := "stay", desc := "(I)I" } : Jvm.MethodName)) ∈ lw_good := List.mem_filter.mpr ⟨List.mem_append_right _ (List.mem_append_right _ (List.mem_append_right _ (List.mem_append_right _ (List.mem_append_right _ (List.mem_append_left _ (List.mem_of_getElem? (i := 202) rfl)))))), rfl⟩
theorem mw_1164 : (Jvm.Cond.methodLink "WardFallsLaw" (143 : Nat) ({ cls := "WardFalls", name := "treaty", desc := "(I)I" } : Jvm.MethodName)) ∈ lw_good := List.mem_filter.mpr ⟨List.mem_append_right _ (List.mem_append_right _ (List.mem_append_right _ (List.mem_append_right _ (List.mem_append_right _ (List.mem_append_left _ (List.mem_of_getElem? (i := 204) rfl)))))), rfl⟩
theorem mw_1165 : (Jvm.Cond.instanceMethod ({ cls := "WardFalls", name := "treaty", desc := "(I)I" } : Jvm.MethodName)) ∈ lw_good := List.mem_filter.mpr ⟨List.mem_append_right _ (List.mem_append_right _ (List.mem_append_right _ (List.mem_append_right _ (List.mem_append_right _ (List.mem_append_left _ (List.mem_of_getElem? (i := 205) rfl)))))), rfl⟩
theorem mw_1166 : (Jvm.Cond.selects "WardFalls" ({ cls := "WardFalls", name := "treaty", desc := "(I)I" } : Jvm.MethodName) ({ cls := "WardFalls", name := "treaty", desc := "(I)I" } : Jvm.MethodName)) ∈ lw_good := List.mem_filter.mpr ⟨List.mem_append_right _ (List.mem_append_right _ (List.mem_append_right _ (List.mem_append_right _ (List.mem_append_right _ (List.mem_append_left _ (List.mem_of_getElem? (i := 206) rfl)))))), rfl⟩
theorem mw_1173 : (Jvm.Cond.methodLink "WardFallsLaw" (147 : Nat) ({ cls := "WardFalls", name := "moves", desc := "(II)I" } : Jvm.MethodName)) ∈ lw_good := List.mem_filter.mpr ⟨List.mem_append_right _ (List.mem_append_right _ (List.mem_append_right _ (List.mem_append_right _ (List.mem_append_right _ (List.mem_append_left _ (List.mem_of_getElem? (i := 213) rfl)))))), rfl⟩
theorem mw_1174 : (Jvm.Cond.instanceMethod ({ cls := "WardFalls", name := "moves", desc := "(II)I" } : Jvm.MethodName)) ∈ lw_good := List.mem_filter.mpr ⟨List.mem_append_right _ (List.mem_append_right _ (List.mem_append_right _ (List.mem_append_right _ (List.mem_append_right _ (List.mem_append_left _ (List.mem_of_getElem? (i := 214) rfl)))))), rfl⟩
theorem mw_1175 : (Jvm.Cond.selects "WardFalls" ({ cls := "WardFalls", name := "moves", desc := "(II)I" } : Jvm.MethodName) ({ cls := "WardFalls", name := "moves", desc := "(II)I" } : Jvm.MethodName)) ∈ lw_good := List.mem_filter.mpr ⟨List.mem_append_right _ (List.mem_append_right _ (List.mem_append_right _ (List.mem_append_right _ (List.mem_append_right _ (List.mem_append_left _ (List.mem_of_getElem? (i := 215) rfl)))))), rfl⟩
theorem mw_1178 : (Jvm.Cond.methodLink "WardFallsLaw" (151 : Nat) ({ cls := "WardFalls", name := "note", desc := "(II)I" } : Jvm.MethodName)) ∈ lw_good := List.mem_filter.mpr ⟨List.mem_append_right _ (List.mem_append_right _ (List.mem_append_right _ (List.mem_append_right _ (List.mem_append_right _ (List.mem_append_left _ (List.mem_of_getElem? (i := 218) rfl)))))), rfl⟩
theorem mw_1179 : (Jvm.Cond.instanceMethod ({ cls := "WardFalls", name := "note", desc := "(II)I" } : Jvm.MethodName)) ∈ lw_good := List.mem_filter.mpr ⟨List.mem_append_right _ (List.mem_append_right _ (List.mem_append_right _ (List.mem_append_right _ (List.mem_append_right _ (List.mem_append_left _ (List.mem_of_getElem? (i := 219) rfl)))))), rfl⟩
theorem mw_1180 : (Jvm.Cond.selects "WardFalls" ({ cls := "WardFalls", name := "note", desc := "(II)I" } : Jvm.MethodName) ({ cls := "WardFalls", name := "note", desc := "(II)I" } : Jvm.MethodName)) ∈ lw_good := List.mem_filter.mpr ⟨List.mem_append_right _ (List.mem_append_right _ (List.mem_append_right _ (List.mem_append_right _ (List.mem_append_right _ (List.mem_append_left _ (List.mem_of_getElem? (i := 220) rfl)))))), rfl⟩
theorem mw_1187 : (Jvm.Cond.methodLink "WardFallsLaw" (155 : Nat) ({ cls := "WardFalls", name := "strike", desc := "(I)I" } : Jvm.MethodName)) ∈ lw_good := List.mem_filter.mpr ⟨List.mem_append_right _ (List.mem_append_right _ (List.mem_append_right _ (List.mem_append_right _ (List.mem_append_right _ (List.mem_append_left _ (List.mem_of_getElem? (i := 227) rfl)))))), rfl⟩
theorem mw_1188 : (Jvm.Cond.instanceMethod ({ cls := "WardFalls", name := "strike", desc := "(I)I" } : Jvm.MethodName)) ∈ lw_good := List.mem_filter.mpr ⟨List.mem_append_right _ (List.mem_append_right _ (List.mem_append_right _ (List.mem_append_right _ (List.mem_append_right _ (List.mem_append_left _ (List.mem_of_getElem? (i := 228) rfl)))))), rfl⟩
theorem mw_1189 : (Jvm.Cond.selects "WardFalls" ({ cls := "WardFalls", name := "strike", desc := "(I)I" } : Jvm.MethodName) ({ cls := "WardFalls", name := "strike", desc := "(I)I" } : Jvm.MethodName)) ∈ lw_good := List.mem_filter.mpr ⟨List.mem_append_right _ (List.mem_append_right _ (List.mem_append_right _ (List.mem_append_right _ (List.mem_append_right _ (List.mem_append_left _ (List.mem_of_getElem? (i := 229) rfl)))))), rfl⟩
theorem mw_1191 : (Jvm.Cond.methodLink "WardFallsLaw" (159 : Nat) ({ cls := "WardFalls", name := "known", desc := "(I)Z" } : Jvm.MethodName)) ∈ lw_good := List.mem_filter.mpr ⟨List.mem_append_right _ (List.mem_append_right _ (List.mem_append_right _ (List.mem_append_right _ (List.mem_append_right _ (List.mem_append_left _ (List.mem_of_getElem? (i := 231) rfl)))))), rfl⟩
theorem mw_1192 : (Jvm.Cond.instanceMethod ({ cls := "WardFalls", name := "known", desc := "(I)Z" } : Jvm.MethodName)) ∈ lw_good := List.mem_filter.mpr ⟨List.mem_append_right _ (List.mem_append_right _ (List.mem_append_right _ (List.mem_append_right _ (List.mem_append_right _ (List.mem_append_left _ (List.mem_of_getElem? (i := 232) rfl)))))), rfl⟩
theorem mw_1193 : (Jvm.Cond.selects "WardFalls" ({ cls := "WardFalls", name := "known", desc := "(I)Z" } : Jvm.MethodName) ({ cls := "WardFalls", name := "known", desc := "(I)Z" } : Jvm.MethodName)) ∈ lw_good := List.mem_filter.mpr ⟨List.mem_append_right _ (List.mem_append_right _ (List.mem_append_right _ (List.mem_append_right _ (List.mem_append_right _ (List.mem_append_left _ (List.mem_of_getElem? (i := 233) rfl)))))), rfl⟩
theorem mw_1195 : (Jvm.Cond.methodLink "WardFallsLaw" (164 : Nat) ({ cls := "WardFalls", name := "fits", desc := "()I" } : Jvm.MethodName)) ∈ lw_good := List.mem_filter.mpr ⟨List.mem_append_right _ (List.mem_append_right _ (List.mem_append_right _ (List.mem_append_right _ (List.mem_append_right _ (List.mem_append_left _ (List.mem_of_getElem? (i := 235) rfl)))))), rfl⟩
theorem mw_1196 : (Jvm.Cond.instanceMethod ({ cls := "WardFalls", name := "fits", desc := "()I" } : Jvm.MethodName)) ∈ lw_good := List.mem_filter.mpr ⟨List.mem_append_right _ (List.mem_append_right _ (List.mem_append_right _ (List.mem_append_right _ (List.mem_append_right _ (List.mem_append_left _ (List.mem_of_getElem? (i := 236) rfl)))))), rfl⟩
theorem mw_1197 : (Jvm.Cond.selects "WardFalls" ({ cls := "WardFalls", name := "fits", desc := "()I" } : Jvm.MethodName) ({ cls := "WardFalls", name := "fits", desc := "()I" } : Jvm.MethodName)) ∈ lw_good := List.mem_filter.mpr ⟨List.mem_append_right _ (List.mem_append_right _ (List.mem_append_right _ (List.mem_append_right _ (List.mem_append_right _ (List.mem_append_left _ (List.mem_of_getElem? (i := 237) rfl)))))), rfl⟩
theorem mw_1224 : (Jvm.Cond.methodLink "WardFallsLaw" (168 : Nat) ({ cls := "WardFalls", name := "may", desc := "(I)I" } : Jvm.MethodName)) ∈ lw_good := List.mem_filter.mpr ⟨List.mem_append_right _ (List.mem_append_right _ (List.mem_append_right _ (List.mem_append_right _ (List.mem_append_right _ (List.mem_append_right _ (List.mem_append_left _ (List.mem_of_getElem? (i := 24) rfl))))))), rfl⟩
theorem mw_1225 : (Jvm.Cond.instanceMethod ({ cls := "WardFalls", name := "may", desc := "(I)I" } : Jvm.MethodName)) ∈ lw_good := List.mem_filter.mpr ⟨List.mem_append_right _ (List.mem_append_right _ (List.mem_append_right _ (List.mem_append_right _ (List.mem_append_right _ (List.mem_append_right _ (List.mem_append_left _ (List.mem_of_getElem? (i := 25) rfl))))))), rfl⟩
theorem mw_1226 : (Jvm.Cond.selects "WardFalls" ({ cls := "WardFalls", name := "may", desc := "(I)I" } : Jvm.MethodName) ({ cls := "WardFalls", name := "may", desc := "(I)I" } : Jvm.MethodName)) ∈ lw_good := List.mem_filter.mpr ⟨List.mem_append_right _ (List.mem_append_right _ (List.mem_append_right _ (List.mem_append_right _ (List.mem_append_right _ (List.mem_append_right _ (List.mem_append_left _ (List.mem_of_getElem? (i := 26) rfl))))))), rfl⟩
theorem mw_1228 : (Jvm.Cond.methodLink "WardFallsLaw" (172 : Nat) ({ cls := "WardFalls", name := "years", desc := "(I)I" } : Jvm.MethodName)) ∈ lw_good := List.mem_filter.mpr ⟨List.mem_append_right _ (List.mem_append_right _ (List.mem_append_right _ (List.mem_append_right _ (List.mem_append_right _ (List.mem_append_right _ (List.mem_append_left _ (List.mem_of_getElem? (i := 28) rfl))))))), rfl⟩
theorem mw_1229 : (Jvm.Cond.instanceMethod ({ cls := "WardFalls", name := "years", desc := "(I)I" } : Jvm.MethodName)) ∈ lw_good := List.mem_filter.mpr ⟨List.mem_append_right _ (List.mem_append_right _ (List.mem_append_right _ (List.mem_append_right _ (List.mem_append_right _ (List.mem_append_right _ (List.mem_append_left _ (List.mem_of_getElem? (i := 29) rfl))))))), rfl⟩
theorem mw_1230 : (Jvm.Cond.selects "WardFalls" ({ cls := "WardFalls", name := "years", desc := "(I)I" } : Jvm.MethodName) ({ cls := "WardFalls", name := "years", desc := "(I)I" } : Jvm.MethodName)) ∈ lw_good := List.mem_filter.mpr ⟨List.mem_append_right _ (List.mem_append_right _ (List.mem_append_right _ (List.mem_append_right _ (List.mem_append_right _ (List.mem_append_right _ (List.mem_append_left _ (List.mem_of_getElem? (i := 30) rfl))))))), rfl⟩
theorem mw_1246 : (Jvm.Cond.methodLink "WardFallsLaw" (176 : Nat) ({ cls := "WardFalls", name := "voted", desc := "(II)I" } : Jvm.MethodName)) ∈ lw_good := List.mem_filter.mpr ⟨List.mem_append_right _ (List.mem_append_right _ (List.mem_append_right _ (List.mem_append_right _ (List.mem_append_right _ (List.mem_append_right _ (List.mem_append_left _ (List.mem_of_getElem? (i := 46) rfl))))))), rfl⟩
theorem mw_1247 : (Jvm.Cond.instanceMethod ({ cls := "WardFalls", name := "voted", desc := "(II)I" } : Jvm.MethodName)) ∈ lw_good := List.mem_filter.mpr ⟨List.mem_append_right _ (List.mem_append_right _ (List.mem_append_right _ (List.mem_append_right _ (List.mem_append_right _ (List.mem_append_right _ (List.mem_append_left _ (List.mem_of_getElem? (i := 47) rfl))))))), rfl⟩
theorem mw_1248 : (Jvm.Cond.selects "WardFalls" ({ cls := "WardFalls", name := "voted", desc := "(II)I" } : Jvm.MethodName) ({ cls := "WardFalls", name := "voted", desc := "(II)I" } : Jvm.MethodName)) ∈ lw_good := List.mem_filter.mpr ⟨List.mem_append_right _ (List.mem_append_right _ (List.mem_append_right _ (List.mem_append_right _ (List.mem_append_right _ (List.mem_append_right _ (List.mem_append_left _ (List.mem_of_getElem? (i := 48) rfl))))))), rfl⟩
theorem mw_1250 : (Jvm.Cond.methodLink "WardFallsLaw" (180 : Nat) ({ cls := "WardFalls", name := "tried", desc := "(III)I" } : Jvm.MethodName)) ∈ lw_good := List.mem_filter.mpr ⟨List.mem_append_right _ (List.mem_append_right _ (List.mem_append_right _ (List.mem_append_right _ (List.mem_append_right _ (List.mem_append_right _ (List.mem_append_left _ (List.mem_of_getElem? (i := 50) rfl))))))), rfl⟩
theorem mw_1251 : (Jvm.Cond.instanceMethod ({ cls := "WardFalls", name := "tried", desc := "(III)I" } : Jvm.MethodName)) ∈ lw_good := List.mem_filter.mpr ⟨List.mem_append_right _ (List.mem_append_right _ (List.mem_append_right _ (List.mem_append_right _ (List.mem_append_right _ (List.mem_append_right _ (List.mem_append_left _ (List.mem_of_getElem? (i := 51) rfl))))))), rfl⟩
theorem mw_1252 : (Jvm.Cond.selects "WardFalls" ({ cls := "WardFalls", name := "tried", desc := "(III)I" } : Jvm.MethodName) ({ cls := "WardFalls", name := "tried", desc := "(III)I" } : Jvm.MethodName)) ∈ lw_good := List.mem_filter.mpr ⟨List.mem_append_right _ (List.mem_append_right _ (List.mem_append_right _ (List.mem_append_right _ (List.mem_append_right _ (List.mem_append_right _ (List.mem_append_left _ (List.mem_of_getElem? (i := 52) rfl))))))), rfl⟩
theorem mw_1258 : (Jvm.Cond.methodLink "WardFallsLaw" (184 : Nat) ({ cls := "WardFalls", name := "undo", desc := "()I" } : Jvm.MethodName)) ∈ lw_good := List.mem_filter.mpr ⟨List.mem_append_right _ (List.mem_append_right _ (List.mem_append_right _ (List.mem_append_right _ (List.mem_append_right _ (List.mem_append_right _ (List.mem_append_left _ (List.mem_of_getElem? (i := 58) rfl))))))), rfl⟩
theorem mw_1259 : (Jvm.Cond.instanceMethod ({ cls := "WardFalls", name := "undo", desc := "()I" } : Jvm.MethodName)) ∈ lw_good := List.mem_filter.mpr ⟨List.mem_append_right _ (List.mem_append_right _ (List.mem_append_right _ (List.mem_append_right _ (List.mem_append_right _ (List.mem_append_right _ (List.mem_append_left _ (List.mem_of_getElem? (i := 59) rfl))))))), rfl⟩
theorem mw_1260 : (Jvm.Cond.selects "WardFalls" ({ cls := "WardFalls", name := "undo", desc := "()I" } : Jvm.MethodName) ({ cls := "WardFalls", name := "undo", desc := "()I" } : Jvm.MethodName)) ∈ lw_good := List.mem_filter.mpr ⟨List.mem_append_right _ (List.mem_append_right _ (List.mem_append_right _ (List.mem_append_right _ (List.mem_append_right _ (List.mem_append_right _ (List.mem_append_left _ (List.mem_of_getElem? (i := 60) rfl))))))), rfl⟩
theorem mw_1266 : (Jvm.Cond.methodLink "WardFallsLaw" (188 : Nat) ({ cls := "WardFalls", name := "keep", desc := "()I" } : Jvm.MethodName)) ∈ lw_good := List.mem_filter.mpr ⟨List.mem_append_right _ (List.mem_append_right _ (List.mem_append_right _ (List.mem_append_right _ (List.mem_append_right _ (List.mem_append_right _ (List.mem_append_left _ (List.mem_of_getElem? (i := 66) rfl))))))), rfl⟩
theorem mw_1267 : (Jvm.Cond.instanceMethod ({ cls := "WardFalls", name := "keep", desc := "()I" } : Jvm.MethodName)) ∈ lw_good := List.mem_filter.mpr ⟨List.mem_append_right _ (List.mem_append_right _ (List.mem_append_right _ (List.mem_append_right _ (List.mem_append_right _ (List.mem_append_right _ (List.mem_append_left _ (List.mem_of_getElem? (i := 67) rfl))))))), rfl⟩
theorem mw_1268 : (Jvm.Cond.selects "WardFalls" ({ cls := "WardFalls", name := "keep", desc := "()I" } : Jvm.MethodName) ({ cls := "WardFalls", name := "keep", desc := "()I" } : Jvm.MethodName)) ∈ lw_good := List.mem_filter.mpr ⟨List.mem_append_right _ (List.mem_append_right _ (List.mem_append_right _ (List.mem_append_right _ (List.mem_append_right _ (List.mem_append_right _ (List.mem_append_left _ (List.mem_of_getElem? (i := 68) rfl))))))), rfl⟩
theorem mw_1275 : (Jvm.Cond.methodLink "WardFallsLaw" (192 : Nat) ({ cls := "WardFalls", name := "back", desc := "()I" } : Jvm.MethodName)) ∈ lw_good := List.mem_filter.mpr ⟨List.mem_append_right _ (List.mem_append_right _ (List.mem_append_right _ (List.mem_append_right _ (List.mem_append_right _ (List.mem_append_right _ (List.mem_append_left _ (List.mem_of_getElem? (i := 75) rfl))))))), rfl⟩
theorem mw_1276 : (Jvm.Cond.instanceMethod ({ cls := "WardFalls", name := "back", desc := "()I" } : Jvm.MethodName)) ∈ lw_good := List.mem_filter.mpr ⟨List.mem_append_right _ (List.mem_append_right _ (List.mem_append_right _ (List.mem_append_right _ (List.mem_append_right _ (List.mem_append_right _ (List.mem_append_left _ (List.mem_of_getElem? (i := 76) rfl))))))), rfl⟩
theorem mw_1277 : (Jvm.Cond.selects "WardFalls" ({ cls := "WardFalls", name := "back", desc := "()I" } : Jvm.MethodName) ({ cls := "WardFalls", name := "back", desc := "()I" } : Jvm.MethodName)) ∈ lw_good := List.mem_filter.mpr ⟨List.mem_append_right _ (List.mem_append_right _ (List.mem_append_right _ (List.mem_append_right _ (List.mem_append_right _ (List.mem_append_right _ (List.mem_append_left _ (List.mem_of_getElem? (i := 77) rfl))))))), rfl⟩
theorem mw_1279 : (Jvm.Cond.methodLink "WardFallsLaw" (196 : Nat) ({ cls := "WardFalls", name := "count", desc := "(I)I" } : Jvm.MethodName)) ∈ lw_good := List.mem_filter.mpr ⟨List.mem_append_right _ (List.mem_append_right _ (List.mem_append_right _ (List.mem_append_right _ (List.mem_append_right _ (List.mem_append_right _ (List.mem_append_left _ (List.mem_of_getElem? (i := 79) rfl))))))), rfl⟩
theorem mw_1280 : (Jvm.Cond.instanceMethod ({ cls := "WardFalls", name := "count", desc := "(I)I" } : Jvm.MethodName)) ∈ lw_good := List.mem_filter.mpr ⟨List.mem_append_right _ (List.mem_append_right _ (List.mem_append_right _ (List.mem_append_right _ (List.mem_append_right _ (List.mem_append_right _ (List.mem_append_left _ (List.mem_of_getElem? (i := 80) rfl))))))), rfl⟩
theorem mw_1281 : (Jvm.Cond.selects "WardFalls" ({ cls := "WardFalls", name := "count", desc := "(I)I" } : Jvm.MethodName) ({ cls := "WardFalls", name := "count", desc := "(I)I" } : Jvm.MethodName)) ∈ lw_good := List.mem_filter.mpr ⟨List.mem_append_right _ (List.mem_append_right _ (List.mem_append_right _ (List.mem_append_right _ (List.mem_append_right _ (List.mem_append_right _ (List.mem_append_left _ (List.mem_of_getElem? (i := 81) rfl))))))), rfl⟩
theorem mw_1288 : (Jvm.Cond.methodLink "WardFallsLaw" (39 : Nat) ({ cls := "WardFallsLaw", name := "cell", desc := "(LWardFalls;II[J)I" } : Jvm.MethodName)) ∈ lw_good := List.mem_filter.mpr ⟨List.mem_append_right _ (List.mem_append_right _ (List.mem_append_right _ (List.mem_append_right _ (List.mem_append_right _ (List.mem_append_right _ (List.mem_append_left _ (List.mem_of_getElem? (i := 88) rfl))))))), rfl⟩
theorem mw_1289 : (Jvm.Cond.static ({ cls := "WardFallsLaw", name := "cell", desc := "(LWardFalls;II[J)I" } : Jvm.MethodName)) ∈ lw_good := List.mem_filter.mpr ⟨List.mem_append_right _ (List.mem_append_right _ (List.mem_append_right _ (List.mem_append_right _ (List.mem_append_right _ (List.mem_append_right _ (List.mem_append_left _ (List.mem_of_getElem? (i := 89) rfl))))))), rfl⟩
theorem mw_1290 : (Jvm.Cond.codeWith ({ cls := "WardFallsLaw", name := "cell", desc := "(LWardFalls;II[J)I" } : Jvm.MethodName) method_3_code (5 : Nat) (Option.some Jvm.ClassFile.FieldType.int) [((0 : Nat), (10 : Nat), (13 : Nat), (13 : Nat)), ((0 : Nat), (10 : Nat), (17 : Nat), (15 : Nat))]) ∈ lw_good := List.mem_filter.mpr ⟨List.mem_append_right _ (List.mem_append_right _ (List.mem_append_right _ (List.mem_append_right _ (List.mem_append_right _ (List.mem_append_right _ (List.mem_append_left _ (List.mem_of_getElem? (i := 90) rfl))))))), rfl⟩
theorem mw_1595 : (Jvm.Cond.methodLink "WardFallsLaw" (45 : Nat) ({ cls := "WardFallsModel", name := "thrown", desc := "()I" } : Jvm.MethodName)) ∈ lw_good := List.mem_filter.mpr ⟨List.mem_append_right _ (List.mem_append_right _ (List.mem_append_right _ (List.mem_append_right _ (List.mem_append_right _ (List.mem_append_right _ (List.mem_append_right _ (List.mem_append_left _ (List.mem_of_getElem? (i := 155) rfl)))))))), rfl⟩
theorem mw_1596 : (Jvm.Cond.instanceMethod ({ cls := "WardFallsModel", name := "thrown", desc := "()I" } : Jvm.MethodName)) ∈ lw_good := List.mem_filter.mpr ⟨List.mem_append_right _ (List.mem_append_right _ (List.mem_append_right _ (List.mem_append_right _ (List.mem_append_right _ (List.mem_append_right _ (List.mem_append_right _ (List.mem_append_left _ (List.mem_of_getElem? (i := 156) rfl)))))))), rfl⟩
theorem mw_1597 : (Jvm.Cond.selects "WardFallsModel" ({ cls := "WardFallsModel", name := "thrown", desc := "()I" } : Jvm.MethodName) ({ cls := "WardFallsModel", name := "thrown", desc := "()I" } : Jvm.MethodName)) ∈ lw_good := List.mem_filter.mpr ⟨List.mem_append_right _ (List.mem_append_right _ (List.mem_append_right _ (List.mem_append_right _ (List.mem_append_right _ (List.mem_append_right _ (List.mem_append_right _ (List.mem_append_left _ (List.mem_of_getElem? (i := 157) rfl)))))))), rfl⟩
theorem mw_1599 : (Jvm.Cond.methodLink "WardFallsLaw" (25 : Nat) ({ cls := "WardFallsModel", name := "feed", desc := "(IIIII)I" } : Jvm.MethodName)) ∈ lw_good := List.mem_filter.mpr ⟨List.mem_append_right _ (List.mem_append_right _ (List.mem_append_right _ (List.mem_append_right _ (List.mem_append_right _ (List.mem_append_right _ (List.mem_append_right _ (List.mem_append_left _ (List.mem_of_getElem? (i := 159) rfl)))))))), rfl⟩
theorem mw_1600 : (Jvm.Cond.instanceMethod ({ cls := "WardFallsModel", name := "feed", desc := "(IIIII)I" } : Jvm.MethodName)) ∈ lw_good := List.mem_filter.mpr ⟨List.mem_append_right _ (List.mem_append_right _ (List.mem_append_right _ (List.mem_append_right _ (List.mem_append_right _ (List.mem_append_right _ (List.mem_append_right _ (List.mem_append_left _ (List.mem_of_getElem? (i := 160) rfl)))))))), rfl⟩
theorem mw_1601 : (Jvm.Cond.selects "WardFallsModel" ({ cls := "WardFallsModel", name := "feed", desc := "(IIIII)I" } : Jvm.MethodName) ({ cls := "WardFallsModel", name := "feed", desc := "(IIIII)I" } : Jvm.MethodName)) ∈ lw_good := List.mem_filter.mpr ⟨List.mem_append_right _ (List.mem_append_right _ (List.mem_append_right _ (List.mem_append_right _ (List.mem_append_right _ (List.mem_append_right _ (List.mem_append_right _ (List.mem_append_left _ (List.mem_of_getElem? (i := 161) rfl)))))))), rfl⟩
theorem mw_1603 : (Jvm.Cond.methodLink "WardFallsLaw" (30 : Nat) ({ cls := "WardFallsModel", name := "text", desc := "(I)I" } : Jvm.MethodName)) ∈ lw_good := List.mem_filter.mpr ⟨List.mem_append_right _ (List.mem_append_right _ (List.mem_append_right _ (List.mem_append_right _ (List.mem_append_right _ (List.mem_append_right _ (List.mem_append_right _ (List.mem_append_left _ (List.mem_of_getElem? (i := 163) rfl)))))))), rfl⟩
theorem mw_1604 : (Jvm.Cond.instanceMethod ({ cls := "WardFallsModel", name := "text", desc := "(I)I" } : Jvm.MethodName)) ∈ lw_good := List.mem_filter.mpr ⟨List.mem_append_right _ (List.mem_append_right _ (List.mem_append_right _ (List.mem_append_right _ (List.mem_append_right _ (List.mem_append_right _ (List.mem_append_right _ (List.mem_append_left _ (List.mem_of_getElem? (i := 164) rfl)))))))), rfl⟩
theorem mw_1605 : (Jvm.Cond.selects "WardFallsModel" ({ cls := "WardFallsModel", name := "text", desc := "(I)I" } : Jvm.MethodName) ({ cls := "WardFallsModel", name := "text", desc := "(I)I" } : Jvm.MethodName)) ∈ lw_good := List.mem_filter.mpr ⟨List.mem_append_right _ (List.mem_append_right _ (List.mem_append_right _ (List.mem_append_right _ (List.mem_append_right _ (List.mem_append_right _ (List.mem_append_right _ (List.mem_append_left _ (List.mem_of_getElem? (i := 165) rfl)))))))), rfl⟩
theorem mw_1755 : (Jvm.Cond.methodLink "WardFallsLaw" (34 : Nat) ({ cls := "WardFallsModel", name := "fault", desc := "(I)I" } : Jvm.MethodName)) ∈ lw_good := List.mem_filter.mpr ⟨List.mem_append_right _ (List.mem_append_right _ (List.mem_append_right _ (List.mem_append_right _ (List.mem_append_right _ (List.mem_append_right _ (List.mem_append_right _ (List.mem_append_right _ (List.mem_append_left _ (List.mem_of_getElem? (i := 75) rfl))))))))), rfl⟩
theorem mw_1756 : (Jvm.Cond.instanceMethod ({ cls := "WardFallsModel", name := "fault", desc := "(I)I" } : Jvm.MethodName)) ∈ lw_good := List.mem_filter.mpr ⟨List.mem_append_right _ (List.mem_append_right _ (List.mem_append_right _ (List.mem_append_right _ (List.mem_append_right _ (List.mem_append_right _ (List.mem_append_right _ (List.mem_append_right _ (List.mem_append_left _ (List.mem_of_getElem? (i := 76) rfl))))))))), rfl⟩
theorem mw_1757 : (Jvm.Cond.selects "WardFallsModel" ({ cls := "WardFallsModel", name := "fault", desc := "(I)I" } : Jvm.MethodName) ({ cls := "WardFallsModel", name := "fault", desc := "(I)I" } : Jvm.MethodName)) ∈ lw_good := List.mem_filter.mpr ⟨List.mem_append_right _ (List.mem_append_right _ (List.mem_append_right _ (List.mem_append_right _ (List.mem_append_right _ (List.mem_append_right _ (List.mem_append_right _ (List.mem_append_right _ (List.mem_append_left _ (List.mem_of_getElem? (i := 77) rfl))))))))), rfl⟩
theorem mw_1759 : (Jvm.Cond.methodLink "WardFallsLaw" (38 : Nat) ({ cls := "WardFallsModel", name := "named", desc := "(II)I" } : Jvm.MethodName)) ∈ lw_good := List.mem_filter.mpr ⟨List.mem_append_right _ (List.mem_append_right _ (List.mem_append_right _ (List.mem_append_right _ (List.mem_append_right _ (List.mem_append_right _ (List.mem_append_right _ (List.mem_append_right _ (List.mem_append_left _ (List.mem_of_getElem? (i := 79) rfl))))))))), rfl⟩
theorem mw_1760 : (Jvm.Cond.instanceMethod ({ cls := "WardFallsModel", name := "named", desc := "(II)I" } : Jvm.MethodName)) ∈ lw_good := List.mem_filter.mpr ⟨List.mem_append_right _ (List.mem_append_right _ (List.mem_append_right _ (List.mem_append_right _ (List.mem_append_right _ (List.mem_append_right _ (List.mem_append_right _ (List.mem_append_right _ (List.mem_append_left _ (List.mem_of_getElem? (i := 80) rfl))))))))), rfl⟩
theorem mw_1761 : (Jvm.Cond.selects "WardFallsModel" ({ cls := "WardFallsModel", name := "named", desc := "(II)I" } : Jvm.MethodName) ({ cls := "WardFallsModel", name := "named", desc := "(II)I" } : Jvm.MethodName)) ∈ lw_good := List.mem_filter.mpr ⟨List.mem_append_right _ (List.mem_append_right _ (List.mem_append_right _ (List.mem_append_right _ (List.mem_append_right _ (List.mem_append_right _ (List.mem_append_right _ (List.mem_append_right _ (List.mem_append_left _ (List.mem_of_getElem? (i := 81) rfl))))))))), rfl⟩
theorem mw_1763 : (Jvm.Cond.methodLink "WardFallsLaw" (44 : Nat) ({ cls := "WardFallsModel", name := "cell", desc := "(II)I" } : Jvm.MethodName)) ∈ lw_good := List.mem_filter.mpr ⟨List.mem_append_right _ (List.mem_append_right _ (List.mem_append_right _ (List.mem_append_right _ (List.mem_append_right _ (List.mem_append_right _ (List.mem_append_right _ (List.mem_append_right _ (List.mem_append_left _ (List.mem_of_getElem? (i := 83) rfl))))))))), rfl⟩
theorem mw_1764 : (Jvm.Cond.instanceMethod ({ cls := "WardFallsModel", name := "cell", desc := "(II)I" } : Jvm.MethodName)) ∈ lw_good := List.mem_filter.mpr ⟨List.mem_append_right _ (List.mem_append_right _ (List.mem_append_right _ (List.mem_append_right _ (List.mem_append_right _ (List.mem_append_right _ (List.mem_append_right _ (List.mem_append_right _ (List.mem_append_left _ (List.mem_of_getElem? (i := 84) rfl))))))))), rfl⟩
theorem mw_1765 : (Jvm.Cond.selects "WardFallsModel" ({ cls := "WardFallsModel", name := "cell", desc := "(II)I" } : Jvm.MethodName) ({ cls := "WardFallsModel", name := "cell", desc := "(II)I" } : Jvm.MethodName)) ∈ lw_good := List.mem_filter.mpr ⟨List.mem_append_right _ (List.mem_append_right _ (List.mem_append_right _ (List.mem_append_right _ (List.mem_append_right _ (List.mem_append_right _ (List.mem_append_right _ (List.mem_append_right _ (List.mem_append_left _ (List.mem_of_getElem? (i := 85) rfl))))))))), rfl⟩
theorem mw_1795 : (Jvm.Cond.methodLink "WardFallsLaw" (52 : Nat) ({ cls := "WardFallsModel", name := "ward", desc := "(II)I" } : Jvm.MethodName)) ∈ lw_good := List.mem_filter.mpr ⟨List.mem_append_right _ (List.mem_append_right _ (List.mem_append_right _ (List.mem_append_right _ (List.mem_append_right _ (List.mem_append_right _ (List.mem_append_right _ (List.mem_append_right _ (List.mem_append_left _ (List.mem_of_getElem? (i := 115) rfl))))))))), rfl⟩
theorem mw_1796 : (Jvm.Cond.instanceMethod ({ cls := "WardFallsModel", name := "ward", desc := "(II)I" } : Jvm.MethodName)) ∈ lw_good := List.mem_filter.mpr ⟨List.mem_append_right _ (List.mem_append_right _ (List.mem_append_right _ (List.mem_append_right _ (List.mem_append_right _ (List.mem_append_right _ (List.mem_append_right _ (List.mem_append_right _ (List.mem_append_left _ (List.mem_of_getElem? (i := 116) rfl))))))))), rfl⟩
theorem mw_1797 : (Jvm.Cond.selects "WardFallsModel" ({ cls := "WardFallsModel", name := "ward", desc := "(II)I" } : Jvm.MethodName) ({ cls := "WardFallsModel", name := "ward", desc := "(II)I" } : Jvm.MethodName)) ∈ lw_good := List.mem_filter.mpr ⟨List.mem_append_right _ (List.mem_append_right _ (List.mem_append_right _ (List.mem_append_right _ (List.mem_append_right _ (List.mem_append_right _ (List.mem_append_right _ (List.mem_append_right _ (List.mem_append_left _ (List.mem_of_getElem? (i := 117) rfl))))))))), rfl⟩
theorem mw_1847 : (Jvm.Cond.methodLink "WardFallsLaw" (56 : Nat) ({ cls := "WardFallsModel", name := "thing", desc := "(II)I" } : Jvm.MethodName)) ∈ lw_good := List.mem_filter.mpr ⟨List.mem_append_right _ (List.mem_append_right _ (List.mem_append_right _ (List.mem_append_right _ (List.mem_append_right _ (List.mem_append_right _ (List.mem_append_right _ (List.mem_append_right _ (List.mem_append_left _ (List.mem_of_getElem? (i := 167) rfl))))))))), rfl⟩
theorem mw_1848 : (Jvm.Cond.instanceMethod ({ cls := "WardFallsModel", name := "thing", desc := "(II)I" } : Jvm.MethodName)) ∈ lw_good := List.mem_filter.mpr ⟨List.mem_append_right _ (List.mem_append_right _ (List.mem_append_right _ (List.mem_append_right _ (List.mem_append_right _ (List.mem_append_right _ (List.mem_append_right _ (List.mem_append_right _ (List.mem_append_left _ (List.mem_of_getElem? (i := 168) rfl))))))))), rfl⟩
theorem mw_1849 : (Jvm.Cond.selects "WardFallsModel" ({ cls := "WardFallsModel", name := "thing", desc := "(II)I" } : Jvm.MethodName) ({ cls := "WardFallsModel", name := "thing", desc := "(II)I" } : Jvm.MethodName)) ∈ lw_good := List.mem_filter.mpr ⟨List.mem_append_right _ (List.mem_append_right _ (List.mem_append_right _ (List.mem_append_right _ (List.mem_append_right _ (List.mem_append_right _ (List.mem_append_right _ (List.mem_append_right _ (List.mem_append_left _ (List.mem_of_getElem? (i := 169) rfl))))))))), rfl⟩
theorem mw_1855 : (Jvm.Cond.methodLink "WardFallsLaw" (61 : Nat) ({ cls := "WardFallsModel", name := "law", desc := "(III)J" } : Jvm.MethodName)) ∈ lw_good := List.mem_filter.mpr ⟨List.mem_append_right _ (List.mem_append_right _ (List.mem_append_right _ (List.mem_append_right _ (List.mem_append_right _ (List.mem_append_right _ (List.mem_append_right _ (List.mem_append_right _ (List.mem_append_left _ (List.mem_of_getElem? (i := 175) rfl))))))))), rfl⟩
theorem mw_1856 : (Jvm.Cond.instanceMethod ({ cls := "WardFallsModel", name := "law", desc := "(III)J" } : Jvm.MethodName)) ∈ lw_good := List.mem_filter.mpr ⟨List.mem_append_right _ (List.mem_append_right _ (List.mem_append_right _ (List.mem_append_right _ (List.mem_append_right _ (List.mem_append_right _ (List.mem_append_right _ (List.mem_append_right _ (List.mem_append_left _ (List.mem_of_getElem? (i := 176) rfl))))))))), rfl⟩
theorem mw_1857 : (Jvm.Cond.selects "WardFallsModel" ({ cls := "WardFallsModel", name := "law", desc := "(III)J" } : Jvm.MethodName) ({ cls := "WardFallsModel", name := "law", desc := "(III)J" } : Jvm.MethodName)) ∈ lw_good := List.mem_filter.mpr ⟨List.mem_append_right _ (List.mem_append_right _ (List.mem_append_right _ (List.mem_append_right _ (List.mem_append_right _ (List.mem_append_right _ (List.mem_append_right _ (List.mem_append_right _ (List.mem_append_left _ (List.mem_of_getElem? (i := 177) rfl))))))))), rfl⟩
theorem mw_1868 : (Jvm.Cond.methodLink "WardFallsLaw" (65 : Nat) ({ cls := "WardFallsModel", name := "rest", desc := "(I)I" } : Jvm.MethodName)) ∈ lw_good := List.mem_filter.mpr ⟨List.mem_append_right _ (List.mem_append_right _ (List.mem_append_right _ (List.mem_append_right _ (List.mem_append_right _ (List.mem_append_right _ (List.mem_append_right _ (List.mem_append_right _ (List.mem_append_left _ (List.mem_of_getElem? (i := 188) rfl))))))))), rfl⟩
theorem mw_1869 : (Jvm.Cond.instanceMethod ({ cls := "WardFallsModel", name := "rest", desc := "(I)I" } : Jvm.MethodName)) ∈ lw_good := List.mem_filter.mpr ⟨List.mem_append_right _ (List.mem_append_right _ (List.mem_append_right _ (List.mem_append_right _ (List.mem_append_right _ (List.mem_append_right _ (List.mem_append_right _ (List.mem_append_right _ (List.mem_append_left _ (List.mem_of_getElem? (i := 189) rfl))))))))), rfl⟩
theorem mw_1870 : (Jvm.Cond.selects "WardFallsModel" ({ cls := "WardFallsModel", name := "rest", desc := "(I)I" } : Jvm.MethodName) ({ cls := "WardFallsModel", name := "rest", desc := "(I)I" } : Jvm.MethodName)) ∈ lw_good := List.mem_filter.mpr ⟨List.mem_append_right _ (List.mem_append_right _ (List.mem_append_right _ (List.mem_append_right _ (List.mem_append_right _ (List.mem_append_right _ (List.mem_append_right _ (List.mem_append_right _ (List.mem_append_left _ (List.mem_of_getElem? (i := 190) rfl))))))))), rfl⟩
theorem mw_1872 : (Jvm.Cond.methodLink "WardFallsLaw" (69 : Nat) ({ cls := "WardFallsModel", name := "way", desc := "(II)I" } : Jvm.MethodName)) ∈ lw_good := List.mem_filter.mpr ⟨List.mem_append_right _ (List.mem_append_right _ (List.mem_append_right _ (List.mem_append_right _ (List.mem_append_right _ (List.mem_append_right _ (List.mem_append_right _ (List.mem_append_right _ (List.mem_append_left _ (List.mem_of_getElem? (i := 192) rfl))))))))), rfl⟩
theorem mw_1873 : (Jvm.Cond.instanceMethod ({ cls := "WardFallsModel", name := "way", desc := "(II)I" } : Jvm.MethodName)) ∈ lw_good := List.mem_filter.mpr ⟨List.mem_append_right _ (List.mem_append_right _ (List.mem_append_right _ (List.mem_append_right _ (List.mem_append_right _ (List.mem_append_right _ (List.mem_append_right _ (List.mem_append_right _ (List.mem_append_left _ (List.mem_of_getElem? (i := 193) rfl))))))))), rfl⟩
theorem mw_1874 : (Jvm.Cond.selects "WardFallsModel" ({ cls := "WardFallsModel", name := "way", desc := "(II)I" } : Jvm.MethodName) ({ cls := "WardFallsModel", name := "way", desc := "(II)I" } : Jvm.MethodName)) ∈ lw_good := List.mem_filter.mpr ⟨List.mem_append_right _ (List.mem_append_right _ (List.mem_append_right _ (List.mem_append_right _ (List.mem_append_right _ (List.mem_append_right _ (List.mem_append_right _ (List.mem_append_right _ (List.mem_append_left _ (List.mem_of_getElem? (i := 194) rfl))))))))), rfl⟩
theorem mw_1876 : (Jvm.Cond.methodLink "WardFallsLaw" (73 : Nat) ({ cls := "WardFallsModel", name := "falls", desc := "(II)I" } : Jvm.MethodName)) ∈ lw_good := List.mem_filter.mpr ⟨List.mem_append_right _ (List.mem_append_right _ (List.mem_append_right _ (List.mem_append_right _ (List.mem_append_right _ (List.mem_append_right _ (List.mem_append_right _ (List.mem_append_right _ (List.mem_append_left _ (List.mem_of_getElem? (i := 196) rfl))))))))), rfl⟩
theorem mw_1877 : (Jvm.Cond.instanceMethod ({ cls := "WardFallsModel", name := "falls", desc := "(II)I" } : Jvm.MethodName)) ∈ lw_good := List.mem_filter.mpr ⟨List.mem_append_right _ (List.mem_append_right _ (List.mem_append_right _ (List.mem_append_right _ (List.mem_append_right _ (List.mem_append_right _ (List.mem_append_right _ (List.mem_append_right _ (List.mem_append_left _ (List.mem_of_getElem? (i := 197) rfl))))))))), rfl⟩
theorem mw_1878 : (Jvm.Cond.selects "WardFallsModel" ({ cls := "WardFallsModel", name := "falls", desc := "(II)I" } : Jvm.MethodName) ({ cls := "WardFallsModel", name := "falls", desc := "(II)I" } : Jvm.MethodName)) ∈ lw_good := List.mem_filter.mpr ⟨List.mem_append_right _ (List.mem_append_right _ (List.mem_append_right _ (List.mem_append_right _ (List.mem_append_right _ (List.mem_append_right _ (List.mem_append_right _ (List.mem_append_right _ (List.mem_append_left _ (List.mem_of_getElem? (i := 198) rfl))))))))), rfl⟩
theorem mw_1880 : (Jvm.Cond.methodLink "WardFallsLaw" (77 : Nat) ({ cls := "WardFallsModel", name := "beats", desc := "(I)I" } : Jvm.MethodName)) ∈ lw_good := List.mem_filter.mpr ⟨List.mem_append_right _ (List.mem_append_right _ (List.mem_append_right _ (List.mem_append_right _ (List.mem_append_right _ (List.mem_append_right _ (List.mem_append_right _ (List.mem_append_right _ (List.mem_append_left _ (List.mem_of_getElem? (i := 200) rfl))))))))), rfl⟩
theorem mw_1881 : (Jvm.Cond.instanceMethod ({ cls := "WardFallsModel", name := "beats", desc := "(I)I" } : Jvm.MethodName)) ∈ lw_good := List.mem_filter.mpr ⟨List.mem_append_right _ (List.mem_append_right _ (List.mem_append_right _ (List.mem_append_right _ (List.mem_append_right _ (List.mem_append_right _ (List.mem_append_right _ (List.mem_append_right _ (List.mem_append_left _ (List.mem_of_getElem? (i := 201) rfl))))))))), rfl⟩
theorem mw_1882 : (Jvm.Cond.selects "WardFallsModel" ({ cls := "WardFallsModel", name := "beats", desc := "(I)I" } : Jvm.MethodName) ({ cls := "WardFallsModel", name := "beats", desc := "(I)I" } : Jvm.MethodName)) ∈ lw_good := List.mem_filter.mpr ⟨List.mem_append_right _ (List.mem_append_right _ (List.mem_append_right _ (List.mem_append_right _ (List.mem_append_right _ (List.mem_append_right _ (List.mem_append_right _ (List.mem_append_right _ (List.mem_append_left _ (List.mem_of_getElem? (i := 202) rfl))))))))), rfl⟩
theorem mw_1888 : (Jvm.Cond.methodLink "WardFallsLaw" (82 : Nat) ({ cls := "WardFallsModel", name := "vote", desc := "(II)Z" } : Jvm.MethodName)) ∈ lw_good := List.mem_filter.mpr ⟨List.mem_append_right _ (List.mem_append_right _ (List.mem_append_right _ (List.mem_append_right _ (List.mem_append_right _ (List.mem_append_right _ (List.mem_append_right _ (List.mem_append_right _ (List.mem_append_left _ (List.mem_of_getElem? (i := 208) rfl))))))))), rfl⟩
theorem mw_1889 : (Jvm.Cond.instanceMethod ({ cls := "WardFallsModel", name := "vote", desc := "(II)Z" } : Jvm.MethodName)) ∈ lw_good := List.mem_filter.mpr ⟨List.mem_append_right _ (List.mem_append_right _ (List.mem_append_right _ (List.mem_append_right _ (List.mem_append_right _ (List.mem_append_right _ (List.mem_append_right _ (List.mem_append_right _ (List.mem_append_left _ (List.mem_of_getElem? (i := 209) rfl))))))))), rfl⟩
theorem mw_1890 : (Jvm.Cond.selects "WardFallsModel" ({ cls := "WardFallsModel", name := "vote", desc := "(II)Z" } : Jvm.MethodName) ({ cls := "WardFallsModel", name := "vote", desc := "(II)Z" } : Jvm.MethodName)) ∈ lw_good := List.mem_filter.mpr ⟨List.mem_append_right _ (List.mem_append_right _ (List.mem_append_right _ (List.mem_append_right _ (List.mem_append_right _ (List.mem_append_right _ (List.mem_append_right _ (List.mem_append_right _ (List.mem_append_left _ (List.mem_of_getElem? (i := 210) rfl))))))))), rfl⟩
theorem mw_1911 : (Jvm.Cond.methodLink "WardFallsLaw" (87 : Nat) ({ cls := "WardFallsModel", name := "net", desc := "(IZ)Z" } : Jvm.MethodName)) ∈ lw_good := List.mem_filter.mpr ⟨List.mem_append_right _ (List.mem_append_right _ (List.mem_append_right _ (List.mem_append_right _ (List.mem_append_right _ (List.mem_append_right _ (List.mem_append_right _ (List.mem_append_right _ (List.mem_append_left _ (List.mem_of_getElem? (i := 231) rfl))))))))), rfl⟩
theorem mw_1912 : (Jvm.Cond.instanceMethod ({ cls := "WardFallsModel", name := "net", desc := "(IZ)Z" } : Jvm.MethodName)) ∈ lw_good := List.mem_filter.mpr ⟨List.mem_append_right _ (List.mem_append_right _ (List.mem_append_right _ (List.mem_append_right _ (List.mem_append_right _ (List.mem_append_right _ (List.mem_append_right _ (List.mem_append_right _ (List.mem_append_left _ (List.mem_of_getElem? (i := 232) rfl))))))))), rfl⟩
theorem mw_1913 : (Jvm.Cond.selects "WardFallsModel" ({ cls := "WardFallsModel", name := "net", desc := "(IZ)Z" } : Jvm.MethodName) ({ cls := "WardFallsModel", name := "net", desc := "(IZ)Z" } : Jvm.MethodName)) ∈ lw_good := List.mem_filter.mpr ⟨List.mem_append_right _ (List.mem_append_right _ (List.mem_append_right _ (List.mem_append_right _ (List.mem_append_right _ (List.mem_append_right _ (List.mem_append_right _ (List.mem_append_right _ (List.mem_append_left _ (List.mem_of_getElem? (i := 233) rfl))))))))), rfl⟩
theorem mw_1915 : (Jvm.Cond.methodLink "WardFallsLaw" (91 : Nat) ({ cls := "WardFallsModel", name := "lay", desc := "(II)Z" } : Jvm.MethodName)) ∈ lw_good := List.mem_filter.mpr ⟨List.mem_append_right _ (List.mem_append_right _ (List.mem_append_right _ (List.mem_append_right _ (List.mem_append_right _ (List.mem_append_right _ (List.mem_append_right _ (List.mem_append_right _ (List.mem_append_left _ (List.mem_of_getElem? (i := 235) rfl))))))))), rfl⟩
theorem mw_1916 : (Jvm.Cond.instanceMethod ({ cls := "WardFallsModel", name := "lay", desc := "(II)Z" } : Jvm.MethodName)) ∈ lw_good := List.mem_filter.mpr ⟨List.mem_append_right _ (List.mem_append_right _ (List.mem_append_right _ (List.mem_append_right _ (List.mem_append_right _ (List.mem_append_right _ (List.mem_append_right _ (List.mem_append_right _ (List.mem_append_left _ (List.mem_of_getElem? (i := 236) rfl))))))))), rfl⟩
theorem mw_1917 : (Jvm.Cond.selects "WardFallsModel" ({ cls := "WardFallsModel", name := "lay", desc := "(II)Z" } : Jvm.MethodName) ({ cls := "WardFallsModel", name := "lay", desc := "(II)Z" } : Jvm.MethodName)) ∈ lw_good := List.mem_filter.mpr ⟨List.mem_append_right _ (List.mem_append_right _ (List.mem_append_right _ (List.mem_append_right _ (List.mem_append_right _ (List.mem_append_right _ (List.mem_append_right _ (List.mem_append_right _ (List.mem_append_left _ (List.mem_of_getElem? (i := 237) rfl))))))))), rfl⟩
theorem mw_1919 : (Jvm.Cond.methodLink "WardFallsLaw" (95 : Nat) ({ cls := "WardFallsModel", name := "pour", desc := "(II)I" } : Jvm.MethodName)) ∈ lw_good := List.mem_filter.mpr ⟨List.mem_append_right _ (List.mem_append_right _ (List.mem_append_right _ (List.mem_append_right _ (List.mem_append_right _ (List.mem_append_right _ (List.mem_append_right _ (List.mem_append_right _ (List.mem_append_left _ (List.mem_of_getElem? (i := 239) rfl))))))))), rfl⟩
theorem mw_1920 : (Jvm.Cond.instanceMethod ({ cls := "WardFallsModel", name := "pour", desc := "(II)I" } : Jvm.MethodName)) ∈ lw_good := List.mem_filter.mpr ⟨List.mem_append_right _ (List.mem_append_right _ (List.mem_append_right _ (List.mem_append_right _ (List.mem_append_right _ (List.mem_append_right _ (List.mem_append_right _ (List.mem_append_right _ (List.mem_append_right _ (List.mem_of_getElem? (i := 0) rfl))))))))), rfl⟩
theorem mw_1921 : (Jvm.Cond.selects "WardFallsModel" ({ cls := "WardFallsModel", name := "pour", desc := "(II)I" } : Jvm.MethodName) ({ cls := "WardFallsModel", name := "pour", desc := "(II)I" } : Jvm.MethodName)) ∈ lw_good := List.mem_filter.mpr ⟨List.mem_append_right _ (List.mem_append_right _ (List.mem_append_right _ (List.mem_append_right _ (List.mem_append_right _ (List.mem_append_right _ (List.mem_append_right _ (List.mem_append_right _ (List.mem_append_right _ (List.mem_of_getElem? (i := 1) rfl))))))))), rfl⟩
theorem mw_1923 : (Jvm.Cond.methodLink "WardFallsLaw" (99 : Nat) ({ cls := "WardFallsModel", name := "drain", desc := "()I" } : Jvm.MethodName)) ∈ lw_good := List.mem_filter.mpr ⟨List.mem_append_right _ (List.mem_append_right _ (List.mem_append_right _ (List.mem_append_right _ (List.mem_append_right _ (List.mem_append_right _ (List.mem_append_right _ (List.mem_append_right _ (List.mem_append_right _ (List.mem_of_getElem? (i := 3) rfl))))))))), rfl⟩
theorem mw_1924 : (Jvm.Cond.instanceMethod ({ cls := "WardFallsModel", name := "drain", desc := "()I" } : Jvm.MethodName)) ∈ lw_good := List.mem_filter.mpr ⟨List.mem_append_right _ (List.mem_append_right _ (List.mem_append_right _ (List.mem_append_right _ (List.mem_append_right _ (List.mem_append_right _ (List.mem_append_right _ (List.mem_append_right _ (List.mem_append_right _ (List.mem_of_getElem? (i := 4) rfl))))))))), rfl⟩
theorem mw_1925 : (Jvm.Cond.selects "WardFallsModel" ({ cls := "WardFallsModel", name := "drain", desc := "()I" } : Jvm.MethodName) ({ cls := "WardFallsModel", name := "drain", desc := "()I" } : Jvm.MethodName)) ∈ lw_good := List.mem_filter.mpr ⟨List.mem_append_right _ (List.mem_append_right _ (List.mem_append_right _ (List.mem_append_right _ (List.mem_append_right _ (List.mem_append_right _ (List.mem_append_right _ (List.mem_append_right _ (List.mem_append_right _ (List.mem_of_getElem? (i := 5) rfl))))))))), rfl⟩
theorem mw_1930 : (Jvm.Cond.methodLink "WardFallsLaw" (104 : Nat) ({ cls := "WardFallsModel", name := "flood", desc := "(II)J" } : Jvm.MethodName)) ∈ lw_good := List.mem_filter.mpr ⟨List.mem_append_right _ (List.mem_append_right _ (List.mem_append_right _ (List.mem_append_right _ (List.mem_append_right _ (List.mem_append_right _ (List.mem_append_right _ (List.mem_append_right _ (List.mem_append_right _ (List.mem_of_getElem? (i := 10) rfl))))))))), rfl⟩
theorem mw_1931 : (Jvm.Cond.instanceMethod ({ cls := "WardFallsModel", name := "flood", desc := "(II)J" } : Jvm.MethodName)) ∈ lw_good := List.mem_filter.mpr ⟨List.mem_append_right _ (List.mem_append_right _ (List.mem_append_right _ (List.mem_append_right _ (List.mem_append_right _ (List.mem_append_right _ (List.mem_append_right _ (List.mem_append_right _ (List.mem_append_right _ (List.mem_of_getElem? (i := 11) rfl))))))))), rfl⟩
theorem mw_1932 : (Jvm.Cond.selects "WardFallsModel" ({ cls := "WardFallsModel", name := "flood", desc := "(II)J" } : Jvm.MethodName) ({ cls := "WardFallsModel", name := "flood", desc := "(II)J" } : Jvm.MethodName)) ∈ lw_good := List.mem_filter.mpr ⟨List.mem_append_right _ (List.mem_append_right _ (List.mem_append_right _ (List.mem_append_right _ (List.mem_append_right _ (List.mem_append_right _ (List.mem_append_right _ (List.mem_append_right _ (List.mem_append_right _ (List.mem_of_getElem? (i := 12) rfl))))))))), rfl⟩
theorem mw_1935 : (Jvm.Cond.methodLink "WardFallsLaw" (108 : Nat) ({ cls := "WardFallsModel", name := "walk", desc := "(II)I" } : Jvm.MethodName)) ∈ lw_good := List.mem_filter.mpr ⟨List.mem_append_right _ (List.mem_append_right _ (List.mem_append_right _ (List.mem_append_right _ (List.mem_append_right _ (List.mem_append_right _ (List.mem_append_right _ (List.mem_append_right _ (List.mem_append_right _ (List.mem_of_getElem? (i := 15) rfl))))))))), rfl⟩
theorem mw_1936 : (Jvm.Cond.instanceMethod ({ cls := "WardFallsModel", name := "walk", desc := "(II)I" } : Jvm.MethodName)) ∈ lw_good := List.mem_filter.mpr ⟨List.mem_append_right _ (List.mem_append_right _ (List.mem_append_right _ (List.mem_append_right _ (List.mem_append_right _ (List.mem_append_right _ (List.mem_append_right _ (List.mem_append_right _ (List.mem_append_right _ (List.mem_of_getElem? (i := 16) rfl))))))))), rfl⟩
theorem mw_1937 : (Jvm.Cond.selects "WardFallsModel" ({ cls := "WardFallsModel", name := "walk", desc := "(II)I" } : Jvm.MethodName) ({ cls := "WardFallsModel", name := "walk", desc := "(II)I" } : Jvm.MethodName)) ∈ lw_good := List.mem_filter.mpr ⟨List.mem_append_right _ (List.mem_append_right _ (List.mem_append_right _ (List.mem_append_right _ (List.mem_append_right _ (List.mem_append_right _ (List.mem_append_right _ (List.mem_append_right _ (List.mem_append_right _ (List.mem_of_getElem? (i := 17) rfl))))))))), rfl⟩
theorem mw_1952 : (Jvm.Cond.methodLink "WardFallsLaw" (113 : Nat) ({ cls := "WardFallsModel", name := "step", desc := "(III)I" } : Jvm.MethodName)) ∈ lw_good := List.mem_filter.mpr ⟨List.mem_append_right _ (List.mem_append_right _ (List.mem_append_right _ (List.mem_append_right _ (List.mem_append_right _ (List.mem_append_right _ (List.mem_append_right _ (List.mem_append_right _ (List.mem_append_right _ (List.mem_of_getElem? (i := 32) rfl))))))))), rfl⟩
theorem mw_1953 : (Jvm.Cond.instanceMethod ({ cls := "WardFallsModel", name := "step", desc := "(III)I" } : Jvm.MethodName)) ∈ lw_good := List.mem_filter.mpr ⟨List.mem_append_right _ (List.mem_append_right _ (List.mem_append_right _ (List.mem_append_right _ (List.mem_append_right _ (List.mem_append_right _ (List.mem_append_right _ (List.mem_append_right _ (List.mem_append_right _ (List.mem_of_getElem? (i := 33) rfl))))))))), rfl⟩
theorem mw_1954 : (Jvm.Cond.selects "WardFallsModel" ({ cls := "WardFallsModel", name := "step", desc := "(III)I" } : Jvm.MethodName) ({ cls := "WardFallsModel", name := "step", desc := "(III)I" } : Jvm.MethodName)) ∈ lw_good := List.mem_filter.mpr ⟨List.mem_append_right _ (List.mem_append_right _ (List.mem_append_right _ (List.mem_append_right _ (List.mem_append_right _ (List.mem_append_right _ (List.mem_append_right _ (List.mem_append_right _ (List.mem_append_right _ (List.mem_of_getElem? (i := 34) rfl))))))))), rfl⟩
theorem mw_1956 : (Jvm.Cond.methodLink "WardFallsLaw" (117 : Nat) ({ cls := "WardFallsModel", name := "push", desc := "(III)I" } : Jvm.MethodName)) ∈ lw_good := List.mem_filter.mpr ⟨List.mem_append_right _ (List.mem_append_right _ (List.mem_append_right _ (List.mem_append_right _ (List.mem_append_right _ (List.mem_append_right _ (List.mem_append_right _ (List.mem_append_right _ (List.mem_append_right _ (List.mem_of_getElem? (i := 36) rfl))))))))), rfl⟩
theorem mw_1957 : (Jvm.Cond.instanceMethod ({ cls := "WardFallsModel", name := "push", desc := "(III)I" } : Jvm.MethodName)) ∈ lw_good := List.mem_filter.mpr ⟨List.mem_append_right _ (List.mem_append_right _ (List.mem_append_right _ (List.mem_append_right _ (List.mem_append_right _ (List.mem_append_right _ (List.mem_append_right _ (List.mem_append_right _ (List.mem_append_right _ (List.mem_of_getElem? (i := 37) rfl))))))))), rfl⟩
theorem mw_1958 : (Jvm.Cond.selects "WardFallsModel" ({ cls := "WardFallsModel", name := "push", desc := "(III)I" } : Jvm.MethodName) ({ cls := "WardFallsModel", name := "push", desc := "(III)I" } : Jvm.MethodName)) ∈ lw_good := List.mem_filter.mpr ⟨List.mem_append_right _ (List.mem_append_right _ (List.mem_append_right _ (List.mem_append_right _ (List.mem_append_right _ (List.mem_append_right _ (List.mem_append_right _ (List.mem_append_right _ (List.mem_append_right _ (List.mem_of_getElem? (i := 38) rfl))))))))), rfl⟩
theorem mw_1968 : (Jvm.Cond.methodLink "WardFallsLaw" (121 : Nat) ({ cls := "WardFallsModel", name := "pushed", desc := "(III)I" } : Jvm.MethodName)) ∈ lw_good := List.mem_filter.mpr ⟨List.mem_append_right _ (List.mem_append_right _ (List.mem_append_right _ (List.mem_append_right _ (List.mem_append_right _ (List.mem_append_right _ (List.mem_append_right _ (List.mem_append_right _ (List.mem_append_right _ (List.mem_of_getElem? (i := 48) rfl))))))))), rfl⟩
theorem mw_1969 : (Jvm.Cond.instanceMethod ({ cls := "WardFallsModel", name := "pushed", desc := "(III)I" } : Jvm.MethodName)) ∈ lw_good := List.mem_filter.mpr ⟨List.mem_append_right _ (List.mem_append_right _ (List.mem_append_right _ (List.mem_append_right _ (List.mem_append_right _ (List.mem_append_right _ (List.mem_append_right _ (List.mem_append_right _ (List.mem_append_right _ (List.mem_of_getElem? (i := 49) rfl))))))))), rfl⟩
theorem mw_1970 : (Jvm.Cond.selects "WardFallsModel" ({ cls := "WardFallsModel", name := "pushed", desc := "(III)I" } : Jvm.MethodName) ({ cls := "WardFallsModel", name := "pushed", desc := "(III)I" } : Jvm.MethodName)) ∈ lw_good := List.mem_filter.mpr ⟨List.mem_append_right _ (List.mem_append_right _ (List.mem_append_right _ (List.mem_append_right _ (List.mem_append_right _ (List.mem_append_right _ (List.mem_append_right _ (List.mem_append_right _ (List.mem_append_right _ (List.mem_of_getElem? (i := 50) rfl))))))))), rfl⟩
theorem mw_1976 : (Jvm.Cond.methodLink "WardFallsLaw" (125 : Nat) ({ cls := "WardFallsModel", name := "war", desc := "(II)I" } : Jvm.MethodName)) ∈ lw_good := List.mem_filter.mpr ⟨List.mem_append_right _ (List.mem_append_right _ (List.mem_append_right _ (List.mem_append_right _ (List.mem_append_right _ (List.mem_append_right _ (List.mem_append_right _ (List.mem_append_right _ (List.mem_append_right _ (List.mem_of_getElem? (i := 56) rfl))))))))), rfl⟩
theorem mw_1977 : (Jvm.Cond.instanceMethod ({ cls := "WardFallsModel", name := "war", desc := "(II)I" } : Jvm.MethodName)) ∈ lw_good := List.mem_filter.mpr ⟨List.mem_append_right _ (List.mem_append_right _ (List.mem_append_right _ (List.mem_append_right _ (List.mem_append_right _ (List.mem_append_right _ (List.mem_append_right _ (List.mem_append_right _ (List.mem_append_right _ (List.mem_of_getElem? (i := 57) rfl))))))))), rfl⟩
theorem mw_1978 : (Jvm.Cond.selects "WardFallsModel" ({ cls := "WardFallsModel", name := "war", desc := "(II)I" } : Jvm.MethodName) ({ cls := "WardFallsModel", name := "war", desc := "(II)I" } : Jvm.MethodName)) ∈ lw_good := List.mem_filter.mpr ⟨List.mem_append_right _ (List.mem_append_right _ (List.mem_append_right _ (List.mem_append_right _ (List.mem_append_right _ (List.mem_append_right _ (List.mem_append_right _ (List.mem_append_right _ (List.mem_append_right _ (List.mem_of_getElem? (i := 58) rfl))))))))), rfl⟩
theorem mw_1980 : (Jvm.Cond.methodLink "WardFallsLaw" (130 : Nat) ({ cls := "WardFallsModel", name := "nets", desc := "()J" } : Jvm.MethodName)) ∈ lw_good := List.mem_filter.mpr ⟨List.mem_append_right _ (List.mem_append_right _ (List.mem_append_right _ (List.mem_append_right _ (List.mem_append_right _ (List.mem_append_right _ (List.mem_append_right _ (List.mem_append_right _ (List.mem_append_right _ (List.mem_of_getElem? (i := 60) rfl))))))))), rfl⟩
theorem mw_1981 : (Jvm.Cond.instanceMethod ({ cls := "WardFallsModel", name := "nets", desc := "()J" } : Jvm.MethodName)) ∈ lw_good := List.mem_filter.mpr ⟨List.mem_append_right _ (List.mem_append_right _ (List.mem_append_right _ (List.mem_append_right _ (List.mem_append_right _ (List.mem_append_right _ (List.mem_append_right _ (List.mem_append_right _ (List.mem_append_right _ (List.mem_of_getElem? (i := 61) rfl))))))))), rfl⟩
theorem mw_1982 : (Jvm.Cond.selects "WardFallsModel" ({ cls := "WardFallsModel", name := "nets", desc := "()J" } : Jvm.MethodName) ({ cls := "WardFallsModel", name := "nets", desc := "()J" } : Jvm.MethodName)) ∈ lw_good := List.mem_filter.mpr ⟨List.mem_append_right _ (List.mem_append_right _ (List.mem_append_right _ (List.mem_append_right _ (List.mem_append_right _ (List.mem_append_right _ (List.mem_append_right _ (List.mem_append_right _ (List.mem_append_right _ (List.mem_of_getElem? (i := 62) rfl))))))))), rfl⟩
theorem mw_1984 : (Jvm.Cond.methodLink "WardFallsLaw" (134 : Nat) ({ cls := "WardFallsModel", name := "clock", desc := "(I)I" } : Jvm.MethodName)) ∈ lw_good := List.mem_filter.mpr ⟨List.mem_append_right _ (List.mem_append_right _ (List.mem_append_right _ (List.mem_append_right _ (List.mem_append_right _ (List.mem_append_right _ (List.mem_append_right _ (List.mem_append_right _ (List.mem_append_right _ (List.mem_of_getElem? (i := 64) rfl))))))))), rfl⟩
theorem mw_1985 : (Jvm.Cond.instanceMethod ({ cls := "WardFallsModel", name := "clock", desc := "(I)I" } : Jvm.MethodName)) ∈ lw_good := List.mem_filter.mpr ⟨List.mem_append_right _ (List.mem_append_right _ (List.mem_append_right _ (List.mem_append_right _ (List.mem_append_right _ (List.mem_append_right _ (List.mem_append_right _ (List.mem_append_right _ (List.mem_append_right _ (List.mem_of_getElem? (i := 65) rfl))))))))), rfl⟩
theorem mw_1986 : (Jvm.Cond.selects "WardFallsModel" ({ cls := "WardFallsModel", name := "clock", desc := "(I)I" } : Jvm.MethodName) ({ cls := "WardFallsModel", name := "clock", desc := "(I)I" } : Jvm.MethodName)) ∈ lw_good := List.mem_filter.mpr ⟨List.mem_append_right _ (List.mem_append_right _ (List.mem_append_right _ (List.mem_append_right _ (List.mem_append_right _ (List.mem_append_right _ (List.mem_append_right _ (List.mem_append_right _ (List.mem_append_right _ (List.mem_of_getElem? (i := 66) rfl))))))))), rfl⟩
theorem mw_1992 : (Jvm.Cond.methodLink "WardFallsLaw" (138 : Nat) ({ cls := "WardFallsModel", name := "stays", desc := "()I" } : Jvm.MethodName)) ∈ lw_good := List.mem_filter.mpr ⟨List.mem_append_right _ (List.mem_append_right _ (List.mem_append_right _ (List.mem_append_right _ (List.mem_append_right _ (List.mem_append_right _ (List.mem_append_right _ (List.mem_append_right _ (List.mem_append_right _ (List.mem_of_getElem? (i := 72) rfl))))))))), rfl⟩
theorem mw_1993 : (Jvm.Cond.instanceMethod ({ cls := "WardFallsModel", name := "stays", desc := "()I" } : Jvm.MethodName)) ∈ lw_good := List.mem_filter.mpr ⟨List.mem_append_right _ (List.mem_append_right _ (List.mem_append_right _ (List.mem_append_right _ (List.mem_append_right _ (List.mem_append_right _ (List.mem_append_right _ (List.mem_append_right _ (List.mem_append_right _ (List.mem_of_getElem? (i := 73) rfl))))))))), rfl⟩
theorem mw_1994 : (Jvm.Cond.selects "WardFallsModel" ({ cls := "WardFallsModel", name := "stays", desc := "()I" } : Jvm.MethodName) ({ cls := "WardFallsModel", name := "stays", desc := "()I" } : Jvm.MethodName)) ∈ lw_good := List.mem_filter.mpr ⟨List.mem_append_right _ (List.mem_append_right _ (List.mem_append_right _ (List.mem_append_right _ (List.mem_append_right _ (List.mem_append_right _ (List.mem_append_right _ (List.mem_append_right _ (List.mem_append_right _ (List.mem_of_getElem? (i := 74) rfl))))))))), rfl⟩
theorem mw_2015 : (Jvm.Cond.methodLink "WardFallsLaw" (142 : Nat) ({ cls := "WardFallsModel", name := "stay", desc := "(I)I" } : Jvm.MethodName)) ∈ lw_good := List.mem_filter.mpr ⟨List.mem_append_right _ (List.mem_append_right _ (List.mem_append_right _ (List.mem_append_right _ (List.mem_append_right _ (List.mem_append_right _ (List.mem_append_right _ (List.mem_append_right _ (List.mem_append_right _ (List.mem_of_getElem? (i := 95) rfl))))))))), rfl⟩
theorem mw_2016 : (Jvm.Cond.instanceMethod ({ cls := "WardFallsModel", name := "stay", desc := "(I)I" } : Jvm.MethodName)) ∈ lw_good := List.mem_filter.mpr ⟨List.mem_append_right _ (List.mem_append_right _ (List.mem_append_right _ (List.mem_append_right _ (List.mem_append_right _ (List.mem_append_right _ (List.mem_append_right _ (List.mem_append_right _ (List.mem_append_right _ (List.mem_of_getElem? (i := 96) rfl))))))))), rfl⟩
theorem mw_2017 : (Jvm.Cond.selects "WardFallsModel" ({ cls := "WardFallsModel", name := "stay", desc := "(I)I" } : Jvm.MethodName) ({ cls := "WardFallsModel", name := "stay", desc := "(I)I" } : Jvm.MethodName)) ∈ lw_good := List.mem_filter.mpr ⟨List.mem_append_right _ (List.mem_append_right _ (List.mem_append_right _ (List.mem_append_right _ (List.mem_append_right _ (List.mem_append_right _ (List.mem_append_right _ (List.mem_append_right _ (List.mem_append_right _ (List.mem_of_getElem? (i := 97) rfl))))))))), rfl⟩
theorem mw_2019 : (Jvm.Cond.methodLink "WardFallsLaw" (146 : Nat) ({ cls := "WardFallsModel", name := "treaty", desc := "(I)I" } : Jvm.MethodName)) ∈ lw_good := List.mem_filter.mpr ⟨List.mem_append_right _ (List.mem_append_right _ (List.mem_append_right _ (List.mem_append_right _ (List.mem_append_right _ (List.mem_append_right _ (List.mem_append_right _ (List.mem_append_right _ (List.mem_append_right _ (List.mem_of_getElem? (i := 99) rfl))))))))), rfl⟩
theorem mw_2020 : (Jvm.Cond.instanceMethod ({ cls := "WardFallsModel", name := "treaty", desc := "(I)I" } : Jvm.MethodName)) ∈ lw_good := List.mem_filter.mpr ⟨List.mem_append_right _ (List.mem_append_right _ (List.mem_append_right _ (List.mem_append_right _ (List.mem_append_right _ (List.mem_append_right _ (List.mem_append_right _ (List.mem_append_right _ (List.mem_append_right _ (List.mem_of_getElem? (i := 100) rfl))))))))), rfl⟩
theorem mw_2021 : (Jvm.Cond.selects "WardFallsModel" ({ cls := "WardFallsModel", name := "treaty", desc := "(I)I" } : Jvm.MethodName) ({ cls := "WardFallsModel", name := "treaty", desc := "(I)I" } : Jvm.MethodName)) ∈ lw_good := List.mem_filter.mpr ⟨List.mem_append_right _ (List.mem_append_right _ (List.mem_append_right _ (List.mem_append_right _ (List.mem_append_right _ (List.mem_append_right _ (List.mem_append_right _ (List.mem_append_right _ (List.mem_append_right _ (List.mem_of_getElem? (i := 101) rfl))))))))), rfl⟩
theorem mw_2023 : (Jvm.Cond.methodLink "WardFallsLaw" (150 : Nat) ({ cls := "WardFallsModel", name := "moves", desc := "(II)I" } : Jvm.MethodName)) ∈ lw_good := List.mem_filter.mpr ⟨List.mem_append_right _ (List.mem_append_right _ (List.mem_append_right _ (List.mem_append_right _ (List.mem_append_right _ (List.mem_append_right _ (List.mem_append_right _ (List.mem_append_right _ (List.mem_append_right _ (List.mem_of_getElem? (i := 103) rfl))))))))), rfl⟩
theorem mw_2024 : (Jvm.Cond.instanceMethod ({ cls := "WardFallsModel", name := "moves", desc := "(II)I" } : Jvm.MethodName)) ∈ lw_good := List.mem_filter.mpr ⟨List.mem_append_right _ (List.mem_append_right _ (List.mem_append_right _ (List.mem_append_right _ (List.mem_append_right _ (List.mem_append_right _ (List.mem_append_right _ (List.mem_append_right _ (List.mem_append_right _ (List.mem_of_getElem? (i := 104) rfl))))))))), rfl⟩
theorem mw_2025 : (Jvm.Cond.selects "WardFallsModel" ({ cls := "WardFallsModel", name := "moves", desc := "(II)I" } : Jvm.MethodName) ({ cls := "WardFallsModel", name := "moves", desc := "(II)I" } : Jvm.MethodName)) ∈ lw_good := List.mem_filter.mpr ⟨List.mem_append_right _ (List.mem_append_right _ (List.mem_append_right _ (List.mem_append_right _ (List.mem_append_right _ (List.mem_append_right _ (List.mem_append_right _ (List.mem_append_right _ (List.mem_append_right _ (List.mem_of_getElem? (i := 105) rfl))))))))), rfl⟩
theorem mw_2031 : (Jvm.Cond.methodLink "WardFallsLaw" (154 : Nat) ({ cls := "WardFallsModel", name := "note", desc := "(II)I" } : Jvm.MethodName)) ∈ lw_good := List.mem_filter.mpr ⟨List.mem_append_right _ (List.mem_append_right _ (List.mem_append_right _ (List.mem_append_right _ (List.mem_append_right _ (List.mem_append_right _ (List.mem_append_right _ (List.mem_append_right _ (List.mem_append_right _ (List.mem_of_getElem? (i := 111) rfl))))))))), rfl⟩
theorem mw_2032 : (Jvm.Cond.instanceMethod ({ cls := "WardFallsModel", name := "note", desc := "(II)I" } : Jvm.MethodName)) ∈ lw_good := List.mem_filter.mpr ⟨List.mem_append_right _ (List.mem_append_right _ (List.mem_append_right _ (List.mem_append_right _ (List.mem_append_right _ (List.mem_append_right _ (List.mem_append_right _ (List.mem_append_right _ (List.mem_append_right _ (List.mem_of_getElem? (i := 112) rfl))))))))), rfl⟩
theorem mw_2033 : (Jvm.Cond.selects "WardFallsModel" ({ cls := "WardFallsModel", name := "note", desc := "(II)I" } : Jvm.MethodName) ({ cls := "WardFallsModel", name := "note", desc := "(II)I" } : Jvm.MethodName)) ∈ lw_good := List.mem_filter.mpr ⟨List.mem_append_right _ (List.mem_append_right _ (List.mem_append_right _ (List.mem_append_right _ (List.mem_append_right _ (List.mem_append_right _ (List.mem_append_right _ (List.mem_append_right _ (List.mem_append_right _ (List.mem_of_getElem? (i := 113) rfl))))))))), rfl⟩
theorem mw_2035 : (Jvm.Cond.methodLink "WardFallsLaw" (158 : Nat) ({ cls := "WardFallsModel", name := "strike", desc := "(I)I" } : Jvm.MethodName)) ∈ lw_good := List.mem_filter.mpr ⟨List.mem_append_right _ (List.mem_append_right _ (List.mem_append_right _ (List.mem_append_right _ (List.mem_append_right _ (List.mem_append_right _ (List.mem_append_right _ (List.mem_append_right _ (List.mem_append_right _ (List.mem_of_getElem? (i := 115) rfl))))))))), rfl⟩
theorem mw_2036 : (Jvm.Cond.instanceMethod ({ cls := "WardFallsModel", name := "strike", desc := "(I)I" } : Jvm.MethodName)) ∈ lw_good := List.mem_filter.mpr ⟨List.mem_append_right _ (List.mem_append_right _ (List.mem_append_right _ (List.mem_append_right _ (List.mem_append_right _ (List.mem_append_right _ (List.mem_append_right _ (List.mem_append_right _ (List.mem_append_right _ (List.mem_of_getElem? (i := 116) rfl))))))))), rfl⟩
theorem mw_2037 : (Jvm.Cond.selects "WardFallsModel" ({ cls := "WardFallsModel", name := "strike", desc := "(I)I" } : Jvm.MethodName) ({ cls := "WardFallsModel", name := "strike", desc := "(I)I" } : Jvm.MethodName)) ∈ lw_good := List.mem_filter.mpr ⟨List.mem_append_right _ (List.mem_append_right _ (List.mem_append_right _ (List.mem_append_right _ (List.mem_append_right _ (List.mem_append_right _ (List.mem_append_right _ (List.mem_append_right _ (List.mem_append_right _ (List.mem_of_getElem? (i := 117) rfl))))))))), rfl⟩
theorem mw_2039 : (Jvm.Cond.methodLink "WardFallsLaw" (163 : Nat) ({ cls := "WardFallsModel", name := "known", desc := "(I)Z" } : Jvm.MethodName)) ∈ lw_good := List.mem_filter.mpr ⟨List.mem_append_right _ (List.mem_append_right _ (List.mem_append_right _ (List.mem_append_right _ (List.mem_append_right _ (List.mem_append_right _ (List.mem_append_right _ (List.mem_append_right _ (List.mem_append_right _ (List.mem_of_getElem? (i := 119) rfl))))))))), rfl⟩
theorem mw_2040 : (Jvm.Cond.instanceMethod ({ cls := "WardFallsModel", name := "known", desc := "(I)Z" } : Jvm.MethodName)) ∈ lw_good := List.mem_filter.mpr ⟨List.mem_append_right _ (List.mem_append_right _ (List.mem_append_right _ (List.mem_append_right _ (List.mem_append_right _ (List.mem_append_right _ (List.mem_append_right _ (List.mem_append_right _ (List.mem_append_right _ (List.mem_of_getElem? (i := 120) rfl))))))))), rfl⟩
theorem mw_2041 : (Jvm.Cond.selects "WardFallsModel" ({ cls := "WardFallsModel", name := "known", desc := "(I)Z" } : Jvm.MethodName) ({ cls := "WardFallsModel", name := "known", desc := "(I)Z" } : Jvm.MethodName)) ∈ lw_good := List.mem_filter.mpr ⟨List.mem_append_right _ (List.mem_append_right _ (List.mem_append_right _ (List.mem_append_right _ (List.mem_append_right _ (List.mem_append_right _ (List.mem_append_right _ (List.mem_append_right _ (List.mem_append_right _ (List.mem_of_getElem? (i := 121) rfl))))))))), rfl⟩
theorem mw_2043 : (Jvm.Cond.methodLink "WardFallsLaw" (167 : Nat) ({ cls := "WardFallsModel", name := "fits", desc := "()I" } : Jvm.MethodName)) ∈ lw_good := List.mem_filter.mpr ⟨List.mem_append_right _ (List.mem_append_right _ (List.mem_append_right _ (List.mem_append_right _ (List.mem_append_right _ (List.mem_append_right _ (List.mem_append_right _ (List.mem_append_right _ (List.mem_append_right _ (List.mem_of_getElem? (i := 123) rfl))))))))), rfl⟩
theorem mw_2044 : (Jvm.Cond.instanceMethod ({ cls := "WardFallsModel", name := "fits", desc := "()I" } : Jvm.MethodName)) ∈ lw_good := List.mem_filter.mpr ⟨List.mem_append_right _ (List.mem_append_right _ (List.mem_append_right _ (List.mem_append_right _ (List.mem_append_right _ (List.mem_append_right _ (List.mem_append_right _ (List.mem_append_right _ (List.mem_append_right _ (List.mem_of_getElem? (i := 124) rfl))))))))), rfl⟩
theorem mw_2045 : (Jvm.Cond.selects "WardFallsModel" ({ cls := "WardFallsModel", name := "fits", desc := "()I" } : Jvm.MethodName) ({ cls := "WardFallsModel", name := "fits", desc := "()I" } : Jvm.MethodName)) ∈ lw_good := List.mem_filter.mpr ⟨List.mem_append_right _ (List.mem_append_right _ (List.mem_append_right _ (List.mem_append_right _ (List.mem_append_right _ (List.mem_append_right _ (List.mem_append_right _ (List.mem_append_right _ (List.mem_append_right _ (List.mem_of_getElem? (i := 125) rfl))))))))), rfl⟩
theorem mw_2059 : (Jvm.Cond.methodLink "WardFallsLaw" (171 : Nat) ({ cls := "WardFallsModel", name := "may", desc := "(I)I" } : Jvm.MethodName)) ∈ lw_good := List.mem_filter.mpr ⟨List.mem_append_right _ (List.mem_append_right _ (List.mem_append_right _ (List.mem_append_right _ (List.mem_append_right _ (List.mem_append_right _ (List.mem_append_right _ (List.mem_append_right _ (List.mem_append_right _ (List.mem_of_getElem? (i := 139) rfl))))))))), rfl⟩
theorem mw_2060 : (Jvm.Cond.instanceMethod ({ cls := "WardFallsModel", name := "may", desc := "(I)I" } : Jvm.MethodName)) ∈ lw_good := List.mem_filter.mpr ⟨List.mem_append_right _ (List.mem_append_right _ (List.mem_append_right _ (List.mem_append_right _ (List.mem_append_right _ (List.mem_append_right _ (List.mem_append_right _ (List.mem_append_right _ (List.mem_append_right _ (List.mem_of_getElem? (i := 140) rfl))))))))), rfl⟩
theorem mw_2061 : (Jvm.Cond.selects "WardFallsModel" ({ cls := "WardFallsModel", name := "may", desc := "(I)I" } : Jvm.MethodName) ({ cls := "WardFallsModel", name := "may", desc := "(I)I" } : Jvm.MethodName)) ∈ lw_good := List.mem_filter.mpr ⟨List.mem_append_right _ (List.mem_append_right _ (List.mem_append_right _ (List.mem_append_right _ (List.mem_append_right _ (List.mem_append_right _ (List.mem_append_right _ (List.mem_append_right _ (List.mem_append_right _ (List.mem_of_getElem? (i := 141) rfl))))))))), rfl⟩
theorem mw_2063 : (Jvm.Cond.methodLink "WardFallsLaw" (175 : Nat) ({ cls := "WardFallsModel", name := "years", desc := "(I)I" } : Jvm.MethodName)) ∈ lw_good := List.mem_filter.mpr ⟨List.mem_append_right _ (List.mem_append_right _ (List.mem_append_right _ (List.mem_append_right _ (List.mem_append_right _ (List.mem_append_right _ (List.mem_append_right _ (List.mem_append_right _ (List.mem_append_right _ (List.mem_of_getElem? (i := 143) rfl))))))))), rfl⟩
theorem mw_2064 : (Jvm.Cond.instanceMethod ({ cls := "WardFallsModel", name := "years", desc := "(I)I" } : Jvm.MethodName)) ∈ lw_good := List.mem_filter.mpr ⟨List.mem_append_right _ (List.mem_append_right _ (List.mem_append_right _ (List.mem_append_right _ (List.mem_append_right _ (List.mem_append_right _ (List.mem_append_right _ (List.mem_append_right _ (List.mem_append_right _ (List.mem_of_getElem? (i := 144) rfl))))))))), rfl⟩
theorem mw_2065 : (Jvm.Cond.selects "WardFallsModel" ({ cls := "WardFallsModel", name := "years", desc := "(I)I" } : Jvm.MethodName) ({ cls := "WardFallsModel", name := "years", desc := "(I)I" } : Jvm.MethodName)) ∈ lw_good := List.mem_filter.mpr ⟨List.mem_append_right _ (List.mem_append_right _ (List.mem_append_right _ (List.mem_append_right _ (List.mem_append_right _ (List.mem_append_right _ (List.mem_append_right _ (List.mem_append_right _ (List.mem_append_right _ (List.mem_of_getElem? (i := 145) rfl))))))))), rfl⟩
theorem mw_2073 : (Jvm.Cond.methodLink "WardFallsLaw" (179 : Nat) ({ cls := "WardFallsModel", name := "voted", desc := "(II)I" } : Jvm.MethodName)) ∈ lw_good := List.mem_filter.mpr ⟨List.mem_append_right _ (List.mem_append_right _ (List.mem_append_right _ (List.mem_append_right _ (List.mem_append_right _ (List.mem_append_right _ (List.mem_append_right _ (List.mem_append_right _ (List.mem_append_right _ (List.mem_of_getElem? (i := 153) rfl))))))))), rfl⟩
theorem mw_2074 : (Jvm.Cond.instanceMethod ({ cls := "WardFallsModel", name := "voted", desc := "(II)I" } : Jvm.MethodName)) ∈ lw_good := List.mem_filter.mpr ⟨List.mem_append_right _ (List.mem_append_right _ (List.mem_append_right _ (List.mem_append_right _ (List.mem_append_right _ (List.mem_append_right _ (List.mem_append_right _ (List.mem_append_right _ (List.mem_append_right _ (List.mem_of_getElem? (i := 154) rfl))))))))), rfl⟩
theorem mw_2075 : (Jvm.Cond.selects "WardFallsModel" ({ cls := "WardFallsModel", name := "voted", desc := "(II)I" } : Jvm.MethodName) ({ cls := "WardFallsModel", name := "voted", desc := "(II)I" } : Jvm.MethodName)) ∈ lw_good := List.mem_filter.mpr ⟨List.mem_append_right _ (List.mem_append_right _ (List.mem_append_right _ (List.mem_append_right _ (List.mem_append_right _ (List.mem_append_right _ (List.mem_append_right _ (List.mem_append_right _ (List.mem_append_right _ (List.mem_of_getElem? (i := 155) rfl))))))))), rfl⟩
theorem mw_2077 : (Jvm.Cond.methodLink "WardFallsLaw" (183 : Nat) ({ cls := "WardFallsModel", name := "tried", desc := "(III)I" } : Jvm.MethodName)) ∈ lw_good := List.mem_filter.mpr ⟨List.mem_append_right _ (List.mem_append_right _ (List.mem_append_right _ (List.mem_append_right _ (List.mem_append_right _ (List.mem_append_right _ (List.mem_append_right _ (List.mem_append_right _ (List.mem_append_right _ (List.mem_of_getElem? (i := 157) rfl))))))))), rfl⟩
theorem mw_2078 : (Jvm.Cond.instanceMethod ({ cls := "WardFallsModel", name := "tried", desc := "(III)I" } : Jvm.MethodName)) ∈ lw_good := List.mem_filter.mpr ⟨List.mem_append_right _ (List.mem_append_right _ (List.mem_append_right _ (List.mem_append_right _ (List.mem_append_right _ (List.mem_append_right _ (List.mem_append_right _ (List.mem_append_right _ (List.mem_append_right _ (List.mem_of_getElem? (i := 158) rfl))))))))), rfl⟩
theorem mw_2079 : (Jvm.Cond.selects "WardFallsModel" ({ cls := "WardFallsModel", name := "tried", desc := "(III)I" } : Jvm.MethodName) ({ cls := "WardFallsModel", name := "tried", desc := "(III)I" } : Jvm.MethodName)) ∈ lw_good := List.mem_filter.mpr ⟨List.mem_append_right _ (List.mem_append_right _ (List.mem_append_right _ (List.mem_append_right _ (List.mem_append_right _ (List.mem_append_right _ (List.mem_append_right _ (List.mem_append_right _ (List.mem_append_right _ (List.mem_of_getElem? (i := 159) rfl))))))))), rfl⟩
theorem mw_2081 : (Jvm.Cond.methodLink "WardFallsLaw" (187 : Nat) ({ cls := "WardFallsModel", name := "undo", desc := "()I" } : Jvm.MethodName)) ∈ lw_good := List.mem_filter.mpr ⟨List.mem_append_right _ (List.mem_append_right _ (List.mem_append_right _ (List.mem_append_right _ (List.mem_append_right _ (List.mem_append_right _ (List.mem_append_right _ (List.mem_append_right _ (List.mem_append_right _ (List.mem_of_getElem? (i := 161) rfl))))))))), rfl⟩
theorem mw_2082 : (Jvm.Cond.instanceMethod ({ cls := "WardFallsModel", name := "undo", desc := "()I" } : Jvm.MethodName)) ∈ lw_good := List.mem_filter.mpr ⟨List.mem_append_right _ (List.mem_append_right _ (List.mem_append_right _ (List.mem_append_right _ (List.mem_append_right _ (List.mem_append_right _ (List.mem_append_right _ (List.mem_append_right _ (List.mem_append_right _ (List.mem_of_getElem? (i := 162) rfl))))))))), rfl⟩
theorem mw_2083 : (Jvm.Cond.selects "WardFallsModel" ({ cls := "WardFallsModel", name := "undo", desc := "()I" } : Jvm.MethodName) ({ cls := "WardFallsModel", name := "undo", desc := "()I" } : Jvm.MethodName)) ∈ lw_good := List.mem_filter.mpr ⟨List.mem_append_right _ (List.mem_append_right _ (List.mem_append_right _ (List.mem_append_right _ (List.mem_append_right _ (List.mem_append_right _ (List.mem_append_right _ (List.mem_append_right _ (List.mem_append_right _ (List.mem_of_getElem? (i := 163) rfl))))))))), rfl⟩
theorem mw_2085 : (Jvm.Cond.methodLink "WardFallsLaw" (191 : Nat) ({ cls := "WardFallsModel", name := "keep", desc := "()I" } : Jvm.MethodName)) ∈ lw_good := List.mem_filter.mpr ⟨List.mem_append_right _ (List.mem_append_right _ (List.mem_append_right _ (List.mem_append_right _ (List.mem_append_right _ (List.mem_append_right _ (List.mem_append_right _ (List.mem_append_right _ (List.mem_append_right _ (List.mem_of_getElem? (i := 165) rfl))))))))), rfl⟩
theorem mw_2086 : (Jvm.Cond.instanceMethod ({ cls := "WardFallsModel", name := "keep", desc := "()I" } : Jvm.MethodName)) ∈ lw_good := List.mem_filter.mpr ⟨List.mem_append_right _ (List.mem_append_right _ (List.mem_append_right _ (List.mem_append_right _ (List.mem_append_right _ (List.mem_append_right _ (List.mem_append_right _ (List.mem_append_right _ (List.mem_append_right _ (List.mem_of_getElem? (i := 166) rfl))))))))), rfl⟩
theorem mw_2087 : (Jvm.Cond.selects "WardFallsModel" ({ cls := "WardFallsModel", name := "keep", desc := "()I" } : Jvm.MethodName) ({ cls := "WardFallsModel", name := "keep", desc := "()I" } : Jvm.MethodName)) ∈ lw_good := List.mem_filter.mpr ⟨List.mem_append_right _ (List.mem_append_right _ (List.mem_append_right _ (List.mem_append_right _ (List.mem_append_right _ (List.mem_append_right _ (List.mem_append_right _ (List.mem_append_right _ (List.mem_append_right _ (List.mem_of_getElem? (i := 167) rfl))))))))), rfl⟩
theorem mw_2093 : (Jvm.Cond.methodLink "WardFallsLaw" (195 : Nat) ({ cls := "WardFallsModel", name := "back", desc := "()I" } : Jvm.MethodName)) ∈ lw_good := List.mem_filter.mpr ⟨List.mem_append_right _ (List.mem_append_right _ (List.mem_append_right _ (List.mem_append_right _ (List.mem_append_right _ (List.mem_append_right _ (List.mem_append_right _ (List.mem_append_right _ (List.mem_append_right _ (List.mem_of_getElem? (i := 173) rfl))))))))), rfl⟩
theorem mw_2094 : (Jvm.Cond.instanceMethod ({ cls := "WardFallsModel", name := "back", desc := "()I" } : Jvm.MethodName)) ∈ lw_good := List.mem_filter.mpr ⟨List.mem_append_right _ (List.mem_append_right _ (List.mem_append_right _ (List.mem_append_right _ (List.mem_append_right _ (List.mem_append_right _ (List.mem_append_right _ (List.mem_append_right _ (List.mem_append_right _ (List.mem_of_getElem? (i := 174) rfl))))))))), rfl⟩
theorem mw_2095 : (Jvm.Cond.selects "WardFallsModel" ({ cls := "WardFallsModel", name := "back", desc := "()I" } : Jvm.MethodName) ({ cls := "WardFallsModel", name := "back", desc := "()I" } : Jvm.MethodName)) ∈ lw_good := List.mem_filter.mpr ⟨List.mem_append_right _ (List.mem_append_right _ (List.mem_append_right _ (List.mem_append_right _ (List.mem_append_right _ (List.mem_append_right _ (List.mem_append_right _ (List.mem_append_right _ (List.mem_append_right _ (List.mem_of_getElem? (i := 175) rfl))))))))), rfl⟩
theorem mw_2097 : (Jvm.Cond.methodLink "WardFallsLaw" (199 : Nat) ({ cls := "WardFallsModel", name := "count", desc := "(I)I" } : Jvm.MethodName)) ∈ lw_good := List.mem_filter.mpr ⟨List.mem_append_right _ (List.mem_append_right _ (List.mem_append_right _ (List.mem_append_right _ (List.mem_append_right _ (List.mem_append_right _ (List.mem_append_right _ (List.mem_append_right _ (List.mem_append_right _ (List.mem_of_getElem? (i := 177) rfl))))))))), rfl⟩
theorem mw_2098 : (Jvm.Cond.instanceMethod ({ cls := "WardFallsModel", name := "count", desc := "(I)I" } : Jvm.MethodName)) ∈ lw_good := List.mem_filter.mpr ⟨List.mem_append_right _ (List.mem_append_right _ (List.mem_append_right _ (List.mem_append_right _ (List.mem_append_right _ (List.mem_append_right _ (List.mem_append_right _ (List.mem_append_right _ (List.mem_append_right _ (List.mem_of_getElem? (i := 178) rfl))))))))), rfl⟩
theorem mw_2099 : (Jvm.Cond.selects "WardFallsModel" ({ cls := "WardFallsModel", name := "count", desc := "(I)I" } : Jvm.MethodName) ({ cls := "WardFallsModel", name := "count", desc := "(I)I" } : Jvm.MethodName)) ∈ lw_good := List.mem_filter.mpr ⟨List.mem_append_right _ (List.mem_append_right _ (List.mem_append_right _ (List.mem_append_right _ (List.mem_append_right _ (List.mem_append_right _ (List.mem_append_right _ (List.mem_append_right _ (List.mem_append_right _ (List.mem_of_getElem? (i := 179) rfl))))))))), rfl⟩
theorem mw_608 : (Jvm.Cond.methodLink "WardFallsLaw" (21 : Nat) ({ cls := "WardFalls", name := "feed", desc := "(IIIII)I" } : Jvm.MethodName)) ∈ lw_good := List.mem_filter.mpr ⟨List.mem_append_right _ (List.mem_append_right _ (List.mem_append_right _ (List.mem_append_left _ (List.mem_of_getElem? (i := 128) rfl)))), rfl⟩
theorem mw_609 : (Jvm.Cond.instanceMethod ({ cls := "WardFalls", name := "feed", desc := "(IIIII)I" } : Jvm.MethodName)) ∈ lw_good := List.mem_filter.mpr ⟨List.mem_append_right _ (List.mem_append_right _ (List.mem_append_right _ (List.mem_append_left _ (List.mem_of_getElem? (i := 129) rfl)))), rfl⟩
theorem mw_610 : (Jvm.Cond.selects "WardFalls" ({ cls := "WardFalls", name := "feed", desc := "(IIIII)I" } : Jvm.MethodName) ({ cls := "WardFalls", name := "feed", desc := "(IIIII)I" } : Jvm.MethodName)) ∈ lw_good := List.mem_filter.mpr ⟨List.mem_append_right _ (List.mem_append_right _ (List.mem_append_right _ (List.mem_append_left _ (List.mem_of_getElem? (i := 130) rfl)))), rfl⟩
theorem mw_617 : (Jvm.Cond.methodLink "WardFallsLaw" (26 : Nat) ({ cls := "WardFalls", name := "text", desc := "(I)I" } : Jvm.MethodName)) ∈ lw_good := List.mem_filter.mpr ⟨List.mem_append_right _ (List.mem_append_right _ (List.mem_append_right _ (List.mem_append_left _ (List.mem_of_getElem? (i := 137) rfl)))), rfl⟩
theorem mw_618 : (Jvm.Cond.instanceMethod ({ cls := "WardFalls", name := "text", desc := "(I)I" } : Jvm.MethodName)) ∈ lw_good := List.mem_filter.mpr ⟨List.mem_append_right _ (List.mem_append_right _ (List.mem_append_right _ (List.mem_append_left _ (List.mem_of_getElem? (i := 138) rfl)))), rfl⟩
theorem mw_619 : (Jvm.Cond.selects "WardFalls" ({ cls := "WardFalls", name := "text", desc := "(I)I" } : Jvm.MethodName) ({ cls := "WardFalls", name := "text", desc := "(I)I" } : Jvm.MethodName)) ∈ lw_good := List.mem_filter.mpr ⟨List.mem_append_right _ (List.mem_append_right _ (List.mem_append_right _ (List.mem_append_left _ (List.mem_of_getElem? (i := 139) rfl)))), rfl⟩
theorem mw_826 : (Jvm.Cond.methodLink "WardFallsLaw" (31 : Nat) ({ cls := "WardFalls", name := "fault", desc := "(I)I" } : Jvm.MethodName)) ∈ lw_good := List.mem_filter.mpr ⟨List.mem_append_right _ (List.mem_append_right _ (List.mem_append_right _ (List.mem_append_right _ (List.mem_append_left _ (List.mem_of_getElem? (i := 106) rfl))))), rfl⟩
theorem mw_827 : (Jvm.Cond.instanceMethod ({ cls := "WardFalls", name := "fault", desc := "(I)I" } : Jvm.MethodName)) ∈ lw_good := List.mem_filter.mpr ⟨List.mem_append_right _ (List.mem_append_right _ (List.mem_append_right _ (List.mem_append_right _ (List.mem_append_left _ (List.mem_of_getElem? (i := 107) rfl))))), rfl⟩
theorem mw_828 : (Jvm.Cond.selects "WardFalls" ({ cls := "WardFalls", name := "fault", desc := "(I)I" } : Jvm.MethodName) ({ cls := "WardFalls", name := "fault", desc := "(I)I" } : Jvm.MethodName)) ∈ lw_good := List.mem_filter.mpr ⟨List.mem_append_right _ (List.mem_append_right _ (List.mem_append_right _ (List.mem_append_right _ (List.mem_append_left _ (List.mem_of_getElem? (i := 108) rfl))))), rfl⟩
theorem mw_830 : (Jvm.Cond.methodLink "WardFallsLaw" (35 : Nat) ({ cls := "WardFalls", name := "named", desc := "(II)I" } : Jvm.MethodName)) ∈ lw_good := List.mem_filter.mpr ⟨List.mem_append_right _ (List.mem_append_right _ (List.mem_append_right _ (List.mem_append_right _ (List.mem_append_left _ (List.mem_of_getElem? (i := 110) rfl))))), rfl⟩
theorem mw_831 : (Jvm.Cond.instanceMethod ({ cls := "WardFalls", name := "named", desc := "(II)I" } : Jvm.MethodName)) ∈ lw_good := List.mem_filter.mpr ⟨List.mem_append_right _ (List.mem_append_right _ (List.mem_append_right _ (List.mem_append_right _ (List.mem_append_left _ (List.mem_of_getElem? (i := 111) rfl))))), rfl⟩
theorem mw_832 : (Jvm.Cond.selects "WardFalls" ({ cls := "WardFalls", name := "named", desc := "(II)I" } : Jvm.MethodName) ({ cls := "WardFalls", name := "named", desc := "(II)I" } : Jvm.MethodName)) ∈ lw_good := List.mem_filter.mpr ⟨List.mem_append_right _ (List.mem_append_right _ (List.mem_append_right _ (List.mem_append_right _ (List.mem_append_left _ (List.mem_of_getElem? (i := 112) rfl))))), rfl⟩
theorem mw_835 : (Jvm.Cond.methodLink "WardFallsLaw" (49 : Nat) ({ cls := "WardFalls", name := "ward", desc := "(II)I" } : Jvm.MethodName)) ∈ lw_good := List.mem_filter.mpr ⟨List.mem_append_right _ (List.mem_append_right _ (List.mem_append_right _ (List.mem_append_right _ (List.mem_append_left _ (List.mem_of_getElem? (i := 115) rfl))))), rfl⟩
theorem mw_836 : (Jvm.Cond.instanceMethod ({ cls := "WardFalls", name := "ward", desc := "(II)I" } : Jvm.MethodName)) ∈ lw_good := List.mem_filter.mpr ⟨List.mem_append_right _ (List.mem_append_right _ (List.mem_append_right _ (List.mem_append_right _ (List.mem_append_left _ (List.mem_of_getElem? (i := 116) rfl))))), rfl⟩
theorem mw_837 : (Jvm.Cond.selects "WardFalls" ({ cls := "WardFalls", name := "ward", desc := "(II)I" } : Jvm.MethodName) ({ cls := "WardFalls", name := "ward", desc := "(II)I" } : Jvm.MethodName)) ∈ lw_good := List.mem_filter.mpr ⟨List.mem_append_right _ (List.mem_append_right _ (List.mem_append_right _ (List.mem_append_right _ (List.mem_append_left _ (List.mem_of_getElem? (i := 117) rfl))))), rfl⟩
theorem mw_928 : (Jvm.Cond.methodLink "WardFallsLaw" (53 : Nat) ({ cls := "WardFalls", name := "thing", desc := "(II)I" } : Jvm.MethodName)) ∈ lw_good := List.mem_filter.mpr ⟨List.mem_append_right _ (List.mem_append_right _ (List.mem_append_right _ (List.mem_append_right _ (List.mem_append_left _ (List.mem_of_getElem? (i := 208) rfl))))), rfl⟩
theorem mw_929 : (Jvm.Cond.instanceMethod ({ cls := "WardFalls", name := "thing", desc := "(II)I" } : Jvm.MethodName)) ∈ lw_good := List.mem_filter.mpr ⟨List.mem_append_right _ (List.mem_append_right _ (List.mem_append_right _ (List.mem_append_right _ (List.mem_append_left _ (List.mem_of_getElem? (i := 209) rfl))))), rfl⟩
theorem mw_930 : (Jvm.Cond.selects "WardFalls" ({ cls := "WardFalls", name := "thing", desc := "(II)I" } : Jvm.MethodName) ({ cls := "WardFalls", name := "thing", desc := "(II)I" } : Jvm.MethodName)) ∈ lw_good := List.mem_filter.mpr ⟨List.mem_append_right _ (List.mem_append_right _ (List.mem_append_right _ (List.mem_append_right _ (List.mem_append_left _ (List.mem_of_getElem? (i := 210) rfl))))), rfl⟩
theorem mw_936 : (Jvm.Cond.methodLink "WardFallsLaw" (57 : Nat) ({ cls := "WardFalls", name := "law", desc := "(III)J" } : Jvm.MethodName)) ∈ lw_good := List.mem_filter.mpr ⟨List.mem_append_right _ (List.mem_append_right _ (List.mem_append_right _ (List.mem_append_right _ (List.mem_append_left _ (List.mem_of_getElem? (i := 216) rfl))))), rfl⟩
theorem mw_937 : (Jvm.Cond.instanceMethod ({ cls := "WardFalls", name := "law", desc := "(III)J" } : Jvm.MethodName)) ∈ lw_good := List.mem_filter.mpr ⟨List.mem_append_right _ (List.mem_append_right _ (List.mem_append_right _ (List.mem_append_right _ (List.mem_append_left _ (List.mem_of_getElem? (i := 217) rfl))))), rfl⟩
theorem mw_938 : (Jvm.Cond.selects "WardFalls" ({ cls := "WardFalls", name := "law", desc := "(III)J" } : Jvm.MethodName) ({ cls := "WardFalls", name := "law", desc := "(III)J" } : Jvm.MethodName)) ∈ lw_good := List.mem_filter.mpr ⟨List.mem_append_right _ (List.mem_append_right _ (List.mem_append_right _ (List.mem_append_right _ (List.mem_append_left _ (List.mem_of_getElem? (i := 218) rfl))))), rfl⟩
theorem mw_955 : (Jvm.Cond.methodLink "WardFallsLaw" (62 : Nat) ({ cls := "WardFalls", name := "rest", desc := "(I)I" } : Jvm.MethodName)) ∈ lw_good := List.mem_filter.mpr ⟨List.mem_append_right _ (List.mem_append_right _ (List.mem_append_right _ (List.mem_append_right _ (List.mem_append_left _ (List.mem_of_getElem? (i := 235) rfl))))), rfl⟩
theorem mw_956 : (Jvm.Cond.instanceMethod ({ cls := "WardFalls", name := "rest", desc := "(I)I" } : Jvm.MethodName)) ∈ lw_good := List.mem_filter.mpr ⟨List.mem_append_right _ (List.mem_append_right _ (List.mem_append_right _ (List.mem_append_right _ (List.mem_append_left _ (List.mem_of_getElem? (i := 236) rfl))))), rfl⟩
theorem mw_957 : (Jvm.Cond.selects "WardFalls" ({ cls := "WardFalls", name := "rest", desc := "(I)I" } : Jvm.MethodName) ({ cls := "WardFalls", name := "rest", desc := "(I)I" } : Jvm.MethodName)) ∈ lw_good := List.mem_filter.mpr ⟨List.mem_append_right _ (List.mem_append_right _ (List.mem_append_right _ (List.mem_append_right _ (List.mem_append_left _ (List.mem_of_getElem? (i := 237) rfl))))), rfl⟩
theorem mw_967 : (Jvm.Cond.methodLink "WardFallsLaw" (66 : Nat) ({ cls := "WardFalls", name := "way", desc := "(II)I" } : Jvm.MethodName)) ∈ lw_good := List.mem_filter.mpr ⟨List.mem_append_right _ (List.mem_append_right _ (List.mem_append_right _ (List.mem_append_right _ (List.mem_append_right _ (List.mem_append_left _ (List.mem_of_getElem? (i := 7) rfl)))))), rfl⟩
theorem mw_968 : (Jvm.Cond.instanceMethod ({ cls := "WardFalls", name := "way", desc := "(II)I" } : Jvm.MethodName)) ∈ lw_good := List.mem_filter.mpr ⟨List.mem_append_right _ (List.mem_append_right _ (List.mem_append_right _ (List.mem_append_right _ (List.mem_append_right _ (List.mem_append_left _ (List.mem_of_getElem? (i := 8) rfl)))))), rfl⟩
theorem mw_969 : (Jvm.Cond.selects "WardFalls" ({ cls := "WardFalls", name := "way", desc := "(II)I" } : Jvm.MethodName) ({ cls := "WardFalls", name := "way", desc := "(II)I" } : Jvm.MethodName)) ∈ lw_good := List.mem_filter.mpr ⟨List.mem_append_right _ (List.mem_append_right _ (List.mem_append_right _ (List.mem_append_right _ (List.mem_append_right _ (List.mem_append_left _ (List.mem_of_getElem? (i := 9) rfl)))))), rfl⟩
theorem mw_975 : (Jvm.Cond.methodLink "WardFallsLaw" (70 : Nat) ({ cls := "WardFalls", name := "falls", desc := "(II)I" } : Jvm.MethodName)) ∈ lw_good := List.mem_filter.mpr ⟨List.mem_append_right _ (List.mem_append_right _ (List.mem_append_right _ (List.mem_append_right _ (List.mem_append_right _ (List.mem_append_left _ (List.mem_of_getElem? (i := 15) rfl)))))), rfl⟩
theorem mw_976 : (Jvm.Cond.instanceMethod ({ cls := "WardFalls", name := "falls", desc := "(II)I" } : Jvm.MethodName)) ∈ lw_good := List.mem_filter.mpr ⟨List.mem_append_right _ (List.mem_append_right _ (List.mem_append_right _ (List.mem_append_right _ (List.mem_append_right _ (List.mem_append_left _ (List.mem_of_getElem? (i := 16) rfl)))))), rfl⟩
theorem mw_977 : (Jvm.Cond.selects "WardFalls" ({ cls := "WardFalls", name := "falls", desc := "(II)I" } : Jvm.MethodName) ({ cls := "WardFalls", name := "falls", desc := "(II)I" } : Jvm.MethodName)) ∈ lw_good := List.mem_filter.mpr ⟨List.mem_append_right _ (List.mem_append_right _ (List.mem_append_right _ (List.mem_append_right _ (List.mem_append_right _ (List.mem_append_left _ (List.mem_of_getElem? (i := 17) rfl)))))), rfl⟩
theorem mw_979 : (Jvm.Cond.methodLink "WardFallsLaw" (74 : Nat) ({ cls := "WardFalls", name := "beats", desc := "(I)I" } : Jvm.MethodName)) ∈ lw_good := List.mem_filter.mpr ⟨List.mem_append_right _ (List.mem_append_right _ (List.mem_append_right _ (List.mem_append_right _ (List.mem_append_right _ (List.mem_append_left _ (List.mem_of_getElem? (i := 19) rfl)))))), rfl⟩
theorem mw_980 : (Jvm.Cond.instanceMethod ({ cls := "WardFalls", name := "beats", desc := "(I)I" } : Jvm.MethodName)) ∈ lw_good := List.mem_filter.mpr ⟨List.mem_append_right _ (List.mem_append_right _ (List.mem_append_right _ (List.mem_append_right _ (List.mem_append_right _ (List.mem_append_left _ (List.mem_of_getElem? (i := 20) rfl)))))), rfl⟩
theorem mw_981 : (Jvm.Cond.selects "WardFalls" ({ cls := "WardFalls", name := "beats", desc := "(I)I" } : Jvm.MethodName) ({ cls := "WardFalls", name := "beats", desc := "(I)I" } : Jvm.MethodName)) ∈ lw_good := List.mem_filter.mpr ⟨List.mem_append_right _ (List.mem_append_right _ (List.mem_append_right _ (List.mem_append_right _ (List.mem_append_right _ (List.mem_append_left _ (List.mem_of_getElem? (i := 21) rfl)))))), rfl⟩
theorem mw_991 : (Jvm.Cond.methodLink "WardFallsLaw" (78 : Nat) ({ cls := "WardFalls", name := "vote", desc := "(II)Z" } : Jvm.MethodName)) ∈ lw_good := List.mem_filter.mpr ⟨List.mem_append_right _ (List.mem_append_right _ (List.mem_append_right _ (List.mem_append_right _ (List.mem_append_right _ (List.mem_append_left _ (List.mem_of_getElem? (i := 31) rfl)))))), rfl⟩
theorem mw_992 : (Jvm.Cond.instanceMethod ({ cls := "WardFalls", name := "vote", desc := "(II)Z" } : Jvm.MethodName)) ∈ lw_good := List.mem_filter.mpr ⟨List.mem_append_right _ (List.mem_append_right _ (List.mem_append_right _ (List.mem_append_right _ (List.mem_append_right _ (List.mem_append_left _ (List.mem_of_getElem? (i := 32) rfl)))))), rfl⟩
theorem mw_993 : (Jvm.Cond.selects "WardFalls" ({ cls := "WardFalls", name := "vote", desc := "(II)Z" } : Jvm.MethodName) ({ cls := "WardFalls", name := "vote", desc := "(II)Z" } : Jvm.MethodName)) ∈ lw_good := List.mem_filter.mpr ⟨List.mem_append_right _ (List.mem_append_right _ (List.mem_append_right _ (List.mem_append_right _ (List.mem_append_right _ (List.mem_append_left _ (List.mem_of_getElem? (i := 33) rfl)))))), rfl⟩

theorem hd_MO_back : y_MO_back.cls ≠ "java/lang/invoke/MethodHandle" ∧ y_MO_back.cls ≠ "java/lang/invoke/VarHandle" ∧ (parseMethodDescriptor y_MO_back.desc).map (fun d => d.parameters.length) = some 0 := by decide +kernel
theorem hd_MO_beats : y_MO_beats.cls ≠ "java/lang/invoke/MethodHandle" ∧ y_MO_beats.cls ≠ "java/lang/invoke/VarHandle" ∧ (parseMethodDescriptor y_MO_beats.desc).map (fun d => d.parameters.length) = some 1 := by decide +kernel
theorem hd_MO_cell : y_MO_cell.cls ≠ "java/lang/invoke/MethodHandle" ∧ y_MO_cell.cls ≠ "java/lang/invoke/VarHandle" ∧ (parseMethodDescriptor y_MO_cell.desc).map (fun d => d.parameters.length) = some 2 := by decide +kernel
theorem hd_MO_clock : y_MO_clock.cls ≠ "java/lang/invoke/MethodHandle" ∧ y_MO_clock.cls ≠ "java/lang/invoke/VarHandle" ∧ (parseMethodDescriptor y_MO_clock.desc).map (fun d => d.parameters.length) = some 1 := by decide +kernel
theorem hd_MO_count : y_MO_count.cls ≠ "java/lang/invoke/MethodHandle" ∧ y_MO_count.cls ≠ "java/lang/invoke/VarHandle" ∧ (parseMethodDescriptor y_MO_count.desc).map (fun d => d.parameters.length) = some 1 := by decide +kernel
theorem hd_MO_drain : y_MO_drain.cls ≠ "java/lang/invoke/MethodHandle" ∧ y_MO_drain.cls ≠ "java/lang/invoke/VarHandle" ∧ (parseMethodDescriptor y_MO_drain.desc).map (fun d => d.parameters.length) = some 0 := by decide +kernel
theorem hd_MO_falls : y_MO_falls.cls ≠ "java/lang/invoke/MethodHandle" ∧ y_MO_falls.cls ≠ "java/lang/invoke/VarHandle" ∧ (parseMethodDescriptor y_MO_falls.desc).map (fun d => d.parameters.length) = some 2 := by decide +kernel
theorem hd_MO_fault : y_MO_fault.cls ≠ "java/lang/invoke/MethodHandle" ∧ y_MO_fault.cls ≠ "java/lang/invoke/VarHandle" ∧ (parseMethodDescriptor y_MO_fault.desc).map (fun d => d.parameters.length) = some 1 := by decide +kernel
theorem hd_MO_feed : y_MO_feed.cls ≠ "java/lang/invoke/MethodHandle" ∧ y_MO_feed.cls ≠ "java/lang/invoke/VarHandle" ∧ (parseMethodDescriptor y_MO_feed.desc).map (fun d => d.parameters.length) = some 5 := by decide +kernel
theorem hd_MO_fits : y_MO_fits.cls ≠ "java/lang/invoke/MethodHandle" ∧ y_MO_fits.cls ≠ "java/lang/invoke/VarHandle" ∧ (parseMethodDescriptor y_MO_fits.desc).map (fun d => d.parameters.length) = some 0 := by decide +kernel
theorem hd_MO_flood : y_MO_flood.cls ≠ "java/lang/invoke/MethodHandle" ∧ y_MO_flood.cls ≠ "java/lang/invoke/VarHandle" ∧ (parseMethodDescriptor y_MO_flood.desc).map (fun d => d.parameters.length) = some 2 := by decide +kernel
theorem hd_MO_keep : y_MO_keep.cls ≠ "java/lang/invoke/MethodHandle" ∧ y_MO_keep.cls ≠ "java/lang/invoke/VarHandle" ∧ (parseMethodDescriptor y_MO_keep.desc).map (fun d => d.parameters.length) = some 0 := by decide +kernel
theorem hd_MO_known : y_MO_known.cls ≠ "java/lang/invoke/MethodHandle" ∧ y_MO_known.cls ≠ "java/lang/invoke/VarHandle" ∧ (parseMethodDescriptor y_MO_known.desc).map (fun d => d.parameters.length) = some 1 := by decide +kernel
theorem hd_MO_law : y_MO_law.cls ≠ "java/lang/invoke/MethodHandle" ∧ y_MO_law.cls ≠ "java/lang/invoke/VarHandle" ∧ (parseMethodDescriptor y_MO_law.desc).map (fun d => d.parameters.length) = some 3 := by decide +kernel
theorem hd_MO_lay : y_MO_lay.cls ≠ "java/lang/invoke/MethodHandle" ∧ y_MO_lay.cls ≠ "java/lang/invoke/VarHandle" ∧ (parseMethodDescriptor y_MO_lay.desc).map (fun d => d.parameters.length) = some 2 := by decide +kernel
theorem hd_MO_may : y_MO_may.cls ≠ "java/lang/invoke/MethodHandle" ∧ y_MO_may.cls ≠ "java/lang/invoke/VarHandle" ∧ (parseMethodDescriptor y_MO_may.desc).map (fun d => d.parameters.length) = some 1 := by decide +kernel
theorem hd_MO_moves : y_MO_moves.cls ≠ "java/lang/invoke/MethodHandle" ∧ y_MO_moves.cls ≠ "java/lang/invoke/VarHandle" ∧ (parseMethodDescriptor y_MO_moves.desc).map (fun d => d.parameters.length) = some 2 := by decide +kernel
theorem hd_MO_named : y_MO_named.cls ≠ "java/lang/invoke/MethodHandle" ∧ y_MO_named.cls ≠ "java/lang/invoke/VarHandle" ∧ (parseMethodDescriptor y_MO_named.desc).map (fun d => d.parameters.length) = some 2 := by decide +kernel
theorem hd_MO_net : y_MO_net.cls ≠ "java/lang/invoke/MethodHandle" ∧ y_MO_net.cls ≠ "java/lang/invoke/VarHandle" ∧ (parseMethodDescriptor y_MO_net.desc).map (fun d => d.parameters.length) = some 2 := by decide +kernel
theorem hd_MO_nets : y_MO_nets.cls ≠ "java/lang/invoke/MethodHandle" ∧ y_MO_nets.cls ≠ "java/lang/invoke/VarHandle" ∧ (parseMethodDescriptor y_MO_nets.desc).map (fun d => d.parameters.length) = some 0 := by decide +kernel
theorem hd_MO_note : y_MO_note.cls ≠ "java/lang/invoke/MethodHandle" ∧ y_MO_note.cls ≠ "java/lang/invoke/VarHandle" ∧ (parseMethodDescriptor y_MO_note.desc).map (fun d => d.parameters.length) = some 2 := by decide +kernel
theorem hd_MO_pour : y_MO_pour.cls ≠ "java/lang/invoke/MethodHandle" ∧ y_MO_pour.cls ≠ "java/lang/invoke/VarHandle" ∧ (parseMethodDescriptor y_MO_pour.desc).map (fun d => d.parameters.length) = some 2 := by decide +kernel
theorem hd_MO_push : y_MO_push.cls ≠ "java/lang/invoke/MethodHandle" ∧ y_MO_push.cls ≠ "java/lang/invoke/VarHandle" ∧ (parseMethodDescriptor y_MO_push.desc).map (fun d => d.parameters.length) = some 3 := by decide +kernel
theorem hd_MO_pushed : y_MO_pushed.cls ≠ "java/lang/invoke/MethodHandle" ∧ y_MO_pushed.cls ≠ "java/lang/invoke/VarHandle" ∧ (parseMethodDescriptor y_MO_pushed.desc).map (fun d => d.parameters.length) = some 3 := by decide +kernel
theorem hd_MO_rest : y_MO_rest.cls ≠ "java/lang/invoke/MethodHandle" ∧ y_MO_rest.cls ≠ "java/lang/invoke/VarHandle" ∧ (parseMethodDescriptor y_MO_rest.desc).map (fun d => d.parameters.length) = some 1 := by decide +kernel
theorem hd_MO_stay : y_MO_stay.cls ≠ "java/lang/invoke/MethodHandle" ∧ y_MO_stay.cls ≠ "java/lang/invoke/VarHandle" ∧ (parseMethodDescriptor y_MO_stay.desc).map (fun d => d.parameters.length) = some 1 := by decide +kernel
theorem hd_MO_stays : y_MO_stays.cls ≠ "java/lang/invoke/MethodHandle" ∧ y_MO_stays.cls ≠ "java/lang/invoke/VarHandle" ∧ (parseMethodDescriptor y_MO_stays.desc).map (fun d => d.parameters.length) = some 0 := by decide +kernel
theorem hd_MO_step : y_MO_step.cls ≠ "java/lang/invoke/MethodHandle" ∧ y_MO_step.cls ≠ "java/lang/invoke/VarHandle" ∧ (parseMethodDescriptor y_MO_step.desc).map (fun d => d.parameters.length) = some 3 := by decide +kernel
theorem hd_MO_strike : y_MO_strike.cls ≠ "java/lang/invoke/MethodHandle" ∧ y_MO_strike.cls ≠ "java/lang/invoke/VarHandle" ∧ (parseMethodDescriptor y_MO_strike.desc).map (fun d => d.parameters.length) = some 1 := by decide +kernel
theorem hd_MO_text : y_MO_text.cls ≠ "java/lang/invoke/MethodHandle" ∧ y_MO_text.cls ≠ "java/lang/invoke/VarHandle" ∧ (parseMethodDescriptor y_MO_text.desc).map (fun d => d.parameters.length) = some 1 := by decide +kernel
theorem hd_MO_thing : y_MO_thing.cls ≠ "java/lang/invoke/MethodHandle" ∧ y_MO_thing.cls ≠ "java/lang/invoke/VarHandle" ∧ (parseMethodDescriptor y_MO_thing.desc).map (fun d => d.parameters.length) = some 2 := by decide +kernel
theorem hd_MO_thrown : y_MO_thrown.cls ≠ "java/lang/invoke/MethodHandle" ∧ y_MO_thrown.cls ≠ "java/lang/invoke/VarHandle" ∧ (parseMethodDescriptor y_MO_thrown.desc).map (fun d => d.parameters.length) = some 0 := by decide +kernel
theorem hd_MO_treaty : y_MO_treaty.cls ≠ "java/lang/invoke/MethodHandle" ∧ y_MO_treaty.cls ≠ "java/lang/invoke/VarHandle" ∧ (parseMethodDescriptor y_MO_treaty.desc).map (fun d => d.parameters.length) = some 1 := by decide +kernel
theorem hd_MO_tried : y_MO_tried.cls ≠ "java/lang/invoke/MethodHandle" ∧ y_MO_tried.cls ≠ "java/lang/invoke/VarHandle" ∧ (parseMethodDescriptor y_MO_tried.desc).map (fun d => d.parameters.length) = some 3 := by decide +kernel
theorem hd_MO_undo : y_MO_undo.cls ≠ "java/lang/invoke/MethodHandle" ∧ y_MO_undo.cls ≠ "java/lang/invoke/VarHandle" ∧ (parseMethodDescriptor y_MO_undo.desc).map (fun d => d.parameters.length) = some 0 := by decide +kernel
theorem hd_MO_vote : y_MO_vote.cls ≠ "java/lang/invoke/MethodHandle" ∧ y_MO_vote.cls ≠ "java/lang/invoke/VarHandle" ∧ (parseMethodDescriptor y_MO_vote.desc).map (fun d => d.parameters.length) = some 2 := by decide +kernel
theorem hd_MO_voted : y_MO_voted.cls ≠ "java/lang/invoke/MethodHandle" ∧ y_MO_voted.cls ≠ "java/lang/invoke/VarHandle" ∧ (parseMethodDescriptor y_MO_voted.desc).map (fun d => d.parameters.length) = some 2 := by decide +kernel
theorem hd_MO_walk : y_MO_walk.cls ≠ "java/lang/invoke/MethodHandle" ∧ y_MO_walk.cls ≠ "java/lang/invoke/VarHandle" ∧ (parseMethodDescriptor y_MO_walk.desc).map (fun d => d.parameters.length) = some 2 := by decide +kernel
theorem hd_MO_war : y_MO_war.cls ≠ "java/lang/invoke/MethodHandle" ∧ y_MO_war.cls ≠ "java/lang/invoke/VarHandle" ∧ (parseMethodDescriptor y_MO_war.desc).map (fun d => d.parameters.length) = some 2 := by decide +kernel
theorem hd_MO_ward : y_MO_ward.cls ≠ "java/lang/invoke/MethodHandle" ∧ y_MO_ward.cls ≠ "java/lang/invoke/VarHandle" ∧ (parseMethodDescriptor y_MO_ward.desc).map (fun d => d.parameters.length) = some 2 := by decide +kernel
theorem hd_MO_way : y_MO_way.cls ≠ "java/lang/invoke/MethodHandle" ∧ y_MO_way.cls ≠ "java/lang/invoke/VarHandle" ∧ (parseMethodDescriptor y_MO_way.desc).map (fun d => d.parameters.length) = some 2 := by decide +kernel
theorem hd_MO_years : y_MO_years.cls ≠ "java/lang/invoke/MethodHandle" ∧ y_MO_years.cls ≠ "java/lang/invoke/VarHandle" ∧ (parseMethodDescriptor y_MO_years.desc).map (fun d => d.parameters.length) = some 1 := by decide +kernel
theorem hd_WF_back : y_WF_back.cls ≠ "java/lang/invoke/MethodHandle" ∧ y_WF_back.cls ≠ "java/lang/invoke/VarHandle" ∧ (parseMethodDescriptor y_WF_back.desc).map (fun d => d.parameters.length) = some 0 := by decide +kernel
theorem hd_WF_beats : y_WF_beats.cls ≠ "java/lang/invoke/MethodHandle" ∧ y_WF_beats.cls ≠ "java/lang/invoke/VarHandle" ∧ (parseMethodDescriptor y_WF_beats.desc).map (fun d => d.parameters.length) = some 1 := by decide +kernel
theorem hd_WF_clock : y_WF_clock.cls ≠ "java/lang/invoke/MethodHandle" ∧ y_WF_clock.cls ≠ "java/lang/invoke/VarHandle" ∧ (parseMethodDescriptor y_WF_clock.desc).map (fun d => d.parameters.length) = some 1 := by decide +kernel
theorem hd_WF_count : y_WF_count.cls ≠ "java/lang/invoke/MethodHandle" ∧ y_WF_count.cls ≠ "java/lang/invoke/VarHandle" ∧ (parseMethodDescriptor y_WF_count.desc).map (fun d => d.parameters.length) = some 1 := by decide +kernel
theorem hd_WF_drain : y_WF_drain.cls ≠ "java/lang/invoke/MethodHandle" ∧ y_WF_drain.cls ≠ "java/lang/invoke/VarHandle" ∧ (parseMethodDescriptor y_WF_drain.desc).map (fun d => d.parameters.length) = some 0 := by decide +kernel
theorem hd_WF_falls : y_WF_falls.cls ≠ "java/lang/invoke/MethodHandle" ∧ y_WF_falls.cls ≠ "java/lang/invoke/VarHandle" ∧ (parseMethodDescriptor y_WF_falls.desc).map (fun d => d.parameters.length) = some 2 := by decide +kernel
theorem hd_WF_fault : y_WF_fault.cls ≠ "java/lang/invoke/MethodHandle" ∧ y_WF_fault.cls ≠ "java/lang/invoke/VarHandle" ∧ (parseMethodDescriptor y_WF_fault.desc).map (fun d => d.parameters.length) = some 1 := by decide +kernel
theorem hd_WF_feed : y_WF_feed.cls ≠ "java/lang/invoke/MethodHandle" ∧ y_WF_feed.cls ≠ "java/lang/invoke/VarHandle" ∧ (parseMethodDescriptor y_WF_feed.desc).map (fun d => d.parameters.length) = some 5 := by decide +kernel
theorem hd_WF_fits : y_WF_fits.cls ≠ "java/lang/invoke/MethodHandle" ∧ y_WF_fits.cls ≠ "java/lang/invoke/VarHandle" ∧ (parseMethodDescriptor y_WF_fits.desc).map (fun d => d.parameters.length) = some 0 := by decide +kernel
theorem hd_WF_flood : y_WF_flood.cls ≠ "java/lang/invoke/MethodHandle" ∧ y_WF_flood.cls ≠ "java/lang/invoke/VarHandle" ∧ (parseMethodDescriptor y_WF_flood.desc).map (fun d => d.parameters.length) = some 2 := by decide +kernel
theorem hd_WF_keep : y_WF_keep.cls ≠ "java/lang/invoke/MethodHandle" ∧ y_WF_keep.cls ≠ "java/lang/invoke/VarHandle" ∧ (parseMethodDescriptor y_WF_keep.desc).map (fun d => d.parameters.length) = some 0 := by decide +kernel
theorem hd_WF_known : y_WF_known.cls ≠ "java/lang/invoke/MethodHandle" ∧ y_WF_known.cls ≠ "java/lang/invoke/VarHandle" ∧ (parseMethodDescriptor y_WF_known.desc).map (fun d => d.parameters.length) = some 1 := by decide +kernel
theorem hd_WF_law : y_WF_law.cls ≠ "java/lang/invoke/MethodHandle" ∧ y_WF_law.cls ≠ "java/lang/invoke/VarHandle" ∧ (parseMethodDescriptor y_WF_law.desc).map (fun d => d.parameters.length) = some 3 := by decide +kernel
theorem hd_WF_lay : y_WF_lay.cls ≠ "java/lang/invoke/MethodHandle" ∧ y_WF_lay.cls ≠ "java/lang/invoke/VarHandle" ∧ (parseMethodDescriptor y_WF_lay.desc).map (fun d => d.parameters.length) = some 2 := by decide +kernel
theorem hd_WF_may : y_WF_may.cls ≠ "java/lang/invoke/MethodHandle" ∧ y_WF_may.cls ≠ "java/lang/invoke/VarHandle" ∧ (parseMethodDescriptor y_WF_may.desc).map (fun d => d.parameters.length) = some 1 := by decide +kernel
theorem hd_WF_moves : y_WF_moves.cls ≠ "java/lang/invoke/MethodHandle" ∧ y_WF_moves.cls ≠ "java/lang/invoke/VarHandle" ∧ (parseMethodDescriptor y_WF_moves.desc).map (fun d => d.parameters.length) = some 2 := by decide +kernel
theorem hd_WF_named : y_WF_named.cls ≠ "java/lang/invoke/MethodHandle" ∧ y_WF_named.cls ≠ "java/lang/invoke/VarHandle" ∧ (parseMethodDescriptor y_WF_named.desc).map (fun d => d.parameters.length) = some 2 := by decide +kernel
theorem hd_WF_net : y_WF_net.cls ≠ "java/lang/invoke/MethodHandle" ∧ y_WF_net.cls ≠ "java/lang/invoke/VarHandle" ∧ (parseMethodDescriptor y_WF_net.desc).map (fun d => d.parameters.length) = some 2 := by decide +kernel
theorem hd_WF_nets : y_WF_nets.cls ≠ "java/lang/invoke/MethodHandle" ∧ y_WF_nets.cls ≠ "java/lang/invoke/VarHandle" ∧ (parseMethodDescriptor y_WF_nets.desc).map (fun d => d.parameters.length) = some 0 := by decide +kernel
theorem hd_WF_note : y_WF_note.cls ≠ "java/lang/invoke/MethodHandle" ∧ y_WF_note.cls ≠ "java/lang/invoke/VarHandle" ∧ (parseMethodDescriptor y_WF_note.desc).map (fun d => d.parameters.length) = some 2 := by decide +kernel
theorem hd_WF_pour : y_WF_pour.cls ≠ "java/lang/invoke/MethodHandle" ∧ y_WF_pour.cls ≠ "java/lang/invoke/VarHandle" ∧ (parseMethodDescriptor y_WF_pour.desc).map (fun d => d.parameters.length) = some 2 := by decide +kernel
theorem hd_WF_push : y_WF_push.cls ≠ "java/lang/invoke/MethodHandle" ∧ y_WF_push.cls ≠ "java/lang/invoke/VarHandle" ∧ (parseMethodDescriptor y_WF_push.desc).map (fun d => d.parameters.length) = some 3 := by decide +kernel
theorem hd_WF_pushed : y_WF_pushed.cls ≠ "java/lang/invoke/MethodHandle" ∧ y_WF_pushed.cls ≠ "java/lang/invoke/VarHandle" ∧ (parseMethodDescriptor y_WF_pushed.desc).map (fun d => d.parameters.length) = some 3 := by decide +kernel
theorem hd_WF_rest : y_WF_rest.cls ≠ "java/lang/invoke/MethodHandle" ∧ y_WF_rest.cls ≠ "java/lang/invoke/VarHandle" ∧ (parseMethodDescriptor y_WF_rest.desc).map (fun d => d.parameters.length) = some 1 := by decide +kernel
theorem hd_WF_stay : y_WF_stay.cls ≠ "java/lang/invoke/MethodHandle" ∧ y_WF_stay.cls ≠ "java/lang/invoke/VarHandle" ∧ (parseMethodDescriptor y_WF_stay.desc).map (fun d => d.parameters.length) = some 1 := by decide +kernel
theorem hd_WF_stays : y_WF_stays.cls ≠ "java/lang/invoke/MethodHandle" ∧ y_WF_stays.cls ≠ "java/lang/invoke/VarHandle" ∧ (parseMethodDescriptor y_WF_stays.desc).map (fun d => d.parameters.length) = some 0 := by decide +kernel
theorem hd_WF_step : y_WF_step.cls ≠ "java/lang/invoke/MethodHandle" ∧ y_WF_step.cls ≠ "java/lang/invoke/VarHandle" ∧ (parseMethodDescriptor y_WF_step.desc).map (fun d => d.parameters.length) = some 3 := by decide +kernel
theorem hd_WF_strike : y_WF_strike.cls ≠ "java/lang/invoke/MethodHandle" ∧ y_WF_strike.cls ≠ "java/lang/invoke/VarHandle" ∧ (parseMethodDescriptor y_WF_strike.desc).map (fun d => d.parameters.length) = some 1 := by decide +kernel
theorem hd_WF_text : y_WF_text.cls ≠ "java/lang/invoke/MethodHandle" ∧ y_WF_text.cls ≠ "java/lang/invoke/VarHandle" ∧ (parseMethodDescriptor y_WF_text.desc).map (fun d => d.parameters.length) = some 1 := by decide +kernel
theorem hd_WF_thing : y_WF_thing.cls ≠ "java/lang/invoke/MethodHandle" ∧ y_WF_thing.cls ≠ "java/lang/invoke/VarHandle" ∧ (parseMethodDescriptor y_WF_thing.desc).map (fun d => d.parameters.length) = some 2 := by decide +kernel
theorem hd_WF_treaty : y_WF_treaty.cls ≠ "java/lang/invoke/MethodHandle" ∧ y_WF_treaty.cls ≠ "java/lang/invoke/VarHandle" ∧ (parseMethodDescriptor y_WF_treaty.desc).map (fun d => d.parameters.length) = some 1 := by decide +kernel
theorem hd_WF_tried : y_WF_tried.cls ≠ "java/lang/invoke/MethodHandle" ∧ y_WF_tried.cls ≠ "java/lang/invoke/VarHandle" ∧ (parseMethodDescriptor y_WF_tried.desc).map (fun d => d.parameters.length) = some 3 := by decide +kernel
theorem hd_WF_undo : y_WF_undo.cls ≠ "java/lang/invoke/MethodHandle" ∧ y_WF_undo.cls ≠ "java/lang/invoke/VarHandle" ∧ (parseMethodDescriptor y_WF_undo.desc).map (fun d => d.parameters.length) = some 0 := by decide +kernel
theorem hd_WF_vote : y_WF_vote.cls ≠ "java/lang/invoke/MethodHandle" ∧ y_WF_vote.cls ≠ "java/lang/invoke/VarHandle" ∧ (parseMethodDescriptor y_WF_vote.desc).map (fun d => d.parameters.length) = some 2 := by decide +kernel
theorem hd_WF_voted : y_WF_voted.cls ≠ "java/lang/invoke/MethodHandle" ∧ y_WF_voted.cls ≠ "java/lang/invoke/VarHandle" ∧ (parseMethodDescriptor y_WF_voted.desc).map (fun d => d.parameters.length) = some 2 := by decide +kernel
theorem hd_WF_walk : y_WF_walk.cls ≠ "java/lang/invoke/MethodHandle" ∧ y_WF_walk.cls ≠ "java/lang/invoke/VarHandle" ∧ (parseMethodDescriptor y_WF_walk.desc).map (fun d => d.parameters.length) = some 2 := by decide +kernel
theorem hd_WF_war : y_WF_war.cls ≠ "java/lang/invoke/MethodHandle" ∧ y_WF_war.cls ≠ "java/lang/invoke/VarHandle" ∧ (parseMethodDescriptor y_WF_war.desc).map (fun d => d.parameters.length) = some 2 := by decide +kernel
theorem hd_WF_ward : y_WF_ward.cls ≠ "java/lang/invoke/MethodHandle" ∧ y_WF_ward.cls ≠ "java/lang/invoke/VarHandle" ∧ (parseMethodDescriptor y_WF_ward.desc).map (fun d => d.parameters.length) = some 2 := by decide +kernel
theorem hd_WF_way : y_WF_way.cls ≠ "java/lang/invoke/MethodHandle" ∧ y_WF_way.cls ≠ "java/lang/invoke/VarHandle" ∧ (parseMethodDescriptor y_WF_way.desc).map (fun d => d.parameters.length) = some 2 := by decide +kernel
theorem hd_WF_years : y_WF_years.cls ≠ "java/lang/invoke/MethodHandle" ∧ y_WF_years.cls ≠ "java/lang/invoke/VarHandle" ∧ (parseMethodDescriptor y_WF_years.desc).map (fun d => d.parameters.length) = some 1 := by decide +kernel
theorem gs_WardFallsLaw_100 : GoodIn lw_good (wsV "WardFallsLaw" 100 y_WF_flood.cls y_WF_flood (wsM y_WF_flood b_WF_flood 3 (some .long))) := good_V mw_1036 mw_1033 mw_1034 mw_1035 mw_1
theorem gs_WardFallsLaw_104 : GoodIn lw_good (wsV "WardFallsLaw" 104 y_MO_flood.cls y_MO_flood (wsM y_MO_flood b_MO_flood 3 (some .long))) := good_V mw_1933 mw_1930 mw_1931 mw_1932 mw_16
theorem gs_WardFallsLaw_105 : GoodIn lw_good (wsV "WardFallsLaw" 105 y_WF_walk.cls y_WF_walk (wsM y_WF_walk b_WF_walk 3 (some .int))) := good_V mw_1041 mw_1038 mw_1039 mw_1040 mw_1
theorem gs_WardFallsLaw_108 : GoodIn lw_good (wsV "WardFallsLaw" 108 y_MO_walk.cls y_MO_walk (wsM y_MO_walk b_MO_walk 3 (some .int))) := good_V mw_1938 mw_1935 mw_1936 mw_1937 mw_16
theorem gs_WardFallsLaw_109 : GoodIn lw_good (wsV "WardFallsLaw" 109 y_WF_step.cls y_WF_step (wsM y_WF_step b_WF_step 4 (some .int))) := good_V mw_1083 mw_1080 mw_1081 mw_1082 mw_1
theorem gs_WardFallsLaw_113 : GoodIn lw_good (wsV "WardFallsLaw" 113 y_MO_step.cls y_MO_step (wsM y_MO_step b_MO_step 7 (some .int))) := good_V mw_1955 mw_1952 mw_1953 mw_1954 mw_16
theorem gs_WardFallsLaw_114 : GoodIn lw_good (wsV "WardFallsLaw" 114 y_WF_push.cls y_WF_push (wsM y_WF_push b_WF_push 4 (some .int))) := good_V mw_1091 mw_1088 mw_1089 mw_1090 mw_1
theorem gs_WardFallsLaw_117 : GoodIn lw_good (wsV "WardFallsLaw" 117 y_MO_push.cls y_MO_push (wsM y_MO_push b_MO_push 4 (some .int))) := good_V mw_1959 mw_1956 mw_1957 mw_1958 mw_16
theorem gs_WardFallsLaw_118 : GoodIn lw_good (wsV "WardFallsLaw" 118 y_WF_pushed.cls y_WF_pushed (wsM y_WF_pushed b_WF_pushed 4 (some .int))) := good_V mw_1107 mw_1104 mw_1105 mw_1106 mw_1
theorem gs_WardFallsLaw_121 : GoodIn lw_good (wsV "WardFallsLaw" 121 y_MO_pushed.cls y_MO_pushed (wsM y_MO_pushed b_MO_pushed 7 (some .int))) := good_V mw_1971 mw_1968 mw_1969 mw_1970 mw_16
theorem gs_WardFallsLaw_122 : GoodIn lw_good (wsV "WardFallsLaw" 122 y_WF_war.cls y_WF_war (wsM y_WF_war b_WF_war 5 (some .int))) := good_V mw_1111 mw_1108 mw_1109 mw_1110 mw_1
theorem gs_WardFallsLaw_125 : GoodIn lw_good (wsV "WardFallsLaw" 125 y_MO_war.cls y_MO_war (wsM y_MO_war b_MO_war 5 (some .int))) := good_V mw_1979 mw_1976 mw_1977 mw_1978 mw_16
theorem gs_WardFallsLaw_126 : GoodIn lw_good (wsV "WardFallsLaw" 126 y_WF_nets.cls y_WF_nets (wsM y_WF_nets b_WF_nets 5 (some .long))) := good_V mw_1121 mw_1118 mw_1119 mw_1120 mw_1
theorem gs_WardFallsLaw_130 : GoodIn lw_good (wsV "WardFallsLaw" 130 y_MO_nets.cls y_MO_nets (wsM y_MO_nets b_MO_nets 5 (some .long))) := good_V mw_1983 mw_1980 mw_1981 mw_1982 mw_16
theorem gs_WardFallsLaw_131 : GoodIn lw_good (wsV "WardFallsLaw" 131 y_WF_clock.cls y_WF_clock (wsM y_WF_clock b_WF_clock 2 (some .int))) := good_V mw_1127 mw_1124 mw_1125 mw_1126 mw_1
theorem gs_WardFallsLaw_134 : GoodIn lw_good (wsV "WardFallsLaw" 134 y_MO_clock.cls y_MO_clock (wsM y_MO_clock b_MO_clock 9 (some .int))) := good_V mw_1987 mw_1984 mw_1985 mw_1986 mw_16
theorem gs_WardFallsLaw_135 : GoodIn lw_good (wsV "WardFallsLaw" 135 y_WF_stays.cls y_WF_stays (wsM y_WF_stays b_WF_stays 3 (some .int))) := good_V mw_1140 mw_1137 mw_1138 mw_1139 mw_1
theorem gs_WardFallsLaw_138 : GoodIn lw_good (wsV "WardFallsLaw" 138 y_MO_stays.cls y_MO_stays (wsM y_MO_stays b_MO_stays 1 (some .int))) := good_V mw_1995 mw_1992 mw_1993 mw_1994 mw_16
theorem gs_WardFallsLaw_139 : GoodIn lw_good (wsV "WardFallsLaw" 139 y_WF_stay.cls y_WF_stay (wsM y_WF_stay b_WF_stay 4 (some .int))) := good_V mw_1163 mw_1160 mw_1161 mw_1162 mw_1
theorem gs_WardFallsLaw_142 : GoodIn lw_good (wsV "WardFallsLaw" 142 y_MO_stay.cls y_MO_stay (wsM y_MO_stay b_MO_stay 2 (some .int))) := good_V mw_2018 mw_2015 mw_2016 mw_2017 mw_16
theorem gs_WardFallsLaw_143 : GoodIn lw_good (wsV "WardFallsLaw" 143 y_WF_treaty.cls y_WF_treaty (wsM y_WF_treaty b_WF_treaty 6 (some .int))) := good_V mw_1167 mw_1164 mw_1165 mw_1166 mw_1
theorem gs_WardFallsLaw_146 : GoodIn lw_good (wsV "WardFallsLaw" 146 y_MO_treaty.cls y_MO_treaty (wsM y_MO_treaty b_MO_treaty 8 (some .int))) := good_V mw_2022 mw_2019 mw_2020 mw_2021 mw_16
theorem gs_WardFallsLaw_147 : GoodIn lw_good (wsV "WardFallsLaw" 147 y_WF_moves.cls y_WF_moves (wsM y_WF_moves b_WF_moves 6 (some .int))) := good_V mw_1176 mw_1173 mw_1174 mw_1175 mw_1
theorem gs_WardFallsLaw_150 : GoodIn lw_good (wsV "WardFallsLaw" 150 y_MO_moves.cls y_MO_moves (wsM y_MO_moves b_MO_moves 5 (some .int))) := good_V mw_2026 mw_2023 mw_2024 mw_2025 mw_16
theorem gs_WardFallsLaw_151 : GoodIn lw_good (wsV "WardFallsLaw" 151 y_WF_note.cls y_WF_note (wsM y_WF_note b_WF_note 3 (some .int))) := good_V mw_1181 mw_1178 mw_1179 mw_1180 mw_1
theorem gs_WardFallsLaw_154 : GoodIn lw_good (wsV "WardFallsLaw" 154 y_MO_note.cls y_MO_note (wsM y_MO_note b_MO_note 3 (some .int))) := good_V mw_2034 mw_2031 mw_2032 mw_2033 mw_16
theorem gs_WardFallsLaw_155 : GoodIn lw_good (wsV "WardFallsLaw" 155 y_WF_strike.cls y_WF_strike (wsM y_WF_strike b_WF_strike 2 (some .int))) := good_V mw_1190 mw_1187 mw_1188 mw_1189 mw_1
theorem gs_WardFallsLaw_158 : GoodIn lw_good (wsV "WardFallsLaw" 158 y_MO_strike.cls y_MO_strike (wsM y_MO_strike b_MO_strike 2 (some .int))) := good_V mw_2038 mw_2035 mw_2036 mw_2037 mw_16
theorem gs_WardFallsLaw_159 : GoodIn lw_good (wsV "WardFallsLaw" 159 y_WF_known.cls y_WF_known (wsM y_WF_known b_WF_known 2 (some .boolean))) := good_V mw_1194 mw_1191 mw_1192 mw_1193 mw_1
theorem gs_WardFallsLaw_163 : GoodIn lw_good (wsV "WardFallsLaw" 163 y_MO_known.cls y_MO_known (wsM y_MO_known b_MO_known 2 (some .boolean))) := good_V mw_2042 mw_2039 mw_2040 mw_2041 mw_16
theorem gs_WardFallsLaw_164 : GoodIn lw_good (wsV "WardFallsLaw" 164 y_WF_fits.cls y_WF_fits (wsM y_WF_fits b_WF_fits 1 (some .int))) := good_V mw_1198 mw_1195 mw_1196 mw_1197 mw_1
theorem gs_WardFallsLaw_167 : GoodIn lw_good (wsV "WardFallsLaw" 167 y_MO_fits.cls y_MO_fits (wsM y_MO_fits b_MO_fits 1 (some .int))) := good_V mw_2046 mw_2043 mw_2044 mw_2045 mw_16
theorem gs_WardFallsLaw_168 : GoodIn lw_good (wsV "WardFallsLaw" 168 y_WF_may.cls y_WF_may (wsM y_WF_may b_WF_may 2 (some .int))) := good_V mw_1227 mw_1224 mw_1225 mw_1226 mw_1
theorem gs_WardFallsLaw_171 : GoodIn lw_good (wsV "WardFallsLaw" 171 y_MO_may.cls y_MO_may (wsM y_MO_may b_MO_may 2 (some .int))) := good_V mw_2062 mw_2059 mw_2060 mw_2061 mw_16
theorem gs_WardFallsLaw_172 : GoodIn lw_good (wsV "WardFallsLaw" 172 y_WF_years.cls y_WF_years (wsM y_WF_years b_WF_years 3 (some .int))) := good_V mw_1231 mw_1228 mw_1229 mw_1230 mw_1
theorem gs_WardFallsLaw_175 : GoodIn lw_good (wsV "WardFallsLaw" 175 y_MO_years.cls y_MO_years (wsM y_MO_years b_MO_years 5 (some .int))) := good_V mw_2066 mw_2063 mw_2064 mw_2065 mw_16
theorem gs_WardFallsLaw_176 : GoodIn lw_good (wsV "WardFallsLaw" 176 y_WF_voted.cls y_WF_voted (wsM y_WF_voted b_WF_voted 3 (some .int))) := good_V mw_1249 mw_1246 mw_1247 mw_1248 mw_1
theorem gs_WardFallsLaw_179 : GoodIn lw_good (wsV "WardFallsLaw" 179 y_MO_voted.cls y_MO_voted (wsM y_MO_voted b_MO_voted 3 (some .int))) := good_V mw_2076 mw_2073 mw_2074 mw_2075 mw_16
theorem gs_WardFallsLaw_180 : GoodIn lw_good (wsV "WardFallsLaw" 180 y_WF_tried.cls y_WF_tried (wsM y_WF_tried b_WF_tried 6 (some .int))) := good_V mw_1253 mw_1250 mw_1251 mw_1252 mw_1
theorem gs_WardFallsLaw_183 : GoodIn lw_good (wsV "WardFallsLaw" 183 y_MO_tried.cls y_MO_tried (wsM y_MO_tried b_MO_tried 7 (some .int))) := good_V mw_2080 mw_2077 mw_2078 mw_2079 mw_16
theorem gs_WardFallsLaw_184 : GoodIn lw_good (wsV "WardFallsLaw" 184 y_WF_undo.cls y_WF_undo (wsM y_WF_undo b_WF_undo 1 (some .int))) := good_V mw_1261 mw_1258 mw_1259 mw_1260 mw_1
theorem gs_WardFallsLaw_187 : GoodIn lw_good (wsV "WardFallsLaw" 187 y_MO_undo.cls y_MO_undo (wsM y_MO_undo b_MO_undo 1 (some .int))) := good_V mw_2084 mw_2081 mw_2082 mw_2083 mw_16
theorem gs_WardFallsLaw_188 : GoodIn lw_good (wsV "WardFallsLaw" 188 y_WF_keep.cls y_WF_keep (wsM y_WF_keep b_WF_keep 1 (some .int))) := good_V mw_1269 mw_1266 mw_1267 mw_1268 mw_1
theorem gs_WardFallsLaw_191 : GoodIn lw_good (wsV "WardFallsLaw" 191 y_MO_keep.cls y_MO_keep (wsM y_MO_keep b_MO_keep 1 (some .int))) := good_V mw_2088 mw_2085 mw_2086 mw_2087 mw_16
theorem gs_WardFallsLaw_192 : GoodIn lw_good (wsV "WardFallsLaw" 192 y_WF_back.cls y_WF_back (wsM y_WF_back b_WF_back 1 (some .int))) := good_V mw_1278 mw_1275 mw_1276 mw_1277 mw_1
theorem gs_WardFallsLaw_195 : GoodIn lw_good (wsV "WardFallsLaw" 195 y_MO_back.cls y_MO_back (wsM y_MO_back b_MO_back 1 (some .int))) := good_V mw_2096 mw_2093 mw_2094 mw_2095 mw_16
theorem gs_WardFallsLaw_196 : GoodIn lw_good (wsV "WardFallsLaw" 196 y_WF_count.cls y_WF_count (wsM y_WF_count b_WF_count 2 (some .int))) := good_V mw_1282 mw_1279 mw_1280 mw_1281 mw_1
theorem gs_WardFallsLaw_199 : GoodIn lw_good (wsV "WardFallsLaw" 199 y_MO_count.cls y_MO_count (wsM y_MO_count b_MO_count 4 (some .int))) := good_V mw_2100 mw_2097 mw_2098 mw_2099 mw_16
theorem gs_WardFallsLaw_21 : GoodIn lw_good (wsV "WardFallsLaw" 21 y_WF_feed.cls y_WF_feed (wsM y_WF_feed b_WF_feed 6 (some .int))) := good_V mw_611 mw_608 mw_609 mw_610 mw_1
theorem gs_WardFallsLaw_25 : GoodIn lw_good (wsV "WardFallsLaw" 25 y_MO_feed.cls y_MO_feed (wsM y_MO_feed b_MO_feed 8 (some .int))) := good_V mw_1602 mw_1599 mw_1600 mw_1601 mw_16
theorem gs_WardFallsLaw_26 : GoodIn lw_good (wsV "WardFallsLaw" 26 y_WF_text.cls y_WF_text (wsM y_WF_text b_WF_text 4 (some .int))) := good_V mw_620 mw_617 mw_618 mw_619 mw_1
theorem gs_WardFallsLaw_30 : GoodIn lw_good (wsV "WardFallsLaw" 30 y_MO_text.cls y_MO_text (wsM y_MO_text b_MO_text 3 (some .int))) := good_V mw_1606 mw_1603 mw_1604 mw_1605 mw_16
theorem gs_WardFallsLaw_31 : GoodIn lw_good (wsV "WardFallsLaw" 31 y_WF_fault.cls y_WF_fault (wsM y_WF_fault b_WF_fault 2 (some .int))) := good_V mw_829 mw_826 mw_827 mw_828 mw_1
theorem gs_WardFallsLaw_34 : GoodIn lw_good (wsV "WardFallsLaw" 34 y_MO_fault.cls y_MO_fault (wsM y_MO_fault b_MO_fault 2 (some .int))) := good_V mw_1758 mw_1755 mw_1756 mw_1757 mw_16
theorem gs_WardFallsLaw_35 : GoodIn lw_good (wsV "WardFallsLaw" 35 y_WF_named.cls y_WF_named (wsM y_WF_named b_WF_named 3 (some .int))) := good_V mw_833 mw_830 mw_831 mw_832 mw_1
theorem gs_WardFallsLaw_38 : GoodIn lw_good (wsV "WardFallsLaw" 38 y_MO_named.cls y_MO_named (wsM y_MO_named b_MO_named 3 (some .int))) := good_V mw_1762 mw_1759 mw_1760 mw_1761 mw_16
theorem gs_WardFallsLaw_44 : GoodIn lw_good (wsV "WardFallsLaw" 44 y_MO_cell.cls y_MO_cell (wsM y_MO_cell b_MO_cell 3 (some .int))) := good_V mw_1766 mw_1763 mw_1764 mw_1765 mw_16
theorem gs_WardFallsLaw_45 : GoodIn lw_good (wsV "WardFallsLaw" 45 y_MO_thrown.cls y_MO_thrown (wsM y_MO_thrown b_MO_thrown 1 (some .int))) := good_V mw_1598 mw_1595 mw_1596 mw_1597 mw_16
theorem gs_WardFallsLaw_49 : GoodIn lw_good (wsV "WardFallsLaw" 49 y_WF_ward.cls y_WF_ward (wsM y_WF_ward b_WF_ward 3 (some .int))) := good_V mw_838 mw_835 mw_836 mw_837 mw_1
theorem gs_WardFallsLaw_52 : GoodIn lw_good (wsV "WardFallsLaw" 52 y_MO_ward.cls y_MO_ward (wsM y_MO_ward b_MO_ward 3 (some .int))) := good_V mw_1798 mw_1795 mw_1796 mw_1797 mw_16
theorem gs_WardFallsLaw_53 : GoodIn lw_good (wsV "WardFallsLaw" 53 y_WF_thing.cls y_WF_thing (wsM y_WF_thing b_WF_thing 3 (some .int))) := good_V mw_931 mw_928 mw_929 mw_930 mw_1
theorem gs_WardFallsLaw_56 : GoodIn lw_good (wsV "WardFallsLaw" 56 y_MO_thing.cls y_MO_thing (wsM y_MO_thing b_MO_thing 3 (some .int))) := good_V mw_1850 mw_1847 mw_1848 mw_1849 mw_16
theorem gs_WardFallsLaw_57 : GoodIn lw_good (wsV "WardFallsLaw" 57 y_WF_law.cls y_WF_law (wsM y_WF_law b_WF_law 4 (some .long))) := good_V mw_939 mw_936 mw_937 mw_938 mw_1
theorem gs_WardFallsLaw_61 : GoodIn lw_good (wsV "WardFallsLaw" 61 y_MO_law.cls y_MO_law (wsM y_MO_law b_MO_law 4 (some .long))) := good_V mw_1858 mw_1855 mw_1856 mw_1857 mw_16
theorem gs_WardFallsLaw_62 : GoodIn lw_good (wsV "WardFallsLaw" 62 y_WF_rest.cls y_WF_rest (wsM y_WF_rest b_WF_rest 2 (some .int))) := good_V mw_958 mw_955 mw_956 mw_957 mw_1
theorem gs_WardFallsLaw_65 : GoodIn lw_good (wsV "WardFallsLaw" 65 y_MO_rest.cls y_MO_rest (wsM y_MO_rest b_MO_rest 2 (some .int))) := good_V mw_1871 mw_1868 mw_1869 mw_1870 mw_16
theorem gs_WardFallsLaw_66 : GoodIn lw_good (wsV "WardFallsLaw" 66 y_WF_way.cls y_WF_way (wsM y_WF_way b_WF_way 3 (some .int))) := good_V mw_970 mw_967 mw_968 mw_969 mw_1
theorem gs_WardFallsLaw_69 : GoodIn lw_good (wsV "WardFallsLaw" 69 y_MO_way.cls y_MO_way (wsM y_MO_way b_MO_way 6 (some .int))) := good_V mw_1875 mw_1872 mw_1873 mw_1874 mw_16
theorem gs_WardFallsLaw_70 : GoodIn lw_good (wsV "WardFallsLaw" 70 y_WF_falls.cls y_WF_falls (wsM y_WF_falls b_WF_falls 3 (some .int))) := good_V mw_978 mw_975 mw_976 mw_977 mw_1
theorem gs_WardFallsLaw_73 : GoodIn lw_good (wsV "WardFallsLaw" 73 y_MO_falls.cls y_MO_falls (wsM y_MO_falls b_MO_falls 3 (some .int))) := good_V mw_1879 mw_1876 mw_1877 mw_1878 mw_16
theorem gs_WardFallsLaw_74 : GoodIn lw_good (wsV "WardFallsLaw" 74 y_WF_beats.cls y_WF_beats (wsM y_WF_beats b_WF_beats 4 (some .int))) := good_V mw_982 mw_979 mw_980 mw_981 mw_1
theorem gs_WardFallsLaw_77 : GoodIn lw_good (wsV "WardFallsLaw" 77 y_MO_beats.cls y_MO_beats (wsM y_MO_beats b_MO_beats 4 (some .int))) := good_V mw_1883 mw_1880 mw_1881 mw_1882 mw_16
theorem gs_WardFallsLaw_78 : GoodIn lw_good (wsV "WardFallsLaw" 78 y_WF_vote.cls y_WF_vote (wsM y_WF_vote b_WF_vote 3 (some .boolean))) := good_V mw_994 mw_991 mw_992 mw_993 mw_1
theorem gs_WardFallsLaw_82 : GoodIn lw_good (wsV "WardFallsLaw" 82 y_MO_vote.cls y_MO_vote (wsM y_MO_vote b_MO_vote 3 (some .boolean))) := good_V mw_1891 mw_1888 mw_1889 mw_1890 mw_16
theorem gs_WardFallsLaw_83 : GoodIn lw_good (wsV "WardFallsLaw" 83 y_WF_net.cls y_WF_net (wsM y_WF_net b_WF_net 3 (some .boolean))) := good_V mw_1016 mw_1013 mw_1014 mw_1015 mw_1
theorem gs_WardFallsLaw_87 : GoodIn lw_good (wsV "WardFallsLaw" 87 y_MO_net.cls y_MO_net (wsM y_MO_net b_MO_net 3 (some .boolean))) := good_V mw_1914 mw_1911 mw_1912 mw_1913 mw_16
theorem gs_WardFallsLaw_88 : GoodIn lw_good (wsV "WardFallsLaw" 88 y_WF_lay.cls y_WF_lay (wsM y_WF_lay b_WF_lay 3 (some .boolean))) := good_V mw_1020 mw_1017 mw_1018 mw_1019 mw_1
theorem gs_WardFallsLaw_91 : GoodIn lw_good (wsV "WardFallsLaw" 91 y_MO_lay.cls y_MO_lay (wsM y_MO_lay b_MO_lay 3 (some .boolean))) := good_V mw_1918 mw_1915 mw_1916 mw_1917 mw_16
theorem gs_WardFallsLaw_92 : GoodIn lw_good (wsV "WardFallsLaw" 92 y_WF_pour.cls y_WF_pour (wsM y_WF_pour b_WF_pour 5 (some .int))) := good_V mw_1025 mw_1022 mw_1023 mw_1024 mw_1
theorem gs_WardFallsLaw_95 : GoodIn lw_good (wsV "WardFallsLaw" 95 y_MO_pour.cls y_MO_pour (wsM y_MO_pour b_MO_pour 5 (some .int))) := good_V mw_1922 mw_1919 mw_1920 mw_1921 mw_16
theorem gs_WardFallsLaw_96 : GoodIn lw_good (wsV "WardFallsLaw" 96 y_WF_drain.cls y_WF_drain (wsM y_WF_drain b_WF_drain 2 (some .int))) := good_V mw_1031 mw_1028 mw_1029 mw_1030 mw_1
theorem gs_WardFallsLaw_99 : GoodIn lw_good (wsV "WardFallsLaw" 99 y_MO_drain.cls y_MO_drain (wsM y_MO_drain b_MO_drain 2 (some .int))) := good_V mw_1926 mw_1923 mw_1924 mw_1925 mw_16
theorem hd_Law_cell : y_Law_cell.cls ≠ "java/lang/invoke/MethodHandle" ∧ y_Law_cell.cls ≠ "java/lang/invoke/VarHandle" ∧ (parseMethodDescriptor y_Law_cell.desc).map (fun d => d.parameters.length) = some 4 := by decide +kernel
theorem gs_Law_cell : GoodIn lw_good (va_wsS "WardFallsLaw" 39 y_Law_cell (Cond.codeWith y_Law_cell b_Law_cell 5 (some .int) hh9 :: lw_good)) := good_SH mw_1290 mw_1288 mw_1289 mw_0
theorem inr_L {L : Nat} (hL : L ≤ 3072) : InR (L : Int) := by unfold InR; omega
theorem law_jL {v : Int} {j L : Nat} (hij : v = 6 * (j : Int)) (hL : L ≤ 3072) (h : ¬ w32 ((L : Int) - 6) < v) : 6 * j + 6 ≤ L := by
  rw [w32_id (by unfold InR; omega)] at h
  omega
theorem law_i0 {v : Int} {j L : Nat} (hij : v = 6 * (j : Int)) (hjL : 6 * j + 6 ≤ L) : 0 ≤ v ∧ v < (L : Int) := by omega
theorem law_ix {v : Int} {j L : Nat} (hij : v = 6 * (j : Int)) (hjL : 6 * j + 6 ≤ L) (hL : L ≤ 3072) (k : Int) (h0 : 0 ≤ k) (h5 : k ≤ 5) : 0 ≤ w32 (v + k) ∧ w32 (v + k) < (L : Int) := by
  rw [w32_id (by unfold InR; omega)]
  omega
theorem law_nx {v : Int} {j L : Nat} (hij : v = 6 * (j : Int)) (hjL : 6 * j + 6 ≤ L) (hL : L ≤ 3072) : w32 (v + 6) = 6 * ((j + 1 : Nat) : Int) := by
  rw [w32_id (by unfold InR; omega)]
  omega
theorem law_cs {cells slots j : Nat} (h : cells ≤ 233 + j ∧ slots ≤ 11936 + 6 * j) : cells ≤ 232 + (j + 1) ∧ slots ≤ 11930 + 6 * (j + 1) := by omega
theorem law_rc {cells slots j L : Nat} (h : cells ≤ 233 + j ∧ slots ≤ 11936 + 6 * j) (hjL : 6 * j + 6 ≤ L) (hL : L ≤ 3072) : cells ≤ room_1.cells ∧ slots ≤ room_1.slots := ⟨show cells ≤ 600002 by omega, show slots ≤ 7302232 by omega⟩
theorem law_rc1 {cells slots j L : Nat} (h : cells ≤ 233 + j ∧ slots ≤ 11936 + 6 * j) (hjL : 6 * j + 6 ≤ L) (hL : L ≤ 3072) : cells + 1 ≤ room_1.cells ∧ slots + 6 ≤ room_1.slots := ⟨show cells + 1 ≤ 600002 by omega, show slots + 6 ≤ 7302232 by omega⟩
theorem law_ret {p : Program} {l : Launch} {e : Env} {s : State} {m : MethodId} {below : List Frame} {meth : Method} {c : Code} {b scr cells slots j : Nat} {C : CT} {M : Mem} {H : Heap} {locs : List Loc} {pc : Nat} {ls : Array Slot} (F : Cx p m c b_Law_law 7 s ([.ref scr] : List Value).toArray "WardFallsLaw" C 232 232) (hr : meth.sig.returnType = ret) (hlk : meth.locks = false) (hS : St b C 232 M s H locs) (hb : b = s.heap.size) (hcs : cells ≤ 232 + j ∧ slots ≤ 11930 + 6 * j) (hj : j ≤ 512) (hdg : decode b_Law_law pc = .ok (.ireturn, 1)) : W p l e room_1 s m #[Value.ref scr] below meth c H locs cells slots (lw_Z below #[Value.ref scr] s) (F0 m pc ls [vI 1]) := by
  subst hb
  refine W.widen (k := 600002) (n := 7302232) (by omega) (by omega) ?_
  refine va_forget (fun q hq => hS.2.2.2.2.2.2 q hq) ?_
  rw [show vI 1 = Value.int 1 from rfl]
  exact lw_ret F.hx F.hb hr hlk hdg
def t_Law_law_L1571 (xs : Nat → Int32) (L : Nat) (bk23 : Mem → Int → Option Int) (M : Mem) (v4_ : Int) : Option Int := (bk23 M (w32 (v4_ + 6)))
def t_Law_law_L220 (xs : Nat → Int32) (L : Nat) (bk23 : Mem → Int → Option Int) (M : Mem) (v4_ : Int) : Option Int := (obind (t_WF_feed M (xs ((w32 (v4_ + 1))).toNat).toInt (xs ((w32 (v4_ + 2))).toNat).toInt (xs ((w32 (v4_ + 3))).toNat).toInt (xs ((w32 (v4_ + 4))).toNat).toInt (xs ((w32 (v4_ + 5))).toNat).toInt) fun q43 => (obind (t_MO_feed (q43.1) (xs ((w32 (v4_ + 1))).toNat).toInt (xs ((w32 (v4_ + 2))).toNat).toInt (xs ((w32 (v4_ + 3))).toNat).toInt (xs ((w32 (v4_ + 4))).toNat).toInt (xs ((w32 (v4_ + 5))).toNat).toInt) fun q45 => (if (q43.2) = (q45.2) then (t_Law_law_L1571 xs L bk23 (q45.1) v4_) else (some (0 : Int)))))
def t_Law_law_L293 (xs : Nat → Int32) (L : Nat) (bk23 : Mem → Int → Option Int) (M : Mem) (v4_ : Int) : Option Int := (obind (t_WF_text M (xs ((w32 (v4_ + 1))).toNat).toInt) fun q48 => (obind (t_MO_text (q48.1) (xs ((w32 (v4_ + 1))).toNat).toInt) fun q50 => (if (q48.2) = (q50.2) then (t_Law_law_L1571 xs L bk23 (q50.1) v4_) else (some (0 : Int)))))
def t_Law_law_L318 (xs : Nat → Int32) (L : Nat) (bk23 : Mem → Int → Option Int) (M : Mem) (v4_ : Int) : Option Int := (qlet (t_WF_fault M (xs ((w32 (v4_ + 1))).toNat).toInt) fun q53 => (qlet (t_MO_fault M (xs ((w32 (v4_ + 1))).toNat).toInt) fun q55 => (if q53 = (q55.2) then (t_Law_law_L1571 xs L bk23 (q55.1) v4_) else (some (0 : Int)))))
def t_Law_law_L343 (xs : Nat → Int32) (L : Nat) (bk23 : Mem → Int → Option Int) (M : Mem) (v4_ : Int) : Option Int := (obind (t_WF_named M (xs ((w32 (v4_ + 1))).toNat).toInt (xs ((w32 (v4_ + 2))).toNat).toInt) fun q58 => (obind (t_MO_named M (xs ((w32 (v4_ + 1))).toNat).toInt (xs ((w32 (v4_ + 2))).toNat).toInt) fun q60 => (if q58 = (q60.2) then (t_Law_law_L1571 xs L bk23 (q60.1) v4_) else (some (0 : Int)))))
def t_Law_law_L445 (xs : Nat → Int32) (L : Nat) (bk23 : Mem → Int → Option Int) (M : Mem) (v4_ : Int) : Option Int := (t_Law_law_L1571 xs L bk23 M v4_)
def t_Law_law_L380 (xs : Nat → Int32) (L : Nat) (bk23 : Mem → Int → Option Int) (M : Mem) (v4_ : Int) : Option Int := (obind (t_Law_cell M (xs ((w32 (v4_ + 1))).toNat).toInt (xs ((w32 (v4_ + 2))).toNat).toInt) fun q63 => (obind (t_MO_cell (q63.1) (xs ((w32 (v4_ + 1))).toNat).toInt (xs ((w32 (v4_ + 2))).toNat).toInt) fun q65 => (qlet (t_MO_thrown (q65.1)) fun q67 => (if q67 = (q63.2) then (if (q63.2) = 0 then (if ((q65.1).2 231 0) = (q_i2l (q65.2)) then (t_Law_law_L445 xs L bk23 (q65.1) v4_) else (some (0 : Int))) else (t_Law_law_L445 xs L bk23 (q65.1) v4_)) else (some (0 : Int))))))
def t_Law_law_L448 (xs : Nat → Int32) (L : Nat) (bk23 : Mem → Int → Option Int) (M : Mem) (v4_ : Int) : Option Int := (obind (t_WF_ward M (xs ((w32 (v4_ + 1))).toNat).toInt (xs ((w32 (v4_ + 2))).toNat).toInt) fun q72 => (obind (t_MO_ward (q72.1) (xs ((w32 (v4_ + 1))).toNat).toInt (xs ((w32 (v4_ + 2))).toNat).toInt) fun q74 => (if (q72.2) = (q74.2) then (t_Law_law_L1571 xs L bk23 (q74.1) v4_) else (some (0 : Int)))))
def t_Law_law_L485 (xs : Nat → Int32) (L : Nat) (bk23 : Mem → Int → Option Int) (M : Mem) (v4_ : Int) : Option Int := (qlet (t_WF_thing M (xs ((w32 (v4_ + 1))).toNat).toInt (xs ((w32 (v4_ + 2))).toNat).toInt) fun q77 => (obind (t_MO_thing M (xs ((w32 (v4_ + 1))).toNat).toInt (xs ((w32 (v4_ + 2))).toNat).toInt) fun q79 => (if q77 = (q79.2) then (t_Law_law_L1571 xs L bk23 (q79.1) v4_) else (some (0 : Int)))))
def t_Law_law_L522 (xs : Nat → Int32) (L : Nat) (bk23 : Mem → Int → Option Int) (M : Mem) (v4_ : Int) : Option Int := (obind (t_WF_law M (xs ((w32 (v4_ + 1))).toNat).toInt (xs ((w32 (v4_ + 2))).toNat).toInt (xs ((w32 (v4_ + 3))).toNat).toInt) fun q82 => (obind (t_MO_law (q82.1) (xs ((w32 (v4_ + 1))).toNat).toInt (xs ((w32 (v4_ + 2))).toNat).toInt (xs ((w32 (v4_ + 3))).toNat).toInt) fun q84 => (if (q82.2) = (q84.2) then (t_Law_law_L1571 xs L bk23 (q84.1) v4_) else (some (0 : Int)))))
def t_Law_law_L572 (xs : Nat → Int32) (L : Nat) (bk23 : Mem → Int → Option Int) (M : Mem) (v4_ : Int) : Option Int := (obind (t_WF_rest M (xs ((w32 (v4_ + 1))).toNat).toInt) fun q87 => (obind (t_MO_rest (q87.1) (xs ((w32 (v4_ + 1))).toNat).toInt) fun q89 => (if (q87.2) = (q89.2) then (t_Law_law_L1571 xs L bk23 (q89.1) v4_) else (some (0 : Int)))))
def t_Law_law_L597 (xs : Nat → Int32) (L : Nat) (bk23 : Mem → Int → Option Int) (M : Mem) (v4_ : Int) : Option Int := (obind (t_WF_way M (xs ((w32 (v4_ + 1))).toNat).toInt (xs ((w32 (v4_ + 2))).toNat).toInt) fun q92 => (obind (t_MO_way (q92.1) (xs ((w32 (v4_ + 1))).toNat).toInt (xs ((w32 (v4_ + 2))).toNat).toInt) fun q94 => (if (q92.2) = (q94.2) then (t_Law_law_L1571 xs L bk23 (q94.1) v4_) else (some (0 : Int)))))
def t_Law_law_L634 (xs : Nat → Int32) (L : Nat) (bk23 : Mem → Int → Option Int) (M : Mem) (v4_ : Int) : Option Int := (obind (t_WF_falls M (xs ((w32 (v4_ + 1))).toNat).toInt (xs ((w32 (v4_ + 2))).toNat).toInt) fun q97 => (obind (t_MO_falls (q97.1) (xs ((w32 (v4_ + 1))).toNat).toInt (xs ((w32 (v4_ + 2))).toNat).toInt) fun q99 => (if (q97.2) = (q99.2) then (t_Law_law_L1571 xs L bk23 (q99.1) v4_) else (some (0 : Int)))))
def t_Law_law_L671 (xs : Nat → Int32) (L : Nat) (bk23 : Mem → Int → Option Int) (M : Mem) (v4_ : Int) : Option Int := (obind (t_WF_beats M (xs ((w32 (v4_ + 1))).toNat).toInt) fun q102 => (obind (t_MO_beats (q102.1) (xs ((w32 (v4_ + 1))).toNat).toInt) fun q104 => (if (q102.2) = (q104.2) then (t_Law_law_L1571 xs L bk23 (q104.1) v4_) else (some (0 : Int)))))
def t_Law_law_L696 (xs : Nat → Int32) (L : Nat) (bk23 : Mem → Int → Option Int) (M : Mem) (v4_ : Int) : Option Int := (obind (t_WF_vote M (xs ((w32 (v4_ + 1))).toNat).toInt (xs ((w32 (v4_ + 2))).toNat).toInt) fun q107 => (obind (t_MO_vote (q107.1) (xs ((w32 (v4_ + 1))).toNat).toInt (xs ((w32 (v4_ + 2))).toNat).toInt) fun q109 => (if (q107.2) = (q109.2) then (t_Law_law_L1571 xs L bk23 (q109.1) v4_) else (some (0 : Int)))))
def t_Law_law_L778 (xs : Nat → Int32) (L : Nat) (bk23 : Mem → Int → Option Int) (M : Mem) (v4_ : Int) (v5_ : Int) (v7_ : Int) (v8_ : Int) : Option Int := (obind (t_MO_net M v7_ v8_) fun q251 => (if v5_ = (q251.2) then (t_Law_law_L1571 xs L bk23 (q251.1) v4_) else (some (0 : Int))))
def t_Law_law_L754 (xs : Nat → Int32) (L : Nat) (bk23 : Mem → Int → Option Int) (M : Mem) (v4_ : Int) (v6_ : Int) (v7_ : Int) : Option Int := (qlet (t_WF_net M v6_ v7_) fun q248 => (if (xs ((w32 (v4_ + 2))).toNat).toInt = 0 then (t_Law_law_L778 xs L bk23 (q248.1) v4_ (q248.2) (xs ((w32 (v4_ + 1))).toNat).toInt 0) else (t_Law_law_L778 xs L bk23 (q248.1) v4_ (q248.2) (xs ((w32 (v4_ + 1))).toNat).toInt 1)))
def t_Law_law_L733 (xs : Nat → Int32) (L : Nat) (bk23 : Mem → Int → Option Int) (M : Mem) (v4_ : Int) : Option Int := (if (xs ((w32 (v4_ + 2))).toNat).toInt = 0 then (t_Law_law_L754 xs L bk23 M v4_ (xs ((w32 (v4_ + 1))).toNat).toInt 0) else (t_Law_law_L754 xs L bk23 M v4_ (xs ((w32 (v4_ + 1))).toNat).toInt 1))
def t_Law_law_L786 (xs : Nat → Int32) (L : Nat) (bk23 : Mem → Int → Option Int) (M : Mem) (v4_ : Int) : Option Int := (obind (t_WF_lay M (xs ((w32 (v4_ + 1))).toNat).toInt (xs ((w32 (v4_ + 2))).toNat).toInt) fun q113 => (obind (t_MO_lay (q113.1) (xs ((w32 (v4_ + 1))).toNat).toInt (xs ((w32 (v4_ + 2))).toNat).toInt) fun q115 => (if (q113.2) = (q115.2) then (t_Law_law_L1571 xs L bk23 (q115.1) v4_) else (some (0 : Int)))))
def t_Law_law_L823 (xs : Nat → Int32) (L : Nat) (bk23 : Mem → Int → Option Int) (M : Mem) (v4_ : Int) : Option Int := (obind (t_WF_pour M (xs ((w32 (v4_ + 1))).toNat).toInt (xs ((w32 (v4_ + 2))).toNat).toInt) fun q118 => (obind (t_MO_pour (q118.1) (xs ((w32 (v4_ + 1))).toNat).toInt (xs ((w32 (v4_ + 2))).toNat).toInt) fun q120 => (if (q118.2) = (q120.2) then (t_Law_law_L1571 xs L bk23 (q120.1) v4_) else (some (0 : Int)))))
def t_Law_law_L860 (xs : Nat → Int32) (L : Nat) (bk23 : Mem → Int → Option Int) (M : Mem) (v4_ : Int) : Option Int := (qlet (t_WF_drain M) fun q123 => (obind (t_MO_drain (q123.1)) fun q125 => (if (q123.2) = (q125.2) then (t_Law_law_L1571 xs L bk23 (q125.1) v4_) else (some (0 : Int)))))
def t_Law_law_L873 (xs : Nat → Int32) (L : Nat) (bk23 : Mem → Int → Option Int) (M : Mem) (v4_ : Int) : Option Int := (obind (t_WF_flood M (xs ((w32 (v4_ + 1))).toNat).toInt (xs ((w32 (v4_ + 2))).toNat).toInt) fun q128 => (obind (t_MO_flood (q128.1) (xs ((w32 (v4_ + 1))).toNat).toInt (xs ((w32 (v4_ + 2))).toNat).toInt) fun q130 => (if (q128.2) = (q130.2) then (t_Law_law_L1571 xs L bk23 (q130.1) v4_) else (some (0 : Int)))))
def t_Law_law_L911 (xs : Nat → Int32) (L : Nat) (bk23 : Mem → Int → Option Int) (M : Mem) (v4_ : Int) : Option Int := (obind (t_WF_walk M (xs ((w32 (v4_ + 1))).toNat).toInt (xs ((w32 (v4_ + 2))).toNat).toInt) fun q133 => (obind (t_MO_walk (q133.1) (xs ((w32 (v4_ + 1))).toNat).toInt (xs ((w32 (v4_ + 2))).toNat).toInt) fun q135 => (if (q133.2) = (q135.2) then (t_Law_law_L1571 xs L bk23 (q135.1) v4_) else (some (0 : Int)))))
def t_Law_law_L948 (xs : Nat → Int32) (L : Nat) (bk23 : Mem → Int → Option Int) (M : Mem) (v4_ : Int) : Option Int := (obind (t_WF_step M (xs ((w32 (v4_ + 1))).toNat).toInt (xs ((w32 (v4_ + 2))).toNat).toInt (xs ((w32 (v4_ + 3))).toNat).toInt) fun q138 => (obind (t_MO_step (q138.1) (xs ((w32 (v4_ + 1))).toNat).toInt (xs ((w32 (v4_ + 2))).toNat).toInt (xs ((w32 (v4_ + 3))).toNat).toInt) fun q140 => (if (q138.2) = (q140.2) then (t_Law_law_L1571 xs L bk23 (q140.1) v4_) else (some (0 : Int)))))
def t_Law_law_L997 (xs : Nat → Int32) (L : Nat) (bk23 : Mem → Int → Option Int) (M : Mem) (v4_ : Int) : Option Int := (obind (t_WF_push M (xs ((w32 (v4_ + 1))).toNat).toInt (xs ((w32 (v4_ + 2))).toNat).toInt (xs ((w32 (v4_ + 3))).toNat).toInt) fun q143 => (obind (t_MO_push (q143.1) (xs ((w32 (v4_ + 1))).toNat).toInt (xs ((w32 (v4_ + 2))).toNat).toInt (xs ((w32 (v4_ + 3))).toNat).toInt) fun q145 => (if (q143.2) = (q145.2) then (t_Law_law_L1571 xs L bk23 (q145.1) v4_) else (some (0 : Int)))))
def t_Law_law_L1046 (xs : Nat → Int32) (L : Nat) (bk23 : Mem → Int → Option Int) (M : Mem) (v4_ : Int) : Option Int := (obind (t_WF_pushed M (xs ((w32 (v4_ + 1))).toNat).toInt (xs ((w32 (v4_ + 2))).toNat).toInt (xs ((w32 (v4_ + 3))).toNat).toInt) fun q148 => (obind (t_MO_pushed (q148.1) (xs ((w32 (v4_ + 1))).toNat).toInt (xs ((w32 (v4_ + 2))).toNat).toInt (xs ((w32 (v4_ + 3))).toNat).toInt) fun q150 => (if (q148.2) = (q150.2) then (t_Law_law_L1571 xs L bk23 (q150.1) v4_) else (some (0 : Int)))))
def t_Law_law_L1095 (xs : Nat → Int32) (L : Nat) (bk23 : Mem → Int → Option Int) (M : Mem) (v4_ : Int) : Option Int := (obind (t_WF_war M (xs ((w32 (v4_ + 1))).toNat).toInt (xs ((w32 (v4_ + 2))).toNat).toInt) fun q153 => (obind (t_MO_war (q153.1) (xs ((w32 (v4_ + 1))).toNat).toInt (xs ((w32 (v4_ + 2))).toNat).toInt) fun q155 => (if (q153.2) = (q155.2) then (t_Law_law_L1571 xs L bk23 (q155.1) v4_) else (some (0 : Int)))))
def t_Law_law_L1132 (xs : Nat → Int32) (L : Nat) (bk23 : Mem → Int → Option Int) (M : Mem) (v4_ : Int) : Option Int := (obind (t_WF_nets M) fun q158 => (obind (t_MO_nets M) fun q160 => (if q158 = (q160.2) then (t_Law_law_L1571 xs L bk23 (q160.1) v4_) else (some (0 : Int)))))
def t_Law_law_L1146 (xs : Nat → Int32) (L : Nat) (bk23 : Mem → Int → Option Int) (M : Mem) (v4_ : Int) : Option Int := (obind (t_WF_clock M (xs ((w32 (v4_ + 1))).toNat).toInt) fun q163 => (obind (t_MO_clock (q163.1) (xs ((w32 (v4_ + 1))).toNat).toInt) fun q165 => (if (q163.2) = (q165.2) then (t_Law_law_L1571 xs L bk23 (q165.1) v4_) else (some (0 : Int)))))
def t_Law_law_L1171 (xs : Nat → Int32) (L : Nat) (bk23 : Mem → Int → Option Int) (M : Mem) (v4_ : Int) : Option Int := (obind (t_WF_stays M) fun q168 => (obind (t_MO_stays (q168.1)) fun q170 => (if (q168.2) = (q170.2) then (t_Law_law_L1571 xs L bk23 (q170.1) v4_) else (some (0 : Int)))))
def t_Law_law_L1184 (xs : Nat → Int32) (L : Nat) (bk23 : Mem → Int → Option Int) (M : Mem) (v4_ : Int) : Option Int := (obind (t_WF_stay M (xs ((w32 (v4_ + 1))).toNat).toInt) fun q173 => (obind (t_MO_stay (q173.1) (xs ((w32 (v4_ + 1))).toNat).toInt) fun q175 => (if (q173.2) = (q175.2) then (t_Law_law_L1571 xs L bk23 (q175.1) v4_) else (some (0 : Int)))))
def t_Law_law_L1209 (xs : Nat → Int32) (L : Nat) (bk23 : Mem → Int → Option Int) (M : Mem) (v4_ : Int) : Option Int := (obind (t_WF_treaty M (xs ((w32 (v4_ + 1))).toNat).toInt) fun q178 => (obind (t_MO_treaty (q178.1) (xs ((w32 (v4_ + 1))).toNat).toInt) fun q180 => (if (q178.2) = (q180.2) then (t_Law_law_L1571 xs L bk23 (q180.1) v4_) else (some (0 : Int)))))
def t_Law_law_L1234 (xs : Nat → Int32) (L : Nat) (bk23 : Mem → Int → Option Int) (M : Mem) (v4_ : Int) : Option Int := (obind (t_WF_moves M (xs ((w32 (v4_ + 1))).toNat).toInt (xs ((w32 (v4_ + 2))).toNat).toInt) fun q183 => (obind (t_MO_moves (q183.1) (xs ((w32 (v4_ + 1))).toNat).toInt (xs ((w32 (v4_ + 2))).toNat).toInt) fun q185 => (if (q183.2) = (q185.2) then (t_Law_law_L1571 xs L bk23 (q185.1) v4_) else (some (0 : Int)))))
def t_Law_law_L1271 (xs : Nat → Int32) (L : Nat) (bk23 : Mem → Int → Option Int) (M : Mem) (v4_ : Int) : Option Int := (qlet (t_WF_note M (xs ((w32 (v4_ + 1))).toNat).toInt (xs ((w32 (v4_ + 2))).toNat).toInt) fun q188 => (obind (t_MO_note (q188.1) (xs ((w32 (v4_ + 1))).toNat).toInt (xs ((w32 (v4_ + 2))).toNat).toInt) fun q190 => (if (q188.2) = (q190.2) then (t_Law_law_L1571 xs L bk23 (q190.1) v4_) else (some (0 : Int)))))
def t_Law_law_L1308 (xs : Nat → Int32) (L : Nat) (bk23 : Mem → Int → Option Int) (M : Mem) (v4_ : Int) : Option Int := (qlet (t_WF_strike M (xs ((w32 (v4_ + 1))).toNat).toInt) fun q193 => (obind (t_MO_strike (q193.1) (xs ((w32 (v4_ + 1))).toNat).toInt) fun q195 => (if (q193.2) = (q195.2) then (t_Law_law_L1571 xs L bk23 (q195.1) v4_) else (some (0 : Int)))))
def t_Law_law_L1333 (xs : Nat → Int32) (L : Nat) (bk23 : Mem → Int → Option Int) (M : Mem) (v4_ : Int) : Option Int := (qlet (t_WF_known M (xs ((w32 (v4_ + 1))).toNat).toInt) fun q198 => (qlet (t_MO_known (q198.1) (xs ((w32 (v4_ + 1))).toNat).toInt) fun q200 => (if (q198.2) = (q200.2) then (t_Law_law_L1571 xs L bk23 (q200.1) v4_) else (some (0 : Int)))))
def t_Law_law_L1358 (xs : Nat → Int32) (L : Nat) (bk23 : Mem → Int → Option Int) (M : Mem) (v4_ : Int) : Option Int := (obind (t_WF_fits M) fun q203 => (obind (t_MO_fits (q203.1)) fun q205 => (if (q203.2) = (q205.2) then (t_Law_law_L1571 xs L bk23 (q205.1) v4_) else (some (0 : Int)))))
def t_Law_law_L1371 (xs : Nat → Int32) (L : Nat) (bk23 : Mem → Int → Option Int) (M : Mem) (v4_ : Int) : Option Int := (obind (t_WF_may M (xs ((w32 (v4_ + 1))).toNat).toInt) fun q208 => (obind (t_MO_may (q208.1) (xs ((w32 (v4_ + 1))).toNat).toInt) fun q210 => (if (q208.2) = (q210.2) then (t_Law_law_L1571 xs L bk23 (q210.1) v4_) else (some (0 : Int)))))
def t_Law_law_L1396 (xs : Nat → Int32) (L : Nat) (bk23 : Mem → Int → Option Int) (M : Mem) (v4_ : Int) : Option Int := (obind (t_WF_years M (xs ((w32 (v4_ + 1))).toNat).toInt) fun q213 => (obind (t_MO_years (q213.1) (xs ((w32 (v4_ + 1))).toNat).toInt) fun q215 => (if (q213.2) = (q215.2) then (t_Law_law_L1571 xs L bk23 (q215.1) v4_) else (some (0 : Int)))))
def t_Law_law_L1421 (xs : Nat → Int32) (L : Nat) (bk23 : Mem → Int → Option Int) (M : Mem) (v4_ : Int) : Option Int := (qlet (t_WF_voted M (xs ((w32 (v4_ + 1))).toNat).toInt (xs ((w32 (v4_ + 2))).toNat).toInt) fun q218 => (obind (t_MO_voted M (xs ((w32 (v4_ + 1))).toNat).toInt (xs ((w32 (v4_ + 2))).toNat).toInt) fun q220 => (if q218 = (q220.2) then (t_Law_law_L1571 xs L bk23 (q220.1) v4_) else (some (0 : Int)))))
def t_Law_law_L1458 (xs : Nat → Int32) (L : Nat) (bk23 : Mem → Int → Option Int) (M : Mem) (v4_ : Int) : Option Int := (obind (t_WF_tried M (xs ((w32 (v4_ + 1))).toNat).toInt (xs ((w32 (v4_ + 2))).toNat).toInt (xs ((w32 (v4_ + 3))).toNat).toInt) fun q223 => (obind (t_MO_tried (q223.1) (xs ((w32 (v4_ + 1))).toNat).toInt (xs ((w32 (v4_ + 2))).toNat).toInt (xs ((w32 (v4_ + 3))).toNat).toInt) fun q225 => (if (q223.2) = (q225.2) then (t_Law_law_L1571 xs L bk23 (q225.1) v4_) else (some (0 : Int)))))
def t_Law_law_L1507 (xs : Nat → Int32) (L : Nat) (bk23 : Mem → Int → Option Int) (M : Mem) (v4_ : Int) : Option Int := (qlet (t_WF_undo M) fun q228 => (obind (t_MO_undo (q228.1)) fun q230 => (if (q228.2) = (q230.2) then (t_Law_law_L1571 xs L bk23 (q230.1) v4_) else (some (0 : Int)))))
def t_Law_law_L1520 (xs : Nat → Int32) (L : Nat) (bk23 : Mem → Int → Option Int) (M : Mem) (v4_ : Int) : Option Int := (qlet (t_WF_keep M) fun q233 => (obind (t_MO_keep (q233.1)) fun q235 => (if (q233.2) = (q235.2) then (t_Law_law_L1571 xs L bk23 (q235.1) v4_) else (some (0 : Int)))))
def t_Law_law_L1533 (xs : Nat → Int32) (L : Nat) (bk23 : Mem → Int → Option Int) (M : Mem) (v4_ : Int) : Option Int := (qlet (t_WF_back M) fun q238 => (obind (t_MO_back (q238.1)) fun q240 => (if (q238.2) = (q240.2) then (t_Law_law_L1571 xs L bk23 (q240.1) v4_) else (some (0 : Int)))))
def t_Law_law_L1546 (xs : Nat → Int32) (L : Nat) (bk23 : Mem → Int → Option Int) (M : Mem) (v4_ : Int) : Option Int := (obind (t_WF_count M (xs ((w32 (v4_ + 1))).toNat).toInt) fun q243 => (obind (t_MO_count M (xs ((w32 (v4_ + 1))).toNat).toInt) fun q245 => (if q243 = (q245.2) then (t_Law_law_L1571 xs L bk23 (q245.1) v4_) else (some (0 : Int)))))
def t_Law_law_L23 (xs : Nat → Int32) (L : Nat) : Nat → Mem → Int → Option Int
  | 0, _, _ => none
  | fu + 1, M, v4_ => (if (w32 ((L : Int) - 6)) < v4_ then (some (1 : Int)) else (if (q_and (xs (v4_).toNat).toInt 63) = 0 then (t_Law_law_L220 xs L (fun a0_ a1_ => t_Law_law_L23 xs L fu a0_ a1_) M v4_) else (if (q_and (xs (v4_).toNat).toInt 63) = 1 then (t_Law_law_L293 xs L (fun a0_ a1_ => t_Law_law_L23 xs L fu a0_ a1_) M v4_) else (if (q_and (xs (v4_).toNat).toInt 63) = 2 then (t_Law_law_L318 xs L (fun a0_ a1_ => t_Law_law_L23 xs L fu a0_ a1_) M v4_) else (if (q_and (xs (v4_).toNat).toInt 63) = 3 then (t_Law_law_L343 xs L (fun a0_ a1_ => t_Law_law_L23 xs L fu a0_ a1_) M v4_) else (if (q_and (xs (v4_).toNat).toInt 63) = 4 then (t_Law_law_L380 xs L (fun a0_ a1_ => t_Law_law_L23 xs L fu a0_ a1_) M v4_) else (if (q_and (xs (v4_).toNat).toInt 63) = 5 then (t_Law_law_L448 xs L (fun a0_ a1_ => t_Law_law_L23 xs L fu a0_ a1_) M v4_) else (if (q_and (xs (v4_).toNat).toInt 63) = 6 then (t_Law_law_L485 xs L (fun a0_ a1_ => t_Law_law_L23 xs L fu a0_ a1_) M v4_) else (if (q_and (xs (v4_).toNat).toInt 63) = 7 then (t_Law_law_L522 xs L (fun a0_ a1_ => t_Law_law_L23 xs L fu a0_ a1_) M v4_) else (if (q_and (xs (v4_).toNat).toInt 63) = 8 then (t_Law_law_L572 xs L (fun a0_ a1_ => t_Law_law_L23 xs L fu a0_ a1_) M v4_) else (if (q_and (xs (v4_).toNat).toInt 63) = 9 then (t_Law_law_L597 xs L (fun a0_ a1_ => t_Law_law_L23 xs L fu a0_ a1_) M v4_) else (if (q_and (xs (v4_).toNat).toInt 63) = 10 then (t_Law_law_L634 xs L (fun a0_ a1_ => t_Law_law_L23 xs L fu a0_ a1_) M v4_) else (if (q_and (xs (v4_).toNat).toInt 63) = 11 then (t_Law_law_L671 xs L (fun a0_ a1_ => t_Law_law_L23 xs L fu a0_ a1_) M v4_) else (if (q_and (xs (v4_).toNat).toInt 63) = 12 then (t_Law_law_L696 xs L (fun a0_ a1_ => t_Law_law_L23 xs L fu a0_ a1_) M v4_) else (if (q_and (xs (v4_).toNat).toInt 63) = 13 then (t_Law_law_L733 xs L (fun a0_ a1_ => t_Law_law_L23 xs L fu a0_ a1_) M v4_) else (if (q_and (xs (v4_).toNat).toInt 63) = 14 then (t_Law_law_L786 xs L (fun a0_ a1_ => t_Law_law_L23 xs L fu a0_ a1_) M v4_) else (if (q_and (xs (v4_).toNat).toInt 63) = 15 then (t_Law_law_L823 xs L (fun a0_ a1_ => t_Law_law_L23 xs L fu a0_ a1_) M v4_) else (if (q_and (xs (v4_).toNat).toInt 63) = 16 then (t_Law_law_L860 xs L (fun a0_ a1_ => t_Law_law_L23 xs L fu a0_ a1_) M v4_) else (if (q_and (xs (v4_).toNat).toInt 63) = 17 then (t_Law_law_L873 xs L (fun a0_ a1_ => t_Law_law_L23 xs L fu a0_ a1_) M v4_) else (if (q_and (xs (v4_).toNat).toInt 63) = 18 then (t_Law_law_L911 xs L (fun a0_ a1_ => t_Law_law_L23 xs L fu a0_ a1_) M v4_) else (if (q_and (xs (v4_).toNat).toInt 63) = 19 then (t_Law_law_L948 xs L (fun a0_ a1_ => t_Law_law_L23 xs L fu a0_ a1_) M v4_) else (if (q_and (xs (v4_).toNat).toInt 63) = 20 then (t_Law_law_L997 xs L (fun a0_ a1_ => t_Law_law_L23 xs L fu a0_ a1_) M v4_) else (if (q_and (xs (v4_).toNat).toInt 63) = 21 then (t_Law_law_L1046 xs L (fun a0_ a1_ => t_Law_law_L23 xs L fu a0_ a1_) M v4_) else (if (q_and (xs (v4_).toNat).toInt 63) = 22 then (t_Law_law_L1095 xs L (fun a0_ a1_ => t_Law_law_L23 xs L fu a0_ a1_) M v4_) else (if (q_and (xs (v4_).toNat).toInt 63) = 23 then (t_Law_law_L1132 xs L (fun a0_ a1_ => t_Law_law_L23 xs L fu a0_ a1_) M v4_) else (if (q_and (xs (v4_).toNat).toInt 63) = 24 then (t_Law_law_L1146 xs L (fun a0_ a1_ => t_Law_law_L23 xs L fu a0_ a1_) M v4_) else (if (q_and (xs (v4_).toNat).toInt 63) = 25 then (t_Law_law_L1171 xs L (fun a0_ a1_ => t_Law_law_L23 xs L fu a0_ a1_) M v4_) else (if (q_and (xs (v4_).toNat).toInt 63) = 26 then (t_Law_law_L1184 xs L (fun a0_ a1_ => t_Law_law_L23 xs L fu a0_ a1_) M v4_) else (if (q_and (xs (v4_).toNat).toInt 63) = 27 then (t_Law_law_L1209 xs L (fun a0_ a1_ => t_Law_law_L23 xs L fu a0_ a1_) M v4_) else (if (q_and (xs (v4_).toNat).toInt 63) = 28 then (t_Law_law_L1234 xs L (fun a0_ a1_ => t_Law_law_L23 xs L fu a0_ a1_) M v4_) else (if (q_and (xs (v4_).toNat).toInt 63) = 29 then (t_Law_law_L1271 xs L (fun a0_ a1_ => t_Law_law_L23 xs L fu a0_ a1_) M v4_) else (if (q_and (xs (v4_).toNat).toInt 63) = 30 then (t_Law_law_L1308 xs L (fun a0_ a1_ => t_Law_law_L23 xs L fu a0_ a1_) M v4_) else (if (q_and (xs (v4_).toNat).toInt 63) = 31 then (t_Law_law_L1333 xs L (fun a0_ a1_ => t_Law_law_L23 xs L fu a0_ a1_) M v4_) else (if (q_and (xs (v4_).toNat).toInt 63) = 32 then (t_Law_law_L1358 xs L (fun a0_ a1_ => t_Law_law_L23 xs L fu a0_ a1_) M v4_) else (if (q_and (xs (v4_).toNat).toInt 63) = 33 then (t_Law_law_L1371 xs L (fun a0_ a1_ => t_Law_law_L23 xs L fu a0_ a1_) M v4_) else (if (q_and (xs (v4_).toNat).toInt 63) = 34 then (t_Law_law_L1396 xs L (fun a0_ a1_ => t_Law_law_L23 xs L fu a0_ a1_) M v4_) else (if (q_and (xs (v4_).toNat).toInt 63) = 35 then (t_Law_law_L1421 xs L (fun a0_ a1_ => t_Law_law_L23 xs L fu a0_ a1_) M v4_) else (if (q_and (xs (v4_).toNat).toInt 63) = 36 then (t_Law_law_L1458 xs L (fun a0_ a1_ => t_Law_law_L23 xs L fu a0_ a1_) M v4_) else (if (q_and (xs (v4_).toNat).toInt 63) = 37 then (t_Law_law_L1507 xs L (fun a0_ a1_ => t_Law_law_L23 xs L fu a0_ a1_) M v4_) else (if (q_and (xs (v4_).toNat).toInt 63) = 38 then (t_Law_law_L1520 xs L (fun a0_ a1_ => t_Law_law_L23 xs L fu a0_ a1_) M v4_) else (if (q_and (xs (v4_).toNat).toInt 63) = 39 then (t_Law_law_L1533 xs L (fun a0_ a1_ => t_Law_law_L23 xs L fu a0_ a1_) M v4_) else (if (q_and (xs (v4_).toNat).toInt 63) = 40 then (t_Law_law_L1546 xs L (fun a0_ a1_ => t_Law_law_L23 xs L fu a0_ a1_) M v4_) else (t_Law_law_L1571 xs L (fun a0_ a1_ => t_Law_law_L23 xs L fu a0_ a1_) M v4_)))))))))))))))))))))))))))))))))))))))))))
set_option maxHeartbeats 16000000 in
set_option maxRecDepth 100000 in
theorem k_Law_law_L1571 (l : Launch) (hlf : l.stackTraces = false) {p : Program} {e : Env} {s : State} {m : MethodId} {below : List Frame} {meth : Method} {c : Code} {b : Nat} {C : CT} {scr L : Nat} {xs : Nat → Int32} (hL : L ≤ 3072) (F : Cx p m c b_Law_law 7 s ([.ref scr] : List Value).toArray "WardFallsLaw" C 232 232) (hX : EX b s) (hXs : va_X scr L xs s s.heap) (hsl : scr < s.heap.size) (hb : b = s.heap.size) (hlk : meth.locks = false) (hr : meth.sig.returnType = ret) (bk23 : Mem → Int → Option Int) (j : Nat) (hjL : 6 * j + 6 ≤ L) (hbk23 : ∀ (M : Mem) (v4_ : Int) (hv4_ : InR v4_) (hij : v4_ = 6 * ((j + 1 : Nat) : Int)) (cells slots : Nat) (hcs : cells ≤ 232 + (j + 1) ∧ slots ≤ 11930 + 6 * (j + 1)) (H : Heap) (locs : List Loc) (ls : Array Slot), St b C 232 M s H locs → lv_has ls 7 [(0, .ref scr), (1, .ref (b + 0)), (2, .ref (b + 191)), (3, .ref (b + 231)), (4, vI v4_)] → bk23 M v4_ = some 1 → W p l e room_1 s m #[Value.ref scr] below meth c H locs cells slots (lw_Z below #[Value.ref scr] s) (F0 m 23 ls [])) (M : Mem) (v4_ : Int) (hv4_ : InR v4_) (hij : v4_ = 6 * (j : Int)) (cells slots : Nat) (hcs1 : cells ≤ 233 + j ∧ slots ≤ 11936 + 6 * j) (H : Heap) (locs : List Loc) (ls : Array Slot) (hS : St b C 232 M s H locs) (hl : lv_has ls 7 [(0, .ref scr), (1, .ref (b + 0)), (2, .ref (b + 191)), (3, .ref (b + 231)), (4, vI v4_)]) (hT : t_Law_law_L1571 xs L bk23 M v4_ = some 1) : W p l e room_1 s m #[Value.ref scr] below meth c H locs cells slots (lw_Z below #[Value.ref scr] s) (F0 m 1571 ls []) := by
  unfold t_Law_law_L1571 at hT
  refine lv_iinc (v := Int32.ofInt (w32 (v4_ + 6))) (lv' := [(4, vI (w32 (v4_ + 6))), (0, .ref scr), (1, .ref (b + 0)), (2, .ref (b + 191)), (3, .ref (b + 231))]) F.hx F.hb d_Law_law_1571 hl (k := 4) rfl (q_of_add _ _) (Nat.le_of_ble_eq_true rfl) rfl (fun ls hl => ?_)
  refine lv_goto (tgt := 23) F.hx F.hb d_Law_law_1574 (by decide) ?_
  exact hbk23 M (w32 (v4_ + 6)) (inr_w32 _) (law_nx hij hjL hL) _ _ (law_cs hcs1) _ _ _ hS (lv_sub hl [1, 2, 3, 4, 0] rfl) hT
set_option maxHeartbeats 16000000 in
set_option maxRecDepth 100000 in
theorem k_Law_law_L220 (l : Launch) (hlf : l.stackTraces = false) {p : Program} {e : Env} {s : State} {m : MethodId} {below : List Frame} {meth : Method} {c : Code} {b : Nat} {C : CT} {scr L : Nat} {xs : Nat → Int32} (hL : L ≤ 3072) (F : Cx p m c b_Law_law 7 s ([.ref scr] : List Value).toArray "WardFallsLaw" C 232 232) (hX : EX b s) (hXs : va_X scr L xs s s.heap) (hsl : scr < s.heap.size) (hb : b = s.heap.size) (hlk : meth.locks = false) (hr : meth.sig.returnType = ret) (bk23 : Mem → Int → Option Int) (j : Nat) (hjL : 6 * j + 6 ≤ L) (hbk23 : ∀ (M : Mem) (v4_ : Int) (hv4_ : InR v4_) (hij : v4_ = 6 * ((j + 1 : Nat) : Int)) (cells slots : Nat) (hcs : cells ≤ 232 + (j + 1) ∧ slots ≤ 11930 + 6 * (j + 1)) (H : Heap) (locs : List Loc) (ls : Array Slot), St b C 232 M s H locs → lv_has ls 7 [(0, .ref scr), (1, .ref (b + 0)), (2, .ref (b + 191)), (3, .ref (b + 231)), (4, vI v4_)] → bk23 M v4_ = some 1 → W p l e room_1 s m #[Value.ref scr] below meth c H locs cells slots (lw_Z below #[Value.ref scr] s) (F0 m 23 ls [])) (M : Mem) (v4_ : Int) (hv4_ : InR v4_) (hij : v4_ = 6 * (j : Int)) (cells slots : Nat) (hcs : cells ≤ 232 + j ∧ slots ≤ 11930 + 6 * j) (H : Heap) (locs : List Loc) (ls : Array Slot) (hS : St b C 232 M s H locs) (hl : lv_has ls 7 [(0, .ref scr), (1, .ref (b + 0)), (2, .ref (b + 191)), (3, .ref (b + 231)), (4, vI v4_)]) (hT : t_Law_law_L220 xs L bk23 M v4_ = some 1) : W p l e room_1 s m #[Value.ref scr] below meth c H locs cells slots (lw_Z below #[Value.ref scr] s) (F0 m 220 ls []) := by
  have hcs1 : cells ≤ 233 + j ∧ slots ≤ 11936 + 6 * j := ⟨by omega, by omega⟩
  unfold t_Law_law_L220 at hT
  refine lv_aload_n F.hx F.hb d_Law_law_220 rfl (lv_at hl 1 rfl) ?_
  refine lv_aload_n F.hx F.hb d_Law_law_221 rfl (lv_at hl 0 rfl) ?_
  refine lv_iload F.hx F.hb d_Law_law_222 (lv_at hl 4 rfl) ?_
  refine r_iconst F.hx F.hb d_Law_law_224 ?_
  refine r_iadd F.hx F.hb d_Law_law_225 ?_
  refine r_sld F hS hXs hsl hb (inr_w32 _) (law_ix hij hjL hL 1 (by decide) (by decide)).1 (law_ix hij hjL hL 1 (by decide) (by decide)).2 d_Law_law_226 ?_
  refine lv_aload_n F.hx F.hb d_Law_law_227 rfl (lv_at hl 0 rfl) ?_
  refine lv_iload F.hx F.hb d_Law_law_228 (lv_at hl 4 rfl) ?_
  refine r_iconst F.hx F.hb d_Law_law_230 ?_
  refine r_iadd F.hx F.hb d_Law_law_231 ?_
  refine r_sld F hS hXs hsl hb (inr_w32 _) (law_ix hij hjL hL 2 (by decide) (by decide)).1 (law_ix hij hjL hL 2 (by decide) (by decide)).2 d_Law_law_232 ?_
  refine lv_aload_n F.hx F.hb d_Law_law_233 rfl (lv_at hl 0 rfl) ?_
  refine lv_iload F.hx F.hb d_Law_law_234 (lv_at hl 4 rfl) ?_
  refine r_iconst F.hx F.hb d_Law_law_236 ?_
  refine r_iadd F.hx F.hb d_Law_law_237 ?_
  refine r_sld F hS hXs hsl hb (inr_w32 _) (law_ix hij hjL hL 3 (by decide) (by decide)).1 (law_ix hij hjL hL 3 (by decide) (by decide)).2 d_Law_law_238 ?_
  refine lv_aload_n F.hx F.hb d_Law_law_239 rfl (lv_at hl 0 rfl) ?_
  refine lv_iload F.hx F.hb d_Law_law_240 (lv_at hl 4 rfl) ?_
  refine r_iconst F.hx F.hb d_Law_law_242 ?_
  refine r_iadd F.hx F.hb d_Law_law_243 ?_
  refine r_sld F hS hXs hsl hb (inr_w32 _) (law_ix hij hjL hL 4 (by decide) (by decide)).1 (law_ix hij hjL hL 4 (by decide) (by decide)).2 d_Law_law_244 ?_
  refine lv_aload_n F.hx F.hb d_Law_law_245 rfl (lv_at hl 0 rfl) ?_
  refine lv_iload F.hx F.hb d_Law_law_246 (lv_at hl 4 rfl) ?_
  refine r_iconst F.hx F.hb d_Law_law_248 ?_
  refine r_iadd F.hx F.hb d_Law_law_249 ?_
  refine r_sld F hS hXs hsl hb (inr_w32 _) (law_ix hij hjL hL 5 (by decide) (by decide)).1 (law_ix hij hjL hL 5 (by decide) (by decide)).2 d_Law_law_250 ?_
  obtain ⟨q43, hq43, hT⟩ := q_obind hT
  refine r_backI F hS (r_runV (k := 0) (N := 19) (T := T0) (As := [vI (xs ((w32 (v4_ + 1))).toNat).toInt, vI (xs ((w32 (v4_ + 2))).toNat).toInt, vI (xs ((w32 (v4_ + 3))).toNat).toInt, vI (xs ((w32 (v4_ + 4))).toNat).toInt, vI (xs ((w32 (v4_ + 5))).toNat).toInt]) F hS (show 0 < 232 by decide) (show shK 0 = 4 from rfl) rfl (c_WF_feed l (Nat.le_of_ble_eq_true rfl) M (xs ((w32 (v4_ + 1))).toNat).toInt (xs ((w32 (v4_ + 2))).toNat).toInt (xs ((w32 (v4_ + 3))).toNat).toInt (xs ((w32 (v4_ + 4))).toNat).toInt (xs ((w32 (v4_ + 5))).toNat).toInt (q_inr_toInt _) (q_inr_toInt _) (q_inr_toInt _) (q_inr_toInt _) (q_inr_toInt _) _ hq43) gs_WardFallsLaw_21 hd_WF_feed ⟨Nat.le_of_ble_eq_true rfl, Nat.le_of_ble_eq_true rfl⟩ rfl hl.1 (Nat.le_of_ble_eq_true rfl) (law_rc hcs1 hjL hL) rfl d_Law_law_251) (fun H locs hS h44 => ?_)
  refine lv_aload_n F.hx F.hb d_Law_law_254 rfl (lv_at hl 2 rfl) ?_
  refine lv_aload_n F.hx F.hb d_Law_law_255 rfl (lv_at hl 0 rfl) ?_
  refine lv_iload F.hx F.hb d_Law_law_256 (lv_at hl 4 rfl) ?_
  refine r_iconst F.hx F.hb d_Law_law_258 ?_
  refine r_iadd F.hx F.hb d_Law_law_259 ?_
  refine r_sld F hS hXs hsl hb (inr_w32 _) (law_ix hij hjL hL 1 (by decide) (by decide)).1 (law_ix hij hjL hL 1 (by decide) (by decide)).2 d_Law_law_260 ?_
  refine lv_aload_n F.hx F.hb d_Law_law_261 rfl (lv_at hl 0 rfl) ?_
  refine lv_iload F.hx F.hb d_Law_law_262 (lv_at hl 4 rfl) ?_
  refine r_iconst F.hx F.hb d_Law_law_264 ?_
  refine r_iadd F.hx F.hb d_Law_law_265 ?_
  refine r_sld F hS hXs hsl hb (inr_w32 _) (law_ix hij hjL hL 2 (by decide) (by decide)).1 (law_ix hij hjL hL 2 (by decide) (by decide)).2 d_Law_law_266 ?_
  refine lv_aload_n F.hx F.hb d_Law_law_267 rfl (lv_at hl 0 rfl) ?_
  refine lv_iload F.hx F.hb d_Law_law_268 (lv_at hl 4 rfl) ?_
  refine r_iconst F.hx F.hb d_Law_law_270 ?_
  refine r_iadd F.hx F.hb d_Law_law_271 ?_
  refine r_sld F hS hXs hsl hb (inr_w32 _) (law_ix hij hjL hL 3 (by decide) (by decide)).1 (law_ix hij hjL hL 3 (by decide) (by decide)).2 d_Law_law_272 ?_
  refine lv_aload_n F.hx F.hb d_Law_law_273 rfl (lv_at hl 0 rfl) ?_
  refine lv_iload F.hx F.hb d_Law_law_274 (lv_at hl 4 rfl) ?_
  refine r_iconst F.hx F.hb d_Law_law_276 ?_
  refine r_iadd F.hx F.hb d_Law_law_277 ?_
  refine r_sld F hS hXs hsl hb (inr_w32 _) (law_ix hij hjL hL 4 (by decide) (by decide)).1 (law_ix hij hjL hL 4 (by decide) (by decide)).2 d_Law_law_278 ?_
  refine lv_aload_n F.hx F.hb d_Law_law_279 rfl (lv_at hl 0 rfl) ?_
  refine lv_iload F.hx F.hb d_Law_law_280 (lv_at hl 4 rfl) ?_
  refine r_iconst F.hx F.hb d_Law_law_282 ?_
  refine r_iadd F.hx F.hb d_Law_law_283 ?_
  refine r_sld F hS hXs hsl hb (inr_w32 _) (law_ix hij hjL hL 5 (by decide) (by decide)).1 (law_ix hij hjL hL 5 (by decide) (by decide)).2 d_Law_law_284 ?_
  obtain ⟨q45, hq45, hT⟩ := q_obind hT
  refine r_backI F hS (r_runV (k := 191) (N := 68) (T := T1) (As := [vI (xs ((w32 (v4_ + 1))).toNat).toInt, vI (xs ((w32 (v4_ + 2))).toNat).toInt, vI (xs ((w32 (v4_ + 3))).toNat).toInt, vI (xs ((w32 (v4_ + 4))).toNat).toInt, vI (xs ((w32 (v4_ + 5))).toNat).toInt]) F hS (show 191 < 232 by decide) (show shK 191 = 5 from rfl) rfl (c_MO_feed l (Nat.le_of_ble_eq_true rfl) (q43.1) (xs ((w32 (v4_ + 1))).toNat).toInt (xs ((w32 (v4_ + 2))).toNat).toInt (xs ((w32 (v4_ + 3))).toNat).toInt (xs ((w32 (v4_ + 4))).toNat).toInt (xs ((w32 (v4_ + 5))).toNat).toInt (q_inr_toInt _) (q_inr_toInt _) (q_inr_toInt _) (q_inr_toInt _) (q_inr_toInt _) _ hq45) gs_WardFallsLaw_25 hd_MO_feed ⟨Nat.le_of_ble_eq_true rfl, Nat.le_of_ble_eq_true rfl⟩ rfl hl.1 (Nat.le_of_ble_eq_true rfl) (law_rc hcs1 hjL hL) rfl d_Law_law_285) (fun H locs hS h46 => ?_)
  refine r_icmp_eq (tgt := 1571) F.hx F.hb h44 h46 d_Law_law_288 (by decide) (fun c47 => ?_) (fun c47 => ?_)
  · replace hT := (if_pos c47).symm.trans hT
    exact k_Law_law_L1571 l hlf hL F hX hXs hsl hb hlk hr bk23 j hjL hbk23 (q45.1) v4_ hv4_ hij _ _ hcs1 _ _ _ hS (lv_sub hl [0, 1, 2, 3, 4] rfl) hT
  · replace hT := (if_neg c47).symm.trans hT
    refine r_iconst F.hx F.hb d_Law_law_291 ?_
    exact absurd hT (by decide)
set_option maxHeartbeats 16000000 in
set_option maxRecDepth 100000 in
theorem k_Law_law_L293 (l : Launch) (hlf : l.stackTraces = false) {p : Program} {e : Env} {s : State} {m : MethodId} {below : List Frame} {meth : Method} {c : Code} {b : Nat} {C : CT} {scr L : Nat} {xs : Nat → Int32} (hL : L ≤ 3072) (F : Cx p m c b_Law_law 7 s ([.ref scr] : List Value).toArray "WardFallsLaw" C 232 232) (hX : EX b s) (hXs : va_X scr L xs s s.heap) (hsl : scr < s.heap.size) (hb : b = s.heap.size) (hlk : meth.locks = false) (hr : meth.sig.returnType = ret) (bk23 : Mem → Int → Option Int) (j : Nat) (hjL : 6 * j + 6 ≤ L) (hbk23 : ∀ (M : Mem) (v4_ : Int) (hv4_ : InR v4_) (hij : v4_ = 6 * ((j + 1 : Nat) : Int)) (cells slots : Nat) (hcs : cells ≤ 232 + (j + 1) ∧ slots ≤ 11930 + 6 * (j + 1)) (H : Heap) (locs : List Loc) (ls : Array Slot), St b C 232 M s H locs → lv_has ls 7 [(0, .ref scr), (1, .ref (b + 0)), (2, .ref (b + 191)), (3, .ref (b + 231)), (4, vI v4_)] → bk23 M v4_ = some 1 → W p l e room_1 s m #[Value.ref scr] below meth c H locs cells slots (lw_Z below #[Value.ref scr] s) (F0 m 23 ls [])) (M : Mem) (v4_ : Int) (hv4_ : InR v4_) (hij : v4_ = 6 * (j : Int)) (cells slots : Nat) (hcs : cells ≤ 232 + j ∧ slots ≤ 11930 + 6 * j) (H : Heap) (locs : List Loc) (ls : Array Slot) (hS : St b C 232 M s H locs) (hl : lv_has ls 7 [(0, .ref scr), (1, .ref (b + 0)), (2, .ref (b + 191)), (3, .ref (b + 231)), (4, vI v4_)]) (hT : t_Law_law_L293 xs L bk23 M v4_ = some 1) : W p l e room_1 s m #[Value.ref scr] below meth c H locs cells slots (lw_Z below #[Value.ref scr] s) (F0 m 293 ls []) := by
  have hcs1 : cells ≤ 233 + j ∧ slots ≤ 11936 + 6 * j := ⟨by omega, by omega⟩
  unfold t_Law_law_L293 at hT
  refine lv_aload_n F.hx F.hb d_Law_law_293 rfl (lv_at hl 1 rfl) ?_
  refine lv_aload_n F.hx F.hb d_Law_law_294 rfl (lv_at hl 0 rfl) ?_
  refine lv_iload F.hx F.hb d_Law_law_295 (lv_at hl 4 rfl) ?_
  refine r_iconst F.hx F.hb d_Law_law_297 ?_
  refine r_iadd F.hx F.hb d_Law_law_298 ?_
  refine r_sld F hS hXs hsl hb (inr_w32 _) (law_ix hij hjL hL 1 (by decide) (by decide)).1 (law_ix hij hjL hL 1 (by decide) (by decide)).2 d_Law_law_299 ?_
  obtain ⟨q48, hq48, hT⟩ := q_obind hT
  refine r_backI F hS (r_runV (k := 0) (N := 19) (T := T0) (As := [vI (xs ((w32 (v4_ + 1))).toNat).toInt]) F hS (show 0 < 232 by decide) (show shK 0 = 4 from rfl) rfl (c_WF_text l (Nat.le_of_ble_eq_true rfl) M (xs ((w32 (v4_ + 1))).toNat).toInt (q_inr_toInt _) _ hq48) gs_WardFallsLaw_26 hd_WF_text ⟨Nat.le_of_ble_eq_true rfl, Nat.le_of_ble_eq_true rfl⟩ rfl hl.1 (Nat.le_of_ble_eq_true rfl) (law_rc hcs1 hjL hL) rfl d_Law_law_300) (fun H locs hS h49 => ?_)
  refine lv_aload_n F.hx F.hb d_Law_law_303 rfl (lv_at hl 2 rfl) ?_
  refine lv_aload_n F.hx F.hb d_Law_law_304 rfl (lv_at hl 0 rfl) ?_
  refine lv_iload F.hx F.hb d_Law_law_305 (lv_at hl 4 rfl) ?_
  refine r_iconst F.hx F.hb d_Law_law_307 ?_
  refine r_iadd F.hx F.hb d_Law_law_308 ?_
  refine r_sld F hS hXs hsl hb (inr_w32 _) (law_ix hij hjL hL 1 (by decide) (by decide)).1 (law_ix hij hjL hL 1 (by decide) (by decide)).2 d_Law_law_309 ?_
  obtain ⟨q50, hq50, hT⟩ := q_obind hT
  refine r_backI F hS (r_runV (k := 191) (N := 68) (T := T1) (As := [vI (xs ((w32 (v4_ + 1))).toNat).toInt]) F hS (show 191 < 232 by decide) (show shK 191 = 5 from rfl) rfl (c_MO_text l (Nat.le_of_ble_eq_true rfl) (q48.1) (xs ((w32 (v4_ + 1))).toNat).toInt (q_inr_toInt _) _ hq50) gs_WardFallsLaw_30 hd_MO_text ⟨Nat.le_of_ble_eq_true rfl, Nat.le_of_ble_eq_true rfl⟩ rfl hl.1 (Nat.le_of_ble_eq_true rfl) (law_rc hcs1 hjL hL) rfl d_Law_law_310) (fun H locs hS h51 => ?_)
  refine r_icmp_eq (tgt := 1571) F.hx F.hb h49 h51 d_Law_law_313 (by decide) (fun c52 => ?_) (fun c52 => ?_)
  · replace hT := (if_pos c52).symm.trans hT
    exact k_Law_law_L1571 l hlf hL F hX hXs hsl hb hlk hr bk23 j hjL hbk23 (q50.1) v4_ hv4_ hij _ _ hcs1 _ _ _ hS (lv_sub hl [0, 1, 2, 3, 4] rfl) hT
  · replace hT := (if_neg c52).symm.trans hT
    refine r_iconst F.hx F.hb d_Law_law_316 ?_
    exact absurd hT (by decide)
set_option maxHeartbeats 16000000 in
set_option maxRecDepth 100000 in
theorem k_Law_law_L318 (l : Launch) (hlf : l.stackTraces = false) {p : Program} {e : Env} {s : State} {m : MethodId} {below : List Frame} {meth : Method} {c : Code} {b : Nat} {C : CT} {scr L : Nat} {xs : Nat → Int32} (hL : L ≤ 3072) (F : Cx p m c b_Law_law 7 s ([.ref scr] : List Value).toArray "WardFallsLaw" C 232 232) (hX : EX b s) (hXs : va_X scr L xs s s.heap) (hsl : scr < s.heap.size) (hb : b = s.heap.size) (hlk : meth.locks = false) (hr : meth.sig.returnType = ret) (bk23 : Mem → Int → Option Int) (j : Nat) (hjL : 6 * j + 6 ≤ L) (hbk23 : ∀ (M : Mem) (v4_ : Int) (hv4_ : InR v4_) (hij : v4_ = 6 * ((j + 1 : Nat) : Int)) (cells slots : Nat) (hcs : cells ≤ 232 + (j + 1) ∧ slots ≤ 11930 + 6 * (j + 1)) (H : Heap) (locs : List Loc) (ls : Array Slot), St b C 232 M s H locs → lv_has ls 7 [(0, .ref scr), (1, .ref (b + 0)), (2, .ref (b + 191)), (3, .ref (b + 231)), (4, vI v4_)] → bk23 M v4_ = some 1 → W p l e room_1 s m #[Value.ref scr] below meth c H locs cells slots (lw_Z below #[Value.ref scr] s) (F0 m 23 ls [])) (M : Mem) (v4_ : Int) (hv4_ : InR v4_) (hij : v4_ = 6 * (j : Int)) (cells slots : Nat) (hcs : cells ≤ 232 + j ∧ slots ≤ 11930 + 6 * j) (H : Heap) (locs : List Loc) (ls : Array Slot) (hS : St b C 232 M s H locs) (hl : lv_has ls 7 [(0, .ref scr), (1, .ref (b + 0)), (2, .ref (b + 191)), (3, .ref (b + 231)), (4, vI v4_)]) (hT : t_Law_law_L318 xs L bk23 M v4_ = some 1) : W p l e room_1 s m #[Value.ref scr] below meth c H locs cells slots (lw_Z below #[Value.ref scr] s) (F0 m 318 ls []) := by
  have hcs1 : cells ≤ 233 + j ∧ slots ≤ 11936 + 6 * j := ⟨by omega, by omega⟩
  unfold t_Law_law_L318 at hT
  refine lv_aload_n F.hx F.hb d_Law_law_318 rfl (lv_at hl 1 rfl) ?_
  refine lv_aload_n F.hx F.hb d_Law_law_319 rfl (lv_at hl 0 rfl) ?_
  refine lv_iload F.hx F.hb d_Law_law_320 (lv_at hl 4 rfl) ?_
  refine r_iconst F.hx F.hb d_Law_law_322 ?_
  refine r_iadd F.hx F.hb d_Law_law_323 ?_
  refine r_sld F hS hXs hsl hb (inr_w32 _) (law_ix hij hjL hL 1 (by decide) (by decide)).1 (law_ix hij hjL hL 1 (by decide) (by decide)).2 d_Law_law_324 ?_
  obtain ⟨q53, hq53⟩ : ∃ q, q = (t_WF_fault M (xs ((w32 (v4_ + 1))).toNat).toInt) := ⟨_, rfl⟩
  replace hT := qlet_eq hT hq53
  refine r_backI F hS (r_runV (k := 0) (N := 19) (T := T0) (As := [vI (xs ((w32 (v4_ + 1))).toNat).toInt]) F hS (show 0 < 232 by decide) (show shK 0 = 4 from rfl) rfl (c_WF_fault l (Nat.le_of_ble_eq_true rfl) M (xs ((w32 (v4_ + 1))).toNat).toInt (q_inr_toInt _) _ hq53.symm) gs_WardFallsLaw_31 hd_WF_fault ⟨Nat.le_of_ble_eq_true rfl, Nat.le_of_ble_eq_true rfl⟩ rfl hl.1 (Nat.le_of_ble_eq_true rfl) (law_rc hcs1 hjL hL) rfl d_Law_law_325) (fun H locs hS h54 => ?_)
  refine lv_aload_n F.hx F.hb d_Law_law_328 rfl (lv_at hl 2 rfl) ?_
  refine lv_aload_n F.hx F.hb d_Law_law_329 rfl (lv_at hl 0 rfl) ?_
  refine lv_iload F.hx F.hb d_Law_law_330 (lv_at hl 4 rfl) ?_
  refine r_iconst F.hx F.hb d_Law_law_332 ?_
  refine r_iadd F.hx F.hb d_Law_law_333 ?_
  refine r_sld F hS hXs hsl hb (inr_w32 _) (law_ix hij hjL hL 1 (by decide) (by decide)).1 (law_ix hij hjL hL 1 (by decide) (by decide)).2 d_Law_law_334 ?_
  obtain ⟨q55, hq55⟩ : ∃ q, q = (t_MO_fault M (xs ((w32 (v4_ + 1))).toNat).toInt) := ⟨_, rfl⟩
  replace hT := qlet_eq hT hq55
  refine r_backI F hS (r_runV (k := 191) (N := 68) (T := T1) (As := [vI (xs ((w32 (v4_ + 1))).toNat).toInt]) F hS (show 191 < 232 by decide) (show shK 191 = 5 from rfl) rfl (c_MO_fault l (Nat.le_of_ble_eq_true rfl) M (xs ((w32 (v4_ + 1))).toNat).toInt (q_inr_toInt _) _ hq55.symm) gs_WardFallsLaw_34 hd_MO_fault ⟨Nat.le_of_ble_eq_true rfl, Nat.le_of_ble_eq_true rfl⟩ rfl hl.1 (Nat.le_of_ble_eq_true rfl) (law_rc hcs1 hjL hL) rfl d_Law_law_335) (fun H locs hS h56 => ?_)
  refine r_icmp_eq (tgt := 1571) F.hx F.hb h54 h56 d_Law_law_338 (by decide) (fun c57 => ?_) (fun c57 => ?_)
  · replace hT := (if_pos c57).symm.trans hT
    exact k_Law_law_L1571 l hlf hL F hX hXs hsl hb hlk hr bk23 j hjL hbk23 (q55.1) v4_ hv4_ hij _ _ hcs1 _ _ _ hS (lv_sub hl [0, 1, 2, 3, 4] rfl) hT
  · replace hT := (if_neg c57).symm.trans hT
    refine r_iconst F.hx F.hb d_Law_law_341 ?_
    exact absurd hT (by decide)
set_option maxHeartbeats 16000000 in
set_option maxRecDepth 100000 in
theorem k_Law_law_L343 (l : Launch) (hlf : l.stackTraces = false) {p : Program} {e : Env} {s : State} {m : MethodId} {below : List Frame} {meth : Method} {c : Code} {b : Nat} {C : CT} {scr L : Nat} {xs : Nat → Int32} (hL : L ≤ 3072) (F : Cx p m c b_Law_law 7 s ([.ref scr] : List Value).toArray "WardFallsLaw" C 232 232) (hX : EX b s) (hXs : va_X scr L xs s s.heap) (hsl : scr < s.heap.size) (hb : b = s.heap.size) (hlk : meth.locks = false) (hr : meth.sig.returnType = ret) (bk23 : Mem → Int → Option Int) (j : Nat) (hjL : 6 * j + 6 ≤ L) (hbk23 : ∀ (M : Mem) (v4_ : Int) (hv4_ : InR v4_) (hij : v4_ = 6 * ((j + 1 : Nat) : Int)) (cells slots : Nat) (hcs : cells ≤ 232 + (j + 1) ∧ slots ≤ 11930 + 6 * (j + 1)) (H : Heap) (locs : List Loc) (ls : Array Slot), St b C 232 M s H locs → lv_has ls 7 [(0, .ref scr), (1, .ref (b + 0)), (2, .ref (b + 191)), (3, .ref (b + 231)), (4, vI v4_)] → bk23 M v4_ = some 1 → W p l e room_1 s m #[Value.ref scr] below meth c H locs cells slots (lw_Z below #[Value.ref scr] s) (F0 m 23 ls [])) (M : Mem) (v4_ : Int) (hv4_ : InR v4_) (hij : v4_ = 6 * (j : Int)) (cells slots : Nat) (hcs : cells ≤ 232 + j ∧ slots ≤ 11930 + 6 * j) (H : Heap) (locs : List Loc) (ls : Array Slot) (hS : St b C 232 M s H locs) (hl : lv_has ls 7 [(0, .ref scr), (1, .ref (b + 0)), (2, .ref (b + 191)), (3, .ref (b + 231)), (4, vI v4_)]) (hT : t_Law_law_L343 xs L bk23 M v4_ = some 1) : W p l e room_1 s m #[Value.ref scr] below meth c H locs cells slots (lw_Z below #[Value.ref scr] s) (F0 m 343 ls []) := by
  have hcs1 : cells ≤ 233 + j ∧ slots ≤ 11936 + 6 * j := ⟨by omega, by omega⟩
  unfold t_Law_law_L343 at hT
  refine lv_aload_n F.hx F.hb d_Law_law_343 rfl (lv_at hl 1 rfl) ?_
  refine lv_aload_n F.hx F.hb d_Law_law_344 rfl (lv_at hl 0 rfl) ?_
  refine lv_iload F.hx F.hb d_Law_law_345 (lv_at hl 4 rfl) ?_
  refine r_iconst F.hx F.hb d_Law_law_347 ?_
  refine r_iadd F.hx F.hb d_Law_law_348 ?_
  refine r_sld F hS hXs hsl hb (inr_w32 _) (law_ix hij hjL hL 1 (by decide) (by decide)).1 (law_ix hij hjL hL 1 (by decide) (by decide)).2 d_Law_law_349 ?_
  refine lv_aload_n F.hx F.hb d_Law_law_350 rfl (lv_at hl 0 rfl) ?_
  refine lv_iload F.hx F.hb d_Law_law_351 (lv_at hl 4 rfl) ?_
  refine r_iconst F.hx F.hb d_Law_law_353 ?_
  refine r_iadd F.hx F.hb d_Law_law_354 ?_
  refine r_sld F hS hXs hsl hb (inr_w32 _) (law_ix hij hjL hL 2 (by decide) (by decide)).1 (law_ix hij hjL hL 2 (by decide) (by decide)).2 d_Law_law_355 ?_
  obtain ⟨q58, hq58, hT⟩ := q_obind hT
  refine r_backI F hS (r_runV (k := 0) (N := 19) (T := T0) (As := [vI (xs ((w32 (v4_ + 1))).toNat).toInt, vI (xs ((w32 (v4_ + 2))).toNat).toInt]) F hS (show 0 < 232 by decide) (show shK 0 = 4 from rfl) rfl (c_WF_named l (Nat.le_of_ble_eq_true rfl) M (xs ((w32 (v4_ + 1))).toNat).toInt (xs ((w32 (v4_ + 2))).toNat).toInt (q_inr_toInt _) (q_inr_toInt _) _ hq58) gs_WardFallsLaw_35 hd_WF_named ⟨Nat.le_of_ble_eq_true rfl, Nat.le_of_ble_eq_true rfl⟩ rfl hl.1 (Nat.le_of_ble_eq_true rfl) (law_rc hcs1 hjL hL) rfl d_Law_law_356) (fun H locs hS h59 => ?_)
  refine lv_aload_n F.hx F.hb d_Law_law_359 rfl (lv_at hl 2 rfl) ?_
  refine lv_aload_n F.hx F.hb d_Law_law_360 rfl (lv_at hl 0 rfl) ?_
  refine lv_iload F.hx F.hb d_Law_law_361 (lv_at hl 4 rfl) ?_
  refine r_iconst F.hx F.hb d_Law_law_363 ?_
  refine r_iadd F.hx F.hb d_Law_law_364 ?_
  refine r_sld F hS hXs hsl hb (inr_w32 _) (law_ix hij hjL hL 1 (by decide) (by decide)).1 (law_ix hij hjL hL 1 (by decide) (by decide)).2 d_Law_law_365 ?_
  refine lv_aload_n F.hx F.hb d_Law_law_366 rfl (lv_at hl 0 rfl) ?_
  refine lv_iload F.hx F.hb d_Law_law_367 (lv_at hl 4 rfl) ?_
  refine r_iconst F.hx F.hb d_Law_law_369 ?_
  refine r_iadd F.hx F.hb d_Law_law_370 ?_
  refine r_sld F hS hXs hsl hb (inr_w32 _) (law_ix hij hjL hL 2 (by decide) (by decide)).1 (law_ix hij hjL hL 2 (by decide) (by decide)).2 d_Law_law_371 ?_
  obtain ⟨q60, hq60, hT⟩ := q_obind hT
  refine r_backI F hS (r_runV (k := 191) (N := 68) (T := T1) (As := [vI (xs ((w32 (v4_ + 1))).toNat).toInt, vI (xs ((w32 (v4_ + 2))).toNat).toInt]) F hS (show 191 < 232 by decide) (show shK 191 = 5 from rfl) rfl (c_MO_named l (Nat.le_of_ble_eq_true rfl) M (xs ((w32 (v4_ + 1))).toNat).toInt (xs ((w32 (v4_ + 2))).toNat).toInt (q_inr_toInt _) (q_inr_toInt _) _ hq60) gs_WardFallsLaw_38 hd_MO_named ⟨Nat.le_of_ble_eq_true rfl, Nat.le_of_ble_eq_true rfl⟩ rfl hl.1 (Nat.le_of_ble_eq_true rfl) (law_rc hcs1 hjL hL) rfl d_Law_law_372) (fun H locs hS h61 => ?_)
  refine r_icmp_eq (tgt := 1571) F.hx F.hb h59 h61 d_Law_law_375 (by decide) (fun c62 => ?_) (fun c62 => ?_)
  · replace hT := (if_pos c62).symm.trans hT
    exact k_Law_law_L1571 l hlf hL F hX hXs hsl hb hlk hr bk23 j hjL hbk23 (q60.1) v4_ hv4_ hij _ _ hcs1 _ _ _ hS (lv_sub hl [0, 1, 2, 3, 4] rfl) hT
  · replace hT := (if_neg c62).symm.trans hT
    refine r_iconst F.hx F.hb d_Law_law_378 ?_
    exact absurd hT (by decide)
set_option maxHeartbeats 16000000 in
set_option maxRecDepth 100000 in
theorem k_Law_law_L445 (l : Launch) (hlf : l.stackTraces = false) {p : Program} {e : Env} {s : State} {m : MethodId} {below : List Frame} {meth : Method} {c : Code} {b : Nat} {C : CT} {scr L : Nat} {xs : Nat → Int32} (hL : L ≤ 3072) (F : Cx p m c b_Law_law 7 s ([.ref scr] : List Value).toArray "WardFallsLaw" C 232 232) (hX : EX b s) (hXs : va_X scr L xs s s.heap) (hsl : scr < s.heap.size) (hb : b = s.heap.size) (hlk : meth.locks = false) (hr : meth.sig.returnType = ret) (bk23 : Mem → Int → Option Int) (j : Nat) (hjL : 6 * j + 6 ≤ L) (hbk23 : ∀ (M : Mem) (v4_ : Int) (hv4_ : InR v4_) (hij : v4_ = 6 * ((j + 1 : Nat) : Int)) (cells slots : Nat) (hcs : cells ≤ 232 + (j + 1) ∧ slots ≤ 11930 + 6 * (j + 1)) (H : Heap) (locs : List Loc) (ls : Array Slot), St b C 232 M s H locs → lv_has ls 7 [(0, .ref scr), (1, .ref (b + 0)), (2, .ref (b + 191)), (3, .ref (b + 231)), (4, vI v4_)] → bk23 M v4_ = some 1 → W p l e room_1 s m #[Value.ref scr] below meth c H locs cells slots (lw_Z below #[Value.ref scr] s) (F0 m 23 ls [])) (M : Mem) (v4_ : Int) (hv4_ : InR v4_) (hij : v4_ = 6 * (j : Int)) (cells slots : Nat) (hcs1 : cells ≤ 233 + j ∧ slots ≤ 11936 + 6 * j) (H : Heap) (locs : List Loc) (ls : Array Slot) (hS : St b C 232 M s H locs) (hl : lv_has ls 7 [(0, .ref scr), (1, .ref (b + 0)), (2, .ref (b + 191)), (3, .ref (b + 231)), (4, vI v4_)]) (hT : t_Law_law_L445 xs L bk23 M v4_ = some 1) : W p l e room_1 s m #[Value.ref scr] below meth c H locs cells slots (lw_Z below #[Value.ref scr] s) (F0 m 445 ls []) := by
  unfold t_Law_law_L445 at hT
  refine lv_goto (tgt := 1571) F.hx F.hb d_Law_law_445 (by decide) ?_
  exact k_Law_law_L1571 l hlf hL F hX hXs hsl hb hlk hr bk23 j hjL hbk23 M v4_ hv4_ hij _ _ hcs1 _ _ _ hS (lv_sub hl [0, 1, 2, 3, 4] rfl) hT
set_option maxHeartbeats 16000000 in
set_option maxRecDepth 100000 in
theorem k_Law_law_L380 (l : Launch) (hlf : l.stackTraces = false) {p : Program} {e : Env} {s : State} {m : MethodId} {below : List Frame} {meth : Method} {c : Code} {b : Nat} {C : CT} {scr L : Nat} {xs : Nat → Int32} (hL : L ≤ 3072) (F : Cx p m c b_Law_law 7 s ([.ref scr] : List Value).toArray "WardFallsLaw" C 232 232) (hX : EX b s) (hXs : va_X scr L xs s s.heap) (hsl : scr < s.heap.size) (hb : b = s.heap.size) (hlk : meth.locks = false) (hr : meth.sig.returnType = ret) (bk23 : Mem → Int → Option Int) (j : Nat) (hjL : 6 * j + 6 ≤ L) (hbk23 : ∀ (M : Mem) (v4_ : Int) (hv4_ : InR v4_) (hij : v4_ = 6 * ((j + 1 : Nat) : Int)) (cells slots : Nat) (hcs : cells ≤ 232 + (j + 1) ∧ slots ≤ 11930 + 6 * (j + 1)) (H : Heap) (locs : List Loc) (ls : Array Slot), St b C 232 M s H locs → lv_has ls 7 [(0, .ref scr), (1, .ref (b + 0)), (2, .ref (b + 191)), (3, .ref (b + 231)), (4, vI v4_)] → bk23 M v4_ = some 1 → W p l e room_1 s m #[Value.ref scr] below meth c H locs cells slots (lw_Z below #[Value.ref scr] s) (F0 m 23 ls [])) (M : Mem) (v4_ : Int) (hv4_ : InR v4_) (hij : v4_ = 6 * (j : Int)) (cells slots : Nat) (hcs : cells ≤ 232 + j ∧ slots ≤ 11930 + 6 * j) (H : Heap) (locs : List Loc) (ls : Array Slot) (hS : St b C 232 M s H locs) (hl : lv_has ls 7 [(0, .ref scr), (1, .ref (b + 0)), (2, .ref (b + 191)), (3, .ref (b + 231)), (4, vI v4_)]) (hT : t_Law_law_L380 xs L bk23 M v4_ = some 1) : W p l e room_1 s m #[Value.ref scr] below meth c H locs cells slots (lw_Z below #[Value.ref scr] s) (F0 m 380 ls []) := by
  have hcs1 : cells ≤ 233 + j ∧ slots ≤ 11936 + 6 * j := ⟨by omega, by omega⟩
  unfold t_Law_law_L380 at hT
  refine lv_aload_n F.hx F.hb d_Law_law_380 rfl (lv_at hl 1 rfl) ?_
  refine lv_aload_n F.hx F.hb d_Law_law_381 rfl (lv_at hl 0 rfl) ?_
  refine lv_iload F.hx F.hb d_Law_law_382 (lv_at hl 4 rfl) ?_
  refine r_iconst F.hx F.hb d_Law_law_384 ?_
  refine r_iadd F.hx F.hb d_Law_law_385 ?_
  refine r_sld F hS hXs hsl hb (inr_w32 _) (law_ix hij hjL hL 1 (by decide) (by decide)).1 (law_ix hij hjL hL 1 (by decide) (by decide)).2 d_Law_law_386 ?_
  refine lv_aload_n F.hx F.hb d_Law_law_387 rfl (lv_at hl 0 rfl) ?_
  refine lv_iload F.hx F.hb d_Law_law_388 (lv_at hl 4 rfl) ?_
  refine r_iconst F.hx F.hb d_Law_law_390 ?_
  refine r_iadd F.hx F.hb d_Law_law_391 ?_
  refine r_sld F hS hXs hsl hb (inr_w32 _) (law_ix hij hjL hL 2 (by decide) (by decide)).1 (law_ix hij hjL hL 2 (by decide) (by decide)).2 d_Law_law_392 ?_
  refine lv_aload_n F.hx F.hb d_Law_law_393 rfl (lv_at hl 3 rfl) ?_
  obtain ⟨q63, hq63, hT⟩ := q_obind hT
  refine r_backIg F hS (r_runH (As := [.ref (b + 0), vI (xs ((w32 (v4_ + 1))).toNat).toInt, vI (xs ((w32 (v4_ + 2))).toNat).toInt, .ref (b + 231)]) F hX hS (c_Law_cell l hlf (Nat.le_refl _) M (xs ((w32 (v4_ + 1))).toNat).toInt (xs ((w32 (v4_ + 2))).toNat).toInt (q_inr_toInt _) (q_inr_toInt _) _ hq63) gs_Law_cell hd_Law_cell ⟨Nat.le_of_ble_eq_true rfl, Nat.le_of_ble_eq_true rfl⟩ rfl hl.1 (Nat.le_of_ble_eq_true rfl) (law_rc1 hcs1 hjL hL) rfl d_Law_law_394) (fun H locs hS h64 => ?_)
  have hcs2 : cells + 1 ≤ 233 + j ∧ slots + 6 ≤ 11936 + 6 * j := ⟨by omega, by omega⟩
  refine lv_istore (lv' := [(5, vI (q63.2)), (0, .ref scr), (1, .ref (b + 0)), (2, .ref (b + 191)), (3, .ref (b + 231)), (4, vI v4_)]) F.hx F.hb d_Law_law_397 hl (Nat.le_of_ble_eq_true rfl) rfl (fun ls hl => ?_)
  refine lv_aload_n F.hx F.hb d_Law_law_399 rfl (lv_at hl 3 rfl) ?_
  refine lv_aload_n F.hx F.hb d_Law_law_400 rfl (lv_at hl 1 rfl) ?_
  refine lv_iload F.hx F.hb d_Law_law_401 (lv_at hl 5 rfl) ?_
  refine r_iconst F.hx F.hb d_Law_law_403 ?_
  refine r_iadd F.hx F.hb d_Law_law_404 ?_
  refine r_sld F hS hXs hsl hb (inr_w32 _) (law_ix hij hjL hL 1 (by decide) (by decide)).1 (law_ix hij hjL hL 1 (by decide) (by decide)).2 d_Law_law_405 ?_
  refine lv_aload_n F.hx F.hb d_Law_law_406 rfl (lv_at hl 1 rfl) ?_
  refine lv_iload F.hx F.hb d_Law_law_407 (lv_at hl 5 rfl) ?_
  refine r_iconst F.hx F.hb d_Law_law_409 ?_
  refine r_iadd F.hx F.hb d_Law_law_410 ?_
  refine r_sld F hS hXs hsl hb (inr_w32 _) (law_ix hij hjL hL 2 (by decide) (by decide)).1 (law_ix hij hjL hL 2 (by decide) (by decide)).2 d_Law_law_411 ?_
  obtain ⟨q65, hq65, hT⟩ := q_obind hT
  refine r_backI F hS (r_runV (k := 191) (N := 68) (T := T1) (As := [vI (xs ((w32 (v4_ + 1))).toNat).toInt, vI (xs ((w32 (v4_ + 2))).toNat).toInt]) F hS (show 191 < 232 by decide) (show shK 191 = 5 from rfl) rfl (c_MO_cell l (Nat.le_of_ble_eq_true rfl) (q63.1) (xs ((w32 (v4_ + 1))).toNat).toInt (xs ((w32 (v4_ + 2))).toNat).toInt (q_inr_toInt _) (q_inr_toInt _) _ hq65) gs_WardFallsLaw_44 hd_MO_cell ⟨Nat.le_of_ble_eq_true rfl, Nat.le_of_ble_eq_true rfl⟩ rfl hl.1 (Nat.le_of_ble_eq_true rfl) (law_rc hcs2 hjL hL) rfl d_Law_law_412) (fun H locs hS h66 => ?_)
  refine lv_istore (lv' := [(6, vI (q65.2)), (5, vI (q63.2)), (0, .ref scr), (1, .ref (b + 0)), (2, .ref (b + 191)), (3, .ref (b + 231)), (4, vI v4_)]) F.hx F.hb d_Law_law_415 hl (Nat.le_of_ble_eq_true rfl) rfl (fun ls hl => ?_)
  refine lv_aload_n F.hx F.hb d_Law_law_417 rfl (lv_at hl 4 rfl) ?_
  obtain ⟨q67, hq67⟩ : ∃ q, q = (t_MO_thrown (q65.1)) := ⟨_, rfl⟩
  replace hT := qlet_eq hT hq67
  refine r_backI F hS (r_runV (k := 191) (N := 68) (T := T1) (As := []) F hS (show 191 < 232 by decide) (show shK 191 = 5 from rfl) rfl (c_MO_thrown l (Nat.le_of_ble_eq_true rfl) (q65.1) _ hq67.symm) gs_WardFallsLaw_45 hd_MO_thrown ⟨Nat.le_of_ble_eq_true rfl, Nat.le_of_ble_eq_true rfl⟩ rfl hl.1 (Nat.le_of_ble_eq_true rfl) (law_rc hcs2 hjL hL) rfl d_Law_law_418) (fun H locs hS h68 => ?_)
  refine lv_iload F.hx F.hb d_Law_law_421 (lv_at hl 1 rfl) ?_
  refine r_icmp_eq (tgt := 428) F.hx F.hb h68 h64 d_Law_law_423 (by decide) (fun c69 => ?_) (fun c69 => ?_)
  · replace hT := (if_pos c69).symm.trans hT
    refine lv_iload F.hx F.hb d_Law_law_428 (lv_at hl 1 rfl) ?_
    refine r_if_ne (tgt := 445) F.hx F.hb h64 d_Law_law_430 (by decide) (fun c70 => ?_) (fun c70 => ?_)
    · replace hT := (if_neg c70).symm.trans hT
      exact k_Law_law_L445 l hlf hL F hX hXs hsl hb hlk hr bk23 j hjL hbk23 (q65.1) v4_ hv4_ hij _ _ hcs2 _ _ _ hS (lv_sub hl [2, 3, 4, 5, 6] rfl) hT
    · replace hT := (if_pos c70).symm.trans hT
      refine lv_aload_n F.hx F.hb d_Law_law_433 rfl (lv_at hl 5 rfl) ?_
      refine r_iconst F.hx F.hb d_Law_law_434 ?_
      refine r_lald F hS (show 231 < 232 by decide) (show shK 231 = 2 from rfl) (show shN 231 = 1 from rfl) (inr_c rfl) (by omega) (by omega) d_Law_law_435 ?_
      refine lv_iload F.hx F.hb d_Law_law_436 (lv_at hl 0 rfl) ?_
      refine r_i2l F.hx F.hb d_Law_law_438 ?_
      refine W.lcmp F.hx F.hb d_Law_law_439 ?_
      refine r_lif_eq (tgt := 445) F.hx F.hb  d_Law_law_440 (by decide) (fun c71 => ?_) (fun c71 => ?_)
      · replace hT := (if_pos c71).symm.trans hT
        exact k_Law_law_L445 l hlf hL F hX hXs hsl hb hlk hr bk23 j hjL hbk23 (q65.1) v4_ hv4_ hij _ _ hcs2 _ _ _ hS (lv_sub hl [2, 3, 4, 5, 6] rfl) hT
      · replace hT := (if_neg c71).symm.trans hT
        refine r_iconst F.hx F.hb d_Law_law_443 ?_
        exact absurd hT (by decide)
  · replace hT := (if_neg c69).symm.trans hT
    refine r_iconst F.hx F.hb d_Law_law_426 ?_
    exact absurd hT (by decide)
set_option maxHeartbeats 16000000 in
set_option maxRecDepth 100000 in
theorem k_Law_law_L448 (l : Launch) (hlf : l.stackTraces = false) {p : Program} {e : Env} {s : State} {m : MethodId} {below : List Frame} {meth : Method} {c : Code} {b : Nat} {C : CT} {scr L : Nat} {xs : Nat → Int32} (hL : L ≤ 3072) (F : Cx p m c b_Law_law 7 s ([.ref scr] : List Value).toArray "WardFallsLaw" C 232 232) (hX : EX b s) (hXs : va_X scr L xs s s.heap) (hsl : scr < s.heap.size) (hb : b = s.heap.size) (hlk : meth.locks = false) (hr : meth.sig.returnType = ret) (bk23 : Mem → Int → Option Int) (j : Nat) (hjL : 6 * j + 6 ≤ L) (hbk23 : ∀ (M : Mem) (v4_ : Int) (hv4_ : InR v4_) (hij : v4_ = 6 * ((j + 1 : Nat) : Int)) (cells slots : Nat) (hcs : cells ≤ 232 + (j + 1) ∧ slots ≤ 11930 + 6 * (j + 1)) (H : Heap) (locs : List Loc) (ls : Array Slot), St b C 232 M s H locs → lv_has ls 7 [(0, .ref scr), (1, .ref (b + 0)), (2, .ref (b + 191)), (3, .ref (b + 231)), (4, vI v4_)] → bk23 M v4_ = some 1 → W p l e room_1 s m #[Value.ref scr] below meth c H locs cells slots (lw_Z below #[Value.ref scr] s) (F0 m 23 ls [])) (M : Mem) (v4_ : Int) (hv4_ : InR v4_) (hij : v4_ = 6 * (j : Int)) (cells slots : Nat) (hcs : cells ≤ 232 + j ∧ slots ≤ 11930 + 6 * j) (H : Heap) (locs : List Loc) (ls : Array Slot) (hS : St b C 232 M s H locs) (hl : lv_has ls 7 [(0, .ref scr), (1, .ref (b + 0)), (2, .ref (b + 191)), (3, .ref (b + 231)), (4, vI v4_)]) (hT : t_Law_law_L448 xs L bk23 M v4_ = some 1) : W p l e room_1 s m #[Value.ref scr] below meth c H locs cells slots (lw_Z below #[Value.ref scr] s) (F0 m 448 ls []) := by
  have hcs1 : cells ≤ 233 + j ∧ slots ≤ 11936 + 6 * j := ⟨by omega, by omega⟩
  unfold t_Law_law_L448 at hT
  refine lv_aload_n F.hx F.hb d_Law_law_448 rfl (lv_at hl 1 rfl) ?_
  refine lv_aload_n F.hx F.hb d_Law_law_449 rfl (lv_at hl 0 rfl) ?_
  refine lv_iload F.hx F.hb d_Law_law_450 (lv_at hl 4 rfl) ?_
  refine r_iconst F.hx F.hb d_Law_law_452 ?_
  refine r_iadd F.hx F.hb d_Law_law_453 ?_
  refine r_sld F hS hXs hsl hb (inr_w32 _) (law_ix hij hjL hL 1 (by decide) (by decide)).1 (law_ix hij hjL hL 1 (by decide) (by decide)).2 d_Law_law_454 ?_
  refine lv_aload_n F.hx F.hb d_Law_law_455 rfl (lv_at hl 0 rfl) ?_
  refine lv_iload F.hx F.hb d_Law_law_456 (lv_at hl 4 rfl) ?_
  refine r_iconst F.hx F.hb d_Law_law_458 ?_
  refine r_iadd F.hx F.hb d_Law_law_459 ?_
  refine r_sld F hS hXs hsl hb (inr_w32 _) (law_ix hij hjL hL 2 (by decide) (by decide)).1 (law_ix hij hjL hL 2 (by decide) (by decide)).2 d_Law_law_460 ?_
  obtain ⟨q72, hq72, hT⟩ := q_obind hT
  refine r_backI F hS (r_runV (k := 0) (N := 19) (T := T0) (As := [vI (xs ((w32 (v4_ + 1))).toNat).toInt, vI (xs ((w32 (v4_ + 2))).toNat).toInt]) F hS (show 0 < 232 by decide) (show shK 0 = 4 from rfl) rfl (c_WF_ward l (Nat.le_of_ble_eq_true rfl) M (xs ((w32 (v4_ + 1))).toNat).toInt (xs ((w32 (v4_ + 2))).toNat).toInt (q_inr_toInt _) (q_inr_toInt _) _ hq72) gs_WardFallsLaw_49 hd_WF_ward ⟨Nat.le_of_ble_eq_true rfl, Nat.le_of_ble_eq_true rfl⟩ rfl hl.1 (Nat.le_of_ble_eq_true rfl) (law_rc hcs1 hjL hL) rfl d_Law_law_461) (fun H locs hS h73 => ?_)
  refine lv_aload_n F.hx F.hb d_Law_law_464 rfl (lv_at hl 2 rfl) ?_
  refine lv_aload_n F.hx F.hb d_Law_law_465 rfl (lv_at hl 0 rfl) ?_
  refine lv_iload F.hx F.hb d_Law_law_466 (lv_at hl 4 rfl) ?_
  refine r_iconst F.hx F.hb d_Law_law_468 ?_
  refine r_iadd F.hx F.hb d_Law_law_469 ?_
  refine r_sld F hS hXs hsl hb (inr_w32 _) (law_ix hij hjL hL 1 (by decide) (by decide)).1 (law_ix hij hjL hL 1 (by decide) (by decide)).2 d_Law_law_470 ?_
  refine lv_aload_n F.hx F.hb d_Law_law_471 rfl (lv_at hl 0 rfl) ?_
  refine lv_iload F.hx F.hb d_Law_law_472 (lv_at hl 4 rfl) ?_
  refine r_iconst F.hx F.hb d_Law_law_474 ?_
  refine r_iadd F.hx F.hb d_Law_law_475 ?_
  refine r_sld F hS hXs hsl hb (inr_w32 _) (law_ix hij hjL hL 2 (by decide) (by decide)).1 (law_ix hij hjL hL 2 (by decide) (by decide)).2 d_Law_law_476 ?_
  obtain ⟨q74, hq74, hT⟩ := q_obind hT
  refine r_backI F hS (r_runV (k := 191) (N := 68) (T := T1) (As := [vI (xs ((w32 (v4_ + 1))).toNat).toInt, vI (xs ((w32 (v4_ + 2))).toNat).toInt]) F hS (show 191 < 232 by decide) (show shK 191 = 5 from rfl) rfl (c_MO_ward l (Nat.le_of_ble_eq_true rfl) (q72.1) (xs ((w32 (v4_ + 1))).toNat).toInt (xs ((w32 (v4_ + 2))).toNat).toInt (q_inr_toInt _) (q_inr_toInt _) _ hq74) gs_WardFallsLaw_52 hd_MO_ward ⟨Nat.le_of_ble_eq_true rfl, Nat.le_of_ble_eq_true rfl⟩ rfl hl.1 (Nat.le_of_ble_eq_true rfl) (law_rc hcs1 hjL hL) rfl d_Law_law_477) (fun H locs hS h75 => ?_)
  refine r_icmp_eq (tgt := 1571) F.hx F.hb h73 h75 d_Law_law_480 (by decide) (fun c76 => ?_) (fun c76 => ?_)
  · replace hT := (if_pos c76).symm.trans hT
    exact k_Law_law_L1571 l hlf hL F hX hXs hsl hb hlk hr bk23 j hjL hbk23 (q74.1) v4_ hv4_ hij _ _ hcs1 _ _ _ hS (lv_sub hl [0, 1, 2, 3, 4] rfl) hT
  · replace hT := (if_neg c76).symm.trans hT
    refine r_iconst F.hx F.hb d_Law_law_483 ?_
    exact absurd hT (by decide)
set_option maxHeartbeats 16000000 in
set_option maxRecDepth 100000 in
theorem k_Law_law_L485 (l : Launch) (hlf : l.stackTraces = false) {p : Program} {e : Env} {s : State} {m : MethodId} {below : List Frame} {meth : Method} {c : Code} {b : Nat} {C : CT} {scr L : Nat} {xs : Nat → Int32} (hL : L ≤ 3072) (F : Cx p m c b_Law_law 7 s ([.ref scr] : List Value).toArray "WardFallsLaw" C 232 232) (hX : EX b s) (hXs : va_X scr L xs s s.heap) (hsl : scr < s.heap.size) (hb : b = s.heap.size) (hlk : meth.locks = false) (hr : meth.sig.returnType = ret) (bk23 : Mem → Int → Option Int) (j : Nat) (hjL : 6 * j + 6 ≤ L) (hbk23 : ∀ (M : Mem) (v4_ : Int) (hv4_ : InR v4_) (hij : v4_ = 6 * ((j + 1 : Nat) : Int)) (cells slots : Nat) (hcs : cells ≤ 232 + (j + 1) ∧ slots ≤ 11930 + 6 * (j + 1)) (H : Heap) (locs : List Loc) (ls : Array Slot), St b C 232 M s H locs → lv_has ls 7 [(0, .ref scr), (1, .ref (b + 0)), (2, .ref (b + 191)), (3, .ref (b + 231)), (4, vI v4_)] → bk23 M v4_ = some 1 → W p l e room_1 s m #[Value.ref scr] below meth c H locs cells slots (lw_Z below #[Value.ref scr] s) (F0 m 23 ls [])) (M : Mem) (v4_ : Int) (hv4_ : InR v4_) (hij : v4_ = 6 * (j : Int)) (cells slots : Nat) (hcs : cells ≤ 232 + j ∧ slots ≤ 11930 + 6 * j) (H : Heap) (locs : List Loc) (ls : Array Slot) (hS : St b C 232 M s H locs) (hl : lv_has ls 7 [(0, .ref scr), (1, .ref (b + 0)), (2, .ref (b + 191)), (3, .ref (b + 231)), (4, vI v4_)]) (hT : t_Law_law_L485 xs L bk23 M v4_ = some 1) : W p l e room_1 s m #[Value.ref scr] below meth c H locs cells slots (lw_Z below #[Value.ref scr] s) (F0 m 485 ls []) := by
  have hcs1 : cells ≤ 233 + j ∧ slots ≤ 11936 + 6 * j := ⟨by omega, by omega⟩
  unfold t_Law_law_L485 at hT
  refine lv_aload_n F.hx F.hb d_Law_law_485 rfl (lv_at hl 1 rfl) ?_
  refine lv_aload_n F.hx F.hb d_Law_law_486 rfl (lv_at hl 0 rfl) ?_
  refine lv_iload F.hx F.hb d_Law_law_487 (lv_at hl 4 rfl) ?_
  refine r_iconst F.hx F.hb d_Law_law_489 ?_
  refine r_iadd F.hx F.hb d_Law_law_490 ?_
  refine r_sld F hS hXs hsl hb (inr_w32 _) (law_ix hij hjL hL 1 (by decide) (by decide)).1 (law_ix hij hjL hL 1 (by decide) (by decide)).2 d_Law_law_491 ?_
  refine lv_aload_n F.hx F.hb d_Law_law_492 rfl (lv_at hl 0 rfl) ?_
  refine lv_iload F.hx F.hb d_Law_law_493 (lv_at hl 4 rfl) ?_
  refine r_iconst F.hx F.hb d_Law_law_495 ?_
  refine r_iadd F.hx F.hb d_Law_law_496 ?_
  refine r_sld F hS hXs hsl hb (inr_w32 _) (law_ix hij hjL hL 2 (by decide) (by decide)).1 (law_ix hij hjL hL 2 (by decide) (by decide)).2 d_Law_law_497 ?_
  obtain ⟨q77, hq77⟩ : ∃ q, q = (t_WF_thing M (xs ((w32 (v4_ + 1))).toNat).toInt (xs ((w32 (v4_ + 2))).toNat).toInt) := ⟨_, rfl⟩
  replace hT := qlet_eq hT hq77
  refine r_backI F hS (r_runV (k := 0) (N := 19) (T := T0) (As := [vI (xs ((w32 (v4_ + 1))).toNat).toInt, vI (xs ((w32 (v4_ + 2))).toNat).toInt]) F hS (show 0 < 232 by decide) (show shK 0 = 4 from rfl) rfl (c_WF_thing l (Nat.le_of_ble_eq_true rfl) M (xs ((w32 (v4_ + 1))).toNat).toInt (xs ((w32 (v4_ + 2))).toNat).toInt (q_inr_toInt _) (q_inr_toInt _) _ hq77.symm) gs_WardFallsLaw_53 hd_WF_thing ⟨Nat.le_of_ble_eq_true rfl, Nat.le_of_ble_eq_true rfl⟩ rfl hl.1 (Nat.le_of_ble_eq_true rfl) (law_rc hcs1 hjL hL) rfl d_Law_law_498) (fun H locs hS h78 => ?_)
  refine lv_aload_n F.hx F.hb d_Law_law_501 rfl (lv_at hl 2 rfl) ?_
  refine lv_aload_n F.hx F.hb d_Law_law_502 rfl (lv_at hl 0 rfl) ?_
  refine lv_iload F.hx F.hb d_Law_law_503 (lv_at hl 4 rfl) ?_
  refine r_iconst F.hx F.hb d_Law_law_505 ?_
  refine r_iadd F.hx F.hb d_Law_law_506 ?_
  refine r_sld F hS hXs hsl hb (inr_w32 _) (law_ix hij hjL hL 1 (by decide) (by decide)).1 (law_ix hij hjL hL 1 (by decide) (by decide)).2 d_Law_law_507 ?_
  refine lv_aload_n F.hx F.hb d_Law_law_508 rfl (lv_at hl 0 rfl) ?_
  refine lv_iload F.hx F.hb d_Law_law_509 (lv_at hl 4 rfl) ?_
  refine r_iconst F.hx F.hb d_Law_law_511 ?_
  refine r_iadd F.hx F.hb d_Law_law_512 ?_
  refine r_sld F hS hXs hsl hb (inr_w32 _) (law_ix hij hjL hL 2 (by decide) (by decide)).1 (law_ix hij hjL hL 2 (by decide) (by decide)).2 d_Law_law_513 ?_
  obtain ⟨q79, hq79, hT⟩ := q_obind hT
  refine r_backI F hS (r_runV (k := 191) (N := 68) (T := T1) (As := [vI (xs ((w32 (v4_ + 1))).toNat).toInt, vI (xs ((w32 (v4_ + 2))).toNat).toInt]) F hS (show 191 < 232 by decide) (show shK 191 = 5 from rfl) rfl (c_MO_thing l (Nat.le_of_ble_eq_true rfl) M (xs ((w32 (v4_ + 1))).toNat).toInt (xs ((w32 (v4_ + 2))).toNat).toInt (q_inr_toInt _) (q_inr_toInt _) _ hq79) gs_WardFallsLaw_56 hd_MO_thing ⟨Nat.le_of_ble_eq_true rfl, Nat.le_of_ble_eq_true rfl⟩ rfl hl.1 (Nat.le_of_ble_eq_true rfl) (law_rc hcs1 hjL hL) rfl d_Law_law_514) (fun H locs hS h80 => ?_)
  refine r_icmp_eq (tgt := 1571) F.hx F.hb h78 h80 d_Law_law_517 (by decide) (fun c81 => ?_) (fun c81 => ?_)
  · replace hT := (if_pos c81).symm.trans hT
    exact k_Law_law_L1571 l hlf hL F hX hXs hsl hb hlk hr bk23 j hjL hbk23 (q79.1) v4_ hv4_ hij _ _ hcs1 _ _ _ hS (lv_sub hl [0, 1, 2, 3, 4] rfl) hT
  · replace hT := (if_neg c81).symm.trans hT
    refine r_iconst F.hx F.hb d_Law_law_520 ?_
    exact absurd hT (by decide)
set_option maxHeartbeats 16000000 in
set_option maxRecDepth 100000 in
theorem k_Law_law_L522 (l : Launch) (hlf : l.stackTraces = false) {p : Program} {e : Env} {s : State} {m : MethodId} {below : List Frame} {meth : Method} {c : Code} {b : Nat} {C : CT} {scr L : Nat} {xs : Nat → Int32} (hL : L ≤ 3072) (F : Cx p m c b_Law_law 7 s ([.ref scr] : List Value).toArray "WardFallsLaw" C 232 232) (hX : EX b s) (hXs : va_X scr L xs s s.heap) (hsl : scr < s.heap.size) (hb : b = s.heap.size) (hlk : meth.locks = false) (hr : meth.sig.returnType = ret) (bk23 : Mem → Int → Option Int) (j : Nat) (hjL : 6 * j + 6 ≤ L) (hbk23 : ∀ (M : Mem) (v4_ : Int) (hv4_ : InR v4_) (hij : v4_ = 6 * ((j + 1 : Nat) : Int)) (cells slots : Nat) (hcs : cells ≤ 232 + (j + 1) ∧ slots ≤ 11930 + 6 * (j + 1)) (H : Heap) (locs : List Loc) (ls : Array Slot), St b C 232 M s H locs → lv_has ls 7 [(0, .ref scr), (1, .ref (b + 0)), (2, .ref (b + 191)), (3, .ref (b + 231)), (4, vI v4_)] → bk23 M v4_ = some 1 → W p l e room_1 s m #[Value.ref scr] below meth c H locs cells slots (lw_Z below #[Value.ref scr] s) (F0 m 23 ls [])) (M : Mem) (v4_ : Int) (hv4_ : InR v4_) (hij : v4_ = 6 * (j : Int)) (cells slots : Nat) (hcs : cells ≤ 232 + j ∧ slots ≤ 11930 + 6 * j) (H : Heap) (locs : List Loc) (ls : Array Slot) (hS : St b C 232 M s H locs) (hl : lv_has ls 7 [(0, .ref scr), (1, .ref (b + 0)), (2, .ref (b + 191)), (3, .ref (b + 231)), (4, vI v4_)]) (hT : t_Law_law_L522 xs L bk23 M v4_ = some 1) : W p l e room_1 s m #[Value.ref scr] below meth c H locs cells slots (lw_Z below #[Value.ref scr] s) (F0 m 522 ls []) := by
  have hcs1 : cells ≤ 233 + j ∧ slots ≤ 11936 + 6 * j := ⟨by omega, by omega⟩
  unfold t_Law_law_L522 at hT
  refine lv_aload_n F.hx F.hb d_Law_law_522 rfl (lv_at hl 1 rfl) ?_
  refine lv_aload_n F.hx F.hb d_Law_law_523 rfl (lv_at hl 0 rfl) ?_
  refine lv_iload F.hx F.hb d_Law_law_524 (lv_at hl 4 rfl) ?_
  refine r_iconst F.hx F.hb d_Law_law_526 ?_
  refine r_iadd F.hx F.hb d_Law_law_527 ?_
  refine r_sld F hS hXs hsl hb (inr_w32 _) (law_ix hij hjL hL 1 (by decide) (by decide)).1 (law_ix hij hjL hL 1 (by decide) (by decide)).2 d_Law_law_528 ?_
  refine lv_aload_n F.hx F.hb d_Law_law_529 rfl (lv_at hl 0 rfl) ?_
  refine lv_iload F.hx F.hb d_Law_law_530 (lv_at hl 4 rfl) ?_
  refine r_iconst F.hx F.hb d_Law_law_532 ?_
  refine r_iadd F.hx F.hb d_Law_law_533 ?_
  refine r_sld F hS hXs hsl hb (inr_w32 _) (law_ix hij hjL hL 2 (by decide) (by decide)).1 (law_ix hij hjL hL 2 (by decide) (by decide)).2 d_Law_law_534 ?_
  refine lv_aload_n F.hx F.hb d_Law_law_535 rfl (lv_at hl 0 rfl) ?_
  refine lv_iload F.hx F.hb d_Law_law_536 (lv_at hl 4 rfl) ?_
  refine r_iconst F.hx F.hb d_Law_law_538 ?_
  refine r_iadd F.hx F.hb d_Law_law_539 ?_
  refine r_sld F hS hXs hsl hb (inr_w32 _) (law_ix hij hjL hL 3 (by decide) (by decide)).1 (law_ix hij hjL hL 3 (by decide) (by decide)).2 d_Law_law_540 ?_
  obtain ⟨q82, hq82, hT⟩ := q_obind hT
  refine r_backL F hS (r_runV (k := 0) (N := 19) (T := T0) (As := [vI (xs ((w32 (v4_ + 1))).toNat).toInt, vI (xs ((w32 (v4_ + 2))).toNat).toInt, vI (xs ((w32 (v4_ + 3))).toNat).toInt]) F hS (show 0 < 232 by decide) (show shK 0 = 4 from rfl) rfl (c_WF_law l (Nat.le_of_ble_eq_true rfl) M (xs ((w32 (v4_ + 1))).toNat).toInt (xs ((w32 (v4_ + 2))).toNat).toInt (xs ((w32 (v4_ + 3))).toNat).toInt (q_inr_toInt _) (q_inr_toInt _) (q_inr_toInt _) _ hq82) gs_WardFallsLaw_57 hd_WF_law ⟨Nat.le_of_ble_eq_true rfl, Nat.le_of_ble_eq_true rfl⟩ rfl hl.1 (Nat.le_of_ble_eq_true rfl) (law_rc hcs1 hjL hL) rfl d_Law_law_541) (fun H locs hS => ?_)
  refine lv_aload_n F.hx F.hb d_Law_law_544 rfl (lv_at hl 2 rfl) ?_
  refine lv_aload_n F.hx F.hb d_Law_law_545 rfl (lv_at hl 0 rfl) ?_
  refine lv_iload F.hx F.hb d_Law_law_546 (lv_at hl 4 rfl) ?_
  refine r_iconst F.hx F.hb d_Law_law_548 ?_
  refine r_iadd F.hx F.hb d_Law_law_549 ?_
  refine r_sld F hS hXs hsl hb (inr_w32 _) (law_ix hij hjL hL 1 (by decide) (by decide)).1 (law_ix hij hjL hL 1 (by decide) (by decide)).2 d_Law_law_550 ?_
  refine lv_aload_n F.hx F.hb d_Law_law_551 rfl (lv_at hl 0 rfl) ?_
  refine lv_iload F.hx F.hb d_Law_law_552 (lv_at hl 4 rfl) ?_
  refine r_iconst F.hx F.hb d_Law_law_554 ?_
  refine r_iadd F.hx F.hb d_Law_law_555 ?_
  refine r_sld F hS hXs hsl hb (inr_w32 _) (law_ix hij hjL hL 2 (by decide) (by decide)).1 (law_ix hij hjL hL 2 (by decide) (by decide)).2 d_Law_law_556 ?_
  refine lv_aload_n F.hx F.hb d_Law_law_557 rfl (lv_at hl 0 rfl) ?_
  refine lv_iload F.hx F.hb d_Law_law_558 (lv_at hl 4 rfl) ?_
  refine r_iconst F.hx F.hb d_Law_law_560 ?_
  refine r_iadd F.hx F.hb d_Law_law_561 ?_
  refine r_sld F hS hXs hsl hb (inr_w32 _) (law_ix hij hjL hL 3 (by decide) (by decide)).1 (law_ix hij hjL hL 3 (by decide) (by decide)).2 d_Law_law_562 ?_
  obtain ⟨q84, hq84, hT⟩ := q_obind hT
  refine r_backL F hS (r_runV (k := 191) (N := 68) (T := T1) (As := [vI (xs ((w32 (v4_ + 1))).toNat).toInt, vI (xs ((w32 (v4_ + 2))).toNat).toInt, vI (xs ((w32 (v4_ + 3))).toNat).toInt]) F hS (show 191 < 232 by decide) (show shK 191 = 5 from rfl) rfl (c_MO_law l (Nat.le_of_ble_eq_true rfl) (q82.1) (xs ((w32 (v4_ + 1))).toNat).toInt (xs ((w32 (v4_ + 2))).toNat).toInt (xs ((w32 (v4_ + 3))).toNat).toInt (q_inr_toInt _) (q_inr_toInt _) (q_inr_toInt _) _ hq84) gs_WardFallsLaw_61 hd_MO_law ⟨Nat.le_of_ble_eq_true rfl, Nat.le_of_ble_eq_true rfl⟩ rfl hl.1 (Nat.le_of_ble_eq_true rfl) (law_rc hcs1 hjL hL) rfl d_Law_law_563) (fun H locs hS => ?_)
  refine W.lcmp F.hx F.hb d_Law_law_566 ?_
  refine r_lif_eq (tgt := 1571) F.hx F.hb  d_Law_law_567 (by decide) (fun c86 => ?_) (fun c86 => ?_)
  · replace hT := (if_pos c86).symm.trans hT
    exact k_Law_law_L1571 l hlf hL F hX hXs hsl hb hlk hr bk23 j hjL hbk23 (q84.1) v4_ hv4_ hij _ _ hcs1 _ _ _ hS (lv_sub hl [0, 1, 2, 3, 4] rfl) hT
  · replace hT := (if_neg c86).symm.trans hT
    refine r_iconst F.hx F.hb d_Law_law_570 ?_
    exact absurd hT (by decide)
set_option maxHeartbeats 16000000 in
set_option maxRecDepth 100000 in
theorem k_Law_law_L572 (l : Launch) (hlf : l.stackTraces = false) {p : Program} {e : Env} {s : State} {m : MethodId} {below : List Frame} {meth : Method} {c : Code} {b : Nat} {C : CT} {scr L : Nat} {xs : Nat → Int32} (hL : L ≤ 3072) (F : Cx p m c b_Law_law 7 s ([.ref scr] : List Value).toArray "WardFallsLaw" C 232 232) (hX : EX b s) (hXs : va_X scr L xs s s.heap) (hsl : scr < s.heap.size) (hb : b = s.heap.size) (hlk : meth.locks = false) (hr : meth.sig.returnType = ret) (bk23 : Mem → Int → Option Int) (j : Nat) (hjL : 6 * j + 6 ≤ L) (hbk23 : ∀ (M : Mem) (v4_ : Int) (hv4_ : InR v4_) (hij : v4_ = 6 * ((j + 1 : Nat) : Int)) (cells slots : Nat) (hcs : cells ≤ 232 + (j + 1) ∧ slots ≤ 11930 + 6 * (j + 1)) (H : Heap) (locs : List Loc) (ls : Array Slot), St b C 232 M s H locs → lv_has ls 7 [(0, .ref scr), (1, .ref (b + 0)), (2, .ref (b + 191)), (3, .ref (b + 231)), (4, vI v4_)] → bk23 M v4_ = some 1 → W p l e room_1 s m #[Value.ref scr] below meth c H locs cells slots (lw_Z below #[Value.ref scr] s) (F0 m 23 ls [])) (M : Mem) (v4_ : Int) (hv4_ : InR v4_) (hij : v4_ = 6 * (j : Int)) (cells slots : Nat) (hcs : cells ≤ 232 + j ∧ slots ≤ 11930 + 6 * j) (H : Heap) (locs : List Loc) (ls : Array Slot) (hS : St b C 232 M s H locs) (hl : lv_has ls 7 [(0, .ref scr), (1, .ref (b + 0)), (2, .ref (b + 191)), (3, .ref (b + 231)), (4, vI v4_)]) (hT : t_Law_law_L572 xs L bk23 M v4_ = some 1) : W p l e room_1 s m #[Value.ref scr] below meth c H locs cells slots (lw_Z below #[Value.ref scr] s) (F0 m 572 ls []) := by
  have hcs1 : cells ≤ 233 + j ∧ slots ≤ 11936 + 6 * j := ⟨by omega, by omega⟩
  unfold t_Law_law_L572 at hT
  refine lv_aload_n F.hx F.hb d_Law_law_572 rfl (lv_at hl 1 rfl) ?_
  refine lv_aload_n F.hx F.hb d_Law_law_573 rfl (lv_at hl 0 rfl) ?_
  refine lv_iload F.hx F.hb d_Law_law_574 (lv_at hl 4 rfl) ?_
  refine r_iconst F.hx F.hb d_Law_law_576 ?_
  refine r_iadd F.hx F.hb d_Law_law_577 ?_
  refine r_sld F hS hXs hsl hb (inr_w32 _) (law_ix hij hjL hL 1 (by decide) (by decide)).1 (law_ix hij hjL hL 1 (by decide) (by decide)).2 d_Law_law_578 ?_
  obtain ⟨q87, hq87, hT⟩ := q_obind hT
  refine r_backI F hS (r_runV (k := 0) (N := 19) (T := T0) (As := [vI (xs ((w32 (v4_ + 1))).toNat).toInt]) F hS (show 0 < 232 by decide) (show shK 0 = 4 from rfl) rfl (c_WF_rest l (Nat.le_of_ble_eq_true rfl) M (xs ((w32 (v4_ + 1))).toNat).toInt (q_inr_toInt _) _ hq87) gs_WardFallsLaw_62 hd_WF_rest ⟨Nat.le_of_ble_eq_true rfl, Nat.le_of_ble_eq_true rfl⟩ rfl hl.1 (Nat.le_of_ble_eq_true rfl) (law_rc hcs1 hjL hL) rfl d_Law_law_579) (fun H locs hS h88 => ?_)
  refine lv_aload_n F.hx F.hb d_Law_law_582 rfl (lv_at hl 2 rfl) ?_
  refine lv_aload_n F.hx F.hb d_Law_law_583 rfl (lv_at hl 0 rfl) ?_
  refine lv_iload F.hx F.hb d_Law_law_584 (lv_at hl 4 rfl) ?_
  refine r_iconst F.hx F.hb d_Law_law_586 ?_
  refine r_iadd F.hx F.hb d_Law_law_587 ?_
  refine r_sld F hS hXs hsl hb (inr_w32 _) (law_ix hij hjL hL 1 (by decide) (by decide)).1 (law_ix hij hjL hL 1 (by decide) (by decide)).2 d_Law_law_588 ?_
  obtain ⟨q89, hq89, hT⟩ := q_obind hT
  refine r_backI F hS (r_runV (k := 191) (N := 68) (T := T1) (As := [vI (xs ((w32 (v4_ + 1))).toNat).toInt]) F hS (show 191 < 232 by decide) (show shK 191 = 5 from rfl) rfl (c_MO_rest l (Nat.le_of_ble_eq_true rfl) (q87.1) (xs ((w32 (v4_ + 1))).toNat).toInt (q_inr_toInt _) _ hq89) gs_WardFallsLaw_65 hd_MO_rest ⟨Nat.le_of_ble_eq_true rfl, Nat.le_of_ble_eq_true rfl⟩ rfl hl.1 (Nat.le_of_ble_eq_true rfl) (law_rc hcs1 hjL hL) rfl d_Law_law_589) (fun H locs hS h90 => ?_)
  refine r_icmp_eq (tgt := 1571) F.hx F.hb h88 h90 d_Law_law_592 (by decide) (fun c91 => ?_) (fun c91 => ?_)
  · replace hT := (if_pos c91).symm.trans hT
    exact k_Law_law_L1571 l hlf hL F hX hXs hsl hb hlk hr bk23 j hjL hbk23 (q89.1) v4_ hv4_ hij _ _ hcs1 _ _ _ hS (lv_sub hl [0, 1, 2, 3, 4] rfl) hT
  · replace hT := (if_neg c91).symm.trans hT
    refine r_iconst F.hx F.hb d_Law_law_595 ?_
    exact absurd hT (by decide)
set_option maxHeartbeats 16000000 in
set_option maxRecDepth 100000 in
theorem k_Law_law_L597 (l : Launch) (hlf : l.stackTraces = false) {p : Program} {e : Env} {s : State} {m : MethodId} {below : List Frame} {meth : Method} {c : Code} {b : Nat} {C : CT} {scr L : Nat} {xs : Nat → Int32} (hL : L ≤ 3072) (F : Cx p m c b_Law_law 7 s ([.ref scr] : List Value).toArray "WardFallsLaw" C 232 232) (hX : EX b s) (hXs : va_X scr L xs s s.heap) (hsl : scr < s.heap.size) (hb : b = s.heap.size) (hlk : meth.locks = false) (hr : meth.sig.returnType = ret) (bk23 : Mem → Int → Option Int) (j : Nat) (hjL : 6 * j + 6 ≤ L) (hbk23 : ∀ (M : Mem) (v4_ : Int) (hv4_ : InR v4_) (hij : v4_ = 6 * ((j + 1 : Nat) : Int)) (cells slots : Nat) (hcs : cells ≤ 232 + (j + 1) ∧ slots ≤ 11930 + 6 * (j + 1)) (H : Heap) (locs : List Loc) (ls : Array Slot), St b C 232 M s H locs → lv_has ls 7 [(0, .ref scr), (1, .ref (b + 0)), (2, .ref (b + 191)), (3, .ref (b + 231)), (4, vI v4_)] → bk23 M v4_ = some 1 → W p l e room_1 s m #[Value.ref scr] below meth c H locs cells slots (lw_Z below #[Value.ref scr] s) (F0 m 23 ls [])) (M : Mem) (v4_ : Int) (hv4_ : InR v4_) (hij : v4_ = 6 * (j : Int)) (cells slots : Nat) (hcs : cells ≤ 232 + j ∧ slots ≤ 11930 + 6 * j) (H : Heap) (locs : List Loc) (ls : Array Slot) (hS : St b C 232 M s H locs) (hl : lv_has ls 7 [(0, .ref scr), (1, .ref (b + 0)), (2, .ref (b + 191)), (3, .ref (b + 231)), (4, vI v4_)]) (hT : t_Law_law_L597 xs L bk23 M v4_ = some 1) : W p l e room_1 s m #[Value.ref scr] below meth c H locs cells slots (lw_Z below #[Value.ref scr] s) (F0 m 597 ls []) := by
  have hcs1 : cells ≤ 233 + j ∧ slots ≤ 11936 + 6 * j := ⟨by omega, by omega⟩
  unfold t_Law_law_L597 at hT
  refine lv_aload_n F.hx F.hb d_Law_law_597 rfl (lv_at hl 1 rfl) ?_
  refine lv_aload_n F.hx F.hb d_Law_law_598 rfl (lv_at hl 0 rfl) ?_
  refine lv_iload F.hx F.hb d_Law_law_599 (lv_at hl 4 rfl) ?_
  refine r_iconst F.hx F.hb d_Law_law_601 ?_
  refine r_iadd F.hx F.hb d_Law_law_602 ?_
  refine r_sld F hS hXs hsl hb (inr_w32 _) (law_ix hij hjL hL 1 (by decide) (by decide)).1 (law_ix hij hjL hL 1 (by decide) (by decide)).2 d_Law_law_603 ?_
  refine lv_aload_n F.hx F.hb d_Law_law_604 rfl (lv_at hl 0 rfl) ?_
  refine lv_iload F.hx F.hb d_Law_law_605 (lv_at hl 4 rfl) ?_
  refine r_iconst F.hx F.hb d_Law_law_607 ?_
  refine r_iadd F.hx F.hb d_Law_law_608 ?_
  refine r_sld F hS hXs hsl hb (inr_w32 _) (law_ix hij hjL hL 2 (by decide) (by decide)).1 (law_ix hij hjL hL 2 (by decide) (by decide)).2 d_Law_law_609 ?_
  obtain ⟨q92, hq92, hT⟩ := q_obind hT
  refine r_backI F hS (r_runV (k := 0) (N := 19) (T := T0) (As := [vI (xs ((w32 (v4_ + 1))).toNat).toInt, vI (xs ((w32 (v4_ + 2))).toNat).toInt]) F hS (show 0 < 232 by decide) (show shK 0 = 4 from rfl) rfl (c_WF_way l (Nat.le_of_ble_eq_true rfl) M (xs ((w32 (v4_ + 1))).toNat).toInt (xs ((w32 (v4_ + 2))).toNat).toInt (q_inr_toInt _) (q_inr_toInt _) _ hq92) gs_WardFallsLaw_66 hd_WF_way ⟨Nat.le_of_ble_eq_true rfl, Nat.le_of_ble_eq_true rfl⟩ rfl hl.1 (Nat.le_of_ble_eq_true rfl) (law_rc hcs1 hjL hL) rfl d_Law_law_610) (fun H locs hS h93 => ?_)
  refine lv_aload_n F.hx F.hb d_Law_law_613 rfl (lv_at hl 2 rfl) ?_
  refine lv_aload_n F.hx F.hb d_Law_law_614 rfl (lv_at hl 0 rfl) ?_
  refine lv_iload F.hx F.hb d_Law_law_615 (lv_at hl 4 rfl) ?_
  refine r_iconst F.hx F.hb d_Law_law_617 ?_
  refine r_iadd F.hx F.hb d_Law_law_618 ?_
  refine r_sld F hS hXs hsl hb (inr_w32 _) (law_ix hij hjL hL 1 (by decide) (by decide)).1 (law_ix hij hjL hL 1 (by decide) (by decide)).2 d_Law_law_619 ?_
  refine lv_aload_n F.hx F.hb d_Law_law_620 rfl (lv_at hl 0 rfl) ?_
  refine lv_iload F.hx F.hb d_Law_law_621 (lv_at hl 4 rfl) ?_
  refine r_iconst F.hx F.hb d_Law_law_623 ?_
  refine r_iadd F.hx F.hb d_Law_law_624 ?_
  refine r_sld F hS hXs hsl hb (inr_w32 _) (law_ix hij hjL hL 2 (by decide) (by decide)).1 (law_ix hij hjL hL 2 (by decide) (by decide)).2 d_Law_law_625 ?_
  obtain ⟨q94, hq94, hT⟩ := q_obind hT
  refine r_backI F hS (r_runV (k := 191) (N := 68) (T := T1) (As := [vI (xs ((w32 (v4_ + 1))).toNat).toInt, vI (xs ((w32 (v4_ + 2))).toNat).toInt]) F hS (show 191 < 232 by decide) (show shK 191 = 5 from rfl) rfl (c_MO_way l (Nat.le_of_ble_eq_true rfl) (q92.1) (xs ((w32 (v4_ + 1))).toNat).toInt (xs ((w32 (v4_ + 2))).toNat).toInt (q_inr_toInt _) (q_inr_toInt _) _ hq94) gs_WardFallsLaw_69 hd_MO_way ⟨Nat.le_of_ble_eq_true rfl, Nat.le_of_ble_eq_true rfl⟩ rfl hl.1 (Nat.le_of_ble_eq_true rfl) (law_rc hcs1 hjL hL) rfl d_Law_law_626) (fun H locs hS h95 => ?_)
  refine r_icmp_eq (tgt := 1571) F.hx F.hb h93 h95 d_Law_law_629 (by decide) (fun c96 => ?_) (fun c96 => ?_)
  · replace hT := (if_pos c96).symm.trans hT
    exact k_Law_law_L1571 l hlf hL F hX hXs hsl hb hlk hr bk23 j hjL hbk23 (q94.1) v4_ hv4_ hij _ _ hcs1 _ _ _ hS (lv_sub hl [0, 1, 2, 3, 4] rfl) hT
  · replace hT := (if_neg c96).symm.trans hT
    refine r_iconst F.hx F.hb d_Law_law_632 ?_
    exact absurd hT (by decide)
set_option maxHeartbeats 16000000 in
set_option maxRecDepth 100000 in
theorem k_Law_law_L634 (l : Launch) (hlf : l.stackTraces = false) {p : Program} {e : Env} {s : State} {m : MethodId} {below : List Frame} {meth : Method} {c : Code} {b : Nat} {C : CT} {scr L : Nat} {xs : Nat → Int32} (hL : L ≤ 3072) (F : Cx p m c b_Law_law 7 s ([.ref scr] : List Value).toArray "WardFallsLaw" C 232 232) (hX : EX b s) (hXs : va_X scr L xs s s.heap) (hsl : scr < s.heap.size) (hb : b = s.heap.size) (hlk : meth.locks = false) (hr : meth.sig.returnType = ret) (bk23 : Mem → Int → Option Int) (j : Nat) (hjL : 6 * j + 6 ≤ L) (hbk23 : ∀ (M : Mem) (v4_ : Int) (hv4_ : InR v4_) (hij : v4_ = 6 * ((j + 1 : Nat) : Int)) (cells slots : Nat) (hcs : cells ≤ 232 + (j + 1) ∧ slots ≤ 11930 + 6 * (j + 1)) (H : Heap) (locs : List Loc) (ls : Array Slot), St b C 232 M s H locs → lv_has ls 7 [(0, .ref scr), (1, .ref (b + 0)), (2, .ref (b + 191)), (3, .ref (b + 231)), (4, vI v4_)] → bk23 M v4_ = some 1 → W p l e room_1 s m #[Value.ref scr] below meth c H locs cells slots (lw_Z below #[Value.ref scr] s) (F0 m 23 ls [])) (M : Mem) (v4_ : Int) (hv4_ : InR v4_) (hij : v4_ = 6 * (j : Int)) (cells slots : Nat) (hcs : cells ≤ 232 + j ∧ slots ≤ 11930 + 6 * j) (H : Heap) (locs : List Loc) (ls : Array Slot) (hS : St b C 232 M s H locs) (hl : lv_has ls 7 [(0, .ref scr), (1, .ref (b + 0)), (2, .ref (b + 191)), (3, .ref (b + 231)), (4, vI v4_)]) (hT : t_Law_law_L634 xs L bk23 M v4_ = some 1) : W p l e room_1 s m #[Value.ref scr] below meth c H locs cells slots (lw_Z below #[Value.ref scr] s) (F0 m 634 ls []) := by
  have hcs1 : cells ≤ 233 + j ∧ slots ≤ 11936 + 6 * j := ⟨by omega, by omega⟩
  unfold t_Law_law_L634 at hT
  refine lv_aload_n F.hx F.hb d_Law_law_634 rfl (lv_at hl 1 rfl) ?_
  refine lv_aload_n F.hx F.hb d_Law_law_635 rfl (lv_at hl 0 rfl) ?_
  refine lv_iload F.hx F.hb d_Law_law_636 (lv_at hl 4 rfl) ?_
  refine r_iconst F.hx F.hb d_Law_law_638 ?_
  refine r_iadd F.hx F.hb d_Law_law_639 ?_
  refine r_sld F hS hXs hsl hb (inr_w32 _) (law_ix hij hjL hL 1 (by decide) (by decide)).1 (law_ix hij hjL hL 1 (by decide) (by decide)).2 d_Law_law_640 ?_
  refine lv_aload_n F.hx F.hb d_Law_law_641 rfl (lv_at hl 0 rfl) ?_
  refine lv_iload F.hx F.hb d_Law_law_642 (lv_at hl 4 rfl) ?_
  refine r_iconst F.hx F.hb d_Law_law_644 ?_
  refine r_iadd F.hx F.hb d_Law_law_645 ?_
  refine r_sld F hS hXs hsl hb (inr_w32 _) (law_ix hij hjL hL 2 (by decide) (by decide)).1 (law_ix hij hjL hL 2 (by decide) (by decide)).2 d_Law_law_646 ?_
  obtain ⟨q97, hq97, hT⟩ := q_obind hT
  refine r_backI F hS (r_runV (k := 0) (N := 19) (T := T0) (As := [vI (xs ((w32 (v4_ + 1))).toNat).toInt, vI (xs ((w32 (v4_ + 2))).toNat).toInt]) F hS (show 0 < 232 by decide) (show shK 0 = 4 from rfl) rfl (c_WF_falls l (Nat.le_of_ble_eq_true rfl) M (xs ((w32 (v4_ + 1))).toNat).toInt (xs ((w32 (v4_ + 2))).toNat).toInt (q_inr_toInt _) (q_inr_toInt _) _ hq97) gs_WardFallsLaw_70 hd_WF_falls ⟨Nat.le_of_ble_eq_true rfl, Nat.le_of_ble_eq_true rfl⟩ rfl hl.1 (Nat.le_of_ble_eq_true rfl) (law_rc hcs1 hjL hL) rfl d_Law_law_647) (fun H locs hS h98 => ?_)
  refine lv_aload_n F.hx F.hb d_Law_law_650 rfl (lv_at hl 2 rfl) ?_
  refine lv_aload_n F.hx F.hb d_Law_law_651 rfl (lv_at hl 0 rfl) ?_
  refine lv_iload F.hx F.hb d_Law_law_652 (lv_at hl 4 rfl) ?_
  refine r_iconst F.hx F.hb d_Law_law_654 ?_
  refine r_iadd F.hx F.hb d_Law_law_655 ?_
  refine r_sld F hS hXs hsl hb (inr_w32 _) (law_ix hij hjL hL 1 (by decide) (by decide)).1 (law_ix hij hjL hL 1 (by decide) (by decide)).2 d_Law_law_656 ?_
  refine lv_aload_n F.hx F.hb d_Law_law_657 rfl (lv_at hl 0 rfl) ?_
  refine lv_iload F.hx F.hb d_Law_law_658 (lv_at hl 4 rfl) ?_
  refine r_iconst F.hx F.hb d_Law_law_660 ?_
  refine r_iadd F.hx F.hb d_Law_law_661 ?_
  refine r_sld F hS hXs hsl hb (inr_w32 _) (law_ix hij hjL hL 2 (by decide) (by decide)).1 (law_ix hij hjL hL 2 (by decide) (by decide)).2 d_Law_law_662 ?_
  obtain ⟨q99, hq99, hT⟩ := q_obind hT
  refine r_backI F hS (r_runV (k := 191) (N := 68) (T := T1) (As := [vI (xs ((w32 (v4_ + 1))).toNat).toInt, vI (xs ((w32 (v4_ + 2))).toNat).toInt]) F hS (show 191 < 232 by decide) (show shK 191 = 5 from rfl) rfl (c_MO_falls l (Nat.le_of_ble_eq_true rfl) (q97.1) (xs ((w32 (v4_ + 1))).toNat).toInt (xs ((w32 (v4_ + 2))).toNat).toInt (q_inr_toInt _) (q_inr_toInt _) _ hq99) gs_WardFallsLaw_73 hd_MO_falls ⟨Nat.le_of_ble_eq_true rfl, Nat.le_of_ble_eq_true rfl⟩ rfl hl.1 (Nat.le_of_ble_eq_true rfl) (law_rc hcs1 hjL hL) rfl d_Law_law_663) (fun H locs hS h100 => ?_)
  refine r_icmp_eq (tgt := 1571) F.hx F.hb h98 h100 d_Law_law_666 (by decide) (fun c101 => ?_) (fun c101 => ?_)
  · replace hT := (if_pos c101).symm.trans hT
    exact k_Law_law_L1571 l hlf hL F hX hXs hsl hb hlk hr bk23 j hjL hbk23 (q99.1) v4_ hv4_ hij _ _ hcs1 _ _ _ hS (lv_sub hl [0, 1, 2, 3, 4] rfl) hT
  · replace hT := (if_neg c101).symm.trans hT
    refine r_iconst F.hx F.hb d_Law_law_669 ?_
    exact absurd hT (by decide)
set_option maxHeartbeats 16000000 in
set_option maxRecDepth 100000 in
theorem k_Law_law_L671 (l : Launch) (hlf : l.stackTraces = false) {p : Program} {e : Env} {s : State} {m : MethodId} {below : List Frame} {meth : Method} {c : Code} {b : Nat} {C : CT} {scr L : Nat} {xs : Nat → Int32} (hL : L ≤ 3072) (F : Cx p m c b_Law_law 7 s ([.ref scr] : List Value).toArray "WardFallsLaw" C 232 232) (hX : EX b s) (hXs : va_X scr L xs s s.heap) (hsl : scr < s.heap.size) (hb : b = s.heap.size) (hlk : meth.locks = false) (hr : meth.sig.returnType = ret) (bk23 : Mem → Int → Option Int) (j : Nat) (hjL : 6 * j + 6 ≤ L) (hbk23 : ∀ (M : Mem) (v4_ : Int) (hv4_ : InR v4_) (hij : v4_ = 6 * ((j + 1 : Nat) : Int)) (cells slots : Nat) (hcs : cells ≤ 232 + (j + 1) ∧ slots ≤ 11930 + 6 * (j + 1)) (H : Heap) (locs : List Loc) (ls : Array Slot), St b C 232 M s H locs → lv_has ls 7 [(0, .ref scr), (1, .ref (b + 0)), (2, .ref (b + 191)), (3, .ref (b + 231)), (4, vI v4_)] → bk23 M v4_ = some 1 → W p l e room_1 s m #[Value.ref scr] below meth c H locs cells slots (lw_Z below #[Value.ref scr] s) (F0 m 23 ls [])) (M : Mem) (v4_ : Int) (hv4_ : InR v4_) (hij : v4_ = 6 * (j : Int)) (cells slots : Nat) (hcs : cells ≤ 232 + j ∧ slots ≤ 11930 + 6 * j) (H : Heap) (locs : List Loc) (ls : Array Slot) (hS : St b C 232 M s H locs) (hl : lv_has ls 7 [(0, .ref scr), (1, .ref (b + 0)), (2, .ref (b + 191)), (3, .ref (b + 231)), (4, vI v4_)]) (hT : t_Law_law_L671 xs L bk23 M v4_ = some 1) : W p l e room_1 s m #[Value.ref scr] below meth c H locs cells slots (lw_Z below #[Value.ref scr] s) (F0 m 671 ls []) := by
  have hcs1 : cells ≤ 233 + j ∧ slots ≤ 11936 + 6 * j := ⟨by omega, by omega⟩
  unfold t_Law_law_L671 at hT
  refine lv_aload_n F.hx F.hb d_Law_law_671 rfl (lv_at hl 1 rfl) ?_
  refine lv_aload_n F.hx F.hb d_Law_law_672 rfl (lv_at hl 0 rfl) ?_
  refine lv_iload F.hx F.hb d_Law_law_673 (lv_at hl 4 rfl) ?_
  refine r_iconst F.hx F.hb d_Law_law_675 ?_
  refine r_iadd F.hx F.hb d_Law_law_676 ?_
  refine r_sld F hS hXs hsl hb (inr_w32 _) (law_ix hij hjL hL 1 (by decide) (by decide)).1 (law_ix hij hjL hL 1 (by decide) (by decide)).2 d_Law_law_677 ?_
  obtain ⟨q102, hq102, hT⟩ := q_obind hT
  refine r_backI F hS (r_runV (k := 0) (N := 19) (T := T0) (As := [vI (xs ((w32 (v4_ + 1))).toNat).toInt]) F hS (show 0 < 232 by decide) (show shK 0 = 4 from rfl) rfl (c_WF_beats l (Nat.le_of_ble_eq_true rfl) M (xs ((w32 (v4_ + 1))).toNat).toInt (q_inr_toInt _) _ hq102) gs_WardFallsLaw_74 hd_WF_beats ⟨Nat.le_of_ble_eq_true rfl, Nat.le_of_ble_eq_true rfl⟩ rfl hl.1 (Nat.le_of_ble_eq_true rfl) (law_rc hcs1 hjL hL) rfl d_Law_law_678) (fun H locs hS h103 => ?_)
  refine lv_aload_n F.hx F.hb d_Law_law_681 rfl (lv_at hl 2 rfl) ?_
  refine lv_aload_n F.hx F.hb d_Law_law_682 rfl (lv_at hl 0 rfl) ?_
  refine lv_iload F.hx F.hb d_Law_law_683 (lv_at hl 4 rfl) ?_
  refine r_iconst F.hx F.hb d_Law_law_685 ?_
  refine r_iadd F.hx F.hb d_Law_law_686 ?_
  refine r_sld F hS hXs hsl hb (inr_w32 _) (law_ix hij hjL hL 1 (by decide) (by decide)).1 (law_ix hij hjL hL 1 (by decide) (by decide)).2 d_Law_law_687 ?_
  obtain ⟨q104, hq104, hT⟩ := q_obind hT
  refine r_backI F hS (r_runV (k := 191) (N := 68) (T := T1) (As := [vI (xs ((w32 (v4_ + 1))).toNat).toInt]) F hS (show 191 < 232 by decide) (show shK 191 = 5 from rfl) rfl (c_MO_beats l (Nat.le_of_ble_eq_true rfl) (q102.1) (xs ((w32 (v4_ + 1))).toNat).toInt (q_inr_toInt _) _ hq104) gs_WardFallsLaw_77 hd_MO_beats ⟨Nat.le_of_ble_eq_true rfl, Nat.le_of_ble_eq_true rfl⟩ rfl hl.1 (Nat.le_of_ble_eq_true rfl) (law_rc hcs1 hjL hL) rfl d_Law_law_688) (fun H locs hS h105 => ?_)
  refine r_icmp_eq (tgt := 1571) F.hx F.hb h103 h105 d_Law_law_691 (by decide) (fun c106 => ?_) (fun c106 => ?_)
  · replace hT := (if_pos c106).symm.trans hT
    exact k_Law_law_L1571 l hlf hL F hX hXs hsl hb hlk hr bk23 j hjL hbk23 (q104.1) v4_ hv4_ hij _ _ hcs1 _ _ _ hS (lv_sub hl [0, 1, 2, 3, 4] rfl) hT
  · replace hT := (if_neg c106).symm.trans hT
    refine r_iconst F.hx F.hb d_Law_law_694 ?_
    exact absurd hT (by decide)
set_option maxHeartbeats 16000000 in
set_option maxRecDepth 100000 in
theorem k_Law_law_L696 (l : Launch) (hlf : l.stackTraces = false) {p : Program} {e : Env} {s : State} {m : MethodId} {below : List Frame} {meth : Method} {c : Code} {b : Nat} {C : CT} {scr L : Nat} {xs : Nat → Int32} (hL : L ≤ 3072) (F : Cx p m c b_Law_law 7 s ([.ref scr] : List Value).toArray "WardFallsLaw" C 232 232) (hX : EX b s) (hXs : va_X scr L xs s s.heap) (hsl : scr < s.heap.size) (hb : b = s.heap.size) (hlk : meth.locks = false) (hr : meth.sig.returnType = ret) (bk23 : Mem → Int → Option Int) (j : Nat) (hjL : 6 * j + 6 ≤ L) (hbk23 : ∀ (M : Mem) (v4_ : Int) (hv4_ : InR v4_) (hij : v4_ = 6 * ((j + 1 : Nat) : Int)) (cells slots : Nat) (hcs : cells ≤ 232 + (j + 1) ∧ slots ≤ 11930 + 6 * (j + 1)) (H : Heap) (locs : List Loc) (ls : Array Slot), St b C 232 M s H locs → lv_has ls 7 [(0, .ref scr), (1, .ref (b + 0)), (2, .ref (b + 191)), (3, .ref (b + 231)), (4, vI v4_)] → bk23 M v4_ = some 1 → W p l e room_1 s m #[Value.ref scr] below meth c H locs cells slots (lw_Z below #[Value.ref scr] s) (F0 m 23 ls [])) (M : Mem) (v4_ : Int) (hv4_ : InR v4_) (hij : v4_ = 6 * (j : Int)) (cells slots : Nat) (hcs : cells ≤ 232 + j ∧ slots ≤ 11930 + 6 * j) (H : Heap) (locs : List Loc) (ls : Array Slot) (hS : St b C 232 M s H locs) (hl : lv_has ls 7 [(0, .ref scr), (1, .ref (b + 0)), (2, .ref (b + 191)), (3, .ref (b + 231)), (4, vI v4_)]) (hT : t_Law_law_L696 xs L bk23 M v4_ = some 1) : W p l e room_1 s m #[Value.ref scr] below meth c H locs cells slots (lw_Z below #[Value.ref scr] s) (F0 m 696 ls []) := by
  have hcs1 : cells ≤ 233 + j ∧ slots ≤ 11936 + 6 * j := ⟨by omega, by omega⟩
  unfold t_Law_law_L696 at hT
  refine lv_aload_n F.hx F.hb d_Law_law_696 rfl (lv_at hl 1 rfl) ?_
  refine lv_aload_n F.hx F.hb d_Law_law_697 rfl (lv_at hl 0 rfl) ?_
  refine lv_iload F.hx F.hb d_Law_law_698 (lv_at hl 4 rfl) ?_
  refine r_iconst F.hx F.hb d_Law_law_700 ?_
  refine r_iadd F.hx F.hb d_Law_law_701 ?_
  refine r_sld F hS hXs hsl hb (inr_w32 _) (law_ix hij hjL hL 1 (by decide) (by decide)).1 (law_ix hij hjL hL 1 (by decide) (by decide)).2 d_Law_law_702 ?_
  refine lv_aload_n F.hx F.hb d_Law_law_703 rfl (lv_at hl 0 rfl) ?_
  refine lv_iload F.hx F.hb d_Law_law_704 (lv_at hl 4 rfl) ?_
  refine r_iconst F.hx F.hb d_Law_law_706 ?_
  refine r_iadd F.hx F.hb d_Law_law_707 ?_
  refine r_sld F hS hXs hsl hb (inr_w32 _) (law_ix hij hjL hL 2 (by decide) (by decide)).1 (law_ix hij hjL hL 2 (by decide) (by decide)).2 d_Law_law_708 ?_
  obtain ⟨q107, hq107, hT⟩ := q_obind hT
  refine r_backZ F hS (r_runV (k := 0) (N := 19) (T := T0) (As := [vI (xs ((w32 (v4_ + 1))).toNat).toInt, vI (xs ((w32 (v4_ + 2))).toNat).toInt]) F hS (show 0 < 232 by decide) (show shK 0 = 4 from rfl) rfl (c_WF_vote l (Nat.le_of_ble_eq_true rfl) M (xs ((w32 (v4_ + 1))).toNat).toInt (xs ((w32 (v4_ + 2))).toNat).toInt (q_inr_toInt _) (q_inr_toInt _) _ hq107) gs_WardFallsLaw_78 hd_WF_vote ⟨Nat.le_of_ble_eq_true rfl, Nat.le_of_ble_eq_true rfl⟩ rfl hl.1 (Nat.le_of_ble_eq_true rfl) (law_rc hcs1 hjL hL) rfl d_Law_law_709) (fun H locs hS h108 => ?_)
  refine lv_aload_n F.hx F.hb d_Law_law_712 rfl (lv_at hl 2 rfl) ?_
  refine lv_aload_n F.hx F.hb d_Law_law_713 rfl (lv_at hl 0 rfl) ?_
  refine lv_iload F.hx F.hb d_Law_law_714 (lv_at hl 4 rfl) ?_
  refine r_iconst F.hx F.hb d_Law_law_716 ?_
  refine r_iadd F.hx F.hb d_Law_law_717 ?_
  refine r_sld F hS hXs hsl hb (inr_w32 _) (law_ix hij hjL hL 1 (by decide) (by decide)).1 (law_ix hij hjL hL 1 (by decide) (by decide)).2 d_Law_law_718 ?_
  refine lv_aload_n F.hx F.hb d_Law_law_719 rfl (lv_at hl 0 rfl) ?_
  refine lv_iload F.hx F.hb d_Law_law_720 (lv_at hl 4 rfl) ?_
  refine r_iconst F.hx F.hb d_Law_law_722 ?_
  refine r_iadd F.hx F.hb d_Law_law_723 ?_
  refine r_sld F hS hXs hsl hb (inr_w32 _) (law_ix hij hjL hL 2 (by decide) (by decide)).1 (law_ix hij hjL hL 2 (by decide) (by decide)).2 d_Law_law_724 ?_
  obtain ⟨q109, hq109, hT⟩ := q_obind hT
  refine r_backZ F hS (r_runV (k := 191) (N := 68) (T := T1) (As := [vI (xs ((w32 (v4_ + 1))).toNat).toInt, vI (xs ((w32 (v4_ + 2))).toNat).toInt]) F hS (show 191 < 232 by decide) (show shK 191 = 5 from rfl) rfl (c_MO_vote l (Nat.le_of_ble_eq_true rfl) (q107.1) (xs ((w32 (v4_ + 1))).toNat).toInt (xs ((w32 (v4_ + 2))).toNat).toInt (q_inr_toInt _) (q_inr_toInt _) _ hq109) gs_WardFallsLaw_82 hd_MO_vote ⟨Nat.le_of_ble_eq_true rfl, Nat.le_of_ble_eq_true rfl⟩ rfl hl.1 (Nat.le_of_ble_eq_true rfl) (law_rc hcs1 hjL hL) rfl d_Law_law_725) (fun H locs hS h110 => ?_)
  refine r_icmp_eq (tgt := 1571) F.hx F.hb (inr_z h108) (inr_z h110) d_Law_law_728 (by decide) (fun c111 => ?_) (fun c111 => ?_)
  · replace hT := (if_pos c111).symm.trans hT
    exact k_Law_law_L1571 l hlf hL F hX hXs hsl hb hlk hr bk23 j hjL hbk23 (q109.1) v4_ hv4_ hij _ _ hcs1 _ _ _ hS (lv_sub hl [0, 1, 2, 3, 4] rfl) hT
  · replace hT := (if_neg c111).symm.trans hT
    refine r_iconst F.hx F.hb d_Law_law_731 ?_
    exact absurd hT (by decide)
set_option maxHeartbeats 16000000 in
set_option maxRecDepth 100000 in
theorem k_Law_law_L778 (l : Launch) (hlf : l.stackTraces = false) {p : Program} {e : Env} {s : State} {m : MethodId} {below : List Frame} {meth : Method} {c : Code} {b : Nat} {C : CT} {scr L : Nat} {xs : Nat → Int32} (hL : L ≤ 3072) (F : Cx p m c b_Law_law 7 s ([.ref scr] : List Value).toArray "WardFallsLaw" C 232 232) (hX : EX b s) (hXs : va_X scr L xs s s.heap) (hsl : scr < s.heap.size) (hb : b = s.heap.size) (hlk : meth.locks = false) (hr : meth.sig.returnType = ret) (bk23 : Mem → Int → Option Int) (j : Nat) (hjL : 6 * j + 6 ≤ L) (hbk23 : ∀ (M : Mem) (v4_ : Int) (hv4_ : InR v4_) (hij : v4_ = 6 * ((j + 1 : Nat) : Int)) (cells slots : Nat) (hcs : cells ≤ 232 + (j + 1) ∧ slots ≤ 11930 + 6 * (j + 1)) (H : Heap) (locs : List Loc) (ls : Array Slot), St b C 232 M s H locs → lv_has ls 7 [(0, .ref scr), (1, .ref (b + 0)), (2, .ref (b + 191)), (3, .ref (b + 231)), (4, vI v4_)] → bk23 M v4_ = some 1 → W p l e room_1 s m #[Value.ref scr] below meth c H locs cells slots (lw_Z below #[Value.ref scr] s) (F0 m 23 ls [])) (M : Mem) (v4_ : Int) (hv4_ : InR v4_) (v5_ : Int) (hv5_ : v5_ = 0 ∨ v5_ = 1) (v7_ : Int) (hv7_ : InR v7_) (v8_ : Int) (hv8_ : v8_ = 0 ∨ v8_ = 1) (hij : v4_ = 6 * (j : Int)) (cells slots : Nat) (hcs1 : cells ≤ 233 + j ∧ slots ≤ 11936 + 6 * j) (H : Heap) (locs : List Loc) (ls : Array Slot) (hS : St b C 232 M s H locs) (hl : lv_has ls 7 [(0, .ref scr), (1, .ref (b + 0)), (2, .ref (b + 191)), (3, .ref (b + 231)), (4, vI v4_)]) (hT : t_Law_law_L778 xs L bk23 M v4_ v5_ v7_ v8_ = some 1) : W p l e room_1 s m #[Value.ref scr] below meth c H locs cells slots (lw_Z below #[Value.ref scr] s) (F0 m 778 ls [vI v8_, vI v7_, .ref (b + 191), vI v5_]) := by
  unfold t_Law_law_L778 at hT
  obtain ⟨q251, hq251, hT⟩ := q_obind hT
  refine r_backZ F hS (r_runV (k := 191) (N := 68) (T := T1) (As := [vI v7_, vI v8_]) F hS (show 191 < 232 by decide) (show shK 191 = 5 from rfl) rfl (c_MO_net l (Nat.le_of_ble_eq_true rfl) M v7_ v8_ hv7_ (inr_z hv8_) _ hq251) gs_WardFallsLaw_87 hd_MO_net ⟨Nat.le_of_ble_eq_true rfl, Nat.le_of_ble_eq_true rfl⟩ rfl hl.1 (Nat.le_of_ble_eq_true rfl) (law_rc hcs1 hjL hL) rfl d_Law_law_778) (fun H locs hS h252 => ?_)
  refine r_icmp_eq (tgt := 1571) F.hx F.hb (inr_z hv5_) (inr_z h252) d_Law_law_781 (by decide) (fun c253 => ?_) (fun c253 => ?_)
  · replace hT := (if_pos c253).symm.trans hT
    exact k_Law_law_L1571 l hlf hL F hX hXs hsl hb hlk hr bk23 j hjL hbk23 (q251.1) v4_ hv4_ hij _ _ hcs1 _ _ _ hS (lv_sub hl [0, 1, 2, 3, 4] rfl) hT
  · replace hT := (if_neg c253).symm.trans hT
    refine r_iconst F.hx F.hb d_Law_law_784 ?_
    exact absurd hT (by decide)
set_option maxHeartbeats 16000000 in
set_option maxRecDepth 100000 in
theorem k_Law_law_L754 (l : Launch) (hlf : l.stackTraces = false) {p : Program} {e : Env} {s : State} {m : MethodId} {below : List Frame} {meth : Method} {c : Code} {b : Nat} {C : CT} {scr L : Nat} {xs : Nat → Int32} (hL : L ≤ 3072) (F : Cx p m c b_Law_law 7 s ([.ref scr] : List Value).toArray "WardFallsLaw" C 232 232) (hX : EX b s) (hXs : va_X scr L xs s s.heap) (hsl : scr < s.heap.size) (hb : b = s.heap.size) (hlk : meth.locks = false) (hr : meth.sig.returnType = ret) (bk23 : Mem → Int → Option Int) (j : Nat) (hjL : 6 * j + 6 ≤ L) (hbk23 : ∀ (M : Mem) (v4_ : Int) (hv4_ : InR v4_) (hij : v4_ = 6 * ((j + 1 : Nat) : Int)) (cells slots : Nat) (hcs : cells ≤ 232 + (j + 1) ∧ slots ≤ 11930 + 6 * (j + 1)) (H : Heap) (locs : List Loc) (ls : Array Slot), St b C 232 M s H locs → lv_has ls 7 [(0, .ref scr), (1, .ref (b + 0)), (2, .ref (b + 191)), (3, .ref (b + 231)), (4, vI v4_)] → bk23 M v4_ = some 1 → W p l e room_1 s m #[Value.ref scr] below meth c H locs cells slots (lw_Z below #[Value.ref scr] s) (F0 m 23 ls [])) (M : Mem) (v4_ : Int) (hv4_ : InR v4_) (v6_ : Int) (hv6_ : InR v6_) (v7_ : Int) (hv7_ : v7_ = 0 ∨ v7_ = 1) (hij : v4_ = 6 * (j : Int)) (cells slots : Nat) (hcs1 : cells ≤ 233 + j ∧ slots ≤ 11936 + 6 * j) (H : Heap) (locs : List Loc) (ls : Array Slot) (hS : St b C 232 M s H locs) (hl : lv_has ls 7 [(0, .ref scr), (1, .ref (b + 0)), (2, .ref (b + 191)), (3, .ref (b + 231)), (4, vI v4_)]) (hT : t_Law_law_L754 xs L bk23 M v4_ v6_ v7_ = some 1) : W p l e room_1 s m #[Value.ref scr] below meth c H locs cells slots (lw_Z below #[Value.ref scr] s) (F0 m 754 ls [vI v7_, vI v6_, .ref (b + 0)]) := by
  unfold t_Law_law_L754 at hT
  obtain ⟨q248, hq248⟩ : ∃ q, q = (t_WF_net M v6_ v7_) := ⟨_, rfl⟩
  replace hT := qlet_eq hT hq248
  refine r_backZ F hS (r_runV (k := 0) (N := 19) (T := T0) (As := [vI v6_, vI v7_]) F hS (show 0 < 232 by decide) (show shK 0 = 4 from rfl) rfl (c_WF_net l (Nat.le_of_ble_eq_true rfl) M v6_ v7_ hv6_ (inr_z hv7_) _ hq248.symm) gs_WardFallsLaw_83 hd_WF_net ⟨Nat.le_of_ble_eq_true rfl, Nat.le_of_ble_eq_true rfl⟩ rfl hl.1 (Nat.le_of_ble_eq_true rfl) (law_rc hcs1 hjL hL) rfl d_Law_law_754) (fun H locs hS h249 => ?_)
  refine lv_aload_n F.hx F.hb d_Law_law_757 rfl (lv_at hl 2 rfl) ?_
  refine lv_aload_n F.hx F.hb d_Law_law_758 rfl (lv_at hl 0 rfl) ?_
  refine lv_iload F.hx F.hb d_Law_law_759 (lv_at hl 4 rfl) ?_
  refine r_iconst F.hx F.hb d_Law_law_761 ?_
  refine r_iadd F.hx F.hb d_Law_law_762 ?_
  refine r_sld F hS hXs hsl hb (inr_w32 _) (law_ix hij hjL hL 1 (by decide) (by decide)).1 (law_ix hij hjL hL 1 (by decide) (by decide)).2 d_Law_law_763 ?_
  refine lv_aload_n F.hx F.hb d_Law_law_764 rfl (lv_at hl 0 rfl) ?_
  refine lv_iload F.hx F.hb d_Law_law_765 (lv_at hl 4 rfl) ?_
  refine r_iconst F.hx F.hb d_Law_law_767 ?_
  refine r_iadd F.hx F.hb d_Law_law_768 ?_
  refine r_sld F hS hXs hsl hb (inr_w32 _) (law_ix hij hjL hL 2 (by decide) (by decide)).1 (law_ix hij hjL hL 2 (by decide) (by decide)).2 d_Law_law_769 ?_
  refine r_if_eq (tgt := 777) F.hx F.hb (q_inr_toInt _) d_Law_law_770 (by decide) (fun c250 => ?_) (fun c250 => ?_)
  · replace hT := (if_pos c250).symm.trans hT
    refine r_iconst F.hx F.hb d_Law_law_777 ?_
    exact k_Law_law_L778 l hlf hL F hX hXs hsl hb hlk hr bk23 j hjL hbk23 (q248.1) v4_ hv4_ (q248.2) h249 (xs ((w32 (v4_ + 1))).toNat).toInt (q_inr_toInt _) 0 (Or.inl rfl) hij _ _ hcs1 _ _ _ hS (lv_sub hl [0, 1, 2, 3, 4] rfl) hT
  · replace hT := (if_neg c250).symm.trans hT
    refine r_iconst F.hx F.hb d_Law_law_773 ?_
    refine lv_goto (tgt := 778) F.hx F.hb d_Law_law_774 (by decide) ?_
    exact k_Law_law_L778 l hlf hL F hX hXs hsl hb hlk hr bk23 j hjL hbk23 (q248.1) v4_ hv4_ (q248.2) h249 (xs ((w32 (v4_ + 1))).toNat).toInt (q_inr_toInt _) 1 (Or.inr rfl) hij _ _ hcs1 _ _ _ hS (lv_sub hl [0, 1, 2, 3, 4] rfl) hT
set_option maxHeartbeats 16000000 in
set_option maxRecDepth 100000 in
theorem k_Law_law_L733 (l : Launch) (hlf : l.stackTraces = false) {p : Program} {e : Env} {s : State} {m : MethodId} {below : List Frame} {meth : Method} {c : Code} {b : Nat} {C : CT} {scr L : Nat} {xs : Nat → Int32} (hL : L ≤ 3072) (F : Cx p m c b_Law_law 7 s ([.ref scr] : List Value).toArray "WardFallsLaw" C 232 232) (hX : EX b s) (hXs : va_X scr L xs s s.heap) (hsl : scr < s.heap.size) (hb : b = s.heap.size) (hlk : meth.locks = false) (hr : meth.sig.returnType = ret) (bk23 : Mem → Int → Option Int) (j : Nat) (hjL : 6 * j + 6 ≤ L) (hbk23 : ∀ (M : Mem) (v4_ : Int) (hv4_ : InR v4_) (hij : v4_ = 6 * ((j + 1 : Nat) : Int)) (cells slots : Nat) (hcs : cells ≤ 232 + (j + 1) ∧ slots ≤ 11930 + 6 * (j + 1)) (H : Heap) (locs : List Loc) (ls : Array Slot), St b C 232 M s H locs → lv_has ls 7 [(0, .ref scr), (1, .ref (b + 0)), (2, .ref (b + 191)), (3, .ref (b + 231)), (4, vI v4_)] → bk23 M v4_ = some 1 → W p l e room_1 s m #[Value.ref scr] below meth c H locs cells slots (lw_Z below #[Value.ref scr] s) (F0 m 23 ls [])) (M : Mem) (v4_ : Int) (hv4_ : InR v4_) (hij : v4_ = 6 * (j : Int)) (cells slots : Nat) (hcs : cells ≤ 232 + j ∧ slots ≤ 11930 + 6 * j) (H : Heap) (locs : List Loc) (ls : Array Slot) (hS : St b C 232 M s H locs) (hl : lv_has ls 7 [(0, .ref scr), (1, .ref (b + 0)), (2, .ref (b + 191)), (3, .ref (b + 231)), (4, vI v4_)]) (hT : t_Law_law_L733 xs L bk23 M v4_ = some 1) : W p l e room_1 s m #[Value.ref scr] below meth c H locs cells slots (lw_Z below #[Value.ref scr] s) (F0 m 733 ls []) := by
  have hcs1 : cells ≤ 233 + j ∧ slots ≤ 11936 + 6 * j := ⟨by omega, by omega⟩
  unfold t_Law_law_L733 at hT
  refine lv_aload_n F.hx F.hb d_Law_law_733 rfl (lv_at hl 1 rfl) ?_
  refine lv_aload_n F.hx F.hb d_Law_law_734 rfl (lv_at hl 0 rfl) ?_
  refine lv_iload F.hx F.hb d_Law_law_735 (lv_at hl 4 rfl) ?_
  refine r_iconst F.hx F.hb d_Law_law_737 ?_
  refine r_iadd F.hx F.hb d_Law_law_738 ?_
  refine r_sld F hS hXs hsl hb (inr_w32 _) (law_ix hij hjL hL 1 (by decide) (by decide)).1 (law_ix hij hjL hL 1 (by decide) (by decide)).2 d_Law_law_739 ?_
  refine lv_aload_n F.hx F.hb d_Law_law_740 rfl (lv_at hl 0 rfl) ?_
  refine lv_iload F.hx F.hb d_Law_law_741 (lv_at hl 4 rfl) ?_
  refine r_iconst F.hx F.hb d_Law_law_743 ?_
  refine r_iadd F.hx F.hb d_Law_law_744 ?_
  refine r_sld F hS hXs hsl hb (inr_w32 _) (law_ix hij hjL hL 2 (by decide) (by decide)).1 (law_ix hij hjL hL 2 (by decide) (by decide)).2 d_Law_law_745 ?_
  refine r_if_eq (tgt := 753) F.hx F.hb (q_inr_toInt _) d_Law_law_746 (by decide) (fun c112 => ?_) (fun c112 => ?_)
  · replace hT := (if_pos c112).symm.trans hT
    refine r_iconst F.hx F.hb d_Law_law_753 ?_
    exact k_Law_law_L754 l hlf hL F hX hXs hsl hb hlk hr bk23 j hjL hbk23 M v4_ hv4_ (xs ((w32 (v4_ + 1))).toNat).toInt (q_inr_toInt _) 0 (Or.inl rfl) hij _ _ hcs1 _ _ _ hS (lv_sub hl [0, 1, 2, 3, 4] rfl) hT
  · replace hT := (if_neg c112).symm.trans hT
    refine r_iconst F.hx F.hb d_Law_law_749 ?_
    refine lv_goto (tgt := 754) F.hx F.hb d_Law_law_750 (by decide) ?_
    exact k_Law_law_L754 l hlf hL F hX hXs hsl hb hlk hr bk23 j hjL hbk23 M v4_ hv4_ (xs ((w32 (v4_ + 1))).toNat).toInt (q_inr_toInt _) 1 (Or.inr rfl) hij _ _ hcs1 _ _ _ hS (lv_sub hl [0, 1, 2, 3, 4] rfl) hT
set_option maxHeartbeats 16000000 in
set_option maxRecDepth 100000 in
theorem k_Law_law_L786 (l : Launch) (hlf : l.stackTraces = false) {p : Program} {e : Env} {s : State} {m : MethodId} {below : List Frame} {meth : Method} {c : Code} {b : Nat} {C : CT} {scr L : Nat} {xs : Nat → Int32} (hL : L ≤ 3072) (F : Cx p m c b_Law_law 7 s ([.ref scr] : List Value).toArray "WardFallsLaw" C 232 232) (hX : EX b s) (hXs : va_X scr L xs s s.heap) (hsl : scr < s.heap.size) (hb : b = s.heap.size) (hlk : meth.locks = false) (hr : meth.sig.returnType = ret) (bk23 : Mem → Int → Option Int) (j : Nat) (hjL : 6 * j + 6 ≤ L) (hbk23 : ∀ (M : Mem) (v4_ : Int) (hv4_ : InR v4_) (hij : v4_ = 6 * ((j + 1 : Nat) : Int)) (cells slots : Nat) (hcs : cells ≤ 232 + (j + 1) ∧ slots ≤ 11930 + 6 * (j + 1)) (H : Heap) (locs : List Loc) (ls : Array Slot), St b C 232 M s H locs → lv_has ls 7 [(0, .ref scr), (1, .ref (b + 0)), (2, .ref (b + 191)), (3, .ref (b + 231)), (4, vI v4_)] → bk23 M v4_ = some 1 → W p l e room_1 s m #[Value.ref scr] below meth c H locs cells slots (lw_Z below #[Value.ref scr] s) (F0 m 23 ls [])) (M : Mem) (v4_ : Int) (hv4_ : InR v4_) (hij : v4_ = 6 * (j : Int)) (cells slots : Nat) (hcs : cells ≤ 232 + j ∧ slots ≤ 11930 + 6 * j) (H : Heap) (locs : List Loc) (ls : Array Slot) (hS : St b C 232 M s H locs) (hl : lv_has ls 7 [(0, .ref scr), (1, .ref (b + 0)), (2, .ref (b + 191)), (3, .ref (b + 231)), (4, vI v4_)]) (hT : t_Law_law_L786 xs L bk23 M v4_ = some 1) : W p l e room_1 s m #[Value.ref scr] below meth c H locs cells slots (lw_Z below #[Value.ref scr] s) (F0 m 786 ls []) := by
  have hcs1 : cells ≤ 233 + j ∧ slots ≤ 11936 + 6 * j := ⟨by omega, by omega⟩
  unfold t_Law_law_L786 at hT
  refine lv_aload_n F.hx F.hb d_Law_law_786 rfl (lv_at hl 1 rfl) ?_
  refine lv_aload_n F.hx F.hb d_Law_law_787 rfl (lv_at hl 0 rfl) ?_
  refine lv_iload F.hx F.hb d_Law_law_788 (lv_at hl 4 rfl) ?_
  refine r_iconst F.hx F.hb d_Law_law_790 ?_
  refine r_iadd F.hx F.hb d_Law_law_791 ?_
  refine r_sld F hS hXs hsl hb (inr_w32 _) (law_ix hij hjL hL 1 (by decide) (by decide)).1 (law_ix hij hjL hL 1 (by decide) (by decide)).2 d_Law_law_792 ?_
  refine lv_aload_n F.hx F.hb d_Law_law_793 rfl (lv_at hl 0 rfl) ?_
  refine lv_iload F.hx F.hb d_Law_law_794 (lv_at hl 4 rfl) ?_
  refine r_iconst F.hx F.hb d_Law_law_796 ?_
  refine r_iadd F.hx F.hb d_Law_law_797 ?_
  refine r_sld F hS hXs hsl hb (inr_w32 _) (law_ix hij hjL hL 2 (by decide) (by decide)).1 (law_ix hij hjL hL 2 (by decide) (by decide)).2 d_Law_law_798 ?_
  obtain ⟨q113, hq113, hT⟩ := q_obind hT
  refine r_backZ F hS (r_runV (k := 0) (N := 19) (T := T0) (As := [vI (xs ((w32 (v4_ + 1))).toNat).toInt, vI (xs ((w32 (v4_ + 2))).toNat).toInt]) F hS (show 0 < 232 by decide) (show shK 0 = 4 from rfl) rfl (c_WF_lay l (Nat.le_of_ble_eq_true rfl) M (xs ((w32 (v4_ + 1))).toNat).toInt (xs ((w32 (v4_ + 2))).toNat).toInt (q_inr_toInt _) (q_inr_toInt _) _ hq113) gs_WardFallsLaw_88 hd_WF_lay ⟨Nat.le_of_ble_eq_true rfl, Nat.le_of_ble_eq_true rfl⟩ rfl hl.1 (Nat.le_of_ble_eq_true rfl) (law_rc hcs1 hjL hL) rfl d_Law_law_799) (fun H locs hS h114 => ?_)
  refine lv_aload_n F.hx F.hb d_Law_law_802 rfl (lv_at hl 2 rfl) ?_
  refine lv_aload_n F.hx F.hb d_Law_law_803 rfl (lv_at hl 0 rfl) ?_
  refine lv_iload F.hx F.hb d_Law_law_804 (lv_at hl 4 rfl) ?_
  refine r_iconst F.hx F.hb d_Law_law_806 ?_
  refine r_iadd F.hx F.hb d_Law_law_807 ?_
  refine r_sld F hS hXs hsl hb (inr_w32 _) (law_ix hij hjL hL 1 (by decide) (by decide)).1 (law_ix hij hjL hL 1 (by decide) (by decide)).2 d_Law_law_808 ?_
  refine lv_aload_n F.hx F.hb d_Law_law_809 rfl (lv_at hl 0 rfl) ?_
  refine lv_iload F.hx F.hb d_Law_law_810 (lv_at hl 4 rfl) ?_
  refine r_iconst F.hx F.hb d_Law_law_812 ?_
  refine r_iadd F.hx F.hb d_Law_law_813 ?_
  refine r_sld F hS hXs hsl hb (inr_w32 _) (law_ix hij hjL hL 2 (by decide) (by decide)).1 (law_ix hij hjL hL 2 (by decide) (by decide)).2 d_Law_law_814 ?_
  obtain ⟨q115, hq115, hT⟩ := q_obind hT
  refine r_backZ F hS (r_runV (k := 191) (N := 68) (T := T1) (As := [vI (xs ((w32 (v4_ + 1))).toNat).toInt, vI (xs ((w32 (v4_ + 2))).toNat).toInt]) F hS (show 191 < 232 by decide) (show shK 191 = 5 from rfl) rfl (c_MO_lay l (Nat.le_of_ble_eq_true rfl) (q113.1) (xs ((w32 (v4_ + 1))).toNat).toInt (xs ((w32 (v4_ + 2))).toNat).toInt (q_inr_toInt _) (q_inr_toInt _) _ hq115) gs_WardFallsLaw_91 hd_MO_lay ⟨Nat.le_of_ble_eq_true rfl, Nat.le_of_ble_eq_true rfl⟩ rfl hl.1 (Nat.le_of_ble_eq_true rfl) (law_rc hcs1 hjL hL) rfl d_Law_law_815) (fun H locs hS h116 => ?_)
  refine r_icmp_eq (tgt := 1571) F.hx F.hb (inr_z h114) (inr_z h116) d_Law_law_818 (by decide) (fun c117 => ?_) (fun c117 => ?_)
  · replace hT := (if_pos c117).symm.trans hT
    exact k_Law_law_L1571 l hlf hL F hX hXs hsl hb hlk hr bk23 j hjL hbk23 (q115.1) v4_ hv4_ hij _ _ hcs1 _ _ _ hS (lv_sub hl [0, 1, 2, 3, 4] rfl) hT
  · replace hT := (if_neg c117).symm.trans hT
    refine r_iconst F.hx F.hb d_Law_law_821 ?_
    exact absurd hT (by decide)
set_option maxHeartbeats 16000000 in
set_option maxRecDepth 100000 in
theorem k_Law_law_L823 (l : Launch) (hlf : l.stackTraces = false) {p : Program} {e : Env} {s : State} {m : MethodId} {below : List Frame} {meth : Method} {c : Code} {b : Nat} {C : CT} {scr L : Nat} {xs : Nat → Int32} (hL : L ≤ 3072) (F : Cx p m c b_Law_law 7 s ([.ref scr] : List Value).toArray "WardFallsLaw" C 232 232) (hX : EX b s) (hXs : va_X scr L xs s s.heap) (hsl : scr < s.heap.size) (hb : b = s.heap.size) (hlk : meth.locks = false) (hr : meth.sig.returnType = ret) (bk23 : Mem → Int → Option Int) (j : Nat) (hjL : 6 * j + 6 ≤ L) (hbk23 : ∀ (M : Mem) (v4_ : Int) (hv4_ : InR v4_) (hij : v4_ = 6 * ((j + 1 : Nat) : Int)) (cells slots : Nat) (hcs : cells ≤ 232 + (j + 1) ∧ slots ≤ 11930 + 6 * (j + 1)) (H : Heap) (locs : List Loc) (ls : Array Slot), St b C 232 M s H locs → lv_has ls 7 [(0, .ref scr), (1, .ref (b + 0)), (2, .ref (b + 191)), (3, .ref (b + 231)), (4, vI v4_)] → bk23 M v4_ = some 1 → W p l e room_1 s m #[Value.ref scr] below meth c H locs cells slots (lw_Z below #[Value.ref scr] s) (F0 m 23 ls [])) (M : Mem) (v4_ : Int) (hv4_ : InR v4_) (hij : v4_ = 6 * (j : Int)) (cells slots : Nat) (hcs : cells ≤ 232 + j ∧ slots ≤ 11930 + 6 * j) (H : Heap) (locs : List Loc) (ls : Array Slot) (hS : St b C 232 M s H locs) (hl : lv_has ls 7 [(0, .ref scr), (1, .ref (b + 0)), (2, .ref (b + 191)), (3, .ref (b + 231)), (4, vI v4_)]) (hT : t_Law_law_L823 xs L bk23 M v4_ = some 1) : W p l e room_1 s m #[Value.ref scr] below meth c H locs cells slots (lw_Z below #[Value.ref scr] s) (F0 m 823 ls []) := by
  have hcs1 : cells ≤ 233 + j ∧ slots ≤ 11936 + 6 * j := ⟨by omega, by omega⟩
  unfold t_Law_law_L823 at hT
  refine lv_aload_n F.hx F.hb d_Law_law_823 rfl (lv_at hl 1 rfl) ?_
  refine lv_aload_n F.hx F.hb d_Law_law_824 rfl (lv_at hl 0 rfl) ?_
  refine lv_iload F.hx F.hb d_Law_law_825 (lv_at hl 4 rfl) ?_
  refine r_iconst F.hx F.hb d_Law_law_827 ?_
  refine r_iadd F.hx F.hb d_Law_law_828 ?_
  refine r_sld F hS hXs hsl hb (inr_w32 _) (law_ix hij hjL hL 1 (by decide) (by decide)).1 (law_ix hij hjL hL 1 (by decide) (by decide)).2 d_Law_law_829 ?_
  refine lv_aload_n F.hx F.hb d_Law_law_830 rfl (lv_at hl 0 rfl) ?_
  refine lv_iload F.hx F.hb d_Law_law_831 (lv_at hl 4 rfl) ?_
  refine r_iconst F.hx F.hb d_Law_law_833 ?_
  refine r_iadd F.hx F.hb d_Law_law_834 ?_
  refine r_sld F hS hXs hsl hb (inr_w32 _) (law_ix hij hjL hL 2 (by decide) (by decide)).1 (law_ix hij hjL hL 2 (by decide) (by decide)).2 d_Law_law_835 ?_
  obtain ⟨q118, hq118, hT⟩ := q_obind hT
  refine r_backI F hS (r_runV (k := 0) (N := 19) (T := T0) (As := [vI (xs ((w32 (v4_ + 1))).toNat).toInt, vI (xs ((w32 (v4_ + 2))).toNat).toInt]) F hS (show 0 < 232 by decide) (show shK 0 = 4 from rfl) rfl (c_WF_pour l (Nat.le_of_ble_eq_true rfl) M (xs ((w32 (v4_ + 1))).toNat).toInt (xs ((w32 (v4_ + 2))).toNat).toInt (q_inr_toInt _) (q_inr_toInt _) _ hq118) gs_WardFallsLaw_92 hd_WF_pour ⟨Nat.le_of_ble_eq_true rfl, Nat.le_of_ble_eq_true rfl⟩ rfl hl.1 (Nat.le_of_ble_eq_true rfl) (law_rc hcs1 hjL hL) rfl d_Law_law_836) (fun H locs hS h119 => ?_)
  refine lv_aload_n F.hx F.hb d_Law_law_839 rfl (lv_at hl 2 rfl) ?_
  refine lv_aload_n F.hx F.hb d_Law_law_840 rfl (lv_at hl 0 rfl) ?_
  refine lv_iload F.hx F.hb d_Law_law_841 (lv_at hl 4 rfl) ?_
  refine r_iconst F.hx F.hb d_Law_law_843 ?_
  refine r_iadd F.hx F.hb d_Law_law_844 ?_
  refine r_sld F hS hXs hsl hb (inr_w32 _) (law_ix hij hjL hL 1 (by decide) (by decide)).1 (law_ix hij hjL hL 1 (by decide) (by decide)).2 d_Law_law_845 ?_
  refine lv_aload_n F.hx F.hb d_Law_law_846 rfl (lv_at hl 0 rfl) ?_
  refine lv_iload F.hx F.hb d_Law_law_847 (lv_at hl 4 rfl) ?_
  refine r_iconst F.hx F.hb d_Law_law_849 ?_
  refine r_iadd F.hx F.hb d_Law_law_850 ?_
  refine r_sld F hS hXs hsl hb (inr_w32 _) (law_ix hij hjL hL 2 (by decide) (by decide)).1 (law_ix hij hjL hL 2 (by decide) (by decide)).2 d_Law_law_851 ?_
  obtain ⟨q120, hq120, hT⟩ := q_obind hT
  refine r_backI F hS (r_runV (k := 191) (N := 68) (T := T1) (As := [vI (xs ((w32 (v4_ + 1))).toNat).toInt, vI (xs ((w32 (v4_ + 2))).toNat).toInt]) F hS (show 191 < 232 by decide) (show shK 191 = 5 from rfl) rfl (c_MO_pour l (Nat.le_of_ble_eq_true rfl) (q118.1) (xs ((w32 (v4_ + 1))).toNat).toInt (xs ((w32 (v4_ + 2))).toNat).toInt (q_inr_toInt _) (q_inr_toInt _) _ hq120) gs_WardFallsLaw_95 hd_MO_pour ⟨Nat.le_of_ble_eq_true rfl, Nat.le_of_ble_eq_true rfl⟩ rfl hl.1 (Nat.le_of_ble_eq_true rfl) (law_rc hcs1 hjL hL) rfl d_Law_law_852) (fun H locs hS h121 => ?_)
  refine r_icmp_eq (tgt := 1571) F.hx F.hb h119 h121 d_Law_law_855 (by decide) (fun c122 => ?_) (fun c122 => ?_)
  · replace hT := (if_pos c122).symm.trans hT
    exact k_Law_law_L1571 l hlf hL F hX hXs hsl hb hlk hr bk23 j hjL hbk23 (q120.1) v4_ hv4_ hij _ _ hcs1 _ _ _ hS (lv_sub hl [0, 1, 2, 3, 4] rfl) hT
  · replace hT := (if_neg c122).symm.trans hT
    refine r_iconst F.hx F.hb d_Law_law_858 ?_
    exact absurd hT (by decide)
set_option maxHeartbeats 16000000 in
set_option maxRecDepth 100000 in
theorem k_Law_law_L860 (l : Launch) (hlf : l.stackTraces = false) {p : Program} {e : Env} {s : State} {m : MethodId} {below : List Frame} {meth : Method} {c : Code} {b : Nat} {C : CT} {scr L : Nat} {xs : Nat → Int32} (hL : L ≤ 3072) (F : Cx p m c b_Law_law 7 s ([.ref scr] : List Value).toArray "WardFallsLaw" C 232 232) (hX : EX b s) (hXs : va_X scr L xs s s.heap) (hsl : scr < s.heap.size) (hb : b = s.heap.size) (hlk : meth.locks = false) (hr : meth.sig.returnType = ret) (bk23 : Mem → Int → Option Int) (j : Nat) (hjL : 6 * j + 6 ≤ L) (hbk23 : ∀ (M : Mem) (v4_ : Int) (hv4_ : InR v4_) (hij : v4_ = 6 * ((j + 1 : Nat) : Int)) (cells slots : Nat) (hcs : cells ≤ 232 + (j + 1) ∧ slots ≤ 11930 + 6 * (j + 1)) (H : Heap) (locs : List Loc) (ls : Array Slot), St b C 232 M s H locs → lv_has ls 7 [(0, .ref scr), (1, .ref (b + 0)), (2, .ref (b + 191)), (3, .ref (b + 231)), (4, vI v4_)] → bk23 M v4_ = some 1 → W p l e room_1 s m #[Value.ref scr] below meth c H locs cells slots (lw_Z below #[Value.ref scr] s) (F0 m 23 ls [])) (M : Mem) (v4_ : Int) (hv4_ : InR v4_) (hij : v4_ = 6 * (j : Int)) (cells slots : Nat) (hcs : cells ≤ 232 + j ∧ slots ≤ 11930 + 6 * j) (H : Heap) (locs : List Loc) (ls : Array Slot) (hS : St b C 232 M s H locs) (hl : lv_has ls 7 [(0, .ref scr), (1, .ref (b + 0)), (2, .ref (b + 191)), (3, .ref (b + 231)), (4, vI v4_)]) (hT : t_Law_law_L860 xs L bk23 M v4_ = some 1) : W p l e room_1 s m #[Value.ref scr] below meth c H locs cells slots (lw_Z below #[Value.ref scr] s) (F0 m 860 ls []) := by
  have hcs1 : cells ≤ 233 + j ∧ slots ≤ 11936 + 6 * j := ⟨by omega, by omega⟩
  unfold t_Law_law_L860 at hT
  refine lv_aload_n F.hx F.hb d_Law_law_860 rfl (lv_at hl 1 rfl) ?_
  obtain ⟨q123, hq123⟩ : ∃ q, q = (t_WF_drain M) := ⟨_, rfl⟩
  replace hT := qlet_eq hT hq123
  refine r_backI F hS (r_runV (k := 0) (N := 19) (T := T0) (As := []) F hS (show 0 < 232 by decide) (show shK 0 = 4 from rfl) rfl (c_WF_drain l (Nat.le_of_ble_eq_true rfl) M _ hq123.symm) gs_WardFallsLaw_96 hd_WF_drain ⟨Nat.le_of_ble_eq_true rfl, Nat.le_of_ble_eq_true rfl⟩ rfl hl.1 (Nat.le_of_ble_eq_true rfl) (law_rc hcs1 hjL hL) rfl d_Law_law_861) (fun H locs hS h124 => ?_)
  refine lv_aload_n F.hx F.hb d_Law_law_864 rfl (lv_at hl 2 rfl) ?_
  obtain ⟨q125, hq125, hT⟩ := q_obind hT
  refine r_backI F hS (r_runV (k := 191) (N := 68) (T := T1) (As := []) F hS (show 191 < 232 by decide) (show shK 191 = 5 from rfl) rfl (c_MO_drain l (Nat.le_of_ble_eq_true rfl) (q123.1) _ hq125) gs_WardFallsLaw_99 hd_MO_drain ⟨Nat.le_of_ble_eq_true rfl, Nat.le_of_ble_eq_true rfl⟩ rfl hl.1 (Nat.le_of_ble_eq_true rfl) (law_rc hcs1 hjL hL) rfl d_Law_law_865) (fun H locs hS h126 => ?_)
  refine r_icmp_eq (tgt := 1571) F.hx F.hb h124 h126 d_Law_law_868 (by decide) (fun c127 => ?_) (fun c127 => ?_)
  · replace hT := (if_pos c127).symm.trans hT
    exact k_Law_law_L1571 l hlf hL F hX hXs hsl hb hlk hr bk23 j hjL hbk23 (q125.1) v4_ hv4_ hij _ _ hcs1 _ _ _ hS (lv_sub hl [0, 1, 2, 3, 4] rfl) hT
  · replace hT := (if_neg c127).symm.trans hT
    refine r_iconst F.hx F.hb d_Law_law_871 ?_
    exact absurd hT (by decide)
set_option maxHeartbeats 16000000 in
set_option maxRecDepth 100000 in
theorem k_Law_law_L873 (l : Launch) (hlf : l.stackTraces = false) {p : Program} {e : Env} {s : State} {m : MethodId} {below : List Frame} {meth : Method} {c : Code} {b : Nat} {C : CT} {scr L : Nat} {xs : Nat → Int32} (hL : L ≤ 3072) (F : Cx p m c b_Law_law 7 s ([.ref scr] : List Value).toArray "WardFallsLaw" C 232 232) (hX : EX b s) (hXs : va_X scr L xs s s.heap) (hsl : scr < s.heap.size) (hb : b = s.heap.size) (hlk : meth.locks = false) (hr : meth.sig.returnType = ret) (bk23 : Mem → Int → Option Int) (j : Nat) (hjL : 6 * j + 6 ≤ L) (hbk23 : ∀ (M : Mem) (v4_ : Int) (hv4_ : InR v4_) (hij : v4_ = 6 * ((j + 1 : Nat) : Int)) (cells slots : Nat) (hcs : cells ≤ 232 + (j + 1) ∧ slots ≤ 11930 + 6 * (j + 1)) (H : Heap) (locs : List Loc) (ls : Array Slot), St b C 232 M s H locs → lv_has ls 7 [(0, .ref scr), (1, .ref (b + 0)), (2, .ref (b + 191)), (3, .ref (b + 231)), (4, vI v4_)] → bk23 M v4_ = some 1 → W p l e room_1 s m #[Value.ref scr] below meth c H locs cells slots (lw_Z below #[Value.ref scr] s) (F0 m 23 ls [])) (M : Mem) (v4_ : Int) (hv4_ : InR v4_) (hij : v4_ = 6 * (j : Int)) (cells slots : Nat) (hcs : cells ≤ 232 + j ∧ slots ≤ 11930 + 6 * j) (H : Heap) (locs : List Loc) (ls : Array Slot) (hS : St b C 232 M s H locs) (hl : lv_has ls 7 [(0, .ref scr), (1, .ref (b + 0)), (2, .ref (b + 191)), (3, .ref (b + 231)), (4, vI v4_)]) (hT : t_Law_law_L873 xs L bk23 M v4_ = some 1) : W p l e room_1 s m #[Value.ref scr] below meth c H locs cells slots (lw_Z below #[Value.ref scr] s) (F0 m 873 ls []) := by
  have hcs1 : cells ≤ 233 + j ∧ slots ≤ 11936 + 6 * j := ⟨by omega, by omega⟩
  unfold t_Law_law_L873 at hT
  refine lv_aload_n F.hx F.hb d_Law_law_873 rfl (lv_at hl 1 rfl) ?_
  refine lv_aload_n F.hx F.hb d_Law_law_874 rfl (lv_at hl 0 rfl) ?_
  refine lv_iload F.hx F.hb d_Law_law_875 (lv_at hl 4 rfl) ?_
  refine r_iconst F.hx F.hb d_Law_law_877 ?_
  refine r_iadd F.hx F.hb d_Law_law_878 ?_
  refine r_sld F hS hXs hsl hb (inr_w32 _) (law_ix hij hjL hL 1 (by decide) (by decide)).1 (law_ix hij hjL hL 1 (by decide) (by decide)).2 d_Law_law_879 ?_
  refine lv_aload_n F.hx F.hb d_Law_law_880 rfl (lv_at hl 0 rfl) ?_
  refine lv_iload F.hx F.hb d_Law_law_881 (lv_at hl 4 rfl) ?_
  refine r_iconst F.hx F.hb d_Law_law_883 ?_
  refine r_iadd F.hx F.hb d_Law_law_884 ?_
  refine r_sld F hS hXs hsl hb (inr_w32 _) (law_ix hij hjL hL 2 (by decide) (by decide)).1 (law_ix hij hjL hL 2 (by decide) (by decide)).2 d_Law_law_885 ?_
  obtain ⟨q128, hq128, hT⟩ := q_obind hT
  refine r_backL F hS (r_runV (k := 0) (N := 19) (T := T0) (As := [vI (xs ((w32 (v4_ + 1))).toNat).toInt, vI (xs ((w32 (v4_ + 2))).toNat).toInt]) F hS (show 0 < 232 by decide) (show shK 0 = 4 from rfl) rfl (c_WF_flood l (Nat.le_of_ble_eq_true rfl) M (xs ((w32 (v4_ + 1))).toNat).toInt (xs ((w32 (v4_ + 2))).toNat).toInt (q_inr_toInt _) (q_inr_toInt _) _ hq128) gs_WardFallsLaw_100 hd_WF_flood ⟨Nat.le_of_ble_eq_true rfl, Nat.le_of_ble_eq_true rfl⟩ rfl hl.1 (Nat.le_of_ble_eq_true rfl) (law_rc hcs1 hjL hL) rfl d_Law_law_886) (fun H locs hS => ?_)
  refine lv_aload_n F.hx F.hb d_Law_law_889 rfl (lv_at hl 2 rfl) ?_
  refine lv_aload_n F.hx F.hb d_Law_law_890 rfl (lv_at hl 0 rfl) ?_
  refine lv_iload F.hx F.hb d_Law_law_891 (lv_at hl 4 rfl) ?_
  refine r_iconst F.hx F.hb d_Law_law_893 ?_
  refine r_iadd F.hx F.hb d_Law_law_894 ?_
  refine r_sld F hS hXs hsl hb (inr_w32 _) (law_ix hij hjL hL 1 (by decide) (by decide)).1 (law_ix hij hjL hL 1 (by decide) (by decide)).2 d_Law_law_895 ?_
  refine lv_aload_n F.hx F.hb d_Law_law_896 rfl (lv_at hl 0 rfl) ?_
  refine lv_iload F.hx F.hb d_Law_law_897 (lv_at hl 4 rfl) ?_
  refine r_iconst F.hx F.hb d_Law_law_899 ?_
  refine r_iadd F.hx F.hb d_Law_law_900 ?_
  refine r_sld F hS hXs hsl hb (inr_w32 _) (law_ix hij hjL hL 2 (by decide) (by decide)).1 (law_ix hij hjL hL 2 (by decide) (by decide)).2 d_Law_law_901 ?_
  obtain ⟨q130, hq130, hT⟩ := q_obind hT
  refine r_backL F hS (r_runV (k := 191) (N := 68) (T := T1) (As := [vI (xs ((w32 (v4_ + 1))).toNat).toInt, vI (xs ((w32 (v4_ + 2))).toNat).toInt]) F hS (show 191 < 232 by decide) (show shK 191 = 5 from rfl) rfl (c_MO_flood l (Nat.le_of_ble_eq_true rfl) (q128.1) (xs ((w32 (v4_ + 1))).toNat).toInt (xs ((w32 (v4_ + 2))).toNat).toInt (q_inr_toInt _) (q_inr_toInt _) _ hq130) gs_WardFallsLaw_104 hd_MO_flood ⟨Nat.le_of_ble_eq_true rfl, Nat.le_of_ble_eq_true rfl⟩ rfl hl.1 (Nat.le_of_ble_eq_true rfl) (law_rc hcs1 hjL hL) rfl d_Law_law_902) (fun H locs hS => ?_)
  refine W.lcmp F.hx F.hb d_Law_law_905 ?_
  refine r_lif_eq (tgt := 1571) F.hx F.hb  d_Law_law_906 (by decide) (fun c132 => ?_) (fun c132 => ?_)
  · replace hT := (if_pos c132).symm.trans hT
    exact k_Law_law_L1571 l hlf hL F hX hXs hsl hb hlk hr bk23 j hjL hbk23 (q130.1) v4_ hv4_ hij _ _ hcs1 _ _ _ hS (lv_sub hl [0, 1, 2, 3, 4] rfl) hT
  · replace hT := (if_neg c132).symm.trans hT
    refine r_iconst F.hx F.hb d_Law_law_909 ?_
    exact absurd hT (by decide)
set_option maxHeartbeats 16000000 in
set_option maxRecDepth 100000 in
theorem k_Law_law_L911 (l : Launch) (hlf : l.stackTraces = false) {p : Program} {e : Env} {s : State} {m : MethodId} {below : List Frame} {meth : Method} {c : Code} {b : Nat} {C : CT} {scr L : Nat} {xs : Nat → Int32} (hL : L ≤ 3072) (F : Cx p m c b_Law_law 7 s ([.ref scr] : List Value).toArray "WardFallsLaw" C 232 232) (hX : EX b s) (hXs : va_X scr L xs s s.heap) (hsl : scr < s.heap.size) (hb : b = s.heap.size) (hlk : meth.locks = false) (hr : meth.sig.returnType = ret) (bk23 : Mem → Int → Option Int) (j : Nat) (hjL : 6 * j + 6 ≤ L) (hbk23 : ∀ (M : Mem) (v4_ : Int) (hv4_ : InR v4_) (hij : v4_ = 6 * ((j + 1 : Nat) : Int)) (cells slots : Nat) (hcs : cells ≤ 232 + (j + 1) ∧ slots ≤ 11930 + 6 * (j + 1)) (H : Heap) (locs : List Loc) (ls : Array Slot), St b C 232 M s H locs → lv_has ls 7 [(0, .ref scr), (1, .ref (b + 0)), (2, .ref (b + 191)), (3, .ref (b + 231)), (4, vI v4_)] → bk23 M v4_ = some 1 → W p l e room_1 s m #[Value.ref scr] below meth c H locs cells slots (lw_Z below #[Value.ref scr] s) (F0 m 23 ls [])) (M : Mem) (v4_ : Int) (hv4_ : InR v4_) (hij : v4_ = 6 * (j : Int)) (cells slots : Nat) (hcs : cells ≤ 232 + j ∧ slots ≤ 11930 + 6 * j) (H : Heap) (locs : List Loc) (ls : Array Slot) (hS : St b C 232 M s H locs) (hl : lv_has ls 7 [(0, .ref scr), (1, .ref (b + 0)), (2, .ref (b + 191)), (3, .ref (b + 231)), (4, vI v4_)]) (hT : t_Law_law_L911 xs L bk23 M v4_ = some 1) : W p l e room_1 s m #[Value.ref scr] below meth c H locs cells slots (lw_Z below #[Value.ref scr] s) (F0 m 911 ls []) := by
  have hcs1 : cells ≤ 233 + j ∧ slots ≤ 11936 + 6 * j := ⟨by omega, by omega⟩
  unfold t_Law_law_L911 at hT
  refine lv_aload_n F.hx F.hb d_Law_law_911 rfl (lv_at hl 1 rfl) ?_
  refine lv_aload_n F.hx F.hb d_Law_law_912 rfl (lv_at hl 0 rfl) ?_
  refine lv_iload F.hx F.hb d_Law_law_913 (lv_at hl 4 rfl) ?_
  refine r_iconst F.hx F.hb d_Law_law_915 ?_
  refine r_iadd F.hx F.hb d_Law_law_916 ?_
  refine r_sld F hS hXs hsl hb (inr_w32 _) (law_ix hij hjL hL 1 (by decide) (by decide)).1 (law_ix hij hjL hL 1 (by decide) (by decide)).2 d_Law_law_917 ?_
  refine lv_aload_n F.hx F.hb d_Law_law_918 rfl (lv_at hl 0 rfl) ?_
  refine lv_iload F.hx F.hb d_Law_law_919 (lv_at hl 4 rfl) ?_
  refine r_iconst F.hx F.hb d_Law_law_921 ?_
  refine r_iadd F.hx F.hb d_Law_law_922 ?_
  refine r_sld F hS hXs hsl hb (inr_w32 _) (law_ix hij hjL hL 2 (by decide) (by decide)).1 (law_ix hij hjL hL 2 (by decide) (by decide)).2 d_Law_law_923 ?_
  obtain ⟨q133, hq133, hT⟩ := q_obind hT
  refine r_backI F hS (r_runV (k := 0) (N := 19) (T := T0) (As := [vI (xs ((w32 (v4_ + 1))).toNat).toInt, vI (xs ((w32 (v4_ + 2))).toNat).toInt]) F hS (show 0 < 232 by decide) (show shK 0 = 4 from rfl) rfl (c_WF_walk l (Nat.le_of_ble_eq_true rfl) M (xs ((w32 (v4_ + 1))).toNat).toInt (xs ((w32 (v4_ + 2))).toNat).toInt (q_inr_toInt _) (q_inr_toInt _) _ hq133) gs_WardFallsLaw_105 hd_WF_walk ⟨Nat.le_of_ble_eq_true rfl, Nat.le_of_ble_eq_true rfl⟩ rfl hl.1 (Nat.le_of_ble_eq_true rfl) (law_rc hcs1 hjL hL) rfl d_Law_law_924) (fun H locs hS h134 => ?_)
  refine lv_aload_n F.hx F.hb d_Law_law_927 rfl (lv_at hl 2 rfl) ?_
  refine lv_aload_n F.hx F.hb d_Law_law_928 rfl (lv_at hl 0 rfl) ?_
  refine lv_iload F.hx F.hb d_Law_law_929 (lv_at hl 4 rfl) ?_
  refine r_iconst F.hx F.hb d_Law_law_931 ?_
  refine r_iadd F.hx F.hb d_Law_law_932 ?_
  refine r_sld F hS hXs hsl hb (inr_w32 _) (law_ix hij hjL hL 1 (by decide) (by decide)).1 (law_ix hij hjL hL 1 (by decide) (by decide)).2 d_Law_law_933 ?_
  refine lv_aload_n F.hx F.hb d_Law_law_934 rfl (lv_at hl 0 rfl) ?_
  refine lv_iload F.hx F.hb d_Law_law_935 (lv_at hl 4 rfl) ?_
  refine r_iconst F.hx F.hb d_Law_law_937 ?_
  refine r_iadd F.hx F.hb d_Law_law_938 ?_
  refine r_sld F hS hXs hsl hb (inr_w32 _) (law_ix hij hjL hL 2 (by decide) (by decide)).1 (law_ix hij hjL hL 2 (by decide) (by decide)).2 d_Law_law_939 ?_
  obtain ⟨q135, hq135, hT⟩ := q_obind hT
  refine r_backI F hS (r_runV (k := 191) (N := 68) (T := T1) (As := [vI (xs ((w32 (v4_ + 1))).toNat).toInt, vI (xs ((w32 (v4_ + 2))).toNat).toInt]) F hS (show 191 < 232 by decide) (show shK 191 = 5 from rfl) rfl (c_MO_walk l (Nat.le_of_ble_eq_true rfl) (q133.1) (xs ((w32 (v4_ + 1))).toNat).toInt (xs ((w32 (v4_ + 2))).toNat).toInt (q_inr_toInt _) (q_inr_toInt _) _ hq135) gs_WardFallsLaw_108 hd_MO_walk ⟨Nat.le_of_ble_eq_true rfl, Nat.le_of_ble_eq_true rfl⟩ rfl hl.1 (Nat.le_of_ble_eq_true rfl) (law_rc hcs1 hjL hL) rfl d_Law_law_940) (fun H locs hS h136 => ?_)
  refine r_icmp_eq (tgt := 1571) F.hx F.hb h134 h136 d_Law_law_943 (by decide) (fun c137 => ?_) (fun c137 => ?_)
  · replace hT := (if_pos c137).symm.trans hT
    exact k_Law_law_L1571 l hlf hL F hX hXs hsl hb hlk hr bk23 j hjL hbk23 (q135.1) v4_ hv4_ hij _ _ hcs1 _ _ _ hS (lv_sub hl [0, 1, 2, 3, 4] rfl) hT
  · replace hT := (if_neg c137).symm.trans hT
    refine r_iconst F.hx F.hb d_Law_law_946 ?_
    exact absurd hT (by decide)
set_option maxHeartbeats 16000000 in
set_option maxRecDepth 100000 in
theorem k_Law_law_L948 (l : Launch) (hlf : l.stackTraces = false) {p : Program} {e : Env} {s : State} {m : MethodId} {below : List Frame} {meth : Method} {c : Code} {b : Nat} {C : CT} {scr L : Nat} {xs : Nat → Int32} (hL : L ≤ 3072) (F : Cx p m c b_Law_law 7 s ([.ref scr] : List Value).toArray "WardFallsLaw" C 232 232) (hX : EX b s) (hXs : va_X scr L xs s s.heap) (hsl : scr < s.heap.size) (hb : b = s.heap.size) (hlk : meth.locks = false) (hr : meth.sig.returnType = ret) (bk23 : Mem → Int → Option Int) (j : Nat) (hjL : 6 * j + 6 ≤ L) (hbk23 : ∀ (M : Mem) (v4_ : Int) (hv4_ : InR v4_) (hij : v4_ = 6 * ((j + 1 : Nat) : Int)) (cells slots : Nat) (hcs : cells ≤ 232 + (j + 1) ∧ slots ≤ 11930 + 6 * (j + 1)) (H : Heap) (locs : List Loc) (ls : Array Slot), St b C 232 M s H locs → lv_has ls 7 [(0, .ref scr), (1, .ref (b + 0)), (2, .ref (b + 191)), (3, .ref (b + 231)), (4, vI v4_)] → bk23 M v4_ = some 1 → W p l e room_1 s m #[Value.ref scr] below meth c H locs cells slots (lw_Z below #[Value.ref scr] s) (F0 m 23 ls [])) (M : Mem) (v4_ : Int) (hv4_ : InR v4_) (hij : v4_ = 6 * (j : Int)) (cells slots : Nat) (hcs : cells ≤ 232 + j ∧ slots ≤ 11930 + 6 * j) (H : Heap) (locs : List Loc) (ls : Array Slot) (hS : St b C 232 M s H locs) (hl : lv_has ls 7 [(0, .ref scr), (1, .ref (b + 0)), (2, .ref (b + 191)), (3, .ref (b + 231)), (4, vI v4_)]) (hT : t_Law_law_L948 xs L bk23 M v4_ = some 1) : W p l e room_1 s m #[Value.ref scr] below meth c H locs cells slots (lw_Z below #[Value.ref scr] s) (F0 m 948 ls []) := by
  have hcs1 : cells ≤ 233 + j ∧ slots ≤ 11936 + 6 * j := ⟨by omega, by omega⟩
  unfold t_Law_law_L948 at hT
  refine lv_aload_n F.hx F.hb d_Law_law_948 rfl (lv_at hl 1 rfl) ?_
  refine lv_aload_n F.hx F.hb d_Law_law_949 rfl (lv_at hl 0 rfl) ?_
  refine lv_iload F.hx F.hb d_Law_law_950 (lv_at hl 4 rfl) ?_
  refine r_iconst F.hx F.hb d_Law_law_952 ?_
  refine r_iadd F.hx F.hb d_Law_law_953 ?_
  refine r_sld F hS hXs hsl hb (inr_w32 _) (law_ix hij hjL hL 1 (by decide) (by decide)).1 (law_ix hij hjL hL 1 (by decide) (by decide)).2 d_Law_law_954 ?_
  refine lv_aload_n F.hx F.hb d_Law_law_955 rfl (lv_at hl 0 rfl) ?_
  refine lv_iload F.hx F.hb d_Law_law_956 (lv_at hl 4 rfl) ?_
  refine r_iconst F.hx F.hb d_Law_law_958 ?_
  refine r_iadd F.hx F.hb d_Law_law_959 ?_
  refine r_sld F hS hXs hsl hb (inr_w32 _) (law_ix hij hjL hL 2 (by decide) (by decide)).1 (law_ix hij hjL hL 2 (by decide) (by decide)).2 d_Law_law_960 ?_
  refine lv_aload_n F.hx F.hb d_Law_law_961 rfl (lv_at hl 0 rfl) ?_
  refine lv_iload F.hx F.hb d_Law_law_962 (lv_at hl 4 rfl) ?_
  refine r_iconst F.hx F.hb d_Law_law_964 ?_
  refine r_iadd F.hx F.hb d_Law_law_965 ?_
  refine r_sld F hS hXs hsl hb (inr_w32 _) (law_ix hij hjL hL 3 (by decide) (by decide)).1 (law_ix hij hjL hL 3 (by decide) (by decide)).2 d_Law_law_966 ?_
  obtain ⟨q138, hq138, hT⟩ := q_obind hT
  refine r_backI F hS (r_runV (k := 0) (N := 19) (T := T0) (As := [vI (xs ((w32 (v4_ + 1))).toNat).toInt, vI (xs ((w32 (v4_ + 2))).toNat).toInt, vI (xs ((w32 (v4_ + 3))).toNat).toInt]) F hS (show 0 < 232 by decide) (show shK 0 = 4 from rfl) rfl (c_WF_step l (Nat.le_of_ble_eq_true rfl) M (xs ((w32 (v4_ + 1))).toNat).toInt (xs ((w32 (v4_ + 2))).toNat).toInt (xs ((w32 (v4_ + 3))).toNat).toInt (q_inr_toInt _) (q_inr_toInt _) (q_inr_toInt _) _ hq138) gs_WardFallsLaw_109 hd_WF_step ⟨Nat.le_of_ble_eq_true rfl, Nat.le_of_ble_eq_true rfl⟩ rfl hl.1 (Nat.le_of_ble_eq_true rfl) (law_rc hcs1 hjL hL) rfl d_Law_law_967) (fun H locs hS h139 => ?_)
  refine lv_aload_n F.hx F.hb d_Law_law_970 rfl (lv_at hl 2 rfl) ?_
  refine lv_aload_n F.hx F.hb d_Law_law_971 rfl (lv_at hl 0 rfl) ?_
  refine lv_iload F.hx F.hb d_Law_law_972 (lv_at hl 4 rfl) ?_
  refine r_iconst F.hx F.hb d_Law_law_974 ?_
  refine r_iadd F.hx F.hb d_Law_law_975 ?_
  refine r_sld F hS hXs hsl hb (inr_w32 _) (law_ix hij hjL hL 1 (by decide) (by decide)).1 (law_ix hij hjL hL 1 (by decide) (by decide)).2 d_Law_law_976 ?_
  refine lv_aload_n F.hx F.hb d_Law_law_977 rfl (lv_at hl 0 rfl) ?_
  refine lv_iload F.hx F.hb d_Law_law_978 (lv_at hl 4 rfl) ?_
  refine r_iconst F.hx F.hb d_Law_law_980 ?_
  refine r_iadd F.hx F.hb d_Law_law_981 ?_
  refine r_sld F hS hXs hsl hb (inr_w32 _) (law_ix hij hjL hL 2 (by decide) (by decide)).1 (law_ix hij hjL hL 2 (by decide) (by decide)).2 d_Law_law_982 ?_
  refine lv_aload_n F.hx F.hb d_Law_law_983 rfl (lv_at hl 0 rfl) ?_
  refine lv_iload F.hx F.hb d_Law_law_984 (lv_at hl 4 rfl) ?_
  refine r_iconst F.hx F.hb d_Law_law_986 ?_
  refine r_iadd F.hx F.hb d_Law_law_987 ?_
  refine r_sld F hS hXs hsl hb (inr_w32 _) (law_ix hij hjL hL 3 (by decide) (by decide)).1 (law_ix hij hjL hL 3 (by decide) (by decide)).2 d_Law_law_988 ?_
  obtain ⟨q140, hq140, hT⟩ := q_obind hT
  refine r_backI F hS (r_runV (k := 191) (N := 68) (T := T1) (As := [vI (xs ((w32 (v4_ + 1))).toNat).toInt, vI (xs ((w32 (v4_ + 2))).toNat).toInt, vI (xs ((w32 (v4_ + 3))).toNat).toInt]) F hS (show 191 < 232 by decide) (show shK 191 = 5 from rfl) rfl (c_MO_step l (Nat.le_of_ble_eq_true rfl) (q138.1) (xs ((w32 (v4_ + 1))).toNat).toInt (xs ((w32 (v4_ + 2))).toNat).toInt (xs ((w32 (v4_ + 3))).toNat).toInt (q_inr_toInt _) (q_inr_toInt _) (q_inr_toInt _) _ hq140) gs_WardFallsLaw_113 hd_MO_step ⟨Nat.le_of_ble_eq_true rfl, Nat.le_of_ble_eq_true rfl⟩ rfl hl.1 (Nat.le_of_ble_eq_true rfl) (law_rc hcs1 hjL hL) rfl d_Law_law_989) (fun H locs hS h141 => ?_)
  refine r_icmp_eq (tgt := 1571) F.hx F.hb h139 h141 d_Law_law_992 (by decide) (fun c142 => ?_) (fun c142 => ?_)
  · replace hT := (if_pos c142).symm.trans hT
    exact k_Law_law_L1571 l hlf hL F hX hXs hsl hb hlk hr bk23 j hjL hbk23 (q140.1) v4_ hv4_ hij _ _ hcs1 _ _ _ hS (lv_sub hl [0, 1, 2, 3, 4] rfl) hT
  · replace hT := (if_neg c142).symm.trans hT
    refine r_iconst F.hx F.hb d_Law_law_995 ?_
    exact absurd hT (by decide)
set_option maxHeartbeats 16000000 in
set_option maxRecDepth 100000 in
theorem k_Law_law_L997 (l : Launch) (hlf : l.stackTraces = false) {p : Program} {e : Env} {s : State} {m : MethodId} {below : List Frame} {meth : Method} {c : Code} {b : Nat} {C : CT} {scr L : Nat} {xs : Nat → Int32} (hL : L ≤ 3072) (F : Cx p m c b_Law_law 7 s ([.ref scr] : List Value).toArray "WardFallsLaw" C 232 232) (hX : EX b s) (hXs : va_X scr L xs s s.heap) (hsl : scr < s.heap.size) (hb : b = s.heap.size) (hlk : meth.locks = false) (hr : meth.sig.returnType = ret) (bk23 : Mem → Int → Option Int) (j : Nat) (hjL : 6 * j + 6 ≤ L) (hbk23 : ∀ (M : Mem) (v4_ : Int) (hv4_ : InR v4_) (hij : v4_ = 6 * ((j + 1 : Nat) : Int)) (cells slots : Nat) (hcs : cells ≤ 232 + (j + 1) ∧ slots ≤ 11930 + 6 * (j + 1)) (H : Heap) (locs : List Loc) (ls : Array Slot), St b C 232 M s H locs → lv_has ls 7 [(0, .ref scr), (1, .ref (b + 0)), (2, .ref (b + 191)), (3, .ref (b + 231)), (4, vI v4_)] → bk23 M v4_ = some 1 → W p l e room_1 s m #[Value.ref scr] below meth c H locs cells slots (lw_Z below #[Value.ref scr] s) (F0 m 23 ls [])) (M : Mem) (v4_ : Int) (hv4_ : InR v4_) (hij : v4_ = 6 * (j : Int)) (cells slots : Nat) (hcs : cells ≤ 232 + j ∧ slots ≤ 11930 + 6 * j) (H : Heap) (locs : List Loc) (ls : Array Slot) (hS : St b C 232 M s H locs) (hl : lv_has ls 7 [(0, .ref scr), (1, .ref (b + 0)), (2, .ref (b + 191)), (3, .ref (b + 231)), (4, vI v4_)]) (hT : t_Law_law_L997 xs L bk23 M v4_ = some 1) : W p l e room_1 s m #[Value.ref scr] below meth c H locs cells slots (lw_Z below #[Value.ref scr] s) (F0 m 997 ls []) := by
  have hcs1 : cells ≤ 233 + j ∧ slots ≤ 11936 + 6 * j := ⟨by omega, by omega⟩
  unfold t_Law_law_L997 at hT
  refine lv_aload_n F.hx F.hb d_Law_law_997 rfl (lv_at hl 1 rfl) ?_
  refine lv_aload_n F.hx F.hb d_Law_law_998 rfl (lv_at hl 0 rfl) ?_
  refine lv_iload F.hx F.hb d_Law_law_999 (lv_at hl 4 rfl) ?_
  refine r_iconst F.hx F.hb d_Law_law_1001 ?_
  refine r_iadd F.hx F.hb d_Law_law_1002 ?_
  refine r_sld F hS hXs hsl hb (inr_w32 _) (law_ix hij hjL hL 1 (by decide) (by decide)).1 (law_ix hij hjL hL 1 (by decide) (by decide)).2 d_Law_law_1003 ?_
  refine lv_aload_n F.hx F.hb d_Law_law_1004 rfl (lv_at hl 0 rfl) ?_
  refine lv_iload F.hx F.hb d_Law_law_1005 (lv_at hl 4 rfl) ?_
  refine r_iconst F.hx F.hb d_Law_law_1007 ?_
  refine r_iadd F.hx F.hb d_Law_law_1008 ?_
  refine r_sld F hS hXs hsl hb (inr_w32 _) (law_ix hij hjL hL 2 (by decide) (by decide)).1 (law_ix hij hjL hL 2 (by decide) (by decide)).2 d_Law_law_1009 ?_
  refine lv_aload_n F.hx F.hb d_Law_law_1010 rfl (lv_at hl 0 rfl) ?_
  refine lv_iload F.hx F.hb d_Law_law_1011 (lv_at hl 4 rfl) ?_
  refine r_iconst F.hx F.hb d_Law_law_1013 ?_
  refine r_iadd F.hx F.hb d_Law_law_1014 ?_
  refine r_sld F hS hXs hsl hb (inr_w32 _) (law_ix hij hjL hL 3 (by decide) (by decide)).1 (law_ix hij hjL hL 3 (by decide) (by decide)).2 d_Law_law_1015 ?_
  obtain ⟨q143, hq143, hT⟩ := q_obind hT
  refine r_backI F hS (r_runV (k := 0) (N := 19) (T := T0) (As := [vI (xs ((w32 (v4_ + 1))).toNat).toInt, vI (xs ((w32 (v4_ + 2))).toNat).toInt, vI (xs ((w32 (v4_ + 3))).toNat).toInt]) F hS (show 0 < 232 by decide) (show shK 0 = 4 from rfl) rfl (c_WF_push l (Nat.le_of_ble_eq_true rfl) M (xs ((w32 (v4_ + 1))).toNat).toInt (xs ((w32 (v4_ + 2))).toNat).toInt (xs ((w32 (v4_ + 3))).toNat).toInt (q_inr_toInt _) (q_inr_toInt _) (q_inr_toInt _) _ hq143) gs_WardFallsLaw_114 hd_WF_push ⟨Nat.le_of_ble_eq_true rfl, Nat.le_of_ble_eq_true rfl⟩ rfl hl.1 (Nat.le_of_ble_eq_true rfl) (law_rc hcs1 hjL hL) rfl d_Law_law_1016) (fun H locs hS h144 => ?_)
  refine lv_aload_n F.hx F.hb d_Law_law_1019 rfl (lv_at hl 2 rfl) ?_
  refine lv_aload_n F.hx F.hb d_Law_law_1020 rfl (lv_at hl 0 rfl) ?_
  refine lv_iload F.hx F.hb d_Law_law_1021 (lv_at hl 4 rfl) ?_
  refine r_iconst F.hx F.hb d_Law_law_1023 ?_
  refine r_iadd F.hx F.hb d_Law_law_1024 ?_
  refine r_sld F hS hXs hsl hb (inr_w32 _) (law_ix hij hjL hL 1 (by decide) (by decide)).1 (law_ix hij hjL hL 1 (by decide) (by decide)).2 d_Law_law_1025 ?_
  refine lv_aload_n F.hx F.hb d_Law_law_1026 rfl (lv_at hl 0 rfl) ?_
  refine lv_iload F.hx F.hb d_Law_law_1027 (lv_at hl 4 rfl) ?_
  refine r_iconst F.hx F.hb d_Law_law_1029 ?_
  refine r_iadd F.hx F.hb d_Law_law_1030 ?_
  refine r_sld F hS hXs hsl hb (inr_w32 _) (law_ix hij hjL hL 2 (by decide) (by decide)).1 (law_ix hij hjL hL 2 (by decide) (by decide)).2 d_Law_law_1031 ?_
  refine lv_aload_n F.hx F.hb d_Law_law_1032 rfl (lv_at hl 0 rfl) ?_
  refine lv_iload F.hx F.hb d_Law_law_1033 (lv_at hl 4 rfl) ?_
  refine r_iconst F.hx F.hb d_Law_law_1035 ?_
  refine r_iadd F.hx F.hb d_Law_law_1036 ?_
  refine r_sld F hS hXs hsl hb (inr_w32 _) (law_ix hij hjL hL 3 (by decide) (by decide)).1 (law_ix hij hjL hL 3 (by decide) (by decide)).2 d_Law_law_1037 ?_
  obtain ⟨q145, hq145, hT⟩ := q_obind hT
  refine r_backI F hS (r_runV (k := 191) (N := 68) (T := T1) (As := [vI (xs ((w32 (v4_ + 1))).toNat).toInt, vI (xs ((w32 (v4_ + 2))).toNat).toInt, vI (xs ((w32 (v4_ + 3))).toNat).toInt]) F hS (show 191 < 232 by decide) (show shK 191 = 5 from rfl) rfl (c_MO_push l (Nat.le_of_ble_eq_true rfl) (q143.1) (xs ((w32 (v4_ + 1))).toNat).toInt (xs ((w32 (v4_ + 2))).toNat).toInt (xs ((w32 (v4_ + 3))).toNat).toInt (q_inr_toInt _) (q_inr_toInt _) (q_inr_toInt _) _ hq145) gs_WardFallsLaw_117 hd_MO_push ⟨Nat.le_of_ble_eq_true rfl, Nat.le_of_ble_eq_true rfl⟩ rfl hl.1 (Nat.le_of_ble_eq_true rfl) (law_rc hcs1 hjL hL) rfl d_Law_law_1038) (fun H locs hS h146 => ?_)
  refine r_icmp_eq (tgt := 1571) F.hx F.hb h144 h146 d_Law_law_1041 (by decide) (fun c147 => ?_) (fun c147 => ?_)
  · replace hT := (if_pos c147).symm.trans hT
    exact k_Law_law_L1571 l hlf hL F hX hXs hsl hb hlk hr bk23 j hjL hbk23 (q145.1) v4_ hv4_ hij _ _ hcs1 _ _ _ hS (lv_sub hl [0, 1, 2, 3, 4] rfl) hT
  · replace hT := (if_neg c147).symm.trans hT
    refine r_iconst F.hx F.hb d_Law_law_1044 ?_
    exact absurd hT (by decide)
set_option maxHeartbeats 16000000 in
set_option maxRecDepth 100000 in
theorem k_Law_law_L1046 (l : Launch) (hlf : l.stackTraces = false) {p : Program} {e : Env} {s : State} {m : MethodId} {below : List Frame} {meth : Method} {c : Code} {b : Nat} {C : CT} {scr L : Nat} {xs : Nat → Int32} (hL : L ≤ 3072) (F : Cx p m c b_Law_law 7 s ([.ref scr] : List Value).toArray "WardFallsLaw" C 232 232) (hX : EX b s) (hXs : va_X scr L xs s s.heap) (hsl : scr < s.heap.size) (hb : b = s.heap.size) (hlk : meth.locks = false) (hr : meth.sig.returnType = ret) (bk23 : Mem → Int → Option Int) (j : Nat) (hjL : 6 * j + 6 ≤ L) (hbk23 : ∀ (M : Mem) (v4_ : Int) (hv4_ : InR v4_) (hij : v4_ = 6 * ((j + 1 : Nat) : Int)) (cells slots : Nat) (hcs : cells ≤ 232 + (j + 1) ∧ slots ≤ 11930 + 6 * (j + 1)) (H : Heap) (locs : List Loc) (ls : Array Slot), St b C 232 M s H locs → lv_has ls 7 [(0, .ref scr), (1, .ref (b + 0)), (2, .ref (b + 191)), (3, .ref (b + 231)), (4, vI v4_)] → bk23 M v4_ = some 1 → W p l e room_1 s m #[Value.ref scr] below meth c H locs cells slots (lw_Z below #[Value.ref scr] s) (F0 m 23 ls [])) (M : Mem) (v4_ : Int) (hv4_ : InR v4_) (hij : v4_ = 6 * (j : Int)) (cells slots : Nat) (hcs : cells ≤ 232 + j ∧ slots ≤ 11930 + 6 * j) (H : Heap) (locs : List Loc) (ls : Array Slot) (hS : St b C 232 M s H locs) (hl : lv_has ls 7 [(0, .ref scr), (1, .ref (b + 0)), (2, .ref (b + 191)), (3, .ref (b + 231)), (4, vI v4_)]) (hT : t_Law_law_L1046 xs L bk23 M v4_ = some 1) : W p l e room_1 s m #[Value.ref scr] below meth c H locs cells slots (lw_Z below #[Value.ref scr] s) (F0 m 1046 ls []) := by
  have hcs1 : cells ≤ 233 + j ∧ slots ≤ 11936 + 6 * j := ⟨by omega, by omega⟩
  unfold t_Law_law_L1046 at hT
  refine lv_aload_n F.hx F.hb d_Law_law_1046 rfl (lv_at hl 1 rfl) ?_
  refine lv_aload_n F.hx F.hb d_Law_law_1047 rfl (lv_at hl 0 rfl) ?_
  refine lv_iload F.hx F.hb d_Law_law_1048 (lv_at hl 4 rfl) ?_
  refine r_iconst F.hx F.hb d_Law_law_1050 ?_
  refine r_iadd F.hx F.hb d_Law_law_1051 ?_
  refine r_sld F hS hXs hsl hb (inr_w32 _) (law_ix hij hjL hL 1 (by decide) (by decide)).1 (law_ix hij hjL hL 1 (by decide) (by decide)).2 d_Law_law_1052 ?_
  refine lv_aload_n F.hx F.hb d_Law_law_1053 rfl (lv_at hl 0 rfl) ?_
  refine lv_iload F.hx F.hb d_Law_law_1054 (lv_at hl 4 rfl) ?_
  refine r_iconst F.hx F.hb d_Law_law_1056 ?_
  refine r_iadd F.hx F.hb d_Law_law_1057 ?_
  refine r_sld F hS hXs hsl hb (inr_w32 _) (law_ix hij hjL hL 2 (by decide) (by decide)).1 (law_ix hij hjL hL 2 (by decide) (by decide)).2 d_Law_law_1058 ?_
  refine lv_aload_n F.hx F.hb d_Law_law_1059 rfl (lv_at hl 0 rfl) ?_
  refine lv_iload F.hx F.hb d_Law_law_1060 (lv_at hl 4 rfl) ?_
  refine r_iconst F.hx F.hb d_Law_law_1062 ?_
  refine r_iadd F.hx F.hb d_Law_law_1063 ?_
  refine r_sld F hS hXs hsl hb (inr_w32 _) (law_ix hij hjL hL 3 (by decide) (by decide)).1 (law_ix hij hjL hL 3 (by decide) (by decide)).2 d_Law_law_1064 ?_
  obtain ⟨q148, hq148, hT⟩ := q_obind hT
  refine r_backI F hS (r_runV (k := 0) (N := 19) (T := T0) (As := [vI (xs ((w32 (v4_ + 1))).toNat).toInt, vI (xs ((w32 (v4_ + 2))).toNat).toInt, vI (xs ((w32 (v4_ + 3))).toNat).toInt]) F hS (show 0 < 232 by decide) (show shK 0 = 4 from rfl) rfl (c_WF_pushed l (Nat.le_of_ble_eq_true rfl) M (xs ((w32 (v4_ + 1))).toNat).toInt (xs ((w32 (v4_ + 2))).toNat).toInt (xs ((w32 (v4_ + 3))).toNat).toInt (q_inr_toInt _) (q_inr_toInt _) (q_inr_toInt _) _ hq148) gs_WardFallsLaw_118 hd_WF_pushed ⟨Nat.le_of_ble_eq_true rfl, Nat.le_of_ble_eq_true rfl⟩ rfl hl.1 (Nat.le_of_ble_eq_true rfl) (law_rc hcs1 hjL hL) rfl d_Law_law_1065) (fun H locs hS h149 => ?_)
  refine lv_aload_n F.hx F.hb d_Law_law_1068 rfl (lv_at hl 2 rfl) ?_
  refine lv_aload_n F.hx F.hb d_Law_law_1069 rfl (lv_at hl 0 rfl) ?_
  refine lv_iload F.hx F.hb d_Law_law_1070 (lv_at hl 4 rfl) ?_
  refine r_iconst F.hx F.hb d_Law_law_1072 ?_
  refine r_iadd F.hx F.hb d_Law_law_1073 ?_
  refine r_sld F hS hXs hsl hb (inr_w32 _) (law_ix hij hjL hL 1 (by decide) (by decide)).1 (law_ix hij hjL hL 1 (by decide) (by decide)).2 d_Law_law_1074 ?_
  refine lv_aload_n F.hx F.hb d_Law_law_1075 rfl (lv_at hl 0 rfl) ?_
  refine lv_iload F.hx F.hb d_Law_law_1076 (lv_at hl 4 rfl) ?_
  refine r_iconst F.hx F.hb d_Law_law_1078 ?_
  refine r_iadd F.hx F.hb d_Law_law_1079 ?_
  refine r_sld F hS hXs hsl hb (inr_w32 _) (law_ix hij hjL hL 2 (by decide) (by decide)).1 (law_ix hij hjL hL 2 (by decide) (by decide)).2 d_Law_law_1080 ?_
  refine lv_aload_n F.hx F.hb d_Law_law_1081 rfl (lv_at hl 0 rfl) ?_
  refine lv_iload F.hx F.hb d_Law_law_1082 (lv_at hl 4 rfl) ?_
  refine r_iconst F.hx F.hb d_Law_law_1084 ?_
  refine r_iadd F.hx F.hb d_Law_law_1085 ?_
  refine r_sld F hS hXs hsl hb (inr_w32 _) (law_ix hij hjL hL 3 (by decide) (by decide)).1 (law_ix hij hjL hL 3 (by decide) (by decide)).2 d_Law_law_1086 ?_
  obtain ⟨q150, hq150, hT⟩ := q_obind hT
  refine r_backI F hS (r_runV (k := 191) (N := 68) (T := T1) (As := [vI (xs ((w32 (v4_ + 1))).toNat).toInt, vI (xs ((w32 (v4_ + 2))).toNat).toInt, vI (xs ((w32 (v4_ + 3))).toNat).toInt]) F hS (show 191 < 232 by decide) (show shK 191 = 5 from rfl) rfl (c_MO_pushed l (Nat.le_of_ble_eq_true rfl) (q148.1) (xs ((w32 (v4_ + 1))).toNat).toInt (xs ((w32 (v4_ + 2))).toNat).toInt (xs ((w32 (v4_ + 3))).toNat).toInt (q_inr_toInt _) (q_inr_toInt _) (q_inr_toInt _) _ hq150) gs_WardFallsLaw_121 hd_MO_pushed ⟨Nat.le_of_ble_eq_true rfl, Nat.le_of_ble_eq_true rfl⟩ rfl hl.1 (Nat.le_of_ble_eq_true rfl) (law_rc hcs1 hjL hL) rfl d_Law_law_1087) (fun H locs hS h151 => ?_)
  refine r_icmp_eq (tgt := 1571) F.hx F.hb h149 h151 d_Law_law_1090 (by decide) (fun c152 => ?_) (fun c152 => ?_)
  · replace hT := (if_pos c152).symm.trans hT
    exact k_Law_law_L1571 l hlf hL F hX hXs hsl hb hlk hr bk23 j hjL hbk23 (q150.1) v4_ hv4_ hij _ _ hcs1 _ _ _ hS (lv_sub hl [0, 1, 2, 3, 4] rfl) hT
  · replace hT := (if_neg c152).symm.trans hT
    refine r_iconst F.hx F.hb d_Law_law_1093 ?_
    exact absurd hT (by decide)
set_option maxHeartbeats 16000000 in
set_option maxRecDepth 100000 in
theorem k_Law_law_L1095 (l : Launch) (hlf : l.stackTraces = false) {p : Program} {e : Env} {s : State} {m : MethodId} {below : List Frame} {meth : Method} {c : Code} {b : Nat} {C : CT} {scr L : Nat} {xs : Nat → Int32} (hL : L ≤ 3072) (F : Cx p m c b_Law_law 7 s ([.ref scr] : List Value).toArray "WardFallsLaw" C 232 232) (hX : EX b s) (hXs : va_X scr L xs s s.heap) (hsl : scr < s.heap.size) (hb : b = s.heap.size) (hlk : meth.locks = false) (hr : meth.sig.returnType = ret) (bk23 : Mem → Int → Option Int) (j : Nat) (hjL : 6 * j + 6 ≤ L) (hbk23 : ∀ (M : Mem) (v4_ : Int) (hv4_ : InR v4_) (hij : v4_ = 6 * ((j + 1 : Nat) : Int)) (cells slots : Nat) (hcs : cells ≤ 232 + (j + 1) ∧ slots ≤ 11930 + 6 * (j + 1)) (H : Heap) (locs : List Loc) (ls : Array Slot), St b C 232 M s H locs → lv_has ls 7 [(0, .ref scr), (1, .ref (b + 0)), (2, .ref (b + 191)), (3, .ref (b + 231)), (4, vI v4_)] → bk23 M v4_ = some 1 → W p l e room_1 s m #[Value.ref scr] below meth c H locs cells slots (lw_Z below #[Value.ref scr] s) (F0 m 23 ls [])) (M : Mem) (v4_ : Int) (hv4_ : InR v4_) (hij : v4_ = 6 * (j : Int)) (cells slots : Nat) (hcs : cells ≤ 232 + j ∧ slots ≤ 11930 + 6 * j) (H : Heap) (locs : List Loc) (ls : Array Slot) (hS : St b C 232 M s H locs) (hl : lv_has ls 7 [(0, .ref scr), (1, .ref (b + 0)), (2, .ref (b + 191)), (3, .ref (b + 231)), (4, vI v4_)]) (hT : t_Law_law_L1095 xs L bk23 M v4_ = some 1) : W p l e room_1 s m #[Value.ref scr] below meth c H locs cells slots (lw_Z below #[Value.ref scr] s) (F0 m 1095 ls []) := by
  have hcs1 : cells ≤ 233 + j ∧ slots ≤ 11936 + 6 * j := ⟨by omega, by omega⟩
  unfold t_Law_law_L1095 at hT
  refine lv_aload_n F.hx F.hb d_Law_law_1095 rfl (lv_at hl 1 rfl) ?_
  refine lv_aload_n F.hx F.hb d_Law_law_1096 rfl (lv_at hl 0 rfl) ?_
  refine lv_iload F.hx F.hb d_Law_law_1097 (lv_at hl 4 rfl) ?_
  refine r_iconst F.hx F.hb d_Law_law_1099 ?_
  refine r_iadd F.hx F.hb d_Law_law_1100 ?_
  refine r_sld F hS hXs hsl hb (inr_w32 _) (law_ix hij hjL hL 1 (by decide) (by decide)).1 (law_ix hij hjL hL 1 (by decide) (by decide)).2 d_Law_law_1101 ?_
  refine lv_aload_n F.hx F.hb d_Law_law_1102 rfl (lv_at hl 0 rfl) ?_
  refine lv_iload F.hx F.hb d_Law_law_1103 (lv_at hl 4 rfl) ?_
  refine r_iconst F.hx F.hb d_Law_law_1105 ?_
  refine r_iadd F.hx F.hb d_Law_law_1106 ?_
  refine r_sld F hS hXs hsl hb (inr_w32 _) (law_ix hij hjL hL 2 (by decide) (by decide)).1 (law_ix hij hjL hL 2 (by decide) (by decide)).2 d_Law_law_1107 ?_
  obtain ⟨q153, hq153, hT⟩ := q_obind hT
  refine r_backI F hS (r_runV (k := 0) (N := 19) (T := T0) (As := [vI (xs ((w32 (v4_ + 1))).toNat).toInt, vI (xs ((w32 (v4_ + 2))).toNat).toInt]) F hS (show 0 < 232 by decide) (show shK 0 = 4 from rfl) rfl (c_WF_war l (Nat.le_of_ble_eq_true rfl) M (xs ((w32 (v4_ + 1))).toNat).toInt (xs ((w32 (v4_ + 2))).toNat).toInt (q_inr_toInt _) (q_inr_toInt _) _ hq153) gs_WardFallsLaw_122 hd_WF_war ⟨Nat.le_of_ble_eq_true rfl, Nat.le_of_ble_eq_true rfl⟩ rfl hl.1 (Nat.le_of_ble_eq_true rfl) (law_rc hcs1 hjL hL) rfl d_Law_law_1108) (fun H locs hS h154 => ?_)
  refine lv_aload_n F.hx F.hb d_Law_law_1111 rfl (lv_at hl 2 rfl) ?_
  refine lv_aload_n F.hx F.hb d_Law_law_1112 rfl (lv_at hl 0 rfl) ?_
  refine lv_iload F.hx F.hb d_Law_law_1113 (lv_at hl 4 rfl) ?_
  refine r_iconst F.hx F.hb d_Law_law_1115 ?_
  refine r_iadd F.hx F.hb d_Law_law_1116 ?_
  refine r_sld F hS hXs hsl hb (inr_w32 _) (law_ix hij hjL hL 1 (by decide) (by decide)).1 (law_ix hij hjL hL 1 (by decide) (by decide)).2 d_Law_law_1117 ?_
  refine lv_aload_n F.hx F.hb d_Law_law_1118 rfl (lv_at hl 0 rfl) ?_
  refine lv_iload F.hx F.hb d_Law_law_1119 (lv_at hl 4 rfl) ?_
  refine r_iconst F.hx F.hb d_Law_law_1121 ?_
  refine r_iadd F.hx F.hb d_Law_law_1122 ?_
  refine r_sld F hS hXs hsl hb (inr_w32 _) (law_ix hij hjL hL 2 (by decide) (by decide)).1 (law_ix hij hjL hL 2 (by decide) (by decide)).2 d_Law_law_1123 ?_
  obtain ⟨q155, hq155, hT⟩ := q_obind hT
  refine r_backI F hS (r_runV (k := 191) (N := 68) (T := T1) (As := [vI (xs ((w32 (v4_ + 1))).toNat).toInt, vI (xs ((w32 (v4_ + 2))).toNat).toInt]) F hS (show 191 < 232 by decide) (show shK 191 = 5 from rfl) rfl (c_MO_war l (Nat.le_of_ble_eq_true rfl) (q153.1) (xs ((w32 (v4_ + 1))).toNat).toInt (xs ((w32 (v4_ + 2))).toNat).toInt (q_inr_toInt _) (q_inr_toInt _) _ hq155) gs_WardFallsLaw_125 hd_MO_war ⟨Nat.le_of_ble_eq_true rfl, Nat.le_of_ble_eq_true rfl⟩ rfl hl.1 (Nat.le_of_ble_eq_true rfl) (law_rc hcs1 hjL hL) rfl d_Law_law_1124) (fun H locs hS h156 => ?_)
  refine r_icmp_eq (tgt := 1571) F.hx F.hb h154 h156 d_Law_law_1127 (by decide) (fun c157 => ?_) (fun c157 => ?_)
  · replace hT := (if_pos c157).symm.trans hT
    exact k_Law_law_L1571 l hlf hL F hX hXs hsl hb hlk hr bk23 j hjL hbk23 (q155.1) v4_ hv4_ hij _ _ hcs1 _ _ _ hS (lv_sub hl [0, 1, 2, 3, 4] rfl) hT
  · replace hT := (if_neg c157).symm.trans hT
    refine r_iconst F.hx F.hb d_Law_law_1130 ?_
    exact absurd hT (by decide)
set_option maxHeartbeats 16000000 in
set_option maxRecDepth 100000 in
theorem k_Law_law_L1132 (l : Launch) (hlf : l.stackTraces = false) {p : Program} {e : Env} {s : State} {m : MethodId} {below : List Frame} {meth : Method} {c : Code} {b : Nat} {C : CT} {scr L : Nat} {xs : Nat → Int32} (hL : L ≤ 3072) (F : Cx p m c b_Law_law 7 s ([.ref scr] : List Value).toArray "WardFallsLaw" C 232 232) (hX : EX b s) (hXs : va_X scr L xs s s.heap) (hsl : scr < s.heap.size) (hb : b = s.heap.size) (hlk : meth.locks = false) (hr : meth.sig.returnType = ret) (bk23 : Mem → Int → Option Int) (j : Nat) (hjL : 6 * j + 6 ≤ L) (hbk23 : ∀ (M : Mem) (v4_ : Int) (hv4_ : InR v4_) (hij : v4_ = 6 * ((j + 1 : Nat) : Int)) (cells slots : Nat) (hcs : cells ≤ 232 + (j + 1) ∧ slots ≤ 11930 + 6 * (j + 1)) (H : Heap) (locs : List Loc) (ls : Array Slot), St b C 232 M s H locs → lv_has ls 7 [(0, .ref scr), (1, .ref (b + 0)), (2, .ref (b + 191)), (3, .ref (b + 231)), (4, vI v4_)] → bk23 M v4_ = some 1 → W p l e room_1 s m #[Value.ref scr] below meth c H locs cells slots (lw_Z below #[Value.ref scr] s) (F0 m 23 ls [])) (M : Mem) (v4_ : Int) (hv4_ : InR v4_) (hij : v4_ = 6 * (j : Int)) (cells slots : Nat) (hcs : cells ≤ 232 + j ∧ slots ≤ 11930 + 6 * j) (H : Heap) (locs : List Loc) (ls : Array Slot) (hS : St b C 232 M s H locs) (hl : lv_has ls 7 [(0, .ref scr), (1, .ref (b + 0)), (2, .ref (b + 191)), (3, .ref (b + 231)), (4, vI v4_)]) (hT : t_Law_law_L1132 xs L bk23 M v4_ = some 1) : W p l e room_1 s m #[Value.ref scr] below meth c H locs cells slots (lw_Z below #[Value.ref scr] s) (F0 m 1132 ls []) := by
  have hcs1 : cells ≤ 233 + j ∧ slots ≤ 11936 + 6 * j := ⟨by omega, by omega⟩
  unfold t_Law_law_L1132 at hT
  refine lv_aload_n F.hx F.hb d_Law_law_1132 rfl (lv_at hl 1 rfl) ?_
  obtain ⟨q158, hq158, hT⟩ := q_obind hT
  refine r_backL F hS (r_runV (k := 0) (N := 19) (T := T0) (As := []) F hS (show 0 < 232 by decide) (show shK 0 = 4 from rfl) rfl (c_WF_nets l (Nat.le_of_ble_eq_true rfl) M _ hq158) gs_WardFallsLaw_126 hd_WF_nets ⟨Nat.le_of_ble_eq_true rfl, Nat.le_of_ble_eq_true rfl⟩ rfl hl.1 (Nat.le_of_ble_eq_true rfl) (law_rc hcs1 hjL hL) rfl d_Law_law_1133) (fun H locs hS => ?_)
  refine lv_aload_n F.hx F.hb d_Law_law_1136 rfl (lv_at hl 2 rfl) ?_
  obtain ⟨q160, hq160, hT⟩ := q_obind hT
  refine r_backL F hS (r_runV (k := 191) (N := 68) (T := T1) (As := []) F hS (show 191 < 232 by decide) (show shK 191 = 5 from rfl) rfl (c_MO_nets l (Nat.le_of_ble_eq_true rfl) M _ hq160) gs_WardFallsLaw_130 hd_MO_nets ⟨Nat.le_of_ble_eq_true rfl, Nat.le_of_ble_eq_true rfl⟩ rfl hl.1 (Nat.le_of_ble_eq_true rfl) (law_rc hcs1 hjL hL) rfl d_Law_law_1137) (fun H locs hS => ?_)
  refine W.lcmp F.hx F.hb d_Law_law_1140 ?_
  refine r_lif_eq (tgt := 1571) F.hx F.hb  d_Law_law_1141 (by decide) (fun c162 => ?_) (fun c162 => ?_)
  · replace hT := (if_pos c162).symm.trans hT
    exact k_Law_law_L1571 l hlf hL F hX hXs hsl hb hlk hr bk23 j hjL hbk23 (q160.1) v4_ hv4_ hij _ _ hcs1 _ _ _ hS (lv_sub hl [0, 1, 2, 3, 4] rfl) hT
  · replace hT := (if_neg c162).symm.trans hT
    refine r_iconst F.hx F.hb d_Law_law_1144 ?_
    exact absurd hT (by decide)
set_option maxHeartbeats 16000000 in
set_option maxRecDepth 100000 in
theorem k_Law_law_L1146 (l : Launch) (hlf : l.stackTraces = false) {p : Program} {e : Env} {s : State} {m : MethodId} {below : List Frame} {meth : Method} {c : Code} {b : Nat} {C : CT} {scr L : Nat} {xs : Nat → Int32} (hL : L ≤ 3072) (F : Cx p m c b_Law_law 7 s ([.ref scr] : List Value).toArray "WardFallsLaw" C 232 232) (hX : EX b s) (hXs : va_X scr L xs s s.heap) (hsl : scr < s.heap.size) (hb : b = s.heap.size) (hlk : meth.locks = false) (hr : meth.sig.returnType = ret) (bk23 : Mem → Int → Option Int) (j : Nat) (hjL : 6 * j + 6 ≤ L) (hbk23 : ∀ (M : Mem) (v4_ : Int) (hv4_ : InR v4_) (hij : v4_ = 6 * ((j + 1 : Nat) : Int)) (cells slots : Nat) (hcs : cells ≤ 232 + (j + 1) ∧ slots ≤ 11930 + 6 * (j + 1)) (H : Heap) (locs : List Loc) (ls : Array Slot), St b C 232 M s H locs → lv_has ls 7 [(0, .ref scr), (1, .ref (b + 0)), (2, .ref (b + 191)), (3, .ref (b + 231)), (4, vI v4_)] → bk23 M v4_ = some 1 → W p l e room_1 s m #[Value.ref scr] below meth c H locs cells slots (lw_Z below #[Value.ref scr] s) (F0 m 23 ls [])) (M : Mem) (v4_ : Int) (hv4_ : InR v4_) (hij : v4_ = 6 * (j : Int)) (cells slots : Nat) (hcs : cells ≤ 232 + j ∧ slots ≤ 11930 + 6 * j) (H : Heap) (locs : List Loc) (ls : Array Slot) (hS : St b C 232 M s H locs) (hl : lv_has ls 7 [(0, .ref scr), (1, .ref (b + 0)), (2, .ref (b + 191)), (3, .ref (b + 231)), (4, vI v4_)]) (hT : t_Law_law_L1146 xs L bk23 M v4_ = some 1) : W p l e room_1 s m #[Value.ref scr] below meth c H locs cells slots (lw_Z below #[Value.ref scr] s) (F0 m 1146 ls []) := by
  have hcs1 : cells ≤ 233 + j ∧ slots ≤ 11936 + 6 * j := ⟨by omega, by omega⟩
  unfold t_Law_law_L1146 at hT
  refine lv_aload_n F.hx F.hb d_Law_law_1146 rfl (lv_at hl 1 rfl) ?_
  refine lv_aload_n F.hx F.hb d_Law_law_1147 rfl (lv_at hl 0 rfl) ?_
  refine lv_iload F.hx F.hb d_Law_law_1148 (lv_at hl 4 rfl) ?_
  refine r_iconst F.hx F.hb d_Law_law_1150 ?_
  refine r_iadd F.hx F.hb d_Law_law_1151 ?_
  refine r_sld F hS hXs hsl hb (inr_w32 _) (law_ix hij hjL hL 1 (by decide) (by decide)).1 (law_ix hij hjL hL 1 (by decide) (by decide)).2 d_Law_law_1152 ?_
  obtain ⟨q163, hq163, hT⟩ := q_obind hT
  refine r_backI F hS (r_runV (k := 0) (N := 19) (T := T0) (As := [vI (xs ((w32 (v4_ + 1))).toNat).toInt]) F hS (show 0 < 232 by decide) (show shK 0 = 4 from rfl) rfl (c_WF_clock l (Nat.le_of_ble_eq_true rfl) M (xs ((w32 (v4_ + 1))).toNat).toInt (q_inr_toInt _) _ hq163) gs_WardFallsLaw_131 hd_WF_clock ⟨Nat.le_of_ble_eq_true rfl, Nat.le_of_ble_eq_true rfl⟩ rfl hl.1 (Nat.le_of_ble_eq_true rfl) (law_rc hcs1 hjL hL) rfl d_Law_law_1153) (fun H locs hS h164 => ?_)
  refine lv_aload_n F.hx F.hb d_Law_law_1156 rfl (lv_at hl 2 rfl) ?_
  refine lv_aload_n F.hx F.hb d_Law_law_1157 rfl (lv_at hl 0 rfl) ?_
  refine lv_iload F.hx F.hb d_Law_law_1158 (lv_at hl 4 rfl) ?_
  refine r_iconst F.hx F.hb d_Law_law_1160 ?_
  refine r_iadd F.hx F.hb d_Law_law_1161 ?_
  refine r_sld F hS hXs hsl hb (inr_w32 _) (law_ix hij hjL hL 1 (by decide) (by decide)).1 (law_ix hij hjL hL 1 (by decide) (by decide)).2 d_Law_law_1162 ?_
  obtain ⟨q165, hq165, hT⟩ := q_obind hT
  refine r_backI F hS (r_runV (k := 191) (N := 68) (T := T1) (As := [vI (xs ((w32 (v4_ + 1))).toNat).toInt]) F hS (show 191 < 232 by decide) (show shK 191 = 5 from rfl) rfl (c_MO_clock l (Nat.le_of_ble_eq_true rfl) (q163.1) (xs ((w32 (v4_ + 1))).toNat).toInt (q_inr_toInt _) _ hq165) gs_WardFallsLaw_134 hd_MO_clock ⟨Nat.le_of_ble_eq_true rfl, Nat.le_of_ble_eq_true rfl⟩ rfl hl.1 (Nat.le_of_ble_eq_true rfl) (law_rc hcs1 hjL hL) rfl d_Law_law_1163) (fun H locs hS h166 => ?_)
  refine r_icmp_eq (tgt := 1571) F.hx F.hb h164 h166 d_Law_law_1166 (by decide) (fun c167 => ?_) (fun c167 => ?_)
  · replace hT := (if_pos c167).symm.trans hT
    exact k_Law_law_L1571 l hlf hL F hX hXs hsl hb hlk hr bk23 j hjL hbk23 (q165.1) v4_ hv4_ hij _ _ hcs1 _ _ _ hS (lv_sub hl [0, 1, 2, 3, 4] rfl) hT
  · replace hT := (if_neg c167).symm.trans hT
    refine r_iconst F.hx F.hb d_Law_law_1169 ?_
    exact absurd hT (by decide)
set_option maxHeartbeats 16000000 in
set_option maxRecDepth 100000 in
theorem k_Law_law_L1171 (l : Launch) (hlf : l.stackTraces = false) {p : Program} {e : Env} {s : State} {m : MethodId} {below : List Frame} {meth : Method} {c : Code} {b : Nat} {C : CT} {scr L : Nat} {xs : Nat → Int32} (hL : L ≤ 3072) (F : Cx p m c b_Law_law 7 s ([.ref scr] : List Value).toArray "WardFallsLaw" C 232 232) (hX : EX b s) (hXs : va_X scr L xs s s.heap) (hsl : scr < s.heap.size) (hb : b = s.heap.size) (hlk : meth.locks = false) (hr : meth.sig.returnType = ret) (bk23 : Mem → Int → Option Int) (j : Nat) (hjL : 6 * j + 6 ≤ L) (hbk23 : ∀ (M : Mem) (v4_ : Int) (hv4_ : InR v4_) (hij : v4_ = 6 * ((j + 1 : Nat) : Int)) (cells slots : Nat) (hcs : cells ≤ 232 + (j + 1) ∧ slots ≤ 11930 + 6 * (j + 1)) (H : Heap) (locs : List Loc) (ls : Array Slot), St b C 232 M s H locs → lv_has ls 7 [(0, .ref scr), (1, .ref (b + 0)), (2, .ref (b + 191)), (3, .ref (b + 231)), (4, vI v4_)] → bk23 M v4_ = some 1 → W p l e room_1 s m #[Value.ref scr] below meth c H locs cells slots (lw_Z below #[Value.ref scr] s) (F0 m 23 ls [])) (M : Mem) (v4_ : Int) (hv4_ : InR v4_) (hij : v4_ = 6 * (j : Int)) (cells slots : Nat) (hcs : cells ≤ 232 + j ∧ slots ≤ 11930 + 6 * j) (H : Heap) (locs : List Loc) (ls : Array Slot) (hS : St b C 232 M s H locs) (hl : lv_has ls 7 [(0, .ref scr), (1, .ref (b + 0)), (2, .ref (b + 191)), (3, .ref (b + 231)), (4, vI v4_)]) (hT : t_Law_law_L1171 xs L bk23 M v4_ = some 1) : W p l e room_1 s m #[Value.ref scr] below meth c H locs cells slots (lw_Z below #[Value.ref scr] s) (F0 m 1171 ls []) := by
  have hcs1 : cells ≤ 233 + j ∧ slots ≤ 11936 + 6 * j := ⟨by omega, by omega⟩
  unfold t_Law_law_L1171 at hT
  refine lv_aload_n F.hx F.hb d_Law_law_1171 rfl (lv_at hl 1 rfl) ?_
  obtain ⟨q168, hq168, hT⟩ := q_obind hT
  refine r_backI F hS (r_runV (k := 0) (N := 19) (T := T0) (As := []) F hS (show 0 < 232 by decide) (show shK 0 = 4 from rfl) rfl (c_WF_stays l (Nat.le_of_ble_eq_true rfl) M _ hq168) gs_WardFallsLaw_135 hd_WF_stays ⟨Nat.le_of_ble_eq_true rfl, Nat.le_of_ble_eq_true rfl⟩ rfl hl.1 (Nat.le_of_ble_eq_true rfl) (law_rc hcs1 hjL hL) rfl d_Law_law_1172) (fun H locs hS h169 => ?_)
  refine lv_aload_n F.hx F.hb d_Law_law_1175 rfl (lv_at hl 2 rfl) ?_
  obtain ⟨q170, hq170, hT⟩ := q_obind hT
  refine r_backI F hS (r_runV (k := 191) (N := 68) (T := T1) (As := []) F hS (show 191 < 232 by decide) (show shK 191 = 5 from rfl) rfl (c_MO_stays l (Nat.le_of_ble_eq_true rfl) (q168.1) _ hq170) gs_WardFallsLaw_138 hd_MO_stays ⟨Nat.le_of_ble_eq_true rfl, Nat.le_of_ble_eq_true rfl⟩ rfl hl.1 (Nat.le_of_ble_eq_true rfl) (law_rc hcs1 hjL hL) rfl d_Law_law_1176) (fun H locs hS h171 => ?_)
  refine r_icmp_eq (tgt := 1571) F.hx F.hb h169 h171 d_Law_law_1179 (by decide) (fun c172 => ?_) (fun c172 => ?_)
  · replace hT := (if_pos c172).symm.trans hT
    exact k_Law_law_L1571 l hlf hL F hX hXs hsl hb hlk hr bk23 j hjL hbk23 (q170.1) v4_ hv4_ hij _ _ hcs1 _ _ _ hS (lv_sub hl [0, 1, 2, 3, 4] rfl) hT
  · replace hT := (if_neg c172).symm.trans hT
    refine r_iconst F.hx F.hb d_Law_law_1182 ?_
    exact absurd hT (by decide)
set_option maxHeartbeats 16000000 in
set_option maxRecDepth 100000 in
theorem k_Law_law_L1184 (l : Launch) (hlf : l.stackTraces = false) {p : Program} {e : Env} {s : State} {m : MethodId} {below : List Frame} {meth : Method} {c : Code} {b : Nat} {C : CT} {scr L : Nat} {xs : Nat → Int32} (hL : L ≤ 3072) (F : Cx p m c b_Law_law 7 s ([.ref scr] : List Value).toArray "WardFallsLaw" C 232 232) (hX : EX b s) (hXs : va_X scr L xs s s.heap) (hsl : scr < s.heap.size) (hb : b = s.heap.size) (hlk : meth.locks = false) (hr : meth.sig.returnType = ret) (bk23 : Mem → Int → Option Int) (j : Nat) (hjL : 6 * j + 6 ≤ L) (hbk23 : ∀ (M : Mem) (v4_ : Int) (hv4_ : InR v4_) (hij : v4_ = 6 * ((j + 1 : Nat) : Int)) (cells slots : Nat) (hcs : cells ≤ 232 + (j + 1) ∧ slots ≤ 11930 + 6 * (j + 1)) (H : Heap) (locs : List Loc) (ls : Array Slot), St b C 232 M s H locs → lv_has ls 7 [(0, .ref scr), (1, .ref (b + 0)), (2, .ref (b + 191)), (3, .ref (b + 231)), (4, vI v4_)] → bk23 M v4_ = some 1 → W p l e room_1 s m #[Value.ref scr] below meth c H locs cells slots (lw_Z below #[Value.ref scr] s) (F0 m 23 ls [])) (M : Mem) (v4_ : Int) (hv4_ : InR v4_) (hij : v4_ = 6 * (j : Int)) (cells slots : Nat) (hcs : cells ≤ 232 + j ∧ slots ≤ 11930 + 6 * j) (H : Heap) (locs : List Loc) (ls : Array Slot) (hS : St b C 232 M s H locs) (hl : lv_has ls 7 [(0, .ref scr), (1, .ref (b + 0)), (2, .ref (b + 191)), (3, .ref (b + 231)), (4, vI v4_)]) (hT : t_Law_law_L1184 xs L bk23 M v4_ = some 1) : W p l e room_1 s m #[Value.ref scr] below meth c H locs cells slots (lw_Z below #[Value.ref scr] s) (F0 m 1184 ls []) := by
  have hcs1 : cells ≤ 233 + j ∧ slots ≤ 11936 + 6 * j := ⟨by omega, by omega⟩
  unfold t_Law_law_L1184 at hT
  refine lv_aload_n F.hx F.hb d_Law_law_1184 rfl (lv_at hl 1 rfl) ?_
  refine lv_aload_n F.hx F.hb d_Law_law_1185 rfl (lv_at hl 0 rfl) ?_
  refine lv_iload F.hx F.hb d_Law_law_1186 (lv_at hl 4 rfl) ?_
  refine r_iconst F.hx F.hb d_Law_law_1188 ?_
  refine r_iadd F.hx F.hb d_Law_law_1189 ?_
  refine r_sld F hS hXs hsl hb (inr_w32 _) (law_ix hij hjL hL 1 (by decide) (by decide)).1 (law_ix hij hjL hL 1 (by decide) (by decide)).2 d_Law_law_1190 ?_
  obtain ⟨q173, hq173, hT⟩ := q_obind hT
  refine r_backI F hS (r_runV (k := 0) (N := 19) (T := T0) (As := [vI (xs ((w32 (v4_ + 1))).toNat).toInt]) F hS (show 0 < 232 by decide) (show shK 0 = 4 from rfl) rfl (c_WF_stay l (Nat.le_of_ble_eq_true rfl) M (xs ((w32 (v4_ + 1))).toNat).toInt (q_inr_toInt _) _ hq173) gs_WardFallsLaw_139 hd_WF_stay ⟨Nat.le_of_ble_eq_true rfl, Nat.le_of_ble_eq_true rfl⟩ rfl hl.1 (Nat.le_of_ble_eq_true rfl) (law_rc hcs1 hjL hL) rfl d_Law_law_1191) (fun H locs hS h174 => ?_)
  refine lv_aload_n F.hx F.hb d_Law_law_1194 rfl (lv_at hl 2 rfl) ?_
  refine lv_aload_n F.hx F.hb d_Law_law_1195 rfl (lv_at hl 0 rfl) ?_
  refine lv_iload F.hx F.hb d_Law_law_1196 (lv_at hl 4 rfl) ?_
  refine r_iconst F.hx F.hb d_Law_law_1198 ?_
  refine r_iadd F.hx F.hb d_Law_law_1199 ?_
  refine r_sld F hS hXs hsl hb (inr_w32 _) (law_ix hij hjL hL 1 (by decide) (by decide)).1 (law_ix hij hjL hL 1 (by decide) (by decide)).2 d_Law_law_1200 ?_
  obtain ⟨q175, hq175, hT⟩ := q_obind hT
  refine r_backI F hS (r_runV (k := 191) (N := 68) (T := T1) (As := [vI (xs ((w32 (v4_ + 1))).toNat).toInt]) F hS (show 191 < 232 by decide) (show shK 191 = 5 from rfl) rfl (c_MO_stay l (Nat.le_of_ble_eq_true rfl) (q173.1) (xs ((w32 (v4_ + 1))).toNat).toInt (q_inr_toInt _) _ hq175) gs_WardFallsLaw_142 hd_MO_stay ⟨Nat.le_of_ble_eq_true rfl, Nat.le_of_ble_eq_true rfl⟩ rfl hl.1 (Nat.le_of_ble_eq_true rfl) (law_rc hcs1 hjL hL) rfl d_Law_law_1201) (fun H locs hS h176 => ?_)
  refine r_icmp_eq (tgt := 1571) F.hx F.hb h174 h176 d_Law_law_1204 (by decide) (fun c177 => ?_) (fun c177 => ?_)
  · replace hT := (if_pos c177).symm.trans hT
    exact k_Law_law_L1571 l hlf hL F hX hXs hsl hb hlk hr bk23 j hjL hbk23 (q175.1) v4_ hv4_ hij _ _ hcs1 _ _ _ hS (lv_sub hl [0, 1, 2, 3, 4] rfl) hT
  · replace hT := (if_neg c177).symm.trans hT
    refine r_iconst F.hx F.hb d_Law_law_1207 ?_
    exact absurd hT (by decide)
set_option maxHeartbeats 16000000 in
set_option maxRecDepth 100000 in
theorem k_Law_law_L1209 (l : Launch) (hlf : l.stackTraces = false) {p : Program} {e : Env} {s : State} {m : MethodId} {below : List Frame} {meth : Method} {c : Code} {b : Nat} {C : CT} {scr L : Nat} {xs : Nat → Int32} (hL : L ≤ 3072) (F : Cx p m c b_Law_law 7 s ([.ref scr] : List Value).toArray "WardFallsLaw" C 232 232) (hX : EX b s) (hXs : va_X scr L xs s s.heap) (hsl : scr < s.heap.size) (hb : b = s.heap.size) (hlk : meth.locks = false) (hr : meth.sig.returnType = ret) (bk23 : Mem → Int → Option Int) (j : Nat) (hjL : 6 * j + 6 ≤ L) (hbk23 : ∀ (M : Mem) (v4_ : Int) (hv4_ : InR v4_) (hij : v4_ = 6 * ((j + 1 : Nat) : Int)) (cells slots : Nat) (hcs : cells ≤ 232 + (j + 1) ∧ slots ≤ 11930 + 6 * (j + 1)) (H : Heap) (locs : List Loc) (ls : Array Slot), St b C 232 M s H locs → lv_has ls 7 [(0, .ref scr), (1, .ref (b + 0)), (2, .ref (b + 191)), (3, .ref (b + 231)), (4, vI v4_)] → bk23 M v4_ = some 1 → W p l e room_1 s m #[Value.ref scr] below meth c H locs cells slots (lw_Z below #[Value.ref scr] s) (F0 m 23 ls [])) (M : Mem) (v4_ : Int) (hv4_ : InR v4_) (hij : v4_ = 6 * (j : Int)) (cells slots : Nat) (hcs : cells ≤ 232 + j ∧ slots ≤ 11930 + 6 * j) (H : Heap) (locs : List Loc) (ls : Array Slot) (hS : St b C 232 M s H locs) (hl : lv_has ls 7 [(0, .ref scr), (1, .ref (b + 0)), (2, .ref (b + 191)), (3, .ref (b + 231)), (4, vI v4_)]) (hT : t_Law_law_L1209 xs L bk23 M v4_ = some 1) : W p l e room_1 s m #[Value.ref scr] below meth c H locs cells slots (lw_Z below #[Value.ref scr] s) (F0 m 1209 ls []) := by
  have hcs1 : cells ≤ 233 + j ∧ slots ≤ 11936 + 6 * j := ⟨by omega, by omega⟩
  unfold t_Law_law_L1209 at hT
  refine lv_aload_n F.hx F.hb d_Law_law_1209 rfl (lv_at hl 1 rfl) ?_
  refine lv_aload_n F.hx F.hb d_Law_law_1210 rfl (lv_at hl 0 rfl) ?_
  refine lv_iload F.hx F.hb d_Law_law_1211 (lv_at hl 4 rfl) ?_
  refine r_iconst F.hx F.hb d_Law_law_1213 ?_
  refine r_iadd F.hx F.hb d_Law_law_1214 ?_
  refine r_sld F hS hXs hsl hb (inr_w32 _) (law_ix hij hjL hL 1 (by decide) (by decide)).1 (law_ix hij hjL hL 1 (by decide) (by decide)).2 d_Law_law_1215 ?_
  obtain ⟨q178, hq178, hT⟩ := q_obind hT
  refine r_backI F hS (r_runV (k := 0) (N := 19) (T := T0) (As := [vI (xs ((w32 (v4_ + 1))).toNat).toInt]) F hS (show 0 < 232 by decide) (show shK 0 = 4 from rfl) rfl (c_WF_treaty l (Nat.le_of_ble_eq_true rfl) M (xs ((w32 (v4_ + 1))).toNat).toInt (q_inr_toInt _) _ hq178) gs_WardFallsLaw_143 hd_WF_treaty ⟨Nat.le_of_ble_eq_true rfl, Nat.le_of_ble_eq_true rfl⟩ rfl hl.1 (Nat.le_of_ble_eq_true rfl) (law_rc hcs1 hjL hL) rfl d_Law_law_1216) (fun H locs hS h179 => ?_)
  refine lv_aload_n F.hx F.hb d_Law_law_1219 rfl (lv_at hl 2 rfl) ?_
  refine lv_aload_n F.hx F.hb d_Law_law_1220 rfl (lv_at hl 0 rfl) ?_
  refine lv_iload F.hx F.hb d_Law_law_1221 (lv_at hl 4 rfl) ?_
  refine r_iconst F.hx F.hb d_Law_law_1223 ?_
  refine r_iadd F.hx F.hb d_Law_law_1224 ?_
  refine r_sld F hS hXs hsl hb (inr_w32 _) (law_ix hij hjL hL 1 (by decide) (by decide)).1 (law_ix hij hjL hL 1 (by decide) (by decide)).2 d_Law_law_1225 ?_
  obtain ⟨q180, hq180, hT⟩ := q_obind hT
  refine r_backI F hS (r_runV (k := 191) (N := 68) (T := T1) (As := [vI (xs ((w32 (v4_ + 1))).toNat).toInt]) F hS (show 191 < 232 by decide) (show shK 191 = 5 from rfl) rfl (c_MO_treaty l (Nat.le_of_ble_eq_true rfl) (q178.1) (xs ((w32 (v4_ + 1))).toNat).toInt (q_inr_toInt _) _ hq180) gs_WardFallsLaw_146 hd_MO_treaty ⟨Nat.le_of_ble_eq_true rfl, Nat.le_of_ble_eq_true rfl⟩ rfl hl.1 (Nat.le_of_ble_eq_true rfl) (law_rc hcs1 hjL hL) rfl d_Law_law_1226) (fun H locs hS h181 => ?_)
  refine r_icmp_eq (tgt := 1571) F.hx F.hb h179 h181 d_Law_law_1229 (by decide) (fun c182 => ?_) (fun c182 => ?_)
  · replace hT := (if_pos c182).symm.trans hT
    exact k_Law_law_L1571 l hlf hL F hX hXs hsl hb hlk hr bk23 j hjL hbk23 (q180.1) v4_ hv4_ hij _ _ hcs1 _ _ _ hS (lv_sub hl [0, 1, 2, 3, 4] rfl) hT
  · replace hT := (if_neg c182).symm.trans hT
    refine r_iconst F.hx F.hb d_Law_law_1232 ?_
    exact absurd hT (by decide)
set_option maxHeartbeats 16000000 in
set_option maxRecDepth 100000 in
theorem k_Law_law_L1234 (l : Launch) (hlf : l.stackTraces = false) {p : Program} {e : Env} {s : State} {m : MethodId} {below : List Frame} {meth : Method} {c : Code} {b : Nat} {C : CT} {scr L : Nat} {xs : Nat → Int32} (hL : L ≤ 3072) (F : Cx p m c b_Law_law 7 s ([.ref scr] : List Value).toArray "WardFallsLaw" C 232 232) (hX : EX b s) (hXs : va_X scr L xs s s.heap) (hsl : scr < s.heap.size) (hb : b = s.heap.size) (hlk : meth.locks = false) (hr : meth.sig.returnType = ret) (bk23 : Mem → Int → Option Int) (j : Nat) (hjL : 6 * j + 6 ≤ L) (hbk23 : ∀ (M : Mem) (v4_ : Int) (hv4_ : InR v4_) (hij : v4_ = 6 * ((j + 1 : Nat) : Int)) (cells slots : Nat) (hcs : cells ≤ 232 + (j + 1) ∧ slots ≤ 11930 + 6 * (j + 1)) (H : Heap) (locs : List Loc) (ls : Array Slot), St b C 232 M s H locs → lv_has ls 7 [(0, .ref scr), (1, .ref (b + 0)), (2, .ref (b + 191)), (3, .ref (b + 231)), (4, vI v4_)] → bk23 M v4_ = some 1 → W p l e room_1 s m #[Value.ref scr] below meth c H locs cells slots (lw_Z below #[Value.ref scr] s) (F0 m 23 ls [])) (M : Mem) (v4_ : Int) (hv4_ : InR v4_) (hij : v4_ = 6 * (j : Int)) (cells slots : Nat) (hcs : cells ≤ 232 + j ∧ slots ≤ 11930 + 6 * j) (H : Heap) (locs : List Loc) (ls : Array Slot) (hS : St b C 232 M s H locs) (hl : lv_has ls 7 [(0, .ref scr), (1, .ref (b + 0)), (2, .ref (b + 191)), (3, .ref (b + 231)), (4, vI v4_)]) (hT : t_Law_law_L1234 xs L bk23 M v4_ = some 1) : W p l e room_1 s m #[Value.ref scr] below meth c H locs cells slots (lw_Z below #[Value.ref scr] s) (F0 m 1234 ls []) := by
  have hcs1 : cells ≤ 233 + j ∧ slots ≤ 11936 + 6 * j := ⟨by omega, by omega⟩
  unfold t_Law_law_L1234 at hT
  refine lv_aload_n F.hx F.hb d_Law_law_1234 rfl (lv_at hl 1 rfl) ?_
  refine lv_aload_n F.hx F.hb d_Law_law_1235 rfl (lv_at hl 0 rfl) ?_
  refine lv_iload F.hx F.hb d_Law_law_1236 (lv_at hl 4 rfl) ?_
  refine r_iconst F.hx F.hb d_Law_law_1238 ?_
  refine r_iadd F.hx F.hb d_Law_law_1239 ?_
  refine r_sld F hS hXs hsl hb (inr_w32 _) (law_ix hij hjL hL 1 (by decide) (by decide)).1 (law_ix hij hjL hL 1 (by decide) (by decide)).2 d_Law_law_1240 ?_
  refine lv_aload_n F.hx F.hb d_Law_law_1241 rfl (lv_at hl 0 rfl) ?_
  refine lv_iload F.hx F.hb d_Law_law_1242 (lv_at hl 4 rfl) ?_
  refine r_iconst F.hx F.hb d_Law_law_1244 ?_
  refine r_iadd F.hx F.hb d_Law_law_1245 ?_
  refine r_sld F hS hXs hsl hb (inr_w32 _) (law_ix hij hjL hL 2 (by decide) (by decide)).1 (law_ix hij hjL hL 2 (by decide) (by decide)).2 d_Law_law_1246 ?_
  obtain ⟨q183, hq183, hT⟩ := q_obind hT
  refine r_backI F hS (r_runV (k := 0) (N := 19) (T := T0) (As := [vI (xs ((w32 (v4_ + 1))).toNat).toInt, vI (xs ((w32 (v4_ + 2))).toNat).toInt]) F hS (show 0 < 232 by decide) (show shK 0 = 4 from rfl) rfl (c_WF_moves l (Nat.le_of_ble_eq_true rfl) M (xs ((w32 (v4_ + 1))).toNat).toInt (xs ((w32 (v4_ + 2))).toNat).toInt (q_inr_toInt _) (q_inr_toInt _) _ hq183) gs_WardFallsLaw_147 hd_WF_moves ⟨Nat.le_of_ble_eq_true rfl, Nat.le_of_ble_eq_true rfl⟩ rfl hl.1 (Nat.le_of_ble_eq_true rfl) (law_rc hcs1 hjL hL) rfl d_Law_law_1247) (fun H locs hS h184 => ?_)
  refine lv_aload_n F.hx F.hb d_Law_law_1250 rfl (lv_at hl 2 rfl) ?_
  refine lv_aload_n F.hx F.hb d_Law_law_1251 rfl (lv_at hl 0 rfl) ?_
  refine lv_iload F.hx F.hb d_Law_law_1252 (lv_at hl 4 rfl) ?_
  refine r_iconst F.hx F.hb d_Law_law_1254 ?_
  refine r_iadd F.hx F.hb d_Law_law_1255 ?_
  refine r_sld F hS hXs hsl hb (inr_w32 _) (law_ix hij hjL hL 1 (by decide) (by decide)).1 (law_ix hij hjL hL 1 (by decide) (by decide)).2 d_Law_law_1256 ?_
  refine lv_aload_n F.hx F.hb d_Law_law_1257 rfl (lv_at hl 0 rfl) ?_
  refine lv_iload F.hx F.hb d_Law_law_1258 (lv_at hl 4 rfl) ?_
  refine r_iconst F.hx F.hb d_Law_law_1260 ?_
  refine r_iadd F.hx F.hb d_Law_law_1261 ?_
  refine r_sld F hS hXs hsl hb (inr_w32 _) (law_ix hij hjL hL 2 (by decide) (by decide)).1 (law_ix hij hjL hL 2 (by decide) (by decide)).2 d_Law_law_1262 ?_
  obtain ⟨q185, hq185, hT⟩ := q_obind hT
  refine r_backI F hS (r_runV (k := 191) (N := 68) (T := T1) (As := [vI (xs ((w32 (v4_ + 1))).toNat).toInt, vI (xs ((w32 (v4_ + 2))).toNat).toInt]) F hS (show 191 < 232 by decide) (show shK 191 = 5 from rfl) rfl (c_MO_moves l (Nat.le_of_ble_eq_true rfl) (q183.1) (xs ((w32 (v4_ + 1))).toNat).toInt (xs ((w32 (v4_ + 2))).toNat).toInt (q_inr_toInt _) (q_inr_toInt _) _ hq185) gs_WardFallsLaw_150 hd_MO_moves ⟨Nat.le_of_ble_eq_true rfl, Nat.le_of_ble_eq_true rfl⟩ rfl hl.1 (Nat.le_of_ble_eq_true rfl) (law_rc hcs1 hjL hL) rfl d_Law_law_1263) (fun H locs hS h186 => ?_)
  refine r_icmp_eq (tgt := 1571) F.hx F.hb h184 h186 d_Law_law_1266 (by decide) (fun c187 => ?_) (fun c187 => ?_)
  · replace hT := (if_pos c187).symm.trans hT
    exact k_Law_law_L1571 l hlf hL F hX hXs hsl hb hlk hr bk23 j hjL hbk23 (q185.1) v4_ hv4_ hij _ _ hcs1 _ _ _ hS (lv_sub hl [0, 1, 2, 3, 4] rfl) hT
  · replace hT := (if_neg c187).symm.trans hT
    refine r_iconst F.hx F.hb d_Law_law_1269 ?_
    exact absurd hT (by decide)
set_option maxHeartbeats 16000000 in
set_option maxRecDepth 100000 in
theorem k_Law_law_L1271 (l : Launch) (hlf : l.stackTraces = false) {p : Program} {e : Env} {s : State} {m : MethodId} {below : List Frame} {meth : Method} {c : Code} {b : Nat} {C : CT} {scr L : Nat} {xs : Nat → Int32} (hL : L ≤ 3072) (F : Cx p m c b_Law_law 7 s ([.ref scr] : List Value).toArray "WardFallsLaw" C 232 232) (hX : EX b s) (hXs : va_X scr L xs s s.heap) (hsl : scr < s.heap.size) (hb : b = s.heap.size) (hlk : meth.locks = false) (hr : meth.sig.returnType = ret) (bk23 : Mem → Int → Option Int) (j : Nat) (hjL : 6 * j + 6 ≤ L) (hbk23 : ∀ (M : Mem) (v4_ : Int) (hv4_ : InR v4_) (hij : v4_ = 6 * ((j + 1 : Nat) : Int)) (cells slots : Nat) (hcs : cells ≤ 232 + (j + 1) ∧ slots ≤ 11930 + 6 * (j + 1)) (H : Heap) (locs : List Loc) (ls : Array Slot), St b C 232 M s H locs → lv_has ls 7 [(0, .ref scr), (1, .ref (b + 0)), (2, .ref (b + 191)), (3, .ref (b + 231)), (4, vI v4_)] → bk23 M v4_ = some 1 → W p l e room_1 s m #[Value.ref scr] below meth c H locs cells slots (lw_Z below #[Value.ref scr] s) (F0 m 23 ls [])) (M : Mem) (v4_ : Int) (hv4_ : InR v4_) (hij : v4_ = 6 * (j : Int)) (cells slots : Nat) (hcs : cells ≤ 232 + j ∧ slots ≤ 11930 + 6 * j) (H : Heap) (locs : List Loc) (ls : Array Slot) (hS : St b C 232 M s H locs) (hl : lv_has ls 7 [(0, .ref scr), (1, .ref (b + 0)), (2, .ref (b + 191)), (3, .ref (b + 231)), (4, vI v4_)]) (hT : t_Law_law_L1271 xs L bk23 M v4_ = some 1) : W p l e room_1 s m #[Value.ref scr] below meth c H locs cells slots (lw_Z below #[Value.ref scr] s) (F0 m 1271 ls []) := by
  have hcs1 : cells ≤ 233 + j ∧ slots ≤ 11936 + 6 * j := ⟨by omega, by omega⟩
  unfold t_Law_law_L1271 at hT
  refine lv_aload_n F.hx F.hb d_Law_law_1271 rfl (lv_at hl 1 rfl) ?_
  refine lv_aload_n F.hx F.hb d_Law_law_1272 rfl (lv_at hl 0 rfl) ?_
  refine lv_iload F.hx F.hb d_Law_law_1273 (lv_at hl 4 rfl) ?_
  refine r_iconst F.hx F.hb d_Law_law_1275 ?_
  refine r_iadd F.hx F.hb d_Law_law_1276 ?_
  refine r_sld F hS hXs hsl hb (inr_w32 _) (law_ix hij hjL hL 1 (by decide) (by decide)).1 (law_ix hij hjL hL 1 (by decide) (by decide)).2 d_Law_law_1277 ?_
  refine lv_aload_n F.hx F.hb d_Law_law_1278 rfl (lv_at hl 0 rfl) ?_
  refine lv_iload F.hx F.hb d_Law_law_1279 (lv_at hl 4 rfl) ?_
  refine r_iconst F.hx F.hb d_Law_law_1281 ?_
  refine r_iadd F.hx F.hb d_Law_law_1282 ?_
  refine r_sld F hS hXs hsl hb (inr_w32 _) (law_ix hij hjL hL 2 (by decide) (by decide)).1 (law_ix hij hjL hL 2 (by decide) (by decide)).2 d_Law_law_1283 ?_
  obtain ⟨q188, hq188⟩ : ∃ q, q = (t_WF_note M (xs ((w32 (v4_ + 1))).toNat).toInt (xs ((w32 (v4_ + 2))).toNat).toInt) := ⟨_, rfl⟩
  replace hT := qlet_eq hT hq188
  refine r_backI F hS (r_runV (k := 0) (N := 19) (T := T0) (As := [vI (xs ((w32 (v4_ + 1))).toNat).toInt, vI (xs ((w32 (v4_ + 2))).toNat).toInt]) F hS (show 0 < 232 by decide) (show shK 0 = 4 from rfl) rfl (c_WF_note l (Nat.le_of_ble_eq_true rfl) M (xs ((w32 (v4_ + 1))).toNat).toInt (xs ((w32 (v4_ + 2))).toNat).toInt (q_inr_toInt _) (q_inr_toInt _) _ hq188.symm) gs_WardFallsLaw_151 hd_WF_note ⟨Nat.le_of_ble_eq_true rfl, Nat.le_of_ble_eq_true rfl⟩ rfl hl.1 (Nat.le_of_ble_eq_true rfl) (law_rc hcs1 hjL hL) rfl d_Law_law_1284) (fun H locs hS h189 => ?_)
  refine lv_aload_n F.hx F.hb d_Law_law_1287 rfl (lv_at hl 2 rfl) ?_
  refine lv_aload_n F.hx F.hb d_Law_law_1288 rfl (lv_at hl 0 rfl) ?_
  refine lv_iload F.hx F.hb d_Law_law_1289 (lv_at hl 4 rfl) ?_
  refine r_iconst F.hx F.hb d_Law_law_1291 ?_
  refine r_iadd F.hx F.hb d_Law_law_1292 ?_
  refine r_sld F hS hXs hsl hb (inr_w32 _) (law_ix hij hjL hL 1 (by decide) (by decide)).1 (law_ix hij hjL hL 1 (by decide) (by decide)).2 d_Law_law_1293 ?_
  refine lv_aload_n F.hx F.hb d_Law_law_1294 rfl (lv_at hl 0 rfl) ?_
  refine lv_iload F.hx F.hb d_Law_law_1295 (lv_at hl 4 rfl) ?_
  refine r_iconst F.hx F.hb d_Law_law_1297 ?_
  refine r_iadd F.hx F.hb d_Law_law_1298 ?_
  refine r_sld F hS hXs hsl hb (inr_w32 _) (law_ix hij hjL hL 2 (by decide) (by decide)).1 (law_ix hij hjL hL 2 (by decide) (by decide)).2 d_Law_law_1299 ?_
  obtain ⟨q190, hq190, hT⟩ := q_obind hT
  refine r_backI F hS (r_runV (k := 191) (N := 68) (T := T1) (As := [vI (xs ((w32 (v4_ + 1))).toNat).toInt, vI (xs ((w32 (v4_ + 2))).toNat).toInt]) F hS (show 191 < 232 by decide) (show shK 191 = 5 from rfl) rfl (c_MO_note l (Nat.le_of_ble_eq_true rfl) (q188.1) (xs ((w32 (v4_ + 1))).toNat).toInt (xs ((w32 (v4_ + 2))).toNat).toInt (q_inr_toInt _) (q_inr_toInt _) _ hq190) gs_WardFallsLaw_154 hd_MO_note ⟨Nat.le_of_ble_eq_true rfl, Nat.le_of_ble_eq_true rfl⟩ rfl hl.1 (Nat.le_of_ble_eq_true rfl) (law_rc hcs1 hjL hL) rfl d_Law_law_1300) (fun H locs hS h191 => ?_)
  refine r_icmp_eq (tgt := 1571) F.hx F.hb h189 h191 d_Law_law_1303 (by decide) (fun c192 => ?_) (fun c192 => ?_)
  · replace hT := (if_pos c192).symm.trans hT
    exact k_Law_law_L1571 l hlf hL F hX hXs hsl hb hlk hr bk23 j hjL hbk23 (q190.1) v4_ hv4_ hij _ _ hcs1 _ _ _ hS (lv_sub hl [0, 1, 2, 3, 4] rfl) hT
  · replace hT := (if_neg c192).symm.trans hT
    refine r_iconst F.hx F.hb d_Law_law_1306 ?_
    exact absurd hT (by decide)
set_option maxHeartbeats 16000000 in
set_option maxRecDepth 100000 in
theorem k_Law_law_L1308 (l : Launch) (hlf : l.stackTraces = false) {p : Program} {e : Env} {s : State} {m : MethodId} {below : List Frame} {meth : Method} {c : Code} {b : Nat} {C : CT} {scr L : Nat} {xs : Nat → Int32} (hL : L ≤ 3072) (F : Cx p m c b_Law_law 7 s ([.ref scr] : List Value).toArray "WardFallsLaw" C 232 232) (hX : EX b s) (hXs : va_X scr L xs s s.heap) (hsl : scr < s.heap.size) (hb : b = s.heap.size) (hlk : meth.locks = false) (hr : meth.sig.returnType = ret) (bk23 : Mem → Int → Option Int) (j : Nat) (hjL : 6 * j + 6 ≤ L) (hbk23 : ∀ (M : Mem) (v4_ : Int) (hv4_ : InR v4_) (hij : v4_ = 6 * ((j + 1 : Nat) : Int)) (cells slots : Nat) (hcs : cells ≤ 232 + (j + 1) ∧ slots ≤ 11930 + 6 * (j + 1)) (H : Heap) (locs : List Loc) (ls : Array Slot), St b C 232 M s H locs → lv_has ls 7 [(0, .ref scr), (1, .ref (b + 0)), (2, .ref (b + 191)), (3, .ref (b + 231)), (4, vI v4_)] → bk23 M v4_ = some 1 → W p l e room_1 s m #[Value.ref scr] below meth c H locs cells slots (lw_Z below #[Value.ref scr] s) (F0 m 23 ls [])) (M : Mem) (v4_ : Int) (hv4_ : InR v4_) (hij : v4_ = 6 * (j : Int)) (cells slots : Nat) (hcs : cells ≤ 232 + j ∧ slots ≤ 11930 + 6 * j) (H : Heap) (locs : List Loc) (ls : Array Slot) (hS : St b C 232 M s H locs) (hl : lv_has ls 7 [(0, .ref scr), (1, .ref (b + 0)), (2, .ref (b + 191)), (3, .ref (b + 231)), (4, vI v4_)]) (hT : t_Law_law_L1308 xs L bk23 M v4_ = some 1) : W p l e room_1 s m #[Value.ref scr] below meth c H locs cells slots (lw_Z below #[Value.ref scr] s) (F0 m 1308 ls []) := by
  have hcs1 : cells ≤ 233 + j ∧ slots ≤ 11936 + 6 * j := ⟨by omega, by omega⟩
  unfold t_Law_law_L1308 at hT
  refine lv_aload_n F.hx F.hb d_Law_law_1308 rfl (lv_at hl 1 rfl) ?_
  refine lv_aload_n F.hx F.hb d_Law_law_1309 rfl (lv_at hl 0 rfl) ?_
  refine lv_iload F.hx F.hb d_Law_law_1310 (lv_at hl 4 rfl) ?_
  refine r_iconst F.hx F.hb d_Law_law_1312 ?_
  refine r_iadd F.hx F.hb d_Law_law_1313 ?_
  refine r_sld F hS hXs hsl hb (inr_w32 _) (law_ix hij hjL hL 1 (by decide) (by decide)).1 (law_ix hij hjL hL 1 (by decide) (by decide)).2 d_Law_law_1314 ?_
  obtain ⟨q193, hq193⟩ : ∃ q, q = (t_WF_strike M (xs ((w32 (v4_ + 1))).toNat).toInt) := ⟨_, rfl⟩
  replace hT := qlet_eq hT hq193
  refine r_backI F hS (r_runV (k := 0) (N := 19) (T := T0) (As := [vI (xs ((w32 (v4_ + 1))).toNat).toInt]) F hS (show 0 < 232 by decide) (show shK 0 = 4 from rfl) rfl (c_WF_strike l (Nat.le_of_ble_eq_true rfl) M (xs ((w32 (v4_ + 1))).toNat).toInt (q_inr_toInt _) _ hq193.symm) gs_WardFallsLaw_155 hd_WF_strike ⟨Nat.le_of_ble_eq_true rfl, Nat.le_of_ble_eq_true rfl⟩ rfl hl.1 (Nat.le_of_ble_eq_true rfl) (law_rc hcs1 hjL hL) rfl d_Law_law_1315) (fun H locs hS h194 => ?_)
  refine lv_aload_n F.hx F.hb d_Law_law_1318 rfl (lv_at hl 2 rfl) ?_
  refine lv_aload_n F.hx F.hb d_Law_law_1319 rfl (lv_at hl 0 rfl) ?_
  refine lv_iload F.hx F.hb d_Law_law_1320 (lv_at hl 4 rfl) ?_
  refine r_iconst F.hx F.hb d_Law_law_1322 ?_
  refine r_iadd F.hx F.hb d_Law_law_1323 ?_
  refine r_sld F hS hXs hsl hb (inr_w32 _) (law_ix hij hjL hL 1 (by decide) (by decide)).1 (law_ix hij hjL hL 1 (by decide) (by decide)).2 d_Law_law_1324 ?_
  obtain ⟨q195, hq195, hT⟩ := q_obind hT
  refine r_backI F hS (r_runV (k := 191) (N := 68) (T := T1) (As := [vI (xs ((w32 (v4_ + 1))).toNat).toInt]) F hS (show 191 < 232 by decide) (show shK 191 = 5 from rfl) rfl (c_MO_strike l (Nat.le_of_ble_eq_true rfl) (q193.1) (xs ((w32 (v4_ + 1))).toNat).toInt (q_inr_toInt _) _ hq195) gs_WardFallsLaw_158 hd_MO_strike ⟨Nat.le_of_ble_eq_true rfl, Nat.le_of_ble_eq_true rfl⟩ rfl hl.1 (Nat.le_of_ble_eq_true rfl) (law_rc hcs1 hjL hL) rfl d_Law_law_1325) (fun H locs hS h196 => ?_)
  refine r_icmp_eq (tgt := 1571) F.hx F.hb h194 h196 d_Law_law_1328 (by decide) (fun c197 => ?_) (fun c197 => ?_)
  · replace hT := (if_pos c197).symm.trans hT
    exact k_Law_law_L1571 l hlf hL F hX hXs hsl hb hlk hr bk23 j hjL hbk23 (q195.1) v4_ hv4_ hij _ _ hcs1 _ _ _ hS (lv_sub hl [0, 1, 2, 3, 4] rfl) hT
  · replace hT := (if_neg c197).symm.trans hT
    refine r_iconst F.hx F.hb d_Law_law_1331 ?_
    exact absurd hT (by decide)
set_option maxHeartbeats 16000000 in
set_option maxRecDepth 100000 in
theorem k_Law_law_L1333 (l : Launch) (hlf : l.stackTraces = false) {p : Program} {e : Env} {s : State} {m : MethodId} {below : List Frame} {meth : Method} {c : Code} {b : Nat} {C : CT} {scr L : Nat} {xs : Nat → Int32} (hL : L ≤ 3072) (F : Cx p m c b_Law_law 7 s ([.ref scr] : List Value).toArray "WardFallsLaw" C 232 232) (hX : EX b s) (hXs : va_X scr L xs s s.heap) (hsl : scr < s.heap.size) (hb : b = s.heap.size) (hlk : meth.locks = false) (hr : meth.sig.returnType = ret) (bk23 : Mem → Int → Option Int) (j : Nat) (hjL : 6 * j + 6 ≤ L) (hbk23 : ∀ (M : Mem) (v4_ : Int) (hv4_ : InR v4_) (hij : v4_ = 6 * ((j + 1 : Nat) : Int)) (cells slots : Nat) (hcs : cells ≤ 232 + (j + 1) ∧ slots ≤ 11930 + 6 * (j + 1)) (H : Heap) (locs : List Loc) (ls : Array Slot), St b C 232 M s H locs → lv_has ls 7 [(0, .ref scr), (1, .ref (b + 0)), (2, .ref (b + 191)), (3, .ref (b + 231)), (4, vI v4_)] → bk23 M v4_ = some 1 → W p l e room_1 s m #[Value.ref scr] below meth c H locs cells slots (lw_Z below #[Value.ref scr] s) (F0 m 23 ls [])) (M : Mem) (v4_ : Int) (hv4_ : InR v4_) (hij : v4_ = 6 * (j : Int)) (cells slots : Nat) (hcs : cells ≤ 232 + j ∧ slots ≤ 11930 + 6 * j) (H : Heap) (locs : List Loc) (ls : Array Slot) (hS : St b C 232 M s H locs) (hl : lv_has ls 7 [(0, .ref scr), (1, .ref (b + 0)), (2, .ref (b + 191)), (3, .ref (b + 231)), (4, vI v4_)]) (hT : t_Law_law_L1333 xs L bk23 M v4_ = some 1) : W p l e room_1 s m #[Value.ref scr] below meth c H locs cells slots (lw_Z below #[Value.ref scr] s) (F0 m 1333 ls []) := by
  have hcs1 : cells ≤ 233 + j ∧ slots ≤ 11936 + 6 * j := ⟨by omega, by omega⟩
  unfold t_Law_law_L1333 at hT
  refine lv_aload_n F.hx F.hb d_Law_law_1333 rfl (lv_at hl 1 rfl) ?_
  refine lv_aload_n F.hx F.hb d_Law_law_1334 rfl (lv_at hl 0 rfl) ?_
  refine lv_iload F.hx F.hb d_Law_law_1335 (lv_at hl 4 rfl) ?_
  refine r_iconst F.hx F.hb d_Law_law_1337 ?_
  refine r_iadd F.hx F.hb d_Law_law_1338 ?_
  refine r_sld F hS hXs hsl hb (inr_w32 _) (law_ix hij hjL hL 1 (by decide) (by decide)).1 (law_ix hij hjL hL 1 (by decide) (by decide)).2 d_Law_law_1339 ?_
  obtain ⟨q198, hq198⟩ : ∃ q, q = (t_WF_known M (xs ((w32 (v4_ + 1))).toNat).toInt) := ⟨_, rfl⟩
  replace hT := qlet_eq hT hq198
  refine r_backZ F hS (r_runV (k := 0) (N := 19) (T := T0) (As := [vI (xs ((w32 (v4_ + 1))).toNat).toInt]) F hS (show 0 < 232 by decide) (show shK 0 = 4 from rfl) rfl (c_WF_known l (Nat.le_of_ble_eq_true rfl) M (xs ((w32 (v4_ + 1))).toNat).toInt (q_inr_toInt _) _ hq198.symm) gs_WardFallsLaw_159 hd_WF_known ⟨Nat.le_of_ble_eq_true rfl, Nat.le_of_ble_eq_true rfl⟩ rfl hl.1 (Nat.le_of_ble_eq_true rfl) (law_rc hcs1 hjL hL) rfl d_Law_law_1340) (fun H locs hS h199 => ?_)
  refine lv_aload_n F.hx F.hb d_Law_law_1343 rfl (lv_at hl 2 rfl) ?_
  refine lv_aload_n F.hx F.hb d_Law_law_1344 rfl (lv_at hl 0 rfl) ?_
  refine lv_iload F.hx F.hb d_Law_law_1345 (lv_at hl 4 rfl) ?_
  refine r_iconst F.hx F.hb d_Law_law_1347 ?_
  refine r_iadd F.hx F.hb d_Law_law_1348 ?_
  refine r_sld F hS hXs hsl hb (inr_w32 _) (law_ix hij hjL hL 1 (by decide) (by decide)).1 (law_ix hij hjL hL 1 (by decide) (by decide)).2 d_Law_law_1349 ?_
  obtain ⟨q200, hq200⟩ : ∃ q, q = (t_MO_known (q198.1) (xs ((w32 (v4_ + 1))).toNat).toInt) := ⟨_, rfl⟩
  replace hT := qlet_eq hT hq200
  refine r_backZ F hS (r_runV (k := 191) (N := 68) (T := T1) (As := [vI (xs ((w32 (v4_ + 1))).toNat).toInt]) F hS (show 191 < 232 by decide) (show shK 191 = 5 from rfl) rfl (c_MO_known l (Nat.le_of_ble_eq_true rfl) (q198.1) (xs ((w32 (v4_ + 1))).toNat).toInt (q_inr_toInt _) _ hq200.symm) gs_WardFallsLaw_163 hd_MO_known ⟨Nat.le_of_ble_eq_true rfl, Nat.le_of_ble_eq_true rfl⟩ rfl hl.1 (Nat.le_of_ble_eq_true rfl) (law_rc hcs1 hjL hL) rfl d_Law_law_1350) (fun H locs hS h201 => ?_)
  refine r_icmp_eq (tgt := 1571) F.hx F.hb (inr_z h199) (inr_z h201) d_Law_law_1353 (by decide) (fun c202 => ?_) (fun c202 => ?_)
  · replace hT := (if_pos c202).symm.trans hT
    exact k_Law_law_L1571 l hlf hL F hX hXs hsl hb hlk hr bk23 j hjL hbk23 (q200.1) v4_ hv4_ hij _ _ hcs1 _ _ _ hS (lv_sub hl [0, 1, 2, 3, 4] rfl) hT
  · replace hT := (if_neg c202).symm.trans hT
    refine r_iconst F.hx F.hb d_Law_law_1356 ?_
    exact absurd hT (by decide)
set_option maxHeartbeats 16000000 in
set_option maxRecDepth 100000 in
theorem k_Law_law_L1358 (l : Launch) (hlf : l.stackTraces = false) {p : Program} {e : Env} {s : State} {m : MethodId} {below : List Frame} {meth : Method} {c : Code} {b : Nat} {C : CT} {scr L : Nat} {xs : Nat → Int32} (hL : L ≤ 3072) (F : Cx p m c b_Law_law 7 s ([.ref scr] : List Value).toArray "WardFallsLaw" C 232 232) (hX : EX b s) (hXs : va_X scr L xs s s.heap) (hsl : scr < s.heap.size) (hb : b = s.heap.size) (hlk : meth.locks = false) (hr : meth.sig.returnType = ret) (bk23 : Mem → Int → Option Int) (j : Nat) (hjL : 6 * j + 6 ≤ L) (hbk23 : ∀ (M : Mem) (v4_ : Int) (hv4_ : InR v4_) (hij : v4_ = 6 * ((j + 1 : Nat) : Int)) (cells slots : Nat) (hcs : cells ≤ 232 + (j + 1) ∧ slots ≤ 11930 + 6 * (j + 1)) (H : Heap) (locs : List Loc) (ls : Array Slot), St b C 232 M s H locs → lv_has ls 7 [(0, .ref scr), (1, .ref (b + 0)), (2, .ref (b + 191)), (3, .ref (b + 231)), (4, vI v4_)] → bk23 M v4_ = some 1 → W p l e room_1 s m #[Value.ref scr] below meth c H locs cells slots (lw_Z below #[Value.ref scr] s) (F0 m 23 ls [])) (M : Mem) (v4_ : Int) (hv4_ : InR v4_) (hij : v4_ = 6 * (j : Int)) (cells slots : Nat) (hcs : cells ≤ 232 + j ∧ slots ≤ 11930 + 6 * j) (H : Heap) (locs : List Loc) (ls : Array Slot) (hS : St b C 232 M s H locs) (hl : lv_has ls 7 [(0, .ref scr), (1, .ref (b + 0)), (2, .ref (b + 191)), (3, .ref (b + 231)), (4, vI v4_)]) (hT : t_Law_law_L1358 xs L bk23 M v4_ = some 1) : W p l e room_1 s m #[Value.ref scr] below meth c H locs cells slots (lw_Z below #[Value.ref scr] s) (F0 m 1358 ls []) := by
  have hcs1 : cells ≤ 233 + j ∧ slots ≤ 11936 + 6 * j := ⟨by omega, by omega⟩
  unfold t_Law_law_L1358 at hT
  refine lv_aload_n F.hx F.hb d_Law_law_1358 rfl (lv_at hl 1 rfl) ?_
  obtain ⟨q203, hq203, hT⟩ := q_obind hT
  refine r_backI F hS (r_runV (k := 0) (N := 19) (T := T0) (As := []) F hS (show 0 < 232 by decide) (show shK 0 = 4 from rfl) rfl (c_WF_fits l (Nat.le_of_ble_eq_true rfl) M _ hq203) gs_WardFallsLaw_164 hd_WF_fits ⟨Nat.le_of_ble_eq_true rfl, Nat.le_of_ble_eq_true rfl⟩ rfl hl.1 (Nat.le_of_ble_eq_true rfl) (law_rc hcs1 hjL hL) rfl d_Law_law_1359) (fun H locs hS h204 => ?_)
  refine lv_aload_n F.hx F.hb d_Law_law_1362 rfl (lv_at hl 2 rfl) ?_
  obtain ⟨q205, hq205, hT⟩ := q_obind hT
  refine r_backI F hS (r_runV (k := 191) (N := 68) (T := T1) (As := []) F hS (show 191 < 232 by decide) (show shK 191 = 5 from rfl) rfl (c_MO_fits l (Nat.le_of_ble_eq_true rfl) (q203.1) _ hq205) gs_WardFallsLaw_167 hd_MO_fits ⟨Nat.le_of_ble_eq_true rfl, Nat.le_of_ble_eq_true rfl⟩ rfl hl.1 (Nat.le_of_ble_eq_true rfl) (law_rc hcs1 hjL hL) rfl d_Law_law_1363) (fun H locs hS h206 => ?_)
  refine r_icmp_eq (tgt := 1571) F.hx F.hb h204 h206 d_Law_law_1366 (by decide) (fun c207 => ?_) (fun c207 => ?_)
  · replace hT := (if_pos c207).symm.trans hT
    exact k_Law_law_L1571 l hlf hL F hX hXs hsl hb hlk hr bk23 j hjL hbk23 (q205.1) v4_ hv4_ hij _ _ hcs1 _ _ _ hS (lv_sub hl [0, 1, 2, 3, 4] rfl) hT
  · replace hT := (if_neg c207).symm.trans hT
    refine r_iconst F.hx F.hb d_Law_law_1369 ?_
    exact absurd hT (by decide)
set_option maxHeartbeats 16000000 in
set_option maxRecDepth 100000 in
theorem k_Law_law_L1371 (l : Launch) (hlf : l.stackTraces = false) {p : Program} {e : Env} {s : State} {m : MethodId} {below : List Frame} {meth : Method} {c : Code} {b : Nat} {C : CT} {scr L : Nat} {xs : Nat → Int32} (hL : L ≤ 3072) (F : Cx p m c b_Law_law 7 s ([.ref scr] : List Value).toArray "WardFallsLaw" C 232 232) (hX : EX b s) (hXs : va_X scr L xs s s.heap) (hsl : scr < s.heap.size) (hb : b = s.heap.size) (hlk : meth.locks = false) (hr : meth.sig.returnType = ret) (bk23 : Mem → Int → Option Int) (j : Nat) (hjL : 6 * j + 6 ≤ L) (hbk23 : ∀ (M : Mem) (v4_ : Int) (hv4_ : InR v4_) (hij : v4_ = 6 * ((j + 1 : Nat) : Int)) (cells slots : Nat) (hcs : cells ≤ 232 + (j + 1) ∧ slots ≤ 11930 + 6 * (j + 1)) (H : Heap) (locs : List Loc) (ls : Array Slot), St b C 232 M s H locs → lv_has ls 7 [(0, .ref scr), (1, .ref (b + 0)), (2, .ref (b + 191)), (3, .ref (b + 231)), (4, vI v4_)] → bk23 M v4_ = some 1 → W p l e room_1 s m #[Value.ref scr] below meth c H locs cells slots (lw_Z below #[Value.ref scr] s) (F0 m 23 ls [])) (M : Mem) (v4_ : Int) (hv4_ : InR v4_) (hij : v4_ = 6 * (j : Int)) (cells slots : Nat) (hcs : cells ≤ 232 + j ∧ slots ≤ 11930 + 6 * j) (H : Heap) (locs : List Loc) (ls : Array Slot) (hS : St b C 232 M s H locs) (hl : lv_has ls 7 [(0, .ref scr), (1, .ref (b + 0)), (2, .ref (b + 191)), (3, .ref (b + 231)), (4, vI v4_)]) (hT : t_Law_law_L1371 xs L bk23 M v4_ = some 1) : W p l e room_1 s m #[Value.ref scr] below meth c H locs cells slots (lw_Z below #[Value.ref scr] s) (F0 m 1371 ls []) := by
  have hcs1 : cells ≤ 233 + j ∧ slots ≤ 11936 + 6 * j := ⟨by omega, by omega⟩
  unfold t_Law_law_L1371 at hT
  refine lv_aload_n F.hx F.hb d_Law_law_1371 rfl (lv_at hl 1 rfl) ?_
  refine lv_aload_n F.hx F.hb d_Law_law_1372 rfl (lv_at hl 0 rfl) ?_
  refine lv_iload F.hx F.hb d_Law_law_1373 (lv_at hl 4 rfl) ?_
  refine r_iconst F.hx F.hb d_Law_law_1375 ?_
  refine r_iadd F.hx F.hb d_Law_law_1376 ?_
  refine r_sld F hS hXs hsl hb (inr_w32 _) (law_ix hij hjL hL 1 (by decide) (by decide)).1 (law_ix hij hjL hL 1 (by decide) (by decide)).2 d_Law_law_1377 ?_
  obtain ⟨q208, hq208, hT⟩ := q_obind hT
  refine r_backI F hS (r_runV (k := 0) (N := 19) (T := T0) (As := [vI (xs ((w32 (v4_ + 1))).toNat).toInt]) F hS (show 0 < 232 by decide) (show shK 0 = 4 from rfl) rfl (c_WF_may l (Nat.le_of_ble_eq_true rfl) M (xs ((w32 (v4_ + 1))).toNat).toInt (q_inr_toInt _) _ hq208) gs_WardFallsLaw_168 hd_WF_may ⟨Nat.le_of_ble_eq_true rfl, Nat.le_of_ble_eq_true rfl⟩ rfl hl.1 (Nat.le_of_ble_eq_true rfl) (law_rc hcs1 hjL hL) rfl d_Law_law_1378) (fun H locs hS h209 => ?_)
  refine lv_aload_n F.hx F.hb d_Law_law_1381 rfl (lv_at hl 2 rfl) ?_
  refine lv_aload_n F.hx F.hb d_Law_law_1382 rfl (lv_at hl 0 rfl) ?_
  refine lv_iload F.hx F.hb d_Law_law_1383 (lv_at hl 4 rfl) ?_
  refine r_iconst F.hx F.hb d_Law_law_1385 ?_
  refine r_iadd F.hx F.hb d_Law_law_1386 ?_
  refine r_sld F hS hXs hsl hb (inr_w32 _) (law_ix hij hjL hL 1 (by decide) (by decide)).1 (law_ix hij hjL hL 1 (by decide) (by decide)).2 d_Law_law_1387 ?_
  obtain ⟨q210, hq210, hT⟩ := q_obind hT
  refine r_backI F hS (r_runV (k := 191) (N := 68) (T := T1) (As := [vI (xs ((w32 (v4_ + 1))).toNat).toInt]) F hS (show 191 < 232 by decide) (show shK 191 = 5 from rfl) rfl (c_MO_may l (Nat.le_of_ble_eq_true rfl) (q208.1) (xs ((w32 (v4_ + 1))).toNat).toInt (q_inr_toInt _) _ hq210) gs_WardFallsLaw_171 hd_MO_may ⟨Nat.le_of_ble_eq_true rfl, Nat.le_of_ble_eq_true rfl⟩ rfl hl.1 (Nat.le_of_ble_eq_true rfl) (law_rc hcs1 hjL hL) rfl d_Law_law_1388) (fun H locs hS h211 => ?_)
  refine r_icmp_eq (tgt := 1571) F.hx F.hb h209 h211 d_Law_law_1391 (by decide) (fun c212 => ?_) (fun c212 => ?_)
  · replace hT := (if_pos c212).symm.trans hT
    exact k_Law_law_L1571 l hlf hL F hX hXs hsl hb hlk hr bk23 j hjL hbk23 (q210.1) v4_ hv4_ hij _ _ hcs1 _ _ _ hS (lv_sub hl [0, 1, 2, 3, 4] rfl) hT
  · replace hT := (if_neg c212).symm.trans hT
    refine r_iconst F.hx F.hb d_Law_law_1394 ?_
    exact absurd hT (by decide)
set_option maxHeartbeats 16000000 in
set_option maxRecDepth 100000 in
theorem k_Law_law_L1396 (l : Launch) (hlf : l.stackTraces = false) {p : Program} {e : Env} {s : State} {m : MethodId} {below : List Frame} {meth : Method} {c : Code} {b : Nat} {C : CT} {scr L : Nat} {xs : Nat → Int32} (hL : L ≤ 3072) (F : Cx p m c b_Law_law 7 s ([.ref scr] : List Value).toArray "WardFallsLaw" C 232 232) (hX : EX b s) (hXs : va_X scr L xs s s.heap) (hsl : scr < s.heap.size) (hb : b = s.heap.size) (hlk : meth.locks = false) (hr : meth.sig.returnType = ret) (bk23 : Mem → Int → Option Int) (j : Nat) (hjL : 6 * j + 6 ≤ L) (hbk23 : ∀ (M : Mem) (v4_ : Int) (hv4_ : InR v4_) (hij : v4_ = 6 * ((j + 1 : Nat) : Int)) (cells slots : Nat) (hcs : cells ≤ 232 + (j + 1) ∧ slots ≤ 11930 + 6 * (j + 1)) (H : Heap) (locs : List Loc) (ls : Array Slot), St b C 232 M s H locs → lv_has ls 7 [(0, .ref scr), (1, .ref (b + 0)), (2, .ref (b + 191)), (3, .ref (b + 231)), (4, vI v4_)] → bk23 M v4_ = some 1 → W p l e room_1 s m #[Value.ref scr] below meth c H locs cells slots (lw_Z below #[Value.ref scr] s) (F0 m 23 ls [])) (M : Mem) (v4_ : Int) (hv4_ : InR v4_) (hij : v4_ = 6 * (j : Int)) (cells slots : Nat) (hcs : cells ≤ 232 + j ∧ slots ≤ 11930 + 6 * j) (H : Heap) (locs : List Loc) (ls : Array Slot) (hS : St b C 232 M s H locs) (hl : lv_has ls 7 [(0, .ref scr), (1, .ref (b + 0)), (2, .ref (b + 191)), (3, .ref (b + 231)), (4, vI v4_)]) (hT : t_Law_law_L1396 xs L bk23 M v4_ = some 1) : W p l e room_1 s m #[Value.ref scr] below meth c H locs cells slots (lw_Z below #[Value.ref scr] s) (F0 m 1396 ls []) := by
  have hcs1 : cells ≤ 233 + j ∧ slots ≤ 11936 + 6 * j := ⟨by omega, by omega⟩
  unfold t_Law_law_L1396 at hT
  refine lv_aload_n F.hx F.hb d_Law_law_1396 rfl (lv_at hl 1 rfl) ?_
  refine lv_aload_n F.hx F.hb d_Law_law_1397 rfl (lv_at hl 0 rfl) ?_
  refine lv_iload F.hx F.hb d_Law_law_1398 (lv_at hl 4 rfl) ?_
  refine r_iconst F.hx F.hb d_Law_law_1400 ?_
  refine r_iadd F.hx F.hb d_Law_law_1401 ?_
  refine r_sld F hS hXs hsl hb (inr_w32 _) (law_ix hij hjL hL 1 (by decide) (by decide)).1 (law_ix hij hjL hL 1 (by decide) (by decide)).2 d_Law_law_1402 ?_
  obtain ⟨q213, hq213, hT⟩ := q_obind hT
  refine r_backI F hS (r_runV (k := 0) (N := 19) (T := T0) (As := [vI (xs ((w32 (v4_ + 1))).toNat).toInt]) F hS (show 0 < 232 by decide) (show shK 0 = 4 from rfl) rfl (c_WF_years l (Nat.le_of_ble_eq_true rfl) M (xs ((w32 (v4_ + 1))).toNat).toInt (q_inr_toInt _) _ hq213) gs_WardFallsLaw_172 hd_WF_years ⟨Nat.le_of_ble_eq_true rfl, Nat.le_of_ble_eq_true rfl⟩ rfl hl.1 (Nat.le_of_ble_eq_true rfl) (law_rc hcs1 hjL hL) rfl d_Law_law_1403) (fun H locs hS h214 => ?_)
  refine lv_aload_n F.hx F.hb d_Law_law_1406 rfl (lv_at hl 2 rfl) ?_
  refine lv_aload_n F.hx F.hb d_Law_law_1407 rfl (lv_at hl 0 rfl) ?_
  refine lv_iload F.hx F.hb d_Law_law_1408 (lv_at hl 4 rfl) ?_
  refine r_iconst F.hx F.hb d_Law_law_1410 ?_
  refine r_iadd F.hx F.hb d_Law_law_1411 ?_
  refine r_sld F hS hXs hsl hb (inr_w32 _) (law_ix hij hjL hL 1 (by decide) (by decide)).1 (law_ix hij hjL hL 1 (by decide) (by decide)).2 d_Law_law_1412 ?_
  obtain ⟨q215, hq215, hT⟩ := q_obind hT
  refine r_backI F hS (r_runV (k := 191) (N := 68) (T := T1) (As := [vI (xs ((w32 (v4_ + 1))).toNat).toInt]) F hS (show 191 < 232 by decide) (show shK 191 = 5 from rfl) rfl (c_MO_years l (Nat.le_of_ble_eq_true rfl) (q213.1) (xs ((w32 (v4_ + 1))).toNat).toInt (q_inr_toInt _) _ hq215) gs_WardFallsLaw_175 hd_MO_years ⟨Nat.le_of_ble_eq_true rfl, Nat.le_of_ble_eq_true rfl⟩ rfl hl.1 (Nat.le_of_ble_eq_true rfl) (law_rc hcs1 hjL hL) rfl d_Law_law_1413) (fun H locs hS h216 => ?_)
  refine r_icmp_eq (tgt := 1571) F.hx F.hb h214 h216 d_Law_law_1416 (by decide) (fun c217 => ?_) (fun c217 => ?_)
  · replace hT := (if_pos c217).symm.trans hT
    exact k_Law_law_L1571 l hlf hL F hX hXs hsl hb hlk hr bk23 j hjL hbk23 (q215.1) v4_ hv4_ hij _ _ hcs1 _ _ _ hS (lv_sub hl [0, 1, 2, 3, 4] rfl) hT
  · replace hT := (if_neg c217).symm.trans hT
    refine r_iconst F.hx F.hb d_Law_law_1419 ?_
    exact absurd hT (by decide)
set_option maxHeartbeats 16000000 in
set_option maxRecDepth 100000 in
theorem k_Law_law_L1421 (l : Launch) (hlf : l.stackTraces = false) {p : Program} {e : Env} {s : State} {m : MethodId} {below : List Frame} {meth : Method} {c : Code} {b : Nat} {C : CT} {scr L : Nat} {xs : Nat → Int32} (hL : L ≤ 3072) (F : Cx p m c b_Law_law 7 s ([.ref scr] : List Value).toArray "WardFallsLaw" C 232 232) (hX : EX b s) (hXs : va_X scr L xs s s.heap) (hsl : scr < s.heap.size) (hb : b = s.heap.size) (hlk : meth.locks = false) (hr : meth.sig.returnType = ret) (bk23 : Mem → Int → Option Int) (j : Nat) (hjL : 6 * j + 6 ≤ L) (hbk23 : ∀ (M : Mem) (v4_ : Int) (hv4_ : InR v4_) (hij : v4_ = 6 * ((j + 1 : Nat) : Int)) (cells slots : Nat) (hcs : cells ≤ 232 + (j + 1) ∧ slots ≤ 11930 + 6 * (j + 1)) (H : Heap) (locs : List Loc) (ls : Array Slot), St b C 232 M s H locs → lv_has ls 7 [(0, .ref scr), (1, .ref (b + 0)), (2, .ref (b + 191)), (3, .ref (b + 231)), (4, vI v4_)] → bk23 M v4_ = some 1 → W p l e room_1 s m #[Value.ref scr] below meth c H locs cells slots (lw_Z below #[Value.ref scr] s) (F0 m 23 ls [])) (M : Mem) (v4_ : Int) (hv4_ : InR v4_) (hij : v4_ = 6 * (j : Int)) (cells slots : Nat) (hcs : cells ≤ 232 + j ∧ slots ≤ 11930 + 6 * j) (H : Heap) (locs : List Loc) (ls : Array Slot) (hS : St b C 232 M s H locs) (hl : lv_has ls 7 [(0, .ref scr), (1, .ref (b + 0)), (2, .ref (b + 191)), (3, .ref (b + 231)), (4, vI v4_)]) (hT : t_Law_law_L1421 xs L bk23 M v4_ = some 1) : W p l e room_1 s m #[Value.ref scr] below meth c H locs cells slots (lw_Z below #[Value.ref scr] s) (F0 m 1421 ls []) := by
  have hcs1 : cells ≤ 233 + j ∧ slots ≤ 11936 + 6 * j := ⟨by omega, by omega⟩
  unfold t_Law_law_L1421 at hT
  refine lv_aload_n F.hx F.hb d_Law_law_1421 rfl (lv_at hl 1 rfl) ?_
  refine lv_aload_n F.hx F.hb d_Law_law_1422 rfl (lv_at hl 0 rfl) ?_
  refine lv_iload F.hx F.hb d_Law_law_1423 (lv_at hl 4 rfl) ?_
  refine r_iconst F.hx F.hb d_Law_law_1425 ?_
  refine r_iadd F.hx F.hb d_Law_law_1426 ?_
  refine r_sld F hS hXs hsl hb (inr_w32 _) (law_ix hij hjL hL 1 (by decide) (by decide)).1 (law_ix hij hjL hL 1 (by decide) (by decide)).2 d_Law_law_1427 ?_
  refine lv_aload_n F.hx F.hb d_Law_law_1428 rfl (lv_at hl 0 rfl) ?_
  refine lv_iload F.hx F.hb d_Law_law_1429 (lv_at hl 4 rfl) ?_
  refine r_iconst F.hx F.hb d_Law_law_1431 ?_
  refine r_iadd F.hx F.hb d_Law_law_1432 ?_
  refine r_sld F hS hXs hsl hb (inr_w32 _) (law_ix hij hjL hL 2 (by decide) (by decide)).1 (law_ix hij hjL hL 2 (by decide) (by decide)).2 d_Law_law_1433 ?_
  obtain ⟨q218, hq218⟩ : ∃ q, q = (t_WF_voted M (xs ((w32 (v4_ + 1))).toNat).toInt (xs ((w32 (v4_ + 2))).toNat).toInt) := ⟨_, rfl⟩
  replace hT := qlet_eq hT hq218
  refine r_backI F hS (r_runV (k := 0) (N := 19) (T := T0) (As := [vI (xs ((w32 (v4_ + 1))).toNat).toInt, vI (xs ((w32 (v4_ + 2))).toNat).toInt]) F hS (show 0 < 232 by decide) (show shK 0 = 4 from rfl) rfl (c_WF_voted l (Nat.le_of_ble_eq_true rfl) M (xs ((w32 (v4_ + 1))).toNat).toInt (xs ((w32 (v4_ + 2))).toNat).toInt (q_inr_toInt _) (q_inr_toInt _) _ hq218.symm) gs_WardFallsLaw_176 hd_WF_voted ⟨Nat.le_of_ble_eq_true rfl, Nat.le_of_ble_eq_true rfl⟩ rfl hl.1 (Nat.le_of_ble_eq_true rfl) (law_rc hcs1 hjL hL) rfl d_Law_law_1434) (fun H locs hS h219 => ?_)
  refine lv_aload_n F.hx F.hb d_Law_law_1437 rfl (lv_at hl 2 rfl) ?_
  refine lv_aload_n F.hx F.hb d_Law_law_1438 rfl (lv_at hl 0 rfl) ?_
  refine lv_iload F.hx F.hb d_Law_law_1439 (lv_at hl 4 rfl) ?_
  refine r_iconst F.hx F.hb d_Law_law_1441 ?_
  refine r_iadd F.hx F.hb d_Law_law_1442 ?_
  refine r_sld F hS hXs hsl hb (inr_w32 _) (law_ix hij hjL hL 1 (by decide) (by decide)).1 (law_ix hij hjL hL 1 (by decide) (by decide)).2 d_Law_law_1443 ?_
  refine lv_aload_n F.hx F.hb d_Law_law_1444 rfl (lv_at hl 0 rfl) ?_
  refine lv_iload F.hx F.hb d_Law_law_1445 (lv_at hl 4 rfl) ?_
  refine r_iconst F.hx F.hb d_Law_law_1447 ?_
  refine r_iadd F.hx F.hb d_Law_law_1448 ?_
  refine r_sld F hS hXs hsl hb (inr_w32 _) (law_ix hij hjL hL 2 (by decide) (by decide)).1 (law_ix hij hjL hL 2 (by decide) (by decide)).2 d_Law_law_1449 ?_
  obtain ⟨q220, hq220, hT⟩ := q_obind hT
  refine r_backI F hS (r_runV (k := 191) (N := 68) (T := T1) (As := [vI (xs ((w32 (v4_ + 1))).toNat).toInt, vI (xs ((w32 (v4_ + 2))).toNat).toInt]) F hS (show 191 < 232 by decide) (show shK 191 = 5 from rfl) rfl (c_MO_voted l (Nat.le_of_ble_eq_true rfl) M (xs ((w32 (v4_ + 1))).toNat).toInt (xs ((w32 (v4_ + 2))).toNat).toInt (q_inr_toInt _) (q_inr_toInt _) _ hq220) gs_WardFallsLaw_179 hd_MO_voted ⟨Nat.le_of_ble_eq_true rfl, Nat.le_of_ble_eq_true rfl⟩ rfl hl.1 (Nat.le_of_ble_eq_true rfl) (law_rc hcs1 hjL hL) rfl d_Law_law_1450) (fun H locs hS h221 => ?_)
  refine r_icmp_eq (tgt := 1571) F.hx F.hb h219 h221 d_Law_law_1453 (by decide) (fun c222 => ?_) (fun c222 => ?_)
  · replace hT := (if_pos c222).symm.trans hT
    exact k_Law_law_L1571 l hlf hL F hX hXs hsl hb hlk hr bk23 j hjL hbk23 (q220.1) v4_ hv4_ hij _ _ hcs1 _ _ _ hS (lv_sub hl [0, 1, 2, 3, 4] rfl) hT
  · replace hT := (if_neg c222).symm.trans hT
    refine r_iconst F.hx F.hb d_Law_law_1456 ?_
    exact absurd hT (by decide)
set_option maxHeartbeats 16000000 in
set_option maxRecDepth 100000 in
theorem k_Law_law_L1458 (l : Launch) (hlf : l.stackTraces = false) {p : Program} {e : Env} {s : State} {m : MethodId} {below : List Frame} {meth : Method} {c : Code} {b : Nat} {C : CT} {scr L : Nat} {xs : Nat → Int32} (hL : L ≤ 3072) (F : Cx p m c b_Law_law 7 s ([.ref scr] : List Value).toArray "WardFallsLaw" C 232 232) (hX : EX b s) (hXs : va_X scr L xs s s.heap) (hsl : scr < s.heap.size) (hb : b = s.heap.size) (hlk : meth.locks = false) (hr : meth.sig.returnType = ret) (bk23 : Mem → Int → Option Int) (j : Nat) (hjL : 6 * j + 6 ≤ L) (hbk23 : ∀ (M : Mem) (v4_ : Int) (hv4_ : InR v4_) (hij : v4_ = 6 * ((j + 1 : Nat) : Int)) (cells slots : Nat) (hcs : cells ≤ 232 + (j + 1) ∧ slots ≤ 11930 + 6 * (j + 1)) (H : Heap) (locs : List Loc) (ls : Array Slot), St b C 232 M s H locs → lv_has ls 7 [(0, .ref scr), (1, .ref (b + 0)), (2, .ref (b + 191)), (3, .ref (b + 231)), (4, vI v4_)] → bk23 M v4_ = some 1 → W p l e room_1 s m #[Value.ref scr] below meth c H locs cells slots (lw_Z below #[Value.ref scr] s) (F0 m 23 ls [])) (M : Mem) (v4_ : Int) (hv4_ : InR v4_) (hij : v4_ = 6 * (j : Int)) (cells slots : Nat) (hcs : cells ≤ 232 + j ∧ slots ≤ 11930 + 6 * j) (H : Heap) (locs : List Loc) (ls : Array Slot) (hS : St b C 232 M s H locs) (hl : lv_has ls 7 [(0, .ref scr), (1, .ref (b + 0)), (2, .ref (b + 191)), (3, .ref (b + 231)), (4, vI v4_)]) (hT : t_Law_law_L1458 xs L bk23 M v4_ = some 1) : W p l e room_1 s m #[Value.ref scr] below meth c H locs cells slots (lw_Z below #[Value.ref scr] s) (F0 m 1458 ls []) := by
  have hcs1 : cells ≤ 233 + j ∧ slots ≤ 11936 + 6 * j := ⟨by omega, by omega⟩
  unfold t_Law_law_L1458 at hT
  refine lv_aload_n F.hx F.hb d_Law_law_1458 rfl (lv_at hl 1 rfl) ?_
  refine lv_aload_n F.hx F.hb d_Law_law_1459 rfl (lv_at hl 0 rfl) ?_
  refine lv_iload F.hx F.hb d_Law_law_1460 (lv_at hl 4 rfl) ?_
  refine r_iconst F.hx F.hb d_Law_law_1462 ?_
  refine r_iadd F.hx F.hb d_Law_law_1463 ?_
  refine r_sld F hS hXs hsl hb (inr_w32 _) (law_ix hij hjL hL 1 (by decide) (by decide)).1 (law_ix hij hjL hL 1 (by decide) (by decide)).2 d_Law_law_1464 ?_
  refine lv_aload_n F.hx F.hb d_Law_law_1465 rfl (lv_at hl 0 rfl) ?_
  refine lv_iload F.hx F.hb d_Law_law_1466 (lv_at hl 4 rfl) ?_
  refine r_iconst F.hx F.hb d_Law_law_1468 ?_
  refine r_iadd F.hx F.hb d_Law_law_1469 ?_
  refine r_sld F hS hXs hsl hb (inr_w32 _) (law_ix hij hjL hL 2 (by decide) (by decide)).1 (law_ix hij hjL hL 2 (by decide) (by decide)).2 d_Law_law_1470 ?_
  refine lv_aload_n F.hx F.hb d_Law_law_1471 rfl (lv_at hl 0 rfl) ?_
  refine lv_iload F.hx F.hb d_Law_law_1472 (lv_at hl 4 rfl) ?_
  refine r_iconst F.hx F.hb d_Law_law_1474 ?_
  refine r_iadd F.hx F.hb d_Law_law_1475 ?_
  refine r_sld F hS hXs hsl hb (inr_w32 _) (law_ix hij hjL hL 3 (by decide) (by decide)).1 (law_ix hij hjL hL 3 (by decide) (by decide)).2 d_Law_law_1476 ?_
  obtain ⟨q223, hq223, hT⟩ := q_obind hT
  refine r_backI F hS (r_runV (k := 0) (N := 19) (T := T0) (As := [vI (xs ((w32 (v4_ + 1))).toNat).toInt, vI (xs ((w32 (v4_ + 2))).toNat).toInt, vI (xs ((w32 (v4_ + 3))).toNat).toInt]) F hS (show 0 < 232 by decide) (show shK 0 = 4 from rfl) rfl (c_WF_tried l (Nat.le_of_ble_eq_true rfl) M (xs ((w32 (v4_ + 1))).toNat).toInt (xs ((w32 (v4_ + 2))).toNat).toInt (xs ((w32 (v4_ + 3))).toNat).toInt (q_inr_toInt _) (q_inr_toInt _) (q_inr_toInt _) _ hq223) gs_WardFallsLaw_180 hd_WF_tried ⟨Nat.le_of_ble_eq_true rfl, Nat.le_of_ble_eq_true rfl⟩ rfl hl.1 (Nat.le_of_ble_eq_true rfl) (law_rc hcs1 hjL hL) rfl d_Law_law_1477) (fun H locs hS h224 => ?_)
  refine lv_aload_n F.hx F.hb d_Law_law_1480 rfl (lv_at hl 2 rfl) ?_
  refine lv_aload_n F.hx F.hb d_Law_law_1481 rfl (lv_at hl 0 rfl) ?_
  refine lv_iload F.hx F.hb d_Law_law_1482 (lv_at hl 4 rfl) ?_
  refine r_iconst F.hx F.hb d_Law_law_1484 ?_
  refine r_iadd F.hx F.hb d_Law_law_1485 ?_
  refine r_sld F hS hXs hsl hb (inr_w32 _) (law_ix hij hjL hL 1 (by decide) (by decide)).1 (law_ix hij hjL hL 1 (by decide) (by decide)).2 d_Law_law_1486 ?_
  refine lv_aload_n F.hx F.hb d_Law_law_1487 rfl (lv_at hl 0 rfl) ?_
  refine lv_iload F.hx F.hb d_Law_law_1488 (lv_at hl 4 rfl) ?_
  refine r_iconst F.hx F.hb d_Law_law_1490 ?_
  refine r_iadd F.hx F.hb d_Law_law_1491 ?_
  refine r_sld F hS hXs hsl hb (inr_w32 _) (law_ix hij hjL hL 2 (by decide) (by decide)).1 (law_ix hij hjL hL 2 (by decide) (by decide)).2 d_Law_law_1492 ?_
  refine lv_aload_n F.hx F.hb d_Law_law_1493 rfl (lv_at hl 0 rfl) ?_
  refine lv_iload F.hx F.hb d_Law_law_1494 (lv_at hl 4 rfl) ?_
  refine r_iconst F.hx F.hb d_Law_law_1496 ?_
  refine r_iadd F.hx F.hb d_Law_law_1497 ?_
  refine r_sld F hS hXs hsl hb (inr_w32 _) (law_ix hij hjL hL 3 (by decide) (by decide)).1 (law_ix hij hjL hL 3 (by decide) (by decide)).2 d_Law_law_1498 ?_
  obtain ⟨q225, hq225, hT⟩ := q_obind hT
  refine r_backI F hS (r_runV (k := 191) (N := 68) (T := T1) (As := [vI (xs ((w32 (v4_ + 1))).toNat).toInt, vI (xs ((w32 (v4_ + 2))).toNat).toInt, vI (xs ((w32 (v4_ + 3))).toNat).toInt]) F hS (show 191 < 232 by decide) (show shK 191 = 5 from rfl) rfl (c_MO_tried l (Nat.le_of_ble_eq_true rfl) (q223.1) (xs ((w32 (v4_ + 1))).toNat).toInt (xs ((w32 (v4_ + 2))).toNat).toInt (xs ((w32 (v4_ + 3))).toNat).toInt (q_inr_toInt _) (q_inr_toInt _) (q_inr_toInt _) _ hq225) gs_WardFallsLaw_183 hd_MO_tried ⟨Nat.le_of_ble_eq_true rfl, Nat.le_of_ble_eq_true rfl⟩ rfl hl.1 (Nat.le_of_ble_eq_true rfl) (law_rc hcs1 hjL hL) rfl d_Law_law_1499) (fun H locs hS h226 => ?_)
  refine r_icmp_eq (tgt := 1571) F.hx F.hb h224 h226 d_Law_law_1502 (by decide) (fun c227 => ?_) (fun c227 => ?_)
  · replace hT := (if_pos c227).symm.trans hT
    exact k_Law_law_L1571 l hlf hL F hX hXs hsl hb hlk hr bk23 j hjL hbk23 (q225.1) v4_ hv4_ hij _ _ hcs1 _ _ _ hS (lv_sub hl [0, 1, 2, 3, 4] rfl) hT
  · replace hT := (if_neg c227).symm.trans hT
    refine r_iconst F.hx F.hb d_Law_law_1505 ?_
    exact absurd hT (by decide)
set_option maxHeartbeats 16000000 in
set_option maxRecDepth 100000 in
theorem k_Law_law_L1507 (l : Launch) (hlf : l.stackTraces = false) {p : Program} {e : Env} {s : State} {m : MethodId} {below : List Frame} {meth : Method} {c : Code} {b : Nat} {C : CT} {scr L : Nat} {xs : Nat → Int32} (hL : L ≤ 3072) (F : Cx p m c b_Law_law 7 s ([.ref scr] : List Value).toArray "WardFallsLaw" C 232 232) (hX : EX b s) (hXs : va_X scr L xs s s.heap) (hsl : scr < s.heap.size) (hb : b = s.heap.size) (hlk : meth.locks = false) (hr : meth.sig.returnType = ret) (bk23 : Mem → Int → Option Int) (j : Nat) (hjL : 6 * j + 6 ≤ L) (hbk23 : ∀ (M : Mem) (v4_ : Int) (hv4_ : InR v4_) (hij : v4_ = 6 * ((j + 1 : Nat) : Int)) (cells slots : Nat) (hcs : cells ≤ 232 + (j + 1) ∧ slots ≤ 11930 + 6 * (j + 1)) (H : Heap) (locs : List Loc) (ls : Array Slot), St b C 232 M s H locs → lv_has ls 7 [(0, .ref scr), (1, .ref (b + 0)), (2, .ref (b + 191)), (3, .ref (b + 231)), (4, vI v4_)] → bk23 M v4_ = some 1 → W p l e room_1 s m #[Value.ref scr] below meth c H locs cells slots (lw_Z below #[Value.ref scr] s) (F0 m 23 ls [])) (M : Mem) (v4_ : Int) (hv4_ : InR v4_) (hij : v4_ = 6 * (j : Int)) (cells slots : Nat) (hcs : cells ≤ 232 + j ∧ slots ≤ 11930 + 6 * j) (H : Heap) (locs : List Loc) (ls : Array Slot) (hS : St b C 232 M s H locs) (hl : lv_has ls 7 [(0, .ref scr), (1, .ref (b + 0)), (2, .ref (b + 191)), (3, .ref (b + 231)), (4, vI v4_)]) (hT : t_Law_law_L1507 xs L bk23 M v4_ = some 1) : W p l e room_1 s m #[Value.ref scr] below meth c H locs cells slots (lw_Z below #[Value.ref scr] s) (F0 m 1507 ls []) := by
  have hcs1 : cells ≤ 233 + j ∧ slots ≤ 11936 + 6 * j := ⟨by omega, by omega⟩
  unfold t_Law_law_L1507 at hT
  refine lv_aload_n F.hx F.hb d_Law_law_1507 rfl (lv_at hl 1 rfl) ?_
  obtain ⟨q228, hq228⟩ : ∃ q, q = (t_WF_undo M) := ⟨_, rfl⟩
  replace hT := qlet_eq hT hq228
  refine r_backI F hS (r_runV (k := 0) (N := 19) (T := T0) (As := []) F hS (show 0 < 232 by decide) (show shK 0 = 4 from rfl) rfl (c_WF_undo l (Nat.le_of_ble_eq_true rfl) M _ hq228.symm) gs_WardFallsLaw_184 hd_WF_undo ⟨Nat.le_of_ble_eq_true rfl, Nat.le_of_ble_eq_true rfl⟩ rfl hl.1 (Nat.le_of_ble_eq_true rfl) (law_rc hcs1 hjL hL) rfl d_Law_law_1508) (fun H locs hS h229 => ?_)
  refine lv_aload_n F.hx F.hb d_Law_law_1511 rfl (lv_at hl 2 rfl) ?_
  obtain ⟨q230, hq230, hT⟩ := q_obind hT
  refine r_backI F hS (r_runV (k := 191) (N := 68) (T := T1) (As := []) F hS (show 191 < 232 by decide) (show shK 191 = 5 from rfl) rfl (c_MO_undo l (Nat.le_of_ble_eq_true rfl) (q228.1) _ hq230) gs_WardFallsLaw_187 hd_MO_undo ⟨Nat.le_of_ble_eq_true rfl, Nat.le_of_ble_eq_true rfl⟩ rfl hl.1 (Nat.le_of_ble_eq_true rfl) (law_rc hcs1 hjL hL) rfl d_Law_law_1512) (fun H locs hS h231 => ?_)
  refine r_icmp_eq (tgt := 1571) F.hx F.hb h229 h231 d_Law_law_1515 (by decide) (fun c232 => ?_) (fun c232 => ?_)
  · replace hT := (if_pos c232).symm.trans hT
    exact k_Law_law_L1571 l hlf hL F hX hXs hsl hb hlk hr bk23 j hjL hbk23 (q230.1) v4_ hv4_ hij _ _ hcs1 _ _ _ hS (lv_sub hl [0, 1, 2, 3, 4] rfl) hT
  · replace hT := (if_neg c232).symm.trans hT
    refine r_iconst F.hx F.hb d_Law_law_1518 ?_
    exact absurd hT (by decide)
set_option maxHeartbeats 16000000 in
set_option maxRecDepth 100000 in
theorem k_Law_law_L1520 (l : Launch) (hlf : l.stackTraces = false) {p : Program} {e : Env} {s : State} {m : MethodId} {below : List Frame} {meth : Method} {c : Code} {b : Nat} {C : CT} {scr L : Nat} {xs : Nat → Int32} (hL : L ≤ 3072) (F : Cx p m c b_Law_law 7 s ([.ref scr] : List Value).toArray "WardFallsLaw" C 232 232) (hX : EX b s) (hXs : va_X scr L xs s s.heap) (hsl : scr < s.heap.size) (hb : b = s.heap.size) (hlk : meth.locks = false) (hr : meth.sig.returnType = ret) (bk23 : Mem → Int → Option Int) (j : Nat) (hjL : 6 * j + 6 ≤ L) (hbk23 : ∀ (M : Mem) (v4_ : Int) (hv4_ : InR v4_) (hij : v4_ = 6 * ((j + 1 : Nat) : Int)) (cells slots : Nat) (hcs : cells ≤ 232 + (j + 1) ∧ slots ≤ 11930 + 6 * (j + 1)) (H : Heap) (locs : List Loc) (ls : Array Slot), St b C 232 M s H locs → lv_has ls 7 [(0, .ref scr), (1, .ref (b + 0)), (2, .ref (b + 191)), (3, .ref (b + 231)), (4, vI v4_)] → bk23 M v4_ = some 1 → W p l e room_1 s m #[Value.ref scr] below meth c H locs cells slots (lw_Z below #[Value.ref scr] s) (F0 m 23 ls [])) (M : Mem) (v4_ : Int) (hv4_ : InR v4_) (hij : v4_ = 6 * (j : Int)) (cells slots : Nat) (hcs : cells ≤ 232 + j ∧ slots ≤ 11930 + 6 * j) (H : Heap) (locs : List Loc) (ls : Array Slot) (hS : St b C 232 M s H locs) (hl : lv_has ls 7 [(0, .ref scr), (1, .ref (b + 0)), (2, .ref (b + 191)), (3, .ref (b + 231)), (4, vI v4_)]) (hT : t_Law_law_L1520 xs L bk23 M v4_ = some 1) : W p l e room_1 s m #[Value.ref scr] below meth c H locs cells slots (lw_Z below #[Value.ref scr] s) (F0 m 1520 ls []) := by
  have hcs1 : cells ≤ 233 + j ∧ slots ≤ 11936 + 6 * j := ⟨by omega, by omega⟩
  unfold t_Law_law_L1520 at hT
  refine lv_aload_n F.hx F.hb d_Law_law_1520 rfl (lv_at hl 1 rfl) ?_
  obtain ⟨q233, hq233⟩ : ∃ q, q = (t_WF_keep M) := ⟨_, rfl⟩
  replace hT := qlet_eq hT hq233
  refine r_backI F hS (r_runV (k := 0) (N := 19) (T := T0) (As := []) F hS (show 0 < 232 by decide) (show shK 0 = 4 from rfl) rfl (c_WF_keep l (Nat.le_of_ble_eq_true rfl) M _ hq233.symm) gs_WardFallsLaw_188 hd_WF_keep ⟨Nat.le_of_ble_eq_true rfl, Nat.le_of_ble_eq_true rfl⟩ rfl hl.1 (Nat.le_of_ble_eq_true rfl) (law_rc hcs1 hjL hL) rfl d_Law_law_1521) (fun H locs hS h234 => ?_)
  refine lv_aload_n F.hx F.hb d_Law_law_1524 rfl (lv_at hl 2 rfl) ?_
  obtain ⟨q235, hq235, hT⟩ := q_obind hT
  refine r_backI F hS (r_runV (k := 191) (N := 68) (T := T1) (As := []) F hS (show 191 < 232 by decide) (show shK 191 = 5 from rfl) rfl (c_MO_keep l (Nat.le_of_ble_eq_true rfl) (q233.1) _ hq235) gs_WardFallsLaw_191 hd_MO_keep ⟨Nat.le_of_ble_eq_true rfl, Nat.le_of_ble_eq_true rfl⟩ rfl hl.1 (Nat.le_of_ble_eq_true rfl) (law_rc hcs1 hjL hL) rfl d_Law_law_1525) (fun H locs hS h236 => ?_)
  refine r_icmp_eq (tgt := 1571) F.hx F.hb h234 h236 d_Law_law_1528 (by decide) (fun c237 => ?_) (fun c237 => ?_)
  · replace hT := (if_pos c237).symm.trans hT
    exact k_Law_law_L1571 l hlf hL F hX hXs hsl hb hlk hr bk23 j hjL hbk23 (q235.1) v4_ hv4_ hij _ _ hcs1 _ _ _ hS (lv_sub hl [0, 1, 2, 3, 4] rfl) hT
  · replace hT := (if_neg c237).symm.trans hT
    refine r_iconst F.hx F.hb d_Law_law_1531 ?_
    exact absurd hT (by decide)
set_option maxHeartbeats 16000000 in
set_option maxRecDepth 100000 in
theorem k_Law_law_L1533 (l : Launch) (hlf : l.stackTraces = false) {p : Program} {e : Env} {s : State} {m : MethodId} {below : List Frame} {meth : Method} {c : Code} {b : Nat} {C : CT} {scr L : Nat} {xs : Nat → Int32} (hL : L ≤ 3072) (F : Cx p m c b_Law_law 7 s ([.ref scr] : List Value).toArray "WardFallsLaw" C 232 232) (hX : EX b s) (hXs : va_X scr L xs s s.heap) (hsl : scr < s.heap.size) (hb : b = s.heap.size) (hlk : meth.locks = false) (hr : meth.sig.returnType = ret) (bk23 : Mem → Int → Option Int) (j : Nat) (hjL : 6 * j + 6 ≤ L) (hbk23 : ∀ (M : Mem) (v4_ : Int) (hv4_ : InR v4_) (hij : v4_ = 6 * ((j + 1 : Nat) : Int)) (cells slots : Nat) (hcs : cells ≤ 232 + (j + 1) ∧ slots ≤ 11930 + 6 * (j + 1)) (H : Heap) (locs : List Loc) (ls : Array Slot), St b C 232 M s H locs → lv_has ls 7 [(0, .ref scr), (1, .ref (b + 0)), (2, .ref (b + 191)), (3, .ref (b + 231)), (4, vI v4_)] → bk23 M v4_ = some 1 → W p l e room_1 s m #[Value.ref scr] below meth c H locs cells slots (lw_Z below #[Value.ref scr] s) (F0 m 23 ls [])) (M : Mem) (v4_ : Int) (hv4_ : InR v4_) (hij : v4_ = 6 * (j : Int)) (cells slots : Nat) (hcs : cells ≤ 232 + j ∧ slots ≤ 11930 + 6 * j) (H : Heap) (locs : List Loc) (ls : Array Slot) (hS : St b C 232 M s H locs) (hl : lv_has ls 7 [(0, .ref scr), (1, .ref (b + 0)), (2, .ref (b + 191)), (3, .ref (b + 231)), (4, vI v4_)]) (hT : t_Law_law_L1533 xs L bk23 M v4_ = some 1) : W p l e room_1 s m #[Value.ref scr] below meth c H locs cells slots (lw_Z below #[Value.ref scr] s) (F0 m 1533 ls []) := by
  have hcs1 : cells ≤ 233 + j ∧ slots ≤ 11936 + 6 * j := ⟨by omega, by omega⟩
  unfold t_Law_law_L1533 at hT
  refine lv_aload_n F.hx F.hb d_Law_law_1533 rfl (lv_at hl 1 rfl) ?_
  obtain ⟨q238, hq238⟩ : ∃ q, q = (t_WF_back M) := ⟨_, rfl⟩
  replace hT := qlet_eq hT hq238
  refine r_backI F hS (r_runV (k := 0) (N := 19) (T := T0) (As := []) F hS (show 0 < 232 by decide) (show shK 0 = 4 from rfl) rfl (c_WF_back l (Nat.le_of_ble_eq_true rfl) M _ hq238.symm) gs_WardFallsLaw_192 hd_WF_back ⟨Nat.le_of_ble_eq_true rfl, Nat.le_of_ble_eq_true rfl⟩ rfl hl.1 (Nat.le_of_ble_eq_true rfl) (law_rc hcs1 hjL hL) rfl d_Law_law_1534) (fun H locs hS h239 => ?_)
  refine lv_aload_n F.hx F.hb d_Law_law_1537 rfl (lv_at hl 2 rfl) ?_
  obtain ⟨q240, hq240, hT⟩ := q_obind hT
  refine r_backI F hS (r_runV (k := 191) (N := 68) (T := T1) (As := []) F hS (show 191 < 232 by decide) (show shK 191 = 5 from rfl) rfl (c_MO_back l (Nat.le_of_ble_eq_true rfl) (q238.1) _ hq240) gs_WardFallsLaw_195 hd_MO_back ⟨Nat.le_of_ble_eq_true rfl, Nat.le_of_ble_eq_true rfl⟩ rfl hl.1 (Nat.le_of_ble_eq_true rfl) (law_rc hcs1 hjL hL) rfl d_Law_law_1538) (fun H locs hS h241 => ?_)
  refine r_icmp_eq (tgt := 1571) F.hx F.hb h239 h241 d_Law_law_1541 (by decide) (fun c242 => ?_) (fun c242 => ?_)
  · replace hT := (if_pos c242).symm.trans hT
    exact k_Law_law_L1571 l hlf hL F hX hXs hsl hb hlk hr bk23 j hjL hbk23 (q240.1) v4_ hv4_ hij _ _ hcs1 _ _ _ hS (lv_sub hl [0, 1, 2, 3, 4] rfl) hT
  · replace hT := (if_neg c242).symm.trans hT
    refine r_iconst F.hx F.hb d_Law_law_1544 ?_
    exact absurd hT (by decide)
set_option maxHeartbeats 16000000 in
set_option maxRecDepth 100000 in
theorem k_Law_law_L1546 (l : Launch) (hlf : l.stackTraces = false) {p : Program} {e : Env} {s : State} {m : MethodId} {below : List Frame} {meth : Method} {c : Code} {b : Nat} {C : CT} {scr L : Nat} {xs : Nat → Int32} (hL : L ≤ 3072) (F : Cx p m c b_Law_law 7 s ([.ref scr] : List Value).toArray "WardFallsLaw" C 232 232) (hX : EX b s) (hXs : va_X scr L xs s s.heap) (hsl : scr < s.heap.size) (hb : b = s.heap.size) (hlk : meth.locks = false) (hr : meth.sig.returnType = ret) (bk23 : Mem → Int → Option Int) (j : Nat) (hjL : 6 * j + 6 ≤ L) (hbk23 : ∀ (M : Mem) (v4_ : Int) (hv4_ : InR v4_) (hij : v4_ = 6 * ((j + 1 : Nat) : Int)) (cells slots : Nat) (hcs : cells ≤ 232 + (j + 1) ∧ slots ≤ 11930 + 6 * (j + 1)) (H : Heap) (locs : List Loc) (ls : Array Slot), St b C 232 M s H locs → lv_has ls 7 [(0, .ref scr), (1, .ref (b + 0)), (2, .ref (b + 191)), (3, .ref (b + 231)), (4, vI v4_)] → bk23 M v4_ = some 1 → W p l e room_1 s m #[Value.ref scr] below meth c H locs cells slots (lw_Z below #[Value.ref scr] s) (F0 m 23 ls [])) (M : Mem) (v4_ : Int) (hv4_ : InR v4_) (hij : v4_ = 6 * (j : Int)) (cells slots : Nat) (hcs : cells ≤ 232 + j ∧ slots ≤ 11930 + 6 * j) (H : Heap) (locs : List Loc) (ls : Array Slot) (hS : St b C 232 M s H locs) (hl : lv_has ls 7 [(0, .ref scr), (1, .ref (b + 0)), (2, .ref (b + 191)), (3, .ref (b + 231)), (4, vI v4_)]) (hT : t_Law_law_L1546 xs L bk23 M v4_ = some 1) : W p l e room_1 s m #[Value.ref scr] below meth c H locs cells slots (lw_Z below #[Value.ref scr] s) (F0 m 1546 ls []) := by
  have hcs1 : cells ≤ 233 + j ∧ slots ≤ 11936 + 6 * j := ⟨by omega, by omega⟩
  unfold t_Law_law_L1546 at hT
  refine lv_aload_n F.hx F.hb d_Law_law_1546 rfl (lv_at hl 1 rfl) ?_
  refine lv_aload_n F.hx F.hb d_Law_law_1547 rfl (lv_at hl 0 rfl) ?_
  refine lv_iload F.hx F.hb d_Law_law_1548 (lv_at hl 4 rfl) ?_
  refine r_iconst F.hx F.hb d_Law_law_1550 ?_
  refine r_iadd F.hx F.hb d_Law_law_1551 ?_
  refine r_sld F hS hXs hsl hb (inr_w32 _) (law_ix hij hjL hL 1 (by decide) (by decide)).1 (law_ix hij hjL hL 1 (by decide) (by decide)).2 d_Law_law_1552 ?_
  obtain ⟨q243, hq243, hT⟩ := q_obind hT
  refine r_backI F hS (r_runV (k := 0) (N := 19) (T := T0) (As := [vI (xs ((w32 (v4_ + 1))).toNat).toInt]) F hS (show 0 < 232 by decide) (show shK 0 = 4 from rfl) rfl (c_WF_count l (Nat.le_of_ble_eq_true rfl) M (xs ((w32 (v4_ + 1))).toNat).toInt (q_inr_toInt _) _ hq243) gs_WardFallsLaw_196 hd_WF_count ⟨Nat.le_of_ble_eq_true rfl, Nat.le_of_ble_eq_true rfl⟩ rfl hl.1 (Nat.le_of_ble_eq_true rfl) (law_rc hcs1 hjL hL) rfl d_Law_law_1553) (fun H locs hS h244 => ?_)
  refine lv_aload_n F.hx F.hb d_Law_law_1556 rfl (lv_at hl 2 rfl) ?_
  refine lv_aload_n F.hx F.hb d_Law_law_1557 rfl (lv_at hl 0 rfl) ?_
  refine lv_iload F.hx F.hb d_Law_law_1558 (lv_at hl 4 rfl) ?_
  refine r_iconst F.hx F.hb d_Law_law_1560 ?_
  refine r_iadd F.hx F.hb d_Law_law_1561 ?_
  refine r_sld F hS hXs hsl hb (inr_w32 _) (law_ix hij hjL hL 1 (by decide) (by decide)).1 (law_ix hij hjL hL 1 (by decide) (by decide)).2 d_Law_law_1562 ?_
  obtain ⟨q245, hq245, hT⟩ := q_obind hT
  refine r_backI F hS (r_runV (k := 191) (N := 68) (T := T1) (As := [vI (xs ((w32 (v4_ + 1))).toNat).toInt]) F hS (show 191 < 232 by decide) (show shK 191 = 5 from rfl) rfl (c_MO_count l (Nat.le_of_ble_eq_true rfl) M (xs ((w32 (v4_ + 1))).toNat).toInt (q_inr_toInt _) _ hq245) gs_WardFallsLaw_199 hd_MO_count ⟨Nat.le_of_ble_eq_true rfl, Nat.le_of_ble_eq_true rfl⟩ rfl hl.1 (Nat.le_of_ble_eq_true rfl) (law_rc hcs1 hjL hL) rfl d_Law_law_1563) (fun H locs hS h246 => ?_)
  refine r_icmp_eq (tgt := 1571) F.hx F.hb h244 h246 d_Law_law_1566 (by decide) (fun c247 => ?_) (fun c247 => ?_)
  · replace hT := (if_pos c247).symm.trans hT
    exact k_Law_law_L1571 l hlf hL F hX hXs hsl hb hlk hr bk23 j hjL hbk23 (q245.1) v4_ hv4_ hij _ _ hcs1 _ _ _ hS (lv_sub hl [0, 1, 2, 3, 4] rfl) hT
  · replace hT := (if_neg c247).symm.trans hT
    refine r_iconst F.hx F.hb d_Law_law_1569 ?_
    exact absurd hT (by decide)
set_option maxHeartbeats 16000000 in
set_option maxRecDepth 100000 in
theorem k_Law_law_L23 (l : Launch) (hlf : l.stackTraces = false) {p : Program} {e : Env} {s : State} {m : MethodId} {below : List Frame} {meth : Method} {c : Code} {b : Nat} {C : CT} {scr L : Nat} {xs : Nat → Int32} (hL : L ≤ 3072) (F : Cx p m c b_Law_law 7 s ([.ref scr] : List Value).toArray "WardFallsLaw" C 232 232) (hX : EX b s) (hXs : va_X scr L xs s s.heap) (hsl : scr < s.heap.size) (hb : b = s.heap.size) (hlk : meth.locks = false) (hr : meth.sig.returnType = ret) : ∀ (fu : Nat) (M : Mem) (v4_ : Int) (hv4_ : InR v4_) (j : Nat) (hij : v4_ = 6 * (j : Int)) (hj : j ≤ 512) (cells slots : Nat) (hcs : cells ≤ 232 + j ∧ slots ≤ 11930 + 6 * j) (H : Heap) (locs : List Loc) (ls : Array Slot), St b C 232 M s H locs → lv_has ls 7 [(0, .ref scr), (1, .ref (b + 0)), (2, .ref (b + 191)), (3, .ref (b + 231)), (4, vI v4_)] → t_Law_law_L23 xs L fu M v4_ = some 1 → W p l e room_1 s m #[Value.ref scr] below meth c H locs cells slots (lw_Z below #[Value.ref scr] s) (F0 m 23 ls []) := by
  intro fu
  induction fu with
  | zero => intro M v4_ hv4_ j hij hj cells slots hcs H locs ls hS hl hT; exact absurd hT (by simp [t_Law_law_L23])
  | succ fu ih =>
    intro M v4_ hv4_ j hij hj cells slots hcs H locs ls hS hl hT
    rw [t_Law_law_L23] at hT
    refine lv_iload F.hx F.hb d_Law_law_23 (lv_at hl 4 rfl) ?_
    refine lv_aload_n F.hx F.hb d_Law_law_25 rfl (lv_at hl 0 rfl) ?_
    refine r_slen F hS hXs hsl hb d_Law_law_26 ?_
    refine r_bipush F.hx F.hb d_Law_law_27 rfl ?_
    refine r_isub F.hx F.hb d_Law_law_29 ?_
    refine r_icmp_gt (tgt := 1577) F.hx F.hb hv4_ (inr_w32 _) d_Law_law_30 (by decide) (fun c1 => ?_) (fun c1 => ?_)
    · replace hT := (if_pos c1).symm.trans hT
      refine r_iconst F.hx F.hb d_Law_law_1577 ?_
      exact law_ret F hr hlk hS hb hcs hj d_Law_law_1578
    · replace hT := (if_neg c1).symm.trans hT
      refine lv_aload_n F.hx F.hb d_Law_law_33 rfl (lv_at hl 0 rfl) ?_
      refine lv_iload F.hx F.hb d_Law_law_34 (lv_at hl 4 rfl) ?_
      have hjL : 6 * j + 6 ≤ L := law_jL hij hL c1
      have hcs1 : cells ≤ 233 + j ∧ slots ≤ 11936 + 6 * j := ⟨by omega, by omega⟩
      refine r_sld F hS hXs hsl hb hv4_ (law_i0 hij hjL).1 (law_i0 hij hjL).2 d_Law_law_36 ?_
      refine r_bipush F.hx F.hb d_Law_law_37 rfl ?_
      refine r_iand F.hx F.hb d_Law_law_39 ?_
      rcases q_ite hT with ⟨c2, hT⟩ | ⟨c2, hT⟩
      · refine r_tableIn (i := 0) (tgt := 220) F.hx F.hb (q_inr_toInt _) c2 d_Law_law_40 (by decide) (by decide) rfl (by decide) ?_
        exact k_Law_law_L220 l hlf hL F hX hXs hsl hb hlk hr (fun a0_ a1_ => t_Law_law_L23 xs L fu a0_ a1_) j hjL (fun M v hv hij2 cells slots hcs2 H locs ls hS hl hT => ih M v hv (j + 1) hij2 (by omega) cells slots hcs2 H locs ls hS hl hT) M v4_ hv4_ hij _ _ hcs _ _ _ hS (lv_sub hl [0, 1, 2, 3, 4] rfl) hT
      ·
        rcases q_ite hT with ⟨c3, hT⟩ | ⟨c3, hT⟩
        · refine r_tableIn (i := 1) (tgt := 293) F.hx F.hb (q_inr_toInt _) c3 d_Law_law_40 (by decide) (by decide) rfl (by decide) ?_
          exact k_Law_law_L293 l hlf hL F hX hXs hsl hb hlk hr (fun a0_ a1_ => t_Law_law_L23 xs L fu a0_ a1_) j hjL (fun M v hv hij2 cells slots hcs2 H locs ls hS hl hT => ih M v hv (j + 1) hij2 (by omega) cells slots hcs2 H locs ls hS hl hT) M v4_ hv4_ hij _ _ hcs _ _ _ hS (lv_sub hl [0, 1, 2, 3, 4] rfl) hT
        ·
          rcases q_ite hT with ⟨c4, hT⟩ | ⟨c4, hT⟩
          · refine r_tableIn (i := 2) (tgt := 318) F.hx F.hb (q_inr_toInt _) c4 d_Law_law_40 (by decide) (by decide) rfl (by decide) ?_
            exact k_Law_law_L318 l hlf hL F hX hXs hsl hb hlk hr (fun a0_ a1_ => t_Law_law_L23 xs L fu a0_ a1_) j hjL (fun M v hv hij2 cells slots hcs2 H locs ls hS hl hT => ih M v hv (j + 1) hij2 (by omega) cells slots hcs2 H locs ls hS hl hT) M v4_ hv4_ hij _ _ hcs _ _ _ hS (lv_sub hl [0, 1, 2, 3, 4] rfl) hT
          ·
            rcases q_ite hT with ⟨c5, hT⟩ | ⟨c5, hT⟩
            · refine r_tableIn (i := 3) (tgt := 343) F.hx F.hb (q_inr_toInt _) c5 d_Law_law_40 (by decide) (by decide) rfl (by decide) ?_
              exact k_Law_law_L343 l hlf hL F hX hXs hsl hb hlk hr (fun a0_ a1_ => t_Law_law_L23 xs L fu a0_ a1_) j hjL (fun M v hv hij2 cells slots hcs2 H locs ls hS hl hT => ih M v hv (j + 1) hij2 (by omega) cells slots hcs2 H locs ls hS hl hT) M v4_ hv4_ hij _ _ hcs _ _ _ hS (lv_sub hl [0, 1, 2, 3, 4] rfl) hT
            ·
              rcases q_ite hT with ⟨c6, hT⟩ | ⟨c6, hT⟩
              · refine r_tableIn (i := 4) (tgt := 380) F.hx F.hb (q_inr_toInt _) c6 d_Law_law_40 (by decide) (by decide) rfl (by decide) ?_
                exact k_Law_law_L380 l hlf hL F hX hXs hsl hb hlk hr (fun a0_ a1_ => t_Law_law_L23 xs L fu a0_ a1_) j hjL (fun M v hv hij2 cells slots hcs2 H locs ls hS hl hT => ih M v hv (j + 1) hij2 (by omega) cells slots hcs2 H locs ls hS hl hT) M v4_ hv4_ hij _ _ hcs _ _ _ hS (lv_sub hl [0, 1, 2, 3, 4] rfl) hT
              ·
                rcases q_ite hT with ⟨c7, hT⟩ | ⟨c7, hT⟩
                · refine r_tableIn (i := 5) (tgt := 448) F.hx F.hb (q_inr_toInt _) c7 d_Law_law_40 (by decide) (by decide) rfl (by decide) ?_
                  exact k_Law_law_L448 l hlf hL F hX hXs hsl hb hlk hr (fun a0_ a1_ => t_Law_law_L23 xs L fu a0_ a1_) j hjL (fun M v hv hij2 cells slots hcs2 H locs ls hS hl hT => ih M v hv (j + 1) hij2 (by omega) cells slots hcs2 H locs ls hS hl hT) M v4_ hv4_ hij _ _ hcs _ _ _ hS (lv_sub hl [0, 1, 2, 3, 4] rfl) hT
                ·
                  rcases q_ite hT with ⟨c8, hT⟩ | ⟨c8, hT⟩
                  · refine r_tableIn (i := 6) (tgt := 485) F.hx F.hb (q_inr_toInt _) c8 d_Law_law_40 (by decide) (by decide) rfl (by decide) ?_
                    exact k_Law_law_L485 l hlf hL F hX hXs hsl hb hlk hr (fun a0_ a1_ => t_Law_law_L23 xs L fu a0_ a1_) j hjL (fun M v hv hij2 cells slots hcs2 H locs ls hS hl hT => ih M v hv (j + 1) hij2 (by omega) cells slots hcs2 H locs ls hS hl hT) M v4_ hv4_ hij _ _ hcs _ _ _ hS (lv_sub hl [0, 1, 2, 3, 4] rfl) hT
                  ·
                    rcases q_ite hT with ⟨c9, hT⟩ | ⟨c9, hT⟩
                    · refine r_tableIn (i := 7) (tgt := 522) F.hx F.hb (q_inr_toInt _) c9 d_Law_law_40 (by decide) (by decide) rfl (by decide) ?_
                      exact k_Law_law_L522 l hlf hL F hX hXs hsl hb hlk hr (fun a0_ a1_ => t_Law_law_L23 xs L fu a0_ a1_) j hjL (fun M v hv hij2 cells slots hcs2 H locs ls hS hl hT => ih M v hv (j + 1) hij2 (by omega) cells slots hcs2 H locs ls hS hl hT) M v4_ hv4_ hij _ _ hcs _ _ _ hS (lv_sub hl [0, 1, 2, 3, 4] rfl) hT
                    ·
                      rcases q_ite hT with ⟨c10, hT⟩ | ⟨c10, hT⟩
                      · refine r_tableIn (i := 8) (tgt := 572) F.hx F.hb (q_inr_toInt _) c10 d_Law_law_40 (by decide) (by decide) rfl (by decide) ?_
                        exact k_Law_law_L572 l hlf hL F hX hXs hsl hb hlk hr (fun a0_ a1_ => t_Law_law_L23 xs L fu a0_ a1_) j hjL (fun M v hv hij2 cells slots hcs2 H locs ls hS hl hT => ih M v hv (j + 1) hij2 (by omega) cells slots hcs2 H locs ls hS hl hT) M v4_ hv4_ hij _ _ hcs _ _ _ hS (lv_sub hl [0, 1, 2, 3, 4] rfl) hT
                      ·
                        rcases q_ite hT with ⟨c11, hT⟩ | ⟨c11, hT⟩
                        · refine r_tableIn (i := 9) (tgt := 597) F.hx F.hb (q_inr_toInt _) c11 d_Law_law_40 (by decide) (by decide) rfl (by decide) ?_
                          exact k_Law_law_L597 l hlf hL F hX hXs hsl hb hlk hr (fun a0_ a1_ => t_Law_law_L23 xs L fu a0_ a1_) j hjL (fun M v hv hij2 cells slots hcs2 H locs ls hS hl hT => ih M v hv (j + 1) hij2 (by omega) cells slots hcs2 H locs ls hS hl hT) M v4_ hv4_ hij _ _ hcs _ _ _ hS (lv_sub hl [0, 1, 2, 3, 4] rfl) hT
                        ·
                          rcases q_ite hT with ⟨c12, hT⟩ | ⟨c12, hT⟩
                          · refine r_tableIn (i := 10) (tgt := 634) F.hx F.hb (q_inr_toInt _) c12 d_Law_law_40 (by decide) (by decide) rfl (by decide) ?_
                            exact k_Law_law_L634 l hlf hL F hX hXs hsl hb hlk hr (fun a0_ a1_ => t_Law_law_L23 xs L fu a0_ a1_) j hjL (fun M v hv hij2 cells slots hcs2 H locs ls hS hl hT => ih M v hv (j + 1) hij2 (by omega) cells slots hcs2 H locs ls hS hl hT) M v4_ hv4_ hij _ _ hcs _ _ _ hS (lv_sub hl [0, 1, 2, 3, 4] rfl) hT
                          ·
                            rcases q_ite hT with ⟨c13, hT⟩ | ⟨c13, hT⟩
                            · refine r_tableIn (i := 11) (tgt := 671) F.hx F.hb (q_inr_toInt _) c13 d_Law_law_40 (by decide) (by decide) rfl (by decide) ?_
                              exact k_Law_law_L671 l hlf hL F hX hXs hsl hb hlk hr (fun a0_ a1_ => t_Law_law_L23 xs L fu a0_ a1_) j hjL (fun M v hv hij2 cells slots hcs2 H locs ls hS hl hT => ih M v hv (j + 1) hij2 (by omega) cells slots hcs2 H locs ls hS hl hT) M v4_ hv4_ hij _ _ hcs _ _ _ hS (lv_sub hl [0, 1, 2, 3, 4] rfl) hT
                            ·
                              rcases q_ite hT with ⟨c14, hT⟩ | ⟨c14, hT⟩
                              · refine r_tableIn (i := 12) (tgt := 696) F.hx F.hb (q_inr_toInt _) c14 d_Law_law_40 (by decide) (by decide) rfl (by decide) ?_
                                exact k_Law_law_L696 l hlf hL F hX hXs hsl hb hlk hr (fun a0_ a1_ => t_Law_law_L23 xs L fu a0_ a1_) j hjL (fun M v hv hij2 cells slots hcs2 H locs ls hS hl hT => ih M v hv (j + 1) hij2 (by omega) cells slots hcs2 H locs ls hS hl hT) M v4_ hv4_ hij _ _ hcs _ _ _ hS (lv_sub hl [0, 1, 2, 3, 4] rfl) hT
                              ·
                                rcases q_ite hT with ⟨c15, hT⟩ | ⟨c15, hT⟩
                                · refine r_tableIn (i := 13) (tgt := 733) F.hx F.hb (q_inr_toInt _) c15 d_Law_law_40 (by decide) (by decide) rfl (by decide) ?_
                                  exact k_Law_law_L733 l hlf hL F hX hXs hsl hb hlk hr (fun a0_ a1_ => t_Law_law_L23 xs L fu a0_ a1_) j hjL (fun M v hv hij2 cells slots hcs2 H locs ls hS hl hT => ih M v hv (j + 1) hij2 (by omega) cells slots hcs2 H locs ls hS hl hT) M v4_ hv4_ hij _ _ hcs _ _ _ hS (lv_sub hl [0, 1, 2, 3, 4] rfl) hT
                                ·
                                  rcases q_ite hT with ⟨c16, hT⟩ | ⟨c16, hT⟩
                                  · refine r_tableIn (i := 14) (tgt := 786) F.hx F.hb (q_inr_toInt _) c16 d_Law_law_40 (by decide) (by decide) rfl (by decide) ?_
                                    exact k_Law_law_L786 l hlf hL F hX hXs hsl hb hlk hr (fun a0_ a1_ => t_Law_law_L23 xs L fu a0_ a1_) j hjL (fun M v hv hij2 cells slots hcs2 H locs ls hS hl hT => ih M v hv (j + 1) hij2 (by omega) cells slots hcs2 H locs ls hS hl hT) M v4_ hv4_ hij _ _ hcs _ _ _ hS (lv_sub hl [0, 1, 2, 3, 4] rfl) hT
                                  ·
                                    rcases q_ite hT with ⟨c17, hT⟩ | ⟨c17, hT⟩
                                    · refine r_tableIn (i := 15) (tgt := 823) F.hx F.hb (q_inr_toInt _) c17 d_Law_law_40 (by decide) (by decide) rfl (by decide) ?_
                                      exact k_Law_law_L823 l hlf hL F hX hXs hsl hb hlk hr (fun a0_ a1_ => t_Law_law_L23 xs L fu a0_ a1_) j hjL (fun M v hv hij2 cells slots hcs2 H locs ls hS hl hT => ih M v hv (j + 1) hij2 (by omega) cells slots hcs2 H locs ls hS hl hT) M v4_ hv4_ hij _ _ hcs _ _ _ hS (lv_sub hl [0, 1, 2, 3, 4] rfl) hT
                                    ·
                                      rcases q_ite hT with ⟨c18, hT⟩ | ⟨c18, hT⟩
                                      · refine r_tableIn (i := 16) (tgt := 860) F.hx F.hb (q_inr_toInt _) c18 d_Law_law_40 (by decide) (by decide) rfl (by decide) ?_
                                        exact k_Law_law_L860 l hlf hL F hX hXs hsl hb hlk hr (fun a0_ a1_ => t_Law_law_L23 xs L fu a0_ a1_) j hjL (fun M v hv hij2 cells slots hcs2 H locs ls hS hl hT => ih M v hv (j + 1) hij2 (by omega) cells slots hcs2 H locs ls hS hl hT) M v4_ hv4_ hij _ _ hcs _ _ _ hS (lv_sub hl [0, 1, 2, 3, 4] rfl) hT
                                      ·
                                        rcases q_ite hT with ⟨c19, hT⟩ | ⟨c19, hT⟩
                                        · refine r_tableIn (i := 17) (tgt := 873) F.hx F.hb (q_inr_toInt _) c19 d_Law_law_40 (by decide) (by decide) rfl (by decide) ?_
                                          exact k_Law_law_L873 l hlf hL F hX hXs hsl hb hlk hr (fun a0_ a1_ => t_Law_law_L23 xs L fu a0_ a1_) j hjL (fun M v hv hij2 cells slots hcs2 H locs ls hS hl hT => ih M v hv (j + 1) hij2 (by omega) cells slots hcs2 H locs ls hS hl hT) M v4_ hv4_ hij _ _ hcs _ _ _ hS (lv_sub hl [0, 1, 2, 3, 4] rfl) hT
                                        ·
                                          rcases q_ite hT with ⟨c20, hT⟩ | ⟨c20, hT⟩
                                          · refine r_tableIn (i := 18) (tgt := 911) F.hx F.hb (q_inr_toInt _) c20 d_Law_law_40 (by decide) (by decide) rfl (by decide) ?_
                                            exact k_Law_law_L911 l hlf hL F hX hXs hsl hb hlk hr (fun a0_ a1_ => t_Law_law_L23 xs L fu a0_ a1_) j hjL (fun M v hv hij2 cells slots hcs2 H locs ls hS hl hT => ih M v hv (j + 1) hij2 (by omega) cells slots hcs2 H locs ls hS hl hT) M v4_ hv4_ hij _ _ hcs _ _ _ hS (lv_sub hl [0, 1, 2, 3, 4] rfl) hT
                                          ·
                                            rcases q_ite hT with ⟨c21, hT⟩ | ⟨c21, hT⟩
                                            · refine r_tableIn (i := 19) (tgt := 948) F.hx F.hb (q_inr_toInt _) c21 d_Law_law_40 (by decide) (by decide) rfl (by decide) ?_
                                              exact k_Law_law_L948 l hlf hL F hX hXs hsl hb hlk hr (fun a0_ a1_ => t_Law_law_L23 xs L fu a0_ a1_) j hjL (fun M v hv hij2 cells slots hcs2 H locs ls hS hl hT => ih M v hv (j + 1) hij2 (by omega) cells slots hcs2 H locs ls hS hl hT) M v4_ hv4_ hij _ _ hcs _ _ _ hS (lv_sub hl [0, 1, 2, 3, 4] rfl) hT
                                            ·
                                              rcases q_ite hT with ⟨c22, hT⟩ | ⟨c22, hT⟩
                                              · refine r_tableIn (i := 20) (tgt := 997) F.hx F.hb (q_inr_toInt _) c22 d_Law_law_40 (by decide) (by decide) rfl (by decide) ?_
                                                exact k_Law_law_L997 l hlf hL F hX hXs hsl hb hlk hr (fun a0_ a1_ => t_Law_law_L23 xs L fu a0_ a1_) j hjL (fun M v hv hij2 cells slots hcs2 H locs ls hS hl hT => ih M v hv (j + 1) hij2 (by omega) cells slots hcs2 H locs ls hS hl hT) M v4_ hv4_ hij _ _ hcs _ _ _ hS (lv_sub hl [0, 1, 2, 3, 4] rfl) hT
                                              ·
                                                rcases q_ite hT with ⟨c23, hT⟩ | ⟨c23, hT⟩
                                                · refine r_tableIn (i := 21) (tgt := 1046) F.hx F.hb (q_inr_toInt _) c23 d_Law_law_40 (by decide) (by decide) rfl (by decide) ?_
                                                  exact k_Law_law_L1046 l hlf hL F hX hXs hsl hb hlk hr (fun a0_ a1_ => t_Law_law_L23 xs L fu a0_ a1_) j hjL (fun M v hv hij2 cells slots hcs2 H locs ls hS hl hT => ih M v hv (j + 1) hij2 (by omega) cells slots hcs2 H locs ls hS hl hT) M v4_ hv4_ hij _ _ hcs _ _ _ hS (lv_sub hl [0, 1, 2, 3, 4] rfl) hT
                                                ·
                                                  rcases q_ite hT with ⟨c24, hT⟩ | ⟨c24, hT⟩
                                                  · refine r_tableIn (i := 22) (tgt := 1095) F.hx F.hb (q_inr_toInt _) c24 d_Law_law_40 (by decide) (by decide) rfl (by decide) ?_
                                                    exact k_Law_law_L1095 l hlf hL F hX hXs hsl hb hlk hr (fun a0_ a1_ => t_Law_law_L23 xs L fu a0_ a1_) j hjL (fun M v hv hij2 cells slots hcs2 H locs ls hS hl hT => ih M v hv (j + 1) hij2 (by omega) cells slots hcs2 H locs ls hS hl hT) M v4_ hv4_ hij _ _ hcs _ _ _ hS (lv_sub hl [0, 1, 2, 3, 4] rfl) hT
                                                  ·
                                                    rcases q_ite hT with ⟨c25, hT⟩ | ⟨c25, hT⟩
                                                    · refine r_tableIn (i := 23) (tgt := 1132) F.hx F.hb (q_inr_toInt _) c25 d_Law_law_40 (by decide) (by decide) rfl (by decide) ?_
                                                      exact k_Law_law_L1132 l hlf hL F hX hXs hsl hb hlk hr (fun a0_ a1_ => t_Law_law_L23 xs L fu a0_ a1_) j hjL (fun M v hv hij2 cells slots hcs2 H locs ls hS hl hT => ih M v hv (j + 1) hij2 (by omega) cells slots hcs2 H locs ls hS hl hT) M v4_ hv4_ hij _ _ hcs _ _ _ hS (lv_sub hl [0, 1, 2, 3, 4] rfl) hT
                                                    ·
                                                      rcases q_ite hT with ⟨c26, hT⟩ | ⟨c26, hT⟩
                                                      · refine r_tableIn (i := 24) (tgt := 1146) F.hx F.hb (q_inr_toInt _) c26 d_Law_law_40 (by decide) (by decide) rfl (by decide) ?_
                                                        exact k_Law_law_L1146 l hlf hL F hX hXs hsl hb hlk hr (fun a0_ a1_ => t_Law_law_L23 xs L fu a0_ a1_) j hjL (fun M v hv hij2 cells slots hcs2 H locs ls hS hl hT => ih M v hv (j + 1) hij2 (by omega) cells slots hcs2 H locs ls hS hl hT) M v4_ hv4_ hij _ _ hcs _ _ _ hS (lv_sub hl [0, 1, 2, 3, 4] rfl) hT
                                                      ·
                                                        rcases q_ite hT with ⟨c27, hT⟩ | ⟨c27, hT⟩
                                                        · refine r_tableIn (i := 25) (tgt := 1171) F.hx F.hb (q_inr_toInt _) c27 d_Law_law_40 (by decide) (by decide) rfl (by decide) ?_
                                                          exact k_Law_law_L1171 l hlf hL F hX hXs hsl hb hlk hr (fun a0_ a1_ => t_Law_law_L23 xs L fu a0_ a1_) j hjL (fun M v hv hij2 cells slots hcs2 H locs ls hS hl hT => ih M v hv (j + 1) hij2 (by omega) cells slots hcs2 H locs ls hS hl hT) M v4_ hv4_ hij _ _ hcs _ _ _ hS (lv_sub hl [0, 1, 2, 3, 4] rfl) hT
                                                        ·
                                                          rcases q_ite hT with ⟨c28, hT⟩ | ⟨c28, hT⟩
                                                          · refine r_tableIn (i := 26) (tgt := 1184) F.hx F.hb (q_inr_toInt _) c28 d_Law_law_40 (by decide) (by decide) rfl (by decide) ?_
                                                            exact k_Law_law_L1184 l hlf hL F hX hXs hsl hb hlk hr (fun a0_ a1_ => t_Law_law_L23 xs L fu a0_ a1_) j hjL (fun M v hv hij2 cells slots hcs2 H locs ls hS hl hT => ih M v hv (j + 1) hij2 (by omega) cells slots hcs2 H locs ls hS hl hT) M v4_ hv4_ hij _ _ hcs _ _ _ hS (lv_sub hl [0, 1, 2, 3, 4] rfl) hT
                                                          ·
                                                            rcases q_ite hT with ⟨c29, hT⟩ | ⟨c29, hT⟩
                                                            · refine r_tableIn (i := 27) (tgt := 1209) F.hx F.hb (q_inr_toInt _) c29 d_Law_law_40 (by decide) (by decide) rfl (by decide) ?_
                                                              exact k_Law_law_L1209 l hlf hL F hX hXs hsl hb hlk hr (fun a0_ a1_ => t_Law_law_L23 xs L fu a0_ a1_) j hjL (fun M v hv hij2 cells slots hcs2 H locs ls hS hl hT => ih M v hv (j + 1) hij2 (by omega) cells slots hcs2 H locs ls hS hl hT) M v4_ hv4_ hij _ _ hcs _ _ _ hS (lv_sub hl [0, 1, 2, 3, 4] rfl) hT
                                                            ·
                                                              rcases q_ite hT with ⟨c30, hT⟩ | ⟨c30, hT⟩
                                                              · refine r_tableIn (i := 28) (tgt := 1234) F.hx F.hb (q_inr_toInt _) c30 d_Law_law_40 (by decide) (by decide) rfl (by decide) ?_
                                                                exact k_Law_law_L1234 l hlf hL F hX hXs hsl hb hlk hr (fun a0_ a1_ => t_Law_law_L23 xs L fu a0_ a1_) j hjL (fun M v hv hij2 cells slots hcs2 H locs ls hS hl hT => ih M v hv (j + 1) hij2 (by omega) cells slots hcs2 H locs ls hS hl hT) M v4_ hv4_ hij _ _ hcs _ _ _ hS (lv_sub hl [0, 1, 2, 3, 4] rfl) hT
                                                              ·
                                                                rcases q_ite hT with ⟨c31, hT⟩ | ⟨c31, hT⟩
                                                                · refine r_tableIn (i := 29) (tgt := 1271) F.hx F.hb (q_inr_toInt _) c31 d_Law_law_40 (by decide) (by decide) rfl (by decide) ?_
                                                                  exact k_Law_law_L1271 l hlf hL F hX hXs hsl hb hlk hr (fun a0_ a1_ => t_Law_law_L23 xs L fu a0_ a1_) j hjL (fun M v hv hij2 cells slots hcs2 H locs ls hS hl hT => ih M v hv (j + 1) hij2 (by omega) cells slots hcs2 H locs ls hS hl hT) M v4_ hv4_ hij _ _ hcs _ _ _ hS (lv_sub hl [0, 1, 2, 3, 4] rfl) hT
                                                                ·
                                                                  rcases q_ite hT with ⟨c32, hT⟩ | ⟨c32, hT⟩
                                                                  · refine r_tableIn (i := 30) (tgt := 1308) F.hx F.hb (q_inr_toInt _) c32 d_Law_law_40 (by decide) (by decide) rfl (by decide) ?_
                                                                    exact k_Law_law_L1308 l hlf hL F hX hXs hsl hb hlk hr (fun a0_ a1_ => t_Law_law_L23 xs L fu a0_ a1_) j hjL (fun M v hv hij2 cells slots hcs2 H locs ls hS hl hT => ih M v hv (j + 1) hij2 (by omega) cells slots hcs2 H locs ls hS hl hT) M v4_ hv4_ hij _ _ hcs _ _ _ hS (lv_sub hl [0, 1, 2, 3, 4] rfl) hT
                                                                  ·
                                                                    rcases q_ite hT with ⟨c33, hT⟩ | ⟨c33, hT⟩
                                                                    · refine r_tableIn (i := 31) (tgt := 1333) F.hx F.hb (q_inr_toInt _) c33 d_Law_law_40 (by decide) (by decide) rfl (by decide) ?_
                                                                      exact k_Law_law_L1333 l hlf hL F hX hXs hsl hb hlk hr (fun a0_ a1_ => t_Law_law_L23 xs L fu a0_ a1_) j hjL (fun M v hv hij2 cells slots hcs2 H locs ls hS hl hT => ih M v hv (j + 1) hij2 (by omega) cells slots hcs2 H locs ls hS hl hT) M v4_ hv4_ hij _ _ hcs _ _ _ hS (lv_sub hl [0, 1, 2, 3, 4] rfl) hT
                                                                    ·
                                                                      rcases q_ite hT with ⟨c34, hT⟩ | ⟨c34, hT⟩
                                                                      · refine r_tableIn (i := 32) (tgt := 1358) F.hx F.hb (q_inr_toInt _) c34 d_Law_law_40 (by decide) (by decide) rfl (by decide) ?_
                                                                        exact k_Law_law_L1358 l hlf hL F hX hXs hsl hb hlk hr (fun a0_ a1_ => t_Law_law_L23 xs L fu a0_ a1_) j hjL (fun M v hv hij2 cells slots hcs2 H locs ls hS hl hT => ih M v hv (j + 1) hij2 (by omega) cells slots hcs2 H locs ls hS hl hT) M v4_ hv4_ hij _ _ hcs _ _ _ hS (lv_sub hl [0, 1, 2, 3, 4] rfl) hT
                                                                      ·
                                                                        rcases q_ite hT with ⟨c35, hT⟩ | ⟨c35, hT⟩
                                                                        · refine r_tableIn (i := 33) (tgt := 1371) F.hx F.hb (q_inr_toInt _) c35 d_Law_law_40 (by decide) (by decide) rfl (by decide) ?_
                                                                          exact k_Law_law_L1371 l hlf hL F hX hXs hsl hb hlk hr (fun a0_ a1_ => t_Law_law_L23 xs L fu a0_ a1_) j hjL (fun M v hv hij2 cells slots hcs2 H locs ls hS hl hT => ih M v hv (j + 1) hij2 (by omega) cells slots hcs2 H locs ls hS hl hT) M v4_ hv4_ hij _ _ hcs _ _ _ hS (lv_sub hl [0, 1, 2, 3, 4] rfl) hT
                                                                        ·
                                                                          rcases q_ite hT with ⟨c36, hT⟩ | ⟨c36, hT⟩
                                                                          · refine r_tableIn (i := 34) (tgt := 1396) F.hx F.hb (q_inr_toInt _) c36 d_Law_law_40 (by decide) (by decide) rfl (by decide) ?_
                                                                            exact k_Law_law_L1396 l hlf hL F hX hXs hsl hb hlk hr (fun a0_ a1_ => t_Law_law_L23 xs L fu a0_ a1_) j hjL (fun M v hv hij2 cells slots hcs2 H locs ls hS hl hT => ih M v hv (j + 1) hij2 (by omega) cells slots hcs2 H locs ls hS hl hT) M v4_ hv4_ hij _ _ hcs _ _ _ hS (lv_sub hl [0, 1, 2, 3, 4] rfl) hT
                                                                          ·
                                                                            rcases q_ite hT with ⟨c37, hT⟩ | ⟨c37, hT⟩
                                                                            · refine r_tableIn (i := 35) (tgt := 1421) F.hx F.hb (q_inr_toInt _) c37 d_Law_law_40 (by decide) (by decide) rfl (by decide) ?_
                                                                              exact k_Law_law_L1421 l hlf hL F hX hXs hsl hb hlk hr (fun a0_ a1_ => t_Law_law_L23 xs L fu a0_ a1_) j hjL (fun M v hv hij2 cells slots hcs2 H locs ls hS hl hT => ih M v hv (j + 1) hij2 (by omega) cells slots hcs2 H locs ls hS hl hT) M v4_ hv4_ hij _ _ hcs _ _ _ hS (lv_sub hl [0, 1, 2, 3, 4] rfl) hT
                                                                            ·
                                                                              rcases q_ite hT with ⟨c38, hT⟩ | ⟨c38, hT⟩
                                                                              · refine r_tableIn (i := 36) (tgt := 1458) F.hx F.hb (q_inr_toInt _) c38 d_Law_law_40 (by decide) (by decide) rfl (by decide) ?_
                                                                                exact k_Law_law_L1458 l hlf hL F hX hXs hsl hb hlk hr (fun a0_ a1_ => t_Law_law_L23 xs L fu a0_ a1_) j hjL (fun M v hv hij2 cells slots hcs2 H locs ls hS hl hT => ih M v hv (j + 1) hij2 (by omega) cells slots hcs2 H locs ls hS hl hT) M v4_ hv4_ hij _ _ hcs _ _ _ hS (lv_sub hl [0, 1, 2, 3, 4] rfl) hT
                                                                              ·
                                                                                rcases q_ite hT with ⟨c39, hT⟩ | ⟨c39, hT⟩
                                                                                · refine r_tableIn (i := 37) (tgt := 1507) F.hx F.hb (q_inr_toInt _) c39 d_Law_law_40 (by decide) (by decide) rfl (by decide) ?_
                                                                                  exact k_Law_law_L1507 l hlf hL F hX hXs hsl hb hlk hr (fun a0_ a1_ => t_Law_law_L23 xs L fu a0_ a1_) j hjL (fun M v hv hij2 cells slots hcs2 H locs ls hS hl hT => ih M v hv (j + 1) hij2 (by omega) cells slots hcs2 H locs ls hS hl hT) M v4_ hv4_ hij _ _ hcs _ _ _ hS (lv_sub hl [0, 1, 2, 3, 4] rfl) hT
                                                                                ·
                                                                                  rcases q_ite hT with ⟨c40, hT⟩ | ⟨c40, hT⟩
                                                                                  · refine r_tableIn (i := 38) (tgt := 1520) F.hx F.hb (q_inr_toInt _) c40 d_Law_law_40 (by decide) (by decide) rfl (by decide) ?_
                                                                                    exact k_Law_law_L1520 l hlf hL F hX hXs hsl hb hlk hr (fun a0_ a1_ => t_Law_law_L23 xs L fu a0_ a1_) j hjL (fun M v hv hij2 cells slots hcs2 H locs ls hS hl hT => ih M v hv (j + 1) hij2 (by omega) cells slots hcs2 H locs ls hS hl hT) M v4_ hv4_ hij _ _ hcs _ _ _ hS (lv_sub hl [0, 1, 2, 3, 4] rfl) hT
                                                                                  ·
                                                                                    rcases q_ite hT with ⟨c41, hT⟩ | ⟨c41, hT⟩
                                                                                    · refine r_tableIn (i := 39) (tgt := 1533) F.hx F.hb (q_inr_toInt _) c41 d_Law_law_40 (by decide) (by decide) rfl (by decide) ?_
                                                                                      exact k_Law_law_L1533 l hlf hL F hX hXs hsl hb hlk hr (fun a0_ a1_ => t_Law_law_L23 xs L fu a0_ a1_) j hjL (fun M v hv hij2 cells slots hcs2 H locs ls hS hl hT => ih M v hv (j + 1) hij2 (by omega) cells slots hcs2 H locs ls hS hl hT) M v4_ hv4_ hij _ _ hcs _ _ _ hS (lv_sub hl [0, 1, 2, 3, 4] rfl) hT
                                                                                    ·
                                                                                      rcases q_ite hT with ⟨c42, hT⟩ | ⟨c42, hT⟩
                                                                                      · refine r_tableIn (i := 40) (tgt := 1546) F.hx F.hb (q_inr_toInt _) c42 d_Law_law_40 (by decide) (by decide) rfl (by decide) ?_
                                                                                        exact k_Law_law_L1546 l hlf hL F hX hXs hsl hb hlk hr (fun a0_ a1_ => t_Law_law_L23 xs L fu a0_ a1_) j hjL (fun M v hv hij2 cells slots hcs2 H locs ls hS hl hT => ih M v hv (j + 1) hij2 (by omega) cells slots hcs2 H locs ls hS hl hT) M v4_ hv4_ hij _ _ hcs _ _ _ hS (lv_sub hl [0, 1, 2, 3, 4] rfl) hT
                                                                                      ·
                                                                                        refine r_tableOut (tgt := 1571) F.hx F.hb (q_inr_toInt _) (by omega) d_Law_law_40 (by decide) ?_
                                                                                        exact k_Law_law_L1571 l hlf hL F hX hXs hsl hb hlk hr (fun a0_ a1_ => t_Law_law_L23 xs L fu a0_ a1_) j hjL (fun M v hv hij2 cells slots hcs2 H locs ls hS hl hT => ih M v hv (j + 1) hij2 (by omega) cells slots hcs2 H locs ls hS hl hT) M v4_ hv4_ hij _ _ hcs1 _ _ _ hS (lv_sub hl [0, 1, 2, 3, 4] rfl) hT
