theorem mw_0 : (Jvm.Cond.initialized "WardFallsLaw") ∈ lw_good := List.mem_filter.mpr ⟨List.mem_append_right _ (List.mem_append_left _ (List.mem_of_getElem? (i := 0) rfl)), rfl⟩
theorem mw_1013 : (Jvm.Cond.methodLink "WardFallsLaw" (79 : Nat) ({ cls := "WardFalls", name := "net", desc := "(IZ)Z" } : Jvm.MethodName)) ∈ lw_good := List.mem_filter.mpr ⟨List.mem_append_right _ (List.mem_append_right _ (List.mem_append_right _ (List.mem_append_right _ (List.mem_append_right _ (List.mem_append_left _ (List.mem_of_getElem? (i := 53) rfl)))))), rfl⟩
theorem mw_1014 : (Jvm.Cond.instanceMethod ({ cls := "WardFalls", name := "net", desc := "(IZ)Z" } : Jvm.MethodName)) ∈ lw_good := List.mem_filter.mpr ⟨List.mem_append_right _ (List.mem_append_right _ (List.mem_append_right _ (List.mem_append_right _ (List.mem_append_right _ (List.mem_append_left _ (List.mem_of_getElem? (i := 54) rfl)))))), rfl⟩
theorem mw_1015 : (Jvm.Cond.selects "WardFalls" ({ cls := "WardFalls", name := "net", desc := "(IZ)Z" } : Jvm.MethodName) ({ cls := "WardFalls", name := "net", desc := "(IZ)Z" } : Jvm.MethodName)) ∈ lw_good := List.mem_filter.mpr ⟨List.mem_append_right _ (List.mem_append_right _ (List.mem_append_right _ (List.mem_append_right _ (List.mem_append_right _ (List.mem_append_left _ (List.mem_of_getElem? (i := 55) rfl)))))), rfl⟩
theorem mw_1017 : (Jvm.Cond.methodLink "WardFallsLaw" (84 : Nat) ({ cls := "WardFalls", name := "lay", desc := "(II)Z" } : Jvm.MethodName)) ∈ lw_good := List.mem_filter.mpr ⟨List.mem_append_right _ (List.mem_append_right _ (List.mem_append_right _ (List.mem_append_right _ (List.mem_append_right _ (List.mem_append_left _ (List.mem_of_getElem? (i := 57) rfl)))))), rfl⟩
theorem mw_1018 : (Jvm.Cond.instanceMethod ({ cls := "WardFalls", name := "lay", desc := "(II)Z" } : Jvm.MethodName)) ∈ lw_good := List.mem_filter.mpr ⟨List.mem_append_right _ (List.mem_append_right _ (List.mem_append_right _ (List.mem_append_right _ (List.mem_append_right _ (List.mem_append_left _ (List.mem_of_getElem? (i := 58) rfl)))))), rfl⟩
theorem mw_1019 : (Jvm.Cond.selects "WardFalls" ({ cls := "WardFalls", name := "lay", desc := "(II)Z" } : Jvm.MethodName) ({ cls := "WardFalls", name := "lay", desc := "(II)Z" } : Jvm.MethodName)) ∈ lw_good := List.mem_filter.mpr ⟨List.mem_append_right _ (List.mem_append_right _ (List.mem_append_right _ (List.mem_append_right _ (List.mem_append_right _ (List.mem_append_left _ (List.mem_of_getElem? (i := 59) rfl)))))), rfl⟩
theorem mw_1022 : (Jvm.Cond.methodLink "WardFallsLaw" (88 : Nat) ({ cls := "WardFalls", name := "pour", desc := "(II)I" } : Jvm.MethodName)) ∈ lw_good := List.mem_filter.mpr ⟨List.mem_append_right _ (List.mem_append_right _ (List.mem_append_right _ (List.mem_append_right _ (List.mem_append_right _ (List.mem_append_left _ (List.mem_of_getElem? (i := 62) rfl)))))), rfl⟩
theorem mw_1023 : (Jvm.Cond.instanceMethod ({ cls := "WardFalls", name := "pour", desc := "(II)I" } : Jvm.MethodName)) ∈ lw_good := List.mem_filter.mpr ⟨List.mem_append_right _ (List.mem_append_right _ (List.mem_append_right _ (List.mem_append_right _ (List.mem_append_right _ (List.mem_append_left _ (List.mem_of_getElem? (i := 63) rfl)))))), rfl⟩
theorem mw_1024 : (Jvm.Cond.selects "WardFalls" ({ cls := "WardFalls", name := "pour", desc := "(II)I" } : Jvm.MethodName) ({ cls := "WardFalls", name := "pour", desc := "(II)I" } : Jvm.MethodName)) ∈ lw_good := List.mem_filter.mpr ⟨List.mem_append_right _ (List.mem_append_right _ (List.mem_append_right _ (List.mem_append_right _ (List.mem_append_right _ (List.mem_append_left _ (List.mem_of_getElem? (i := 64) rfl)))))), rfl⟩
theorem mw_1028 : (Jvm.Cond.methodLink "WardFallsLaw" (92 : Nat) ({ cls := "WardFalls", name := "drain", desc := "()I" } : Jvm.MethodName)) ∈ lw_good := List.mem_filter.mpr ⟨List.mem_append_right _ (List.mem_append_right _ (List.mem_append_right _ (List.mem_append_right _ (List.mem_append_right _ (List.mem_append_left _ (List.mem_of_getElem? (i := 68) rfl)))))), rfl⟩
theorem mw_1029 : (Jvm.Cond.instanceMethod ({ cls := "WardFalls", name := "drain", desc := "()I" } : Jvm.MethodName)) ∈ lw_good := List.mem_filter.mpr ⟨List.mem_append_right _ (List.mem_append_right _ (List.mem_append_right _ (List.mem_append_right _ (List.mem_append_right _ (List.mem_append_left _ (List.mem_of_getElem? (i := 69) rfl)))))), rfl⟩
theorem mw_1030 : (Jvm.Cond.selects "WardFalls" ({ cls := "WardFalls", name := "drain", desc := "()I" } : Jvm.MethodName) ({ cls := "WardFalls", name := "drain", desc := "()I" } : Jvm.MethodName)) ∈ lw_good := List.mem_filter.mpr ⟨List.mem_append_right _ (List.mem_append_right _ (List.mem_append_right _ (List.mem_append_right _ (List.mem_append_right _ (List.mem_append_left _ (List.mem_of_getElem? (i := 70) rfl)))))), rfl⟩
theorem mw_1033 : (Jvm.Cond.methodLink "WardFallsLaw" (97 : Nat) ({ cls := "WardFalls", name := "flood", desc := "(II)J" } : Jvm.MethodName)) ∈ lw_good := List.mem_filter.mpr ⟨List.mem_append_right _ (List.mem_append_right _ (List.mem_append_right _ (List.mem_append_right _ (List.mem_append_right _ (List.mem_append_left _ (List.mem_of_getElem? (i := 73) rfl)))))), rfl⟩
theorem mw_1034 : (Jvm.Cond.instanceMethod ({ cls := "WardFalls", name := "flood", desc := "(II)J" } : Jvm.MethodName)) ∈ lw_good := List.mem_filter.mpr ⟨List.mem_append_right _ (List.mem_append_right _ (List.mem_append_right _ (List.mem_append_right _ (List.mem_append_right _ (List.mem_append_left _ (List.mem_of_getElem? (i := 74) rfl)))))), rfl⟩
theorem mw_1035 : (Jvm.Cond.selects "WardFalls" ({ cls := "WardFalls", name := "flood", desc := "(II)J" } : Jvm.MethodName) ({ cls := "WardFalls", name := "flood", desc := "(II)J" } : Jvm.MethodName)) ∈ lw_good := List.mem_filter.mpr ⟨List.mem_append_right _ (List.mem_append_right _ (List.mem_append_right _ (List.mem_append_right _ (List.mem_append_right _ (List.mem_append_left _ (List.mem_of_getElem? (i := 75) rfl)))))), rfl⟩
theorem mw_1038 : (Jvm.Cond.methodLink "WardFallsLaw" (102 : Nat) ({ cls := "WardFalls", name := "walk", desc := "(II)I" } : Jvm.MethodName)) ∈ lw_good := List.mem_filter.mpr ⟨List.mem_append_right _ (List.mem_append_right _ (List.mem_append_right _ (List.mem_append_right _ (List.mem_append_right _ (List.mem_append_left _ (List.mem_of_getElem? (i := 78) rfl)))))), rfl⟩
theorem mw_1039 : (Jvm.Cond.instanceMethod ({ cls := "WardFalls", name := "walk", desc := "(II)I" } : Jvm.MethodName)) ∈ lw_good := List.mem_filter.mpr ⟨List.mem_append_right _ (List.mem_append_right _ (List.mem_append_right _ (List.mem_append_right _ (List.mem_append_right _ (List.mem_append_left _ (List.mem_of_getElem? (i := 79) rfl)))))), rfl⟩
theorem mw_1040 : (Jvm.Cond.selects "WardFalls" ({ cls := "WardFalls", name := "walk", desc := "(II)I" } : Jvm.MethodName) ({ cls := "WardFalls", name := "walk", desc := "(II)I" } : Jvm.MethodName)) ∈ lw_good := List.mem_filter.mpr ⟨List.mem_append_right _ (List.mem_append_right _ (List.mem_append_right _ (List.mem_append_right _ (List.mem_append_right _ (List.mem_append_left _ (List.mem_of_getElem? (i := 80) rfl)))))), rfl⟩
theorem mw_1080 : (Jvm.Cond.methodLink "WardFallsLaw" (106 : Nat) ({ cls := "WardFalls", name := "step", desc := "(III)I" } : Jvm.MethodName)) ∈ lw_good := List.mem_filter.mpr ⟨List.mem_append_right _ (List.mem_append_right _ (List.mem_append_right _ (List.mem_append_right _ (List.mem_append_right _ (List.mem_append_left _ (List.mem_of_getElem? (i := 120) rfl)))))), rfl⟩
theorem mw_1081 : (Jvm.Cond.instanceMethod ({ cls := "WardFalls", name := "step", desc := "(III)I" } : Jvm.MethodName)) ∈ lw_good := List.mem_filter.mpr ⟨List.mem_append_right _ (List.mem_append_right _ (List.mem_append_right _ (List.mem_append_right _ (List.mem_append_right _ (List.mem_append_left _ (List.mem_of_getElem? (i := 121) rfl)))))), rfl⟩
theorem mw_1082 : (Jvm.Cond.selects "WardFalls" ({ cls := "WardFalls", name := "step", desc := "(III)I" } : Jvm.MethodName) ({ cls := "WardFalls", name := "step", desc := "(III)I" } : Jvm.MethodName)) ∈ lw_good := List.mem_filter.mpr ⟨List.mem_append_right _ (List.mem_append_right _ (List.mem_append_right _ (List.mem_append_right _ (List.mem_append_right _ (List.mem_append_left _ (List.mem_of_getElem? (i := 122) rfl)))))), rfl⟩
theorem mw_1088 : (Jvm.Cond.methodLink "WardFallsLaw" (111 : Nat) ({ cls := "WardFalls", name := "push", desc := "(III)I" } : Jvm.MethodName)) ∈ lw_good := List.mem_filter.mpr ⟨List.mem_append_right _ (List.mem_append_right _ (List.mem_append_right _ (List.mem_append_right _ (List.mem_append_right _ (List.mem_append_left _ (List.mem_of_getElem? (i := 128) rfl)))))), rfl⟩
theorem mw_1089 : (Jvm.Cond.instanceMethod ({ cls := "WardFalls", name := "push", desc := "(III)I" } : Jvm.MethodName)) ∈ lw_good := List.mem_filter.mpr ⟨List.mem_append_right _ (List.mem_append_right _ (List.mem_append_right _ (List.mem_append_right _ (List.mem_append_right _ (List.mem_append_left _ (List.mem_of_getElem? (i := 129) rfl)))))), rfl⟩
theorem mw_1090 : (Jvm.Cond.selects "WardFalls" ({ cls := "WardFalls", name := "push", desc := "(III)I" } : Jvm.MethodName) ({ cls := "WardFalls", name := "push", desc := "(III)I" } : Jvm.MethodName)) ∈ lw_good := List.mem_filter.mpr ⟨List.mem_append_right _ (List.mem_append_right _ (List.mem_append_right _ (List.mem_append_right _ (List.mem_append_right _ (List.mem_append_left _ (List.mem_of_getElem? (i := 130) rfl)))))), rfl⟩
theorem mw_1104 : (Jvm.Cond.methodLink "WardFallsLaw" (115 : Nat) ({ cls := "WardFalls", name := "pushed", desc := "(III)I" } : Jvm.MethodName)) ∈ lw_good := List.mem_filter.mpr ⟨List.mem_append_right _ (List.mem_append_right _ (List.mem_append_right _ (List.mem_append_right _ (List.mem_append_right _ (List.mem_append_left _ (List.mem_of_getElem? (i := 144) rfl)))))), rfl⟩
theorem mw_1105 : (Jvm.Cond.instanceMethod ({ cls := "WardFalls", name := "pushed", desc := "(III)I" } : Jvm.MethodName)) ∈ lw_good := List.mem_filter.mpr ⟨List.mem_append_right _ (List.mem_append_right _ (List.mem_append_right _ (List.mem_append_right _ (List.mem_append_right _ (List.mem_append_left _ (List.mem_of_getElem? (i := 145) rfl)))))), rfl⟩
theorem mw_1106 : (Jvm.Cond.selects "WardFalls" ({ cls := "WardFalls", name := "pushed", desc := "(III)I" } : Jvm.MethodName) ({ cls := "WardFalls", name := "pushed", desc := "(III)I" } : Jvm.MethodName)) ∈ lw_good := List.mem_filter.mpr ⟨List.mem_append_right _ (List.mem_append_right _ (List.mem_append_right _ (List.mem_append_right _ (List.mem_append_right _ (List.mem_append_left _ (List.mem_of_getElem? (i := 146) rfl)))))), rfl⟩
theorem mw_1108 : (Jvm.Cond.methodLink "WardFallsLaw" (119 : Nat) ({ cls := "WardFalls", name := "war", desc := "(II)I" } : Jvm.MethodName)) ∈ lw_good := List.mem_filter.mpr ⟨List.mem_append_right _ (List.mem_append_right _ (List.mem_append_right _ (List.mem_append_right _ (List.mem_append_right _ (List.mem_append_left _ (List.mem_of_getElem? (i := 148) rfl)))))), rfl⟩
theorem mw_1109 : (Jvm.Cond.instanceMethod ({ cls := "WardFalls", name := "war", desc := "(II)I" } : Jvm.MethodName)) ∈ lw_good := List.mem_filter.mpr ⟨List.mem_append_right _ (List.mem_append_right _ (List.mem_append_right _ (List.mem_append_right _ (List.mem_append_right _ (List.mem_append_left _ (List.mem_of_getElem? (i := 149) rfl)))))), rfl⟩
theorem mw_1110 : (Jvm.Cond.selects "WardFalls" ({ cls := "WardFalls", name := "war", desc := "(II)I" } : Jvm.MethodName) ({ cls := "WardFalls", name := "war", desc := "(II)I" } : Jvm.MethodName)) ∈ lw_good := List.mem_filter.mpr ⟨List.mem_append_right _ (List.mem_append_right _ (List.mem_append_right _ (List.mem_append_right _ (List.mem_append_right _ (List.mem_append_left _ (List.mem_of_getElem? (i := 150) rfl)))))), rfl⟩
theorem mw_1118 : (Jvm.Cond.methodLink "WardFallsLaw" (123 : Nat) ({ cls := "WardFalls", name := "nets", desc := "()J" } : Jvm.MethodName)) ∈ lw_good := List.mem_filter.mpr ⟨List.mem_append_right _ (List.mem_append_right _ (List.mem_append_right _ (List.mem_append_right _ (List.mem_append_right _ (List.mem_append_left _ (List.mem_of_getElem? (i := 158) rfl)))))), rfl⟩
theorem mw_1119 : (Jvm.Cond.instanceMethod ({ cls := "WardFalls", name := "nets", desc := "()J" } : Jvm.MethodName)) ∈ lw_good := List.mem_filter.mpr ⟨List.mem_append_right _ (List.mem_append_right _ (List.mem_append_right _ (List.mem_append_right _ (List.mem_append_right _ (List.mem_append_left _ (List.mem_of_getElem? (i := 159) rfl)))))), rfl⟩
theorem mw_1120 : (Jvm.Cond.selects "WardFalls" ({ cls := "WardFalls", name := "nets", desc := "()J" } : Jvm.MethodName) ({ cls := "WardFalls", name := "nets", desc := "()J" } : Jvm.MethodName)) ∈ lw_good := List.mem_filter.mpr ⟨List.mem_append_right _ (List.mem_append_right _ (List.mem_append_right _ (List.mem_append_right _ (List.mem_append_right _ (List.mem_append_left _ (List.mem_of_getElem? (i := 160) rfl)))))), rfl⟩
theorem mw_1124 : (Jvm.Cond.methodLink "WardFallsLaw" (128 : Nat) ({ cls := "WardFalls", name := "clock", desc := "(I)I" } : Jvm.MethodName)) ∈ lw_good := List.mem_filter.mpr ⟨List.mem_append_right _ (List.mem_append_right _ (List.mem_append_right _ (List.mem_append_right _ (List.mem_append_right _ (List.mem_append_left _ (List.mem_of_getElem? (i := 164) rfl)))))), rfl⟩
theorem mw_1125 : (Jvm.Cond.instanceMethod ({ cls := "WardFalls", name := "clock", desc := "(I)I" } : Jvm.MethodName)) ∈ lw_good := List.mem_filter.mpr ⟨List.mem_append_right _ (List.mem_append_right _ (List.mem_append_right _ (List.mem_append_right _ (List.mem_append_right _ (List.mem_append_left _ (List.mem_of_getElem? (i := 165) rfl)))))), rfl⟩
theorem mw_1126 : (Jvm.Cond.selects "WardFalls" ({ cls := "WardFalls", name := "clock", desc := "(I)I" } : Jvm.MethodName) ({ cls := "WardFalls", name := "clock", desc := "(I)I" } : Jvm.MethodName)) ∈ lw_good := List.mem_filter.mpr ⟨List.mem_append_right _ (List.mem_append_right _ (List.mem_append_right _ (List.mem_append_right _ (List.mem_append_right _ (List.mem_append_left _ (List.mem_of_getElem? (i := 166) rfl)))))), rfl⟩
theorem mw_1137 : (Jvm.Cond.methodLink "WardFallsLaw" (132 : Nat) ({ cls := "WardFalls", name := "stays", desc := "()I" } : Jvm.MethodName)) ∈ lw_good := List.mem_filter.mpr ⟨List.mem_append_right _ (List.mem_append_right _ (List.mem_append_right _ (List.mem_append_right _ (List.mem_append_right _ (List.mem_append_left _ (List.mem_of_getElem? (i := 177) rfl)))))), rfl⟩
theorem mw_1138 : (Jvm.Cond.instanceMethod ({ cls := "WardFalls", name := "stays", desc := "()I" } : Jvm.MethodName)) ∈ lw_good := List.mem_filter.mpr ⟨List.mem_append_right _ (List.mem_append_right _ (List.mem_append_right _ (List.mem_append_right _ (List.mem_append_right _ (List.mem_append_left _ (List.mem_of_getElem? (i := 178) rfl)))))), rfl⟩
theorem mw_1139 : (Jvm.Cond.selects "WardFalls" ({ cls := "WardFalls", name := "stays", desc := "()I" } : Jvm.MethodName) ({ cls := "WardFalls", name := "stays", desc := "()I" } : Jvm.MethodName)) ∈ lw_good := List.mem_filter.mpr ⟨List.mem_append_right _ (List.mem_append_right _ (List.mem_append_right _ (List.mem_append_right _ (List.mem_append_right _ (List.mem_append_left _ (List.mem_of_getElem? (i := 179) rfl)))))), rfl⟩
theorem mw_1160 : (Jvm.Cond.methodLink "WardFallsLaw" (136 : Nat) ({ cls := "WardFalls", name := "stay", desc := "(I)I" } : Jvm.MethodName)) ∈ lw_good := List.mem_filter.mpr ⟨List.mem_append_right _ (List.mem_append_right _ (List.mem_append_right _ (List.mem_append_right _ (List.mem_append_right _ (List.mem_append_left _ (List.mem_of_getElem? (i := 200) rfl)))))), rfl⟩
theorem mw_1161 : (Jvm.Cond.instanceMethod ({ cls := "WardFalls", name := "stay", desc := "(I)I" } : Jvm.MethodName)) ∈ lw_good := List.mem_filter.mpr ⟨List.mem_append_right _ (List.mem_append_right _ (List.mem_append_right _ (List.mem_append_right _ (List.mem_append_right _ (List.mem_append_left _ (List.mem_of_getElem? (i := 201) rfl)))))), rfl⟩
theorem mw_1162 : (Jvm.Cond.selects "WardFalls" ({ cls := "WardFalls", name := "stay", desc := "(I)I" } : Jvm.MethodName) ({ cls := "WardFalls", name := "stay", desc := "(I)I" } : Jvm.MethodName)) ∈ lw_good := List.mem_filter.mpr ⟨List.mem_append_right _ (List.mem_append_right _ (List.mem_append_right _ (List.mem_append_right _ (List.mem_append_right _ (List.mem_append_left _ (List.mem_of_getElem? (i := 202) rfl)))))), rfl⟩
theorem mw_1164 : (Jvm.Cond.methodLink "WardFallsLaw" (140 : Nat) ({ cls := "WardFalls", name := "treaty", desc := "(I)I" } : Jvm.MethodName)) ∈ lw_good := List.mem_filter.mpr ⟨List.mem_append_right _ (List.mem_append_right _ (List.mem_append_right _ (List.mem_append_right _ (List.mem_append_right _ (List.mem_append_left _ (List.mem_of_getElem? (i := 204) rfl)))))), rfl⟩
theorem mw_1165 : (Jvm.Cond.instanceMethod ({ cls := "WardFalls", name := "treaty", desc := "(I)I" } : Jvm.MethodName)) ∈ lw_good := List.mem_filter.mpr ⟨List.mem_append_right _ (List.mem_append_right _ (List.mem_append_right _ (List.mem_append_right _ (List.mem_append_right _ (List.mem_append_left _ (List.mem_of_getElem? (i := 205) rfl)))))), rfl⟩
theorem mw_1166 : (Jvm.Cond.selects "WardFalls" ({ cls := "WardFalls", name := "treaty", desc := "(I)I" } : Jvm.MethodName) ({ cls := "WardFalls", name := "treaty", desc := "(I)I" } : Jvm.MethodName)) ∈ lw_good := List.mem_filter.mpr ⟨List.mem_append_right _ (List.mem_append_right _ (List.mem_append_right _ (List.mem_append_right _ (List.mem_append_right _ (List.mem_append_left _ (List.mem_of_getElem? (i := 206) rfl)))))), rfl⟩
theorem mw_1173 : (Jvm.Cond.methodLink "WardFallsLaw" (144 : Nat) ({ cls := "WardFalls", name := "moves", desc := "(II)I" } : Jvm.MethodName)) ∈ lw_good := List.mem_filter.mpr ⟨List.mem_append_right _ (List.mem_append_right _ (List.mem_append_right _ (List.mem_append_right _ (List.mem_append_right _ (List.mem_append_left _ (List.mem_of_getElem? (i := 213) rfl)))))), rfl⟩
theorem mw_1174 : (Jvm.Cond.instanceMethod ({ cls := "WardFalls", name := "moves", desc := "(II)I" } : Jvm.MethodName)) ∈ lw_good := List.mem_filter.mpr ⟨List.mem_append_right _ (List.mem_append_right _ (List.mem_append_right _ (List.mem_append_right _ (List.mem_append_right _ (List.mem_append_left _ (List.mem_of_getElem? (i := 214) rfl)))))), rfl⟩
theorem mw_1175 : (Jvm.Cond.selects "WardFalls" ({ cls := "WardFalls", name := "moves", desc := "(II)I" } : Jvm.MethodName) ({ cls := "WardFalls", name := "moves", desc := "(II)I" } : Jvm.MethodName)) ∈ lw_good := List.mem_filter.mpr ⟨List.mem_append_right _ (List.mem_append_right _ (List.mem_append_right _ (List.mem_append_right _ (List.mem_append_right _ (List.mem_append_left _ (List.mem_of_getElem? (i := 215) rfl)))))), rfl⟩
theorem mw_1178 : (Jvm.Cond.methodLink "WardFallsLaw" (148 : Nat) ({ cls := "WardFalls", name := "note", desc := "(II)I" } : Jvm.MethodName)) ∈ lw_good := List.mem_filter.mpr ⟨List.mem_append_right _ (List.mem_append_right _ (List.mem_append_right _ (List.mem_append_right _ (List.mem_append_right _ (List.mem_append_left _ (List.mem_of_getElem? (i := 218) rfl)))))), rfl⟩
theorem mw_1179 : (Jvm.Cond.instanceMethod ({ cls := "WardFalls", name := "note", desc := "(II)I" } : Jvm.MethodName)) ∈ lw_good := List.mem_filter.mpr ⟨List.mem_append_right _ (List.mem_append_right _ (List.mem_append_right _ (List.mem_append_right _ (List.mem_append_right _ (List.mem_append_left _ (List.mem_of_getElem? (i := 219) rfl)))))), rfl⟩
theorem mw_1180 : (Jvm.Cond.selects "WardFalls" ({ cls := "WardFalls", name := "note", desc := "(II)I" } : Jvm.MethodName) ({ cls := "WardFalls", name := "note", desc := "(II)I" } : Jvm.MethodName)) ∈ lw_good := List.mem_filter.mpr ⟨List.mem_append_right _ (List.mem_append_right _ (List.mem_append_right _ (List.mem_append_right _ (List.mem_append_right _ (List.mem_append_left _ (List.mem_of_getElem? (i := 220) rfl)))))), rfl⟩
theorem mw_1187 : (Jvm.Cond.methodLink "WardFallsLaw" (152 : Nat) ({ cls := "WardFalls", name := "strike", desc := "(I)I" } : Jvm.MethodName)) ∈ lw_good := List.mem_filter.mpr ⟨List.mem_append_right _ (List.mem_append_right _ (List.mem_append_right _ (List.mem_append_right _ (List.mem_append_right _ (List.mem_append_left _ (List.mem_of_getElem? (i := 227) rfl)))))), rfl⟩
theorem mw_1188 : (Jvm.Cond.instanceMethod ({ cls := "WardFalls", name := "strike", desc := "(I)I" } : Jvm.MethodName)) ∈ lw_good := List.mem_filter.mpr ⟨List.mem_append_right _ (List.mem_append_right _ (List.mem_append_right _ (List.mem_append_right _ (List.mem_append_right _ (List.mem_append_left _ (List.mem_of_getElem? (i := 228) rfl)))))), rfl⟩
theorem mw_1189 : (Jvm.Cond.selects "WardFalls" ({ cls := "WardFalls", name := "strike", desc := "(I)I" } : Jvm.MethodName) ({ cls := "WardFalls", name := "strike", desc := "(I)I" } : Jvm.MethodName)) ∈ lw_good := List.mem_filter.mpr ⟨List.mem_append_right _ (List.mem_append_right _ (List.mem_append_right _ (List.mem_append_right _ (List.mem_append_right _ (List.mem_append_left _ (List.mem_of_getElem? (i := 229) rfl)))))), rfl⟩
theorem mw_1191 : (Jvm.Cond.methodLink "WardFallsLaw" (156 : Nat) ({ cls := "WardFalls", name := "known", desc := "(I)Z" } : Jvm.MethodName)) ∈ lw_good := List.mem_filter.mpr ⟨List.mem_append_right _ (List.mem_append_right _ (List.mem_append_right _ (List.mem_append_right _ (List.mem_append_right _ (List.mem_append_left _ (List.mem_of_getElem? (i := 231) rfl)))))), rfl⟩
theorem mw_1192 : (Jvm.Cond.instanceMethod ({ cls := "WardFalls", name := "known", desc := "(I)Z" } : Jvm.MethodName)) ∈ lw_good := List.mem_filter.mpr ⟨List.mem_append_right _ (List.mem_append_right _ (List.mem_append_right _ (List.mem_append_right _ (List.mem_append_right _ (List.mem_append_left _ (List.mem_of_getElem? (i := 232) rfl)))))), rfl⟩
theorem mw_1193 : (Jvm.Cond.selects "WardFalls" ({ cls := "WardFalls", name := "known", desc := "(I)Z" } : Jvm.MethodName) ({ cls := "WardFalls", name := "known", desc := "(I)Z" } : Jvm.MethodName)) ∈ lw_good := List.mem_filter.mpr ⟨List.mem_append_right _ (List.mem_append_right _ (List.mem_append_right _ (List.mem_append_right _ (List.mem_append_right _ (List.mem_append_left _ (List.mem_of_getElem? (i := 233) rfl)))))), rfl⟩
theorem mw_1195 : (Jvm.Cond.methodLink "WardFallsLaw" (161 : Nat) ({ cls := "WardFalls", name := "fits", desc := "()I" } : Jvm.MethodName)) ∈ lw_good := List.mem_filter.mpr ⟨List.mem_append_right _ (List.mem_append_right _ (List.mem_append_right _ (List.mem_append_right _ (List.mem_append_right _ (List.mem_append_left _ (List.mem_of_getElem? (i := 235) rfl)))))), rfl⟩
theorem mw_1196 : (Jvm.Cond.instanceMethod ({ cls := "WardFalls", name := "fits", desc := "()I" } : Jvm.MethodName)) ∈ lw_good := List.mem_filter.mpr ⟨List.mem_append_right _ (List.mem_append_right _ (List.mem_append_right _ (List.mem_append_right _ (List.mem_append_right _ (List.mem_append_left _ (List.mem_of_getElem? (i := 236) rfl)))))), rfl⟩
theorem mw_1197 : (Jvm.Cond.selects "WardFalls" ({ cls := "WardFalls", name := "fits", desc := "()I" } : Jvm.MethodName) ({ cls := "WardFalls", name := "fits", desc := "()I" } : Jvm.MethodName)) ∈ lw_good := List.mem_filter.mpr ⟨List.mem_append_right _ (List.mem_append_right _ (List.mem_append_right _ (List.mem_append_right _ (List.mem_append_right _ (List.mem_append_left _ (List.mem_of_getElem? (i := 237) rfl)))))), rfl⟩
theorem mw_1224 : (Jvm.Cond.methodLink "WardFallsLaw" (165 : Nat) ({ cls := "WardFalls", name := "may", desc := "(I)I" } : Jvm.MethodName)) ∈ lw_good := List.mem_filter.mpr ⟨List.mem_append_right _ (List.mem_append_right _ (List.mem_append_right _ (List.mem_append_right _ (List.mem_append_right _ (List.mem_append_right _ (List.mem_append_left _ (List.mem_of_getElem? (i := 24) rfl))))))), rfl⟩
theorem mw_1225 : (Jvm.Cond.instanceMethod ({ cls := "WardFalls", name := "may", desc := "(I)I" } : Jvm.MethodName)) ∈ lw_good := List.mem_filter.mpr ⟨List.mem_append_right _ (List.mem_append_right _ (List.mem_append_right _ (List.mem_append_right _ (List.mem_append_right _ (List.mem_append_right _ (List.mem_append_left _ (List.mem_of_getElem? (i := 25) rfl))))))), rfl⟩
theorem mw_1226 : (Jvm.Cond.selects "WardFalls" ({ cls := "WardFalls", name := "may", desc := "(I)I" } : Jvm.MethodName) ({ cls := "WardFalls", name := "may", desc := "(I)I" } : Jvm.MethodName)) ∈ lw_good := List.mem_filter.mpr ⟨List.mem_append_right _ (List.mem_append_right _ (List.mem_append_right _ (List.mem_append_right _ (List.mem_append_right _ (List.mem_append_right _ (List.mem_append_left _ (List.mem_of_getElem? (i := 26) rfl))))))), rfl⟩
theorem mw_1228 : (Jvm.Cond.methodLink "WardFallsLaw" (169 : Nat) ({ cls := "WardFalls", name := "years", desc := "(I)I" } : Jvm.MethodName)) ∈ lw_good := List.mem_filter.mpr ⟨List.mem_append_right _ (List.mem_append_right _ (List.mem_append_right _ (List.mem_append_right _ (List.mem_append_right _ (List.mem_append_right _ (List.mem_append_left _ (List.mem_of_getElem? (i := 28) rfl))))))), rfl⟩
theorem mw_1229 : (Jvm.Cond.instanceMethod ({ cls := "WardFalls", name := "years", desc := "(I)I" } : Jvm.MethodName)) ∈ lw_good := List.mem_filter.mpr ⟨List.mem_append_right _ (List.mem_append_right _ (List.mem_append_right _ (List.mem_append_right _ (List.mem_append_right _ (List.mem_append_right _ (List.mem_append_left _ (List.mem_of_getElem? (i := 29) rfl))))))), rfl⟩
theorem mw_1230 : (Jvm.Cond.selects "WardFalls" ({ cls := "WardFalls", name := "years", desc := "(I)I" } : Jvm.MethodName) ({ cls := "WardFalls", name := "years", desc := "(I)I" } : Jvm.MethodName)) ∈ lw_good := List.mem_filter.mpr ⟨List.mem_append_right _ (List.mem_append_right _ (List.mem_append_right _ (List.mem_append_right _ (List.mem_append_right _ (List.mem_append_right _ (List.mem_append_left _ (List.mem_of_getElem? (i := 30) rfl))))))), rfl⟩
theorem mw_1246 : (Jvm.Cond.methodLink "WardFallsLaw" (173 : Nat) ({ cls := "WardFalls", name := "voted", desc := "(II)I" } : Jvm.MethodName)) ∈ lw_good := List.mem_filter.mpr ⟨List.mem_append_right _ (List.mem_append_right _ (List.mem_append_right _ (List.mem_append_right _ (List.mem_append_right _ (List.mem_append_right _ (List.mem_append_left _ (List.mem_of_getElem? (i := 46) rfl))))))), rfl⟩
theorem mw_1247 : (Jvm.Cond.instanceMethod ({ cls := "WardFalls", name := "voted", desc := "(II)I" } : Jvm.MethodName)) ∈ lw_good := List.mem_filter.mpr ⟨List.mem_append_right _ (List.mem_append_right _ (List.mem_append_right _ (List.mem_append_right _ (List.mem_append_right _ (List.mem_append_right _ (List.mem_append_left _ (List.mem_of_getElem? (i := 47) rfl))))))), rfl⟩
theorem mw_1248 : (Jvm.Cond.selects "WardFalls" ({ cls := "WardFalls", name := "voted", desc := "(II)I" } : Jvm.MethodName) ({ cls := "WardFalls", name := "voted", desc := "(II)I" } : Jvm.MethodName)) ∈ lw_good := List.mem_filter.mpr ⟨List.mem_append_right _ (List.mem_append_right _ (List.mem_append_right _ (List.mem_append_right _ (List.mem_append_right _ (List.mem_append_right _ (List.mem_append_left _ (List.mem_of_getElem? (i := 48) rfl))))))), rfl⟩
theorem mw_1250 : (Jvm.Cond.methodLink "WardFallsLaw" (177 : Nat) ({ cls := "WardFalls", name := "tried", desc := "(III)I" } : Jvm.MethodName)) ∈ lw_good := List.mem_filter.mpr ⟨List.mem_append_right _ (List.mem_append_right _ (List.mem_append_right _ (List.mem_append_right _ (List.mem_append_right _ (List.mem_append_right _ (List.mem_append_left _ (List.mem_of_getElem? (i := 50) rfl))))))), rfl⟩
theorem mw_1251 : (Jvm.Cond.instanceMethod ({ cls := "WardFalls", name := "tried", desc := "(III)I" } : Jvm.MethodName)) ∈ lw_good := List.mem_filter.mpr ⟨List.mem_append_right _ (List.mem_append_right _ (List.mem_append_right _ (List.mem_append_right _ (List.mem_append_right _ (List.mem_append_right _ (List.mem_append_left _ (List.mem_of_getElem? (i := 51) rfl))))))), rfl⟩
theorem mw_1252 : (Jvm.Cond.selects "WardFalls" ({ cls := "WardFalls", name := "tried", desc := "(III)I" } : Jvm.MethodName) ({ cls := "WardFalls", name := "tried", desc := "(III)I" } : Jvm.MethodName)) ∈ lw_good := List.mem_filter.mpr ⟨List.mem_append_right _ (List.mem_append_right _ (List.mem_append_right _ (List.mem_append_right _ (List.mem_append_right _ (List.mem_append_right _ (List.mem_append_left _ (List.mem_of_getElem? (i := 52) rfl))))))), rfl⟩
theorem mw_1258 : (Jvm.Cond.methodLink "WardFallsLaw" (181 : Nat) ({ cls := "WardFalls", name := "undo", desc := "()I" } : Jvm.MethodName)) ∈ lw_good := List.mem_filter.mpr ⟨List.mem_append_right _ (List.mem_append_right _ (List.mem_append_right _ (List.mem_append_right _ (List.mem_append_right _ (List.mem_append_right _ (List.mem_append_left _ (List.mem_of_getElem? (i := 58) rfl))))))), rfl⟩
theorem mw_1259 : (Jvm.Cond.instanceMethod ({ cls := "WardFalls", name := "undo", desc := "()I" } : Jvm.MethodName)) ∈ lw_good := List.mem_filter.mpr ⟨List.mem_append_right _ (List.mem_append_right _ (List.mem_append_right _ (List.mem_append_right _ (List.mem_append_right _ (List.mem_append_right _ (List.mem_append_left _ (List.mem_of_getElem? (i := 59) rfl))))))), rfl⟩
theorem mw_1260 : (Jvm.Cond.selects "WardFalls" ({ cls := "WardFalls", name := "undo", desc := "()I" } : Jvm.MethodName) ({ cls := "WardFalls", name := "undo", desc := "()I" } : Jvm.MethodName)) ∈ lw_good := List.mem_filter.mpr ⟨List.mem_append_right _ (List.mem_append_right _ (List.mem_append_right _ (List.mem_append_right _ (List.mem_append_right _ (List.mem_append_right _ (List.mem_append_left _ (List.mem_of_getElem? (i := 60) rfl))))))), rfl⟩
theorem mw_1266 : (Jvm.Cond.methodLink "WardFallsLaw" (185 : Nat) ({ cls := "WardFalls", name := "keep", desc := "()I" } : Jvm.MethodName)) ∈ lw_good := List.mem_filter.mpr ⟨List.mem_append_right _ (List.mem_append_right _ (List.mem_append_right _ (List.mem_append_right _ (List.mem_append_right _ (List.mem_append_right _ (List.mem_append_left _ (List.mem_of_getElem? (i := 66) rfl))))))), rfl⟩
theorem mw_1267 : (Jvm.Cond.instanceMethod ({ cls := "WardFalls", name := "keep", desc := "()I" } : Jvm.MethodName)) ∈ lw_good := List.mem_filter.mpr ⟨List.mem_append_right _ (List.mem_append_right _ (List.mem_append_right _ (List.mem_append_right _ (List.mem_append_right _ (List.mem_append_right _ (List.mem_append_left _ (List.mem_of_getElem? (i := 67) rfl))))))), rfl⟩
theorem mw_1268 : (Jvm.Cond.selects "WardFalls" ({ cls := "WardFalls", name := "keep", desc := "()I" } : Jvm.MethodName) ({ cls := "WardFalls", name := "keep", desc := "()I" } : Jvm.MethodName)) ∈ lw_good := List.mem_filter.mpr ⟨List.mem_append_right _ (List.mem_append_right _ (List.mem_append_right _ (List.mem_append_right _ (List.mem_append_right _ (List.mem_append_right _ (List.mem_append_left _ (List.mem_of_getElem? (i := 68) rfl))))))), rfl⟩
theorem mw_1275 : (Jvm.Cond.methodLink "WardFallsLaw" (189 : Nat) ({ cls := "WardFalls", name := "back", desc := "()I" } : Jvm.MethodName)) ∈ lw_good := List.mem_filter.mpr ⟨List.mem_append_right _ (List.mem_append_right _ (List.mem_append_right _ (List.mem_append_right _ (List.mem_append_right _ (List.mem_append_right _ (List.mem_append_left _ (List.mem_of_getElem? (i := 75) rfl))))))), rfl⟩
theorem mw_1276 : (Jvm.Cond.instanceMethod ({ cls := "WardFalls", name := "back", desc := "()I" } : Jvm.MethodName)) ∈ lw_good := List.mem_filter.mpr ⟨List.mem_append_right _ (List.mem_append_right _ (List.mem_append_right _ (List.mem_append_right _ (List.mem_append_right _ (List.mem_append_right _ (List.mem_append_left _ (List.mem_of_getElem? (i := 76) rfl))))))), rfl⟩
theorem mw_1277 : (Jvm.Cond.selects "WardFalls" ({ cls := "WardFalls", name := "back", desc := "()I" } : Jvm.MethodName) ({ cls := "WardFalls", name := "back", desc := "()I" } : Jvm.MethodName)) ∈ lw_good := List.mem_filter.mpr ⟨List.mem_append_right _ (List.mem_append_right _ (List.mem_append_right _ (List.mem_append_right _ (List.mem_append_right _ (List.mem_append_right _ (List.mem_append_left _ (List.mem_of_getElem? (i := 77) rfl))))))), rfl⟩
theorem mw_1279 : (Jvm.Cond.methodLink "WardFallsLaw" (193 : Nat) ({ cls := "WardFalls", name := "count", desc := "(I)I" } : Jvm.MethodName)) ∈ lw_good := List.mem_filter.mpr ⟨List.mem_append_right _ (List.mem_append_right _ (List.mem_append_right _ (List.mem_append_right _ (List.mem_append_right _ (List.mem_append_right _ (List.mem_append_left _ (List.mem_of_getElem? (i := 79) rfl))))))), rfl⟩
theorem mw_1280 : (Jvm.Cond.instanceMethod ({ cls := "WardFalls", name := "count", desc := "(I)I" } : Jvm.MethodName)) ∈ lw_good := List.mem_filter.mpr ⟨List.mem_append_right _ (List.mem_append_right _ (List.mem_append_right _ (List.mem_append_right _ (List.mem_append_right _ (List.mem_append_right _ (List.mem_append_left _ (List.mem_of_getElem? (i := 80) rfl))))))), rfl⟩
theorem mw_1281 : (Jvm.Cond.selects "WardFalls" ({ cls := "WardFalls", name := "count", desc := "(I)I" } : Jvm.MethodName) ({ cls := "WardFalls", name := "count", desc := "(I)I" } : Jvm.MethodName)) ∈ lw_good := List.mem_filter.mpr ⟨List.mem_append_right _ (List.mem_append_right _ (List.mem_append_right _ (List.mem_append_right _ (List.mem_append_right _ (List.mem_append_right _ (List.mem_append_left _ (List.mem_of_getElem? (i := 81) rfl))))))), rfl⟩
theorem mw_1288 : (Jvm.Cond.methodLink "WardFallsLaw" (39 : Nat) ({ cls := "WardFallsLaw", name := "cell", desc := "(LWardFalls;II[J)I" } : Jvm.MethodName)) ∈ lw_good := List.mem_filter.mpr ⟨List.mem_append_right _ (List.mem_append_right _ (List.mem_append_right _ (List.mem_append_right _ (List.mem_append_right _ (List.mem_append_right _ (List.mem_append_left _ (List.mem_of_getElem? (i := 88) rfl))))))), rfl⟩
theorem mw_1289 : (Jvm.Cond.static ({ cls := "WardFallsLaw", name := "cell", desc := "(LWardFalls;II[J)I" } : Jvm.MethodName)) ∈ lw_good := List.mem_filter.mpr ⟨List.mem_append_right _ (List.mem_append_right _ (List.mem_append_right _ (List.mem_append_right _ (List.mem_append_right _ (List.mem_append_right _ (List.mem_append_left _ (List.mem_of_getElem? (i := 89) rfl))))))), rfl⟩
theorem mw_1290 : (Jvm.Cond.codeWith ({ cls := "WardFallsLaw", name := "cell", desc := "(LWardFalls;II[J)I" } : Jvm.MethodName) method_3_code (5 : Nat) (Option.some Jvm.ClassFile.FieldType.int) [((0 : Nat), (10 : Nat), (13 : Nat), (13 : Nat)), ((0 : Nat), (10 : Nat), (17 : Nat), (15 : Nat))]) ∈ lw_good := List.mem_filter.mpr ⟨List.mem_append_right _ (List.mem_append_right _ (List.mem_append_right _ (List.mem_append_right _ (List.mem_append_right _ (List.mem_append_right _ (List.mem_append_left _ (List.mem_of_getElem? (i := 90) rfl))))))), rfl⟩
theorem mw_1595 : (Jvm.Cond.methodLink "WardFallsLaw" (25 : Nat) ({ cls := "WardFallsModel", name := "feed", desc := "(IIIII)I" } : Jvm.MethodName)) ∈ lw_good := List.mem_filter.mpr ⟨List.mem_append_right _ (List.mem_append_right _ (List.mem_append_right _ (List.mem_append_right _ (List.mem_append_right _ (List.mem_append_right _ (List.mem_append_right _ (List.mem_append_left _ (List.mem_of_getElem? (i := 155) rfl)))))))), rfl⟩
theorem mw_1596 : (Jvm.Cond.instanceMethod ({ cls := "WardFallsModel", name := "feed", desc := "(IIIII)I" } : Jvm.MethodName)) ∈ lw_good := List.mem_filter.mpr ⟨List.mem_append_right _ (List.mem_append_right _ (List.mem_append_right _ (List.mem_append_right _ (List.mem_append_right _ (List.mem_append_right _ (List.mem_append_right _ (List.mem_append_left _ (List.mem_of_getElem? (i := 156) rfl)))))))), rfl⟩
theorem mw_1597 : (Jvm.Cond.selects "WardFallsModel" ({ cls := "WardFallsModel", name := "feed", desc := "(IIIII)I" } : Jvm.MethodName) ({ cls := "WardFallsModel", name := "feed", desc := "(IIIII)I" } : Jvm.MethodName)) ∈ lw_good := List.mem_filter.mpr ⟨List.mem_append_right _ (List.mem_append_right _ (List.mem_append_right _ (List.mem_append_right _ (List.mem_append_right _ (List.mem_append_right _ (List.mem_append_right _ (List.mem_append_left _ (List.mem_of_getElem? (i := 157) rfl)))))))), rfl⟩
theorem mw_1599 : (Jvm.Cond.methodLink "WardFallsLaw" (30 : Nat) ({ cls := "WardFallsModel", name := "text", desc := "(I)I" } : Jvm.MethodName)) ∈ lw_good := List.mem_filter.mpr ⟨List.mem_append_right _ (List.mem_append_right _ (List.mem_append_right _ (List.mem_append_right _ (List.mem_append_right _ (List.mem_append_right _ (List.mem_append_right _ (List.mem_append_left _ (List.mem_of_getElem? (i := 159) rfl)))))))), rfl⟩
theorem mw_1600 : (Jvm.Cond.instanceMethod ({ cls := "WardFallsModel", name := "text", desc := "(I)I" } : Jvm.MethodName)) ∈ lw_good := List.mem_filter.mpr ⟨List.mem_append_right _ (List.mem_append_right _ (List.mem_append_right _ (List.mem_append_right _ (List.mem_append_right _ (List.mem_append_right _ (List.mem_append_right _ (List.mem_append_left _ (List.mem_of_getElem? (i := 160) rfl)))))))), rfl⟩
theorem mw_1601 : (Jvm.Cond.selects "WardFallsModel" ({ cls := "WardFallsModel", name := "text", desc := "(I)I" } : Jvm.MethodName) ({ cls := "WardFallsModel", name := "text", desc := "(I)I" } : Jvm.MethodName)) ∈ lw_good := List.mem_filter.mpr ⟨List.mem_append_right _ (List.mem_append_right _ (List.mem_append_right _ (List.mem_append_right _ (List.mem_append_right _ (List.mem_append_right _ (List.mem_append_right _ (List.mem_append_left _ (List.mem_of_getElem? (i := 161) rfl)))))))), rfl⟩
theorem mw_1751 : (Jvm.Cond.methodLink "WardFallsLaw" (34 : Nat) ({ cls := "WardFallsModel", name := "fault", desc := "(I)I" } : Jvm.MethodName)) ∈ lw_good := List.mem_filter.mpr ⟨List.mem_append_right _ (List.mem_append_right _ (List.mem_append_right _ (List.mem_append_right _ (List.mem_append_right _ (List.mem_append_right _ (List.mem_append_right _ (List.mem_append_right _ (List.mem_append_left _ (List.mem_of_getElem? (i := 71) rfl))))))))), rfl⟩
theorem mw_1752 : (Jvm.Cond.instanceMethod ({ cls := "WardFallsModel", name := "fault", desc := "(I)I" } : Jvm.MethodName)) ∈ lw_good := List.mem_filter.mpr ⟨List.mem_append_right _ (List.mem_append_right _ (List.mem_append_right _ (List.mem_append_right _ (List.mem_append_right _ (List.mem_append_right _ (List.mem_append_right _ (List.mem_append_right _ (List.mem_append_left _ (List.mem_of_getElem? (i := 72) rfl))))))))), rfl⟩
theorem mw_1753 : (Jvm.Cond.selects "WardFallsModel" ({ cls := "WardFallsModel", name := "fault", desc := "(I)I" } : Jvm.MethodName) ({ cls := "WardFallsModel", name := "fault", desc := "(I)I" } : Jvm.MethodName)) ∈ lw_good := List.mem_filter.mpr ⟨List.mem_append_right _ (List.mem_append_right _ (List.mem_append_right _ (List.mem_append_right _ (List.mem_append_right _ (List.mem_append_right _ (List.mem_append_right _ (List.mem_append_right _ (List.mem_append_left _ (List.mem_of_getElem? (i := 73) rfl))))))))), rfl⟩
theorem mw_1755 : (Jvm.Cond.methodLink "WardFallsLaw" (38 : Nat) ({ cls := "WardFallsModel", name := "named", desc := "(II)I" } : Jvm.MethodName)) ∈ lw_good := List.mem_filter.mpr ⟨List.mem_append_right _ (List.mem_append_right _ (List.mem_append_right _ (List.mem_append_right _ (List.mem_append_right _ (List.mem_append_right _ (List.mem_append_right _ (List.mem_append_right _ (List.mem_append_left _ (List.mem_of_getElem? (i := 75) rfl))))))))), rfl⟩
theorem mw_1756 : (Jvm.Cond.instanceMethod ({ cls := "WardFallsModel", name := "named", desc := "(II)I" } : Jvm.MethodName)) ∈ lw_good := List.mem_filter.mpr ⟨List.mem_append_right _ (List.mem_append_right _ (List.mem_append_right _ (List.mem_append_right _ (List.mem_append_right _ (List.mem_append_right _ (List.mem_append_right _ (List.mem_append_right _ (List.mem_append_left _ (List.mem_of_getElem? (i := 76) rfl))))))))), rfl⟩
theorem mw_1757 : (Jvm.Cond.selects "WardFallsModel" ({ cls := "WardFallsModel", name := "named", desc := "(II)I" } : Jvm.MethodName) ({ cls := "WardFallsModel", name := "named", desc := "(II)I" } : Jvm.MethodName)) ∈ lw_good := List.mem_filter.mpr ⟨List.mem_append_right _ (List.mem_append_right _ (List.mem_append_right _ (List.mem_append_right _ (List.mem_append_right _ (List.mem_append_right _ (List.mem_append_right _ (List.mem_append_right _ (List.mem_append_left _ (List.mem_of_getElem? (i := 77) rfl))))))))), rfl⟩
theorem mw_1759 : (Jvm.Cond.methodLink "WardFallsLaw" (44 : Nat) ({ cls := "WardFallsModel", name := "cell", desc := "(II)I" } : Jvm.MethodName)) ∈ lw_good := List.mem_filter.mpr ⟨List.mem_append_right _ (List.mem_append_right _ (List.mem_append_right _ (List.mem_append_right _ (List.mem_append_right _ (List.mem_append_right _ (List.mem_append_right _ (List.mem_append_right _ (List.mem_append_left _ (List.mem_of_getElem? (i := 79) rfl))))))))), rfl⟩
theorem mw_1760 : (Jvm.Cond.instanceMethod ({ cls := "WardFallsModel", name := "cell", desc := "(II)I" } : Jvm.MethodName)) ∈ lw_good := List.mem_filter.mpr ⟨List.mem_append_right _ (List.mem_append_right _ (List.mem_append_right _ (List.mem_append_right _ (List.mem_append_right _ (List.mem_append_right _ (List.mem_append_right _ (List.mem_append_right _ (List.mem_append_left _ (List.mem_of_getElem? (i := 80) rfl))))))))), rfl⟩
theorem mw_1761 : (Jvm.Cond.selects "WardFallsModel" ({ cls := "WardFallsModel", name := "cell", desc := "(II)I" } : Jvm.MethodName) ({ cls := "WardFallsModel", name := "cell", desc := "(II)I" } : Jvm.MethodName)) ∈ lw_good := List.mem_filter.mpr ⟨List.mem_append_right _ (List.mem_append_right _ (List.mem_append_right _ (List.mem_append_right _ (List.mem_append_right _ (List.mem_append_right _ (List.mem_append_right _ (List.mem_append_right _ (List.mem_append_left _ (List.mem_of_getElem? (i := 81) rfl))))))))), rfl⟩
theorem mw_1791 : (Jvm.Cond.methodLink "WardFallsLaw" (48 : Nat) ({ cls := "WardFallsModel", name := "ward", desc := "(II)I" } : Jvm.MethodName)) ∈ lw_good := List.mem_filter.mpr ⟨List.mem_append_right _ (List.mem_append_right _ (List.mem_append_right _ (List.mem_append_right _ (List.mem_append_right _ (List.mem_append_right _ (List.mem_append_right _ (List.mem_append_right _ (List.mem_append_left _ (List.mem_of_getElem? (i := 111) rfl))))))))), rfl⟩
theorem mw_1792 : (Jvm.Cond.instanceMethod ({ cls := "WardFallsModel", name := "ward", desc := "(II)I" } : Jvm.MethodName)) ∈ lw_good := List.mem_filter.mpr ⟨List.mem_append_right _ (List.mem_append_right _ (List.mem_append_right _ (List.mem_append_right _ (List.mem_append_right _ (List.mem_append_right _ (List.mem_append_right _ (List.mem_append_right _ (List.mem_append_left _ (List.mem_of_getElem? (i := 112) rfl))))))))), rfl⟩
theorem mw_1793 : (Jvm.Cond.selects "WardFallsModel" ({ cls := "WardFallsModel", name := "ward", desc := "(II)I" } : Jvm.MethodName) ({ cls := "WardFallsModel", name := "ward", desc := "(II)I" } : Jvm.MethodName)) ∈ lw_good := List.mem_filter.mpr ⟨List.mem_append_right _ (List.mem_append_right _ (List.mem_append_right _ (List.mem_append_right _ (List.mem_append_right _ (List.mem_append_right _ (List.mem_append_right _ (List.mem_append_right _ (List.mem_append_left _ (List.mem_of_getElem? (i := 113) rfl))))))))), rfl⟩
theorem mw_1843 : (Jvm.Cond.methodLink "WardFallsLaw" (52 : Nat) ({ cls := "WardFallsModel", name := "thing", desc := "(II)I" } : Jvm.MethodName)) ∈ lw_good := List.mem_filter.mpr ⟨List.mem_append_right _ (List.mem_append_right _ (List.mem_append_right _ (List.mem_append_right _ (List.mem_append_right _ (List.mem_append_right _ (List.mem_append_right _ (List.mem_append_right _ (List.mem_append_left _ (List.mem_of_getElem? (i := 163) rfl))))))))), rfl⟩
theorem mw_1844 : (Jvm.Cond.instanceMethod ({ cls := "WardFallsModel", name := "thing", desc := "(II)I" } : Jvm.MethodName)) ∈ lw_good := List.mem_filter.mpr ⟨List.mem_append_right _ (List.mem_append_right _ (List.mem_append_right _ (List.mem_append_right _ (List.mem_append_right _ (List.mem_append_right _ (List.mem_append_right _ (List.mem_append_right _ (List.mem_append_left _ (List.mem_of_getElem? (i := 164) rfl))))))))), rfl⟩
theorem mw_1845 : (Jvm.Cond.selects "WardFallsModel" ({ cls := "WardFallsModel", name := "thing", desc := "(II)I" } : Jvm.MethodName) ({ cls := "WardFallsModel", name := "thing", desc := "(II)I" } : Jvm.MethodName)) ∈ lw_good := List.mem_filter.mpr ⟨List.mem_append_right _ (List.mem_append_right _ (List.mem_append_right _ (List.mem_append_right _ (List.mem_append_right _ (List.mem_append_right _ (List.mem_append_right _ (List.mem_append_right _ (List.mem_append_left _ (List.mem_of_getElem? (i := 165) rfl))))))))), rfl⟩
theorem mw_1851 : (Jvm.Cond.methodLink "WardFallsLaw" (57 : Nat) ({ cls := "WardFallsModel", name := "law", desc := "(III)J" } : Jvm.MethodName)) ∈ lw_good := List.mem_filter.mpr ⟨List.mem_append_right _ (List.mem_append_right _ (List.mem_append_right _ (List.mem_append_right _ (List.mem_append_right _ (List.mem_append_right _ (List.mem_append_right _ (List.mem_append_right _ (List.mem_append_left _ (List.mem_of_getElem? (i := 171) rfl))))))))), rfl⟩
theorem mw_1852 : (Jvm.Cond.instanceMethod ({ cls := "WardFallsModel", name := "law", desc := "(III)J" } : Jvm.MethodName)) ∈ lw_good := List.mem_filter.mpr ⟨List.mem_append_right _ (List.mem_append_right _ (List.mem_append_right _ (List.mem_append_right _ (List.mem_append_right _ (List.mem_append_right _ (List.mem_append_right _ (List.mem_append_right _ (List.mem_append_left _ (List.mem_of_getElem? (i := 172) rfl))))))))), rfl⟩
theorem mw_1853 : (Jvm.Cond.selects "WardFallsModel" ({ cls := "WardFallsModel", name := "law", desc := "(III)J" } : Jvm.MethodName) ({ cls := "WardFallsModel", name := "law", desc := "(III)J" } : Jvm.MethodName)) ∈ lw_good := List.mem_filter.mpr ⟨List.mem_append_right _ (List.mem_append_right _ (List.mem_append_right _ (List.mem_append_right _ (List.mem_append_right _ (List.mem_append_right _ (List.mem_append_right _ (List.mem_append_right _ (List.mem_append_left _ (List.mem_of_getElem? (i := 173) rfl))))))))), rfl⟩
theorem mw_1864 : (Jvm.Cond.methodLink "WardFallsLaw" (61 : Nat) ({ cls := "WardFallsModel", name := "rest", desc := "(I)I" } : Jvm.MethodName)) ∈ lw_good := List.mem_filter.mpr ⟨List.mem_append_right _ (List.mem_append_right _ (List.mem_append_right _ (List.mem_append_right _ (List.mem_append_right _ (List.mem_append_right _ (List.mem_append_right _ (List.mem_append_right _ (List.mem_append_left _ (List.mem_of_getElem? (i := 184) rfl))))))))), rfl⟩
theorem mw_1865 : (Jvm.Cond.instanceMethod ({ cls := "WardFallsModel", name := "rest", desc := "(I)I" } : Jvm.MethodName)) ∈ lw_good := List.mem_filter.mpr ⟨List.mem_append_right _ (List.mem_append_right _ (List.mem_append_right _ (List.mem_append_right _ (List.mem_append_right _ (List.mem_append_right _ (List.mem_append_right _ (List.mem_append_right _ (List.mem_append_left _ (List.mem_of_getElem? (i := 185) rfl))))))))), rfl⟩
theorem mw_1866 : (Jvm.Cond.selects "WardFallsModel" ({ cls := "WardFallsModel", name := "rest", desc := "(I)I" } : Jvm.MethodName) ({ cls := "WardFallsModel", name := "rest", desc := "(I)I" } : Jvm.MethodName)) ∈ lw_good := List.mem_filter.mpr ⟨List.mem_append_right _ (List.mem_append_right _ (List.mem_append_right _ (List.mem_append_right _ (List.mem_append_right _ (List.mem_append_right _ (List.mem_append_right _ (List.mem_append_right _ (List.mem_append_left _ (List.mem_of_getElem? (i := 186) rfl))))))))), rfl⟩
theorem mw_1868 : (Jvm.Cond.methodLink "WardFallsLaw" (65 : Nat) ({ cls := "WardFallsModel", name := "way", desc := "(II)I" } : Jvm.MethodName)) ∈ lw_good := List.mem_filter.mpr ⟨List.mem_append_right _ (List.mem_append_right _ (List.mem_append_right _ (List.mem_append_right _ (List.mem_append_right _ (List.mem_append_right _ (List.mem_append_right _ (List.mem_append_right _ (List.mem_append_left _ (List.mem_of_getElem? (i := 188) rfl))))))))), rfl⟩
theorem mw_1869 : (Jvm.Cond.instanceMethod ({ cls := "WardFallsModel", name := "way", desc := "(II)I" } : Jvm.MethodName)) ∈ lw_good := List.mem_filter.mpr ⟨List.mem_append_right _ (List.mem_append_right _ (List.mem_append_right _ (List.mem_append_right _ (List.mem_append_right _ (List.mem_append_right _ (List.mem_append_right _ (List.mem_append_right _ (List.mem_append_left _ (List.mem_of_getElem? (i := 189) rfl))))))))), rfl⟩
theorem mw_1870 : (Jvm.Cond.selects "WardFallsModel" ({ cls := "WardFallsModel", name := "way", desc := "(II)I" } : Jvm.MethodName) ({ cls := "WardFallsModel", name := "way", desc := "(II)I" } : Jvm.MethodName)) ∈ lw_good := List.mem_filter.mpr ⟨List.mem_append_right _ (List.mem_append_right _ (List.mem_append_right _ (List.mem_append_right _ (List.mem_append_right _ (List.mem_append_right _ (List.mem_append_right _ (List.mem_append_right _ (List.mem_append_left _ (List.mem_of_getElem? (i := 190) rfl))))))))), rfl⟩
theorem mw_1872 : (Jvm.Cond.methodLink "WardFallsLaw" (69 : Nat) ({ cls := "WardFallsModel", name := "falls", desc := "(II)I" } : Jvm.MethodName)) ∈ lw_good := List.mem_filter.mpr ⟨List.mem_append_right _ (List.mem_append_right _ (List.mem_append_right _ (List.mem_append_right _ (List.mem_append_right _ (List.mem_append_right _ (List.mem_append_right _ (List.mem_append_right _ (List.mem_append_left _ (List.mem_of_getElem? (i := 192) rfl))))))))), rfl⟩
theorem mw_1873 : (Jvm.Cond.instanceMethod ({ cls := "WardFallsModel", name := "falls", desc := "(II)I" } : Jvm.MethodName)) ∈ lw_good := List.mem_filter.mpr ⟨List.mem_append_right _ (List.mem_append_right _ (List.mem_append_right _ (List.mem_append_right _ (List.mem_append_right _ (List.mem_append_right _ (List.mem_append_right _ (List.mem_append_right _ (List.mem_append_left _ (List.mem_of_getElem? (i := 193) rfl))))))))), rfl⟩
theorem mw_1874 : (Jvm.Cond.selects "WardFallsModel" ({ cls := "WardFallsModel", name := "falls", desc := "(II)I" } : Jvm.MethodName) ({ cls := "WardFallsModel", name := "falls", desc := "(II)I" } : Jvm.MethodName)) ∈ lw_good := List.mem_filter.mpr ⟨List.mem_append_right _ (List.mem_append_right _ (List.mem_append_right _ (List.mem_append_right _ (List.mem_append_right _ (List.mem_append_right _ (List.mem_append_right _ (List.mem_append_right _ (List.mem_append_left _ (List.mem_of_getElem? (i := 194) rfl))))))))), rfl⟩
theorem mw_1876 : (Jvm.Cond.methodLink "WardFallsLaw" (73 : Nat) ({ cls := "WardFallsModel", name := "beats", desc := "(I)I" } : Jvm.MethodName)) ∈ lw_good := List.mem_filter.mpr ⟨List.mem_append_right _ (List.mem_append_right _ (List.mem_append_right _ (List.mem_append_right _ (List.mem_append_right _ (List.mem_append_right _ (List.mem_append_right _ (List.mem_append_right _ (List.mem_append_left _ (List.mem_of_getElem? (i := 196) rfl))))))))), rfl⟩
theorem mw_1877 : (Jvm.Cond.instanceMethod ({ cls := "WardFallsModel", name := "beats", desc := "(I)I" } : Jvm.MethodName)) ∈ lw_good := List.mem_filter.mpr ⟨List.mem_append_right _ (List.mem_append_right _ (List.mem_append_right _ (List.mem_append_right _ (List.mem_append_right _ (List.mem_append_right _ (List.mem_append_right _ (List.mem_append_right _ (List.mem_append_left _ (List.mem_of_getElem? (i := 197) rfl))))))))), rfl⟩
theorem mw_1878 : (Jvm.Cond.selects "WardFallsModel" ({ cls := "WardFallsModel", name := "beats", desc := "(I)I" } : Jvm.MethodName) ({ cls := "WardFallsModel", name := "beats", desc := "(I)I" } : Jvm.MethodName)) ∈ lw_good := List.mem_filter.mpr ⟨List.mem_append_right _ (List.mem_append_right _ (List.mem_append_right _ (List.mem_append_right _ (List.mem_append_right _ (List.mem_append_right _ (List.mem_append_right _ (List.mem_append_right _ (List.mem_append_left _ (List.mem_of_getElem? (i := 198) rfl))))))))), rfl⟩
theorem mw_1884 : (Jvm.Cond.methodLink "WardFallsLaw" (78 : Nat) ({ cls := "WardFallsModel", name := "vote", desc := "(II)Z" } : Jvm.MethodName)) ∈ lw_good := List.mem_filter.mpr ⟨List.mem_append_right _ (List.mem_append_right _ (List.mem_append_right _ (List.mem_append_right _ (List.mem_append_right _ (List.mem_append_right _ (List.mem_append_right _ (List.mem_append_right _ (List.mem_append_left _ (List.mem_of_getElem? (i := 204) rfl))))))))), rfl⟩
theorem mw_1885 : (Jvm.Cond.instanceMethod ({ cls := "WardFallsModel", name := "vote", desc := "(II)Z" } : Jvm.MethodName)) ∈ lw_good := List.mem_filter.mpr ⟨List.mem_append_right _ (List.mem_append_right _ (List.mem_append_right _ (List.mem_append_right _ (List.mem_append_right _ (List.mem_append_right _ (List.mem_append_right _ (List.mem_append_right _ (List.mem_append_left _ (List.mem_of_getElem? (i := 205) rfl))))))))), rfl⟩
theorem mw_1886 : (Jvm.Cond.selects "WardFallsModel" ({ cls := "WardFallsModel", name := "vote", desc := "(II)Z" } : Jvm.MethodName) ({ cls := "WardFallsModel", name := "vote", desc := "(II)Z" } : Jvm.MethodName)) ∈ lw_good := List.mem_filter.mpr ⟨List.mem_append_right _ (List.mem_append_right _ (List.mem_append_right _ (List.mem_append_right _ (List.mem_append_right _ (List.mem_append_right _ (List.mem_append_right _ (List.mem_append_right _ (List.mem_append_left _ (List.mem_of_getElem? (i := 206) rfl))))))))), rfl⟩
theorem mw_1907 : (Jvm.Cond.methodLink "WardFallsLaw" (83 : Nat) ({ cls := "WardFallsModel", name := "net", desc := "(IZ)Z" } : Jvm.MethodName)) ∈ lw_good := List.mem_filter.mpr ⟨List.mem_append_right _ (List.mem_append_right _ (List.mem_append_right _ (List.mem_append_right _ (List.mem_append_right _ (List.mem_append_right _ (List.mem_append_right _ (List.mem_append_right _ (List.mem_append_left _ (List.mem_of_getElem? (i := 227) rfl))))))))), rfl⟩
theorem mw_1908 : (Jvm.Cond.instanceMethod ({ cls := "WardFallsModel", name := "net", desc := "(IZ)Z" } : Jvm.MethodName)) ∈ lw_good := List.mem_filter.mpr ⟨List.mem_append_right _ (List.mem_append_right _ (List.mem_append_right _ (List.mem_append_right _ (List.mem_append_right _ (List.mem_append_right _ (List.mem_append_right _ (List.mem_append_right _ (List.mem_append_left _ (List.mem_of_getElem? (i := 228) rfl))))))))), rfl⟩
theorem mw_1909 : (Jvm.Cond.selects "WardFallsModel" ({ cls := "WardFallsModel", name := "net", desc := "(IZ)Z" } : Jvm.MethodName) ({ cls := "WardFallsModel", name := "net", desc := "(IZ)Z" } : Jvm.MethodName)) ∈ lw_good := List.mem_filter.mpr ⟨List.mem_append_right _ (List.mem_append_right _ (List.mem_append_right _ (List.mem_append_right _ (List.mem_append_right _ (List.mem_append_right _ (List.mem_append_right _ (List.mem_append_right _ (List.mem_append_left _ (List.mem_of_getElem? (i := 229) rfl))))))))), rfl⟩
theorem mw_1911 : (Jvm.Cond.methodLink "WardFallsLaw" (87 : Nat) ({ cls := "WardFallsModel", name := "lay", desc := "(II)Z" } : Jvm.MethodName)) ∈ lw_good := List.mem_filter.mpr ⟨List.mem_append_right _ (List.mem_append_right _ (List.mem_append_right _ (List.mem_append_right _ (List.mem_append_right _ (List.mem_append_right _ (List.mem_append_right _ (List.mem_append_right _ (List.mem_append_left _ (List.mem_of_getElem? (i := 231) rfl))))))))), rfl⟩
theorem mw_1912 : (Jvm.Cond.instanceMethod ({ cls := "WardFallsModel", name := "lay", desc := "(II)Z" } : Jvm.MethodName)) ∈ lw_good := List.mem_filter.mpr ⟨List.mem_append_right _ (List.mem_append_right _ (List.mem_append_right _ (List.mem_append_right _ (List.mem_append_right _ (List.mem_append_right _ (List.mem_append_right _ (List.mem_append_right _ (List.mem_append_left _ (List.mem_of_getElem? (i := 232) rfl))))))))), rfl⟩
theorem mw_1913 : (Jvm.Cond.selects "WardFallsModel" ({ cls := "WardFallsModel", name := "lay", desc := "(II)Z" } : Jvm.MethodName) ({ cls := "WardFallsModel", name := "lay", desc := "(II)Z" } : Jvm.MethodName)) ∈ lw_good := List.mem_filter.mpr ⟨List.mem_append_right _ (List.mem_append_right _ (List.mem_append_right _ (List.mem_append_right _ (List.mem_append_right _ (List.mem_append_right _ (List.mem_append_right _ (List.mem_append_right _ (List.mem_append_left _ (List.mem_of_getElem? (i := 233) rfl))))))))), rfl⟩
theorem mw_1915 : (Jvm.Cond.methodLink "WardFallsLaw" (91 : Nat) ({ cls := "WardFallsModel", name := "pour", desc := "(II)I" } : Jvm.MethodName)) ∈ lw_good := List.mem_filter.mpr ⟨List.mem_append_right _ (List.mem_append_right _ (List.mem_append_right _ (List.mem_append_right _ (List.mem_append_right _ (List.mem_append_right _ (List.mem_append_right _ (List.mem_append_right _ (List.mem_append_left _ (List.mem_of_getElem? (i := 235) rfl))))))))), rfl⟩
theorem mw_1916 : (Jvm.Cond.instanceMethod ({ cls := "WardFallsModel", name := "pour", desc := "(II)I" } : Jvm.MethodName)) ∈ lw_good := List.mem_filter.mpr ⟨List.mem_append_right _ (List.mem_append_right _ (List.mem_append_right _ (List.mem_append_right _ (List.mem_append_right _ (List.mem_append_right _ (List.mem_append_right _ (List.mem_append_right _ (List.mem_append_left _ (List.mem_of_getElem? (i := 236) rfl))))))))), rfl⟩
theorem mw_1917 : (Jvm.Cond.selects "WardFallsModel" ({ cls := "WardFallsModel", name := "pour", desc := "(II)I" } : Jvm.MethodName) ({ cls := "WardFallsModel", name := "pour", desc := "(II)I" } : Jvm.MethodName)) ∈ lw_good := List.mem_filter.mpr ⟨List.mem_append_right _ (List.mem_append_right _ (List.mem_append_right _ (List.mem_append_right _ (List.mem_append_right _ (List.mem_append_right _ (List.mem_append_right _ (List.mem_append_right _ (List.mem_append_left _ (List.mem_of_getElem? (i := 237) rfl))))))))), rfl⟩
theorem mw_1919 : (Jvm.Cond.methodLink "WardFallsLaw" (96 : Nat) ({ cls := "WardFallsModel", name := "drain", desc := "()I" } : Jvm.MethodName)) ∈ lw_good := List.mem_filter.mpr ⟨List.mem_append_right _ (List.mem_append_right _ (List.mem_append_right _ (List.mem_append_right _ (List.mem_append_right _ (List.mem_append_right _ (List.mem_append_right _ (List.mem_append_right _ (List.mem_append_left _ (List.mem_of_getElem? (i := 239) rfl))))))))), rfl⟩
theorem mw_1920 : (Jvm.Cond.instanceMethod ({ cls := "WardFallsModel", name := "drain", desc := "()I" } : Jvm.MethodName)) ∈ lw_good := List.mem_filter.mpr ⟨List.mem_append_right _ (List.mem_append_right _ (List.mem_append_right _ (List.mem_append_right _ (List.mem_append_right _ (List.mem_append_right _ (List.mem_append_right _ (List.mem_append_right _ (List.mem_append_right _ (List.mem_of_getElem? (i := 0) rfl))))))))), rfl⟩
theorem mw_1921 : (Jvm.Cond.selects "WardFallsModel" ({ cls := "WardFallsModel", name := "drain", desc := "()I" } : Jvm.MethodName) ({ cls := "WardFallsModel", name := "drain", desc := "()I" } : Jvm.MethodName)) ∈ lw_good := List.mem_filter.mpr ⟨List.mem_append_right _ (List.mem_append_right _ (List.mem_append_right _ (List.mem_append_right _ (List.mem_append_right _ (List.mem_append_right _ (List.mem_append_right _ (List.mem_append_right _ (List.mem_append_right _ (List.mem_of_getElem? (i := 1) rfl))))))))), rfl⟩
theorem mw_1926 : (Jvm.Cond.methodLink "WardFallsLaw" (101 : Nat) ({ cls := "WardFallsModel", name := "flood", desc := "(II)J" } : Jvm.MethodName)) ∈ lw_good := List.mem_filter.mpr ⟨List.mem_append_right _ (List.mem_append_right _ (List.mem_append_right _ (List.mem_append_right _ (List.mem_append_right _ (List.mem_append_right _ (List.mem_append_right _ (List.mem_append_right _ (List.mem_append_right _ (List.mem_of_getElem? (i := 6) rfl))))))))), rfl⟩
theorem mw_1927 : (Jvm.Cond.instanceMethod ({ cls := "WardFallsModel", name := "flood", desc := "(II)J" } : Jvm.MethodName)) ∈ lw_good := List.mem_filter.mpr ⟨List.mem_append_right _ (List.mem_append_right _ (List.mem_append_right _ (List.mem_append_right _ (List.mem_append_right _ (List.mem_append_right _ (List.mem_append_right _ (List.mem_append_right _ (List.mem_append_right _ (List.mem_of_getElem? (i := 7) rfl))))))))), rfl⟩
theorem mw_1928 : (Jvm.Cond.selects "WardFallsModel" ({ cls := "WardFallsModel", name := "flood", desc := "(II)J" } : Jvm.MethodName) ({ cls := "WardFallsModel", name := "flood", desc := "(II)J" } : Jvm.MethodName)) ∈ lw_good := List.mem_filter.mpr ⟨List.mem_append_right _ (List.mem_append_right _ (List.mem_append_right _ (List.mem_append_right _ (List.mem_append_right _ (List.mem_append_right _ (List.mem_append_right _ (List.mem_append_right _ (List.mem_append_right _ (List.mem_of_getElem? (i := 8) rfl))))))))), rfl⟩
theorem mw_1931 : (Jvm.Cond.methodLink "WardFallsLaw" (105 : Nat) ({ cls := "WardFallsModel", name := "walk", desc := "(II)I" } : Jvm.MethodName)) ∈ lw_good := List.mem_filter.mpr ⟨List.mem_append_right _ (List.mem_append_right _ (List.mem_append_right _ (List.mem_append_right _ (List.mem_append_right _ (List.mem_append_right _ (List.mem_append_right _ (List.mem_append_right _ (List.mem_append_right _ (List.mem_of_getElem? (i := 11) rfl))))))))), rfl⟩
theorem mw_1932 : (Jvm.Cond.instanceMethod ({ cls := "WardFallsModel", name := "walk", desc := "(II)I" } : Jvm.MethodName)) ∈ lw_good := List.mem_filter.mpr ⟨List.mem_append_right _ (List.mem_append_right _ (List.mem_append_right _ (List.mem_append_right _ (List.mem_append_right _ (List.mem_append_right _ (List.mem_append_right _ (List.mem_append_right _ (List.mem_append_right _ (List.mem_of_getElem? (i := 12) rfl))))))))), rfl⟩
theorem mw_1933 : (Jvm.Cond.selects "WardFallsModel" ({ cls := "WardFallsModel", name := "walk", desc := "(II)I" } : Jvm.MethodName) ({ cls := "WardFallsModel", name := "walk", desc := "(II)I" } : Jvm.MethodName)) ∈ lw_good := List.mem_filter.mpr ⟨List.mem_append_right _ (List.mem_append_right _ (List.mem_append_right _ (List.mem_append_right _ (List.mem_append_right _ (List.mem_append_right _ (List.mem_append_right _ (List.mem_append_right _ (List.mem_append_right _ (List.mem_of_getElem? (i := 13) rfl))))))))), rfl⟩
theorem mw_1948 : (Jvm.Cond.methodLink "WardFallsLaw" (110 : Nat) ({ cls := "WardFallsModel", name := "step", desc := "(III)I" } : Jvm.MethodName)) ∈ lw_good := List.mem_filter.mpr ⟨List.mem_append_right _ (List.mem_append_right _ (List.mem_append_right _ (List.mem_append_right _ (List.mem_append_right _ (List.mem_append_right _ (List.mem_append_right _ (List.mem_append_right _ (List.mem_append_right _ (List.mem_of_getElem? (i := 28) rfl))))))))), rfl⟩
theorem mw_1949 : (Jvm.Cond.instanceMethod ({ cls := "WardFallsModel", name := "step", desc := "(III)I" } : Jvm.MethodName)) ∈ lw_good := List.mem_filter.mpr ⟨List.mem_append_right _ (List.mem_append_right _ (List.mem_append_right _ (List.mem_append_right _ (List.mem_append_right _ (List.mem_append_right _ (List.mem_append_right _ (List.mem_append_right _ (List.mem_append_right _ (List.mem_of_getElem? (i := 29) rfl))))))))), rfl⟩
theorem mw_1950 : (Jvm.Cond.selects "WardFallsModel" ({ cls := "WardFallsModel", name := "step", desc := "(III)I" } : Jvm.MethodName) ({ cls := "WardFallsModel", name := "step", desc := "(III)I" } : Jvm.MethodName)) ∈ lw_good := List.mem_filter.mpr ⟨List.mem_append_right _ (List.mem_append_right _ (List.mem_append_right _ (List.mem_append_right _ (List.mem_append_right _ (List.mem_append_right _ (List.mem_append_right _ (List.mem_append_right _ (List.mem_append_right _ (List.mem_of_getElem? (i := 30) rfl))))))))), rfl⟩
theorem mw_1952 : (Jvm.Cond.methodLink "WardFallsLaw" (114 : Nat) ({ cls := "WardFallsModel", name := "push", desc := "(III)I" } : Jvm.MethodName)) ∈ lw_good := List.mem_filter.mpr ⟨List.mem_append_right _ (List.mem_append_right _ (List.mem_append_right _ (List.mem_append_right _ (List.mem_append_right _ (List.mem_append_right _ (List.mem_append_right _ (List.mem_append_right _ (List.mem_append_right _ (List.mem_of_getElem? (i := 32) rfl))))))))), rfl⟩
theorem mw_1953 : (Jvm.Cond.instanceMethod ({ cls := "WardFallsModel", name := "push", desc := "(III)I" } : Jvm.MethodName)) ∈ lw_good := List.mem_filter.mpr ⟨List.mem_append_right _ (List.mem_append_right _ (List.mem_append_right _ (List.mem_append_right _ (List.mem_append_right _ (List.mem_append_right _ (List.mem_append_right _ (List.mem_append_right _ (List.mem_append_right _ (List.mem_of_getElem? (i := 33) rfl))))))))), rfl⟩
theorem mw_1954 : (Jvm.Cond.selects "WardFallsModel" ({ cls := "WardFallsModel", name := "push", desc := "(III)I" } : Jvm.MethodName) ({ cls := "WardFallsModel", name := "push", desc := "(III)I" } : Jvm.MethodName)) ∈ lw_good := List.mem_filter.mpr ⟨List.mem_append_right _ (List.mem_append_right _ (List.mem_append_right _ (List.mem_append_right _ (List.mem_append_right _ (List.mem_append_right _ (List.mem_append_right _ (List.mem_append_right _ (List.mem_append_right _ (List.mem_of_getElem? (i := 34) rfl))))))))), rfl⟩
theorem mw_1964 : (Jvm.Cond.methodLink "WardFallsLaw" (118 : Nat) ({ cls := "WardFallsModel", name := "pushed", desc := "(III)I" } : Jvm.MethodName)) ∈ lw_good := List.mem_filter.mpr ⟨List.mem_append_right _ (List.mem_append_right _ (List.mem_append_right _ (List.mem_append_right _ (List.mem_append_right _ (List.mem_append_right _ (List.mem_append_right _ (List.mem_append_right _ (List.mem_append_right _ (List.mem_of_getElem? (i := 44) rfl))))))))), rfl⟩
theorem mw_1965 : (Jvm.Cond.instanceMethod ({ cls := "WardFallsModel", name := "pushed", desc := "(III)I" } : Jvm.MethodName)) ∈ lw_good := List.mem_filter.mpr ⟨List.mem_append_right _ (List.mem_append_right _ (List.mem_append_right _ (List.mem_append_right _ (List.mem_append_right _ (List.mem_append_right _ (List.mem_append_right _ (List.mem_append_right _ (List.mem_append_right _ (List.mem_of_getElem? (i := 45) rfl))))))))), rfl⟩
theorem mw_1966 : (Jvm.Cond.selects "WardFallsModel" ({ cls := "WardFallsModel", name := "pushed", desc := "(III)I" } : Jvm.MethodName) ({ cls := "WardFallsModel", name := "pushed", desc := "(III)I" } : Jvm.MethodName)) ∈ lw_good := List.mem_filter.mpr ⟨List.mem_append_right _ (List.mem_append_right _ (List.mem_append_right _ (List.mem_append_right _ (List.mem_append_right _ (List.mem_append_right _ (List.mem_append_right _ (List.mem_append_right _ (List.mem_append_right _ (List.mem_of_getElem? (i := 46) rfl))))))))), rfl⟩
theorem mw_1972 : (Jvm.Cond.methodLink "WardFallsLaw" (122 : Nat) ({ cls := "WardFallsModel", name := "war", desc := "(II)I" } : Jvm.MethodName)) ∈ lw_good := List.mem_filter.mpr ⟨List.mem_append_right _ (List.mem_append_right _ (List.mem_append_right _ (List.mem_append_right _ (List.mem_append_right _ (List.mem_append_right _ (List.mem_append_right _ (List.mem_append_right _ (List.mem_append_right _ (List.mem_of_getElem? (i := 52) rfl))))))))), rfl⟩
theorem mw_1973 : (Jvm.Cond.instanceMethod ({ cls := "WardFallsModel", name := "war", desc := "(II)I" } : Jvm.MethodName)) ∈ lw_good := List.mem_filter.mpr ⟨List.mem_append_right _ (List.mem_append_right _ (List.mem_append_right _ (List.mem_append_right _ (List.mem_append_right _ (List.mem_append_right _ (List.mem_append_right _ (List.mem_append_right _ (List.mem_append_right _ (List.mem_of_getElem? (i := 53) rfl))))))))), rfl⟩
theorem mw_1974 : (Jvm.Cond.selects "WardFallsModel" ({ cls := "WardFallsModel", name := "war", desc := "(II)I" } : Jvm.MethodName) ({ cls := "WardFallsModel", name := "war", desc := "(II)I" } : Jvm.MethodName)) ∈ lw_good := List.mem_filter.mpr ⟨List.mem_append_right _ (List.mem_append_right _ (List.mem_append_right _ (List.mem_append_right _ (List.mem_append_right _ (List.mem_append_right _ (List.mem_append_right _ (List.mem_append_right _ (List.mem_append_right _ (List.mem_of_getElem? (i := 54) rfl))))))))), rfl⟩
theorem mw_1976 : (Jvm.Cond.methodLink "WardFallsLaw" (127 : Nat) ({ cls := "WardFallsModel", name := "nets", desc := "()J" } : Jvm.MethodName)) ∈ lw_good := List.mem_filter.mpr ⟨List.mem_append_right _ (List.mem_append_right _ (List.mem_append_right _ (List.mem_append_right _ (List.mem_append_right _ (List.mem_append_right _ (List.mem_append_right _ (List.mem_append_right _ (List.mem_append_right _ (List.mem_of_getElem? (i := 56) rfl))))))))), rfl⟩
theorem mw_1977 : (Jvm.Cond.instanceMethod ({ cls := "WardFallsModel", name := "nets", desc := "()J" } : Jvm.MethodName)) ∈ lw_good := List.mem_filter.mpr ⟨List.mem_append_right _ (List.mem_append_right _ (List.mem_append_right _ (List.mem_append_right _ (List.mem_append_right _ (List.mem_append_right _ (List.mem_append_right _ (List.mem_append_right _ (List.mem_append_right _ (List.mem_of_getElem? (i := 57) rfl))))))))), rfl⟩
theorem mw_1978 : (Jvm.Cond.selects "WardFallsModel" ({ cls := "WardFallsModel", name := "nets", desc := "()J" } : Jvm.MethodName) ({ cls := "WardFallsModel", name := "nets", desc := "()J" } : Jvm.MethodName)) ∈ lw_good := List.mem_filter.mpr ⟨List.mem_append_right _ (List.mem_append_right _ (List.mem_append_right _ (List.mem_append_right _ (List.mem_append_right _ (List.mem_append_right _ (List.mem_append_right _ (List.mem_append_right _ (List.mem_append_right _ (List.mem_of_getElem? (i := 58) rfl))))))))), rfl⟩
theorem mw_1980 : (Jvm.Cond.methodLink "WardFallsLaw" (131 : Nat) ({ cls := "WardFallsModel", name := "clock", desc := "(I)I" } : Jvm.MethodName)) ∈ lw_good := List.mem_filter.mpr ⟨List.mem_append_right _ (List.mem_append_right _ (List.mem_append_right _ (List.mem_append_right _ (List.mem_append_right _ (List.mem_append_right _ (List.mem_append_right _ (List.mem_append_right _ (List.mem_append_right _ (List.mem_of_getElem? (i := 60) rfl))))))))), rfl⟩
theorem mw_1981 : (Jvm.Cond.instanceMethod ({ cls := "WardFallsModel", name := "clock", desc := "(I)I" } : Jvm.MethodName)) ∈ lw_good := List.mem_filter.mpr ⟨List.mem_append_right _ (List.mem_append_right _ (List.mem_append_right _ (List.mem_append_right _ (List.mem_append_right _ (List.mem_append_right _ (List.mem_append_right _ (List.mem_append_right _ (List.mem_append_right _ (List.mem_of_getElem? (i := 61) rfl))))))))), rfl⟩
theorem mw_1982 : (Jvm.Cond.selects "WardFallsModel" ({ cls := "WardFallsModel", name := "clock", desc := "(I)I" } : Jvm.MethodName) ({ cls := "WardFallsModel", name := "clock", desc := "(I)I" } : Jvm.MethodName)) ∈ lw_good := List.mem_filter.mpr ⟨List.mem_append_right _ (List.mem_append_right _ (List.mem_append_right _ (List.mem_append_right _ (List.mem_append_right _ (List.mem_append_right _ (List.mem_append_right _ (List.mem_append_right _ (List.mem_append_right _ (List.mem_of_getElem? (i := 62) rfl))))))))), rfl⟩
theorem mw_1988 : (Jvm.Cond.methodLink "WardFallsLaw" (135 : Nat) ({ cls := "WardFallsModel", name := "stays", desc := "()I" } : Jvm.MethodName)) ∈ lw_good := List.mem_filter.mpr ⟨List.mem_append_right _ (List.mem_append_right _ (List.mem_append_right _ (List.mem_append_right _ (List.mem_append_right _ (List.mem_append_right _ (List.mem_append_right _ (List.mem_append_right _ (List.mem_append_right _ (List.mem_of_getElem? (i := 68) rfl))))))))), rfl⟩
theorem mw_1989 : (Jvm.Cond.instanceMethod ({ cls := "WardFallsModel", name := "stays", desc := "()I" } : Jvm.MethodName)) ∈ lw_good := List.mem_filter.mpr ⟨List.mem_append_right _ (List.mem_append_right _ (List.mem_append_right _ (List.mem_append_right _ (List.mem_append_right _ (List.mem_append_right _ (List.mem_append_right _ (List.mem_append_right _ (List.mem_append_right _ (List.mem_of_getElem? (i := 69) rfl))))))))), rfl⟩
theorem mw_1990 : (Jvm.Cond.selects "WardFallsModel" ({ cls := "WardFallsModel", name := "stays", desc := "()I" } : Jvm.MethodName) ({ cls := "WardFallsModel", name := "stays", desc := "()I" } : Jvm.MethodName)) ∈ lw_good := List.mem_filter.mpr ⟨List.mem_append_right _ (List.mem_append_right _ (List.mem_append_right _ (List.mem_append_right _ (List.mem_append_right _ (List.mem_append_right _ (List.mem_append_right _ (List.mem_append_right _ (List.mem_append_right _ (List.mem_of_getElem? (i := 70) rfl))))))))), rfl⟩
theorem mw_2011 : (Jvm.Cond.methodLink "WardFallsLaw" (139 : Nat) ({ cls := "WardFallsModel", name := "stay", desc := "(I)I" } : Jvm.MethodName)) ∈ lw_good := List.mem_filter.mpr ⟨List.mem_append_right _ (List.mem_append_right _ (List.mem_append_right _ (List.mem_append_right _ (List.mem_append_right _ (List.mem_append_right _ (List.mem_append_right _ (List.mem_append_right _ (List.mem_append_right _ (List.mem_of_getElem? (i := 91) rfl))))))))), rfl⟩
theorem mw_2012 : (Jvm.Cond.instanceMethod ({ cls := "WardFallsModel", name := "stay", desc := "(I)I" } : Jvm.MethodName)) ∈ lw_good := List.mem_filter.mpr ⟨List.mem_append_right _ (List.mem_append_right _ (List.mem_append_right _ (List.mem_append_right _ (List.mem_append_right _ (List.mem_append_right _ (List.mem_append_right _ (List.mem_append_right _ (List.mem_append_right _ (List.mem_of_getElem? (i := 92) rfl))))))))), rfl⟩
theorem mw_2013 : (Jvm.Cond.selects "WardFallsModel" ({ cls := "WardFallsModel", name := "stay", desc := "(I)I" } : Jvm.MethodName) ({ cls := "WardFallsModel", name := "stay", desc := "(I)I" } : Jvm.MethodName)) ∈ lw_good := List.mem_filter.mpr ⟨List.mem_append_right _ (List.mem_append_right _ (List.mem_append_right _ (List.mem_append_right _ (List.mem_append_right _ (List.mem_append_right _ (List.mem_append_right _ (List.mem_append_right _ (List.mem_append_right _ (List.mem_of_getElem? (i := 93) rfl))))))))), rfl⟩
theorem mw_2015 : (Jvm.Cond.methodLink "WardFallsLaw" (143 : Nat) ({ cls := "WardFallsModel", name := "treaty", desc := "(I)I" } : Jvm.MethodName)) ∈ lw_good := List.mem_filter.mpr ⟨List.mem_append_right _ (List.mem_append_right _ (List.mem_append_right _ (List.mem_append_right _ (List.mem_append_right _ (List.mem_append_right _ (List.mem_append_right _ (List.mem_append_right _ (List.mem_append_right _ (List.mem_of_getElem? (i := 95) rfl))))))))), rfl⟩
theorem mw_2016 : (Jvm.Cond.instanceMethod ({ cls := "WardFallsModel", name := "treaty", desc := "(I)I" } : Jvm.MethodName)) ∈ lw_good := List.mem_filter.mpr ⟨List.mem_append_right _ (List.mem_append_right _ (List.mem_append_right _ (List.mem_append_right _ (List.mem_append_right _ (List.mem_append_right _ (List.mem_append_right _ (List.mem_append_right _ (List.mem_append_right _ (List.mem_of_getElem? (i := 96) rfl))))))))), rfl⟩
theorem mw_2017 : (Jvm.Cond.selects "WardFallsModel" ({ cls := "WardFallsModel", name := "treaty", desc := "(I)I" } : Jvm.MethodName) ({ cls := "WardFallsModel", name := "treaty", desc := "(I)I" } : Jvm.MethodName)) ∈ lw_good := List.mem_filter.mpr ⟨List.mem_append_right _ (List.mem_append_right _ (List.mem_append_right _ (List.mem_append_right _ (List.mem_append_right _ (List.mem_append_right _ (List.mem_append_right _ (List.mem_append_right _ (List.mem_append_right _ (List.mem_of_getElem? (i := 97) rfl))))))))), rfl⟩
theorem mw_2019 : (Jvm.Cond.methodLink "WardFallsLaw" (147 : Nat) ({ cls := "WardFallsModel", name := "moves", desc := "(II)I" } : Jvm.MethodName)) ∈ lw_good := List.mem_filter.mpr ⟨List.mem_append_right _ (List.mem_append_right _ (List.mem_append_right _ (List.mem_append_right _ (List.mem_append_right _ (List.mem_append_right _ (List.mem_append_right _ (List.mem_append_right _ (List.mem_append_right _ (List.mem_of_getElem? (i := 99) rfl))))))))), rfl⟩
theorem mw_2020 : (Jvm.Cond.instanceMethod ({ cls := "WardFallsModel", name := "moves", desc := "(II)I" } : Jvm.MethodName)) ∈ lw_good := List.mem_filter.mpr ⟨List.mem_append_right _ (List.mem_append_right _ (List.mem_append_right _ (List.mem_append_right _ (List.mem_append_right _ (List.mem_append_right _ (List.mem_append_right _ (List.mem_append_right _ (List.mem_append_right _ (List.mem_of_getElem? (i := 100) rfl))))))))), rfl⟩
theorem mw_2021 : (Jvm.Cond.selects "WardFallsModel" ({ cls := "WardFallsModel", name := "moves", desc := "(II)I" } : Jvm.MethodName) ({ cls := "WardFallsModel", name := "moves", desc := "(II)I" } : Jvm.MethodName)) ∈ lw_good := List.mem_filter.mpr ⟨List.mem_append_right _ (List.mem_append_right _ (List.mem_append_right _ (List.mem_append_right _ (List.mem_append_right _ (List.mem_append_right _ (List.mem_append_right _ (List.mem_append_right _ (List.mem_append_right _ (List.mem_of_getElem? (i := 101) rfl))))))))), rfl⟩
theorem mw_2027 : (Jvm.Cond.methodLink "WardFallsLaw" (151 : Nat) ({ cls := "WardFallsModel", name := "note", desc := "(II)I" } : Jvm.MethodName)) ∈ lw_good := List.mem_filter.mpr ⟨List.mem_append_right _ (List.mem_append_right _ (List.mem_append_right _ (List.mem_append_right _ (List.mem_append_right _ (List.mem_append_right _ (List.mem_append_right _ (List.mem_append_right _ (List.mem_append_right _ (List.mem_of_getElem? (i := 107) rfl))))))))), rfl⟩
theorem mw_2028 : (Jvm.Cond.instanceMethod ({ cls := "WardFallsModel", name := "note", desc := "(II)I" } : Jvm.MethodName)) ∈ lw_good := List.mem_filter.mpr ⟨List.mem_append_right _ (List.mem_append_right _ (List.mem_append_right _ (List.mem_append_right _ (List.mem_append_right _ (List.mem_append_right _ (List.mem_append_right _ (List.mem_append_right _ (List.mem_append_right _ (List.mem_of_getElem? (i := 108) rfl))))))))), rfl⟩
theorem mw_2029 : (Jvm.Cond.selects "WardFallsModel" ({ cls := "WardFallsModel", name := "note", desc := "(II)I" } : Jvm.MethodName) ({ cls := "WardFallsModel", name := "note", desc := "(II)I" } : Jvm.MethodName)) ∈ lw_good := List.mem_filter.mpr ⟨List.mem_append_right _ (List.mem_append_right _ (List.mem_append_right _ (List.mem_append_right _ (List.mem_append_right _ (List.mem_append_right _ (List.mem_append_right _ (List.mem_append_right _ (List.mem_append_right _ (List.mem_of_getElem? (i := 109) rfl))))))))), rfl⟩
theorem mw_2031 : (Jvm.Cond.methodLink "WardFallsLaw" (155 : Nat) ({ cls := "WardFallsModel", name := "strike", desc := "(I)I" } : Jvm.MethodName)) ∈ lw_good := List.mem_filter.mpr ⟨List.mem_append_right _ (List.mem_append_right _ (List.mem_append_right _ (List.mem_append_right _ (List.mem_append_right _ (List.mem_append_right _ (List.mem_append_right _ (List.mem_append_right _ (List.mem_append_right _ (List.mem_of_getElem? (i := 111) rfl))))))))), rfl⟩
theorem mw_2032 : (Jvm.Cond.instanceMethod ({ cls := "WardFallsModel", name := "strike", desc := "(I)I" } : Jvm.MethodName)) ∈ lw_good := List.mem_filter.mpr ⟨List.mem_append_right _ (List.mem_append_right _ (List.mem_append_right _ (List.mem_append_right _ (List.mem_append_right _ (List.mem_append_right _ (List.mem_append_right _ (List.mem_append_right _ (List.mem_append_right _ (List.mem_of_getElem? (i := 112) rfl))))))))), rfl⟩
theorem mw_2033 : (Jvm.Cond.selects "WardFallsModel" ({ cls := "WardFallsModel", name := "strike", desc := "(I)I" } : Jvm.MethodName) ({ cls := "WardFallsModel", name := "strike", desc := "(I)I" } : Jvm.MethodName)) ∈ lw_good := List.mem_filter.mpr ⟨List.mem_append_right _ (List.mem_append_right _ (List.mem_append_right _ (List.mem_append_right _ (List.mem_append_right _ (List.mem_append_right _ (List.mem_append_right _ (List.mem_append_right _ (List.mem_append_right _ (List.mem_of_getElem? (i := 113) rfl))))))))), rfl⟩
theorem mw_2035 : (Jvm.Cond.methodLink "WardFallsLaw" (160 : Nat) ({ cls := "WardFallsModel", name := "known", desc := "(I)Z" } : Jvm.MethodName)) ∈ lw_good := List.mem_filter.mpr ⟨List.mem_append_right _ (List.mem_append_right _ (List.mem_append_right _ (List.mem_append_right _ (List.mem_append_right _ (List.mem_append_right _ (List.mem_append_right _ (List.mem_append_right _ (List.mem_append_right _ (List.mem_of_getElem? (i := 115) rfl))))))))), rfl⟩
theorem mw_2036 : (Jvm.Cond.instanceMethod ({ cls := "WardFallsModel", name := "known", desc := "(I)Z" } : Jvm.MethodName)) ∈ lw_good := List.mem_filter.mpr ⟨List.mem_append_right _ (List.mem_append_right _ (List.mem_append_right _ (List.mem_append_right _ (List.mem_append_right _ (List.mem_append_right _ (List.mem_append_right _ (List.mem_append_right _ (List.mem_append_right _ (List.mem_of_getElem? (i := 116) rfl))))))))), rfl⟩
theorem mw_2037 : (Jvm.Cond.selects "WardFallsModel" ({ cls := "WardFallsModel", name := "known", desc := "(I)Z" } : Jvm.MethodName) ({ cls := "WardFallsModel", name := "known", desc := "(I)Z" } : Jvm.MethodName)) ∈ lw_good := List.mem_filter.mpr ⟨List.mem_append_right _ (List.mem_append_right _ (List.mem_append_right _ (List.mem_append_right _ (List.mem_append_right _ (List.mem_append_right _ (List.mem_append_right _ (List.mem_append_right _ (List.mem_append_right _ (List.mem_of_getElem? (i := 117) rfl))))))))), rfl⟩
theorem mw_2039 : (Jvm.Cond.methodLink "WardFallsLaw" (164 : Nat) ({ cls := "WardFallsModel", name := "fits", desc := "()I" } : Jvm.MethodName)) ∈ lw_good := List.mem_filter.mpr ⟨List.mem_append_right _ (List.mem_append_right _ (List.mem_append_right _ (List.mem_append_right _ (List.mem_append_right _ (List.mem_append_right _ (List.mem_append_right _ (List.mem_append_right _ (List.mem_append_right _ (List.mem_of_getElem? (i := 119) rfl))))))))), rfl⟩
theorem mw_2040 : (Jvm.Cond.instanceMethod ({ cls := "WardFallsModel", name := "fits", desc := "()I" } : Jvm.MethodName)) ∈ lw_good := List.mem_filter.mpr ⟨List.mem_append_right _ (List.mem_append_right _ (List.mem_append_right _ (List.mem_append_right _ (List.mem_append_right _ (List.mem_append_right _ (List.mem_append_right _ (List.mem_append_right _ (List.mem_append_right _ (List.mem_of_getElem? (i := 120) rfl))))))))), rfl⟩
theorem mw_2041 : (Jvm.Cond.selects "WardFallsModel" ({ cls := "WardFallsModel", name := "fits", desc := "()I" } : Jvm.MethodName) ({ cls := "WardFallsModel", name := "fits", desc := "()I" } : Jvm.MethodName)) ∈ lw_good := List.mem_filter.mpr ⟨List.mem_append_right _ (List.mem_append_right _ (List.mem_append_right _ (List.mem_append_right _ (List.mem_append_right _ (List.mem_append_right _ (List.mem_append_right _ (List.mem_append_right _ (List.mem_append_right _ (List.mem_of_getElem? (i := 121) rfl))))))))), rfl⟩
theorem mw_2055 : (Jvm.Cond.methodLink "WardFallsLaw" (168 : Nat) ({ cls := "WardFallsModel", name := "may", desc := "(I)I" } : Jvm.MethodName)) ∈ lw_good := List.mem_filter.mpr ⟨List.mem_append_right _ (List.mem_append_right _ (List.mem_append_right _ (List.mem_append_right _ (List.mem_append_right _ (List.mem_append_right _ (List.mem_append_right _ (List.mem_append_right _ (List.mem_append_right _ (List.mem_of_getElem? (i := 135) rfl))))))))), rfl⟩
theorem mw_2056 : (Jvm.Cond.instanceMethod ({ cls := "WardFallsModel", name := "may", desc := "(I)I" } : Jvm.MethodName)) ∈ lw_good := List.mem_filter.mpr ⟨List.mem_append_right _ (List.mem_append_right _ (List.mem_append_right _ (List.mem_append_right _ (List.mem_append_right _ (List.mem_append_right _ (List.mem_append_right _ (List.mem_append_right _ (List.mem_append_right _ (List.mem_of_getElem? (i := 136) rfl))))))))), rfl⟩
theorem mw_2057 : (Jvm.Cond.selects "WardFallsModel" ({ cls := "WardFallsModel", name := "may", desc := "(I)I" } : Jvm.MethodName) ({ cls := "WardFallsModel", name := "may", desc := "(I)I" } : Jvm.MethodName)) ∈ lw_good := List.mem_filter.mpr ⟨List.mem_append_right _ (List.mem_append_right _ (List.mem_append_right _ (List.mem_append_right _ (List.mem_append_right _ (List.mem_append_right _ (List.mem_append_right _ (List.mem_append_right _ (List.mem_append_right _ (List.mem_of_getElem? (i := 137) rfl))))))))), rfl⟩
theorem mw_2059 : (Jvm.Cond.methodLink "WardFallsLaw" (172 : Nat) ({ cls := "WardFallsModel", name := "years", desc := "(I)I" } : Jvm.MethodName)) ∈ lw_good := List.mem_filter.mpr ⟨List.mem_append_right _ (List.mem_append_right _ (List.mem_append_right _ (List.mem_append_right _ (List.mem_append_right _ (List.mem_append_right _ (List.mem_append_right _ (List.mem_append_right _ (List.mem_append_right _ (List.mem_of_getElem? (i := 139) rfl))))))))), rfl⟩
theorem mw_2060 : (Jvm.Cond.instanceMethod ({ cls := "WardFallsModel", name := "years", desc := "(I)I" } : Jvm.MethodName)) ∈ lw_good := List.mem_filter.mpr ⟨List.mem_append_right _ (List.mem_append_right _ (List.mem_append_right _ (List.mem_append_right _ (List.mem_append_right _ (List.mem_append_right _ (List.mem_append_right _ (List.mem_append_right _ (List.mem_append_right _ (List.mem_of_getElem? (i := 140) rfl))))))))), rfl⟩
theorem mw_2061 : (Jvm.Cond.selects "WardFallsModel" ({ cls := "WardFallsModel", name := "years", desc := "(I)I" } : Jvm.MethodName) ({ cls := "WardFallsModel", name := "years", desc := "(I)I" } : Jvm.MethodName)) ∈ lw_good := List.mem_filter.mpr ⟨List.mem_append_right _ (List.mem_append_right _ (List.mem_append_right _ (List.mem_append_right _ (List.mem_append_right _ (List.mem_append_right _ (List.mem_append_right _ (List.mem_append_right _ (List.mem_append_right _ (List.mem_of_getElem? (i := 141) rfl))))))))), rfl⟩
theorem mw_2069 : (Jvm.Cond.methodLink "WardFallsLaw" (176 : Nat) ({ cls := "WardFallsModel", name := "voted", desc := "(II)I" } : Jvm.MethodName)) ∈ lw_good := List.mem_filter.mpr ⟨List.mem_append_right _ (List.mem_append_right _ (List.mem_append_right _ (List.mem_append_right _ (List.mem_append_right _ (List.mem_append_right _ (List.mem_append_right _ (List.mem_append_right _ (List.mem_append_right _ (List.mem_of_getElem? (i := 149) rfl))))))))), rfl⟩
theorem mw_2070 : (Jvm.Cond.instanceMethod ({ cls := "WardFallsModel", name := "voted", desc := "(II)I" } : Jvm.MethodName)) ∈ lw_good := List.mem_filter.mpr ⟨List.mem_append_right _ (List.mem_append_right _ (List.mem_append_right _ (List.mem_append_right _ (List.mem_append_right _ (List.mem_append_right _ (List.mem_append_right _ (List.mem_append_right _ (List.mem_append_right _ (List.mem_of_getElem? (i := 150) rfl))))))))), rfl⟩
theorem mw_2071 : (Jvm.Cond.selects "WardFallsModel" ({ cls := "WardFallsModel", name := "voted", desc := "(II)I" } : Jvm.MethodName) ({ cls := "WardFallsModel", name := "voted", desc := "(II)I" } : Jvm.MethodName)) ∈ lw_good := List.mem_filter.mpr ⟨List.mem_append_right _ (List.mem_append_right _ (List.mem_append_right _ (List.mem_append_right _ (List.mem_append_right _ (List.mem_append_right _ (List.mem_append_right _ (List.mem_append_right _ (List.mem_append_right _ (List.mem_of_getElem? (i := 151) rfl))))))))), rfl⟩
theorem mw_2073 : (Jvm.Cond.methodLink "WardFallsLaw" (180 : Nat) ({ cls := "WardFallsModel", name := "tried", desc := "(III)I" } : Jvm.MethodName)) ∈ lw_good := List.mem_filter.mpr ⟨List.mem_append_right _ (List.mem_append_right _ (List.mem_append_right _ (List.mem_append_right _ (List.mem_append_right _ (List.mem_append_right _ (List.mem_append_right _ (List.mem_append_right _ (List.mem_append_right _ (List.mem_of_getElem? (i := 153) rfl))))))))), rfl⟩
theorem mw_2074 : (Jvm.Cond.instanceMethod ({ cls := "WardFallsModel", name := "tried", desc := "(III)I" } : Jvm.MethodName)) ∈ lw_good := List.mem_filter.mpr ⟨List.mem_append_right _ (List.mem_append_right _ (List.mem_append_right _ (List.mem_append_right _ (List.mem_append_right _ (List.mem_append_right _ (List.mem_append_right _ (List.mem_append_right _ (List.mem_append_right _ (List.mem_of_getElem? (i := 154) rfl))))))))), rfl⟩
theorem mw_2075 : (Jvm.Cond.selects "WardFallsModel" ({ cls := "WardFallsModel", name := "tried", desc := "(III)I" } : Jvm.MethodName) ({ cls := "WardFallsModel", name := "tried", desc := "(III)I" } : Jvm.MethodName)) ∈ lw_good := List.mem_filter.mpr ⟨List.mem_append_right _ (List.mem_append_right _ (List.mem_append_right _ (List.mem_append_right _ (List.mem_append_right _ (List.mem_append_right _ (List.mem_append_right _ (List.mem_append_right _ (List.mem_append_right _ (List.mem_of_getElem? (i := 155) rfl))))))))), rfl⟩
theorem mw_2077 : (Jvm.Cond.methodLink "WardFallsLaw" (184 : Nat) ({ cls := "WardFallsModel", name := "undo", desc := "()I" } : Jvm.MethodName)) ∈ lw_good := List.mem_filter.mpr ⟨List.mem_append_right _ (List.mem_append_right _ (List.mem_append_right _ (List.mem_append_right _ (List.mem_append_right _ (List.mem_append_right _ (List.mem_append_right _ (List.mem_append_right _ (List.mem_append_right _ (List.mem_of_getElem? (i := 157) rfl))))))))), rfl⟩
theorem mw_2078 : (Jvm.Cond.instanceMethod ({ cls := "WardFallsModel", name := "undo", desc := "()I" } : Jvm.MethodName)) ∈ lw_good := List.mem_filter.mpr ⟨List.mem_append_right _ (List.mem_append_right _ (List.mem_append_right _ (List.mem_append_right _ (List.mem_append_right _ (List.mem_append_right _ (List.mem_append_right _ (List.mem_append_right _ (List.mem_append_right _ (List.mem_of_getElem? (i := 158) rfl))))))))), rfl⟩
theorem mw_2079 : (Jvm.Cond.selects "WardFallsModel" ({ cls := "WardFallsModel", name := "undo", desc := "()I" } : Jvm.MethodName) ({ cls := "WardFallsModel", name := "undo", desc := "()I" } : Jvm.MethodName)) ∈ lw_good := List.mem_filter.mpr ⟨List.mem_append_right _ (List.mem_append_right _ (List.mem_append_right _ (List.mem_append_right _ (List.mem_append_right _ (List.mem_append_right _ (List.mem_append_right _ (List.mem_append_right _ (List.mem_append_right _ (List.mem_of_getElem? (i := 159) rfl))))))))), rfl⟩
theorem mw_2081 : (Jvm.Cond.methodLink "WardFallsLaw" (188 : Nat) ({ cls := "WardFallsModel", name := "keep", desc := "()I" } : Jvm.MethodName)) ∈ lw_good := List.mem_filter.mpr ⟨List.mem_append_right _ (List.mem_append_right _ (List.mem_append_right _ (List.mem_append_right _ (List.mem_append_right _ (List.mem_append_right _ (List.mem_append_right _ (List.mem_append_right _ (List.mem_append_right _ (List.mem_of_getElem? (i := 161) rfl))))))))), rfl⟩
theorem mw_2082 : (Jvm.Cond.instanceMethod ({ cls := "WardFallsModel", name := "keep", desc := "()I" } : Jvm.MethodName)) ∈ lw_good := List.mem_filter.mpr ⟨List.mem_append_right _ (List.mem_append_right _ (List.mem_append_right _ (List.mem_append_right _ (List.mem_append_right _ (List.mem_append_right _ (List.mem_append_right _ (List.mem_append_right _ (List.mem_append_right _ (List.mem_of_getElem? (i := 162) rfl))))))))), rfl⟩
theorem mw_2083 : (Jvm.Cond.selects "WardFallsModel" ({ cls := "WardFallsModel", name := "keep", desc := "()I" } : Jvm.MethodName) ({ cls := "WardFallsModel", name := "keep", desc := "()I" } : Jvm.MethodName)) ∈ lw_good := List.mem_filter.mpr ⟨List.mem_append_right _ (List.mem_append_right _ (List.mem_append_right _ (List.mem_append_right _ (List.mem_append_right _ (List.mem_append_right _ (List.mem_append_right _ (List.mem_append_right _ (List.mem_append_right _ (List.mem_of_getElem? (i := 163) rfl))))))))), rfl⟩
theorem mw_2089 : (Jvm.Cond.methodLink "WardFallsLaw" (192 : Nat) ({ cls := "WardFallsModel", name := "back", desc := "()I" } : Jvm.MethodName)) ∈ lw_good := List.mem_filter.mpr ⟨List.mem_append_right _ (List.mem_append_right _ (List.mem_append_right _ (List.mem_append_right _ (List.mem_append_right _ (List.mem_append_right _ (List.mem_append_right _ (List.mem_append_right _ (List.mem_append_right _ (List.mem_of_getElem? (i := 169) rfl))))))))), rfl⟩
theorem mw_2090 : (Jvm.Cond.instanceMethod ({ cls := "WardFallsModel", name := "back", desc := "()I" } : Jvm.MethodName)) ∈ lw_good := List.mem_filter.mpr ⟨List.mem_append_right _ (List.mem_append_right _ (List.mem_append_right _ (List.mem_append_right _ (List.mem_append_right _ (List.mem_append_right _ (List.mem_append_right _ (List.mem_append_right _ (List.mem_append_right _ (List.mem_of_getElem? (i := 170) rfl))))))))), rfl⟩
theorem mw_2091 : (Jvm.Cond.selects "WardFallsModel" ({ cls := "WardFallsModel", name := "back", desc := "()I" } : Jvm.MethodName) ({ cls := "WardFallsModel", name := "back", desc := "()I" } : Jvm.MethodName)) ∈ lw_good := List.mem_filter.mpr ⟨List.mem_append_right _ (List.mem_append_right _ (List.mem_append_right _ (List.mem_append_right _ (List.mem_append_right _ (List.mem_append_right _ (List.mem_append_right _ (List.mem_append_right _ (List.mem_append_right _ (List.mem_of_getElem? (i := 171) rfl))))))))), rfl⟩
theorem mw_2093 : (Jvm.Cond.methodLink "WardFallsLaw" (196 : Nat) ({ cls := "WardFallsModel", name := "count", desc := "(I)I" } : Jvm.MethodName)) ∈ lw_good := List.mem_filter.mpr ⟨List.mem_append_right _ (List.mem_append_right _ (List.mem_append_right _ (List.mem_append_right _ (List.mem_append_right _ (List.mem_append_right _ (List.mem_append_right _ (List.mem_append_right _ (List.mem_append_right _ (List.mem_of_getElem? (i := 173) rfl))))))))), rfl⟩
theorem mw_2094 : (Jvm.Cond.instanceMethod ({ cls := "WardFallsModel", name := "count", desc := "(I)I" } : Jvm.MethodName)) ∈ lw_good := List.mem_filter.mpr ⟨List.mem_append_right _ (List.mem_append_right _ (List.mem_append_right _ (List.mem_append_right _ (List.mem_append_right _ (List.mem_append_right _ (List.mem_append_right _ (List.mem_append_right _ (List.mem_append_right _ (List.mem_of_getElem? (i := 174) rfl))))))))), rfl⟩
theorem mw_2095 : (Jvm.Cond.selects "WardFallsModel" ({ cls := "WardFallsModel", name := "count", desc := "(I)I" } : Jvm.MethodName) ({ cls := "WardFallsModel", name := "count", desc := "(I)I" } : Jvm.MethodName)) ∈ lw_good := List.mem_filter.mpr ⟨List.mem_append_right _ (List.mem_append_right _ (List.mem_append_right _ (List.mem_append_right _ (List.mem_append_right _ (List.mem_append_right _ (List.mem_append_right _ (List.mem_append_right _ (List.mem_append_right _ (List.mem_of_getElem? (i := 175) rfl))))))))), rfl⟩
theorem mw_608 : (Jvm.Cond.methodLink "WardFallsLaw" (21 : Nat) ({ cls := "WardFalls", name := "feed", desc := "(IIIII)I" } : Jvm.MethodName)) ∈ lw_good := List.mem_filter.mpr ⟨List.mem_append_right _ (List.mem_append_right _ (List.mem_append_right _ (List.mem_append_left _ (List.mem_of_getElem? (i := 128) rfl)))), rfl⟩
theorem mw_609 : (Jvm.Cond.instanceMethod ({ cls := "WardFalls", name := "feed", desc := "(IIIII)I" } : Jvm.MethodName)) ∈ lw_good := List.mem_filter.mpr ⟨List.mem_append_right _ (List.mem_append_right _ (List.mem_append_right _ (List.mem_append_left _ (List.mem_of_getElem? (i := 129) rfl)))), rfl⟩
theorem mw_610 : (Jvm.Cond.selects "WardFalls" ({ cls := "WardFalls", name := "feed", desc := "(IIIII)I" } : Jvm.MethodName) ({ cls := "WardFalls", name := "feed", desc := "(IIIII)I" } : Jvm.MethodName)) ∈ lw_good := List.mem_filter.mpr ⟨List.mem_append_right _ (List.mem_append_right _ (List.mem_append_right _ (List.mem_append_left _ (List.mem_of_getElem? (i := 130) rfl)))), rfl⟩
theorem mw_617 : (Jvm.Cond.methodLink "WardFallsLaw" (26 : Nat) ({ cls := "WardFalls", name := "text", desc := "(I)I" } : Jvm.MethodName)) ∈ lw_good := List.mem_filter.mpr ⟨List.mem_append_right _ (List.mem_append_right _ (List.mem_append_right _ (List.mem_append_left _ (List.mem_of_getElem? (i := 137) rfl)))), rfl⟩
theorem mw_618 : (Jvm.Cond.instanceMethod ({ cls := "WardFalls", name := "text", desc := "(I)I" } : Jvm.MethodName)) ∈ lw_good := List.mem_filter.mpr ⟨List.mem_append_right _ (List.mem_append_right _ (List.mem_append_right _ (List.mem_append_left _ (List.mem_of_getElem? (i := 138) rfl)))), rfl⟩
theorem mw_619 : (Jvm.Cond.selects "WardFalls" ({ cls := "WardFalls", name := "text", desc := "(I)I" } : Jvm.MethodName) ({ cls := "WardFalls", name := "text", desc := "(I)I" } : Jvm.MethodName)) ∈ lw_good := List.mem_filter.mpr ⟨List.mem_append_right _ (List.mem_append_right _ (List.mem_append_right _ (List.mem_append_left _ (List.mem_of_getElem? (i := 139) rfl)))), rfl⟩
theorem mw_826 : (Jvm.Cond.methodLink "WardFallsLaw" (31 : Nat) ({ cls := "WardFalls", name := "fault", desc := "(I)I" } : Jvm.MethodName)) ∈ lw_good := List.mem_filter.mpr ⟨List.mem_append_right _ (List.mem_append_right _ (List.mem_append_right _ (List.mem_append_right _ (List.mem_append_left _ (List.mem_of_getElem? (i := 106) rfl))))), rfl⟩
theorem mw_827 : (Jvm.Cond.instanceMethod ({ cls := "WardFalls", name := "fault", desc := "(I)I" } : Jvm.MethodName)) ∈ lw_good := List.mem_filter.mpr ⟨List.mem_append_right _ (List.mem_append_right _ (List.mem_append_right _ (List.mem_append_right _ (List.mem_append_left _ (List.mem_of_getElem? (i := 107) rfl))))), rfl⟩
theorem mw_828 : (Jvm.Cond.selects "WardFalls" ({ cls := "WardFalls", name := "fault", desc := "(I)I" } : Jvm.MethodName) ({ cls := "WardFalls", name := "fault", desc := "(I)I" } : Jvm.MethodName)) ∈ lw_good := List.mem_filter.mpr ⟨List.mem_append_right _ (List.mem_append_right _ (List.mem_append_right _ (List.mem_append_right _ (List.mem_append_left _ (List.mem_of_getElem? (i := 108) rfl))))), rfl⟩
theorem mw_830 : (Jvm.Cond.methodLink "WardFallsLaw" (35 : Nat) ({ cls := "WardFalls", name := "named", desc := "(II)I" } : Jvm.MethodName)) ∈ lw_good := List.mem_filter.mpr ⟨List.mem_append_right _ (List.mem_append_right _ (List.mem_append_right _ (List.mem_append_right _ (List.mem_append_left _ (List.mem_of_getElem? (i := 110) rfl))))), rfl⟩
theorem mw_831 : (Jvm.Cond.instanceMethod ({ cls := "WardFalls", name := "named", desc := "(II)I" } : Jvm.MethodName)) ∈ lw_good := List.mem_filter.mpr ⟨List.mem_append_right _ (List.mem_append_right _ (List.mem_append_right _ (List.mem_append_right _ (List.mem_append_left _ (List.mem_of_getElem? (i := 111) rfl))))), rfl⟩
theorem mw_832 : (Jvm.Cond.selects "WardFalls" ({ cls := "WardFalls", name := "named", desc := "(II)I" } : Jvm.MethodName) ({ cls := "WardFalls", name := "named", desc := "(II)I" } : Jvm.MethodName)) ∈ lw_good := List.mem_filter.mpr ⟨List.mem_append_right _ (List.mem_append_right _ (List.mem_append_right _ (List.mem_append_right _ (List.mem_append_left _ (List.mem_of_getElem? (i := 112) rfl))))), rfl⟩
theorem mw_835 : (Jvm.Cond.methodLink "WardFallsLaw" (45 : Nat) ({ cls := "WardFalls", name := "ward", desc := "(II)I" } : Jvm.MethodName)) ∈ lw_good := List.mem_filter.mpr ⟨List.mem_append_right _ (List.mem_append_right _ (List.mem_append_right _ (List.mem_append_right _ (List.mem_append_left _ (List.mem_of_getElem? (i := 115) rfl))))), rfl⟩
theorem mw_836 : (Jvm.Cond.instanceMethod ({ cls := "WardFalls", name := "ward", desc := "(II)I" } : Jvm.MethodName)) ∈ lw_good := List.mem_filter.mpr ⟨List.mem_append_right _ (List.mem_append_right _ (List.mem_append_right _ (List.mem_append_right _ (List.mem_append_left _ (List.mem_of_getElem? (i := 116) rfl))))), rfl⟩
theorem mw_837 : (Jvm.Cond.selects "WardFalls" ({ cls := "WardFalls", name := "ward", desc := "(II)I" } : Jvm.MethodName) ({ cls := "WardFalls", name := "ward", desc := "(II)I" } : Jvm.MethodName)) ∈ lw_good := List.mem_filter.mpr ⟨List.mem_append_right _ (List.mem_append_right _ (List.mem_append_right _ (List.mem_append_right _ (List.mem_append_left _ (List.mem_of_getElem? (i := 117) rfl))))), rfl⟩
theorem mw_928 : (Jvm.Cond.methodLink "WardFallsLaw" (49 : Nat) ({ cls := "WardFalls", name := "thing", desc := "(II)I" } : Jvm.MethodName)) ∈ lw_good := List.mem_filter.mpr ⟨List.mem_append_right _ (List.mem_append_right _ (List.mem_append_right _ (List.mem_append_right _ (List.mem_append_left _ (List.mem_of_getElem? (i := 208) rfl))))), rfl⟩
theorem mw_929 : (Jvm.Cond.instanceMethod ({ cls := "WardFalls", name := "thing", desc := "(II)I" } : Jvm.MethodName)) ∈ lw_good := List.mem_filter.mpr ⟨List.mem_append_right _ (List.mem_append_right _ (List.mem_append_right _ (List.mem_append_right _ (List.mem_append_left _ (List.mem_of_getElem? (i := 209) rfl))))), rfl⟩
theorem mw_930 : (Jvm.Cond.selects "WardFalls" ({ cls := "WardFalls", name := "thing", desc := "(II)I" } : Jvm.MethodName) ({ cls := "WardFalls", name := "thing", desc := "(II)I" } : Jvm.MethodName)) ∈ lw_good := List.mem_filter.mpr ⟨List.mem_append_right _ (List.mem_append_right _ (List.mem_append_right _ (List.mem_append_right _ (List.mem_append_left _ (List.mem_of_getElem? (i := 210) rfl))))), rfl⟩
theorem mw_936 : (Jvm.Cond.methodLink "WardFallsLaw" (53 : Nat) ({ cls := "WardFalls", name := "law", desc := "(III)J" } : Jvm.MethodName)) ∈ lw_good := List.mem_filter.mpr ⟨List.mem_append_right _ (List.mem_append_right _ (List.mem_append_right _ (List.mem_append_right _ (List.mem_append_left _ (List.mem_of_getElem? (i := 216) rfl))))), rfl⟩
theorem mw_937 : (Jvm.Cond.instanceMethod ({ cls := "WardFalls", name := "law", desc := "(III)J" } : Jvm.MethodName)) ∈ lw_good := List.mem_filter.mpr ⟨List.mem_append_right _ (List.mem_append_right _ (List.mem_append_right _ (List.mem_append_right _ (List.mem_append_left _ (List.mem_of_getElem? (i := 217) rfl))))), rfl⟩
theorem mw_938 : (Jvm.Cond.selects "WardFalls" ({ cls := "WardFalls", name := "law", desc := "(III)J" } : Jvm.MethodName) ({ cls := "WardFalls", name := "law", desc := "(III)J" } : Jvm.MethodName)) ∈ lw_good := List.mem_filter.mpr ⟨List.mem_append_right _ (List.mem_append_right _ (List.mem_append_right _ (List.mem_append_right _ (List.mem_append_left _ (List.mem_of_getElem? (i := 218) rfl))))), rfl⟩
theorem mw_955 : (Jvm.Cond.methodLink "WardFallsLaw" (58 : Nat) ({ cls := "WardFalls", name := "rest", desc := "(I)I" } : Jvm.MethodName)) ∈ lw_good := List.mem_filter.mpr ⟨List.mem_append_right _ (List.mem_append_right _ (List.mem_append_right _ (List.mem_append_right _ (List.mem_append_left _ (List.mem_of_getElem? (i := 235) rfl))))), rfl⟩
theorem mw_956 : (Jvm.Cond.instanceMethod ({ cls := "WardFalls", name := "rest", desc := "(I)I" } : Jvm.MethodName)) ∈ lw_good := List.mem_filter.mpr ⟨List.mem_append_right _ (List.mem_append_right _ (List.mem_append_right _ (List.mem_append_right _ (List.mem_append_left _ (List.mem_of_getElem? (i := 236) rfl))))), rfl⟩
theorem mw_957 : (Jvm.Cond.selects "WardFalls" ({ cls := "WardFalls", name := "rest", desc := "(I)I" } : Jvm.MethodName) ({ cls := "WardFalls", name := "rest", desc := "(I)I" } : Jvm.MethodName)) ∈ lw_good := List.mem_filter.mpr ⟨List.mem_append_right _ (List.mem_append_right _ (List.mem_append_right _ (List.mem_append_right _ (List.mem_append_left _ (List.mem_of_getElem? (i := 237) rfl))))), rfl⟩
theorem mw_967 : (Jvm.Cond.methodLink "WardFallsLaw" (62 : Nat) ({ cls := "WardFalls", name := "way", desc := "(II)I" } : Jvm.MethodName)) ∈ lw_good := List.mem_filter.mpr ⟨List.mem_append_right _ (List.mem_append_right _ (List.mem_append_right _ (List.mem_append_right _ (List.mem_append_right _ (List.mem_append_left _ (List.mem_of_getElem? (i := 7) rfl)))))), rfl⟩
theorem mw_968 : (Jvm.Cond.instanceMethod ({ cls := "WardFalls", name := "way", desc := "(II)I" } : Jvm.MethodName)) ∈ lw_good := List.mem_filter.mpr ⟨List.mem_append_right _ (List.mem_append_right _ (List.mem_append_right _ (List.mem_append_right _ (List.mem_append_right _ (List.mem_append_left _ (List.mem_of_getElem? (i := 8) rfl)))))), rfl⟩
theorem mw_969 : (Jvm.Cond.selects "WardFalls" ({ cls := "WardFalls", name := "way", desc := "(II)I" } : Jvm.MethodName) ({ cls := "WardFalls", name := "way", desc := "(II)I" } : Jvm.MethodName)) ∈ lw_good := List.mem_filter.mpr ⟨List.mem_append_right _ (List.mem_append_right _ (List.mem_append_right _ (List.mem_append_right _ (List.mem_append_right _ (List.mem_append_left _ (List.mem_of_getElem? (i := 9) rfl)))))), rfl⟩
theorem mw_975 : (Jvm.Cond.methodLink "WardFallsLaw" (66 : Nat) ({ cls := "WardFalls", name := "falls", desc := "(II)I" } : Jvm.MethodName)) ∈ lw_good := List.mem_filter.mpr ⟨List.mem_append_right _ (List.mem_append_right _ (List.mem_append_right _ (List.mem_append_right _ (List.mem_append_right _ (List.mem_append_left _ (List.mem_of_getElem? (i := 15) rfl)))))), rfl⟩
theorem mw_976 : (Jvm.Cond.instanceMethod ({ cls := "WardFalls", name := "falls", desc := "(II)I" } : Jvm.MethodName)) ∈ lw_good := List.mem_filter.mpr ⟨List.mem_append_right _ (List.mem_append_right _ (List.mem_append_right _ (List.mem_append_right _ (List.mem_append_right _ (List.mem_append_left _ (List.mem_of_getElem? (i := 16) rfl)))))), rfl⟩
theorem mw_977 : (Jvm.Cond.selects "WardFalls" ({ cls := "WardFalls", name := "falls", desc := "(II)I" } : Jvm.MethodName) ({ cls := "WardFalls", name := "falls", desc := "(II)I" } : Jvm.MethodName)) ∈ lw_good := List.mem_filter.mpr ⟨List.mem_append_right _ (List.mem_append_right _ (List.mem_append_right _ (List.mem_append_right _ (List.mem_append_right _ (List.mem_append_left _ (List.mem_of_getElem? (i := 17) rfl)))))), rfl⟩
theorem mw_979 : (Jvm.Cond.methodLink "WardFallsLaw" (70 : Nat) ({ cls := "WardFalls", name := "beats", desc := "(I)I" } : Jvm.MethodName)) ∈ lw_good := List.mem_filter.mpr ⟨List.mem_append_right _ (List.mem_append_right _ (List.mem_append_right _ (List.mem_append_right _ (List.mem_append_right _ (List.mem_append_left _ (List.mem_of_getElem? (i := 19) rfl)))))), rfl⟩
theorem mw_980 : (Jvm.Cond.instanceMethod ({ cls := "WardFalls", name := "beats", desc := "(I)I" } : Jvm.MethodName)) ∈ lw_good := List.mem_filter.mpr ⟨List.mem_append_right _ (List.mem_append_right _ (List.mem_append_right _ (List.mem_append_right _ (List.mem_append_right _ (List.mem_append_left _ (List.mem_of_getElem? (i := 20) rfl)))))), rfl⟩
theorem mw_981 : (Jvm.Cond.selects "WardFalls" ({ cls := "WardFalls", name := "beats", desc := "(I)I" } : Jvm.MethodName) ({ cls := "WardFalls", name := "beats", desc := "(I)I" } : Jvm.MethodName)) ∈ lw_good := List.mem_filter.mpr ⟨List.mem_append_right _ (List.mem_append_right _ (List.mem_append_right _ (List.mem_append_right _ (List.mem_append_right _ (List.mem_append_left _ (List.mem_of_getElem? (i := 21) rfl)))))), rfl⟩
theorem mw_991 : (Jvm.Cond.methodLink "WardFallsLaw" (74 : Nat) ({ cls := "WardFalls", name := "vote", desc := "(II)Z" } : Jvm.MethodName)) ∈ lw_good := List.mem_filter.mpr ⟨List.mem_append_right _ (List.mem_append_right _ (List.mem_append_right _ (List.mem_append_right _ (List.mem_append_right _ (List.mem_append_left _ (List.mem_of_getElem? (i := 31) rfl)))))), rfl⟩
theorem mw_992 : (Jvm.Cond.instanceMethod ({ cls := "WardFalls", name := "vote", desc := "(II)Z" } : Jvm.MethodName)) ∈ lw_good := List.mem_filter.mpr ⟨List.mem_append_right _ (List.mem_append_right _ (List.mem_append_right _ (List.mem_append_right _ (List.mem_append_right _ (List.mem_append_left _ (List.mem_of_getElem? (i := 32) rfl)))))), rfl⟩
theorem mw_993 : (Jvm.Cond.selects "WardFalls" ({ cls := "WardFalls", name := "vote", desc := "(II)Z" } : Jvm.MethodName) ({ cls := "WardFalls", name := "vote", desc := "(II)Z" } : Jvm.MethodName)) ∈ lw_good := List.mem_filter.mpr ⟨List.mem_append_right _ (List.mem_append_right _ (List.mem_append_right _ (List.mem_append_right _ (List.mem_append_right _ (List.mem_append_left _ (List.mem_of_getElem? (i := 33) rfl)))))), rfl⟩

theorem hd_MO_back : y_MO_back.cls ≠ "java/lang/invoke/MethodHandle" ∧ y_MO_back.cls ≠ "java/lang/invoke/VarHandle" ∧ (parseMethodDescriptor y_MO_back.desc).map (fun d => d.parameters.length) = some 0 := by decide +kernel
theorem hd_MO_beats : y_MO_beats.cls ≠ "java/lang/invoke/MethodHandle" ∧ y_MO_beats.cls ≠ "java/lang/invoke/VarHandle" ∧ (parseMethodDescriptor y_MO_beats.desc).map (fun d => d.parameters.length) = some 1 := by decide +kernel
theorem hd_MO_cell : y_MO_cell.cls ≠ "java/lang/invoke/MethodHandle" ∧ y_MO_cell.cls ≠ "java/lang/invoke/VarHandle" ∧ (parseMethodDescriptor y_MO_cell.desc).map (fun d => d.parameters.length) = some 2 := by decide +kernel
theorem hd_MO_clock : y_MO_clock.cls ≠ "java/lang/invoke/MethodHandle" ∧ y_MO_clock.cls ≠ "java/lang/invoke/VarHandle" ∧ (parseMethodDescriptor y_MO_clock.desc).map (fun d => d.parameters.length) = some 1 := by decide +kernel
theorem hd_MO_count : y_MO_count.cls ≠ "java/lang/invoke/MethodHandle" ∧ y_MO_count.cls ≠ "java/lang/invoke/VarHandle" ∧ (parseMethodDescriptor y_MO_count.desc).map (fun d => d.parameters.length) = some 1 := by decide +kernel
theorem hd_MO_drain : y_MO_drain.cls ≠ "java/lang/invoke/MethodHandle" ∧ y_MO_drain.cls ≠ "java/lang/invoke/VarHandle" ∧ (parseMethodDescriptor y_MO_drain.desc).map (fun d => d.parameters.length) = some 0 := by decide +kernel
theorem hd_MO_falls : y_MO_falls.cls ≠ "java/lang/invoke/MethodHandle" ∧ y_MO_falls.cls ≠ "java/lang/invoke/VarHandle" ∧ (parseMethodDescriptor y_MO_falls.desc).map (fun d => d.parameters.length) = some 2 := by decide +kernel
theorem hd_MO_fault : y_MO_fault.cls ≠ "java/lang/invoke/MethodHandle" ∧ y_MO_fault.cls ≠ "java/lang/invoke/VarHandle" ∧ (parseMethodDescriptor y_MO_fault.desc).map (fun d => d.parameters.length) = some 1 := by decide +kernel
theorem hd_MO_feed : y_MO_feed.cls ≠ "java/lang/invoke/MethodHandle" ∧ y_MO_feed.cls ≠ "java/lang/invoke/VarHandle" ∧ (parseMethodDescriptor y_MO_feed.desc).map (fun d => d.parameters.length) = some 5 := by decide +kernel
theorem hd_MO_fits : y_MO_fits.cls ≠ "java/lang/invoke/MethodHandle" ∧ y_MO_fits.cls ≠ "java/lang/invoke/VarHandle" ∧ (parseMethodDescriptor y_MO_fits.desc).map (fun d => d.parameters.length) = some 0 := by decide +kernel
theorem hd_MO_flood : y_MO_flood.cls ≠ "java/lang/invoke/MethodHandle" ∧ y_MO_flood.cls ≠ "java/lang/invoke/VarHandle" ∧ (parseMethodDescriptor y_MO_flood.desc).map (fun d => d.parameters.length) = some 2 := by decide +kernel
theorem hd_MO_keep : y_MO_keep.cls ≠ "java/lang/invoke/MethodHandle" ∧ y_MO_keep.cls ≠ "java/lang/invoke/VarHandle" ∧ (parseMethodDescriptor y_MO_keep.desc).map (fun d => d.parameters.length) = some 0 := by decide +kernel
theorem hd_MO_known : y_MO_known.cls ≠ "java/lang/invoke/MethodHandle" ∧ y_MO_known.cls ≠ "java/lang/invoke/VarHandle" ∧ (parseMethodDescriptor y_MO_known.desc).map (fun d => d.parameters.length) = some 1 := by decide +kernel
theorem hd_MO_law : y_MO_law.cls ≠ "java/lang/invoke/MethodHandle" ∧ y_MO_law.cls ≠ "java/lang/invoke/VarHandle" ∧ (parseMethodDescriptor y_MO_law.desc).map (fun d => d.parameters.length) = some 3 := by decide +kernel
theorem hd_MO_lay : y_MO_lay.cls ≠ "java/lang/invoke/MethodHandle" ∧ y_MO_lay.cls ≠ "java/lang/invoke/VarHandle" ∧ (parseMethodDescriptor y_MO_lay.desc).map (fun d => d.parameters.length) = some 2 := by decide +kernel
theorem hd_MO_may : y_MO_may.cls ≠ "java/lang/invoke/MethodHandle" ∧ y_MO_may.cls ≠ "java/lang/invoke/VarHandle" ∧ (parseMethodDescriptor y_MO_may.desc).map (fun d => d.parameters.length) = some 1 := by decide +kernel
theorem hd_MO_moves : y_MO_moves.cls ≠ "java/lang/invoke/MethodHandle" ∧ y_MO_moves.cls ≠ "java/lang/invoke/VarHandle" ∧ (parseMethodDescriptor y_MO_moves.desc).map (fun d => d.parameters.length) = some 2 := by decide +kernel
theorem hd_MO_named : y_MO_named.cls ≠ "java/lang/invoke/MethodHandle" ∧ y_MO_named.cls ≠ "java/lang/invoke/VarHandle" ∧ (parseMethodDescriptor y_MO_named.desc).map (fun d => d.parameters.length) = some 2 := by decide +kernel
theorem hd_MO_net : y_MO_net.cls ≠ "java/lang/invoke/MethodHandle" ∧ y_MO_net.cls ≠ "java/lang/invoke/VarHandle" ∧ (parseMethodDescriptor y_MO_net.desc).map (fun d => d.parameters.length) = some 2 := by decide +kernel
theorem hd_MO_nets : y_MO_nets.cls ≠ "java/lang/invoke/MethodHandle" ∧ y_MO_nets.cls ≠ "java/lang/invoke/VarHandle" ∧ (parseMethodDescriptor y_MO_nets.desc).map (fun d => d.parameters.length) = some 0 := by decide +kernel
theorem hd_MO_note : y_MO_note.cls ≠ "java/lang/invoke/MethodHandle" ∧ y_MO_note.cls ≠ "java/lang/invoke/VarHandle" ∧ (parseMethodDescriptor y_MO_note.desc).map (fun d => d.parameters.length) = some 2 := by decide +kernel
theorem hd_MO_pour : y_MO_pour.cls ≠ "java/lang/invoke/MethodHandle" ∧ y_MO_pour.cls ≠ "java/lang/invoke/VarHandle" ∧ (parseMethodDescriptor y_MO_pour.desc).map (fun d => d.parameters.length) = some 2 := by decide +kernel
theorem hd_MO_push : y_MO_push.cls ≠ "java/lang/invoke/MethodHandle" ∧ y_MO_push.cls ≠ "java/lang/invoke/VarHandle" ∧ (parseMethodDescriptor y_MO_push.desc).map (fun d => d.parameters.length) = some 3 := by decide +kernel
theorem hd_MO_pushed : y_MO_pushed.cls ≠ "java/lang/invoke/MethodHandle" ∧ y_MO_pushed.cls ≠ "java/lang/invoke/VarHandle" ∧ (parseMethodDescriptor y_MO_pushed.desc).map (fun d => d.parameters.length) = some 3 := by decide +kernel
theorem hd_MO_rest : y_MO_rest.cls ≠ "java/lang/invoke/MethodHandle" ∧ y_MO_rest.cls ≠ "java/lang/invoke/VarHandle" ∧ (parseMethodDescriptor y_MO_rest.desc).map (fun d => d.parameters.length) = some 1 := by decide +kernel
theorem hd_MO_stay : y_MO_stay.cls ≠ "java/lang/invoke/MethodHandle" ∧ y_MO_stay.cls ≠ "java/lang/invoke/VarHandle" ∧ (parseMethodDescriptor y_MO_stay.desc).map (fun d => d.parameters.length) = some 1 := by decide +kernel
theorem hd_MO_stays : y_MO_stays.cls ≠ "java/lang/invoke/MethodHandle" ∧ y_MO_stays.cls ≠ "java/lang/invoke/VarHandle" ∧ (parseMethodDescriptor y_MO_stays.desc).map (fun d => d.parameters.length) = some 0 := by decide +kernel
theorem hd_MO_step : y_MO_step.cls ≠ "java/lang/invoke/MethodHandle" ∧ y_MO_step.cls ≠ "java/lang/invoke/VarHandle" ∧ (parseMethodDescriptor y_MO_step.desc).map (fun d => d.parameters.length) = some 3 := by decide +kernel
theorem hd_MO_strike : y_MO_strike.cls ≠ "java/lang/invoke/MethodHandle" ∧ y_MO_strike.cls ≠ "java/lang/invoke/VarHandle" ∧ (parseMethodDescriptor y_MO_strike.desc).map (fun d => d.parameters.length) = some 1 := by decide +kernel
theorem hd_MO_text : y_MO_text.cls ≠ "java/lang/invoke/MethodHandle" ∧ y_MO_text.cls ≠ "java/lang/invoke/VarHandle" ∧ (parseMethodDescriptor y_MO_text.desc).map (fun d => d.parameters.length) = some 1 := by decide +kernel
theorem hd_MO_thing : y_MO_thing.cls ≠ "java/lang/invoke/MethodHandle" ∧ y_MO_thing.cls ≠ "java/lang/invoke/VarHandle" ∧ (parseMethodDescriptor y_MO_thing.desc).map (fun d => d.parameters.length) = some 2 := by decide +kernel
theorem hd_MO_treaty : y_MO_treaty.cls ≠ "java/lang/invoke/MethodHandle" ∧ y_MO_treaty.cls ≠ "java/lang/invoke/VarHandle" ∧ (parseMethodDescriptor y_MO_treaty.desc).map (fun d => d.parameters.length) = some 1 := by decide +kernel
theorem hd_MO_tried : y_MO_tried.cls ≠ "java/lang/invoke/MethodHandle" ∧ y_MO_tried.cls ≠ "java/lang/invoke/VarHandle" ∧ (parseMethodDescriptor y_MO_tried.desc).map (fun d => d.parameters.length) = some 3 := by decide +kernel
theorem hd_MO_undo : y_MO_undo.cls ≠ "java/lang/invoke/MethodHandle" ∧ y_MO_undo.cls ≠ "java/lang/invoke/VarHandle" ∧ (parseMethodDescriptor y_MO_undo.desc).map (fun d => d.parameters.length) = some 0 := by decide +kernel
theorem hd_MO_vote : y_MO_vote.cls ≠ "java/lang/invoke/MethodHandle" ∧ y_MO_vote.cls ≠ "java/lang/invoke/VarHandle" ∧ (parseMethodDescriptor y_MO_vote.desc).map (fun d => d.parameters.length) = some 2 := by decide +kernel
theorem hd_MO_voted : y_MO_voted.cls ≠ "java/lang/invoke/MethodHandle" ∧ y_MO_voted.cls ≠ "java/lang/invoke/VarHandle" ∧ (parseMethodDescriptor y_MO_voted.desc).map (fun d => d.parameters.length) = some 2 := by decide +kernel
theorem hd_MO_walk : y_MO_walk.cls ≠ "java/lang/invoke/MethodHandle" ∧ y_MO_walk.cls ≠ "java/lang/invoke/VarHandle" ∧ (parseMethodDescriptor y_MO_walk.desc).map (fun d => d.parameters.length) = some 2 := by decide +kernel
theorem hd_MO_war : y_MO_war.cls ≠ "java/lang/invoke/MethodHandle" ∧ y_MO_war.cls ≠ "java/lang/invoke/VarHandle" ∧ (parseMethodDescriptor y_MO_war.desc).map (fun d => d.parameters.length) = some 2 := by decide +kernel
theorem hd_MO_ward : y_MO_ward.cls ≠ "java/lang/invoke/MethodHandle" ∧ y_MO_ward.cls ≠ "java/lang/invoke/VarHandle" ∧ (parseMethodDescriptor y_MO_ward.desc).map (fun d => d.parameters.length) = some 2 := by decide +kernel
theorem hd_MO_way : y_MO_way.cls ≠ "java/lang/invoke/MethodHandle" ∧ y_MO_way.cls ≠ "java/lang/invoke/VarHandle" ∧ (parseMethodDescriptor y_MO_way.desc).map (fun d => d.parameters.length) = some 2 := by decide +kernel
theorem hd_MO_years : y_MO_years.cls ≠ "java/lang/invoke/MethodHandle" ∧ y_MO_years.cls ≠ "java/lang/invoke/VarHandle" ∧ (parseMethodDescriptor y_MO_years.desc).map (fun d => d.parameters.length) = some 1 := by decide +kernel
theorem hd_WF_back : y_WF_back.cls ≠ "java/lang/invoke/MethodHandle" ∧ y_WF_back.cls ≠ "java/lang/invoke/VarHandle" ∧ (parseMethodDescriptor y_WF_back.desc).map (fun d => d.parameters.length) = some 0 := by decide +kernel
theorem hd_WF_beats : y_WF_beats.cls ≠ "java/lang/invoke/MethodHandle" ∧ y_WF_beats.cls ≠ "java/lang/invoke/VarHandle" ∧ (parseMethodDescriptor y_WF_beats.desc).map (fun d => d.parameters.length) = some 1 := by decide +kernel
theorem hd_WF_clock : y_WF_clock.cls ≠ "java/lang/invoke/MethodHandle" ∧ y_WF_clock.cls ≠ "java/lang/invoke/VarHandle" ∧ (parseMethodDescriptor y_WF_clock.desc).map (fun d => d.parameters.length) = some 1 := by decide +kernel
theorem hd_WF_count : y_WF_count.cls ≠ "java/lang/invoke/MethodHandle" ∧ y_WF_count.cls ≠ "java/lang/invoke/VarHandle" ∧ (parseMethodDescriptor y_WF_count.desc).map (fun d => d.parameters.length) = some 1 := by decide +kernel
theorem hd_WF_drain : y_WF_drain.cls ≠ "java/lang/invoke/MethodHandle" ∧ y_WF_drain.cls ≠ "java/lang/invoke/VarHandle" ∧ (parseMethodDescriptor y_WF_drain.desc).map (fun d => d.parameters.length) = some 0 := by decide +kernel
theorem hd_WF_falls : y_WF_falls.cls ≠ "java/lang/invoke/MethodHandle" ∧ y_WF_falls.cls ≠ "java/lang/invoke/VarHandle" ∧ (parseMethodDescriptor y_WF_falls.desc).map (fun d => d.parameters.length) = some 2 := by decide +kernel
theorem hd_WF_fault : y_WF_fault.cls ≠ "java/lang/invoke/MethodHandle" ∧ y_WF_fault.cls ≠ "java/lang/invoke/VarHandle" ∧ (parseMethodDescriptor y_WF_fault.desc).map (fun d => d.parameters.length) = some 1 := by decide +kernel
theorem hd_WF_feed : y_WF_feed.cls ≠ "java/lang/invoke/MethodHandle" ∧ y_WF_feed.cls ≠ "java/lang/invoke/VarHandle" ∧ (parseMethodDescriptor y_WF_feed.desc).map (fun d => d.parameters.length) = some 5 := by decide +kernel
theorem hd_WF_fits : y_WF_fits.cls ≠ "java/lang/invoke/MethodHandle" ∧ y_WF_fits.cls ≠ "java/lang/invoke/VarHandle" ∧ (parseMethodDescriptor y_WF_fits.desc).map (fun d => d.parameters.length) = some 0 := by decide +kernel
theorem hd_WF_flood : y_WF_flood.cls ≠ "java/lang/invoke/MethodHandle" ∧ y_WF_flood.cls ≠ "java/lang/invoke/VarHandle" ∧ (parseMethodDescriptor y_WF_flood.desc).map (fun d => d.parameters.length) = some 2 := by decide +kernel
theorem hd_WF_keep : y_WF_keep.cls ≠ "java/lang/invoke/MethodHandle" ∧ y_WF_keep.cls ≠ "java/lang/invoke/VarHandle" ∧ (parseMethodDescriptor y_WF_keep.desc).map (fun d => d.parameters.length) = some 0 := by decide +kernel
theorem hd_WF_known : y_WF_known.cls ≠ "java/lang/invoke/MethodHandle" ∧ y_WF_known.cls ≠ "java/lang/invoke/VarHandle" ∧ (parseMethodDescriptor y_WF_known.desc).map (fun d => d.parameters.length) = some 1 := by decide +kernel
theorem hd_WF_law : y_WF_law.cls ≠ "java/lang/invoke/MethodHandle" ∧ y_WF_law.cls ≠ "java/lang/invoke/VarHandle" ∧ (parseMethodDescriptor y_WF_law.desc).map (fun d => d.parameters.length) = some 3 := by decide +kernel
theorem hd_WF_lay : y_WF_lay.cls ≠ "java/lang/invoke/MethodHandle" ∧ y_WF_lay.cls ≠ "java/lang/invoke/VarHandle" ∧ (parseMethodDescriptor y_WF_lay.desc).map (fun d => d.parameters.length) = some 2 := by decide +kernel
theorem hd_WF_may : y_WF_may.cls ≠ "java/lang/invoke/MethodHandle" ∧ y_WF_may.cls ≠ "java/lang/invoke/VarHandle" ∧ (parseMethodDescriptor y_WF_may.desc).map (fun d => d.parameters.length) = some 1 := by decide +kernel
theorem hd_WF_moves : y_WF_moves.cls ≠ "java/lang/invoke/MethodHandle" ∧ y_WF_moves.cls ≠ "java/lang/invoke/VarHandle" ∧ (parseMethodDescriptor y_WF_moves.desc).map (fun d => d.parameters.length) = some 2 := by decide +kernel
theorem hd_WF_named : y_WF_named.cls ≠ "java/lang/invoke/MethodHandle" ∧ y_WF_named.cls ≠ "java/lang/invoke/VarHandle" ∧ (parseMethodDescriptor y_WF_named.desc).map (fun d => d.parameters.length) = some 2 := by decide +kernel
theorem hd_WF_net : y_WF_net.cls ≠ "java/lang/invoke/MethodHandle" ∧ y_WF_net.cls ≠ "java/lang/invoke/VarHandle" ∧ (parseMethodDescriptor y_WF_net.desc).map (fun d => d.parameters.length) = some 2 := by decide +kernel
theorem hd_WF_nets : y_WF_nets.cls ≠ "java/lang/invoke/MethodHandle" ∧ y_WF_nets.cls ≠ "java/lang/invoke/VarHandle" ∧ (parseMethodDescriptor y_WF_nets.desc).map (fun d => d.parameters.length) = some 0 := by decide +kernel
theorem hd_WF_note : y_WF_note.cls ≠ "java/lang/invoke/MethodHandle" ∧ y_WF_note.cls ≠ "java/lang/invoke/VarHandle" ∧ (parseMethodDescriptor y_WF_note.desc).map (fun d => d.parameters.length) = some 2 := by decide +kernel
theorem hd_WF_pour : y_WF_pour.cls ≠ "java/lang/invoke/MethodHandle" ∧ y_WF_pour.cls ≠ "java/lang/invoke/VarHandle" ∧ (parseMethodDescriptor y_WF_pour.desc).map (fun d => d.parameters.length) = some 2 := by decide +kernel
theorem hd_WF_push : y_WF_push.cls ≠ "java/lang/invoke/MethodHandle" ∧ y_WF_push.cls ≠ "java/lang/invoke/VarHandle" ∧ (parseMethodDescriptor y_WF_push.desc).map (fun d => d.parameters.length) = some 3 := by decide +kernel
theorem hd_WF_pushed : y_WF_pushed.cls ≠ "java/lang/invoke/MethodHandle" ∧ y_WF_pushed.cls ≠ "java/lang/invoke/VarHandle" ∧ (parseMethodDescriptor y_WF_pushed.desc).map (fun d => d.parameters.length) = some 3 := by decide +kernel
theorem hd_WF_rest : y_WF_rest.cls ≠ "java/lang/invoke/MethodHandle" ∧ y_WF_rest.cls ≠ "java/lang/invoke/VarHandle" ∧ (parseMethodDescriptor y_WF_rest.desc).map (fun d => d.parameters.length) = some 1 := by decide +kernel
theorem hd_WF_stay : y_WF_stay.cls ≠ "java/lang/invoke/MethodHandle" ∧ y_WF_stay.cls ≠ "java/lang/invoke/VarHandle" ∧ (parseMethodDescriptor y_WF_stay.desc).map (fun d => d.parameters.length) = some 1 := by decide +kernel
theorem hd_WF_stays : y_WF_stays.cls ≠ "java/lang/invoke/MethodHandle" ∧ y_WF_stays.cls ≠ "java/lang/invoke/VarHandle" ∧ (parseMethodDescriptor y_WF_stays.desc).map (fun d => d.parameters.length) = some 0 := by decide +kernel
theorem hd_WF_step : y_WF_step.cls ≠ "java/lang/invoke/MethodHandle" ∧ y_WF_step.cls ≠ "java/lang/invoke/VarHandle" ∧ (parseMethodDescriptor y_WF_step.desc).map (fun d => d.parameters.length) = some 3 := by decide +kernel
theorem hd_WF_strike : y_WF_strike.cls ≠ "java/lang/invoke/MethodHandle" ∧ y_WF_strike.cls ≠ "java/lang/invoke/VarHandle" ∧ (parseMethodDescriptor y_WF_strike.desc).map (fun d => d.parameters.length) = some 1 := by decide +kernel
theorem hd_WF_text : y_WF_text.cls ≠ "java/lang/invoke/MethodHandle" ∧ y_WF_text.cls ≠ "java/lang/invoke/VarHandle" ∧ (parseMethodDescriptor y_WF_text.desc).map (fun d => d.parameters.length) = some 1 := by decide +kernel
theorem hd_WF_thing : y_WF_thing.cls ≠ "java/lang/invoke/MethodHandle" ∧ y_WF_thing.cls ≠ "java/lang/invoke/VarHandle" ∧ (parseMethodDescriptor y_WF_thing.desc).map (fun d => d.parameters.length) = some 2 := by decide +kernel
theorem hd_WF_treaty : y_WF_treaty.cls ≠ "java/lang/invoke/MethodHandle" ∧ y_WF_treaty.cls ≠ "java/lang/invoke/VarHandle" ∧ (parseMethodDescriptor y_WF_treaty.desc).map (fun d => d.parameters.length) = some 1 := by decide +kernel
theorem hd_WF_tried : y_WF_tried.cls ≠ "java/lang/invoke/MethodHandle" ∧ y_WF_tried.cls ≠ "java/lang/invoke/VarHandle" ∧ (parseMethodDescriptor y_WF_tried.desc).map (fun d => d.parameters.length) = some 3 := by decide +kernel
theorem hd_WF_undo : y_WF_undo.cls ≠ "java/lang/invoke/MethodHandle" ∧ y_WF_undo.cls ≠ "java/lang/invoke/VarHandle" ∧ (parseMethodDescriptor y_WF_undo.desc).map (fun d => d.parameters.length) = some 0 := by decide +kernel
theorem hd_WF_vote : y_WF_vote.cls ≠ "java/lang/invoke/MethodHandle" ∧ y_WF_vote.cls ≠ "java/lang/invoke/VarHandle" ∧ (parseMethodDescriptor y_WF_vote.desc).map (fun d => d.parameters.length) = some 2 := by decide +kernel
theorem hd_WF_voted : y_WF_voted.cls ≠ "java/lang/invoke/MethodHandle" ∧ y_WF_voted.cls ≠ "java/lang/invoke/VarHandle" ∧ (parseMethodDescriptor y_WF_voted.desc).map (fun d => d.parameters.length) = some 2 := by decide +kernel
theorem hd_WF_walk : y_WF_walk.cls ≠ "java/lang/invoke/MethodHandle" ∧ y_WF_walk.cls ≠ "java/lang/invoke/VarHandle" ∧ (parseMethodDescriptor y_WF_walk.desc).map (fun d => d.parameters.length) = some 2 := by decide +kernel
theorem hd_WF_war : y_WF_war.cls ≠ "java/lang/invoke/MethodHandle" ∧ y_WF_war.cls ≠ "java/lang/invoke/VarHandle" ∧ (parseMethodDescriptor y_WF_war.desc).map (fun d => d.parameters.length) = some 2 := by decide +kernel
theorem hd_WF_ward : y_WF_ward.cls ≠ "java/lang/invoke/MethodHandle" ∧ y_WF_ward.cls ≠ "java/lang/invoke/VarHandle" ∧ (parseMethodDescriptor y_WF_ward.desc).map (fun d => d.parameters.length) = some 2 := by decide +kernel
theorem hd_WF_way : y_WF_way.cls ≠ "java/lang/invoke/MethodHandle" ∧ y_WF_way.cls ≠ "java/lang/invoke/VarHandle" ∧ (parseMethodDescriptor y_WF_way.desc).map (fun d => d.parameters.length) = some 2 := by decide +kernel
theorem hd_WF_years : y_WF_years.cls ≠ "java/lang/invoke/MethodHandle" ∧ y_WF_years.cls ≠ "java/lang/invoke/VarHandle" ∧ (parseMethodDescriptor y_WF_years.desc).map (fun d => d.parameters.length) = some 1 := by decide +kernel
theorem gs_WardFallsLaw_101 : GoodIn lw_good (wsV "WardFallsLaw" 101 y_MO_flood.cls y_MO_flood (wsM y_MO_flood b_MO_flood 3 (some .long))) := good_V mw_1929 mw_1926 mw_1927 mw_1928 mw_16
theorem gs_WardFallsLaw_102 : GoodIn lw_good (wsV "WardFallsLaw" 102 y_WF_walk.cls y_WF_walk (wsM y_WF_walk b_WF_walk 3 (some .int))) := good_V mw_1041 mw_1038 mw_1039 mw_1040 mw_1
theorem gs_WardFallsLaw_105 : GoodIn lw_good (wsV "WardFallsLaw" 105 y_MO_walk.cls y_MO_walk (wsM y_MO_walk b_MO_walk 3 (some .int))) := good_V mw_1934 mw_1931 mw_1932 mw_1933 mw_16
theorem gs_WardFallsLaw_106 : GoodIn lw_good (wsV "WardFallsLaw" 106 y_WF_step.cls y_WF_step (wsM y_WF_step b_WF_step 4 (some .int))) := good_V mw_1083 mw_1080 mw_1081 mw_1082 mw_1
theorem gs_WardFallsLaw_110 : GoodIn lw_good (wsV "WardFallsLaw" 110 y_MO_step.cls y_MO_step (wsM y_MO_step b_MO_step 7 (some .int))) := good_V mw_1951 mw_1948 mw_1949 mw_1950 mw_16
theorem gs_WardFallsLaw_111 : GoodIn lw_good (wsV "WardFallsLaw" 111 y_WF_push.cls y_WF_push (wsM y_WF_push b_WF_push 4 (some .int))) := good_V mw_1091 mw_1088 mw_1089 mw_1090 mw_1
theorem gs_WardFallsLaw_114 : GoodIn lw_good (wsV "WardFallsLaw" 114 y_MO_push.cls y_MO_push (wsM y_MO_push b_MO_push 4 (some .int))) := good_V mw_1955 mw_1952 mw_1953 mw_1954 mw_16
theorem gs_WardFallsLaw_115 : GoodIn lw_good (wsV "WardFallsLaw" 115 y_WF_pushed.cls y_WF_pushed (wsM y_WF_pushed b_WF_pushed 4 (some .int))) := good_V mw_1107 mw_1104 mw_1105 mw_1106 mw_1
theorem gs_WardFallsLaw_118 : GoodIn lw_good (wsV "WardFallsLaw" 118 y_MO_pushed.cls y_MO_pushed (wsM y_MO_pushed b_MO_pushed 7 (some .int))) := good_V mw_1967 mw_1964 mw_1965 mw_1966 mw_16
theorem gs_WardFallsLaw_119 : GoodIn lw_good (wsV "WardFallsLaw" 119 y_WF_war.cls y_WF_war (wsM y_WF_war b_WF_war 5 (some .int))) := good_V mw_1111 mw_1108 mw_1109 mw_1110 mw_1
theorem gs_WardFallsLaw_122 : GoodIn lw_good (wsV "WardFallsLaw" 122 y_MO_war.cls y_MO_war (wsM y_MO_war b_MO_war 5 (some .int))) := good_V mw_1975 mw_1972 mw_1973 mw_1974 mw_16
theorem gs_WardFallsLaw_123 : GoodIn lw_good (wsV "WardFallsLaw" 123 y_WF_nets.cls y_WF_nets (wsM y_WF_nets b_WF_nets 5 (some .long))) := good_V mw_1121 mw_1118 mw_1119 mw_1120 mw_1
theorem gs_WardFallsLaw_127 : GoodIn lw_good (wsV "WardFallsLaw" 127 y_MO_nets.cls y_MO_nets (wsM y_MO_nets b_MO_nets 5 (some .long))) := good_V mw_1979 mw_1976 mw_1977 mw_1978 mw_16
theorem gs_WardFallsLaw_128 : GoodIn lw_good (wsV "WardFallsLaw" 128 y_WF_clock.cls y_WF_clock (wsM y_WF_clock b_WF_clock 2 (some .int))) := good_V mw_1127 mw_1124 mw_1125 mw_1126 mw_1
theorem gs_WardFallsLaw_131 : GoodIn lw_good (wsV "WardFallsLaw" 131 y_MO_clock.cls y_MO_clock (wsM y_MO_clock b_MO_clock 9 (some .int))) := good_V mw_1983 mw_1980 mw_1981 mw_1982 mw_16
theorem gs_WardFallsLaw_132 : GoodIn lw_good (wsV "WardFallsLaw" 132 y_WF_stays.cls y_WF_stays (wsM y_WF_stays b_WF_stays 3 (some .int))) := good_V mw_1140 mw_1137 mw_1138 mw_1139 mw_1
theorem gs_WardFallsLaw_135 : GoodIn lw_good (wsV "WardFallsLaw" 135 y_MO_stays.cls y_MO_stays (wsM y_MO_stays b_MO_stays 1 (some .int))) := good_V mw_1991 mw_1988 mw_1989 mw_1990 mw_16
theorem gs_WardFallsLaw_136 : GoodIn lw_good (wsV "WardFallsLaw" 136 y_WF_stay.cls y_WF_stay (wsM y_WF_stay b_WF_stay 4 (some .int))) := good_V mw_1163 mw_1160 mw_1161 mw_1162 mw_1
theorem gs_WardFallsLaw_139 : GoodIn lw_good (wsV "WardFallsLaw" 139 y_MO_stay.cls y_MO_stay (wsM y_MO_stay b_MO_stay 2 (some .int))) := good_V mw_2014 mw_2011 mw_2012 mw_2013 mw_16
theorem gs_WardFallsLaw_140 : GoodIn lw_good (wsV "WardFallsLaw" 140 y_WF_treaty.cls y_WF_treaty (wsM y_WF_treaty b_WF_treaty 6 (some .int))) := good_V mw_1167 mw_1164 mw_1165 mw_1166 mw_1
theorem gs_WardFallsLaw_143 : GoodIn lw_good (wsV "WardFallsLaw" 143 y_MO_treaty.cls y_MO_treaty (wsM y_MO_treaty b_MO_treaty 8 (some .int))) := good_V mw_2018 mw_2015 mw_2016 mw_2017 mw_16
theorem gs_WardFallsLaw_144 : GoodIn lw_good (wsV "WardFallsLaw" 144 y_WF_moves.cls y_WF_moves (wsM y_WF_moves b_WF_moves 6 (some .int))) := good_V mw_1176 mw_1173 mw_1174 mw_1175 mw_1
theorem gs_WardFallsLaw_147 : GoodIn lw_good (wsV "WardFallsLaw" 147 y_MO_moves.cls y_MO_moves (wsM y_MO_moves b_MO_moves 5 (some .int))) := good_V mw_2022 mw_2019 mw_2020 mw_2021 mw_16
theorem gs_WardFallsLaw_148 : GoodIn lw_good (wsV "WardFallsLaw" 148 y_WF_note.cls y_WF_note (wsM y_WF_note b_WF_note 3 (some .int))) := good_V mw_1181 mw_1178 mw_1179 mw_1180 mw_1
theorem gs_WardFallsLaw_151 : GoodIn lw_good (wsV "WardFallsLaw" 151 y_MO_note.cls y_MO_note (wsM y_MO_note b_MO_note 3 (some .int))) := good_V mw_2030 mw_2027 mw_2028 mw_2029 mw_16
theorem gs_WardFallsLaw_152 : GoodIn lw_good (wsV "WardFallsLaw" 152 y_WF_strike.cls y_WF_strike (wsM y_WF_strike b_WF_strike 2 (some .int))) := good_V mw_1190 mw_1187 mw_1188 mw_1189 mw_1
theorem gs_WardFallsLaw_155 : GoodIn lw_good (wsV "WardFallsLaw" 155 y_MO_strike.cls y_MO_strike (wsM y_MO_strike b_MO_strike 2 (some .int))) := good_V mw_2034 mw_2031 mw_2032 mw_2033 mw_16
theorem gs_WardFallsLaw_156 : GoodIn lw_good (wsV "WardFallsLaw" 156 y_WF_known.cls y_WF_known (wsM y_WF_known b_WF_known 2 (some .boolean))) := good_V mw_1194 mw_1191 mw_1192 mw_1193 mw_1
theorem gs_WardFallsLaw_160 : GoodIn lw_good (wsV "WardFallsLaw" 160 y_MO_known.cls y_MO_known (wsM y_MO_known b_MO_known 2 (some .boolean))) := good_V mw_2038 mw_2035 mw_2036 mw_2037 mw_16
theorem gs_WardFallsLaw_161 : GoodIn lw_good (wsV "WardFallsLaw" 161 y_WF_fits.cls y_WF_fits (wsM y_WF_fits b_WF_fits 1 (some .int))) := good_V mw_1198 mw_1195 mw_1196 mw_1197 mw_1
theorem gs_WardFallsLaw_164 : GoodIn lw_good (wsV "WardFallsLaw" 164 y_MO_fits.cls y_MO_fits (wsM y_MO_fits b_MO_fits 1 (some .int))) := good_V mw_2042 mw_2039 mw_2040 mw_2041 mw_16
theorem gs_WardFallsLaw_165 : GoodIn lw_good (wsV "WardFallsLaw" 165 y_WF_may.cls y_WF_may (wsM y_WF_may b_WF_may 2 (some .int))) := good_V mw_1227 mw_1224 mw_1225 mw_1226 mw_1
theorem gs_WardFallsLaw_168 : GoodIn lw_good (wsV "WardFallsLaw" 168 y_MO_may.cls y_MO_may (wsM y_MO_may b_MO_may 2 (some .int))) := good_V mw_2058 mw_2055 mw_2056 mw_2057 mw_16
theorem gs_WardFallsLaw_169 : GoodIn lw_good (wsV "WardFallsLaw" 169 y_WF_years.cls y_WF_years (wsM y_WF_years b_WF_years 3 (some .int))) := good_V mw_1231 mw_1228 mw_1229 mw_1230 mw_1
theorem gs_WardFallsLaw_172 : GoodIn lw_good (wsV "WardFallsLaw" 172 y_MO_years.cls y_MO_years (wsM y_MO_years b_MO_years 5 (some .int))) := good_V mw_2062 mw_2059 mw_2060 mw_2061 mw_16
theorem gs_WardFallsLaw_173 : GoodIn lw_good (wsV "WardFallsLaw" 173 y_WF_voted.cls y_WF_voted (wsM y_WF_voted b_WF_voted 3 (some .int))) := good_V mw_1249 mw_1246 mw_1247 mw_1248 mw_1
theorem gs_WardFallsLaw_176 : GoodIn lw_good (wsV "WardFallsLaw" 176 y_MO_voted.cls y_MO_voted (wsM y_MO_voted b_MO_voted 3 (some .int))) := good_V mw_2072 mw_2069 mw_2070 mw_2071 mw_16
theorem gs_WardFallsLaw_177 : GoodIn lw_good (wsV "WardFallsLaw" 177 y_WF_tried.cls y_WF_tried (wsM y_WF_tried b_WF_tried 6 (some .int))) := good_V mw_1253 mw_1250 mw_1251 mw_1252 mw_1
theorem gs_WardFallsLaw_180 : GoodIn lw_good (wsV "WardFallsLaw" 180 y_MO_tried.cls y_MO_tried (wsM y_MO_tried b_MO_tried 7 (some .int))) := good_V mw_2076 mw_2073 mw_2074 mw_2075 mw_16
theorem gs_WardFallsLaw_181 : GoodIn lw_good (wsV "WardFallsLaw" 181 y_WF_undo.cls y_WF_undo (wsM y_WF_undo b_WF_undo 1 (some .int))) := good_V mw_1261 mw_1258 mw_1259 mw_1260 mw_1
theorem gs_WardFallsLaw_184 : GoodIn lw_good (wsV "WardFallsLaw" 184 y_MO_undo.cls y_MO_undo (wsM y_MO_undo b_MO_undo 1 (some .int))) := good_V mw_2080 mw_2077 mw_2078 mw_2079 mw_16
theorem gs_WardFallsLaw_185 : GoodIn lw_good (wsV "WardFallsLaw" 185 y_WF_keep.cls y_WF_keep (wsM y_WF_keep b_WF_keep 1 (some .int))) := good_V mw_1269 mw_1266 mw_1267 mw_1268 mw_1
theorem gs_WardFallsLaw_188 : GoodIn lw_good (wsV "WardFallsLaw" 188 y_MO_keep.cls y_MO_keep (wsM y_MO_keep b_MO_keep 1 (some .int))) := good_V mw_2084 mw_2081 mw_2082 mw_2083 mw_16
theorem gs_WardFallsLaw_189 : GoodIn lw_good (wsV "WardFallsLaw" 189 y_WF_back.cls y_WF_back (wsM y_WF_back b_WF_back 1 (some .int))) := good_V mw_1278 mw_1275 mw_1276 mw_1277 mw_1
theorem gs_WardFallsLaw_192 : GoodIn lw_good (wsV "WardFallsLaw" 192 y_MO_back.cls y_MO_back (wsM y_MO_back b_MO_back 1 (some .int))) := good_V mw_2092 mw_2089 mw_2090 mw_2091 mw_16
theorem gs_WardFallsLaw_193 : GoodIn lw_good (wsV "WardFallsLaw" 193 y_WF_count.cls y_WF_count (wsM y_WF_count b_WF_count 2 (some .int))) := good_V mw_1282 mw_1279 mw_1280 mw_1281 mw_1
theorem gs_WardFallsLaw_196 : GoodIn lw_good (wsV "WardFallsLaw" 196 y_MO_count.cls y_MO_count (wsM y_MO_count b_MO_count 4 (some .int))) := good_V mw_2096 mw_2093 mw_2094 mw_2095 mw_16
theorem gs_WardFallsLaw_21 : GoodIn lw_good (wsV "WardFallsLaw" 21 y_WF_feed.cls y_WF_feed (wsM y_WF_feed b_WF_feed 6 (some .int))) := good_V mw_611 mw_608 mw_609 mw_610 mw_1
theorem gs_WardFallsLaw_25 : GoodIn lw_good (wsV "WardFallsLaw" 25 y_MO_feed.cls y_MO_feed (wsM y_MO_feed b_MO_feed 8 (some .int))) := good_V mw_1598 mw_1595 mw_1596 mw_1597 mw_16
theorem gs_WardFallsLaw_26 : GoodIn lw_good (wsV "WardFallsLaw" 26 y_WF_text.cls y_WF_text (wsM y_WF_text b_WF_text 4 (some .int))) := good_V mw_620 mw_617 mw_618 mw_619 mw_1
theorem gs_WardFallsLaw_30 : GoodIn lw_good (wsV "WardFallsLaw" 30 y_MO_text.cls y_MO_text (wsM y_MO_text b_MO_text 3 (some .int))) := good_V mw_1602 mw_1599 mw_1600 mw_1601 mw_16
theorem gs_WardFallsLaw_31 : GoodIn lw_good (wsV "WardFallsLaw" 31 y_WF_fault.cls y_WF_fault (wsM y_WF_fault b_WF_fault 2 (some .int))) := good_V mw_829 mw_826 mw_827 mw_828 mw_1
theorem gs_WardFallsLaw_34 : GoodIn lw_good (wsV "WardFallsLaw" 34 y_MO_fault.cls y_MO_fault (wsM y_MO_fault b_MO_fault 2 (some .int))) := good_V mw_1754 mw_1751 mw_1752 mw_1753 mw_16
theorem gs_WardFallsLaw_35 : GoodIn lw_good (wsV "WardFallsLaw" 35 y_WF_named.cls y_WF_named (wsM y_WF_named b_WF_named 3 (some .int))) := good_V mw_833 mw_830 mw_831 mw_832 mw_1
theorem gs_WardFallsLaw_38 : GoodIn lw_good (wsV "WardFallsLaw" 38 y_MO_named.cls y_MO_named (wsM y_MO_named b_MO_named 3 (some .int))) := good_V mw_1758 mw_1755 mw_1756 mw_1757 mw_16
theorem gs_WardFallsLaw_44 : GoodIn lw_good (wsV "WardFallsLaw" 44 y_MO_cell.cls y_MO_cell (wsM y_MO_cell b_MO_cell 3 (some .int))) := good_V mw_1762 mw_1759 mw_1760 mw_1761 mw_16
theorem gs_WardFallsLaw_45 : GoodIn lw_good (wsV "WardFallsLaw" 45 y_WF_ward.cls y_WF_ward (wsM y_WF_ward b_WF_ward 3 (some .int))) := good_V mw_838 mw_835 mw_836 mw_837 mw_1
theorem gs_WardFallsLaw_48 : GoodIn lw_good (wsV "WardFallsLaw" 48 y_MO_ward.cls y_MO_ward (wsM y_MO_ward b_MO_ward 3 (some .int))) := good_V mw_1794 mw_1791 mw_1792 mw_1793 mw_16
theorem gs_WardFallsLaw_49 : GoodIn lw_good (wsV "WardFallsLaw" 49 y_WF_thing.cls y_WF_thing (wsM y_WF_thing b_WF_thing 3 (some .int))) := good_V mw_931 mw_928 mw_929 mw_930 mw_1
theorem gs_WardFallsLaw_52 : GoodIn lw_good (wsV "WardFallsLaw" 52 y_MO_thing.cls y_MO_thing (wsM y_MO_thing b_MO_thing 3 (some .int))) := good_V mw_1846 mw_1843 mw_1844 mw_1845 mw_16
theorem gs_WardFallsLaw_53 : GoodIn lw_good (wsV "WardFallsLaw" 53 y_WF_law.cls y_WF_law (wsM y_WF_law b_WF_law 4 (some .long))) := good_V mw_939 mw_936 mw_937 mw_938 mw_1
theorem gs_WardFallsLaw_57 : GoodIn lw_good (wsV "WardFallsLaw" 57 y_MO_law.cls y_MO_law (wsM y_MO_law b_MO_law 4 (some .long))) := good_V mw_1854 mw_1851 mw_1852 mw_1853 mw_16
theorem gs_WardFallsLaw_58 : GoodIn lw_good (wsV "WardFallsLaw" 58 y_WF_rest.cls y_WF_rest (wsM y_WF_rest b_WF_rest 2 (some .int))) := good_V mw_958 mw_955 mw_956 mw_957 mw_1
theorem gs_WardFallsLaw_61 : GoodIn lw_good (wsV "WardFallsLaw" 61 y_MO_rest.cls y_MO_rest (wsM y_MO_rest b_MO_rest 2 (some .int))) := good_V mw_1867 mw_1864 mw_1865 mw_1866 mw_16
theorem gs_WardFallsLaw_62 : GoodIn lw_good (wsV "WardFallsLaw" 62 y_WF_way.cls y_WF_way (wsM y_WF_way b_WF_way 3 (some .int))) := good_V mw_970 mw_967 mw_968 mw_969 mw_1
theorem gs_WardFallsLaw_65 : GoodIn lw_good (wsV "WardFallsLaw" 65 y_MO_way.cls y_MO_way (wsM y_MO_way b_MO_way 6 (some .int))) := good_V mw_1871 mw_1868 mw_1869 mw_1870 mw_16
theorem gs_WardFallsLaw_66 : GoodIn lw_good (wsV "WardFallsLaw" 66 y_WF_falls.cls y_WF_falls (wsM y_WF_falls b_WF_falls 3 (some .int))) := good_V mw_978 mw_975 mw_976 mw_977 mw_1
theorem gs_WardFallsLaw_69 : GoodIn lw_good (wsV "WardFallsLaw" 69 y_MO_falls.cls y_MO_falls (wsM y_MO_falls b_MO_falls 3 (some .int))) := good_V mw_1875 mw_1872 mw_1873 mw_1874 mw_16
theorem gs_WardFallsLaw_70 : GoodIn lw_good (wsV "WardFallsLaw" 70 y_WF_beats.cls y_WF_beats (wsM y_WF_beats b_WF_beats 4 (some .int))) := good_V mw_982 mw_979 mw_980 mw_981 mw_1
theorem gs_WardFallsLaw_73 : GoodIn lw_good (wsV "WardFallsLaw" 73 y_MO_beats.cls y_MO_beats (wsM y_MO_beats b_MO_beats 4 (some .int))) := good_V mw_1879 mw_1876 mw_1877 mw_1878 mw_16
theorem gs_WardFallsLaw_74 : GoodIn lw_good (wsV "WardFallsLaw" 74 y_WF_vote.cls y_WF_vote (wsM y_WF_vote b_WF_vote 3 (some .boolean))) := good_V mw_994 mw_991 mw_992 mw_993 mw_1
theorem gs_WardFallsLaw_78 : GoodIn lw_good (wsV "WardFallsLaw" 78 y_MO_vote.cls y_MO_vote (wsM y_MO_vote b_MO_vote 3 (some .boolean))) := good_V mw_1887 mw_1884 mw_1885 mw_1886 mw_16
theorem gs_WardFallsLaw_79 : GoodIn lw_good (wsV "WardFallsLaw" 79 y_WF_net.cls y_WF_net (wsM y_WF_net b_WF_net 3 (some .boolean))) := good_V mw_1016 mw_1013 mw_1014 mw_1015 mw_1
theorem gs_WardFallsLaw_83 : GoodIn lw_good (wsV "WardFallsLaw" 83 y_MO_net.cls y_MO_net (wsM y_MO_net b_MO_net 3 (some .boolean))) := good_V mw_1910 mw_1907 mw_1908 mw_1909 mw_16
theorem gs_WardFallsLaw_84 : GoodIn lw_good (wsV "WardFallsLaw" 84 y_WF_lay.cls y_WF_lay (wsM y_WF_lay b_WF_lay 3 (some .boolean))) := good_V mw_1020 mw_1017 mw_1018 mw_1019 mw_1
theorem gs_WardFallsLaw_87 : GoodIn lw_good (wsV "WardFallsLaw" 87 y_MO_lay.cls y_MO_lay (wsM y_MO_lay b_MO_lay 3 (some .boolean))) := good_V mw_1914 mw_1911 mw_1912 mw_1913 mw_16
theorem gs_WardFallsLaw_88 : GoodIn lw_good (wsV "WardFallsLaw" 88 y_WF_pour.cls y_WF_pour (wsM y_WF_pour b_WF_pour 5 (some .int))) := good_V mw_1025 mw_1022 mw_1023 mw_1024 mw_1
theorem gs_WardFallsLaw_91 : GoodIn lw_good (wsV "WardFallsLaw" 91 y_MO_pour.cls y_MO_pour (wsM y_MO_pour b_MO_pour 5 (some .int))) := good_V mw_1918 mw_1915 mw_1916 mw_1917 mw_16
theorem gs_WardFallsLaw_92 : GoodIn lw_good (wsV "WardFallsLaw" 92 y_WF_drain.cls y_WF_drain (wsM y_WF_drain b_WF_drain 2 (some .int))) := good_V mw_1031 mw_1028 mw_1029 mw_1030 mw_1
theorem gs_WardFallsLaw_96 : GoodIn lw_good (wsV "WardFallsLaw" 96 y_MO_drain.cls y_MO_drain (wsM y_MO_drain b_MO_drain 2 (some .int))) := good_V mw_1922 mw_1919 mw_1920 mw_1921 mw_16
theorem gs_WardFallsLaw_97 : GoodIn lw_good (wsV "WardFallsLaw" 97 y_WF_flood.cls y_WF_flood (wsM y_WF_flood b_WF_flood 3 (some .long))) := good_V mw_1036 mw_1033 mw_1034 mw_1035 mw_1
theorem hd_Law_cell : y_Law_cell.cls ≠ "java/lang/invoke/MethodHandle" ∧ y_Law_cell.cls ≠ "java/lang/invoke/VarHandle" ∧ (parseMethodDescriptor y_Law_cell.desc).map (fun d => d.parameters.length) = some 4 := by decide +kernel
theorem gs_Law_cell : GoodIn lw_good (va_wsS "WardFallsLaw" 39 y_Law_cell (Cond.codeWith y_Law_cell b_Law_cell 5 (some .int) hh9 :: lw_good)) := good_SH mw_1290 mw_1288 mw_1289 mw_0
theorem inr_L {L : Nat} (hL : L ≤ 3072) : InR (L : Int) := by unfold InR; omega
theorem law_jL {v : Int} {j L : Nat} (hij : v = 6 * (j : Int)) (hL : L ≤ 3072) (h : ¬ w32 ((L : Int) - 6) < v) : 6 * j + 6 ≤ L := by
  rw [w32_id (by unfold InR; omega)] at h
  omega
theorem law_i0 {v : Int} {j L : Nat} (hij : v = 6 * (j : Int)) (hjL : 6 * j + 6 ≤ L) : 0 ≤ v ∧ v < (L : Int) := by omega
theorem law_ix {v : Int} {j L : Nat} (hij : v = 6 * (j : Int)) (hjL : 6 * j + 6 ≤ L) (hL : L ≤ 3072) (k : Int) (h0 : 0 ≤ k) (h5 : k ≤ 5) : 0 ≤ w32 (v + k) ∧ w32 (v + k) < (L : Int) := by
  rw [w32_id (by unfold InR; omega)]
  omega
theorem law_nx {v : Int} {j L : Nat} (hij : v = 6 * (j : Int)) (hjL : 6 * j + 6 ≤ L) (hL : L ≤ 3072) : w32 (v + 6) = 6 * ((j + 1 : Nat) : Int) := by
  rw [w32_id (by unfold InR; omega)]
  omega
theorem law_cs {cells slots j : Nat} (h : cells ≤ 233 + j ∧ slots ≤ 11936 + 6 * j) : cells ≤ 232 + (j + 1) ∧ slots ≤ 11930 + 6 * (j + 1) := by omega
theorem law_rc {cells slots j L : Nat} (h : cells ≤ 233 + j ∧ slots ≤ 11936 + 6 * j) (hjL : 6 * j + 6 ≤ L) (hL : L ≤ 3072) : cells ≤ room_1.cells ∧ slots ≤ room_1.slots := ⟨show cells ≤ 601024 by omega, show slots ≤ 7293034 by omega⟩
theorem law_rc1 {cells slots j L : Nat} (h : cells ≤ 233 + j ∧ slots ≤ 11936 + 6 * j) (hjL : 6 * j + 6 ≤ L) (hL : L ≤ 3072) : cells + 1 ≤ room_1.cells ∧ slots + 6 ≤ room_1.slots := ⟨show cells + 1 ≤ 601024 by omega, show slots + 6 ≤ 7293034 by omega⟩
theorem law_ret {p : Program} {l : Launch} {e : Env} {s : State} {m : MethodId} {below : List Frame} {meth : Method} {c : Code} {b scr cells slots j : Nat} {C : CT} {M : Mem} {H : Heap} {locs : List Loc} {pc : Nat} {ls : Array Slot} (F : Cx b p m c b_Law_law 7 s ([.ref scr] : List Value).toArray "WardFallsLaw" C 232 232) (hr : meth.sig.returnType = ret) (hlk : meth.locks = false) (hS : St b C 232 M s H locs) (hb : b = s.heap.size) (hcs : cells ≤ 232 + j ∧ slots ≤ 11930 + 6 * j) (hj : j ≤ 512) (hdg : decode b_Law_law pc = .ok (.ireturn, 1)) : W p l e room_1 s m #[Value.ref scr] below meth c H locs cells slots (lw_Z below #[Value.ref scr] s) (F0 m pc ls [vI 1]) := by
  subst hb
  refine W.widen (k := 601024) (n := 7293034) (by omega) (by omega) ?_
  refine va_forget (fun q hq => hS.2.2.2.2.2.2 q hq) ?_
  rw [show vI 1 = Value.int 1 from rfl]
  exact lw_ret F.hx F.hb hr hlk hdg
def t_Law_law_L1540 (xs : Nat → Int32) (L : Nat) (bk23 : Mem → Int → Option Int) (M : Mem) (v4_ : Int) : Option Int := (bk23 M (w32 (v4_ + 6)))
def t_Law_law_L220 (xs : Nat → Int32) (L : Nat) (bk23 : Mem → Int → Option Int) (M : Mem) (v4_ : Int) : Option Int := (obind (t_WF_feed M (xs ((w32 (v4_ + 1))).toNat).toInt (xs ((w32 (v4_ + 2))).toNat).toInt (xs ((w32 (v4_ + 3))).toNat).toInt (xs ((w32 (v4_ + 4))).toNat).toInt (xs ((w32 (v4_ + 5))).toNat).toInt) fun q43 => (obind (t_MO_feed (q43.1) (xs ((w32 (v4_ + 1))).toNat).toInt (xs ((w32 (v4_ + 2))).toNat).toInt (xs ((w32 (v4_ + 3))).toNat).toInt (xs ((w32 (v4_ + 4))).toNat).toInt (xs ((w32 (v4_ + 5))).toNat).toInt) fun q45 => (t_Law_law_L1540 xs L bk23 (q45.1) v4_)))
def t_Law_law_L293 (xs : Nat → Int32) (L : Nat) (bk23 : Mem → Int → Option Int) (M : Mem) (v4_ : Int) : Option Int := (obind (t_WF_text M (xs ((w32 (v4_ + 1))).toNat).toInt) fun q47 => (obind (t_MO_text (q47.1) (xs ((w32 (v4_ + 1))).toNat).toInt) fun q49 => (t_Law_law_L1540 xs L bk23 (q49.1) v4_)))
def t_Law_law_L318 (xs : Nat → Int32) (L : Nat) (bk23 : Mem → Int → Option Int) (M : Mem) (v4_ : Int) : Option Int := (qlet (t_WF_fault M (xs ((w32 (v4_ + 1))).toNat).toInt) fun q51 => (qlet (t_MO_fault M (xs ((w32 (v4_ + 1))).toNat).toInt) fun q53 => (t_Law_law_L1540 xs L bk23 (q53.1) v4_)))
def t_Law_law_L343 (xs : Nat → Int32) (L : Nat) (bk23 : Mem → Int → Option Int) (M : Mem) (v4_ : Int) : Option Int := (obind (t_WF_named M (xs ((w32 (v4_ + 1))).toNat).toInt (xs ((w32 (v4_ + 2))).toNat).toInt) fun q55 => (obind (t_MO_named M (xs ((w32 (v4_ + 1))).toNat).toInt (xs ((w32 (v4_ + 2))).toNat).toInt) fun q57 => (t_Law_law_L1540 xs L bk23 (q57.1) v4_)))
def t_Law_law_L380 (xs : Nat → Int32) (L : Nat) (bk23 : Mem → Int → Option Int) (M : Mem) (v4_ : Int) : Option Int := (obind (t_Law_cell M (xs ((w32 (v4_ + 1))).toNat).toInt (xs ((w32 (v4_ + 2))).toNat).toInt) fun q59 => (obind (t_MO_cell (q59.1) (xs ((w32 (v4_ + 1))).toNat).toInt (xs ((w32 (v4_ + 2))).toNat).toInt) fun q61 => (t_Law_law_L1540 xs L bk23 (q61.1) v4_)))
def t_Law_law_L420 (xs : Nat → Int32) (L : Nat) (bk23 : Mem → Int → Option Int) (M : Mem) (v4_ : Int) : Option Int := (obind (t_WF_ward M (xs ((w32 (v4_ + 1))).toNat).toInt (xs ((w32 (v4_ + 2))).toNat).toInt) fun q63 => (obind (t_MO_ward (q63.1) (xs ((w32 (v4_ + 1))).toNat).toInt (xs ((w32 (v4_ + 2))).toNat).toInt) fun q65 => (t_Law_law_L1540 xs L bk23 (q65.1) v4_)))
def t_Law_law_L457 (xs : Nat → Int32) (L : Nat) (bk23 : Mem → Int → Option Int) (M : Mem) (v4_ : Int) : Option Int := (qlet (t_WF_thing M (xs ((w32 (v4_ + 1))).toNat).toInt (xs ((w32 (v4_ + 2))).toNat).toInt) fun q67 => (obind (t_MO_thing M (xs ((w32 (v4_ + 1))).toNat).toInt (xs ((w32 (v4_ + 2))).toNat).toInt) fun q69 => (t_Law_law_L1540 xs L bk23 (q69.1) v4_)))
def t_Law_law_L494 (xs : Nat → Int32) (L : Nat) (bk23 : Mem → Int → Option Int) (M : Mem) (v4_ : Int) : Option Int := (obind (t_WF_law M (xs ((w32 (v4_ + 1))).toNat).toInt (xs ((w32 (v4_ + 2))).toNat).toInt (xs ((w32 (v4_ + 3))).toNat).toInt) fun q71 => (obind (t_MO_law (q71.1) (xs ((w32 (v4_ + 1))).toNat).toInt (xs ((w32 (v4_ + 2))).toNat).toInt (xs ((w32 (v4_ + 3))).toNat).toInt) fun q73 => (t_Law_law_L1540 xs L bk23 (q73.1) v4_)))
def t_Law_law_L543 (xs : Nat → Int32) (L : Nat) (bk23 : Mem → Int → Option Int) (M : Mem) (v4_ : Int) : Option Int := (obind (t_WF_rest M (xs ((w32 (v4_ + 1))).toNat).toInt) fun q75 => (obind (t_MO_rest (q75.1) (xs ((w32 (v4_ + 1))).toNat).toInt) fun q77 => (t_Law_law_L1540 xs L bk23 (q77.1) v4_)))
def t_Law_law_L568 (xs : Nat → Int32) (L : Nat) (bk23 : Mem → Int → Option Int) (M : Mem) (v4_ : Int) : Option Int := (obind (t_WF_way M (xs ((w32 (v4_ + 1))).toNat).toInt (xs ((w32 (v4_ + 2))).toNat).toInt) fun q79 => (obind (t_MO_way (q79.1) (xs ((w32 (v4_ + 1))).toNat).toInt (xs ((w32 (v4_ + 2))).toNat).toInt) fun q81 => (t_Law_law_L1540 xs L bk23 (q81.1) v4_)))
def t_Law_law_L605 (xs : Nat → Int32) (L : Nat) (bk23 : Mem → Int → Option Int) (M : Mem) (v4_ : Int) : Option Int := (obind (t_WF_falls M (xs ((w32 (v4_ + 1))).toNat).toInt (xs ((w32 (v4_ + 2))).toNat).toInt) fun q83 => (obind (t_MO_falls (q83.1) (xs ((w32 (v4_ + 1))).toNat).toInt (xs ((w32 (v4_ + 2))).toNat).toInt) fun q85 => (t_Law_law_L1540 xs L bk23 (q85.1) v4_)))
def t_Law_law_L642 (xs : Nat → Int32) (L : Nat) (bk23 : Mem → Int → Option Int) (M : Mem) (v4_ : Int) : Option Int := (obind (t_WF_beats M (xs ((w32 (v4_ + 1))).toNat).toInt) fun q87 => (obind (t_MO_beats (q87.1) (xs ((w32 (v4_ + 1))).toNat).toInt) fun q89 => (t_Law_law_L1540 xs L bk23 (q89.1) v4_)))
def t_Law_law_L667 (xs : Nat → Int32) (L : Nat) (bk23 : Mem → Int → Option Int) (M : Mem) (v4_ : Int) : Option Int := (obind (t_WF_vote M (xs ((w32 (v4_ + 1))).toNat).toInt (xs ((w32 (v4_ + 2))).toNat).toInt) fun q91 => (obind (t_MO_vote (q91.1) (xs ((w32 (v4_ + 1))).toNat).toInt (xs ((w32 (v4_ + 2))).toNat).toInt) fun q93 => (t_Law_law_L1540 xs L bk23 (q93.1) v4_)))
def t_Law_law_L750 (xs : Nat → Int32) (L : Nat) (bk23 : Mem → Int → Option Int) (M : Mem) (v4_ : Int) (v6_ : Int) (v7_ : Int) : Option Int := (obind (t_MO_net M v6_ v7_) fun q208 => (t_Law_law_L1540 xs L bk23 (q208.1) v4_))
def t_Law_law_L725 (xs : Nat → Int32) (L : Nat) (bk23 : Mem → Int → Option Int) (M : Mem) (v4_ : Int) (v6_ : Int) (v7_ : Int) : Option Int := (qlet (t_WF_net M v6_ v7_) fun q205 => (if (xs ((w32 (v4_ + 2))).toNat).toInt = 0 then (t_Law_law_L750 xs L bk23 (q205.1) v4_ (xs ((w32 (v4_ + 1))).toNat).toInt 0) else (t_Law_law_L750 xs L bk23 (q205.1) v4_ (xs ((w32 (v4_ + 1))).toNat).toInt 1)))
def t_Law_law_L704 (xs : Nat → Int32) (L : Nat) (bk23 : Mem → Int → Option Int) (M : Mem) (v4_ : Int) : Option Int := (if (xs ((w32 (v4_ + 2))).toNat).toInt = 0 then (t_Law_law_L725 xs L bk23 M v4_ (xs ((w32 (v4_ + 1))).toNat).toInt 0) else (t_Law_law_L725 xs L bk23 M v4_ (xs ((w32 (v4_ + 1))).toNat).toInt 1))
def t_Law_law_L757 (xs : Nat → Int32) (L : Nat) (bk23 : Mem → Int → Option Int) (M : Mem) (v4_ : Int) : Option Int := (obind (t_WF_lay M (xs ((w32 (v4_ + 1))).toNat).toInt (xs ((w32 (v4_ + 2))).toNat).toInt) fun q96 => (obind (t_MO_lay (q96.1) (xs ((w32 (v4_ + 1))).toNat).toInt (xs ((w32 (v4_ + 2))).toNat).toInt) fun q98 => (t_Law_law_L1540 xs L bk23 (q98.1) v4_)))
def t_Law_law_L794 (xs : Nat → Int32) (L : Nat) (bk23 : Mem → Int → Option Int) (M : Mem) (v4_ : Int) : Option Int := (obind (t_WF_pour M (xs ((w32 (v4_ + 1))).toNat).toInt (xs ((w32 (v4_ + 2))).toNat).toInt) fun q100 => (obind (t_MO_pour (q100.1) (xs ((w32 (v4_ + 1))).toNat).toInt (xs ((w32 (v4_ + 2))).toNat).toInt) fun q102 => (t_Law_law_L1540 xs L bk23 (q102.1) v4_)))
def t_Law_law_L831 (xs : Nat → Int32) (L : Nat) (bk23 : Mem → Int → Option Int) (M : Mem) (v4_ : Int) : Option Int := (qlet (t_WF_drain M) fun q104 => (obind (t_MO_drain (q104.1)) fun q106 => (t_Law_law_L1540 xs L bk23 (q106.1) v4_)))
def t_Law_law_L844 (xs : Nat → Int32) (L : Nat) (bk23 : Mem → Int → Option Int) (M : Mem) (v4_ : Int) : Option Int := (obind (t_WF_flood M (xs ((w32 (v4_ + 1))).toNat).toInt (xs ((w32 (v4_ + 2))).toNat).toInt) fun q108 => (obind (t_MO_flood (q108.1) (xs ((w32 (v4_ + 1))).toNat).toInt (xs ((w32 (v4_ + 2))).toNat).toInt) fun q110 => (t_Law_law_L1540 xs L bk23 (q110.1) v4_)))
def t_Law_law_L881 (xs : Nat → Int32) (L : Nat) (bk23 : Mem → Int → Option Int) (M : Mem) (v4_ : Int) : Option Int := (obind (t_WF_walk M (xs ((w32 (v4_ + 1))).toNat).toInt (xs ((w32 (v4_ + 2))).toNat).toInt) fun q112 => (obind (t_MO_walk (q112.1) (xs ((w32 (v4_ + 1))).toNat).toInt (xs ((w32 (v4_ + 2))).toNat).toInt) fun q114 => (t_Law_law_L1540 xs L bk23 (q114.1) v4_)))
def t_Law_law_L918 (xs : Nat → Int32) (L : Nat) (bk23 : Mem → Int → Option Int) (M : Mem) (v4_ : Int) : Option Int := (obind (t_WF_step M (xs ((w32 (v4_ + 1))).toNat).toInt (xs ((w32 (v4_ + 2))).toNat).toInt (xs ((w32 (v4_ + 3))).toNat).toInt) fun q116 => (obind (t_MO_step (q116.1) (xs ((w32 (v4_ + 1))).toNat).toInt (xs ((w32 (v4_ + 2))).toNat).toInt (xs ((w32 (v4_ + 3))).toNat).toInt) fun q118 => (t_Law_law_L1540 xs L bk23 (q118.1) v4_)))
def t_Law_law_L967 (xs : Nat → Int32) (L : Nat) (bk23 : Mem → Int → Option Int) (M : Mem) (v4_ : Int) : Option Int := (obind (t_WF_push M (xs ((w32 (v4_ + 1))).toNat).toInt (xs ((w32 (v4_ + 2))).toNat).toInt (xs ((w32 (v4_ + 3))).toNat).toInt) fun q120 => (obind (t_MO_push (q120.1) (xs ((w32 (v4_ + 1))).toNat).toInt (xs ((w32 (v4_ + 2))).toNat).toInt (xs ((w32 (v4_ + 3))).toNat).toInt) fun q122 => (t_Law_law_L1540 xs L bk23 (q122.1) v4_)))
def t_Law_law_L1016 (xs : Nat → Int32) (L : Nat) (bk23 : Mem → Int → Option Int) (M : Mem) (v4_ : Int) : Option Int := (obind (t_WF_pushed M (xs ((w32 (v4_ + 1))).toNat).toInt (xs ((w32 (v4_ + 2))).toNat).toInt (xs ((w32 (v4_ + 3))).toNat).toInt) fun q124 => (obind (t_MO_pushed (q124.1) (xs ((w32 (v4_ + 1))).toNat).toInt (xs ((w32 (v4_ + 2))).toNat).toInt (xs ((w32 (v4_ + 3))).toNat).toInt) fun q126 => (t_Law_law_L1540 xs L bk23 (q126.1) v4_)))
def t_Law_law_L1065 (xs : Nat → Int32) (L : Nat) (bk23 : Mem → Int → Option Int) (M : Mem) (v4_ : Int) : Option Int := (obind (t_WF_war M (xs ((w32 (v4_ + 1))).toNat).toInt (xs ((w32 (v4_ + 2))).toNat).toInt) fun q128 => (obind (t_MO_war (q128.1) (xs ((w32 (v4_ + 1))).toNat).toInt (xs ((w32 (v4_ + 2))).toNat).toInt) fun q130 => (t_Law_law_L1540 xs L bk23 (q130.1) v4_)))
def t_Law_law_L1102 (xs : Nat → Int32) (L : Nat) (bk23 : Mem → Int → Option Int) (M : Mem) (v4_ : Int) : Option Int := (obind (t_WF_nets M) fun q132 => (obind (t_MO_nets M) fun q134 => (t_Law_law_L1540 xs L bk23 (q134.1) v4_)))
def t_Law_law_L1115 (xs : Nat → Int32) (L : Nat) (bk23 : Mem → Int → Option Int) (M : Mem) (v4_ : Int) : Option Int := (obind (t_WF_clock M (xs ((w32 (v4_ + 1))).toNat).toInt) fun q136 => (obind (t_MO_clock (q136.1) (xs ((w32 (v4_ + 1))).toNat).toInt) fun q138 => (t_Law_law_L1540 xs L bk23 (q138.1) v4_)))
def t_Law_law_L1140 (xs : Nat → Int32) (L : Nat) (bk23 : Mem → Int → Option Int) (M : Mem) (v4_ : Int) : Option Int := (obind (t_WF_stays M) fun q140 => (obind (t_MO_stays (q140.1)) fun q142 => (t_Law_law_L1540 xs L bk23 (q142.1) v4_)))
def t_Law_law_L1153 (xs : Nat → Int32) (L : Nat) (bk23 : Mem → Int → Option Int) (M : Mem) (v4_ : Int) : Option Int := (obind (t_WF_stay M (xs ((w32 (v4_ + 1))).toNat).toInt) fun q144 => (obind (t_MO_stay (q144.1) (xs ((w32 (v4_ + 1))).toNat).toInt) fun q146 => (t_Law_law_L1540 xs L bk23 (q146.1) v4_)))
def t_Law_law_L1178 (xs : Nat → Int32) (L : Nat) (bk23 : Mem → Int → Option Int) (M : Mem) (v4_ : Int) : Option Int := (obind (t_WF_treaty M (xs ((w32 (v4_ + 1))).toNat).toInt) fun q148 => (obind (t_MO_treaty (q148.1) (xs ((w32 (v4_ + 1))).toNat).toInt) fun q150 => (t_Law_law_L1540 xs L bk23 (q150.1) v4_)))
def t_Law_law_L1203 (xs : Nat → Int32) (L : Nat) (bk23 : Mem → Int → Option Int) (M : Mem) (v4_ : Int) : Option Int := (obind (t_WF_moves M (xs ((w32 (v4_ + 1))).toNat).toInt (xs ((w32 (v4_ + 2))).toNat).toInt) fun q152 => (obind (t_MO_moves (q152.1) (xs ((w32 (v4_ + 1))).toNat).toInt (xs ((w32 (v4_ + 2))).toNat).toInt) fun q154 => (t_Law_law_L1540 xs L bk23 (q154.1) v4_)))
def t_Law_law_L1240 (xs : Nat → Int32) (L : Nat) (bk23 : Mem → Int → Option Int) (M : Mem) (v4_ : Int) : Option Int := (qlet (t_WF_note M (xs ((w32 (v4_ + 1))).toNat).toInt (xs ((w32 (v4_ + 2))).toNat).toInt) fun q156 => (obind (t_MO_note (q156.1) (xs ((w32 (v4_ + 1))).toNat).toInt (xs ((w32 (v4_ + 2))).toNat).toInt) fun q158 => (t_Law_law_L1540 xs L bk23 (q158.1) v4_)))
def t_Law_law_L1277 (xs : Nat → Int32) (L : Nat) (bk23 : Mem → Int → Option Int) (M : Mem) (v4_ : Int) : Option Int := (qlet (t_WF_strike M (xs ((w32 (v4_ + 1))).toNat).toInt) fun q160 => (obind (t_MO_strike (q160.1) (xs ((w32 (v4_ + 1))).toNat).toInt) fun q162 => (t_Law_law_L1540 xs L bk23 (q162.1) v4_)))
def t_Law_law_L1302 (xs : Nat → Int32) (L : Nat) (bk23 : Mem → Int → Option Int) (M : Mem) (v4_ : Int) : Option Int := (qlet (t_WF_known M (xs ((w32 (v4_ + 1))).toNat).toInt) fun q164 => (qlet (t_MO_known (q164.1) (xs ((w32 (v4_ + 1))).toNat).toInt) fun q166 => (t_Law_law_L1540 xs L bk23 (q166.1) v4_)))
def t_Law_law_L1327 (xs : Nat → Int32) (L : Nat) (bk23 : Mem → Int → Option Int) (M : Mem) (v4_ : Int) : Option Int := (obind (t_WF_fits M) fun q168 => (obind (t_MO_fits (q168.1)) fun q170 => (t_Law_law_L1540 xs L bk23 (q170.1) v4_)))
def t_Law_law_L1340 (xs : Nat → Int32) (L : Nat) (bk23 : Mem → Int → Option Int) (M : Mem) (v4_ : Int) : Option Int := (obind (t_WF_may M (xs ((w32 (v4_ + 1))).toNat).toInt) fun q172 => (obind (t_MO_may (q172.1) (xs ((w32 (v4_ + 1))).toNat).toInt) fun q174 => (t_Law_law_L1540 xs L bk23 (q174.1) v4_)))
def t_Law_law_L1365 (xs : Nat → Int32) (L : Nat) (bk23 : Mem → Int → Option Int) (M : Mem) (v4_ : Int) : Option Int := (obind (t_WF_years M (xs ((w32 (v4_ + 1))).toNat).toInt) fun q176 => (obind (t_MO_years (q176.1) (xs ((w32 (v4_ + 1))).toNat).toInt) fun q178 => (t_Law_law_L1540 xs L bk23 (q178.1) v4_)))
def t_Law_law_L1390 (xs : Nat → Int32) (L : Nat) (bk23 : Mem → Int → Option Int) (M : Mem) (v4_ : Int) : Option Int := (qlet (t_WF_voted M (xs ((w32 (v4_ + 1))).toNat).toInt (xs ((w32 (v4_ + 2))).toNat).toInt) fun q180 => (obind (t_MO_voted M (xs ((w32 (v4_ + 1))).toNat).toInt (xs ((w32 (v4_ + 2))).toNat).toInt) fun q182 => (t_Law_law_L1540 xs L bk23 (q182.1) v4_)))
def t_Law_law_L1427 (xs : Nat → Int32) (L : Nat) (bk23 : Mem → Int → Option Int) (M : Mem) (v4_ : Int) : Option Int := (obind (t_WF_tried M (xs ((w32 (v4_ + 1))).toNat).toInt (xs ((w32 (v4_ + 2))).toNat).toInt (xs ((w32 (v4_ + 3))).toNat).toInt) fun q184 => (obind (t_MO_tried (q184.1) (xs ((w32 (v4_ + 1))).toNat).toInt (xs ((w32 (v4_ + 2))).toNat).toInt (xs ((w32 (v4_ + 3))).toNat).toInt) fun q186 => (t_Law_law_L1540 xs L bk23 (q186.1) v4_)))
def t_Law_law_L1476 (xs : Nat → Int32) (L : Nat) (bk23 : Mem → Int → Option Int) (M : Mem) (v4_ : Int) : Option Int := (qlet (t_WF_undo M) fun q188 => (obind (t_MO_undo (q188.1)) fun q190 => (t_Law_law_L1540 xs L bk23 (q190.1) v4_)))
def t_Law_law_L1489 (xs : Nat → Int32) (L : Nat) (bk23 : Mem → Int → Option Int) (M : Mem) (v4_ : Int) : Option Int := (qlet (t_WF_keep M) fun q192 => (obind (t_MO_keep (q192.1)) fun q194 => (t_Law_law_L1540 xs L bk23 (q194.1) v4_)))
def t_Law_law_L1502 (xs : Nat → Int32) (L : Nat) (bk23 : Mem → Int → Option Int) (M : Mem) (v4_ : Int) : Option Int := (qlet (t_WF_back M) fun q196 => (obind (t_MO_back (q196.1)) fun q198 => (t_Law_law_L1540 xs L bk23 (q198.1) v4_)))
def t_Law_law_L1515 (xs : Nat → Int32) (L : Nat) (bk23 : Mem → Int → Option Int) (M : Mem) (v4_ : Int) : Option Int := (obind (t_WF_count M (xs ((w32 (v4_ + 1))).toNat).toInt) fun q200 => (obind (t_MO_count M (xs ((w32 (v4_ + 1))).toNat).toInt) fun q202 => (if q200 = (q202.2) then (t_Law_law_L1540 xs L bk23 (q202.1) v4_) else (some (0 : Int)))))
def t_Law_law_L23 (xs : Nat → Int32) (L : Nat) : Nat → Mem → Int → Option Int
  | 0, _, _ => none
  | fu + 1, M, v4_ => (if (w32 ((L : Int) - 6)) < v4_ then (some (1 : Int)) else (if (q_and (xs (v4_).toNat).toInt 63) = 0 then (t_Law_law_L220 xs L (fun a0_ a1_ => t_Law_law_L23 xs L fu a0_ a1_) M v4_) else (if (q_and (xs (v4_).toNat).toInt 63) = 1 then (t_Law_law_L293 xs L (fun a0_ a1_ => t_Law_law_L23 xs L fu a0_ a1_) M v4_) else (if (q_and (xs (v4_).toNat).toInt 63) = 2 then (t_Law_law_L318 xs L (fun a0_ a1_ => t_Law_law_L23 xs L fu a0_ a1_) M v4_) else (if (q_and (xs (v4_).toNat).toInt 63) = 3 then (t_Law_law_L343 xs L (fun a0_ a1_ => t_Law_law_L23 xs L fu a0_ a1_) M v4_) else (if (q_and (xs (v4_).toNat).toInt 63) = 4 then (t_Law_law_L380 xs L (fun a0_ a1_ => t_Law_law_L23 xs L fu a0_ a1_) M v4_) else (if (q_and (xs (v4_).toNat).toInt 63) = 5 then (t_Law_law_L420 xs L (fun a0_ a1_ => t_Law_law_L23 xs L fu a0_ a1_) M v4_) else (if (q_and (xs (v4_).toNat).toInt 63) = 6 then (t_Law_law_L457 xs L (fun a0_ a1_ => t_Law_law_L23 xs L fu a0_ a1_) M v4_) else (if (q_and (xs (v4_).toNat).toInt 63) = 7 then (t_Law_law_L494 xs L (fun a0_ a1_ => t_Law_law_L23 xs L fu a0_ a1_) M v4_) else (if (q_and (xs (v4_).toNat).toInt 63) = 8 then (t_Law_law_L543 xs L (fun a0_ a1_ => t_Law_law_L23 xs L fu a0_ a1_) M v4_) else (if (q_and (xs (v4_).toNat).toInt 63) = 9 then (t_Law_law_L568 xs L (fun a0_ a1_ => t_Law_law_L23 xs L fu a0_ a1_) M v4_) else (if (q_and (xs (v4_).toNat).toInt 63) = 10 then (t_Law_law_L605 xs L (fun a0_ a1_ => t_Law_law_L23 xs L fu a0_ a1_) M v4_) else (if (q_and (xs (v4_).toNat).toInt 63) = 11 then (t_Law_law_L642 xs L (fun a0_ a1_ => t_Law_law_L23 xs L fu a0_ a1_) M v4_) else (if (q_and (xs (v4_).toNat).toInt 63) = 12 then (t_Law_law_L667 xs L (fun a0_ a1_ => t_Law_law_L23 xs L fu a0_ a1_) M v4_) else (if (q_and (xs (v4_).toNat).toInt 63) = 13 then (t_Law_law_L704 xs L (fun a0_ a1_ => t_Law_law_L23 xs L fu a0_ a1_) M v4_) else (if (q_and (xs (v4_).toNat).toInt 63) = 14 then (t_Law_law_L757 xs L (fun a0_ a1_ => t_Law_law_L23 xs L fu a0_ a1_) M v4_) else (if (q_and (xs (v4_).toNat).toInt 63) = 15 then (t_Law_law_L794 xs L (fun a0_ a1_ => t_Law_law_L23 xs L fu a0_ a1_) M v4_) else (if (q_and (xs (v4_).toNat).toInt 63) = 16 then (t_Law_law_L831 xs L (fun a0_ a1_ => t_Law_law_L23 xs L fu a0_ a1_) M v4_) else (if (q_and (xs (v4_).toNat).toInt 63) = 17 then (t_Law_law_L844 xs L (fun a0_ a1_ => t_Law_law_L23 xs L fu a0_ a1_) M v4_) else (if (q_and (xs (v4_).toNat).toInt 63) = 18 then (t_Law_law_L881 xs L (fun a0_ a1_ => t_Law_law_L23 xs L fu a0_ a1_) M v4_) else (if (q_and (xs (v4_).toNat).toInt 63) = 19 then (t_Law_law_L918 xs L (fun a0_ a1_ => t_Law_law_L23 xs L fu a0_ a1_) M v4_) else (if (q_and (xs (v4_).toNat).toInt 63) = 20 then (t_Law_law_L967 xs L (fun a0_ a1_ => t_Law_law_L23 xs L fu a0_ a1_) M v4_) else (if (q_and (xs (v4_).toNat).toInt 63) = 21 then (t_Law_law_L1016 xs L (fun a0_ a1_ => t_Law_law_L23 xs L fu a0_ a1_) M v4_) else (if (q_and (xs (v4_).toNat).toInt 63) = 22 then (t_Law_law_L1065 xs L (fun a0_ a1_ => t_Law_law_L23 xs L fu a0_ a1_) M v4_) else (if (q_and (xs (v4_).toNat).toInt 63) = 23 then (t_Law_law_L1102 xs L (fun a0_ a1_ => t_Law_law_L23 xs L fu a0_ a1_) M v4_) else (if (q_and (xs (v4_).toNat).toInt 63) = 24 then (t_Law_law_L1115 xs L (fun a0_ a1_ => t_Law_law_L23 xs L fu a0_ a1_) M v4_) else (if (q_and (xs (v4_).toNat).toInt 63) = 25 then (t_Law_law_L1140 xs L (fun a0_ a1_ => t_Law_law_L23 xs L fu a0_ a1_) M v4_) else (if (q_and (xs (v4_).toNat).toInt 63) = 26 then (t_Law_law_L1153 xs L (fun a0_ a1_ => t_Law_law_L23 xs L fu a0_ a1_) M v4_) else (if (q_and (xs (v4_).toNat).toInt 63) = 27 then (t_Law_law_L1178 xs L (fun a0_ a1_ => t_Law_law_L23 xs L fu a0_ a1_) M v4_) else (if (q_and (xs (v4_).toNat).toInt 63) = 28 then (t_Law_law_L1203 xs L (fun a0_ a1_ => t_Law_law_L23 xs L fu a0_ a1_) M v4_) else (if (q_and (xs (v4_).toNat).toInt 63) = 29 then (t_Law_law_L1240 xs L (fun a0_ a1_ => t_Law_law_L23 xs L fu a0_ a1_) M v4_) else (if (q_and (xs (v4_).toNat).toInt 63) = 30 then (t_Law_law_L1277 xs L (fun a0_ a1_ => t_Law_law_L23 xs L fu a0_ a1_) M v4_) else (if (q_and (xs (v4_).toNat).toInt 63) = 31 then (t_Law_law_L1302 xs L (fun a0_ a1_ => t_Law_law_L23 xs L fu a0_ a1_) M v4_) else (if (q_and (xs (v4_).toNat).toInt 63) = 32 then (t_Law_law_L1327 xs L (fun a0_ a1_ => t_Law_law_L23 xs L fu a0_ a1_) M v4_) else (if (q_and (xs (v4_).toNat).toInt 63) = 33 then (t_Law_law_L1340 xs L (fun a0_ a1_ => t_Law_law_L23 xs L fu a0_ a1_) M v4_) else (if (q_and (xs (v4_).toNat).toInt 63) = 34 then (t_Law_law_L1365 xs L (fun a0_ a1_ => t_Law_law_L23 xs L fu a0_ a1_) M v4_) else (if (q_and (xs (v4_).toNat).toInt 63) = 35 then (t_Law_law_L1390 xs L (fun a0_ a1_ => t_Law_law_L23 xs L fu a0_ a1_) M v4_) else (if (q_and (xs (v4_).toNat).toInt 63) = 36 then (t_Law_law_L1427 xs L (fun a0_ a1_ => t_Law_law_L23 xs L fu a0_ a1_) M v4_) else (if (q_and (xs (v4_).toNat).toInt 63) = 37 then (t_Law_law_L1476 xs L (fun a0_ a1_ => t_Law_law_L23 xs L fu a0_ a1_) M v4_) else (if (q_and (xs (v4_).toNat).toInt 63) = 38 then (t_Law_law_L1489 xs L (fun a0_ a1_ => t_Law_law_L23 xs L fu a0_ a1_) M v4_) else (if (q_and (xs (v4_).toNat).toInt 63) = 39 then (t_Law_law_L1502 xs L (fun a0_ a1_ => t_Law_law_L23 xs L fu a0_ a1_) M v4_) else (if (q_and (xs (v4_).toNat).toInt 63) = 40 then (t_Law_law_L1515 xs L (fun a0_ a1_ => t_Law_law_L23 xs L fu a0_ a1_) M v4_) else (t_Law_law_L1540 xs L (fun a0_ a1_ => t_Law_law_L23 xs L fu a0_ a1_) M v4_)))))))))))))))))))))))))))))))))))))))))))
set_option maxHeartbeats 16000000 in
set_option maxRecDepth 100000 in
theorem k_Law_law_L1540 (l : Launch) (hlf : l.stackTraces = false) {p : Program} {e : Env} {s : State} {m : MethodId} {below : List Frame} {meth : Method} {c : Code} {b : Nat} {C : CT} {scr L : Nat} {xs : Nat → Int32} (hL : L ≤ 3072) (F : Cx b p m c b_Law_law 7 s ([.ref scr] : List Value).toArray "WardFallsLaw" C 232 232) (hX : EX b s) (hXs : va_X scr L xs s s.heap) (hsl : scr < s.heap.size) (hb : b = s.heap.size) (hlk : meth.locks = false) (hr : meth.sig.returnType = ret) (bk23 : Mem → Int → Option Int) (j : Nat) (hjL : 6 * j + 6 ≤ L) (hbk23 : ∀ (M : Mem) (v4_ : Int) (hv4_ : InR v4_) (hij : v4_ = 6 * ((j + 1 : Nat) : Int)) (cells slots : Nat) (hcs : cells ≤ 232 + (j + 1) ∧ slots ≤ 11930 + 6 * (j + 1)) (H : Heap) (locs : List Loc) (ls : Array Slot), St b C 232 M s H locs → lv_has ls 7 [(0, .ref scr), (1, .ref (b + 0)), (2, .ref (b + 191)), (3, .ref (b + 231)), (4, vI v4_)] → bk23 M v4_ = some 1 → W p l e room_1 s m #[Value.ref scr] below meth c H locs cells slots (lw_Z below #[Value.ref scr] s) (F0 m 23 ls [])) (M : Mem) (v4_ : Int) (hv4_ : InR v4_) (hij : v4_ = 6 * (j : Int)) (cells slots : Nat) (hcs1 : cells ≤ 233 + j ∧ slots ≤ 11936 + 6 * j) (H : Heap) (locs : List Loc) (ls : Array Slot) (hS : St b C 232 M s H locs) (hl : lv_has ls 7 [(0, .ref scr), (1, .ref (b + 0)), (2, .ref (b + 191)), (3, .ref (b + 231)), (4, vI v4_)]) (hT : t_Law_law_L1540 xs L bk23 M v4_ = some 1) : W p l e room_1 s m #[Value.ref scr] below meth c H locs cells slots (lw_Z below #[Value.ref scr] s) (F0 m 1540 ls []) := by
  unfold t_Law_law_L1540 at hT
  refine lv_iinc (v := Int32.ofInt (w32 (v4_ + 6))) (lv' := [(4, vI (w32 (v4_ + 6))), (0, .ref scr), (1, .ref (b + 0)), (2, .ref (b + 191)), (3, .ref (b + 231))]) F.hx F.hb d_Law_law_1540 hl (k := 4) rfl (q_of_add _ _) (Nat.le_of_ble_eq_true rfl) rfl (fun ls hl => ?_)
  refine lv_goto (tgt := 23) F.hx F.hb d_Law_law_1543 (by decide) ?_
  exact hbk23 M (w32 (v4_ + 6)) (inr_w32 _) (law_nx hij hjL hL) _ _ (law_cs hcs1) _ _ _ hS (lv_sub hl [1, 2, 3, 4, 0] rfl) hT
set_option maxHeartbeats 16000000 in
set_option maxRecDepth 100000 in
theorem k_Law_law_L220 (l : Launch) (hlf : l.stackTraces = false) {p : Program} {e : Env} {s : State} {m : MethodId} {below : List Frame} {meth : Method} {c : Code} {b : Nat} {C : CT} {scr L : Nat} {xs : Nat → Int32} (hL : L ≤ 3072) (F : Cx b p m c b_Law_law 7 s ([.ref scr] : List Value).toArray "WardFallsLaw" C 232 232) (hX : EX b s) (hXs : va_X scr L xs s s.heap) (hsl : scr < s.heap.size) (hb : b = s.heap.size) (hlk : meth.locks = false) (hr : meth.sig.returnType = ret) (bk23 : Mem → Int → Option Int) (j : Nat) (hjL : 6 * j + 6 ≤ L) (hbk23 : ∀ (M : Mem) (v4_ : Int) (hv4_ : InR v4_) (hij : v4_ = 6 * ((j + 1 : Nat) : Int)) (cells slots : Nat) (hcs : cells ≤ 232 + (j + 1) ∧ slots ≤ 11930 + 6 * (j + 1)) (H : Heap) (locs : List Loc) (ls : Array Slot), St b C 232 M s H locs → lv_has ls 7 [(0, .ref scr), (1, .ref (b + 0)), (2, .ref (b + 191)), (3, .ref (b + 231)), (4, vI v4_)] → bk23 M v4_ = some 1 → W p l e room_1 s m #[Value.ref scr] below meth c H locs cells slots (lw_Z below #[Value.ref scr] s) (F0 m 23 ls [])) (M : Mem) (v4_ : Int) (hv4_ : InR v4_) (hij : v4_ = 6 * (j : Int)) (cells slots : Nat) (hcs : cells ≤ 232 + j ∧ slots ≤ 11930 + 6 * j) (H : Heap) (locs : List Loc) (ls : Array Slot) (hS : St b C 232 M s H locs) (hl : lv_has ls 7 [(0, .ref scr), (1, .ref (b + 0)), (2, .ref (b + 191)), (3, .ref (b + 231)), (4, vI v4_)]) (hT : t_Law_law_L220 xs L bk23 M v4_ = some 1) : W p l e room_1 s m #[Value.ref scr] below meth c H locs cells slots (lw_Z below #[Value.ref scr] s) (F0 m 220 ls []) := by
  have hcs1 : cells ≤ 233 + j ∧ slots ≤ 11936 + 6 * j := ⟨by omega, by omega⟩
  unfold t_Law_law_L220 at hT
  refine lv_aload_n F.hx F.hb d_Law_law_220 rfl (lv_at hl 1 rfl) ?_
  refine lv_aload_n F.hx F.hb d_Law_law_221 rfl (lv_at hl 0 rfl) ?_
  refine lv_iload F.hx F.hb d_Law_law_222 (lv_at hl 4 rfl) ?_
  refine r_iconst F.hx F.hb d_Law_law_224 ?_
  refine r_iadd F.hx F.hb d_Law_law_225 ?_
  refine r_sld F hS hXs hsl hb (inr_w32 _) (law_ix hij hjL hL 1 (by decide) (by decide)).1 (law_ix hij hjL hL 1 (by decide) (by decide)).2 d_Law_law_226 ?_
  refine lv_aload_n F.hx F.hb d_Law_law_227 rfl (lv_at hl 0 rfl) ?_
  refine lv_iload F.hx F.hb d_Law_law_228 (lv_at hl 4 rfl) ?_
  refine r_iconst F.hx F.hb d_Law_law_230 ?_
  refine r_iadd F.hx F.hb d_Law_law_231 ?_
  refine r_sld F hS hXs hsl hb (inr_w32 _) (law_ix hij hjL hL 2 (by decide) (by decide)).1 (law_ix hij hjL hL 2 (by decide) (by decide)).2 d_Law_law_232 ?_
  refine lv_aload_n F.hx F.hb d_Law_law_233 rfl (lv_at hl 0 rfl) ?_
  refine lv_iload F.hx F.hb d_Law_law_234 (lv_at hl 4 rfl) ?_
  refine r_iconst F.hx F.hb d_Law_law_236 ?_
  refine r_iadd F.hx F.hb d_Law_law_237 ?_
  refine r_sld F hS hXs hsl hb (inr_w32 _) (law_ix hij hjL hL 3 (by decide) (by decide)).1 (law_ix hij hjL hL 3 (by decide) (by decide)).2 d_Law_law_238 ?_
  refine lv_aload_n F.hx F.hb d_Law_law_239 rfl (lv_at hl 0 rfl) ?_
  refine lv_iload F.hx F.hb d_Law_law_240 (lv_at hl 4 rfl) ?_
  refine r_iconst F.hx F.hb d_Law_law_242 ?_
  refine r_iadd F.hx F.hb d_Law_law_243 ?_
  refine r_sld F hS hXs hsl hb (inr_w32 _) (law_ix hij hjL hL 4 (by decide) (by decide)).1 (law_ix hij hjL hL 4 (by decide) (by decide)).2 d_Law_law_244 ?_
  refine lv_aload_n F.hx F.hb d_Law_law_245 rfl (lv_at hl 0 rfl) ?_
  refine lv_iload F.hx F.hb d_Law_law_246 (lv_at hl 4 rfl) ?_
  refine r_iconst F.hx F.hb d_Law_law_248 ?_
  refine r_iadd F.hx F.hb d_Law_law_249 ?_
  refine r_sld F hS hXs hsl hb (inr_w32 _) (law_ix hij hjL hL 5 (by decide) (by decide)).1 (law_ix hij hjL hL 5 (by decide) (by decide)).2 d_Law_law_250 ?_
  obtain ⟨q43, hq43, hT⟩ := q_obind hT
  refine r_backI F hS (r_runV (k := 0) (N := 19) (T := T0) (As := [vI (xs ((w32 (v4_ + 1))).toNat).toInt, vI (xs ((w32 (v4_ + 2))).toNat).toInt, vI (xs ((w32 (v4_ + 3))).toNat).toInt, vI (xs ((w32 (v4_ + 4))).toNat).toInt, vI (xs ((w32 (v4_ + 5))).toNat).toInt]) F hS (show 0 < 232 by decide) (show shK 0 = 4 from rfl) rfl (c_WF_feed l (Nat.le_of_ble_eq_true rfl) M (xs ((w32 (v4_ + 1))).toNat).toInt (xs ((w32 (v4_ + 2))).toNat).toInt (xs ((w32 (v4_ + 3))).toNat).toInt (xs ((w32 (v4_ + 4))).toNat).toInt (xs ((w32 (v4_ + 5))).toNat).toInt (q_inr_toInt _) (q_inr_toInt _) (q_inr_toInt _) (q_inr_toInt _) (q_inr_toInt _) _ hq43) gs_WardFallsLaw_21 hd_WF_feed ⟨Nat.le_of_ble_eq_true rfl, Nat.le_of_ble_eq_true rfl⟩ rfl hl.1 (Nat.le_of_ble_eq_true rfl) (law_rc hcs1 hjL hL) rfl d_Law_law_251) (fun H locs hS h44 => ?_)
  refine lv_pop F.hx F.hb d_Law_law_254 rfl ?_
  refine lv_aload_n F.hx F.hb d_Law_law_255 rfl (lv_at hl 2 rfl) ?_
  refine lv_aload_n F.hx F.hb d_Law_law_256 rfl (lv_at hl 0 rfl) ?_
  refine lv_iload F.hx F.hb d_Law_law_257 (lv_at hl 4 rfl) ?_
  refine r_iconst F.hx F.hb d_Law_law_259 ?_
  refine r_iadd F.hx F.hb d_Law_law_260 ?_
  refine r_sld F hS hXs hsl hb (inr_w32 _) (law_ix hij hjL hL 1 (by decide) (by decide)).1 (law_ix hij hjL hL 1 (by decide) (by decide)).2 d_Law_law_261 ?_
  refine lv_aload_n F.hx F.hb d_Law_law_262 rfl (lv_at hl 0 rfl) ?_
  refine lv_iload F.hx F.hb d_Law_law_263 (lv_at hl 4 rfl) ?_
  refine r_iconst F.hx F.hb d_Law_law_265 ?_
  refine r_iadd F.hx F.hb d_Law_law_266 ?_
  refine r_sld F hS hXs hsl hb (inr_w32 _) (law_ix hij hjL hL 2 (by decide) (by decide)).1 (law_ix hij hjL hL 2 (by decide) (by decide)).2 d_Law_law_267 ?_
  refine lv_aload_n F.hx F.hb d_Law_law_268 rfl (lv_at hl 0 rfl) ?_
  refine lv_iload F.hx F.hb d_Law_law_269 (lv_at hl 4 rfl) ?_
  refine r_iconst F.hx F.hb d_Law_law_271 ?_
  refine r_iadd F.hx F.hb d_Law_law_272 ?_
  refine r_sld F hS hXs hsl hb (inr_w32 _) (law_ix hij hjL hL 3 (by decide) (by decide)).1 (law_ix hij hjL hL 3 (by decide) (by decide)).2 d_Law_law_273 ?_
  refine lv_aload_n F.hx F.hb d_Law_law_274 rfl (lv_at hl 0 rfl) ?_
  refine lv_iload F.hx F.hb d_Law_law_275 (lv_at hl 4 rfl) ?_
  refine r_iconst F.hx F.hb d_Law_law_277 ?_
  refine r_iadd F.hx F.hb d_Law_law_278 ?_
  refine r_sld F hS hXs hsl hb (inr_w32 _) (law_ix hij hjL hL 4 (by decide) (by decide)).1 (law_ix hij hjL hL 4 (by decide) (by decide)).2 d_Law_law_279 ?_
  refine lv_aload_n F.hx F.hb d_Law_law_280 rfl (lv_at hl 0 rfl) ?_
  refine lv_iload F.hx F.hb d_Law_law_281 (lv_at hl 4 rfl) ?_
  refine r_iconst F.hx F.hb d_Law_law_283 ?_
  refine r_iadd F.hx F.hb d_Law_law_284 ?_
  refine r_sld F hS hXs hsl hb (inr_w32 _) (law_ix hij hjL hL 5 (by decide) (by decide)).1 (law_ix hij hjL hL 5 (by decide) (by decide)).2 d_Law_law_285 ?_
  obtain ⟨q45, hq45, hT⟩ := q_obind hT
  refine r_backI F hS (r_runV (k := 191) (N := 68) (T := T1) (As := [vI (xs ((w32 (v4_ + 1))).toNat).toInt, vI (xs ((w32 (v4_ + 2))).toNat).toInt, vI (xs ((w32 (v4_ + 3))).toNat).toInt, vI (xs ((w32 (v4_ + 4))).toNat).toInt, vI (xs ((w32 (v4_ + 5))).toNat).toInt]) F hS (show 191 < 232 by decide) (show shK 191 = 5 from rfl) rfl (c_MO_feed l (Nat.le_of_ble_eq_true rfl) (q43.1) (xs ((w32 (v4_ + 1))).toNat).toInt (xs ((w32 (v4_ + 2))).toNat).toInt (xs ((w32 (v4_ + 3))).toNat).toInt (xs ((w32 (v4_ + 4))).toNat).toInt (xs ((w32 (v4_ + 5))).toNat).toInt (q_inr_toInt _) (q_inr_toInt _) (q_inr_toInt _) (q_inr_toInt _) (q_inr_toInt _) _ hq45) gs_WardFallsLaw_25 hd_MO_feed ⟨Nat.le_of_ble_eq_true rfl, Nat.le_of_ble_eq_true rfl⟩ rfl hl.1 (Nat.le_of_ble_eq_true rfl) (law_rc hcs1 hjL hL) rfl d_Law_law_286) (fun H locs hS h46 => ?_)
  refine lv_pop F.hx F.hb d_Law_law_289 rfl ?_
  refine lv_goto (tgt := 1540) F.hx F.hb d_Law_law_290 (by decide) ?_
  exact k_Law_law_L1540 l hlf hL F hX hXs hsl hb hlk hr bk23 j hjL hbk23 (q45.1) v4_ hv4_ hij _ _ hcs1 _ _ _ hS (lv_sub hl [0, 1, 2, 3, 4] rfl) hT
set_option maxHeartbeats 16000000 in
set_option maxRecDepth 100000 in
theorem k_Law_law_L293 (l : Launch) (hlf : l.stackTraces = false) {p : Program} {e : Env} {s : State} {m : MethodId} {below : List Frame} {meth : Method} {c : Code} {b : Nat} {C : CT} {scr L : Nat} {xs : Nat → Int32} (hL : L ≤ 3072) (F : Cx b p m c b_Law_law 7 s ([.ref scr] : List Value).toArray "WardFallsLaw" C 232 232) (hX : EX b s) (hXs : va_X scr L xs s s.heap) (hsl : scr < s.heap.size) (hb : b = s.heap.size) (hlk : meth.locks = false) (hr : meth.sig.returnType = ret) (bk23 : Mem → Int → Option Int) (j : Nat) (hjL : 6 * j + 6 ≤ L) (hbk23 : ∀ (M : Mem) (v4_ : Int) (hv4_ : InR v4_) (hij : v4_ = 6 * ((j + 1 : Nat) : Int)) (cells slots : Nat) (hcs : cells ≤ 232 + (j + 1) ∧ slots ≤ 11930 + 6 * (j + 1)) (H : Heap) (locs : List Loc) (ls : Array Slot), St b C 232 M s H locs → lv_has ls 7 [(0, .ref scr), (1, .ref (b + 0)), (2, .ref (b + 191)), (3, .ref (b + 231)), (4, vI v4_)] → bk23 M v4_ = some 1 → W p l e room_1 s m #[Value.ref scr] below meth c H locs cells slots (lw_Z below #[Value.ref scr] s) (F0 m 23 ls [])) (M : Mem) (v4_ : Int) (hv4_ : InR v4_) (hij : v4_ = 6 * (j : Int)) (cells slots : Nat) (hcs : cells ≤ 232 + j ∧ slots ≤ 11930 + 6 * j) (H : Heap) (locs : List Loc) (ls : Array Slot) (hS : St b C 232 M s H locs) (hl : lv_has ls 7 [(0, .ref scr), (1, .ref (b + 0)), (2, .ref (b + 191)), (3, .ref (b + 231)), (4, vI v4_)]) (hT : t_Law_law_L293 xs L bk23 M v4_ = some 1) : W p l e room_1 s m #[Value.ref scr] below meth c H locs cells slots (lw_Z below #[Value.ref scr] s) (F0 m 293 ls []) := by
  have hcs1 : cells ≤ 233 + j ∧ slots ≤ 11936 + 6 * j := ⟨by omega, by omega⟩
  unfold t_Law_law_L293 at hT
  refine lv_aload_n F.hx F.hb d_Law_law_293 rfl (lv_at hl 1 rfl) ?_
  refine lv_aload_n F.hx F.hb d_Law_law_294 rfl (lv_at hl 0 rfl) ?_
  refine lv_iload F.hx F.hb d_Law_law_295 (lv_at hl 4 rfl) ?_
  refine r_iconst F.hx F.hb d_Law_law_297 ?_
  refine r_iadd F.hx F.hb d_Law_law_298 ?_
  refine r_sld F hS hXs hsl hb (inr_w32 _) (law_ix hij hjL hL 1 (by decide) (by decide)).1 (law_ix hij hjL hL 1 (by decide) (by decide)).2 d_Law_law_299 ?_
  obtain ⟨q47, hq47, hT⟩ := q_obind hT
  refine r_backI F hS (r_runV (k := 0) (N := 19) (T := T0) (As := [vI (xs ((w32 (v4_ + 1))).toNat).toInt]) F hS (show 0 < 232 by decide) (show shK 0 = 4 from rfl) rfl (c_WF_text l (Nat.le_of_ble_eq_true rfl) M (xs ((w32 (v4_ + 1))).toNat).toInt (q_inr_toInt _) _ hq47) gs_WardFallsLaw_26 hd_WF_text ⟨Nat.le_of_ble_eq_true rfl, Nat.le_of_ble_eq_true rfl⟩ rfl hl.1 (Nat.le_of_ble_eq_true rfl) (law_rc hcs1 hjL hL) rfl d_Law_law_300) (fun H locs hS h48 => ?_)
  refine lv_pop F.hx F.hb d_Law_law_303 rfl ?_
  refine lv_aload_n F.hx F.hb d_Law_law_304 rfl (lv_at hl 2 rfl) ?_
  refine lv_aload_n F.hx F.hb d_Law_law_305 rfl (lv_at hl 0 rfl) ?_
  refine lv_iload F.hx F.hb d_Law_law_306 (lv_at hl 4 rfl) ?_
  refine r_iconst F.hx F.hb d_Law_law_308 ?_
  refine r_iadd F.hx F.hb d_Law_law_309 ?_
  refine r_sld F hS hXs hsl hb (inr_w32 _) (law_ix hij hjL hL 1 (by decide) (by decide)).1 (law_ix hij hjL hL 1 (by decide) (by decide)).2 d_Law_law_310 ?_
  obtain ⟨q49, hq49, hT⟩ := q_obind hT
  refine r_backI F hS (r_runV (k := 191) (N := 68) (T := T1) (As := [vI (xs ((w32 (v4_ + 1))).toNat).toInt]) F hS (show 191 < 232 by decide) (show shK 191 = 5 from rfl) rfl (c_MO_text l (Nat.le_of_ble_eq_true rfl) (q47.1) (xs ((w32 (v4_ + 1))).toNat).toInt (q_inr_toInt _) _ hq49) gs_WardFallsLaw_30 hd_MO_text ⟨Nat.le_of_ble_eq_true rfl, Nat.le_of_ble_eq_true rfl⟩ rfl hl.1 (Nat.le_of_ble_eq_true rfl) (law_rc hcs1 hjL hL) rfl d_Law_law_311) (fun H locs hS h50 => ?_)
  refine lv_pop F.hx F.hb d_Law_law_314 rfl ?_
  refine lv_goto (tgt := 1540) F.hx F.hb d_Law_law_315 (by decide) ?_
  exact k_Law_law_L1540 l hlf hL F hX hXs hsl hb hlk hr bk23 j hjL hbk23 (q49.1) v4_ hv4_ hij _ _ hcs1 _ _ _ hS (lv_sub hl [0, 1, 2, 3, 4] rfl) hT
set_option maxHeartbeats 16000000 in
set_option maxRecDepth 100000 in
theorem k_Law_law_L318 (l : Launch) (hlf : l.stackTraces = false) {p : Program} {e : Env} {s : State} {m : MethodId} {below : List Frame} {meth : Method} {c : Code} {b : Nat} {C : CT} {scr L : Nat} {xs : Nat → Int32} (hL : L ≤ 3072) (F : Cx b p m c b_Law_law 7 s ([.ref scr] : List Value).toArray "WardFallsLaw" C 232 232) (hX : EX b s) (hXs : va_X scr L xs s s.heap) (hsl : scr < s.heap.size) (hb : b = s.heap.size) (hlk : meth.locks = false) (hr : meth.sig.returnType = ret) (bk23 : Mem → Int → Option Int) (j : Nat) (hjL : 6 * j + 6 ≤ L) (hbk23 : ∀ (M : Mem) (v4_ : Int) (hv4_ : InR v4_) (hij : v4_ = 6 * ((j + 1 : Nat) : Int)) (cells slots : Nat) (hcs : cells ≤ 232 + (j + 1) ∧ slots ≤ 11930 + 6 * (j + 1)) (H : Heap) (locs : List Loc) (ls : Array Slot), St b C 232 M s H locs → lv_has ls 7 [(0, .ref scr), (1, .ref (b + 0)), (2, .ref (b + 191)), (3, .ref (b + 231)), (4, vI v4_)] → bk23 M v4_ = some 1 → W p l e room_1 s m #[Value.ref scr] below meth c H locs cells slots (lw_Z below #[Value.ref scr] s) (F0 m 23 ls [])) (M : Mem) (v4_ : Int) (hv4_ : InR v4_) (hij : v4_ = 6 * (j : Int)) (cells slots : Nat) (hcs : cells ≤ 232 + j ∧ slots ≤ 11930 + 6 * j) (H : Heap) (locs : List Loc) (ls : Array Slot) (hS : St b C 232 M s H locs) (hl : lv_has ls 7 [(0, .ref scr), (1, .ref (b + 0)), (2, .ref (b + 191)), (3, .ref (b + 231)), (4, vI v4_)]) (hT : t_Law_law_L318 xs L bk23 M v4_ = some 1) : W p l e room_1 s m #[Value.ref scr] below meth c H locs cells slots (lw_Z below #[Value.ref scr] s) (F0 m 318 ls []) := by
  have hcs1 : cells ≤ 233 + j ∧ slots ≤ 11936 + 6 * j := ⟨by omega, by omega⟩
  unfold t_Law_law_L318 at hT
  refine lv_aload_n F.hx F.hb d_Law_law_318 rfl (lv_at hl 1 rfl) ?_
  refine lv_aload_n F.hx F.hb d_Law_law_319 rfl (lv_at hl 0 rfl) ?_
  refine lv_iload F.hx F.hb d_Law_law_320 (lv_at hl 4 rfl) ?_
  refine r_iconst F.hx F.hb d_Law_law_322 ?_
  refine r_iadd F.hx F.hb d_Law_law_323 ?_
  refine r_sld F hS hXs hsl hb (inr_w32 _) (law_ix hij hjL hL 1 (by decide) (by decide)).1 (law_ix hij hjL hL 1 (by decide) (by decide)).2 d_Law_law_324 ?_
  obtain ⟨q51, hq51⟩ : ∃ q, q = (t_WF_fault M (xs ((w32 (v4_ + 1))).toNat).toInt) := ⟨_, rfl⟩
  replace hT := qlet_eq hT hq51
  refine r_backI F hS (r_runV (k := 0) (N := 19) (T := T0) (As := [vI (xs ((w32 (v4_ + 1))).toNat).toInt]) F hS (show 0 < 232 by decide) (show shK 0 = 4 from rfl) rfl (c_WF_fault l (Nat.le_of_ble_eq_true rfl) M (xs ((w32 (v4_ + 1))).toNat).toInt (q_inr_toInt _) _ hq51.symm) gs_WardFallsLaw_31 hd_WF_fault ⟨Nat.le_of_ble_eq_true rfl, Nat.le_of_ble_eq_true rfl⟩ rfl hl.1 (Nat.le_of_ble_eq_true rfl) (law_rc hcs1 hjL hL) rfl d_Law_law_325) (fun H locs hS h52 => ?_)
  refine lv_pop F.hx F.hb d_Law_law_328 rfl ?_
  refine lv_aload_n F.hx F.hb d_Law_law_329 rfl (lv_at hl 2 rfl) ?_
  refine lv_aload_n F.hx F.hb d_Law_law_330 rfl (lv_at hl 0 rfl) ?_
  refine lv_iload F.hx F.hb d_Law_law_331 (lv_at hl 4 rfl) ?_
  refine r_iconst F.hx F.hb d_Law_law_333 ?_
  refine r_iadd F.hx F.hb d_Law_law_334 ?_
  refine r_sld F hS hXs hsl hb (inr_w32 _) (law_ix hij hjL hL 1 (by decide) (by decide)).1 (law_ix hij hjL hL 1 (by decide) (by decide)).2 d_Law_law_335 ?_
  obtain ⟨q53, hq53⟩ : ∃ q, q = (t_MO_fault M (xs ((w32 (v4_ + 1))).toNat).toInt) := ⟨_, rfl⟩
  replace hT := qlet_eq hT hq53
  refine r_backI F hS (r_runV (k := 191) (N := 68) (T := T1) (As := [vI (xs ((w32 (v4_ + 1))).toNat).toInt]) F hS (show 191 < 232 by decide) (show shK 191 = 5 from rfl) rfl (c_MO_fault l (Nat.le_of_ble_eq_true rfl) M (xs ((w32 (v4_ + 1))).toNat).toInt (q_inr_toInt _) _ hq53.symm) gs_WardFallsLaw_34 hd_MO_fault ⟨Nat.le_of_ble_eq_true rfl, Nat.le_of_ble_eq_true rfl⟩ rfl hl.1 (Nat.le_of_ble_eq_true rfl) (law_rc hcs1 hjL hL) rfl d_Law_law_336) (fun H locs hS h54 => ?_)
  refine lv_pop F.hx F.hb d_Law_law_339 rfl ?_
  refine lv_goto (tgt := 1540) F.hx F.hb d_Law_law_340 (by decide) ?_
  exact k_Law_law_L1540 l hlf hL F hX hXs hsl hb hlk hr bk23 j hjL hbk23 (q53.1) v4_ hv4_ hij _ _ hcs1 _ _ _ hS (lv_sub hl [0, 1, 2, 3, 4] rfl) hT
set_option maxHeartbeats 16000000 in
set_option maxRecDepth 100000 in
theorem k_Law_law_L343 (l : Launch) (hlf : l.stackTraces = false) {p : Program} {e : Env} {s : State} {m : MethodId} {below : List Frame} {meth : Method} {c : Code} {b : Nat} {C : CT} {scr L : Nat} {xs : Nat → Int32} (hL : L ≤ 3072) (F : Cx b p m c b_Law_law 7 s ([.ref scr] : List Value).toArray "WardFallsLaw" C 232 232) (hX : EX b s) (hXs : va_X scr L xs s s.heap) (hsl : scr < s.heap.size) (hb : b = s.heap.size) (hlk : meth.locks = false) (hr : meth.sig.returnType = ret) (bk23 : Mem → Int → Option Int) (j : Nat) (hjL : 6 * j + 6 ≤ L) (hbk23 : ∀ (M : Mem) (v4_ : Int) (hv4_ : InR v4_) (hij : v4_ = 6 * ((j + 1 : Nat) : Int)) (cells slots : Nat) (hcs : cells ≤ 232 + (j + 1) ∧ slots ≤ 11930 + 6 * (j + 1)) (H : Heap) (locs : List Loc) (ls : Array Slot), St b C 232 M s H locs → lv_has ls 7 [(0, .ref scr), (1, .ref (b + 0)), (2, .ref (b + 191)), (3, .ref (b + 231)), (4, vI v4_)] → bk23 M v4_ = some 1 → W p l e room_1 s m #[Value.ref scr] below meth c H locs cells slots (lw_Z below #[Value.ref scr] s) (F0 m 23 ls [])) (M : Mem) (v4_ : Int) (hv4_ : InR v4_) (hij : v4_ = 6 * (j : Int)) (cells slots : Nat) (hcs : cells ≤ 232 + j ∧ slots ≤ 11930 + 6 * j) (H : Heap) (locs : List Loc) (ls : Array Slot) (hS : St b C 232 M s H locs) (hl : lv_has ls 7 [(0, .ref scr), (1, .ref (b + 0)), (2, .ref (b + 191)), (3, .ref (b + 231)), (4, vI v4_)]) (hT : t_Law_law_L343 xs L bk23 M v4_ = some 1) : W p l e room_1 s m #[Value.ref scr] below meth c H locs cells slots (lw_Z below #[Value.ref scr] s) (F0 m 343 ls []) := by
  have hcs1 : cells ≤ 233 + j ∧ slots ≤ 11936 + 6 * j := ⟨by omega, by omega⟩
  unfold t_Law_law_L343 at hT
  refine lv_aload_n F.hx F.hb d_Law_law_343 rfl (lv_at hl 1 rfl) ?_
  refine lv_aload_n F.hx F.hb d_Law_law_344 rfl (lv_at hl 0 rfl) ?_
  refine lv_iload F.hx F.hb d_Law_law_345 (lv_at hl 4 rfl) ?_
  refine r_iconst F.hx F.hb d_Law_law_347 ?_
  refine r_iadd F.hx F.hb d_Law_law_348 ?_
  refine r_sld F hS hXs hsl hb (inr_w32 _) (law_ix hij hjL hL 1 (by decide) (by decide)).1 (law_ix hij hjL hL 1 (by decide) (by decide)).2 d_Law_law_349 ?_
  refine lv_aload_n F.hx F.hb d_Law_law_350 rfl (lv_at hl 0 rfl) ?_
  refine lv_iload F.hx F.hb d_Law_law_351 (lv_at hl 4 rfl) ?_
  refine r_iconst F.hx F.hb d_Law_law_353 ?_
  refine r_iadd F.hx F.hb d_Law_law_354 ?_
  refine r_sld F hS hXs hsl hb (inr_w32 _) (law_ix hij hjL hL 2 (by decide) (by decide)).1 (law_ix hij hjL hL 2 (by decide) (by decide)).2 d_Law_law_355 ?_
  obtain ⟨q55, hq55, hT⟩ := q_obind hT
  refine r_backI F hS (r_runV (k := 0) (N := 19) (T := T0) (As := [vI (xs ((w32 (v4_ + 1))).toNat).toInt, vI (xs ((w32 (v4_ + 2))).toNat).toInt]) F hS (show 0 < 232 by decide) (show shK 0 = 4 from rfl) rfl (c_WF_named l (Nat.le_of_ble_eq_true rfl) M (xs ((w32 (v4_ + 1))).toNat).toInt (xs ((w32 (v4_ + 2))).toNat).toInt (q_inr_toInt _) (q_inr_toInt _) _ hq55) gs_WardFallsLaw_35 hd_WF_named ⟨Nat.le_of_ble_eq_true rfl, Nat.le_of_ble_eq_true rfl⟩ rfl hl.1 (Nat.le_of_ble_eq_true rfl) (law_rc hcs1 hjL hL) rfl d_Law_law_356) (fun H locs hS h56 => ?_)
  refine lv_pop F.hx F.hb d_Law_law_359 rfl ?_
  refine lv_aload_n F.hx F.hb d_Law_law_360 rfl (lv_at hl 2 rfl) ?_
  refine lv_aload_n F.hx F.hb d_Law_law_361 rfl (lv_at hl 0 rfl) ?_
  refine lv_iload F.hx F.hb d_Law_law_362 (lv_at hl 4 rfl) ?_
  refine r_iconst F.hx F.hb d_Law_law_364 ?_
  refine r_iadd F.hx F.hb d_Law_law_365 ?_
  refine r_sld F hS hXs hsl hb (inr_w32 _) (law_ix hij hjL hL 1 (by decide) (by decide)).1 (law_ix hij hjL hL 1 (by decide) (by decide)).2 d_Law_law_366 ?_
  refine lv_aload_n F.hx F.hb d_Law_law_367 rfl (lv_at hl 0 rfl) ?_
  refine lv_iload F.hx F.hb d_Law_law_368 (lv_at hl 4 rfl) ?_
  refine r_iconst F.hx F.hb d_Law_law_370 ?_
  refine r_iadd F.hx F.hb d_Law_law_371 ?_
  refine r_sld F hS hXs hsl hb (inr_w32 _) (law_ix hij hjL hL 2 (by decide) (by decide)).1 (law_ix hij hjL hL 2 (by decide) (by decide)).2 d_Law_law_372 ?_
  obtain ⟨q57, hq57, hT⟩ := q_obind hT
  refine r_backI F hS (r_runV (k := 191) (N := 68) (T := T1) (As := [vI (xs ((w32 (v4_ + 1))).toNat).toInt, vI (xs ((w32 (v4_ + 2))).toNat).toInt]) F hS (show 191 < 232 by decide) (show shK 191 = 5 from rfl) rfl (c_MO_named l (Nat.le_of_ble_eq_true rfl) M (xs ((w32 (v4_ + 1))).toNat).toInt (xs ((w32 (v4_ + 2))).toNat).toInt (q_inr_toInt _) (q_inr_toInt _) _ hq57) gs_WardFallsLaw_38 hd_MO_named ⟨Nat.le_of_ble_eq_true rfl, Nat.le_of_ble_eq_true rfl⟩ rfl hl.1 (Nat.le_of_ble_eq_true rfl) (law_rc hcs1 hjL hL) rfl d_Law_law_373) (fun H locs hS h58 => ?_)
  refine lv_pop F.hx F.hb d_Law_law_376 rfl ?_
  refine lv_goto (tgt := 1540) F.hx F.hb d_Law_law_377 (by decide) ?_
  exact k_Law_law_L1540 l hlf hL F hX hXs hsl hb hlk hr bk23 j hjL hbk23 (q57.1) v4_ hv4_ hij _ _ hcs1 _ _ _ hS (lv_sub hl [0, 1, 2, 3, 4] rfl) hT
set_option maxHeartbeats 16000000 in
set_option maxRecDepth 100000 in
theorem k_Law_law_L380 (l : Launch) (hlf : l.stackTraces = false) {p : Program} {e : Env} {s : State} {m : MethodId} {below : List Frame} {meth : Method} {c : Code} {b : Nat} {C : CT} {scr L : Nat} {xs : Nat → Int32} (hL : L ≤ 3072) (F : Cx b p m c b_Law_law 7 s ([.ref scr] : List Value).toArray "WardFallsLaw" C 232 232) (hX : EX b s) (hXs : va_X scr L xs s s.heap) (hsl : scr < s.heap.size) (hb : b = s.heap.size) (hlk : meth.locks = false) (hr : meth.sig.returnType = ret) (bk23 : Mem → Int → Option Int) (j : Nat) (hjL : 6 * j + 6 ≤ L) (hbk23 : ∀ (M : Mem) (v4_ : Int) (hv4_ : InR v4_) (hij : v4_ = 6 * ((j + 1 : Nat) : Int)) (cells slots : Nat) (hcs : cells ≤ 232 + (j + 1) ∧ slots ≤ 11930 + 6 * (j + 1)) (H : Heap) (locs : List Loc) (ls : Array Slot), St b C 232 M s H locs → lv_has ls 7 [(0, .ref scr), (1, .ref (b + 0)), (2, .ref (b + 191)), (3, .ref (b + 231)), (4, vI v4_)] → bk23 M v4_ = some 1 → W p l e room_1 s m #[Value.ref scr] below meth c H locs cells slots (lw_Z below #[Value.ref scr] s) (F0 m 23 ls [])) (M : Mem) (v4_ : Int) (hv4_ : InR v4_) (hij : v4_ = 6 * (j : Int)) (cells slots : Nat) (hcs : cells ≤ 232 + j ∧ slots ≤ 11930 + 6 * j) (H : Heap) (locs : List Loc) (ls : Array Slot) (hS : St b C 232 M s H locs) (hl : lv_has ls 7 [(0, .ref scr), (1, .ref (b + 0)), (2, .ref (b + 191)), (3, .ref (b + 231)), (4, vI v4_)]) (hT : t_Law_law_L380 xs L bk23 M v4_ = some 1) : W p l e room_1 s m #[Value.ref scr] below meth c H locs cells slots (lw_Z below #[Value.ref scr] s) (F0 m 380 ls []) := by
  have hcs1 : cells ≤ 233 + j ∧ slots ≤ 11936 + 6 * j := ⟨by omega, by omega⟩
  unfold t_Law_law_L380 at hT
  refine lv_aload_n F.hx F.hb d_Law_law_380 rfl (lv_at hl 1 rfl) ?_
  refine lv_aload_n F.hx F.hb d_Law_law_381 rfl (lv_at hl 0 rfl) ?_
  refine lv_iload F.hx F.hb d_Law_law_382 (lv_at hl 4 rfl) ?_
  refine r_iconst F.hx F.hb d_Law_law_384 ?_
  refine r_iadd F.hx F.hb d_Law_law_385 ?_
  refine r_sld F hS hXs hsl hb (inr_w32 _) (law_ix hij hjL hL 1 (by decide) (by decide)).1 (law_ix hij hjL hL 1 (by decide) (by decide)).2 d_Law_law_386 ?_
  refine lv_aload_n F.hx F.hb d_Law_law_387 rfl (lv_at hl 0 rfl) ?_
  refine lv_iload F.hx F.hb d_Law_law_388 (lv_at hl 4 rfl) ?_
  refine r_iconst F.hx F.hb d_Law_law_390 ?_
  refine r_iadd F.hx F.hb d_Law_law_391 ?_
  refine r_sld F hS hXs hsl hb (inr_w32 _) (law_ix hij hjL hL 2 (by decide) (by decide)).1 (law_ix hij hjL hL 2 (by decide) (by decide)).2 d_Law_law_392 ?_
  refine lv_aload_n F.hx F.hb d_Law_law_393 rfl (lv_at hl 3 rfl) ?_
  obtain ⟨q59, hq59, hT⟩ := q_obind hT
  refine r_backIg F hS (r_runH (As := [.ref (b + 0), vI (xs ((w32 (v4_ + 1))).toNat).toInt, vI (xs ((w32 (v4_ + 2))).toNat).toInt, .ref (b + 231)]) F hX hS (c_Law_cell l hlf (Nat.le_refl _) M (xs ((w32 (v4_ + 1))).toNat).toInt (xs ((w32 (v4_ + 2))).toNat).toInt (q_inr_toInt _) (q_inr_toInt _) _ hq59) gs_Law_cell hd_Law_cell ⟨Nat.le_of_ble_eq_true rfl, Nat.le_of_ble_eq_true rfl⟩ rfl hl.1 (Nat.le_of_ble_eq_true rfl) (law_rc1 hcs1 hjL hL) rfl d_Law_law_394) (fun H locs hS h60 => ?_)
  have hcs2 : cells + 1 ≤ 233 + j ∧ slots + 6 ≤ 11936 + 6 * j := ⟨by omega, by omega⟩
  refine lv_istore (lv' := [(5, vI (q59.2)), (0, .ref scr), (1, .ref (b + 0)), (2, .ref (b + 191)), (3, .ref (b + 231)), (4, vI v4_)]) F.hx F.hb d_Law_law_397 hl (Nat.le_of_ble_eq_true rfl) rfl (fun ls hl => ?_)
  refine lv_aload_n F.hx F.hb d_Law_law_399 rfl (lv_at hl 3 rfl) ?_
  refine lv_aload_n F.hx F.hb d_Law_law_400 rfl (lv_at hl 1 rfl) ?_
  refine lv_iload F.hx F.hb d_Law_law_401 (lv_at hl 5 rfl) ?_
  refine r_iconst F.hx F.hb d_Law_law_403 ?_
  refine r_iadd F.hx F.hb d_Law_law_404 ?_
  refine r_sld F hS hXs hsl hb (inr_w32 _) (law_ix hij hjL hL 1 (by decide) (by decide)).1 (law_ix hij hjL hL 1 (by decide) (by decide)).2 d_Law_law_405 ?_
  refine lv_aload_n F.hx F.hb d_Law_law_406 rfl (lv_at hl 1 rfl) ?_
  refine lv_iload F.hx F.hb d_Law_law_407 (lv_at hl 5 rfl) ?_
  refine r_iconst F.hx F.hb d_Law_law_409 ?_
  refine r_iadd F.hx F.hb d_Law_law_410 ?_
  refine r_sld F hS hXs hsl hb (inr_w32 _) (law_ix hij hjL hL 2 (by decide) (by decide)).1 (law_ix hij hjL hL 2 (by decide) (by decide)).2 d_Law_law_411 ?_
  obtain ⟨q61, hq61, hT⟩ := q_obind hT
  refine r_backI F hS (r_runV (k := 191) (N := 68) (T := T1) (As := [vI (xs ((w32 (v4_ + 1))).toNat).toInt, vI (xs ((w32 (v4_ + 2))).toNat).toInt]) F hS (show 191 < 232 by decide) (show shK 191 = 5 from rfl) rfl (c_MO_cell l (Nat.le_of_ble_eq_true rfl) (q59.1) (xs ((w32 (v4_ + 1))).toNat).toInt (xs ((w32 (v4_ + 2))).toNat).toInt (q_inr_toInt _) (q_inr_toInt _) _ hq61) gs_WardFallsLaw_44 hd_MO_cell ⟨Nat.le_of_ble_eq_true rfl, Nat.le_of_ble_eq_true rfl⟩ rfl hl.1 (Nat.le_of_ble_eq_true rfl) (law_rc hcs2 hjL hL) rfl d_Law_law_412) (fun H locs hS h62 => ?_)
  refine lv_istore (lv' := [(6, vI (q61.2)), (5, vI (q59.2)), (0, .ref scr), (1, .ref (b + 0)), (2, .ref (b + 191)), (3, .ref (b + 231)), (4, vI v4_)]) F.hx F.hb d_Law_law_415 hl (Nat.le_of_ble_eq_true rfl) rfl (fun ls hl => ?_)
  refine lv_goto (tgt := 1540) F.hx F.hb d_Law_law_417 (by decide) ?_
  exact k_Law_law_L1540 l hlf hL F hX hXs hsl hb hlk hr bk23 j hjL hbk23 (q61.1) v4_ hv4_ hij _ _ hcs2 _ _ _ hS (lv_sub hl [2, 3, 4, 5, 6] rfl) hT
set_option maxHeartbeats 16000000 in
set_option maxRecDepth 100000 in
theorem k_Law_law_L420 (l : Launch) (hlf : l.stackTraces = false) {p : Program} {e : Env} {s : State} {m : MethodId} {below : List Frame} {meth : Method} {c : Code} {b : Nat} {C : CT} {scr L : Nat} {xs : Nat → Int32} (hL : L ≤ 3072) (F : Cx b p m c b_Law_law 7 s ([.ref scr] : List Value).toArray "WardFallsLaw" C 232 232) (hX : EX b s) (hXs : va_X scr L xs s s.heap) (hsl : scr < s.heap.size) (hb : b = s.heap.size) (hlk : meth.locks = false) (hr : meth.sig.returnType = ret) (bk23 : Mem → Int → Option Int) (j : Nat) (hjL : 6 * j + 6 ≤ L) (hbk23 : ∀ (M : Mem) (v4_ : Int) (hv4_ : InR v4_) (hij : v4_ = 6 * ((j + 1 : Nat) : Int)) (cells slots : Nat) (hcs : cells ≤ 232 + (j + 1) ∧ slots ≤ 11930 + 6 * (j + 1)) (H : Heap) (locs : List Loc) (ls : Array Slot), St b C 232 M s H locs → lv_has ls 7 [(0, .ref scr), (1, .ref (b + 0)), (2, .ref (b + 191)), (3, .ref (b + 231)), (4, vI v4_)] → bk23 M v4_ = some 1 → W p l e room_1 s m #[Value.ref scr] below meth c H locs cells slots (lw_Z below #[Value.ref scr] s) (F0 m 23 ls [])) (M : Mem) (v4_ : Int) (hv4_ : InR v4_) (hij : v4_ = 6 * (j : Int)) (cells slots : Nat) (hcs : cells ≤ 232 + j ∧ slots ≤ 11930 + 6 * j) (H : Heap) (locs : List Loc) (ls : Array Slot) (hS : St b C 232 M s H locs) (hl : lv_has ls 7 [(0, .ref scr), (1, .ref (b + 0)), (2, .ref (b + 191)), (3, .ref (b + 231)), (4, vI v4_)]) (hT : t_Law_law_L420 xs L bk23 M v4_ = some 1) : W p l e room_1 s m #[Value.ref scr] below meth c H locs cells slots (lw_Z below #[Value.ref scr] s) (F0 m 420 ls []) := by
  have hcs1 : cells ≤ 233 + j ∧ slots ≤ 11936 + 6 * j := ⟨by omega, by omega⟩
  unfold t_Law_law_L420 at hT
  refine lv_aload_n F.hx F.hb d_Law_law_420 rfl (lv_at hl 1 rfl) ?_
  refine lv_aload_n F.hx F.hb d_Law_law_421 rfl (lv_at hl 0 rfl) ?_
  refine lv_iload F.hx F.hb d_Law_law_422 (lv_at hl 4 rfl) ?_
  refine r_iconst F.hx F.hb d_Law_law_424 ?_
  refine r_iadd F.hx F.hb d_Law_law_425 ?_
  refine r_sld F hS hXs hsl hb (inr_w32 _) (law_ix hij hjL hL 1 (by decide) (by decide)).1 (law_ix hij hjL hL 1 (by decide) (by decide)).2 d_Law_law_426 ?_
  refine lv_aload_n F.hx F.hb d_Law_law_427 rfl (lv_at hl 0 rfl) ?_
  refine lv_iload F.hx F.hb d_Law_law_428 (lv_at hl 4 rfl) ?_
  refine r_iconst F.hx F.hb d_Law_law_430 ?_
  refine r_iadd F.hx F.hb d_Law_law_431 ?_
  refine r_sld F hS hXs hsl hb (inr_w32 _) (law_ix hij hjL hL 2 (by decide) (by decide)).1 (law_ix hij hjL hL 2 (by decide) (by decide)).2 d_Law_law_432 ?_
  obtain ⟨q63, hq63, hT⟩ := q_obind hT
  refine r_backI F hS (r_runV (k := 0) (N := 19) (T := T0) (As := [vI (xs ((w32 (v4_ + 1))).toNat).toInt, vI (xs ((w32 (v4_ + 2))).toNat).toInt]) F hS (show 0 < 232 by decide) (show shK 0 = 4 from rfl) rfl (c_WF_ward l (Nat.le_of_ble_eq_true rfl) M (xs ((w32 (v4_ + 1))).toNat).toInt (xs ((w32 (v4_ + 2))).toNat).toInt (q_inr_toInt _) (q_inr_toInt _) _ hq63) gs_WardFallsLaw_45 hd_WF_ward ⟨Nat.le_of_ble_eq_true rfl, Nat.le_of_ble_eq_true rfl⟩ rfl hl.1 (Nat.le_of_ble_eq_true rfl) (law_rc hcs1 hjL hL) rfl d_Law_law_433) (fun H locs hS h64 => ?_)
  refine lv_pop F.hx F.hb d_Law_law_436 rfl ?_
  refine lv_aload_n F.hx F.hb d_Law_law_437 rfl (lv_at hl 2 rfl) ?_
  refine lv_aload_n F.hx F.hb d_Law_law_438 rfl (lv_at hl 0 rfl) ?_
  refine lv_iload F.hx F.hb d_Law_law_439 (lv_at hl 4 rfl) ?_
  refine r_iconst F.hx F.hb d_Law_law_441 ?_
  refine r_iadd F.hx F.hb d_Law_law_442 ?_
  refine r_sld F hS hXs hsl hb (inr_w32 _) (law_ix hij hjL hL 1 (by decide) (by decide)).1 (law_ix hij hjL hL 1 (by decide) (by decide)).2 d_Law_law_443 ?_
  refine lv_aload_n F.hx F.hb d_Law_law_444 rfl (lv_at hl 0 rfl) ?_
  refine lv_iload F.hx F.hb d_Law_law_445 (lv_at hl 4 rfl) ?_
  refine r_iconst F.hx F.hb d_Law_law_447 ?_
  refine r_iadd F.hx F.hb d_Law_law_448 ?_
  refine r_sld F hS hXs hsl hb (inr_w32 _) (law_ix hij hjL hL 2 (by decide) (by decide)).1 (law_ix hij hjL hL 2 (by decide) (by decide)).2 d_Law_law_449 ?_
  obtain ⟨q65, hq65, hT⟩ := q_obind hT
  refine r_backI F hS (r_runV (k := 191) (N := 68) (T := T1) (As := [vI (xs ((w32 (v4_ + 1))).toNat).toInt, vI (xs ((w32 (v4_ + 2))).toNat).toInt]) F hS (show 191 < 232 by decide) (show shK 191 = 5 from rfl) rfl (c_MO_ward l (Nat.le_of_ble_eq_true rfl) (q63.1) (xs ((w32 (v4_ + 1))).toNat).toInt (xs ((w32 (v4_ + 2))).toNat).toInt (q_inr_toInt _) (q_inr_toInt _) _ hq65) gs_WardFallsLaw_48 hd_MO_ward ⟨Nat.le_of_ble_eq_true rfl, Nat.le_of_ble_eq_true rfl⟩ rfl hl.1 (Nat.le_of_ble_eq_true rfl) (law_rc hcs1 hjL hL) rfl d_Law_law_450) (fun H locs hS h66 => ?_)
  refine lv_pop F.hx F.hb d_Law_law_453 rfl ?_
  refine lv_goto (tgt := 1540) F.hx F.hb d_Law_law_454 (by decide) ?_
  exact k_Law_law_L1540 l hlf hL F hX hXs hsl hb hlk hr bk23 j hjL hbk23 (q65.1) v4_ hv4_ hij _ _ hcs1 _ _ _ hS (lv_sub hl [0, 1, 2, 3, 4] rfl) hT
set_option maxHeartbeats 16000000 in
set_option maxRecDepth 100000 in
theorem k_Law_law_L457 (l : Launch) (hlf : l.stackTraces = false) {p : Program} {e : Env} {s : State} {m : MethodId} {below : List Frame} {meth : Method} {c : Code} {b : Nat} {C : CT} {scr L : Nat} {xs : Nat → Int32} (hL : L ≤ 3072) (F : Cx b p m c b_Law_law 7 s ([.ref scr] : List Value).toArray "WardFallsLaw" C 232 232) (hX : EX b s) (hXs : va_X scr L xs s s.heap) (hsl : scr < s.heap.size) (hb : b = s.heap.size) (hlk : meth.locks = false) (hr : meth.sig.returnType = ret) (bk23 : Mem → Int → Option Int) (j : Nat) (hjL : 6 * j + 6 ≤ L) (hbk23 : ∀ (M : Mem) (v4_ : Int) (hv4_ : InR v4_) (hij : v4_ = 6 * ((j + 1 : Nat) : Int)) (cells slots : Nat) (hcs : cells ≤ 232 + (j + 1) ∧ slots ≤ 11930 + 6 * (j + 1)) (H : Heap) (locs : List Loc) (ls : Array Slot), St b C 232 M s H locs → lv_has ls 7 [(0, .ref scr), (1, .ref (b + 0)), (2, .ref (b + 191)), (3, .ref (b + 231)), (4, vI v4_)] → bk23 M v4_ = some 1 → W p l e room_1 s m #[Value.ref scr] below meth c H locs cells slots (lw_Z below #[Value.ref scr] s) (F0 m 23 ls [])) (M : Mem) (v4_ : Int) (hv4_ : InR v4_) (hij : v4_ = 6 * (j : Int)) (cells slots : Nat) (hcs : cells ≤ 232 + j ∧ slots ≤ 11930 + 6 * j) (H : Heap) (locs : List Loc) (ls : Array Slot) (hS : St b C 232 M s H locs) (hl : lv_has ls 7 [(0, .ref scr), (1, .ref (b + 0)), (2, .ref (b + 191)), (3, .ref (b + 231)), (4, vI v4_)]) (hT : t_Law_law_L457 xs L bk23 M v4_ = some 1) : W p l e room_1 s m #[Value.ref scr] below meth c H locs cells slots (lw_Z below #[Value.ref scr] s) (F0 m 457 ls []) := by
  have hcs1 : cells ≤ 233 + j ∧ slots ≤ 11936 + 6 * j := ⟨by omega, by omega⟩
  unfold t_Law_law_L457 at hT
  refine lv_aload_n F.hx F.hb d_Law_law_457 rfl (lv_at hl 1 rfl) ?_
  refine lv_aload_n F.hx F.hb d_Law_law_458 rfl (lv_at hl 0 rfl) ?_
  refine lv_iload F.hx F.hb d_Law_law_459 (lv_at hl 4 rfl) ?_
  refine r_iconst F.hx F.hb d_Law_law_461 ?_
  refine r_iadd F.hx F.hb d_Law_law_462 ?_
  refine r_sld F hS hXs hsl hb (inr_w32 _) (law_ix hij hjL hL 1 (by decide) (by decide)).1 (law_ix hij hjL hL 1 (by decide) (by decide)).2 d_Law_law_463 ?_
  refine lv_aload_n F.hx F.hb d_Law_law_464 rfl (lv_at hl 0 rfl) ?_
  refine lv_iload F.hx F.hb d_Law_law_465 (lv_at hl 4 rfl) ?_
  refine r_iconst F.hx F.hb d_Law_law_467 ?_
  refine r_iadd F.hx F.hb d_Law_law_468 ?_
  refine r_sld F hS hXs hsl hb (inr_w32 _) (law_ix hij hjL hL 2 (by decide) (by decide)).1 (law_ix hij hjL hL 2 (by decide) (by decide)).2 d_Law_law_469 ?_
  obtain ⟨q67, hq67⟩ : ∃ q, q = (t_WF_thing M (xs ((w32 (v4_ + 1))).toNat).toInt (xs ((w32 (v4_ + 2))).toNat).toInt) := ⟨_, rfl⟩
  replace hT := qlet_eq hT hq67
  refine r_backI F hS (r_runV (k := 0) (N := 19) (T := T0) (As := [vI (xs ((w32 (v4_ + 1))).toNat).toInt, vI (xs ((w32 (v4_ + 2))).toNat).toInt]) F hS (show 0 < 232 by decide) (show shK 0 = 4 from rfl) rfl (c_WF_thing l (Nat.le_of_ble_eq_true rfl) M (xs ((w32 (v4_ + 1))).toNat).toInt (xs ((w32 (v4_ + 2))).toNat).toInt (q_inr_toInt _) (q_inr_toInt _) _ hq67.symm) gs_WardFallsLaw_49 hd_WF_thing ⟨Nat.le_of_ble_eq_true rfl, Nat.le_of_ble_eq_true rfl⟩ rfl hl.1 (Nat.le_of_ble_eq_true rfl) (law_rc hcs1 hjL hL) rfl d_Law_law_470) (fun H locs hS h68 => ?_)
  refine lv_pop F.hx F.hb d_Law_law_473 rfl ?_
  refine lv_aload_n F.hx F.hb d_Law_law_474 rfl (lv_at hl 2 rfl) ?_
  refine lv_aload_n F.hx F.hb d_Law_law_475 rfl (lv_at hl 0 rfl) ?_
  refine lv_iload F.hx F.hb d_Law_law_476 (lv_at hl 4 rfl) ?_
  refine r_iconst F.hx F.hb d_Law_law_478 ?_
  refine r_iadd F.hx F.hb d_Law_law_479 ?_
  refine r_sld F hS hXs hsl hb (inr_w32 _) (law_ix hij hjL hL 1 (by decide) (by decide)).1 (law_ix hij hjL hL 1 (by decide) (by decide)).2 d_Law_law_480 ?_
  refine lv_aload_n F.hx F.hb d_Law_law_481 rfl (lv_at hl 0 rfl) ?_
  refine lv_iload F.hx F.hb d_Law_law_482 (lv_at hl 4 rfl) ?_
  refine r_iconst F.hx F.hb d_Law_law_484 ?_
  refine r_iadd F.hx F.hb d_Law_law_485 ?_
  refine r_sld F hS hXs hsl hb (inr_w32 _) (law_ix hij hjL hL 2 (by decide) (by decide)).1 (law_ix hij hjL hL 2 (by decide) (by decide)).2 d_Law_law_486 ?_
  obtain ⟨q69, hq69, hT⟩ := q_obind hT
  refine r_backI F hS (r_runV (k := 191) (N := 68) (T := T1) (As := [vI (xs ((w32 (v4_ + 1))).toNat).toInt, vI (xs ((w32 (v4_ + 2))).toNat).toInt]) F hS (show 191 < 232 by decide) (show shK 191 = 5 from rfl) rfl (c_MO_thing l (Nat.le_of_ble_eq_true rfl) M (xs ((w32 (v4_ + 1))).toNat).toInt (xs ((w32 (v4_ + 2))).toNat).toInt (q_inr_toInt _) (q_inr_toInt _) _ hq69) gs_WardFallsLaw_52 hd_MO_thing ⟨Nat.le_of_ble_eq_true rfl, Nat.le_of_ble_eq_true rfl⟩ rfl hl.1 (Nat.le_of_ble_eq_true rfl) (law_rc hcs1 hjL hL) rfl d_Law_law_487) (fun H locs hS h70 => ?_)
  refine lv_pop F.hx F.hb d_Law_law_490 rfl ?_
  refine lv_goto (tgt := 1540) F.hx F.hb d_Law_law_491 (by decide) ?_
  exact k_Law_law_L1540 l hlf hL F hX hXs hsl hb hlk hr bk23 j hjL hbk23 (q69.1) v4_ hv4_ hij _ _ hcs1 _ _ _ hS (lv_sub hl [0, 1, 2, 3, 4] rfl) hT
set_option maxHeartbeats 16000000 in
set_option maxRecDepth 100000 in
theorem k_Law_law_L494 (l : Launch) (hlf : l.stackTraces = false) {p : Program} {e : Env} {s : State} {m : MethodId} {below : List Frame} {meth : Method} {c : Code} {b : Nat} {C : CT} {scr L : Nat} {xs : Nat → Int32} (hL : L ≤ 3072) (F : Cx b p m c b_Law_law 7 s ([.ref scr] : List Value).toArray "WardFallsLaw" C 232 232) (hX : EX b s) (hXs : va_X scr L xs s s.heap) (hsl : scr < s.heap.size) (hb : b = s.heap.size) (hlk : meth.locks = false) (hr : meth.sig.returnType = ret) (bk23 : Mem → Int → Option Int) (j : Nat) (hjL : 6 * j + 6 ≤ L) (hbk23 : ∀ (M : Mem) (v4_ : Int) (hv4_ : InR v4_) (hij : v4_ = 6 * ((j + 1 : Nat) : Int)) (cells slots : Nat) (hcs : cells ≤ 232 + (j + 1) ∧ slots ≤ 11930 + 6 * (j + 1)) (H : Heap) (locs : List Loc) (ls : Array Slot), St b C 232 M s H locs → lv_has ls 7 [(0, .ref scr), (1, .ref (b + 0)), (2, .ref (b + 191)), (3, .ref (b + 231)), (4, vI v4_)] → bk23 M v4_ = some 1 → W p l e room_1 s m #[Value.ref scr] below meth c H locs cells slots (lw_Z below #[Value.ref scr] s) (F0 m 23 ls [])) (M : Mem) (v4_ : Int) (hv4_ : InR v4_) (hij : v4_ = 6 * (j : Int)) (cells slots : Nat) (hcs : cells ≤ 232 + j ∧ slots ≤ 11930 + 6 * j) (H : Heap) (locs : List Loc) (ls : Array Slot) (hS : St b C 232 M s H locs) (hl : lv_has ls 7 [(0, .ref scr), (1, .ref (b + 0)), (2, .ref (b + 191)), (3, .ref (b + 231)), (4, vI v4_)]) (hT : t_Law_law_L494 xs L bk23 M v4_ = some 1) : W p l e room_1 s m #[Value.ref scr] below meth c H locs cells slots (lw_Z below #[Value.ref scr] s) (F0 m 494 ls []) := by
  have hcs1 : cells ≤ 233 + j ∧ slots ≤ 11936 + 6 * j := ⟨by omega, by omega⟩
  unfold t_Law_law_L494 at hT
  refine lv_aload_n F.hx F.hb d_Law_law_494 rfl (lv_at hl 1 rfl) ?_
  refine lv_aload_n F.hx F.hb d_Law_law_495 rfl (lv_at hl 0 rfl) ?_
  refine lv_iload F.hx F.hb d_Law_law_496 (lv_at hl 4 rfl) ?_
  refine r_iconst F.hx F.hb d_Law_law_498 ?_
  refine r_iadd F.hx F.hb d_Law_law_499 ?_
  refine r_sld F hS hXs hsl hb (inr_w32 _) (law_ix hij hjL hL 1 (by decide) (by decide)).1 (law_ix hij hjL hL 1 (by decide) (by decide)).2 d_Law_law_500 ?_
  refine lv_aload_n F.hx F.hb d_Law_law_501 rfl (lv_at hl 0 rfl) ?_
  refine lv_iload F.hx F.hb d_Law_law_502 (lv_at hl 4 rfl) ?_
  refine r_iconst F.hx F.hb d_Law_law_504 ?_
  refine r_iadd F.hx F.hb d_Law_law_505 ?_
  refine r_sld F hS hXs hsl hb (inr_w32 _) (law_ix hij hjL hL 2 (by decide) (by decide)).1 (law_ix hij hjL hL 2 (by decide) (by decide)).2 d_Law_law_506 ?_
  refine lv_aload_n F.hx F.hb d_Law_law_507 rfl (lv_at hl 0 rfl) ?_
  refine lv_iload F.hx F.hb d_Law_law_508 (lv_at hl 4 rfl) ?_
  refine r_iconst F.hx F.hb d_Law_law_510 ?_
  refine r_iadd F.hx F.hb d_Law_law_511 ?_
  refine r_sld F hS hXs hsl hb (inr_w32 _) (law_ix hij hjL hL 3 (by decide) (by decide)).1 (law_ix hij hjL hL 3 (by decide) (by decide)).2 d_Law_law_512 ?_
  obtain ⟨q71, hq71, hT⟩ := q_obind hT
  refine r_backL F hS (r_runV (k := 0) (N := 19) (T := T0) (As := [vI (xs ((w32 (v4_ + 1))).toNat).toInt, vI (xs ((w32 (v4_ + 2))).toNat).toInt, vI (xs ((w32 (v4_ + 3))).toNat).toInt]) F hS (show 0 < 232 by decide) (show shK 0 = 4 from rfl) rfl (c_WF_law l (Nat.le_of_ble_eq_true rfl) M (xs ((w32 (v4_ + 1))).toNat).toInt (xs ((w32 (v4_ + 2))).toNat).toInt (xs ((w32 (v4_ + 3))).toNat).toInt (q_inr_toInt _) (q_inr_toInt _) (q_inr_toInt _) _ hq71) gs_WardFallsLaw_53 hd_WF_law ⟨Nat.le_of_ble_eq_true rfl, Nat.le_of_ble_eq_true rfl⟩ rfl hl.1 (Nat.le_of_ble_eq_true rfl) (law_rc hcs1 hjL hL) rfl d_Law_law_513) (fun H locs hS => ?_)
  refine lv_pop2_2 F.hx F.hb d_Law_law_516 rfl ?_
  refine lv_aload_n F.hx F.hb d_Law_law_517 rfl (lv_at hl 2 rfl) ?_
  refine lv_aload_n F.hx F.hb d_Law_law_518 rfl (lv_at hl 0 rfl) ?_
  refine lv_iload F.hx F.hb d_Law_law_519 (lv_at hl 4 rfl) ?_
  refine r_iconst F.hx F.hb d_Law_law_521 ?_
  refine r_iadd F.hx F.hb d_Law_law_522 ?_
  refine r_sld F hS hXs hsl hb (inr_w32 _) (law_ix hij hjL hL 1 (by decide) (by decide)).1 (law_ix hij hjL hL 1 (by decide) (by decide)).2 d_Law_law_523 ?_
  refine lv_aload_n F.hx F.hb d_Law_law_524 rfl (lv_at hl 0 rfl) ?_
  refine lv_iload F.hx F.hb d_Law_law_525 (lv_at hl 4 rfl) ?_
  refine r_iconst F.hx F.hb d_Law_law_527 ?_
  refine r_iadd F.hx F.hb d_Law_law_528 ?_
  refine r_sld F hS hXs hsl hb (inr_w32 _) (law_ix hij hjL hL 2 (by decide) (by decide)).1 (law_ix hij hjL hL 2 (by decide) (by decide)).2 d_Law_law_529 ?_
  refine lv_aload_n F.hx F.hb d_Law_law_530 rfl (lv_at hl 0 rfl) ?_
  refine lv_iload F.hx F.hb d_Law_law_531 (lv_at hl 4 rfl) ?_
  refine r_iconst F.hx F.hb d_Law_law_533 ?_
  refine r_iadd F.hx F.hb d_Law_law_534 ?_
  refine r_sld F hS hXs hsl hb (inr_w32 _) (law_ix hij hjL hL 3 (by decide) (by decide)).1 (law_ix hij hjL hL 3 (by decide) (by decide)).2 d_Law_law_535 ?_
  obtain ⟨q73, hq73, hT⟩ := q_obind hT
  refine r_backL F hS (r_runV (k := 191) (N := 68) (T := T1) (As := [vI (xs ((w32 (v4_ + 1))).toNat).toInt, vI (xs ((w32 (v4_ + 2))).toNat).toInt, vI (xs ((w32 (v4_ + 3))).toNat).toInt]) F hS (show 191 < 232 by decide) (show shK 191 = 5 from rfl) rfl (c_MO_law l (Nat.le_of_ble_eq_true rfl) (q71.1) (xs ((w32 (v4_ + 1))).toNat).toInt (xs ((w32 (v4_ + 2))).toNat).toInt (xs ((w32 (v4_ + 3))).toNat).toInt (q_inr_toInt _) (q_inr_toInt _) (q_inr_toInt _) _ hq73) gs_WardFallsLaw_57 hd_MO_law ⟨Nat.le_of_ble_eq_true rfl, Nat.le_of_ble_eq_true rfl⟩ rfl hl.1 (Nat.le_of_ble_eq_true rfl) (law_rc hcs1 hjL hL) rfl d_Law_law_536) (fun H locs hS => ?_)
  refine lv_pop2_2 F.hx F.hb d_Law_law_539 rfl ?_
  refine lv_goto (tgt := 1540) F.hx F.hb d_Law_law_540 (by decide) ?_
  exact k_Law_law_L1540 l hlf hL F hX hXs hsl hb hlk hr bk23 j hjL hbk23 (q73.1) v4_ hv4_ hij _ _ hcs1 _ _ _ hS (lv_sub hl [0, 1, 2, 3, 4] rfl) hT
set_option maxHeartbeats 16000000 in
set_option maxRecDepth 100000 in
theorem k_Law_law_L543 (l : Launch) (hlf : l.stackTraces = false) {p : Program} {e : Env} {s : State} {m : MethodId} {below : List Frame} {meth : Method} {c : Code} {b : Nat} {C : CT} {scr L : Nat} {xs : Nat → Int32} (hL : L ≤ 3072) (F : Cx b p m c b_Law_law 7 s ([.ref scr] : List Value).toArray "WardFallsLaw" C 232 232) (hX : EX b s) (hXs : va_X scr L xs s s.heap) (hsl : scr < s.heap.size) (hb : b = s.heap.size) (hlk : meth.locks = false) (hr : meth.sig.returnType = ret) (bk23 : Mem → Int → Option Int) (j : Nat) (hjL : 6 * j + 6 ≤ L) (hbk23 : ∀ (M : Mem) (v4_ : Int) (hv4_ : InR v4_) (hij : v4_ = 6 * ((j + 1 : Nat) : Int)) (cells slots : Nat) (hcs : cells ≤ 232 + (j + 1) ∧ slots ≤ 11930 + 6 * (j + 1)) (H : Heap) (locs : List Loc) (ls : Array Slot), St b C 232 M s H locs → lv_has ls 7 [(0, .ref scr), (1, .ref (b + 0)), (2, .ref (b + 191)), (3, .ref (b + 231)), (4, vI v4_)] → bk23 M v4_ = some 1 → W p l e room_1 s m #[Value.ref scr] below meth c H locs cells slots (lw_Z below #[Value.ref scr] s) (F0 m 23 ls [])) (M : Mem) (v4_ : Int) (hv4_ : InR v4_) (hij : v4_ = 6 * (j : Int)) (cells slots : Nat) (hcs : cells ≤ 232 + j ∧ slots ≤ 11930 + 6 * j) (H : Heap) (locs : List Loc) (ls : Array Slot) (hS : St b C 232 M s H locs) (hl : lv_has ls 7 [(0, .ref scr), (1, .ref (b + 0)), (2, .ref (b + 191)), (3, .ref (b + 231)), (4, vI v4_)]) (hT : t_Law_law_L543 xs L bk23 M v4_ = some 1) : W p l e room_1 s m #[Value.ref scr] below meth c H locs cells slots (lw_Z below #[Value.ref scr] s) (F0 m 543 ls []) := by
  have hcs1 : cells ≤ 233 + j ∧ slots ≤ 11936 + 6 * j := ⟨by omega, by omega⟩
  unfold t_Law_law_L543 at hT
  refine lv_aload_n F.hx F.hb d_Law_law_543 rfl (lv_at hl 1 rfl) ?_
  refine lv_aload_n F.hx F.hb d_Law_law_544 rfl (lv_at hl 0 rfl) ?_
  refine lv_iload F.hx F.hb d_Law_law_545 (lv_at hl 4 rfl) ?_
  refine r_iconst F.hx F.hb d_Law_law_547 ?_
  refine r_iadd F.hx F.hb d_Law_law_548 ?_
  refine r_sld F hS hXs hsl hb (inr_w32 _) (law_ix hij hjL hL 1 (by decide) (by decide)).1 (law_ix hij hjL hL 1 (by decide) (by decide)).2 d_Law_law_549 ?_
  obtain ⟨q75, hq75, hT⟩ := q_obind hT
  refine r_backI F hS (r_runV (k := 0) (N := 19) (T := T0) (As := [vI (xs ((w32 (v4_ + 1))).toNat).toInt]) F hS (show 0 < 232 by decide) (show shK 0 = 4 from rfl) rfl (c_WF_rest l (Nat.le_of_ble_eq_true rfl) M (xs ((w32 (v4_ + 1))).toNat).toInt (q_inr_toInt _) _ hq75) gs_WardFallsLaw_58 hd_WF_rest ⟨Nat.le_of_ble_eq_true rfl, Nat.le_of_ble_eq_true rfl⟩ rfl hl.1 (Nat.le_of_ble_eq_true rfl) (law_rc hcs1 hjL hL) rfl d_Law_law_550) (fun H locs hS h76 => ?_)
  refine lv_pop F.hx F.hb d_Law_law_553 rfl ?_
  refine lv_aload_n F.hx F.hb d_Law_law_554 rfl (lv_at hl 2 rfl) ?_
  refine lv_aload_n F.hx F.hb d_Law_law_555 rfl (lv_at hl 0 rfl) ?_
  refine lv_iload F.hx F.hb d_Law_law_556 (lv_at hl 4 rfl) ?_
  refine r_iconst F.hx F.hb d_Law_law_558 ?_
  refine r_iadd F.hx F.hb d_Law_law_559 ?_
  refine r_sld F hS hXs hsl hb (inr_w32 _) (law_ix hij hjL hL 1 (by decide) (by decide)).1 (law_ix hij hjL hL 1 (by decide) (by decide)).2 d_Law_law_560 ?_
  obtain ⟨q77, hq77, hT⟩ := q_obind hT
  refine r_backI F hS (r_runV (k := 191) (N := 68) (T := T1) (As := [vI (xs ((w32 (v4_ + 1))).toNat).toInt]) F hS (show 191 < 232 by decide) (show shK 191 = 5 from rfl) rfl (c_MO_rest l (Nat.le_of_ble_eq_true rfl) (q75.1) (xs ((w32 (v4_ + 1))).toNat).toInt (q_inr_toInt _) _ hq77) gs_WardFallsLaw_61 hd_MO_rest ⟨Nat.le_of_ble_eq_true rfl, Nat.le_of_ble_eq_true rfl⟩ rfl hl.1 (Nat.le_of_ble_eq_true rfl) (law_rc hcs1 hjL hL) rfl d_Law_law_561) (fun H locs hS h78 => ?_)
  refine lv_pop F.hx F.hb d_Law_law_564 rfl ?_
  refine lv_goto (tgt := 1540) F.hx F.hb d_Law_law_565 (by decide) ?_
  exact k_Law_law_L1540 l hlf hL F hX hXs hsl hb hlk hr bk23 j hjL hbk23 (q77.1) v4_ hv4_ hij _ _ hcs1 _ _ _ hS (lv_sub hl [0, 1, 2, 3, 4] rfl) hT
set_option maxHeartbeats 16000000 in
set_option maxRecDepth 100000 in
theorem k_Law_law_L568 (l : Launch) (hlf : l.stackTraces = false) {p : Program} {e : Env} {s : State} {m : MethodId} {below : List Frame} {meth : Method} {c : Code} {b : Nat} {C : CT} {scr L : Nat} {xs : Nat → Int32} (hL : L ≤ 3072) (F : Cx b p m c b_Law_law 7 s ([.ref scr] : List Value).toArray "WardFallsLaw" C 232 232) (hX : EX b s) (hXs : va_X scr L xs s s.heap) (hsl : scr < s.heap.size) (hb : b = s.heap.size) (hlk : meth.locks = false) (hr : meth.sig.returnType = ret) (bk23 : Mem → Int → Option Int) (j : Nat) (hjL : 6 * j + 6 ≤ L) (hbk23 : ∀ (M : Mem) (v4_ : Int) (hv4_ : InR v4_) (hij : v4_ = 6 * ((j + 1 : Nat) : Int)) (cells slots : Nat) (hcs : cells ≤ 232 + (j + 1) ∧ slots ≤ 11930 + 6 * (j + 1)) (H : Heap) (locs : List Loc) (ls : Array Slot), St b C 232 M s H locs → lv_has ls 7 [(0, .ref scr), (1, .ref (b + 0)), (2, .ref (b + 191)), (3, .ref (b + 231)), (4, vI v4_)] → bk23 M v4_ = some 1 → W p l e room_1 s m #[Value.ref scr] below meth c H locs cells slots (lw_Z below #[Value.ref scr] s) (F0 m 23 ls [])) (M : Mem) (v4_ : Int) (hv4_ : InR v4_) (hij : v4_ = 6 * (j : Int)) (cells slots : Nat) (hcs : cells ≤ 232 + j ∧ slots ≤ 11930 + 6 * j) (H : Heap) (locs : List Loc) (ls : Array Slot) (hS : St b C 232 M s H locs) (hl : lv_has ls 7 [(0, .ref scr), (1, .ref (b + 0)), (2, .ref (b + 191)), (3, .ref (b + 231)), (4, vI v4_)]) (hT : t_Law_law_L568 xs L bk23 M v4_ = some 1) : W p l e room_1 s m #[Value.ref scr] below meth c H locs cells slots (lw_Z below #[Value.ref scr] s) (F0 m 568 ls []) := by
  have hcs1 : cells ≤ 233 + j ∧ slots ≤ 11936 + 6 * j := ⟨by omega, by omega⟩
  unfold t_Law_law_L568 at hT
  refine lv_aload_n F.hx F.hb d_Law_law_568 rfl (lv_at hl 1 rfl) ?_
  refine lv_aload_n F.hx F.hb d_Law_law_569 rfl (lv_at hl 0 rfl) ?_
  refine lv_iload F.hx F.hb d_Law_law_570 (lv_at hl 4 rfl) ?_
  refine r_iconst F.hx F.hb d_Law_law_572 ?_
  refine r_iadd F.hx F.hb d_Law_law_573 ?_
  refine r_sld F hS hXs hsl hb (inr_w32 _) (law_ix hij hjL hL 1 (by decide) (by decide)).1 (law_ix hij hjL hL 1 (by decide) (by decide)).2 d_Law_law_574 ?_
  refine lv_aload_n F.hx F.hb d_Law_law_575 rfl (lv_at hl 0 rfl) ?_
  refine lv_iload F.hx F.hb d_Law_law_576 (lv_at hl 4 rfl) ?_
  refine r_iconst F.hx F.hb d_Law_law_578 ?_
  refine r_iadd F.hx F.hb d_Law_law_579 ?_
  refine r_sld F hS hXs hsl hb (inr_w32 _) (law_ix hij hjL hL 2 (by decide) (by decide)).1 (law_ix hij hjL hL 2 (by decide) (by decide)).2 d_Law_law_580 ?_
  obtain ⟨q79, hq79, hT⟩ := q_obind hT
  refine r_backI F hS (r_runV (k := 0) (N := 19) (T := T0) (As := [vI (xs ((w32 (v4_ + 1))).toNat).toInt, vI (xs ((w32 (v4_ + 2))).toNat).toInt]) F hS (show 0 < 232 by decide) (show shK 0 = 4 from rfl) rfl (c_WF_way l (Nat.le_of_ble_eq_true rfl) M (xs ((w32 (v4_ + 1))).toNat).toInt (xs ((w32 (v4_ + 2))).toNat).toInt (q_inr_toInt _) (q_inr_toInt _) _ hq79) gs_WardFallsLaw_62 hd_WF_way ⟨Nat.le_of_ble_eq_true rfl, Nat.le_of_ble_eq_true rfl⟩ rfl hl.1 (Nat.le_of_ble_eq_true rfl) (law_rc hcs1 hjL hL) rfl d_Law_law_581) (fun H locs hS h80 => ?_)
  refine lv_pop F.hx F.hb d_Law_law_584 rfl ?_
  refine lv_aload_n F.hx F.hb d_Law_law_585 rfl (lv_at hl 2 rfl) ?_
  refine lv_aload_n F.hx F.hb d_Law_law_586 rfl (lv_at hl 0 rfl) ?_
  refine lv_iload F.hx F.hb d_Law_law_587 (lv_at hl 4 rfl) ?_
  refine r_iconst F.hx F.hb d_Law_law_589 ?_
  refine r_iadd F.hx F.hb d_Law_law_590 ?_
  refine r_sld F hS hXs hsl hb (inr_w32 _) (law_ix hij hjL hL 1 (by decide) (by decide)).1 (law_ix hij hjL hL 1 (by decide) (by decide)).2 d_Law_law_591 ?_
  refine lv_aload_n F.hx F.hb d_Law_law_592 rfl (lv_at hl 0 rfl) ?_
  refine lv_iload F.hx F.hb d_Law_law_593 (lv_at hl 4 rfl) ?_
  refine r_iconst F.hx F.hb d_Law_law_595 ?_
  refine r_iadd F.hx F.hb d_Law_law_596 ?_
  refine r_sld F hS hXs hsl hb (inr_w32 _) (law_ix hij hjL hL 2 (by decide) (by decide)).1 (law_ix hij hjL hL 2 (by decide) (by decide)).2 d_Law_law_597 ?_
  obtain ⟨q81, hq81, hT⟩ := q_obind hT
  refine r_backI F hS (r_runV (k := 191) (N := 68) (T := T1) (As := [vI (xs ((w32 (v4_ + 1))).toNat).toInt, vI (xs ((w32 (v4_ + 2))).toNat).toInt]) F hS (show 191 < 232 by decide) (show shK 191 = 5 from rfl) rfl (c_MO_way l (Nat.le_of_ble_eq_true rfl) (q79.1) (xs ((w32 (v4_ + 1))).toNat).toInt (xs ((w32 (v4_ + 2))).toNat).toInt (q_inr_toInt _) (q_inr_toInt _) _ hq81) gs_WardFallsLaw_65 hd_MO_way ⟨Nat.le_of_ble_eq_true rfl, Nat.le_of_ble_eq_true rfl⟩ rfl hl.1 (Nat.le_of_ble_eq_true rfl) (law_rc hcs1 hjL hL) rfl d_Law_law_598) (fun H locs hS h82 => ?_)
  refine lv_pop F.hx F.hb d_Law_law_601 rfl ?_
  refine lv_goto (tgt := 1540) F.hx F.hb d_Law_law_602 (by decide) ?_
  exact k_Law_law_L1540 l hlf hL F hX hXs hsl hb hlk hr bk23 j hjL hbk23 (q81.1) v4_ hv4_ hij _ _ hcs1 _ _ _ hS (lv_sub hl [0, 1, 2, 3, 4] rfl) hT
set_option maxHeartbeats 16000000 in
set_option maxRecDepth 100000 in
theorem k_Law_law_L605 (l : Launch) (hlf : l.stackTraces = false) {p : Program} {e : Env} {s : State} {m : MethodId} {below : List Frame} {meth : Method} {c : Code} {b : Nat} {C : CT} {scr L : Nat} {xs : Nat → Int32} (hL : L ≤ 3072) (F : Cx b p m c b_Law_law 7 s ([.ref scr] : List Value).toArray "WardFallsLaw" C 232 232) (hX : EX b s) (hXs : va_X scr L xs s s.heap) (hsl : scr < s.heap.size) (hb : b = s.heap.size) (hlk : meth.locks = false) (hr : meth.sig.returnType = ret) (bk23 : Mem → Int → Option Int) (j : Nat) (hjL : 6 * j + 6 ≤ L) (hbk23 : ∀ (M : Mem) (v4_ : Int) (hv4_ : InR v4_) (hij : v4_ = 6 * ((j + 1 : Nat) : Int)) (cells slots : Nat) (hcs : cells ≤ 232 + (j + 1) ∧ slots ≤ 11930 + 6 * (j + 1)) (H : Heap) (locs : List Loc) (ls : Array Slot), St b C 232 M s H locs → lv_has ls 7 [(0, .ref scr), (1, .ref (b + 0)), (2, .ref (b + 191)), (3, .ref (b + 231)), (4, vI v4_)] → bk23 M v4_ = some 1 → W p l e room_1 s m #[Value.ref scr] below meth c H locs cells slots (lw_Z below #[Value.ref scr] s) (F0 m 23 ls [])) (M : Mem) (v4_ : Int) (hv4_ : InR v4_) (hij : v4_ = 6 * (j : Int)) (cells slots : Nat) (hcs : cells ≤ 232 + j ∧ slots ≤ 11930 + 6 * j) (H : Heap) (locs : List Loc) (ls : Array Slot) (hS : St b C 232 M s H locs) (hl : lv_has ls 7 [(0, .ref scr), (1, .ref (b + 0)), (2, .ref (b + 191)), (3, .ref (b + 231)), (4, vI v4_)]) (hT : t_Law_law_L605 xs L bk23 M v4_ = some 1) : W p l e room_1 s m #[Value.ref scr] below meth c H locs cells slots (lw_Z below #[Value.ref scr] s) (F0 m 605 ls []) := by
  have hcs1 : cells ≤ 233 + j ∧ slots ≤ 11936 + 6 * j := ⟨by omega, by omega⟩
  unfold t_Law_law_L605 at hT
  refine lv_aload_n F.hx F.hb d_Law_law_605 rfl (lv_at hl 1 rfl) ?_
  refine lv_aload_n F.hx F.hb d_Law_law_606 rfl (lv_at hl 0 rfl) ?_
  refine lv_iload F.hx F.hb d_Law_law_607 (lv_at hl 4 rfl) ?_
  refine r_iconst F.hx F.hb d_Law_law_609 ?_
  refine r_iadd F.hx F.hb d_Law_law_610 ?_
  refine r_sld F hS hXs hsl hb (inr_w32 _) (law_ix hij hjL hL 1 (by decide) (by decide)).1 (law_ix hij hjL hL 1 (by decide) (by decide)).2 d_Law_law_611 ?_
  refine lv_aload_n F.hx F.hb d_Law_law_612 rfl (lv_at hl 0 rfl) ?_
  refine lv_iload F.hx F.hb d_Law_law_613 (lv_at hl 4 rfl) ?_
  refine r_iconst F.hx F.hb d_Law_law_615 ?_
  refine r_iadd F.hx F.hb d_Law_law_616 ?_
  refine r_sld F hS hXs hsl hb (inr_w32 _) (law_ix hij hjL hL 2 (by decide) (by decide)).1 (law_ix hij hjL hL 2 (by decide) (by decide)).2 d_Law_law_617 ?_
  obtain ⟨q83, hq83, hT⟩ := q_obind hT
  refine r_backI F hS (r_runV (k := 0) (N := 19) (T := T0) (As := [vI (xs ((w32 (v4_ + 1))).toNat).toInt, vI (xs ((w32 (v4_ + 2))).toNat).toInt]) F hS (show 0 < 232 by decide) (show shK 0 = 4 from rfl) rfl (c_WF_falls l (Nat.le_of_ble_eq_true rfl) M (xs ((w32 (v4_ + 1))).toNat).toInt (xs ((w32 (v4_ + 2))).toNat).toInt (q_inr_toInt _) (q_inr_toInt _) _ hq83) gs_WardFallsLaw_66 hd_WF_falls ⟨Nat.le_of_ble_eq_true rfl, Nat.le_of_ble_eq_true rfl⟩ rfl hl.1 (Nat.le_of_ble_eq_true rfl) (law_rc hcs1 hjL hL) rfl d_Law_law_618) (fun H locs hS h84 => ?_)
  refine lv_pop F.hx F.hb d_Law_law_621 rfl ?_
  refine lv_aload_n F.hx F.hb d_Law_law_622 rfl (lv_at hl 2 rfl) ?_
  refine lv_aload_n F.hx F.hb d_Law_law_623 rfl (lv_at hl 0 rfl) ?_
  refine lv_iload F.hx F.hb d_Law_law_624 (lv_at hl 4 rfl) ?_
  refine r_iconst F.hx F.hb d_Law_law_626 ?_
  refine r_iadd F.hx F.hb d_Law_law_627 ?_
  refine r_sld F hS hXs hsl hb (inr_w32 _) (law_ix hij hjL hL 1 (by decide) (by decide)).1 (law_ix hij hjL hL 1 (by decide) (by decide)).2 d_Law_law_628 ?_
  refine lv_aload_n F.hx F.hb d_Law_law_629 rfl (lv_at hl 0 rfl) ?_
  refine lv_iload F.hx F.hb d_Law_law_630 (lv_at hl 4 rfl) ?_
  refine r_iconst F.hx F.hb d_Law_law_632 ?_
  refine r_iadd F.hx F.hb d_Law_law_633 ?_
  refine r_sld F hS hXs hsl hb (inr_w32 _) (law_ix hij hjL hL 2 (by decide) (by decide)).1 (law_ix hij hjL hL 2 (by decide) (by decide)).2 d_Law_law_634 ?_
  obtain ⟨q85, hq85, hT⟩ := q_obind hT
  refine r_backI F hS (r_runV (k := 191) (N := 68) (T := T1) (As := [vI (xs ((w32 (v4_ + 1))).toNat).toInt, vI (xs ((w32 (v4_ + 2))).toNat).toInt]) F hS (show 191 < 232 by decide) (show shK 191 = 5 from rfl) rfl (c_MO_falls l (Nat.le_of_ble_eq_true rfl) (q83.1) (xs ((w32 (v4_ + 1))).toNat).toInt (xs ((w32 (v4_ + 2))).toNat).toInt (q_inr_toInt _) (q_inr_toInt _) _ hq85) gs_WardFallsLaw_69 hd_MO_falls ⟨Nat.le_of_ble_eq_true rfl, Nat.le_of_ble_eq_true rfl⟩ rfl hl.1 (Nat.le_of_ble_eq_true rfl) (law_rc hcs1 hjL hL) rfl d_Law_law_635) (fun H locs hS h86 => ?_)
  refine lv_pop F.hx F.hb d_Law_law_638 rfl ?_
  refine lv_goto (tgt := 1540) F.hx F.hb d_Law_law_639 (by decide) ?_
  exact k_Law_law_L1540 l hlf hL F hX hXs hsl hb hlk hr bk23 j hjL hbk23 (q85.1) v4_ hv4_ hij _ _ hcs1 _ _ _ hS (lv_sub hl [0, 1, 2, 3, 4] rfl) hT
set_option maxHeartbeats 16000000 in
set_option maxRecDepth 100000 in
theorem k_Law_law_L642 (l : Launch) (hlf : l.stackTraces = false) {p : Program} {e : Env} {s : State} {m : MethodId} {below : List Frame} {meth : Method} {c : Code} {b : Nat} {C : CT} {scr L : Nat} {xs : Nat → Int32} (hL : L ≤ 3072) (F : Cx b p m c b_Law_law 7 s ([.ref scr] : List Value).toArray "WardFallsLaw" C 232 232) (hX : EX b s) (hXs : va_X scr L xs s s.heap) (hsl : scr < s.heap.size) (hb : b = s.heap.size) (hlk : meth.locks = false) (hr : meth.sig.returnType = ret) (bk23 : Mem → Int → Option Int) (j : Nat) (hjL : 6 * j + 6 ≤ L) (hbk23 : ∀ (M : Mem) (v4_ : Int) (hv4_ : InR v4_) (hij : v4_ = 6 * ((j + 1 : Nat) : Int)) (cells slots : Nat) (hcs : cells ≤ 232 + (j + 1) ∧ slots ≤ 11930 + 6 * (j + 1)) (H : Heap) (locs : List Loc) (ls : Array Slot), St b C 232 M s H locs → lv_has ls 7 [(0, .ref scr), (1, .ref (b + 0)), (2, .ref (b + 191)), (3, .ref (b + 231)), (4, vI v4_)] → bk23 M v4_ = some 1 → W p l e room_1 s m #[Value.ref scr] below meth c H locs cells slots (lw_Z below #[Value.ref scr] s) (F0 m 23 ls [])) (M : Mem) (v4_ : Int) (hv4_ : InR v4_) (hij : v4_ = 6 * (j : Int)) (cells slots : Nat) (hcs : cells ≤ 232 + j ∧ slots ≤ 11930 + 6 * j) (H : Heap) (locs : List Loc) (ls : Array Slot) (hS : St b C 232 M s H locs) (hl : lv_has ls 7 [(0, .ref scr), (1, .ref (b + 0)), (2, .ref (b + 191)), (3, .ref (b + 231)), (4, vI v4_)]) (hT : t_Law_law_L642 xs L bk23 M v4_ = some 1) : W p l e room_1 s m #[Value.ref scr] below meth c H locs cells slots (lw_Z below #[Value.ref scr] s) (F0 m 642 ls []) := by
  have hcs1 : cells ≤ 233 + j ∧ slots ≤ 11936 + 6 * j := ⟨by omega, by omega⟩
  unfold t_Law_law_L642 at hT
  refine lv_aload_n F.hx F.hb d_Law_law_642 rfl (lv_at hl 1 rfl) ?_
  refine lv_aload_n F.hx F.hb d_Law_law_643 rfl (lv_at hl 0 rfl) ?_
  refine lv_iload F.hx F.hb d_Law_law_644 (lv_at hl 4 rfl) ?_
  refine r_iconst F.hx F.hb d_Law_law_646 ?_
  refine r_iadd F.hx F.hb d_Law_law_647 ?_
  refine r_sld F hS hXs hsl hb (inr_w32 _) (law_ix hij hjL hL 1 (by decide) (by decide)).1 (law_ix hij hjL hL 1 (by decide) (by decide)).2 d_Law_law_648 ?_
  obtain ⟨q87, hq87, hT⟩ := q_obind hT
  refine r_backI F hS (r_runV (k := 0) (N := 19) (T := T0) (As := [vI (xs ((w32 (v4_ + 1))).toNat).toInt]) F hS (show 0 < 232 by decide) (show shK 0 = 4 from rfl) rfl (c_WF_beats l (Nat.le_of_ble_eq_true rfl) M (xs ((w32 (v4_ + 1))).toNat).toInt (q_inr_toInt _) _ hq87) gs_WardFallsLaw_70 hd_WF_beats ⟨Nat.le_of_ble_eq_true rfl, Nat.le_of_ble_eq_true rfl⟩ rfl hl.1 (Nat.le_of_ble_eq_true rfl) (law_rc hcs1 hjL hL) rfl d_Law_law_649) (fun H locs hS h88 => ?_)
  refine lv_pop F.hx F.hb d_Law_law_652 rfl ?_
  refine lv_aload_n F.hx F.hb d_Law_law_653 rfl (lv_at hl 2 rfl) ?_
  refine lv_aload_n F.hx F.hb d_Law_law_654 rfl (lv_at hl 0 rfl) ?_
  refine lv_iload F.hx F.hb d_Law_law_655 (lv_at hl 4 rfl) ?_
  refine r_iconst F.hx F.hb d_Law_law_657 ?_
  refine r_iadd F.hx F.hb d_Law_law_658 ?_
  refine r_sld F hS hXs hsl hb (inr_w32 _) (law_ix hij hjL hL 1 (by decide) (by decide)).1 (law_ix hij hjL hL 1 (by decide) (by decide)).2 d_Law_law_659 ?_
  obtain ⟨q89, hq89, hT⟩ := q_obind hT
  refine r_backI F hS (r_runV (k := 191) (N := 68) (T := T1) (As := [vI (xs ((w32 (v4_ + 1))).toNat).toInt]) F hS (show 191 < 232 by decide) (show shK 191 = 5 from rfl) rfl (c_MO_beats l (Nat.le_of_ble_eq_true rfl) (q87.1) (xs ((w32 (v4_ + 1))).toNat).toInt (q_inr_toInt _) _ hq89) gs_WardFallsLaw_73 hd_MO_beats ⟨Nat.le_of_ble_eq_true rfl, Nat.le_of_ble_eq_true rfl⟩ rfl hl.1 (Nat.le_of_ble_eq_true rfl) (law_rc hcs1 hjL hL) rfl d_Law_law_660) (fun H locs hS h90 => ?_)
  refine lv_pop F.hx F.hb d_Law_law_663 rfl ?_
  refine lv_goto (tgt := 1540) F.hx F.hb d_Law_law_664 (by decide) ?_
  exact k_Law_law_L1540 l hlf hL F hX hXs hsl hb hlk hr bk23 j hjL hbk23 (q89.1) v4_ hv4_ hij _ _ hcs1 _ _ _ hS (lv_sub hl [0, 1, 2, 3, 4] rfl) hT
set_option maxHeartbeats 16000000 in
set_option maxRecDepth 100000 in
theorem k_Law_law_L667 (l : Launch) (hlf : l.stackTraces = false) {p : Program} {e : Env} {s : State} {m : MethodId} {below : List Frame} {meth : Method} {c : Code} {b : Nat} {C : CT} {scr L : Nat} {xs : Nat → Int32} (hL : L ≤ 3072) (F : Cx b p m c b_Law_law 7 s ([.ref scr] : List Value).toArray "WardFallsLaw" C 232 232) (hX : EX b s) (hXs : va_X scr L xs s s.heap) (hsl : scr < s.heap.size) (hb : b = s.heap.size) (hlk : meth.locks = false) (hr : meth.sig.returnType = ret) (bk23 : Mem → Int → Option Int) (j : Nat) (hjL : 6 * j + 6 ≤ L) (hbk23 : ∀ (M : Mem) (v4_ : Int) (hv4_ : InR v4_) (hij : v4_ = 6 * ((j + 1 : Nat) : Int)) (cells slots : Nat) (hcs : cells ≤ 232 + (j + 1) ∧ slots ≤ 11930 + 6 * (j + 1)) (H : Heap) (locs : List Loc) (ls : Array Slot), St b C 232 M s H locs → lv_has ls 7 [(0, .ref scr), (1, .ref (b + 0)), (2, .ref (b + 191)), (3, .ref (b + 231)), (4, vI v4_)] → bk23 M v4_ = some 1 → W p l e room_1 s m #[Value.ref scr] below meth c H locs cells slots (lw_Z below #[Value.ref scr] s) (F0 m 23 ls [])) (M : Mem) (v4_ : Int) (hv4_ : InR v4_) (hij : v4_ = 6 * (j : Int)) (cells slots : Nat) (hcs : cells ≤ 232 + j ∧ slots ≤ 11930 + 6 * j) (H : Heap) (locs : List Loc) (ls : Array Slot) (hS : St b C 232 M s H locs) (hl : lv_has ls 7 [(0, .ref scr), (1, .ref (b + 0)), (2, .ref (b + 191)), (3, .ref (b + 231)), (4, vI v4_)]) (hT : t_Law_law_L667 xs L bk23 M v4_ = some 1) : W p l e room_1 s m #[Value.ref scr] below meth c H locs cells slots (lw_Z below #[Value.ref scr] s) (F0 m 667 ls []) := by
  have hcs1 : cells ≤ 233 + j ∧ slots ≤ 11936 + 6 * j := ⟨by omega, by omega⟩
  unfold t_Law_law_L667 at hT
  refine lv_aload_n F.hx F.hb d_Law_law_667 rfl (lv_at hl 1 rfl) ?_
  refine lv_aload_n F.hx F.hb d_Law_law_668 rfl (lv_at hl 0 rfl) ?_
  refine lv_iload F.hx F.hb d_Law_law_669 (lv_at hl 4 rfl) ?_
  refine r_iconst F.hx F.hb d_Law_law_671 ?_
  refine r_iadd F.hx F.hb d_Law_law_672 ?_
  refine r_sld F hS hXs hsl hb (inr_w32 _) (law_ix hij hjL hL 1 (by decide) (by decide)).1 (law_ix hij hjL hL 1 (by decide) (by decide)).2 d_Law_law_673 ?_
  refine lv_aload_n F.hx F.hb d_Law_law_674 rfl (lv_at hl 0 rfl) ?_
  refine lv_iload F.hx F.hb d_Law_law_675 (lv_at hl 4 rfl) ?_
  refine r_iconst F.hx F.hb d_Law_law_677 ?_
  refine r_iadd F.hx F.hb d_Law_law_678 ?_
  refine r_sld F hS hXs hsl hb (inr_w32 _) (law_ix hij hjL hL 2 (by decide) (by decide)).1 (law_ix hij hjL hL 2 (by decide) (by decide)).2 d_Law_law_679 ?_
  obtain ⟨q91, hq91, hT⟩ := q_obind hT
  refine r_backZ F hS (r_runV (k := 0) (N := 19) (T := T0) (As := [vI (xs ((w32 (v4_ + 1))).toNat).toInt, vI (xs ((w32 (v4_ + 2))).toNat).toInt]) F hS (show 0 < 232 by decide) (show shK 0 = 4 from rfl) rfl (c_WF_vote l (Nat.le_of_ble_eq_true rfl) M (xs ((w32 (v4_ + 1))).toNat).toInt (xs ((w32 (v4_ + 2))).toNat).toInt (q_inr_toInt _) (q_inr_toInt _) _ hq91) gs_WardFallsLaw_74 hd_WF_vote ⟨Nat.le_of_ble_eq_true rfl, Nat.le_of_ble_eq_true rfl⟩ rfl hl.1 (Nat.le_of_ble_eq_true rfl) (law_rc hcs1 hjL hL) rfl d_Law_law_680) (fun H locs hS h92 => ?_)
  refine lv_pop F.hx F.hb d_Law_law_683 rfl ?_
  refine lv_aload_n F.hx F.hb d_Law_law_684 rfl (lv_at hl 2 rfl) ?_
  refine lv_aload_n F.hx F.hb d_Law_law_685 rfl (lv_at hl 0 rfl) ?_
  refine lv_iload F.hx F.hb d_Law_law_686 (lv_at hl 4 rfl) ?_
  refine r_iconst F.hx F.hb d_Law_law_688 ?_
  refine r_iadd F.hx F.hb d_Law_law_689 ?_
  refine r_sld F hS hXs hsl hb (inr_w32 _) (law_ix hij hjL hL 1 (by decide) (by decide)).1 (law_ix hij hjL hL 1 (by decide) (by decide)).2 d_Law_law_690 ?_
  refine lv_aload_n F.hx F.hb d_Law_law_691 rfl (lv_at hl 0 rfl) ?_
  refine lv_iload F.hx F.hb d_Law_law_692 (lv_at hl 4 rfl) ?_
  refine r_iconst F.hx F.hb d_Law_law_694 ?_
  refine r_iadd F.hx F.hb d_Law_law_695 ?_
  refine r_sld F hS hXs hsl hb (inr_w32 _) (law_ix hij hjL hL 2 (by decide) (by decide)).1 (law_ix hij hjL hL 2 (by decide) (by decide)).2 d_Law_law_696 ?_
  obtain ⟨q93, hq93, hT⟩ := q_obind hT
  refine r_backZ F hS (r_runV (k := 191) (N := 68) (T := T1) (As := [vI (xs ((w32 (v4_ + 1))).toNat).toInt, vI (xs ((w32 (v4_ + 2))).toNat).toInt]) F hS (show 191 < 232 by decide) (show shK 191 = 5 from rfl) rfl (c_MO_vote l (Nat.le_of_ble_eq_true rfl) (q91.1) (xs ((w32 (v4_ + 1))).toNat).toInt (xs ((w32 (v4_ + 2))).toNat).toInt (q_inr_toInt _) (q_inr_toInt _) _ hq93) gs_WardFallsLaw_78 hd_MO_vote ⟨Nat.le_of_ble_eq_true rfl, Nat.le_of_ble_eq_true rfl⟩ rfl hl.1 (Nat.le_of_ble_eq_true rfl) (law_rc hcs1 hjL hL) rfl d_Law_law_697) (fun H locs hS h94 => ?_)
  refine lv_pop F.hx F.hb d_Law_law_700 rfl ?_
  refine lv_goto (tgt := 1540) F.hx F.hb d_Law_law_701 (by decide) ?_
  exact k_Law_law_L1540 l hlf hL F hX hXs hsl hb hlk hr bk23 j hjL hbk23 (q93.1) v4_ hv4_ hij _ _ hcs1 _ _ _ hS (lv_sub hl [0, 1, 2, 3, 4] rfl) hT
set_option maxHeartbeats 16000000 in
set_option maxRecDepth 100000 in
theorem k_Law_law_L750 (l : Launch) (hlf : l.stackTraces = false) {p : Program} {e : Env} {s : State} {m : MethodId} {below : List Frame} {meth : Method} {c : Code} {b : Nat} {C : CT} {scr L : Nat} {xs : Nat → Int32} (hL : L ≤ 3072) (F : Cx b p m c b_Law_law 7 s ([.ref scr] : List Value).toArray "WardFallsLaw" C 232 232) (hX : EX b s) (hXs : va_X scr L xs s s.heap) (hsl : scr < s.heap.size) (hb : b = s.heap.size) (hlk : meth.locks = false) (hr : meth.sig.returnType = ret) (bk23 : Mem → Int → Option Int) (j : Nat) (hjL : 6 * j + 6 ≤ L) (hbk23 : ∀ (M : Mem) (v4_ : Int) (hv4_ : InR v4_) (hij : v4_ = 6 * ((j + 1 : Nat) : Int)) (cells slots : Nat) (hcs : cells ≤ 232 + (j + 1) ∧ slots ≤ 11930 + 6 * (j + 1)) (H : Heap) (locs : List Loc) (ls : Array Slot), St b C 232 M s H locs → lv_has ls 7 [(0, .ref scr), (1, .ref (b + 0)), (2, .ref (b + 191)), (3, .ref (b + 231)), (4, vI v4_)] → bk23 M v4_ = some 1 → W p l e room_1 s m #[Value.ref scr] below meth c H locs cells slots (lw_Z below #[Value.ref scr] s) (F0 m 23 ls [])) (M : Mem) (v4_ : Int) (hv4_ : InR v4_) (v6_ : Int) (hv6_ : InR v6_) (v7_ : Int) (hv7_ : v7_ = 0 ∨ v7_ = 1) (hij : v4_ = 6 * (j : Int)) (cells slots : Nat) (hcs1 : cells ≤ 233 + j ∧ slots ≤ 11936 + 6 * j) (H : Heap) (locs : List Loc) (ls : Array Slot) (hS : St b C 232 M s H locs) (hl : lv_has ls 7 [(0, .ref scr), (1, .ref (b + 0)), (2, .ref (b + 191)), (3, .ref (b + 231)), (4, vI v4_)]) (hT : t_Law_law_L750 xs L bk23 M v4_ v6_ v7_ = some 1) : W p l e room_1 s m #[Value.ref scr] below meth c H locs cells slots (lw_Z below #[Value.ref scr] s) (F0 m 750 ls [vI v7_, vI v6_, .ref (b + 191)]) := by
  unfold t_Law_law_L750 at hT
  obtain ⟨q208, hq208, hT⟩ := q_obind hT
  refine r_backZ F hS (r_runV (k := 191) (N := 68) (T := T1) (As := [vI v6_, vI v7_]) F hS (show 191 < 232 by decide) (show shK 191 = 5 from rfl) rfl (c_MO_net l (Nat.le_of_ble_eq_true rfl) M v6_ v7_ hv6_ (inr_z hv7_) _ hq208) gs_WardFallsLaw_83 hd_MO_net ⟨Nat.le_of_ble_eq_true rfl, Nat.le_of_ble_eq_true rfl⟩ rfl hl.1 (Nat.le_of_ble_eq_true rfl) (law_rc hcs1 hjL hL) rfl d_Law_law_750) (fun H locs hS h209 => ?_)
  refine lv_pop F.hx F.hb d_Law_law_753 rfl ?_
  refine lv_goto (tgt := 1540) F.hx F.hb d_Law_law_754 (by decide) ?_
  exact k_Law_law_L1540 l hlf hL F hX hXs hsl hb hlk hr bk23 j hjL hbk23 (q208.1) v4_ hv4_ hij _ _ hcs1 _ _ _ hS (lv_sub hl [0, 1, 2, 3, 4] rfl) hT
set_option maxHeartbeats 16000000 in
set_option maxRecDepth 100000 in
theorem k_Law_law_L725 (l : Launch) (hlf : l.stackTraces = false) {p : Program} {e : Env} {s : State} {m : MethodId} {below : List Frame} {meth : Method} {c : Code} {b : Nat} {C : CT} {scr L : Nat} {xs : Nat → Int32} (hL : L ≤ 3072) (F : Cx b p m c b_Law_law 7 s ([.ref scr] : List Value).toArray "WardFallsLaw" C 232 232) (hX : EX b s) (hXs : va_X scr L xs s s.heap) (hsl : scr < s.heap.size) (hb : b = s.heap.size) (hlk : meth.locks = false) (hr : meth.sig.returnType = ret) (bk23 : Mem → Int → Option Int) (j : Nat) (hjL : 6 * j + 6 ≤ L) (hbk23 : ∀ (M : Mem) (v4_ : Int) (hv4_ : InR v4_) (hij : v4_ = 6 * ((j + 1 : Nat) : Int)) (cells slots : Nat) (hcs : cells ≤ 232 + (j + 1) ∧ slots ≤ 11930 + 6 * (j + 1)) (H : Heap) (locs : List Loc) (ls : Array Slot), St b C 232 M s H locs → lv_has ls 7 [(0, .ref scr), (1, .ref (b + 0)), (2, .ref (b + 191)), (3, .ref (b + 231)), (4, vI v4_)] → bk23 M v4_ = some 1 → W p l e room_1 s m #[Value.ref scr] below meth c H locs cells slots (lw_Z below #[Value.ref scr] s) (F0 m 23 ls [])) (M : Mem) (v4_ : Int) (hv4_ : InR v4_) (v6_ : Int) (hv6_ : InR v6_) (v7_ : Int) (hv7_ : v7_ = 0 ∨ v7_ = 1) (hij : v4_ = 6 * (j : Int)) (cells slots : Nat) (hcs1 : cells ≤ 233 + j ∧ slots ≤ 11936 + 6 * j) (H : Heap) (locs : List Loc) (ls : Array Slot) (hS : St b C 232 M s H locs) (hl : lv_has ls 7 [(0, .ref scr), (1, .ref (b + 0)), (2, .ref (b + 191)), (3, .ref (b + 231)), (4, vI v4_)]) (hT : t_Law_law_L725 xs L bk23 M v4_ v6_ v7_ = some 1) : W p l e room_1 s m #[Value.ref scr] below meth c H locs cells slots (lw_Z below #[Value.ref scr] s) (F0 m 725 ls [vI v7_, vI v6_, .ref (b + 0)]) := by
  unfold t_Law_law_L725 at hT
  obtain ⟨q205, hq205⟩ : ∃ q, q = (t_WF_net M v6_ v7_) := ⟨_, rfl⟩
  replace hT := qlet_eq hT hq205
  refine r_backZ F hS (r_runV (k := 0) (N := 19) (T := T0) (As := [vI v6_, vI v7_]) F hS (show 0 < 232 by decide) (show shK 0 = 4 from rfl) rfl (c_WF_net l (Nat.le_of_ble_eq_true rfl) M v6_ v7_ hv6_ (inr_z hv7_) _ hq205.symm) gs_WardFallsLaw_79 hd_WF_net ⟨Nat.le_of_ble_eq_true rfl, Nat.le_of_ble_eq_true rfl⟩ rfl hl.1 (Nat.le_of_ble_eq_true rfl) (law_rc hcs1 hjL hL) rfl d_Law_law_725) (fun H locs hS h206 => ?_)
  refine lv_pop F.hx F.hb d_Law_law_728 rfl ?_
  refine lv_aload_n F.hx F.hb d_Law_law_729 rfl (lv_at hl 2 rfl) ?_
  refine lv_aload_n F.hx F.hb d_Law_law_730 rfl (lv_at hl 0 rfl) ?_
  refine lv_iload F.hx F.hb d_Law_law_731 (lv_at hl 4 rfl) ?_
  refine r_iconst F.hx F.hb d_Law_law_733 ?_
  refine r_iadd F.hx F.hb d_Law_law_734 ?_
  refine r_sld F hS hXs hsl hb (inr_w32 _) (law_ix hij hjL hL 1 (by decide) (by decide)).1 (law_ix hij hjL hL 1 (by decide) (by decide)).2 d_Law_law_735 ?_
  refine lv_aload_n F.hx F.hb d_Law_law_736 rfl (lv_at hl 0 rfl) ?_
  refine lv_iload F.hx F.hb d_Law_law_737 (lv_at hl 4 rfl) ?_
  refine r_iconst F.hx F.hb d_Law_law_739 ?_
  refine r_iadd F.hx F.hb d_Law_law_740 ?_
  refine r_sld F hS hXs hsl hb (inr_w32 _) (law_ix hij hjL hL 2 (by decide) (by decide)).1 (law_ix hij hjL hL 2 (by decide) (by decide)).2 d_Law_law_741 ?_
  refine r_if_eq (tgt := 749) F.hx F.hb (q_inr_toInt _) d_Law_law_742 (by decide) (fun c207 => ?_) (fun c207 => ?_)
  · replace hT := (if_pos c207).symm.trans hT
    refine r_iconst F.hx F.hb d_Law_law_749 ?_
    exact k_Law_law_L750 l hlf hL F hX hXs hsl hb hlk hr bk23 j hjL hbk23 (q205.1) v4_ hv4_ (xs ((w32 (v4_ + 1))).toNat).toInt (q_inr_toInt _) 0 (Or.inl rfl) hij _ _ hcs1 _ _ _ hS (lv_sub hl [0, 1, 2, 3, 4] rfl) hT
  · replace hT := (if_neg c207).symm.trans hT
    refine r_iconst F.hx F.hb d_Law_law_745 ?_
    refine lv_goto (tgt := 750) F.hx F.hb d_Law_law_746 (by decide) ?_
    exact k_Law_law_L750 l hlf hL F hX hXs hsl hb hlk hr bk23 j hjL hbk23 (q205.1) v4_ hv4_ (xs ((w32 (v4_ + 1))).toNat).toInt (q_inr_toInt _) 1 (Or.inr rfl) hij _ _ hcs1 _ _ _ hS (lv_sub hl [0, 1, 2, 3, 4] rfl) hT
set_option maxHeartbeats 16000000 in
set_option maxRecDepth 100000 in
theorem k_Law_law_L704 (l : Launch) (hlf : l.stackTraces = false) {p : Program} {e : Env} {s : State} {m : MethodId} {below : List Frame} {meth : Method} {c : Code} {b : Nat} {C : CT} {scr L : Nat} {xs : Nat → Int32} (hL : L ≤ 3072) (F : Cx b p m c b_Law_law 7 s ([.ref scr] : List Value).toArray "WardFallsLaw" C 232 232) (hX : EX b s) (hXs : va_X scr L xs s s.heap) (hsl : scr < s.heap.size) (hb : b = s.heap.size) (hlk : meth.locks = false) (hr : meth.sig.returnType = ret) (bk23 : Mem → Int → Option Int) (j : Nat) (hjL : 6 * j + 6 ≤ L) (hbk23 : ∀ (M : Mem) (v4_ : Int) (hv4_ : InR v4_) (hij : v4_ = 6 * ((j + 1 : Nat) : Int)) (cells slots : Nat) (hcs : cells ≤ 232 + (j + 1) ∧ slots ≤ 11930 + 6 * (j + 1)) (H : Heap) (locs : List Loc) (ls : Array Slot), St b C 232 M s H locs → lv_has ls 7 [(0, .ref scr), (1, .ref (b + 0)), (2, .ref (b + 191)), (3, .ref (b + 231)), (4, vI v4_)] → bk23 M v4_ = some 1 → W p l e room_1 s m #[Value.ref scr] below meth c H locs cells slots (lw_Z below #[Value.ref scr] s) (F0 m 23 ls [])) (M : Mem) (v4_ : Int) (hv4_ : InR v4_) (hij : v4_ = 6 * (j : Int)) (cells slots : Nat) (hcs : cells ≤ 232 + j ∧ slots ≤ 11930 + 6 * j) (H : Heap) (locs : List Loc) (ls : Array Slot) (hS : St b C 232 M s H locs) (hl : lv_has ls 7 [(0, .ref scr), (1, .ref (b + 0)), (2, .ref (b + 191)), (3, .ref (b + 231)), (4, vI v4_)]) (hT : t_Law_law_L704 xs L bk23 M v4_ = some 1) : W p l e room_1 s m #[Value.ref scr] below meth c H locs cells slots (lw_Z below #[Value.ref scr] s) (F0 m 704 ls []) := by
  have hcs1 : cells ≤ 233 + j ∧ slots ≤ 11936 + 6 * j := ⟨by omega, by omega⟩
  unfold t_Law_law_L704 at hT
  refine lv_aload_n F.hx F.hb d_Law_law_704 rfl (lv_at hl 1 rfl) ?_
  refine lv_aload_n F.hx F.hb d_Law_law_705 rfl (lv_at hl 0 rfl) ?_
  refine lv_iload F.hx F.hb d_Law_law_706 (lv_at hl 4 rfl) ?_
  refine r_iconst F.hx F.hb d_Law_law_708 ?_
  refine r_iadd F.hx F.hb d_Law_law_709 ?_
  refine r_sld F hS hXs hsl hb (inr_w32 _) (law_ix hij hjL hL 1 (by decide) (by decide)).1 (law_ix hij hjL hL 1 (by decide) (by decide)).2 d_Law_law_710 ?_
  refine lv_aload_n F.hx F.hb d_Law_law_711 rfl (lv_at hl 0 rfl) ?_
  refine lv_iload F.hx F.hb d_Law_law_712 (lv_at hl 4 rfl) ?_
  refine r_iconst F.hx F.hb d_Law_law_714 ?_
  refine r_iadd F.hx F.hb d_Law_law_715 ?_
  refine r_sld F hS hXs hsl hb (inr_w32 _) (law_ix hij hjL hL 2 (by decide) (by decide)).1 (law_ix hij hjL hL 2 (by decide) (by decide)).2 d_Law_law_716 ?_
  refine r_if_eq (tgt := 724) F.hx F.hb (q_inr_toInt _) d_Law_law_717 (by decide) (fun c95 => ?_) (fun c95 => ?_)
  · replace hT := (if_pos c95).symm.trans hT
    refine r_iconst F.hx F.hb d_Law_law_724 ?_
    exact k_Law_law_L725 l hlf hL F hX hXs hsl hb hlk hr bk23 j hjL hbk23 M v4_ hv4_ (xs ((w32 (v4_ + 1))).toNat).toInt (q_inr_toInt _) 0 (Or.inl rfl) hij _ _ hcs1 _ _ _ hS (lv_sub hl [0, 1, 2, 3, 4] rfl) hT
  · replace hT := (if_neg c95).symm.trans hT
    refine r_iconst F.hx F.hb d_Law_law_720 ?_
    refine lv_goto (tgt := 725) F.hx F.hb d_Law_law_721 (by decide) ?_
    exact k_Law_law_L725 l hlf hL F hX hXs hsl hb hlk hr bk23 j hjL hbk23 M v4_ hv4_ (xs ((w32 (v4_ + 1))).toNat).toInt (q_inr_toInt _) 1 (Or.inr rfl) hij _ _ hcs1 _ _ _ hS (lv_sub hl [0, 1, 2, 3, 4] rfl) hT
set_option maxHeartbeats 16000000 in
set_option maxRecDepth 100000 in
theorem k_Law_law_L757 (l : Launch) (hlf : l.stackTraces = false) {p : Program} {e : Env} {s : State} {m : MethodId} {below : List Frame} {meth : Method} {c : Code} {b : Nat} {C : CT} {scr L : Nat} {xs : Nat → Int32} (hL : L ≤ 3072) (F : Cx b p m c b_Law_law 7 s ([.ref scr] : List Value).toArray "WardFallsLaw" C 232 232) (hX : EX b s) (hXs : va_X scr L xs s s.heap) (hsl : scr < s.heap.size) (hb : b = s.heap.size) (hlk : meth.locks = false) (hr : meth.sig.returnType = ret) (bk23 : Mem → Int → Option Int) (j : Nat) (hjL : 6 * j + 6 ≤ L) (hbk23 : ∀ (M : Mem) (v4_ : Int) (hv4_ : InR v4_) (hij : v4_ = 6 * ((j + 1 : Nat) : Int)) (cells slots : Nat) (hcs : cells ≤ 232 + (j + 1) ∧ slots ≤ 11930 + 6 * (j + 1)) (H : Heap) (locs : List Loc) (ls : Array Slot), St b C 232 M s H locs → lv_has ls 7 [(0, .ref scr), (1, .ref (b + 0)), (2, .ref (b + 191)), (3, .ref (b + 231)), (4, vI v4_)] → bk23 M v4_ = some 1 → W p l e room_1 s m #[Value.ref scr] below meth c H locs cells slots (lw_Z below #[Value.ref scr] s) (F0 m 23 ls [])) (M : Mem) (v4_ : Int) (hv4_ : InR v4_) (hij : v4_ = 6 * (j : Int)) (cells slots : Nat) (hcs : cells ≤ 232 + j ∧ slots ≤ 11930 + 6 * j) (H : Heap) (locs : List Loc) (ls : Array Slot) (hS : St b C 232 M s H locs) (hl : lv_has ls 7 [(0, .ref scr), (1, .ref (b + 0)), (2, .ref (b + 191)), (3, .ref (b + 231)), (4, vI v4_)]) (hT : t_Law_law_L757 xs L bk23 M v4_ = some 1) : W p l e room_1 s m #[Value.ref scr] below meth c H locs cells slots (lw_Z below #[Value.ref scr] s) (F0 m 757 ls []) := by
  have hcs1 : cells ≤ 233 + j ∧ slots ≤ 11936 + 6 * j := ⟨by omega, by omega⟩
  unfold t_Law_law_L757 at hT
  refine lv_aload_n F.hx F.hb d_Law_law_757 rfl (lv_at hl 1 rfl) ?_
  refine lv_aload_n F.hx F.hb d_Law_law_758 rfl (lv_at hl 0 rfl) ?_
  refine lv_iload F.hx F.hb d_Law_law_759 (lv_at hl 4 rfl) ?_
  refine r_iconst F.hx F.hb d_Law_law_761 ?_
  refine r_iadd F.hx F.hb d_Law_law_762 ?_
  refine r_sld F hS hXs hsl hb (inr_w32 _) (law_ix hij hjL hL 1 (by decide) (by decide)).1 (law_ix hij hjL hL 1 (by decide) (by decide)).2 d_Law_law_763 ?_
  refine lv_aload_n F.hx F.hb d_Law_law_764 rfl (lv_at hl 0 rfl) ?_
  refine lv_iload F.hx F.hb d_Law_law_765 (lv_at hl 4 rfl) ?_
  refine r_iconst F.hx F.hb d_Law_law_767 ?_
  refine r_iadd F.hx F.hb d_Law_law_768 ?_
  refine r_sld F hS hXs hsl hb (inr_w32 _) (law_ix hij hjL hL 2 (by decide) (by decide)).1 (law_ix hij hjL hL 2 (by decide) (by decide)).2 d_Law_law_769 ?_
  obtain ⟨q96, hq96, hT⟩ := q_obind hT
  refine r_backZ F hS (r_runV (k := 0) (N := 19) (T := T0) (As := [vI (xs ((w32 (v4_ + 1))).toNat).toInt, vI (xs ((w32 (v4_ + 2))).toNat).toInt]) F hS (show 0 < 232 by decide) (show shK 0 = 4 from rfl) rfl (c_WF_lay l (Nat.le_of_ble_eq_true rfl) M (xs ((w32 (v4_ + 1))).toNat).toInt (xs ((w32 (v4_ + 2))).toNat).toInt (q_inr_toInt _) (q_inr_toInt _) _ hq96) gs_WardFallsLaw_84 hd_WF_lay ⟨Nat.le_of_ble_eq_true rfl, Nat.le_of_ble_eq_true rfl⟩ rfl hl.1 (Nat.le_of_ble_eq_true rfl) (law_rc hcs1 hjL hL) rfl d_Law_law_770) (fun H locs hS h97 => ?_)
  refine lv_pop F.hx F.hb d_Law_law_773 rfl ?_
  refine lv_aload_n F.hx F.hb d_Law_law_774 rfl (lv_at hl 2 rfl) ?_
  refine lv_aload_n F.hx F.hb d_Law_law_775 rfl (lv_at hl 0 rfl) ?_
  refine lv_iload F.hx F.hb d_Law_law_776 (lv_at hl 4 rfl) ?_
  refine r_iconst F.hx F.hb d_Law_law_778 ?_
  refine r_iadd F.hx F.hb d_Law_law_779 ?_
  refine r_sld F hS hXs hsl hb (inr_w32 _) (law_ix hij hjL hL 1 (by decide) (by decide)).1 (law_ix hij hjL hL 1 (by decide) (by decide)).2 d_Law_law_780 ?_
  refine lv_aload_n F.hx F.hb d_Law_law_781 rfl (lv_at hl 0 rfl) ?_
  refine lv_iload F.hx F.hb d_Law_law_782 (lv_at hl 4 rfl) ?_
  refine r_iconst F.hx F.hb d_Law_law_784 ?_
  refine r_iadd F.hx F.hb d_Law_law_785 ?_
  refine r_sld F hS hXs hsl hb (inr_w32 _) (law_ix hij hjL hL 2 (by decide) (by decide)).1 (law_ix hij hjL hL 2 (by decide) (by decide)).2 d_Law_law_786 ?_
  obtain ⟨q98, hq98, hT⟩ := q_obind hT
  refine r_backZ F hS (r_runV (k := 191) (N := 68) (T := T1) (As := [vI (xs ((w32 (v4_ + 1))).toNat).toInt, vI (xs ((w32 (v4_ + 2))).toNat).toInt]) F hS (show 191 < 232 by decide) (show shK 191 = 5 from rfl) rfl (c_MO_lay l (Nat.le_of_ble_eq_true rfl) (q96.1) (xs ((w32 (v4_ + 1))).toNat).toInt (xs ((w32 (v4_ + 2))).toNat).toInt (q_inr_toInt _) (q_inr_toInt _) _ hq98) gs_WardFallsLaw_87 hd_MO_lay ⟨Nat.le_of_ble_eq_true rfl, Nat.le_of_ble_eq_true rfl⟩ rfl hl.1 (Nat.le_of_ble_eq_true rfl) (law_rc hcs1 hjL hL) rfl d_Law_law_787) (fun H locs hS h99 => ?_)
  refine lv_pop F.hx F.hb d_Law_law_790 rfl ?_
  refine lv_goto (tgt := 1540) F.hx F.hb d_Law_law_791 (by decide) ?_
  exact k_Law_law_L1540 l hlf hL F hX hXs hsl hb hlk hr bk23 j hjL hbk23 (q98.1) v4_ hv4_ hij _ _ hcs1 _ _ _ hS (lv_sub hl [0, 1, 2, 3, 4] rfl) hT
set_option maxHeartbeats 16000000 in
set_option maxRecDepth 100000 in
theorem k_Law_law_L794 (l : Launch) (hlf : l.stackTraces = false) {p : Program} {e : Env} {s : State} {m : MethodId} {below : List Frame} {meth : Method} {c : Code} {b : Nat} {C : CT} {scr L : Nat} {xs : Nat → Int32} (hL : L ≤ 3072) (F : Cx b p m c b_Law_law 7 s ([.ref scr] : List Value).toArray "WardFallsLaw" C 232 232) (hX : EX b s) (hXs : va_X scr L xs s s.heap) (hsl : scr < s.heap.size) (hb : b = s.heap.size) (hlk : meth.locks = false) (hr : meth.sig.returnType = ret) (bk23 : Mem → Int → Option Int) (j : Nat) (hjL : 6 * j + 6 ≤ L) (hbk23 : ∀ (M : Mem) (v4_ : Int) (hv4_ : InR v4_) (hij : v4_ = 6 * ((j + 1 : Nat) : Int)) (cells slots : Nat) (hcs : cells ≤ 232 + (j + 1) ∧ slots ≤ 11930 + 6 * (j + 1)) (H : Heap) (locs : List Loc) (ls : Array Slot), St b C 232 M s H locs → lv_has ls 7 [(0, .ref scr), (1, .ref (b + 0)), (2, .ref (b + 191)), (3, .ref (b + 231)), (4, vI v4_)] → bk23 M v4_ = some 1 → W p l e room_1 s m #[Value.ref scr] below meth c H locs cells slots (lw_Z below #[Value.ref scr] s) (F0 m 23 ls [])) (M : Mem) (v4_ : Int) (hv4_ : InR v4_) (hij : v4_ = 6 * (j : Int)) (cells slots : Nat) (hcs : cells ≤ 232 + j ∧ slots ≤ 11930 + 6 * j) (H : Heap) (locs : List Loc) (ls : Array Slot) (hS : St b C 232 M s H locs) (hl : lv_has ls 7 [(0, .ref scr), (1, .ref (b + 0)), (2, .ref (b + 191)), (3, .ref (b + 231)), (4, vI v4_)]) (hT : t_Law_law_L794 xs L bk23 M v4_ = some 1) : W p l e room_1 s m #[Value.ref scr] below meth c H locs cells slots (lw_Z below #[Value.ref scr] s) (F0 m 794 ls []) := by
  have hcs1 : cells ≤ 233 + j ∧ slots ≤ 11936 + 6 * j := ⟨by omega, by omega⟩
  unfold t_Law_law_L794 at hT
  refine lv_aload_n F.hx F.hb d_Law_law_794 rfl (lv_at hl 1 rfl) ?_
  refine lv_aload_n F.hx F.hb d_Law_law_795 rfl (lv_at hl 0 rfl) ?_
  refine lv_iload F.hx F.hb d_Law_law_796 (lv_at hl 4 rfl) ?_
  refine r_iconst F.hx F.hb d_Law_law_798 ?_
  refine r_iadd F.hx F.hb d_Law_law_799 ?_
  refine r_sld F hS hXs hsl hb (inr_w32 _) (law_ix hij hjL hL 1 (by decide) (by decide)).1 (law_ix hij hjL hL 1 (by decide) (by decide)).2 d_Law_law_800 ?_
  refine lv_aload_n F.hx F.hb d_Law_law_801 rfl (lv_at hl 0 rfl) ?_
  refine lv_iload F.hx F.hb d_Law_law_802 (lv_at hl 4 rfl) ?_
  refine r_iconst F.hx F.hb d_Law_law_804 ?_
  refine r_iadd F.hx F.hb d_Law_law_805 ?_
  refine r_sld F hS hXs hsl hb (inr_w32 _) (law_ix hij hjL hL 2 (by decide) (by decide)).1 (law_ix hij hjL hL 2 (by decide) (by decide)).2 d_Law_law_806 ?_
  obtain ⟨q100, hq100, hT⟩ := q_obind hT
  refine r_backI F hS (r_runV (k := 0) (N := 19) (T := T0) (As := [vI (xs ((w32 (v4_ + 1))).toNat).toInt, vI (xs ((w32 (v4_ + 2))).toNat).toInt]) F hS (show 0 < 232 by decide) (show shK 0 = 4 from rfl) rfl (c_WF_pour l (Nat.le_of_ble_eq_true rfl) M (xs ((w32 (v4_ + 1))).toNat).toInt (xs ((w32 (v4_ + 2))).toNat).toInt (q_inr_toInt _) (q_inr_toInt _) _ hq100) gs_WardFallsLaw_88 hd_WF_pour ⟨Nat.le_of_ble_eq_true rfl, Nat.le_of_ble_eq_true rfl⟩ rfl hl.1 (Nat.le_of_ble_eq_true rfl) (law_rc hcs1 hjL hL) rfl d_Law_law_807) (fun H locs hS h101 => ?_)
  refine lv_pop F.hx F.hb d_Law_law_810 rfl ?_
  refine lv_aload_n F.hx F.hb d_Law_law_811 rfl (lv_at hl 2 rfl) ?_
  refine lv_aload_n F.hx F.hb d_Law_law_812 rfl (lv_at hl 0 rfl) ?_
  refine lv_iload F.hx F.hb d_Law_law_813 (lv_at hl 4 rfl) ?_
  refine r_iconst F.hx F.hb d_Law_law_815 ?_
  refine r_iadd F.hx F.hb d_Law_law_816 ?_
  refine r_sld F hS hXs hsl hb (inr_w32 _) (law_ix hij hjL hL 1 (by decide) (by decide)).1 (law_ix hij hjL hL 1 (by decide) (by decide)).2 d_Law_law_817 ?_
  refine lv_aload_n F.hx F.hb d_Law_law_818 rfl (lv_at hl 0 rfl) ?_
  refine lv_iload F.hx F.hb d_Law_law_819 (lv_at hl 4 rfl) ?_
  refine r_iconst F.hx F.hb d_Law_law_821 ?_
  refine r_iadd F.hx F.hb d_Law_law_822 ?_
  refine r_sld F hS hXs hsl hb (inr_w32 _) (law_ix hij hjL hL 2 (by decide) (by decide)).1 (law_ix hij hjL hL 2 (by decide) (by decide)).2 d_Law_law_823 ?_
  obtain ⟨q102, hq102, hT⟩ := q_obind hT
  refine r_backI F hS (r_runV (k := 191) (N := 68) (T := T1) (As := [vI (xs ((w32 (v4_ + 1))).toNat).toInt, vI (xs ((w32 (v4_ + 2))).toNat).toInt]) F hS (show 191 < 232 by decide) (show shK 191 = 5 from rfl) rfl (c_MO_pour l (Nat.le_of_ble_eq_true rfl) (q100.1) (xs ((w32 (v4_ + 1))).toNat).toInt (xs ((w32 (v4_ + 2))).toNat).toInt (q_inr_toInt _) (q_inr_toInt _) _ hq102) gs_WardFallsLaw_91 hd_MO_pour ⟨Nat.le_of_ble_eq_true rfl, Nat.le_of_ble_eq_true rfl⟩ rfl hl.1 (Nat.le_of_ble_eq_true rfl) (law_rc hcs1 hjL hL) rfl d_Law_law_824) (fun H locs hS h103 => ?_)
  refine lv_pop F.hx F.hb d_Law_law_827 rfl ?_
  refine lv_goto (tgt := 1540) F.hx F.hb d_Law_law_828 (by decide) ?_
  exact k_Law_law_L1540 l hlf hL F hX hXs hsl hb hlk hr bk23 j hjL hbk23 (q102.1) v4_ hv4_ hij _ _ hcs1 _ _ _ hS (lv_sub hl [0, 1, 2, 3, 4] rfl) hT
set_option maxHeartbeats 16000000 in
set_option maxRecDepth 100000 in
theorem k_Law_law_L831 (l : Launch) (hlf : l.stackTraces = false) {p : Program} {e : Env} {s : State} {m : MethodId} {below : List Frame} {meth : Method} {c : Code} {b : Nat} {C : CT} {scr L : Nat} {xs : Nat → Int32} (hL : L ≤ 3072) (F : Cx b p m c b_Law_law 7 s ([.ref scr] : List Value).toArray "WardFallsLaw" C 232 232) (hX : EX b s) (hXs : va_X scr L xs s s.heap) (hsl : scr < s.heap.size) (hb : b = s.heap.size) (hlk : meth.locks = false) (hr : meth.sig.returnType = ret) (bk23 : Mem → Int → Option Int) (j : Nat) (hjL : 6 * j + 6 ≤ L) (hbk23 : ∀ (M : Mem) (v4_ : Int) (hv4_ : InR v4_) (hij : v4_ = 6 * ((j + 1 : Nat) : Int)) (cells slots : Nat) (hcs : cells ≤ 232 + (j + 1) ∧ slots ≤ 11930 + 6 * (j + 1)) (H : Heap) (locs : List Loc) (ls : Array Slot), St b C 232 M s H locs → lv_has ls 7 [(0, .ref scr), (1, .ref (b + 0)), (2, .ref (b + 191)), (3, .ref (b + 231)), (4, vI v4_)] → bk23 M v4_ = some 1 → W p l e room_1 s m #[Value.ref scr] below meth c H locs cells slots (lw_Z below #[Value.ref scr] s) (F0 m 23 ls [])) (M : Mem) (v4_ : Int) (hv4_ : InR v4_) (hij : v4_ = 6 * (j : Int)) (cells slots : Nat) (hcs : cells ≤ 232 + j ∧ slots ≤ 11930 + 6 * j) (H : Heap) (locs : List Loc) (ls : Array Slot) (hS : St b C 232 M s H locs) (hl : lv_has ls 7 [(0, .ref scr), (1, .ref (b + 0)), (2, .ref (b + 191)), (3, .ref (b + 231)), (4, vI v4_)]) (hT : t_Law_law_L831 xs L bk23 M v4_ = some 1) : W p l e room_1 s m #[Value.ref scr] below meth c H locs cells slots (lw_Z below #[Value.ref scr] s) (F0 m 831 ls []) := by
  have hcs1 : cells ≤ 233 + j ∧ slots ≤ 11936 + 6 * j := ⟨by omega, by omega⟩
  unfold t_Law_law_L831 at hT
  refine lv_aload_n F.hx F.hb d_Law_law_831 rfl (lv_at hl 1 rfl) ?_
  obtain ⟨q104, hq104⟩ : ∃ q, q = (t_WF_drain M) := ⟨_, rfl⟩
  replace hT := qlet_eq hT hq104
  refine r_backI F hS (r_runV (k := 0) (N := 19) (T := T0) (As := []) F hS (show 0 < 232 by decide) (show shK 0 = 4 from rfl) rfl (c_WF_drain l (Nat.le_of_ble_eq_true rfl) M _ hq104.symm) gs_WardFallsLaw_92 hd_WF_drain ⟨Nat.le_of_ble_eq_true rfl, Nat.le_of_ble_eq_true rfl⟩ rfl hl.1 (Nat.le_of_ble_eq_true rfl) (law_rc hcs1 hjL hL) rfl d_Law_law_832) (fun H locs hS h105 => ?_)
  refine lv_pop F.hx F.hb d_Law_law_835 rfl ?_
  refine lv_aload_n F.hx F.hb d_Law_law_836 rfl (lv_at hl 2 rfl) ?_
  obtain ⟨q106, hq106, hT⟩ := q_obind hT
  refine r_backI F hS (r_runV (k := 191) (N := 68) (T := T1) (As := []) F hS (show 191 < 232 by decide) (show shK 191 = 5 from rfl) rfl (c_MO_drain l (Nat.le_of_ble_eq_true rfl) (q104.1) _ hq106) gs_WardFallsLaw_96 hd_MO_drain ⟨Nat.le_of_ble_eq_true rfl, Nat.le_of_ble_eq_true rfl⟩ rfl hl.1 (Nat.le_of_ble_eq_true rfl) (law_rc hcs1 hjL hL) rfl d_Law_law_837) (fun H locs hS h107 => ?_)
  refine lv_pop F.hx F.hb d_Law_law_840 rfl ?_
  refine lv_goto (tgt := 1540) F.hx F.hb d_Law_law_841 (by decide) ?_
  exact k_Law_law_L1540 l hlf hL F hX hXs hsl hb hlk hr bk23 j hjL hbk23 (q106.1) v4_ hv4_ hij _ _ hcs1 _ _ _ hS (lv_sub hl [0, 1, 2, 3, 4] rfl) hT
set_option maxHeartbeats 16000000 in
set_option maxRecDepth 100000 in
theorem k_Law_law_L844 (l : Launch) (hlf : l.stackTraces = false) {p : Program} {e : Env} {s : State} {m : MethodId} {below : List Frame} {meth : Method} {c : Code} {b : Nat} {C : CT} {scr L : Nat} {xs : Nat → Int32} (hL : L ≤ 3072) (F : Cx b p m c b_Law_law 7 s ([.ref scr] : List Value).toArray "WardFallsLaw" C 232 232) (hX : EX b s) (hXs : va_X scr L xs s s.heap) (hsl : scr < s.heap.size) (hb : b = s.heap.size) (hlk : meth.locks = false) (hr : meth.sig.returnType = ret) (bk23 : Mem → Int → Option Int) (j : Nat) (hjL : 6 * j + 6 ≤ L) (hbk23 : ∀ (M : Mem) (v4_ : Int) (hv4_ : InR v4_) (hij : v4_ = 6 * ((j + 1 : Nat) : Int)) (cells slots : Nat) (hcs : cells ≤ 232 + (j + 1) ∧ slots ≤ 11930 + 6 * (j + 1)) (H : Heap) (locs : List Loc) (ls : Array Slot), St b C 232 M s H locs → lv_has ls 7 [(0, .ref scr), (1, .ref (b + 0)), (2, .ref (b + 191)), (3, .ref (b + 231)), (4, vI v4_)] → bk23 M v4_ = some 1 → W p l e room_1 s m #[Value.ref scr] below meth c H locs cells slots (lw_Z below #[Value.ref scr] s) (F0 m 23 ls [])) (M : Mem) (v4_ : Int) (hv4_ : InR v4_) (hij : v4_ = 6 * (j : Int)) (cells slots : Nat) (hcs : cells ≤ 232 + j ∧ slots ≤ 11930 + 6 * j) (H : Heap) (locs : List Loc) (ls : Array Slot) (hS : St b C 232 M s H locs) (hl : lv_has ls 7 [(0, .ref scr), (1, .ref (b + 0)), (2, .ref (b + 191)), (3, .ref (b + 231)), (4, vI v4_)]) (hT : t_Law_law_L844 xs L bk23 M v4_ = some 1) : W p l e room_1 s m #[Value.ref scr] below meth c H locs cells slots (lw_Z below #[Value.ref scr] s) (F0 m 844 ls []) := by
  have hcs1 : cells ≤ 233 + j ∧ slots ≤ 11936 + 6 * j := ⟨by omega, by omega⟩
  unfold t_Law_law_L844 at hT
  refine lv_aload_n F.hx F.hb d_Law_law_844 rfl (lv_at hl 1 rfl) ?_
  refine lv_aload_n F.hx F.hb d_Law_law_845 rfl (lv_at hl 0 rfl) ?_
  refine lv_iload F.hx F.hb d_Law_law_846 (lv_at hl 4 rfl) ?_
  refine r_iconst F.hx F.hb d_Law_law_848 ?_
  refine r_iadd F.hx F.hb d_Law_law_849 ?_
  refine r_sld F hS hXs hsl hb (inr_w32 _) (law_ix hij hjL hL 1 (by decide) (by decide)).1 (law_ix hij hjL hL 1 (by decide) (by decide)).2 d_Law_law_850 ?_
  refine lv_aload_n F.hx F.hb d_Law_law_851 rfl (lv_at hl 0 rfl) ?_
  refine lv_iload F.hx F.hb d_Law_law_852 (lv_at hl 4 rfl) ?_
  refine r_iconst F.hx F.hb d_Law_law_854 ?_
  refine r_iadd F.hx F.hb d_Law_law_855 ?_
  refine r_sld F hS hXs hsl hb (inr_w32 _) (law_ix hij hjL hL 2 (by decide) (by decide)).1 (law_ix hij hjL hL 2 (by decide) (by decide)).2 d_Law_law_856 ?_
  obtain ⟨q108, hq108, hT⟩ := q_obind hT
  refine r_backL F hS (r_runV (k := 0) (N := 19) (T := T0) (As := [vI (xs ((w32 (v4_ + 1))).toNat).toInt, vI (xs ((w32 (v4_ + 2))).toNat).toInt]) F hS (show 0 < 232 by decide) (show shK 0 = 4 from rfl) rfl (c_WF_flood l (Nat.le_of_ble_eq_true rfl) M (xs ((w32 (v4_ + 1))).toNat).toInt (xs ((w32 (v4_ + 2))).toNat).toInt (q_inr_toInt _) (q_inr_toInt _) _ hq108) gs_WardFallsLaw_97 hd_WF_flood ⟨Nat.le_of_ble_eq_true rfl, Nat.le_of_ble_eq_true rfl⟩ rfl hl.1 (Nat.le_of_ble_eq_true rfl) (law_rc hcs1 hjL hL) rfl d_Law_law_857) (fun H locs hS => ?_)
  refine lv_pop2_2 F.hx F.hb d_Law_law_860 rfl ?_
  refine lv_aload_n F.hx F.hb d_Law_law_861 rfl (lv_at hl 2 rfl) ?_
  refine lv_aload_n F.hx F.hb d_Law_law_862 rfl (lv_at hl 0 rfl) ?_
  refine lv_iload F.hx F.hb d_Law_law_863 (lv_at hl 4 rfl) ?_
  refine r_iconst F.hx F.hb d_Law_law_865 ?_
  refine r_iadd F.hx F.hb d_Law_law_866 ?_
  refine r_sld F hS hXs hsl hb (inr_w32 _) (law_ix hij hjL hL 1 (by decide) (by decide)).1 (law_ix hij hjL hL 1 (by decide) (by decide)).2 d_Law_law_867 ?_
  refine lv_aload_n F.hx F.hb d_Law_law_868 rfl (lv_at hl 0 rfl) ?_
  refine lv_iload F.hx F.hb d_Law_law_869 (lv_at hl 4 rfl) ?_
  refine r_iconst F.hx F.hb d_Law_law_871 ?_
  refine r_iadd F.hx F.hb d_Law_law_872 ?_
  refine r_sld F hS hXs hsl hb (inr_w32 _) (law_ix hij hjL hL 2 (by decide) (by decide)).1 (law_ix hij hjL hL 2 (by decide) (by decide)).2 d_Law_law_873 ?_
  obtain ⟨q110, hq110, hT⟩ := q_obind hT
  refine r_backL F hS (r_runV (k := 191) (N := 68) (T := T1) (As := [vI (xs ((w32 (v4_ + 1))).toNat).toInt, vI (xs ((w32 (v4_ + 2))).toNat).toInt]) F hS (show 191 < 232 by decide) (show shK 191 = 5 from rfl) rfl (c_MO_flood l (Nat.le_of_ble_eq_true rfl) (q108.1) (xs ((w32 (v4_ + 1))).toNat).toInt (xs ((w32 (v4_ + 2))).toNat).toInt (q_inr_toInt _) (q_inr_toInt _) _ hq110) gs_WardFallsLaw_101 hd_MO_flood ⟨Nat.le_of_ble_eq_true rfl, Nat.le_of_ble_eq_true rfl⟩ rfl hl.1 (Nat.le_of_ble_eq_true rfl) (law_rc hcs1 hjL hL) rfl d_Law_law_874) (fun H locs hS => ?_)
  refine lv_pop2_2 F.hx F.hb d_Law_law_877 rfl ?_
  refine lv_goto (tgt := 1540) F.hx F.hb d_Law_law_878 (by decide) ?_
  exact k_Law_law_L1540 l hlf hL F hX hXs hsl hb hlk hr bk23 j hjL hbk23 (q110.1) v4_ hv4_ hij _ _ hcs1 _ _ _ hS (lv_sub hl [0, 1, 2, 3, 4] rfl) hT
set_option maxHeartbeats 16000000 in
set_option maxRecDepth 100000 in
theorem k_Law_law_L881 (l : Launch) (hlf : l.stackTraces = false) {p : Program} {e : Env} {s : State} {m : MethodId} {below : List Frame} {meth : Method} {c : Code} {b : Nat} {C : CT} {scr L : Nat} {xs : Nat → Int32} (hL : L ≤ 3072) (F : Cx b p m c b_Law_law 7 s ([.ref scr] : List Value).toArray "WardFallsLaw" C 232 232) (hX : EX b s) (hXs : va_X scr L xs s s.heap) (hsl : scr < s.heap.size) (hb : b = s.heap.size) (hlk : meth.locks = false) (hr : meth.sig.returnType = ret) (bk23 : Mem → Int → Option Int) (j : Nat) (hjL : 6 * j + 6 ≤ L) (hbk23 : ∀ (M : Mem) (v4_ : Int) (hv4_ : InR v4_) (hij : v4_ = 6 * ((j + 1 : Nat) : Int)) (cells slots : Nat) (hcs : cells ≤ 232 + (j + 1) ∧ slots ≤ 11930 + 6 * (j + 1)) (H : Heap) (locs : List Loc) (ls : Array Slot), St b C 232 M s H locs → lv_has ls 7 [(0, .ref scr), (1, .ref (b + 0)), (2, .ref (b + 191)), (3, .ref (b + 231)), (4, vI v4_)] → bk23 M v4_ = some 1 → W p l e room_1 s m #[Value.ref scr] below meth c H locs cells slots (lw_Z below #[Value.ref scr] s) (F0 m 23 ls [])) (M : Mem) (v4_ : Int) (hv4_ : InR v4_) (hij : v4_ = 6 * (j : Int)) (cells slots : Nat) (hcs : cells ≤ 232 + j ∧ slots ≤ 11930 + 6 * j) (H : Heap) (locs : List Loc) (ls : Array Slot) (hS : St b C 232 M s H locs) (hl : lv_has ls 7 [(0, .ref scr), (1, .ref (b + 0)), (2, .ref (b + 191)), (3, .ref (b + 231)), (4, vI v4_)]) (hT : t_Law_law_L881 xs L bk23 M v4_ = some 1) : W p l e room_1 s m #[Value.ref scr] below meth c H locs cells slots (lw_Z below #[Value.ref scr] s) (F0 m 881 ls []) := by
  have hcs1 : cells ≤ 233 + j ∧ slots ≤ 11936 + 6 * j := ⟨by omega, by omega⟩
  unfold t_Law_law_L881 at hT
  refine lv_aload_n F.hx F.hb d_Law_law_881 rfl (lv_at hl 1 rfl) ?_
  refine lv_aload_n F.hx F.hb d_Law_law_882 rfl (lv_at hl 0 rfl) ?_
  refine lv_iload F.hx F.hb d_Law_law_883 (lv_at hl 4 rfl) ?_
  refine r_iconst F.hx F.hb d_Law_law_885 ?_
  refine r_iadd F.hx F.hb d_Law_law_886 ?_
  refine r_sld F hS hXs hsl hb (inr_w32 _) (law_ix hij hjL hL 1 (by decide) (by decide)).1 (law_ix hij hjL hL 1 (by decide) (by decide)).2 d_Law_law_887 ?_
  refine lv_aload_n F.hx F.hb d_Law_law_888 rfl (lv_at hl 0 rfl) ?_
  refine lv_iload F.hx F.hb d_Law_law_889 (lv_at hl 4 rfl) ?_
  refine r_iconst F.hx F.hb d_Law_law_891 ?_
  refine r_iadd F.hx F.hb d_Law_law_892 ?_
  refine r_sld F hS hXs hsl hb (inr_w32 _) (law_ix hij hjL hL 2 (by decide) (by decide)).1 (law_ix hij hjL hL 2 (by decide) (by decide)).2 d_Law_law_893 ?_
  obtain ⟨q112, hq112, hT⟩ := q_obind hT
  refine r_backI F hS (r_runV (k := 0) (N := 19) (T := T0) (As := [vI (xs ((w32 (v4_ + 1))).toNat).toInt, vI (xs ((w32 (v4_ + 2))).toNat).toInt]) F hS (show 0 < 232 by decide) (show shK 0 = 4 from rfl) rfl (c_WF_walk l (Nat.le_of_ble_eq_true rfl) M (xs ((w32 (v4_ + 1))).toNat).toInt (xs ((w32 (v4_ + 2))).toNat).toInt (q_inr_toInt _) (q_inr_toInt _) _ hq112) gs_WardFallsLaw_102 hd_WF_walk ⟨Nat.le_of_ble_eq_true rfl, Nat.le_of_ble_eq_true rfl⟩ rfl hl.1 (Nat.le_of_ble_eq_true rfl) (law_rc hcs1 hjL hL) rfl d_Law_law_894) (fun H locs hS h113 => ?_)
  refine lv_pop F.hx F.hb d_Law_law_897 rfl ?_
  refine lv_aload_n F.hx F.hb d_Law_law_898 rfl (lv_at hl 2 rfl) ?_
  refine lv_aload_n F.hx F.hb d_Law_law_899 rfl (lv_at hl 0 rfl) ?_
  refine lv_iload F.hx F.hb d_Law_law_900 (lv_at hl 4 rfl) ?_
  refine r_iconst F.hx F.hb d_Law_law_902 ?_
  refine r_iadd F.hx F.hb d_Law_law_903 ?_
  refine r_sld F hS hXs hsl hb (inr_w32 _) (law_ix hij hjL hL 1 (by decide) (by decide)).1 (law_ix hij hjL hL 1 (by decide) (by decide)).2 d_Law_law_904 ?_
  refine lv_aload_n F.hx F.hb d_Law_law_905 rfl (lv_at hl 0 rfl) ?_
  refine lv_iload F.hx F.hb d_Law_law_906 (lv_at hl 4 rfl) ?_
  refine r_iconst F.hx F.hb d_Law_law_908 ?_
  refine r_iadd F.hx F.hb d_Law_law_909 ?_
  refine r_sld F hS hXs hsl hb (inr_w32 _) (law_ix hij hjL hL 2 (by decide) (by decide)).1 (law_ix hij hjL hL 2 (by decide) (by decide)).2 d_Law_law_910 ?_
  obtain ⟨q114, hq114, hT⟩ := q_obind hT
  refine r_backI F hS (r_runV (k := 191) (N := 68) (T := T1) (As := [vI (xs ((w32 (v4_ + 1))).toNat).toInt, vI (xs ((w32 (v4_ + 2))).toNat).toInt]) F hS (show 191 < 232 by decide) (show shK 191 = 5 from rfl) rfl (c_MO_walk l (Nat.le_of_ble_eq_true rfl) (q112.1) (xs ((w32 (v4_ + 1))).toNat).toInt (xs ((w32 (v4_ + 2))).toNat).toInt (q_inr_toInt _) (q_inr_toInt _) _ hq114) gs_WardFallsLaw_105 hd_MO_walk ⟨Nat.le_of_ble_eq_true rfl, Nat.le_of_ble_eq_true rfl⟩ rfl hl.1 (Nat.le_of_ble_eq_true rfl) (law_rc hcs1 hjL hL) rfl d_Law_law_911) (fun H locs hS h115 => ?_)
  refine lv_pop F.hx F.hb d_Law_law_914 rfl ?_
  refine lv_goto (tgt := 1540) F.hx F.hb d_Law_law_915 (by decide) ?_
  exact k_Law_law_L1540 l hlf hL F hX hXs hsl hb hlk hr bk23 j hjL hbk23 (q114.1) v4_ hv4_ hij _ _ hcs1 _ _ _ hS (lv_sub hl [0, 1, 2, 3, 4] rfl) hT
set_option maxHeartbeats 16000000 in
set_option maxRecDepth 100000 in
theorem k_Law_law_L918 (l : Launch) (hlf : l.stackTraces = false) {p : Program} {e : Env} {s : State} {m : MethodId} {below : List Frame} {meth : Method} {c : Code} {b : Nat} {C : CT} {scr L : Nat} {xs : Nat → Int32} (hL : L ≤ 3072) (F : Cx b p m c b_Law_law 7 s ([.ref scr] : List Value).toArray "WardFallsLaw" C 232 232) (hX : EX b s) (hXs : va_X scr L xs s s.heap) (hsl : scr < s.heap.size) (hb : b = s.heap.size) (hlk : meth.locks = false) (hr : meth.sig.returnType = ret) (bk23 : Mem → Int → Option Int) (j : Nat) (hjL : 6 * j + 6 ≤ L) (hbk23 : ∀ (M : Mem) (v4_ : Int) (hv4_ : InR v4_) (hij : v4_ = 6 * ((j + 1 : Nat) : Int)) (cells slots : Nat) (hcs : cells ≤ 232 + (j + 1) ∧ slots ≤ 11930 + 6 * (j + 1)) (H : Heap) (locs : List Loc) (ls : Array Slot), St b C 232 M s H locs → lv_has ls 7 [(0, .ref scr), (1, .ref (b + 0)), (2, .ref (b + 191)), (3, .ref (b + 231)), (4, vI v4_)] → bk23 M v4_ = some 1 → W p l e room_1 s m #[Value.ref scr] below meth c H locs cells slots (lw_Z below #[Value.ref scr] s) (F0 m 23 ls [])) (M : Mem) (v4_ : Int) (hv4_ : InR v4_) (hij : v4_ = 6 * (j : Int)) (cells slots : Nat) (hcs : cells ≤ 232 + j ∧ slots ≤ 11930 + 6 * j) (H : Heap) (locs : List Loc) (ls : Array Slot) (hS : St b C 232 M s H locs) (hl : lv_has ls 7 [(0, .ref scr), (1, .ref (b + 0)), (2, .ref (b + 191)), (3, .ref (b + 231)), (4, vI v4_)]) (hT : t_Law_law_L918 xs L bk23 M v4_ = some 1) : W p l e room_1 s m #[Value.ref scr] below meth c H locs cells slots (lw_Z below #[Value.ref scr] s) (F0 m 918 ls []) := by
  have hcs1 : cells ≤ 233 + j ∧ slots ≤ 11936 + 6 * j := ⟨by omega, by omega⟩
  unfold t_Law_law_L918 at hT
  refine lv_aload_n F.hx F.hb d_Law_law_918 rfl (lv_at hl 1 rfl) ?_
  refine lv_aload_n F.hx F.hb d_Law_law_919 rfl (lv_at hl 0 rfl) ?_
  refine lv_iload F.hx F.hb d_Law_law_920 (lv_at hl 4 rfl) ?_
  refine r_iconst F.hx F.hb d_Law_law_922 ?_
  refine r_iadd F.hx F.hb d_Law_law_923 ?_
  refine r_sld F hS hXs hsl hb (inr_w32 _) (law_ix hij hjL hL 1 (by decide) (by decide)).1 (law_ix hij hjL hL 1 (by decide) (by decide)).2 d_Law_law_924 ?_
  refine lv_aload_n F.hx F.hb d_Law_law_925 rfl (lv_at hl 0 rfl) ?_
  refine lv_iload F.hx F.hb d_Law_law_926 (lv_at hl 4 rfl) ?_
  refine r_iconst F.hx F.hb d_Law_law_928 ?_
  refine r_iadd F.hx F.hb d_Law_law_929 ?_
  refine r_sld F hS hXs hsl hb (inr_w32 _) (law_ix hij hjL hL 2 (by decide) (by decide)).1 (law_ix hij hjL hL 2 (by decide) (by decide)).2 d_Law_law_930 ?_
  refine lv_aload_n F.hx F.hb d_Law_law_931 rfl (lv_at hl 0 rfl) ?_
  refine lv_iload F.hx F.hb d_Law_law_932 (lv_at hl 4 rfl) ?_
  refine r_iconst F.hx F.hb d_Law_law_934 ?_
  refine r_iadd F.hx F.hb d_Law_law_935 ?_
  refine r_sld F hS hXs hsl hb (inr_w32 _) (law_ix hij hjL hL 3 (by decide) (by decide)).1 (law_ix hij hjL hL 3 (by decide) (by decide)).2 d_Law_law_936 ?_
  obtain ⟨q116, hq116, hT⟩ := q_obind hT
  refine r_backI F hS (r_runV (k := 0) (N := 19) (T := T0) (As := [vI (xs ((w32 (v4_ + 1))).toNat).toInt, vI (xs ((w32 (v4_ + 2))).toNat).toInt, vI (xs ((w32 (v4_ + 3))).toNat).toInt]) F hS (show 0 < 232 by decide) (show shK 0 = 4 from rfl) rfl (c_WF_step l (Nat.le_of_ble_eq_true rfl) M (xs ((w32 (v4_ + 1))).toNat).toInt (xs ((w32 (v4_ + 2))).toNat).toInt (xs ((w32 (v4_ + 3))).toNat).toInt (q_inr_toInt _) (q_inr_toInt _) (q_inr_toInt _) _ hq116) gs_WardFallsLaw_106 hd_WF_step ⟨Nat.le_of_ble_eq_true rfl, Nat.le_of_ble_eq_true rfl⟩ rfl hl.1 (Nat.le_of_ble_eq_true rfl) (law_rc hcs1 hjL hL) rfl d_Law_law_937) (fun H locs hS h117 => ?_)
  refine lv_pop F.hx F.hb d_Law_law_940 rfl ?_
  refine lv_aload_n F.hx F.hb d_Law_law_941 rfl (lv_at hl 2 rfl) ?_
  refine lv_aload_n F.hx F.hb d_Law_law_942 rfl (lv_at hl 0 rfl) ?_
  refine lv_iload F.hx F.hb d_Law_law_943 (lv_at hl 4 rfl) ?_
  refine r_iconst F.hx F.hb d_Law_law_945 ?_
  refine r_iadd F.hx F.hb d_Law_law_946 ?_
  refine r_sld F hS hXs hsl hb (inr_w32 _) (law_ix hij hjL hL 1 (by decide) (by decide)).1 (law_ix hij hjL hL 1 (by decide) (by decide)).2 d_Law_law_947 ?_
  refine lv_aload_n F.hx F.hb d_Law_law_948 rfl (lv_at hl 0 rfl) ?_
  refine lv_iload F.hx F.hb d_Law_law_949 (lv_at hl 4 rfl) ?_
  refine r_iconst F.hx F.hb d_Law_law_951 ?_
  refine r_iadd F.hx F.hb d_Law_law_952 ?_
  refine r_sld F hS hXs hsl hb (inr_w32 _) (law_ix hij hjL hL 2 (by decide) (by decide)).1 (law_ix hij hjL hL 2 (by decide) (by decide)).2 d_Law_law_953 ?_
  refine lv_aload_n F.hx F.hb d_Law_law_954 rfl (lv_at hl 0 rfl) ?_
  refine lv_iload F.hx F.hb d_Law_law_955 (lv_at hl 4 rfl) ?_
  refine r_iconst F.hx F.hb d_Law_law_957 ?_
  refine r_iadd F.hx F.hb d_Law_law_958 ?_
  refine r_sld F hS hXs hsl hb (inr_w32 _) (law_ix hij hjL hL 3 (by decide) (by decide)).1 (law_ix hij hjL hL 3 (by decide) (by decide)).2 d_Law_law_959 ?_
  obtain ⟨q118, hq118, hT⟩ := q_obind hT
  refine r_backI F hS (r_runV (k := 191) (N := 68) (T := T1) (As := [vI (xs ((w32 (v4_ + 1))).toNat).toInt, vI (xs ((w32 (v4_ + 2))).toNat).toInt, vI (xs ((w32 (v4_ + 3))).toNat).toInt]) F hS (show 191 < 232 by decide) (show shK 191 = 5 from rfl) rfl (c_MO_step l (Nat.le_of_ble_eq_true rfl) (q116.1) (xs ((w32 (v4_ + 1))).toNat).toInt (xs ((w32 (v4_ + 2))).toNat).toInt (xs ((w32 (v4_ + 3))).toNat).toInt (q_inr_toInt _) (q_inr_toInt _) (q_inr_toInt _) _ hq118) gs_WardFallsLaw_110 hd_MO_step ⟨Nat.le_of_ble_eq_true rfl, Nat.le_of_ble_eq_true rfl⟩ rfl hl.1 (Nat.le_of_ble_eq_true rfl) (law_rc hcs1 hjL hL) rfl d_Law_law_960) (fun H locs hS h119 => ?_)
  refine lv_pop F.hx F.hb d_Law_law_963 rfl ?_
  refine lv_goto (tgt := 1540) F.hx F.hb d_Law_law_964 (by decide) ?_
  exact k_Law_law_L1540 l hlf hL F hX hXs hsl hb hlk hr bk23 j hjL hbk23 (q118.1) v4_ hv4_ hij _ _ hcs1 _ _ _ hS (lv_sub hl [0, 1, 2, 3, 4] rfl) hT
set_option maxHeartbeats 16000000 in
set_option maxRecDepth 100000 in
theorem k_Law_law_L967 (l : Launch) (hlf : l.stackTraces = false) {p : Program} {e : Env} {s : State} {m : MethodId} {below : List Frame} {meth : Method} {c : Code} {b : Nat} {C : CT} {scr L : Nat} {xs : Nat → Int32} (hL : L ≤ 3072) (F : Cx b p m c b_Law_law 7 s ([.ref scr] : List Value).toArray "WardFallsLaw" C 232 232) (hX : EX b s) (hXs : va_X scr L xs s s.heap) (hsl : scr < s.heap.size) (hb : b = s.heap.size) (hlk : meth.locks = false) (hr : meth.sig.returnType = ret) (bk23 : Mem → Int → Option Int) (j : Nat) (hjL : 6 * j + 6 ≤ L) (hbk23 : ∀ (M : Mem) (v4_ : Int) (hv4_ : InR v4_) (hij : v4_ = 6 * ((j + 1 : Nat) : Int)) (cells slots : Nat) (hcs : cells ≤ 232 + (j + 1) ∧ slots ≤ 11930 + 6 * (j + 1)) (H : Heap) (locs : List Loc) (ls : Array Slot), St b C 232 M s H locs → lv_has ls 7 [(0, .ref scr), (1, .ref (b + 0)), (2, .ref (b + 191)), (3, .ref (b + 231)), (4, vI v4_)] → bk23 M v4_ = some 1 → W p l e room_1 s m #[Value.ref scr] below meth c H locs cells slots (lw_Z below #[Value.ref scr] s) (F0 m 23 ls [])) (M : Mem) (v4_ : Int) (hv4_ : InR v4_) (hij : v4_ = 6 * (j : Int)) (cells slots : Nat) (hcs : cells ≤ 232 + j ∧ slots ≤ 11930 + 6 * j) (H : Heap) (locs : List Loc) (ls : Array Slot) (hS : St b C 232 M s H locs) (hl : lv_has ls 7 [(0, .ref scr), (1, .ref (b + 0)), (2, .ref (b + 191)), (3, .ref (b + 231)), (4, vI v4_)]) (hT : t_Law_law_L967 xs L bk23 M v4_ = some 1) : W p l e room_1 s m #[Value.ref scr] below meth c H locs cells slots (lw_Z below #[Value.ref scr] s) (F0 m 967 ls []) := by
  have hcs1 : cells ≤ 233 + j ∧ slots ≤ 11936 + 6 * j := ⟨by omega, by omega⟩
  unfold t_Law_law_L967 at hT
  refine lv_aload_n F.hx F.hb d_Law_law_967 rfl (lv_at hl 1 rfl) ?_
  refine lv_aload_n F.hx F.hb d_Law_law_968 rfl (lv_at hl 0 rfl) ?_
  refine lv_iload F.hx F.hb d_Law_law_969 (lv_at hl 4 rfl) ?_
  refine r_iconst F.hx F.hb d_Law_law_971 ?_
  refine r_iadd F.hx F.hb d_Law_law_972 ?_
  refine r_sld F hS hXs hsl hb (inr_w32 _) (law_ix hij hjL hL 1 (by decide) (by decide)).1 (law_ix hij hjL hL 1 (by decide) (by decide)).2 d_Law_law_973 ?_
  refine lv_aload_n F.hx F.hb d_Law_law_974 rfl (lv_at hl 0 rfl) ?_
  refine lv_iload F.hx F.hb d_Law_law_975 (lv_at hl 4 rfl) ?_
  refine r_iconst F.hx F.hb d_Law_law_977 ?_
  refine r_iadd F.hx F.hb d_Law_law_978 ?_
  refine r_sld F hS hXs hsl hb (inr_w32 _) (law_ix hij hjL hL 2 (by decide) (by decide)).1 (law_ix hij hjL hL 2 (by decide) (by decide)).2 d_Law_law_979 ?_
  refine lv_aload_n F.hx F.hb d_Law_law_980 rfl (lv_at hl 0 rfl) ?_
  refine lv_iload F.hx F.hb d_Law_law_981 (lv_at hl 4 rfl) ?_
  refine r_iconst F.hx F.hb d_Law_law_983 ?_
  refine r_iadd F.hx F.hb d_Law_law_984 ?_
  refine r_sld F hS hXs hsl hb (inr_w32 _) (law_ix hij hjL hL 3 (by decide) (by decide)).1 (law_ix hij hjL hL 3 (by decide) (by decide)).2 d_Law_law_985 ?_
  obtain ⟨q120, hq120, hT⟩ := q_obind hT
  refine r_backI F hS (r_runV (k := 0) (N := 19) (T := T0) (As := [vI (xs ((w32 (v4_ + 1))).toNat).toInt, vI (xs ((w32 (v4_ + 2))).toNat).toInt, vI (xs ((w32 (v4_ + 3))).toNat).toInt]) F hS (show 0 < 232 by decide) (show shK 0 = 4 from rfl) rfl (c_WF_push l (Nat.le_of_ble_eq_true rfl) M (xs ((w32 (v4_ + 1))).toNat).toInt (xs ((w32 (v4_ + 2))).toNat).toInt (xs ((w32 (v4_ + 3))).toNat).toInt (q_inr_toInt _) (q_inr_toInt _) (q_inr_toInt _) _ hq120) gs_WardFallsLaw_111 hd_WF_push ⟨Nat.le_of_ble_eq_true rfl, Nat.le_of_ble_eq_true rfl⟩ rfl hl.1 (Nat.le_of_ble_eq_true rfl) (law_rc hcs1 hjL hL) rfl d_Law_law_986) (fun H locs hS h121 => ?_)
  refine lv_pop F.hx F.hb d_Law_law_989 rfl ?_
  refine lv_aload_n F.hx F.hb d_Law_law_990 rfl (lv_at hl 2 rfl) ?_
  refine lv_aload_n F.hx F.hb d_Law_law_991 rfl (lv_at hl 0 rfl) ?_
  refine lv_iload F.hx F.hb d_Law_law_992 (lv_at hl 4 rfl) ?_
  refine r_iconst F.hx F.hb d_Law_law_994 ?_
  refine r_iadd F.hx F.hb d_Law_law_995 ?_
  refine r_sld F hS hXs hsl hb (inr_w32 _) (law_ix hij hjL hL 1 (by decide) (by decide)).1 (law_ix hij hjL hL 1 (by decide) (by decide)).2 d_Law_law_996 ?_
  refine lv_aload_n F.hx F.hb d_Law_law_997 rfl (lv_at hl 0 rfl) ?_
  refine lv_iload F.hx F.hb d_Law_law_998 (lv_at hl 4 rfl) ?_
  refine r_iconst F.hx F.hb d_Law_law_1000 ?_
  refine r_iadd F.hx F.hb d_Law_law_1001 ?_
  refine r_sld F hS hXs hsl hb (inr_w32 _) (law_ix hij hjL hL 2 (by decide) (by decide)).1 (law_ix hij hjL hL 2 (by decide) (by decide)).2 d_Law_law_1002 ?_
  refine lv_aload_n F.hx F.hb d_Law_law_1003 rfl (lv_at hl 0 rfl) ?_
  refine lv_iload F.hx F.hb d_Law_law_1004 (lv_at hl 4 rfl) ?_
  refine r_iconst F.hx F.hb d_Law_law_1006 ?_
  refine r_iadd F.hx F.hb d_Law_law_1007 ?_
  refine r_sld F hS hXs hsl hb (inr_w32 _) (law_ix hij hjL hL 3 (by decide) (by decide)).1 (law_ix hij hjL hL 3 (by decide) (by decide)).2 d_Law_law_1008 ?_
  obtain ⟨q122, hq122, hT⟩ := q_obind hT
  refine r_backI F hS (r_runV (k := 191) (N := 68) (T := T1) (As := [vI (xs ((w32 (v4_ + 1))).toNat).toInt, vI (xs ((w32 (v4_ + 2))).toNat).toInt, vI (xs ((w32 (v4_ + 3))).toNat).toInt]) F hS (show 191 < 232 by decide) (show shK 191 = 5 from rfl) rfl (c_MO_push l (Nat.le_of_ble_eq_true rfl) (q120.1) (xs ((w32 (v4_ + 1))).toNat).toInt (xs ((w32 (v4_ + 2))).toNat).toInt (xs ((w32 (v4_ + 3))).toNat).toInt (q_inr_toInt _) (q_inr_toInt _) (q_inr_toInt _) _ hq122) gs_WardFallsLaw_114 hd_MO_push ⟨Nat.le_of_ble_eq_true rfl, Nat.le_of_ble_eq_true rfl⟩ rfl hl.1 (Nat.le_of_ble_eq_true rfl) (law_rc hcs1 hjL hL) rfl d_Law_law_1009) (fun H locs hS h123 => ?_)
  refine lv_pop F.hx F.hb d_Law_law_1012 rfl ?_
  refine lv_goto (tgt := 1540) F.hx F.hb d_Law_law_1013 (by decide) ?_
  exact k_Law_law_L1540 l hlf hL F hX hXs hsl hb hlk hr bk23 j hjL hbk23 (q122.1) v4_ hv4_ hij _ _ hcs1 _ _ _ hS (lv_sub hl [0, 1, 2, 3, 4] rfl) hT
set_option maxHeartbeats 16000000 in
set_option maxRecDepth 100000 in
theorem k_Law_law_L1016 (l : Launch) (hlf : l.stackTraces = false) {p : Program} {e : Env} {s : State} {m : MethodId} {below : List Frame} {meth : Method} {c : Code} {b : Nat} {C : CT} {scr L : Nat} {xs : Nat → Int32} (hL : L ≤ 3072) (F : Cx b p m c b_Law_law 7 s ([.ref scr] : List Value).toArray "WardFallsLaw" C 232 232) (hX : EX b s) (hXs : va_X scr L xs s s.heap) (hsl : scr < s.heap.size) (hb : b = s.heap.size) (hlk : meth.locks = false) (hr : meth.sig.returnType = ret) (bk23 : Mem → Int → Option Int) (j : Nat) (hjL : 6 * j + 6 ≤ L) (hbk23 : ∀ (M : Mem) (v4_ : Int) (hv4_ : InR v4_) (hij : v4_ = 6 * ((j + 1 : Nat) : Int)) (cells slots : Nat) (hcs : cells ≤ 232 + (j + 1) ∧ slots ≤ 11930 + 6 * (j + 1)) (H : Heap) (locs : List Loc) (ls : Array Slot), St b C 232 M s H locs → lv_has ls 7 [(0, .ref scr), (1, .ref (b + 0)), (2, .ref (b + 191)), (3, .ref (b + 231)), (4, vI v4_)] → bk23 M v4_ = some 1 → W p l e room_1 s m #[Value.ref scr] below meth c H locs cells slots (lw_Z below #[Value.ref scr] s) (F0 m 23 ls [])) (M : Mem) (v4_ : Int) (hv4_ : InR v4_) (hij : v4_ = 6 * (j : Int)) (cells slots : Nat) (hcs : cells ≤ 232 + j ∧ slots ≤ 11930 + 6 * j) (H : Heap) (locs : List Loc) (ls : Array Slot) (hS : St b C 232 M s H locs) (hl : lv_has ls 7 [(0, .ref scr), (1, .ref (b + 0)), (2, .ref (b + 191)), (3, .ref (b + 231)), (4, vI v4_)]) (hT : t_Law_law_L1016 xs L bk23 M v4_ = some 1) : W p l e room_1 s m #[Value.ref scr] below meth c H locs cells slots (lw_Z below #[Value.ref scr] s) (F0 m 1016 ls []) := by
  have hcs1 : cells ≤ 233 + j ∧ slots ≤ 11936 + 6 * j := ⟨by omega, by omega⟩
  unfold t_Law_law_L1016 at hT
  refine lv_aload_n F.hx F.hb d_Law_law_1016 rfl (lv_at hl 1 rfl) ?_
  refine lv_aload_n F.hx F.hb d_Law_law_1017 rfl (lv_at hl 0 rfl) ?_
  refine lv_iload F.hx F.hb d_Law_law_1018 (lv_at hl 4 rfl) ?_
  refine r_iconst F.hx F.hb d_Law_law_1020 ?_
  refine r_iadd F.hx F.hb d_Law_law_1021 ?_
  refine r_sld F hS hXs hsl hb (inr_w32 _) (law_ix hij hjL hL 1 (by decide) (by decide)).1 (law_ix hij hjL hL 1 (by decide) (by decide)).2 d_Law_law_1022 ?_
  refine lv_aload_n F.hx F.hb d_Law_law_1023 rfl (lv_at hl 0 rfl) ?_
  refine lv_iload F.hx F.hb d_Law_law_1024 (lv_at hl 4 rfl) ?_
  refine r_iconst F.hx F.hb d_Law_law_1026 ?_
  refine r_iadd F.hx F.hb d_Law_law_1027 ?_
  refine r_sld F hS hXs hsl hb (inr_w32 _) (law_ix hij hjL hL 2 (by decide) (by decide)).1 (law_ix hij hjL hL 2 (by decide) (by decide)).2 d_Law_law_1028 ?_
  refine lv_aload_n F.hx F.hb d_Law_law_1029 rfl (lv_at hl 0 rfl) ?_
  refine lv_iload F.hx F.hb d_Law_law_1030 (lv_at hl 4 rfl) ?_
  refine r_iconst F.hx F.hb d_Law_law_1032 ?_
  refine r_iadd F.hx F.hb d_Law_law_1033 ?_
  refine r_sld F hS hXs hsl hb (inr_w32 _) (law_ix hij hjL hL 3 (by decide) (by decide)).1 (law_ix hij hjL hL 3 (by decide) (by decide)).2 d_Law_law_1034 ?_
  obtain ⟨q124, hq124, hT⟩ := q_obind hT
  refine r_backI F hS (r_runV (k := 0) (N := 19) (T := T0) (As := [vI (xs ((w32 (v4_ + 1))).toNat).toInt, vI (xs ((w32 (v4_ + 2))).toNat).toInt, vI (xs ((w32 (v4_ + 3))).toNat).toInt]) F hS (show 0 < 232 by decide) (show shK 0 = 4 from rfl) rfl (c_WF_pushed l (Nat.le_of_ble_eq_true rfl) M (xs ((w32 (v4_ + 1))).toNat).toInt (xs ((w32 (v4_ + 2))).toNat).toInt (xs ((w32 (v4_ + 3))).toNat).toInt (q_inr_toInt _) (q_inr_toInt _) (q_inr_toInt _) _ hq124) gs_WardFallsLaw_115 hd_WF_pushed ⟨Nat.le_of_ble_eq_true rfl, Nat.le_of_ble_eq_true rfl⟩ rfl hl.1 (Nat.le_of_ble_eq_true rfl) (law_rc hcs1 hjL hL) rfl d_Law_law_1035) (fun H locs hS h125 => ?_)
  refine lv_pop F.hx F.hb d_Law_law_1038 rfl ?_
  refine lv_aload_n F.hx F.hb d_Law_law_1039 rfl (lv_at hl 2 rfl) ?_
  refine lv_aload_n F.hx F.hb d_Law_law_1040 rfl (lv_at hl 0 rfl) ?_
  refine lv_iload F.hx F.hb d_Law_law_1041 (lv_at hl 4 rfl) ?_
  refine r_iconst F.hx F.hb d_Law_law_1043 ?_
  refine r_iadd F.hx F.hb d_Law_law_1044 ?_
  refine r_sld F hS hXs hsl hb (inr_w32 _) (law_ix hij hjL hL 1 (by decide) (by decide)).1 (law_ix hij hjL hL 1 (by decide) (by decide)).2 d_Law_law_1045 ?_
  refine lv_aload_n F.hx F.hb d_Law_law_1046 rfl (lv_at hl 0 rfl) ?_
  refine lv_iload F.hx F.hb d_Law_law_1047 (lv_at hl 4 rfl) ?_
  refine r_iconst F.hx F.hb d_Law_law_1049 ?_
  refine r_iadd F.hx F.hb d_Law_law_1050 ?_
  refine r_sld F hS hXs hsl hb (inr_w32 _) (law_ix hij hjL hL 2 (by decide) (by decide)).1 (law_ix hij hjL hL 2 (by decide) (by decide)).2 d_Law_law_1051 ?_
  refine lv_aload_n F.hx F.hb d_Law_law_1052 rfl (lv_at hl 0 rfl) ?_
  refine lv_iload F.hx F.hb d_Law_law_1053 (lv_at hl 4 rfl) ?_
  refine r_iconst F.hx F.hb d_Law_law_1055 ?_
  refine r_iadd F.hx F.hb d_Law_law_1056 ?_
  refine r_sld F hS hXs hsl hb (inr_w32 _) (law_ix hij hjL hL 3 (by decide) (by decide)).1 (law_ix hij hjL hL 3 (by decide) (by decide)).2 d_Law_law_1057 ?_
  obtain ⟨q126, hq126, hT⟩ := q_obind hT
  refine r_backI F hS (r_runV (k := 191) (N := 68) (T := T1) (As := [vI (xs ((w32 (v4_ + 1))).toNat).toInt, vI (xs ((w32 (v4_ + 2))).toNat).toInt, vI (xs ((w32 (v4_ + 3))).toNat).toInt]) F hS (show 191 < 232 by decide) (show shK 191 = 5 from rfl) rfl (c_MO_pushed l (Nat.le_of_ble_eq_true rfl) (q124.1) (xs ((w32 (v4_ + 1))).toNat).toInt (xs ((w32 (v4_ + 2))).toNat).toInt (xs ((w32 (v4_ + 3))).toNat).toInt (q_inr_toInt _) (q_inr_toInt _) (q_inr_toInt _) _ hq126) gs_WardFallsLaw_118 hd_MO_pushed ⟨Nat.le_of_ble_eq_true rfl, Nat.le_of_ble_eq_true rfl⟩ rfl hl.1 (Nat.le_of_ble_eq_true rfl) (law_rc hcs1 hjL hL) rfl d_Law_law_1058) (fun H locs hS h127 => ?_)
  refine lv_pop F.hx F.hb d_Law_law_1061 rfl ?_
  refine lv_goto (tgt := 1540) F.hx F.hb d_Law_law_1062 (by decide) ?_
  exact k_Law_law_L1540 l hlf hL F hX hXs hsl hb hlk hr bk23 j hjL hbk23 (q126.1) v4_ hv4_ hij _ _ hcs1 _ _ _ hS (lv_sub hl [0, 1, 2, 3, 4] rfl) hT
set_option maxHeartbeats 16000000 in
set_option maxRecDepth 100000 in
theorem k_Law_law_L1065 (l : Launch) (hlf : l.stackTraces = false) {p : Program} {e : Env} {s : State} {m : MethodId} {below : List Frame} {meth : Method} {c : Code} {b : Nat} {C : CT} {scr L : Nat} {xs : Nat → Int32} (hL : L ≤ 3072) (F : Cx b p m c b_Law_law 7 s ([.ref scr] : List Value).toArray "WardFallsLaw" C 232 232) (hX : EX b s) (hXs : va_X scr L xs s s.heap) (hsl : scr < s.heap.size) (hb : b = s.heap.size) (hlk : meth.locks = false) (hr : meth.sig.returnType = ret) (bk23 : Mem → Int → Option Int) (j : Nat) (hjL : 6 * j + 6 ≤ L) (hbk23 : ∀ (M : Mem) (v4_ : Int) (hv4_ : InR v4_) (hij : v4_ = 6 * ((j + 1 : Nat) : Int)) (cells slots : Nat) (hcs : cells ≤ 232 + (j + 1) ∧ slots ≤ 11930 + 6 * (j + 1)) (H : Heap) (locs : List Loc) (ls : Array Slot), St b C 232 M s H locs → lv_has ls 7 [(0, .ref scr), (1, .ref (b + 0)), (2, .ref (b + 191)), (3, .ref (b + 231)), (4, vI v4_)] → bk23 M v4_ = some 1 → W p l e room_1 s m #[Value.ref scr] below meth c H locs cells slots (lw_Z below #[Value.ref scr] s) (F0 m 23 ls [])) (M : Mem) (v4_ : Int) (hv4_ : InR v4_) (hij : v4_ = 6 * (j : Int)) (cells slots : Nat) (hcs : cells ≤ 232 + j ∧ slots ≤ 11930 + 6 * j) (H : Heap) (locs : List Loc) (ls : Array Slot) (hS : St b C 232 M s H locs) (hl : lv_has ls 7 [(0, .ref scr), (1, .ref (b + 0)), (2, .ref (b + 191)), (3, .ref (b + 231)), (4, vI v4_)]) (hT : t_Law_law_L1065 xs L bk23 M v4_ = some 1) : W p l e room_1 s m #[Value.ref scr] below meth c H locs cells slots (lw_Z below #[Value.ref scr] s) (F0 m 1065 ls []) := by
  have hcs1 : cells ≤ 233 + j ∧ slots ≤ 11936 + 6 * j := ⟨by omega, by omega⟩
  unfold t_Law_law_L1065 at hT
  refine lv_aload_n F.hx F.hb d_Law_law_1065 rfl (lv_at hl 1 rfl) ?_
  refine lv_aload_n F.hx F.hb d_Law_law_1066 rfl (lv_at hl 0 rfl) ?_
  refine lv_iload F.hx F.hb d_Law_law_1067 (lv_at hl 4 rfl) ?_
  refine r_iconst F.hx F.hb d_Law_law_1069 ?_
  refine r_iadd F.hx F.hb d_Law_law_1070 ?_
  refine r_sld F hS hXs hsl hb (inr_w32 _) (law_ix hij hjL hL 1 (by decide) (by decide)).1 (law_ix hij hjL hL 1 (by decide) (by decide)).2 d_Law_law_1071 ?_
  refine lv_aload_n F.hx F.hb d_Law_law_1072 rfl (lv_at hl 0 rfl) ?_
  refine lv_iload F.hx F.hb d_Law_law_1073 (lv_at hl 4 rfl) ?_
  refine r_iconst F.hx F.hb d_Law_law_1075 ?_
  refine r_iadd F.hx F.hb d_Law_law_1076 ?_
  refine r_sld F hS hXs hsl hb (inr_w32 _) (law_ix hij hjL hL 2 (by decide) (by decide)).1 (law_ix hij hjL hL 2 (by decide) (by decide)).2 d_Law_law_1077 ?_
  obtain ⟨q128, hq128, hT⟩ := q_obind hT
  refine r_backI F hS (r_runV (k := 0) (N := 19) (T := T0) (As := [vI (xs ((w32 (v4_ + 1))).toNat).toInt, vI (xs ((w32 (v4_ + 2))).toNat).toInt]) F hS (show 0 < 232 by decide) (show shK 0 = 4 from rfl) rfl (c_WF_war l (Nat.le_of_ble_eq_true rfl) M (xs ((w32 (v4_ + 1))).toNat).toInt (xs ((w32 (v4_ + 2))).toNat).toInt (q_inr_toInt _) (q_inr_toInt _) _ hq128) gs_WardFallsLaw_119 hd_WF_war ⟨Nat.le_of_ble_eq_true rfl, Nat.le_of_ble_eq_true rfl⟩ rfl hl.1 (Nat.le_of_ble_eq_true rfl) (law_rc hcs1 hjL hL) rfl d_Law_law_1078) (fun H locs hS h129 => ?_)
  refine lv_pop F.hx F.hb d_Law_law_1081 rfl ?_
  refine lv_aload_n F.hx F.hb d_Law_law_1082 rfl (lv_at hl 2 rfl) ?_
  refine lv_aload_n F.hx F.hb d_Law_law_1083 rfl (lv_at hl 0 rfl) ?_
  refine lv_iload F.hx F.hb d_Law_law_1084 (lv_at hl 4 rfl) ?_
  refine r_iconst F.hx F.hb d_Law_law_1086 ?_
  refine r_iadd F.hx F.hb d_Law_law_1087 ?_
  refine r_sld F hS hXs hsl hb (inr_w32 _) (law_ix hij hjL hL 1 (by decide) (by decide)).1 (law_ix hij hjL hL 1 (by decide) (by decide)).2 d_Law_law_1088 ?_
  refine lv_aload_n F.hx F.hb d_Law_law_1089 rfl (lv_at hl 0 rfl) ?_
  refine lv_iload F.hx F.hb d_Law_law_1090 (lv_at hl 4 rfl) ?_
  refine r_iconst F.hx F.hb d_Law_law_1092 ?_
  refine r_iadd F.hx F.hb d_Law_law_1093 ?_
  refine r_sld F hS hXs hsl hb (inr_w32 _) (law_ix hij hjL hL 2 (by decide) (by decide)).1 (law_ix hij hjL hL 2 (by decide) (by decide)).2 d_Law_law_1094 ?_
  obtain ⟨q130, hq130, hT⟩ := q_obind hT
  refine r_backI F hS (r_runV (k := 191) (N := 68) (T := T1) (As := [vI (xs ((w32 (v4_ + 1))).toNat).toInt, vI (xs ((w32 (v4_ + 2))).toNat).toInt]) F hS (show 191 < 232 by decide) (show shK 191 = 5 from rfl) rfl (c_MO_war l (Nat.le_of_ble_eq_true rfl) (q128.1) (xs ((w32 (v4_ + 1))).toNat).toInt (xs ((w32 (v4_ + 2))).toNat).toInt (q_inr_toInt _) (q_inr_toInt _) _ hq130) gs_WardFallsLaw_122 hd_MO_war ⟨Nat.le_of_ble_eq_true rfl, Nat.le_of_ble_eq_true rfl⟩ rfl hl.1 (Nat.le_of_ble_eq_true rfl) (law_rc hcs1 hjL hL) rfl d_Law_law_1095) (fun H locs hS h131 => ?_)
  refine lv_pop F.hx F.hb d_Law_law_1098 rfl ?_
  refine lv_goto (tgt := 1540) F.hx F.hb d_Law_law_1099 (by decide) ?_
  exact k_Law_law_L1540 l hlf hL F hX hXs hsl hb hlk hr bk23 j hjL hbk23 (q130.1) v4_ hv4_ hij _ _ hcs1 _ _ _ hS (lv_sub hl [0, 1, 2, 3, 4] rfl) hT
set_option maxHeartbeats 16000000 in
set_option maxRecDepth 100000 in
theorem k_Law_law_L1102 (l : Launch) (hlf : l.stackTraces = false) {p : Program} {e : Env} {s : State} {m : MethodId} {below : List Frame} {meth : Method} {c : Code} {b : Nat} {C : CT} {scr L : Nat} {xs : Nat → Int32} (hL : L ≤ 3072) (F : Cx b p m c b_Law_law 7 s ([.ref scr] : List Value).toArray "WardFallsLaw" C 232 232) (hX : EX b s) (hXs : va_X scr L xs s s.heap) (hsl : scr < s.heap.size) (hb : b = s.heap.size) (hlk : meth.locks = false) (hr : meth.sig.returnType = ret) (bk23 : Mem → Int → Option Int) (j : Nat) (hjL : 6 * j + 6 ≤ L) (hbk23 : ∀ (M : Mem) (v4_ : Int) (hv4_ : InR v4_) (hij : v4_ = 6 * ((j + 1 : Nat) : Int)) (cells slots : Nat) (hcs : cells ≤ 232 + (j + 1) ∧ slots ≤ 11930 + 6 * (j + 1)) (H : Heap) (locs : List Loc) (ls : Array Slot), St b C 232 M s H locs → lv_has ls 7 [(0, .ref scr), (1, .ref (b + 0)), (2, .ref (b + 191)), (3, .ref (b + 231)), (4, vI v4_)] → bk23 M v4_ = some 1 → W p l e room_1 s m #[Value.ref scr] below meth c H locs cells slots (lw_Z below #[Value.ref scr] s) (F0 m 23 ls [])) (M : Mem) (v4_ : Int) (hv4_ : InR v4_) (hij : v4_ = 6 * (j : Int)) (cells slots : Nat) (hcs : cells ≤ 232 + j ∧ slots ≤ 11930 + 6 * j) (H : Heap) (locs : List Loc) (ls : Array Slot) (hS : St b C 232 M s H locs) (hl : lv_has ls 7 [(0, .ref scr), (1, .ref (b + 0)), (2, .ref (b + 191)), (3, .ref (b + 231)), (4, vI v4_)]) (hT : t_Law_law_L1102 xs L bk23 M v4_ = some 1) : W p l e room_1 s m #[Value.ref scr] below meth c H locs cells slots (lw_Z below #[Value.ref scr] s) (F0 m 1102 ls []) := by
  have hcs1 : cells ≤ 233 + j ∧ slots ≤ 11936 + 6 * j := ⟨by omega, by omega⟩
  unfold t_Law_law_L1102 at hT
  refine lv_aload_n F.hx F.hb d_Law_law_1102 rfl (lv_at hl 1 rfl) ?_
  obtain ⟨q132, hq132, hT⟩ := q_obind hT
  refine r_backL F hS (r_runV (k := 0) (N := 19) (T := T0) (As := []) F hS (show 0 < 232 by decide) (show shK 0 = 4 from rfl) rfl (c_WF_nets l (Nat.le_of_ble_eq_true rfl) M _ hq132) gs_WardFallsLaw_123 hd_WF_nets ⟨Nat.le_of_ble_eq_true rfl, Nat.le_of_ble_eq_true rfl⟩ rfl hl.1 (Nat.le_of_ble_eq_true rfl) (law_rc hcs1 hjL hL) rfl d_Law_law_1103) (fun H locs hS => ?_)
  refine lv_pop2_2 F.hx F.hb d_Law_law_1106 rfl ?_
  refine lv_aload_n F.hx F.hb d_Law_law_1107 rfl (lv_at hl 2 rfl) ?_
  obtain ⟨q134, hq134, hT⟩ := q_obind hT
  refine r_backL F hS (r_runV (k := 191) (N := 68) (T := T1) (As := []) F hS (show 191 < 232 by decide) (show shK 191 = 5 from rfl) rfl (c_MO_nets l (Nat.le_of_ble_eq_true rfl) M _ hq134) gs_WardFallsLaw_127 hd_MO_nets ⟨Nat.le_of_ble_eq_true rfl, Nat.le_of_ble_eq_true rfl⟩ rfl hl.1 (Nat.le_of_ble_eq_true rfl) (law_rc hcs1 hjL hL) rfl d_Law_law_1108) (fun H locs hS => ?_)
  refine lv_pop2_2 F.hx F.hb d_Law_law_1111 rfl ?_
  refine lv_goto (tgt := 1540) F.hx F.hb d_Law_law_1112 (by decide) ?_
  exact k_Law_law_L1540 l hlf hL F hX hXs hsl hb hlk hr bk23 j hjL hbk23 (q134.1) v4_ hv4_ hij _ _ hcs1 _ _ _ hS (lv_sub hl [0, 1, 2, 3, 4] rfl) hT
set_option maxHeartbeats 16000000 in
set_option maxRecDepth 100000 in
theorem k_Law_law_L1115 (l : Launch) (hlf : l.stackTraces = false) {p : Program} {e : Env} {s : State} {m : MethodId} {below : List Frame} {meth : Method} {c : Code} {b : Nat} {C : CT} {scr L : Nat} {xs : Nat → Int32} (hL : L ≤ 3072) (F : Cx b p m c b_Law_law 7 s ([.ref scr] : List Value).toArray "WardFallsLaw" C 232 232) (hX : EX b s) (hXs : va_X scr L xs s s.heap) (hsl : scr < s.heap.size) (hb : b = s.heap.size) (hlk : meth.locks = false) (hr : meth.sig.returnType = ret) (bk23 : Mem → Int → Option Int) (j : Nat) (hjL : 6 * j + 6 ≤ L) (hbk23 : ∀ (M : Mem) (v4_ : Int) (hv4_ : InR v4_) (hij : v4_ = 6 * ((j + 1 : Nat) : Int)) (cells slots : Nat) (hcs : cells ≤ 232 + (j + 1) ∧ slots ≤ 11930 + 6 * (j + 1)) (H : Heap) (locs : List Loc) (ls : Array Slot), St b C 232 M s H locs → lv_has ls 7 [(0, .ref scr), (1, .ref (b + 0)), (2, .ref (b + 191)), (3, .ref (b + 231)), (4, vI v4_)] → bk23 M v4_ = some 1 → W p l e room_1 s m #[Value.ref scr] below meth c H locs cells slots (lw_Z below #[Value.ref scr] s) (F0 m 23 ls [])) (M : Mem) (v4_ : Int) (hv4_ : InR v4_) (hij : v4_ = 6 * (j : Int)) (cells slots : Nat) (hcs : cells ≤ 232 + j ∧ slots ≤ 11930 + 6 * j) (H : Heap) (locs : List Loc) (ls : Array Slot) (hS : St b C 232 M s H locs) (hl : lv_has ls 7 [(0, .ref scr), (1, .ref (b + 0)), (2, .ref (b + 191)), (3, .ref (b + 231)), (4, vI v4_)]) (hT : t_Law_law_L1115 xs L bk23 M v4_ = some 1) : W p l e room_1 s m #[Value.ref scr] below meth c H locs cells slots (lw_Z below #[Value.ref scr] s) (F0 m 1115 ls []) := by
  have hcs1 : cells ≤ 233 + j ∧ slots ≤ 11936 + 6 * j := ⟨by omega, by omega⟩
  unfold t_Law_law_L1115 at hT
  refine lv_aload_n F.hx F.hb d_Law_law_1115 rfl (lv_at hl 1 rfl) ?_
  refine lv_aload_n F.hx F.hb d_Law_law_1116 rfl (lv_at hl 0 rfl) ?_
  refine lv_iload F.hx F.hb d_Law_law_1117 (lv_at hl 4 rfl) ?_
  refine r_iconst F.hx F.hb d_Law_law_1119 ?_
  refine r_iadd F.hx F.hb d_Law_law_1120 ?_
  refine r_sld F hS hXs hsl hb (inr_w32 _) (law_ix hij hjL hL 1 (by decide) (by decide)).1 (law_ix hij hjL hL 1 (by decide) (by decide)).2 d_Law_law_1121 ?_
  obtain ⟨q136, hq136, hT⟩ := q_obind hT
  refine r_backI F hS (r_runV (k := 0) (N := 19) (T := T0) (As := [vI (xs ((w32 (v4_ + 1))).toNat).toInt]) F hS (show 0 < 232 by decide) (show shK 0 = 4 from rfl) rfl (c_WF_clock l (Nat.le_of_ble_eq_true rfl) M (xs ((w32 (v4_ + 1))).toNat).toInt (q_inr_toInt _) _ hq136) gs_WardFallsLaw_128 hd_WF_clock ⟨Nat.le_of_ble_eq_true rfl, Nat.le_of_ble_eq_true rfl⟩ rfl hl.1 (Nat.le_of_ble_eq_true rfl) (law_rc hcs1 hjL hL) rfl d_Law_law_1122) (fun H locs hS h137 => ?_)
  refine lv_pop F.hx F.hb d_Law_law_1125 rfl ?_
  refine lv_aload_n F.hx F.hb d_Law_law_1126 rfl (lv_at hl 2 rfl) ?_
  refine lv_aload_n F.hx F.hb d_Law_law_1127 rfl (lv_at hl 0 rfl) ?_
  refine lv_iload F.hx F.hb d_Law_law_1128 (lv_at hl 4 rfl) ?_
  refine r_iconst F.hx F.hb d_Law_law_1130 ?_
  refine r_iadd F.hx F.hb d_Law_law_1131 ?_
  refine r_sld F hS hXs hsl hb (inr_w32 _) (law_ix hij hjL hL 1 (by decide) (by decide)).1 (law_ix hij hjL hL 1 (by decide) (by decide)).2 d_Law_law_1132 ?_
  obtain ⟨q138, hq138, hT⟩ := q_obind hT
  refine r_backI F hS (r_runV (k := 191) (N := 68) (T := T1) (As := [vI (xs ((w32 (v4_ + 1))).toNat).toInt]) F hS (show 191 < 232 by decide) (show shK 191 = 5 from rfl) rfl (c_MO_clock l (Nat.le_of_ble_eq_true rfl) (q136.1) (xs ((w32 (v4_ + 1))).toNat).toInt (q_inr_toInt _) _ hq138) gs_WardFallsLaw_131 hd_MO_clock ⟨Nat.le_of_ble_eq_true rfl, Nat.le_of_ble_eq_true rfl⟩ rfl hl.1 (Nat.le_of_ble_eq_true rfl) (law_rc hcs1 hjL hL) rfl d_Law_law_1133) (fun H locs hS h139 => ?_)
  refine lv_pop F.hx F.hb d_Law_law_1136 rfl ?_
  refine lv_goto (tgt := 1540) F.hx F.hb d_Law_law_1137 (by decide) ?_
  exact k_Law_law_L1540 l hlf hL F hX hXs hsl hb hlk hr bk23 j hjL hbk23 (q138.1) v4_ hv4_ hij _ _ hcs1 _ _ _ hS (lv_sub hl [0, 1, 2, 3, 4] rfl) hT
set_option maxHeartbeats 16000000 in
set_option maxRecDepth 100000 in
theorem k_Law_law_L1140 (l : Launch) (hlf : l.stackTraces = false) {p : Program} {e : Env} {s : State} {m : MethodId} {below : List Frame} {meth : Method} {c : Code} {b : Nat} {C : CT} {scr L : Nat} {xs : Nat → Int32} (hL : L ≤ 3072) (F : Cx b p m c b_Law_law 7 s ([.ref scr] : List Value).toArray "WardFallsLaw" C 232 232) (hX : EX b s) (hXs : va_X scr L xs s s.heap) (hsl : scr < s.heap.size) (hb : b = s.heap.size) (hlk : meth.locks = false) (hr : meth.sig.returnType = ret) (bk23 : Mem → Int → Option Int) (j : Nat) (hjL : 6 * j + 6 ≤ L) (hbk23 : ∀ (M : Mem) (v4_ : Int) (hv4_ : InR v4_) (hij : v4_ = 6 * ((j + 1 : Nat) : Int)) (cells slots : Nat) (hcs : cells ≤ 232 + (j + 1) ∧ slots ≤ 11930 + 6 * (j + 1)) (H : Heap) (locs : List Loc) (ls : Array Slot), St b C 232 M s H locs → lv_has ls 7 [(0, .ref scr), (1, .ref (b + 0)), (2, .ref (b + 191)), (3, .ref (b + 231)), (4, vI v4_)] → bk23 M v4_ = some 1 → W p l e room_1 s m #[Value.ref scr] below meth c H locs cells slots (lw_Z below #[Value.ref scr] s) (F0 m 23 ls [])) (M : Mem) (v4_ : Int) (hv4_ : InR v4_) (hij : v4_ = 6 * (j : Int)) (cells slots : Nat) (hcs : cells ≤ 232 + j ∧ slots ≤ 11930 + 6 * j) (H : Heap) (locs : List Loc) (ls : Array Slot) (hS : St b C 232 M s H locs) (hl : lv_has ls 7 [(0, .ref scr), (1, .ref (b + 0)), (2, .ref (b + 191)), (3, .ref (b + 231)), (4, vI v4_)]) (hT : t_Law_law_L1140 xs L bk23 M v4_ = some 1) : W p l e room_1 s m #[Value.ref scr] below meth c H locs cells slots (lw_Z below #[Value.ref scr] s) (F0 m 1140 ls []) := by
  have hcs1 : cells ≤ 233 + j ∧ slots ≤ 11936 + 6 * j := ⟨by omega, by omega⟩
  unfold t_Law_law_L1140 at hT
  refine lv_aload_n F.hx F.hb d_Law_law_1140 rfl (lv_at hl 1 rfl) ?_
  obtain ⟨q140, hq140, hT⟩ := q_obind hT
  refine r_backI F hS (r_runV (k := 0) (N := 19) (T := T0) (As := []) F hS (show 0 < 232 by decide) (show shK 0 = 4 from rfl) rfl (c_WF_stays l (Nat.le_of_ble_eq_true rfl) M _ hq140) gs_WardFallsLaw_132 hd_WF_stays ⟨Nat.le_of_ble_eq_true rfl, Nat.le_of_ble_eq_true rfl⟩ rfl hl.1 (Nat.le_of_ble_eq_true rfl) (law_rc hcs1 hjL hL) rfl d_Law_law_1141) (fun H locs hS h141 => ?_)
  refine lv_pop F.hx F.hb d_Law_law_1144 rfl ?_
  refine lv_aload_n F.hx F.hb d_Law_law_1145 rfl (lv_at hl 2 rfl) ?_
  obtain ⟨q142, hq142, hT⟩ := q_obind hT
  refine r_backI F hS (r_runV (k := 191) (N := 68) (T := T1) (As := []) F hS (show 191 < 232 by decide) (show shK 191 = 5 from rfl) rfl (c_MO_stays l (Nat.le_of_ble_eq_true rfl) (q140.1) _ hq142) gs_WardFallsLaw_135 hd_MO_stays ⟨Nat.le_of_ble_eq_true rfl, Nat.le_of_ble_eq_true rfl⟩ rfl hl.1 (Nat.le_of_ble_eq_true rfl) (law_rc hcs1 hjL hL) rfl d_Law_law_1146) (fun H locs hS h143 => ?_)
  refine lv_pop F.hx F.hb d_Law_law_1149 rfl ?_
  refine lv_goto (tgt := 1540) F.hx F.hb d_Law_law_1150 (by decide) ?_
  exact k_Law_law_L1540 l hlf hL F hX hXs hsl hb hlk hr bk23 j hjL hbk23 (q142.1) v4_ hv4_ hij _ _ hcs1 _ _ _ hS (lv_sub hl [0, 1, 2, 3, 4] rfl) hT
set_option maxHeartbeats 16000000 in
set_option maxRecDepth 100000 in
theorem k_Law_law_L1153 (l : Launch) (hlf : l.stackTraces = false) {p : Program} {e : Env} {s : State} {m : MethodId} {below : List Frame} {meth : Method} {c : Code} {b : Nat} {C : CT} {scr L : Nat} {xs : Nat → Int32} (hL : L ≤ 3072) (F : Cx b p m c b_Law_law 7 s ([.ref scr] : List Value).toArray "WardFallsLaw" C 232 232) (hX : EX b s) (hXs : va_X scr L xs s s.heap) (hsl : scr < s.heap.size) (hb : b = s.heap.size) (hlk : meth.locks = false) (hr : meth.sig.returnType = ret) (bk23 : Mem → Int → Option Int) (j : Nat) (hjL : 6 * j + 6 ≤ L) (hbk23 : ∀ (M : Mem) (v4_ : Int) (hv4_ : InR v4_) (hij : v4_ = 6 * ((j + 1 : Nat) : Int)) (cells slots : Nat) (hcs : cells ≤ 232 + (j + 1) ∧ slots ≤ 11930 + 6 * (j + 1)) (H : Heap) (locs : List Loc) (ls : Array Slot), St b C 232 M s H locs → lv_has ls 7 [(0, .ref scr), (1, .ref (b + 0)), (2, .ref (b + 191)), (3, .ref (b + 231)), (4, vI v4_)] → bk23 M v4_ = some 1 → W p l e room_1 s m #[Value.ref scr] below meth c H locs cells slots (lw_Z below #[Value.ref scr] s) (F0 m 23 ls [])) (M : Mem) (v4_ : Int) (hv4_ : InR v4_) (hij : v4_ = 6 * (j : Int)) (cells slots : Nat) (hcs : cells ≤ 232 + j ∧ slots ≤ 11930 + 6 * j) (H : Heap) (locs : List Loc) (ls : Array Slot) (hS : St b C 232 M s H locs) (hl : lv_has ls 7 [(0, .ref scr), (1, .ref (b + 0)), (2, .ref (b + 191)), (3, .ref (b + 231)), (4, vI v4_)]) (hT : t_Law_law_L1153 xs L bk23 M v4_ = some 1) : W p l e room_1 s m #[Value.ref scr] below meth c H locs cells slots (lw_Z below #[Value.ref scr] s) (F0 m 1153 ls []) := by
  have hcs1 : cells ≤ 233 + j ∧ slots ≤ 11936 + 6 * j := ⟨by omega, by omega⟩
  unfold t_Law_law_L1153 at hT
  refine lv_aload_n F.hx F.hb d_Law_law_1153 rfl (lv_at hl 1 rfl) ?_
  refine lv_aload_n F.hx F.hb d_Law_law_1154 rfl (lv_at hl 0 rfl) ?_
  refine lv_iload F.hx F.hb d_Law_law_1155 (lv_at hl 4 rfl) ?_
  refine r_iconst F.hx F.hb d_Law_law_1157 ?_
  refine r_iadd F.hx F.hb d_Law_law_1158 ?_
  refine r_sld F hS hXs hsl hb (inr_w32 _) (law_ix hij hjL hL 1 (by decide) (by decide)).1 (law_ix hij hjL hL 1 (by decide) (by decide)).2 d_Law_law_1159 ?_
  obtain ⟨q144, hq144, hT⟩ := q_obind hT
  refine r_backI F hS (r_runV (k := 0) (N := 19) (T := T0) (As := [vI (xs ((w32 (v4_ + 1))).toNat).toInt]) F hS (show 0 < 232 by decide) (show shK 0 = 4 from rfl) rfl (c_WF_stay l (Nat.le_of_ble_eq_true rfl) M (xs ((w32 (v4_ + 1))).toNat).toInt (q_inr_toInt _) _ hq144) gs_WardFallsLaw_136 hd_WF_stay ⟨Nat.le_of_ble_eq_true rfl, Nat.le_of_ble_eq_true rfl⟩ rfl hl.1 (Nat.le_of_ble_eq_true rfl) (law_rc hcs1 hjL hL) rfl d_Law_law_1160) (fun H locs hS h145 => ?_)
  refine lv_pop F.hx F.hb d_Law_law_1163 rfl ?_
  refine lv_aload_n F.hx F.hb d_Law_law_1164 rfl (lv_at hl 2 rfl) ?_
  refine lv_aload_n F.hx F.hb d_Law_law_1165 rfl (lv_at hl 0 rfl) ?_
  refine lv_iload F.hx F.hb d_Law_law_1166 (lv_at hl 4 rfl) ?_
  refine r_iconst F.hx F.hb d_Law_law_1168 ?_
  refine r_iadd F.hx F.hb d_Law_law_1169 ?_
  refine r_sld F hS hXs hsl hb (inr_w32 _) (law_ix hij hjL hL 1 (by decide) (by decide)).1 (law_ix hij hjL hL 1 (by decide) (by decide)).2 d_Law_law_1170 ?_
  obtain ⟨q146, hq146, hT⟩ := q_obind hT
  refine r_backI F hS (r_runV (k := 191) (N := 68) (T := T1) (As := [vI (xs ((w32 (v4_ + 1))).toNat).toInt]) F hS (show 191 < 232 by decide) (show shK 191 = 5 from rfl) rfl (c_MO_stay l (Nat.le_of_ble_eq_true rfl) (q144.1) (xs ((w32 (v4_ + 1))).toNat).toInt (q_inr_toInt _) _ hq146) gs_WardFallsLaw_139 hd_MO_stay ⟨Nat.le_of_ble_eq_true rfl, Nat.le_of_ble_eq_true rfl⟩ rfl hl.1 (Nat.le_of_ble_eq_true rfl) (law_rc hcs1 hjL hL) rfl d_Law_law_1171) (fun H locs hS h147 => ?_)
  refine lv_pop F.hx F.hb d_Law_law_1174 rfl ?_
  refine lv_goto (tgt := 1540) F.hx F.hb d_Law_law_1175 (by decide) ?_
  exact k_Law_law_L1540 l hlf hL F hX hXs hsl hb hlk hr bk23 j hjL hbk23 (q146.1) v4_ hv4_ hij _ _ hcs1 _ _ _ hS (lv_sub hl [0, 1, 2, 3, 4] rfl) hT
set_option maxHeartbeats 16000000 in
set_option maxRecDepth 100000 in
theorem k_Law_law_L1178 (l : Launch) (hlf : l.stackTraces = false) {p : Program} {e : Env} {s : State} {m : MethodId} {below : List Frame} {meth : Method} {c : Code} {b : Nat} {C : CT} {scr L : Nat} {xs : Nat → Int32} (hL : L ≤ 3072) (F : Cx b p m c b_Law_law 7 s ([.ref scr] : List Value).toArray "WardFallsLaw" C 232 232) (hX : EX b s) (hXs : va_X scr L xs s s.heap) (hsl : scr < s.heap.size) (hb : b = s.heap.size) (hlk : meth.locks = false) (hr : meth.sig.returnType = ret) (bk23 : Mem → Int → Option Int) (j : Nat) (hjL : 6 * j + 6 ≤ L) (hbk23 : ∀ (M : Mem) (v4_ : Int) (hv4_ : InR v4_) (hij : v4_ = 6 * ((j + 1 : Nat) : Int)) (cells slots : Nat) (hcs : cells ≤ 232 + (j + 1) ∧ slots ≤ 11930 + 6 * (j + 1)) (H : Heap) (locs : List Loc) (ls : Array Slot), St b C 232 M s H locs → lv_has ls 7 [(0, .ref scr), (1, .ref (b + 0)), (2, .ref (b + 191)), (3, .ref (b + 231)), (4, vI v4_)] → bk23 M v4_ = some 1 → W p l e room_1 s m #[Value.ref scr] below meth c H locs cells slots (lw_Z below #[Value.ref scr] s) (F0 m 23 ls [])) (M : Mem) (v4_ : Int) (hv4_ : InR v4_) (hij : v4_ = 6 * (j : Int)) (cells slots : Nat) (hcs : cells ≤ 232 + j ∧ slots ≤ 11930 + 6 * j) (H : Heap) (locs : List Loc) (ls : Array Slot) (hS : St b C 232 M s H locs) (hl : lv_has ls 7 [(0, .ref scr), (1, .ref (b + 0)), (2, .ref (b + 191)), (3, .ref (b + 231)), (4, vI v4_)]) (hT : t_Law_law_L1178 xs L bk23 M v4_ = some 1) : W p l e room_1 s m #[Value.ref scr] below meth c H locs cells slots (lw_Z below #[Value.ref scr] s) (F0 m 1178 ls []) := by
  have hcs1 : cells ≤ 233 + j ∧ slots ≤ 11936 + 6 * j := ⟨by omega, by omega⟩
  unfold t_Law_law_L1178 at hT
  refine lv_aload_n F.hx F.hb d_Law_law_1178 rfl (lv_at hl 1 rfl) ?_
  refine lv_aload_n F.hx F.hb d_Law_law_1179 rfl (lv_at hl 0 rfl) ?_
  refine lv_iload F.hx F.hb d_Law_law_1180 (lv_at hl 4 rfl) ?_
  refine r_iconst F.hx F.hb d_Law_law_1182 ?_
  refine r_iadd F.hx F.hb d_Law_law_1183 ?_
  refine r_sld F hS hXs hsl hb (inr_w32 _) (law_ix hij hjL hL 1 (by decide) (by decide)).1 (law_ix hij hjL hL 1 (by decide) (by decide)).2 d_Law_law_1184 ?_
  obtain ⟨q148, hq148, hT⟩ := q_obind hT
  refine r_backI F hS (r_runV (k := 0) (N := 19) (T := T0) (As := [vI (xs ((w32 (v4_ + 1))).toNat).toInt]) F hS (show 0 < 232 by decide) (show shK 0 = 4 from rfl) rfl (c_WF_treaty l (Nat.le_of_ble_eq_true rfl) M (xs ((w32 (v4_ + 1))).toNat).toInt (q_inr_toInt _) _ hq148) gs_WardFallsLaw_140 hd_WF_treaty ⟨Nat.le_of_ble_eq_true rfl, Nat.le_of_ble_eq_true rfl⟩ rfl hl.1 (Nat.le_of_ble_eq_true rfl) (law_rc hcs1 hjL hL) rfl d_Law_law_1185) (fun H locs hS h149 => ?_)
  refine lv_pop F.hx F.hb d_Law_law_1188 rfl ?_
  refine lv_aload_n F.hx F.hb d_Law_law_1189 rfl (lv_at hl 2 rfl) ?_
  refine lv_aload_n F.hx F.hb d_Law_law_1190 rfl (lv_at hl 0 rfl) ?_
  refine lv_iload F.hx F.hb d_Law_law_1191 (lv_at hl 4 rfl) ?_
  refine r_iconst F.hx F.hb d_Law_law_1193 ?_
  refine r_iadd F.hx F.hb d_Law_law_1194 ?_
  refine r_sld F hS hXs hsl hb (inr_w32 _) (law_ix hij hjL hL 1 (by decide) (by decide)).1 (law_ix hij hjL hL 1 (by decide) (by decide)).2 d_Law_law_1195 ?_
  obtain ⟨q150, hq150, hT⟩ := q_obind hT
  refine r_backI F hS (r_runV (k := 191) (N := 68) (T := T1) (As := [vI (xs ((w32 (v4_ + 1))).toNat).toInt]) F hS (show 191 < 232 by decide) (show shK 191 = 5 from rfl) rfl (c_MO_treaty l (Nat.le_of_ble_eq_true rfl) (q148.1) (xs ((w32 (v4_ + 1))).toNat).toInt (q_inr_toInt _) _ hq150) gs_WardFallsLaw_143 hd_MO_treaty ⟨Nat.le_of_ble_eq_true rfl, Nat.le_of_ble_eq_true rfl⟩ rfl hl.1 (Nat.le_of_ble_eq_true rfl) (law_rc hcs1 hjL hL) rfl d_Law_law_1196) (fun H locs hS h151 => ?_)
  refine lv_pop F.hx F.hb d_Law_law_1199 rfl ?_
  refine lv_goto (tgt := 1540) F.hx F.hb d_Law_law_1200 (by decide) ?_
  exact k_Law_law_L1540 l hlf hL F hX hXs hsl hb hlk hr bk23 j hjL hbk23 (q150.1) v4_ hv4_ hij _ _ hcs1 _ _ _ hS (lv_sub hl [0, 1, 2, 3, 4] rfl) hT
set_option maxHeartbeats 16000000 in
set_option maxRecDepth 100000 in
theorem k_Law_law_L1203 (l : Launch) (hlf : l.stackTraces = false) {p : Program} {e : Env} {s : State} {m : MethodId} {below : List Frame} {meth : Method} {c : Code} {b : Nat} {C : CT} {scr L : Nat} {xs : Nat → Int32} (hL : L ≤ 3072) (F : Cx b p m c b_Law_law 7 s ([.ref scr] : List Value).toArray "WardFallsLaw" C 232 232) (hX : EX b s) (hXs : va_X scr L xs s s.heap) (hsl : scr < s.heap.size) (hb : b = s.heap.size) (hlk : meth.locks = false) (hr : meth.sig.returnType = ret) (bk23 : Mem → Int → Option Int) (j : Nat) (hjL : 6 * j + 6 ≤ L) (hbk23 : ∀ (M : Mem) (v4_ : Int) (hv4_ : InR v4_) (hij : v4_ = 6 * ((j + 1 : Nat) : Int)) (cells slots : Nat) (hcs : cells ≤ 232 + (j + 1) ∧ slots ≤ 11930 + 6 * (j + 1)) (H : Heap) (locs : List Loc) (ls : Array Slot), St b C 232 M s H locs → lv_has ls 7 [(0, .ref scr), (1, .ref (b + 0)), (2, .ref (b + 191)), (3, .ref (b + 231)), (4, vI v4_)] → bk23 M v4_ = some 1 → W p l e room_1 s m #[Value.ref scr] below meth c H locs cells slots (lw_Z below #[Value.ref scr] s) (F0 m 23 ls [])) (M : Mem) (v4_ : Int) (hv4_ : InR v4_) (hij : v4_ = 6 * (j : Int)) (cells slots : Nat) (hcs : cells ≤ 232 + j ∧ slots ≤ 11930 + 6 * j) (H : Heap) (locs : List Loc) (ls : Array Slot) (hS : St b C 232 M s H locs) (hl : lv_has ls 7 [(0, .ref scr), (1, .ref (b + 0)), (2, .ref (b + 191)), (3, .ref (b + 231)), (4, vI v4_)]) (hT : t_Law_law_L1203 xs L bk23 M v4_ = some 1) : W p l e room_1 s m #[Value.ref scr] below meth c H locs cells slots (lw_Z below #[Value.ref scr] s) (F0 m 1203 ls []) := by
  have hcs1 : cells ≤ 233 + j ∧ slots ≤ 11936 + 6 * j := ⟨by omega, by omega⟩
  unfold t_Law_law_L1203 at hT
  refine lv_aload_n F.hx F.hb d_Law_law_1203 rfl (lv_at hl 1 rfl) ?_
  refine lv_aload_n F.hx F.hb d_Law_law_1204 rfl (lv_at hl 0 rfl) ?_
  refine lv_iload F.hx F.hb d_Law_law_1205 (lv_at hl 4 rfl) ?_
  refine r_iconst F.hx F.hb d_Law_law_1207 ?_
  refine r_iadd F.hx F.hb d_Law_law_1208 ?_
  refine r_sld F hS hXs hsl hb (inr_w32 _) (law_ix hij hjL hL 1 (by decide) (by decide)).1 (law_ix hij hjL hL 1 (by decide) (by decide)).2 d_Law_law_1209 ?_
  refine lv_aload_n F.hx F.hb d_Law_law_1210 rfl (lv_at hl 0 rfl) ?_
  refine lv_iload F.hx F.hb d_Law_law_1211 (lv_at hl 4 rfl) ?_
  refine r_iconst F.hx F.hb d_Law_law_1213 ?_
  refine r_iadd F.hx F.hb d_Law_law_1214 ?_
  refine r_sld F hS hXs hsl hb (inr_w32 _) (law_ix hij hjL hL 2 (by decide) (by decide)).1 (law_ix hij hjL hL 2 (by decide) (by decide)).2 d_Law_law_1215 ?_
  obtain ⟨q152, hq152, hT⟩ := q_obind hT
  refine r_backI F hS (r_runV (k := 0) (N := 19) (T := T0) (As := [vI (xs ((w32 (v4_ + 1))).toNat).toInt, vI (xs ((w32 (v4_ + 2))).toNat).toInt]) F hS (show 0 < 232 by decide) (show shK 0 = 4 from rfl) rfl (c_WF_moves l (Nat.le_of_ble_eq_true rfl) M (xs ((w32 (v4_ + 1))).toNat).toInt (xs ((w32 (v4_ + 2))).toNat).toInt (q_inr_toInt _) (q_inr_toInt _) _ hq152) gs_WardFallsLaw_144 hd_WF_moves ⟨Nat.le_of_ble_eq_true rfl, Nat.le_of_ble_eq_true rfl⟩ rfl hl.1 (Nat.le_of_ble_eq_true rfl) (law_rc hcs1 hjL hL) rfl d_Law_law_1216) (fun H locs hS h153 => ?_)
  refine lv_pop F.hx F.hb d_Law_law_1219 rfl ?_
  refine lv_aload_n F.hx F.hb d_Law_law_1220 rfl (lv_at hl 2 rfl) ?_
  refine lv_aload_n F.hx F.hb d_Law_law_1221 rfl (lv_at hl 0 rfl) ?_
  refine lv_iload F.hx F.hb d_Law_law_1222 (lv_at hl 4 rfl) ?_
  refine r_iconst F.hx F.hb d_Law_law_1224 ?_
  refine r_iadd F.hx F.hb d_Law_law_1225 ?_
  refine r_sld F hS hXs hsl hb (inr_w32 _) (law_ix hij hjL hL 1 (by decide) (by decide)).1 (law_ix hij hjL hL 1 (by decide) (by decide)).2 d_Law_law_1226 ?_
  refine lv_aload_n F.hx F.hb d_Law_law_1227 rfl (lv_at hl 0 rfl) ?_
  refine lv_iload F.hx F.hb d_Law_law_1228 (lv_at hl 4 rfl) ?_
  refine r_iconst F.hx F.hb d_Law_law_1230 ?_
  refine r_iadd F.hx F.hb d_Law_law_1231 ?_
  refine r_sld F hS hXs hsl hb (inr_w32 _) (law_ix hij hjL hL 2 (by decide) (by decide)).1 (law_ix hij hjL hL 2 (by decide) (by decide)).2 d_Law_law_1232 ?_
  obtain ⟨q154, hq154, hT⟩ := q_obind hT
  refine r_backI F hS (r_runV (k := 191) (N := 68) (T := T1) (As := [vI (xs ((w32 (v4_ + 1))).toNat).toInt, vI (xs ((w32 (v4_ + 2))).toNat).toInt]) F hS (show 191 < 232 by decide) (show shK 191 = 5 from rfl) rfl (c_MO_moves l (Nat.le_of_ble_eq_true rfl) (q152.1) (xs ((w32 (v4_ + 1))).toNat).toInt (xs ((w32 (v4_ + 2))).toNat).toInt (q_inr_toInt _) (q_inr_toInt _) _ hq154) gs_WardFallsLaw_147 hd_MO_moves ⟨Nat.le_of_ble_eq_true rfl, Nat.le_of_ble_eq_true rfl⟩ rfl hl.1 (Nat.le_of_ble_eq_true rfl) (law_rc hcs1 hjL hL) rfl d_Law_law_1233) (fun H locs hS h155 => ?_)
  refine lv_pop F.hx F.hb d_Law_law_1236 rfl ?_
  refine lv_goto (tgt := 1540) F.hx F.hb d_Law_law_1237 (by decide) ?_
  exact k_Law_law_L1540 l hlf hL F hX hXs hsl hb hlk hr bk23 j hjL hbk23 (q154.1) v4_ hv4_ hij _ _ hcs1 _ _ _ hS (lv_sub hl [0, 1, 2, 3, 4] rfl) hT
set_option maxHeartbeats 16000000 in
set_option maxRecDepth 100000 in
theorem k_Law_law_L1240 (l : Launch) (hlf : l.stackTraces = false) {p : Program} {e : Env} {s : State} {m : MethodId} {below : List Frame} {meth : Method} {c : Code} {b : Nat} {C : CT} {scr L : Nat} {xs : Nat → Int32} (hL : L ≤ 3072) (F : Cx b p m c b_Law_law 7 s ([.ref scr] : List Value).toArray "WardFallsLaw" C 232 232) (hX : EX b s) (hXs : va_X scr L xs s s.heap) (hsl : scr < s.heap.size) (hb : b = s.heap.size) (hlk : meth.locks = false) (hr : meth.sig.returnType = ret) (bk23 : Mem → Int → Option Int) (j : Nat) (hjL : 6 * j + 6 ≤ L) (hbk23 : ∀ (M : Mem) (v4_ : Int) (hv4_ : InR v4_) (hij : v4_ = 6 * ((j + 1 : Nat) : Int)) (cells slots : Nat) (hcs : cells ≤ 232 + (j + 1) ∧ slots ≤ 11930 + 6 * (j + 1)) (H : Heap) (locs : List Loc) (ls : Array Slot), St b C 232 M s H locs → lv_has ls 7 [(0, .ref scr), (1, .ref (b + 0)), (2, .ref (b + 191)), (3, .ref (b + 231)), (4, vI v4_)] → bk23 M v4_ = some 1 → W p l e room_1 s m #[Value.ref scr] below meth c H locs cells slots (lw_Z below #[Value.ref scr] s) (F0 m 23 ls [])) (M : Mem) (v4_ : Int) (hv4_ : InR v4_) (hij : v4_ = 6 * (j : Int)) (cells slots : Nat) (hcs : cells ≤ 232 + j ∧ slots ≤ 11930 + 6 * j) (H : Heap) (locs : List Loc) (ls : Array Slot) (hS : St b C 232 M s H locs) (hl : lv_has ls 7 [(0, .ref scr), (1, .ref (b + 0)), (2, .ref (b + 191)), (3, .ref (b + 231)), (4, vI v4_)]) (hT : t_Law_law_L1240 xs L bk23 M v4_ = some 1) : W p l e room_1 s m #[Value.ref scr] below meth c H locs cells slots (lw_Z below #[Value.ref scr] s) (F0 m 1240 ls []) := by
  have hcs1 : cells ≤ 233 + j ∧ slots ≤ 11936 + 6 * j := ⟨by omega, by omega⟩
  unfold t_Law_law_L1240 at hT
  refine lv_aload_n F.hx F.hb d_Law_law_1240 rfl (lv_at hl 1 rfl) ?_
  refine lv_aload_n F.hx F.hb d_Law_law_1241 rfl (lv_at hl 0 rfl) ?_
  refine lv_iload F.hx F.hb d_Law_law_1242 (lv_at hl 4 rfl) ?_
  refine r_iconst F.hx F.hb d_Law_law_1244 ?_
  refine r_iadd F.hx F.hb d_Law_law_1245 ?_
  refine r_sld F hS hXs hsl hb (inr_w32 _) (law_ix hij hjL hL 1 (by decide) (by decide)).1 (law_ix hij hjL hL 1 (by decide) (by decide)).2 d_Law_law_1246 ?_
  refine lv_aload_n F.hx F.hb d_Law_law_1247 rfl (lv_at hl 0 rfl) ?_
  refine lv_iload F.hx F.hb d_Law_law_1248 (lv_at hl 4 rfl) ?_
  refine r_iconst F.hx F.hb d_Law_law_1250 ?_
  refine r_iadd F.hx F.hb d_Law_law_1251 ?_
  refine r_sld F hS hXs hsl hb (inr_w32 _) (law_ix hij hjL hL 2 (by decide) (by decide)).1 (law_ix hij hjL hL 2 (by decide) (by decide)).2 d_Law_law_1252 ?_
  obtain ⟨q156, hq156⟩ : ∃ q, q = (t_WF_note M (xs ((w32 (v4_ + 1))).toNat).toInt (xs ((w32 (v4_ + 2))).toNat).toInt) := ⟨_, rfl⟩
  replace hT := qlet_eq hT hq156
  refine r_backI F hS (r_runV (k := 0) (N := 19) (T := T0) (As := [vI (xs ((w32 (v4_ + 1))).toNat).toInt, vI (xs ((w32 (v4_ + 2))).toNat).toInt]) F hS (show 0 < 232 by decide) (show shK 0 = 4 from rfl) rfl (c_WF_note l (Nat.le_of_ble_eq_true rfl) M (xs ((w32 (v4_ + 1))).toNat).toInt (xs ((w32 (v4_ + 2))).toNat).toInt (q_inr_toInt _) (q_inr_toInt _) _ hq156.symm) gs_WardFallsLaw_148 hd_WF_note ⟨Nat.le_of_ble_eq_true rfl, Nat.le_of_ble_eq_true rfl⟩ rfl hl.1 (Nat.le_of_ble_eq_true rfl) (law_rc hcs1 hjL hL) rfl d_Law_law_1253) (fun H locs hS h157 => ?_)
  refine lv_pop F.hx F.hb d_Law_law_1256 rfl ?_
  refine lv_aload_n F.hx F.hb d_Law_law_1257 rfl (lv_at hl 2 rfl) ?_
  refine lv_aload_n F.hx F.hb d_Law_law_1258 rfl (lv_at hl 0 rfl) ?_
  refine lv_iload F.hx F.hb d_Law_law_1259 (lv_at hl 4 rfl) ?_
  refine r_iconst F.hx F.hb d_Law_law_1261 ?_
  refine r_iadd F.hx F.hb d_Law_law_1262 ?_
  refine r_sld F hS hXs hsl hb (inr_w32 _) (law_ix hij hjL hL 1 (by decide) (by decide)).1 (law_ix hij hjL hL 1 (by decide) (by decide)).2 d_Law_law_1263 ?_
  refine lv_aload_n F.hx F.hb d_Law_law_1264 rfl (lv_at hl 0 rfl) ?_
  refine lv_iload F.hx F.hb d_Law_law_1265 (lv_at hl 4 rfl) ?_
  refine r_iconst F.hx F.hb d_Law_law_1267 ?_
  refine r_iadd F.hx F.hb d_Law_law_1268 ?_
  refine r_sld F hS hXs hsl hb (inr_w32 _) (law_ix hij hjL hL 2 (by decide) (by decide)).1 (law_ix hij hjL hL 2 (by decide) (by decide)).2 d_Law_law_1269 ?_
  obtain ⟨q158, hq158, hT⟩ := q_obind hT
  refine r_backI F hS (r_runV (k := 191) (N := 68) (T := T1) (As := [vI (xs ((w32 (v4_ + 1))).toNat).toInt, vI (xs ((w32 (v4_ + 2))).toNat).toInt]) F hS (show 191 < 232 by decide) (show shK 191 = 5 from rfl) rfl (c_MO_note l (Nat.le_of_ble_eq_true rfl) (q156.1) (xs ((w32 (v4_ + 1))).toNat).toInt (xs ((w32 (v4_ + 2))).toNat).toInt (q_inr_toInt _) (q_inr_toInt _) _ hq158) gs_WardFallsLaw_151 hd_MO_note ⟨Nat.le_of_ble_eq_true rfl, Nat.le_of_ble_eq_true rfl⟩ rfl hl.1 (Nat.le_of_ble_eq_true rfl) (law_rc hcs1 hjL hL) rfl d_Law_law_1270) (fun H locs hS h159 => ?_)
  refine lv_pop F.hx F.hb d_Law_law_1273 rfl ?_
  refine lv_goto (tgt := 1540) F.hx F.hb d_Law_law_1274 (by decide) ?_
  exact k_Law_law_L1540 l hlf hL F hX hXs hsl hb hlk hr bk23 j hjL hbk23 (q158.1) v4_ hv4_ hij _ _ hcs1 _ _ _ hS (lv_sub hl [0, 1, 2, 3, 4] rfl) hT
set_option maxHeartbeats 16000000 in
set_option maxRecDepth 100000 in
theorem k_Law_law_L1277 (l : Launch) (hlf : l.stackTraces = false) {p : Program} {e : Env} {s : State} {m : MethodId} {below : List Frame} {meth : Method} {c : Code} {b : Nat} {C : CT} {scr L : Nat} {xs : Nat → Int32} (hL : L ≤ 3072) (F : Cx b p m c b_Law_law 7 s ([.ref scr] : List Value).toArray "WardFallsLaw" C 232 232) (hX : EX b s) (hXs : va_X scr L xs s s.heap) (hsl : scr < s.heap.size) (hb : b = s.heap.size) (hlk : meth.locks = false) (hr : meth.sig.returnType = ret) (bk23 : Mem → Int → Option Int) (j : Nat) (hjL : 6 * j + 6 ≤ L) (hbk23 : ∀ (M : Mem) (v4_ : Int) (hv4_ : InR v4_) (hij : v4_ = 6 * ((j + 1 : Nat) : Int)) (cells slots : Nat) (hcs : cells ≤ 232 + (j + 1) ∧ slots ≤ 11930 + 6 * (j + 1)) (H : Heap) (locs : List Loc) (ls : Array Slot), St b C 232 M s H locs → lv_has ls 7 [(0, .ref scr), (1, .ref (b + 0)), (2, .ref (b + 191)), (3, .ref (b + 231)), (4, vI v4_)] → bk23 M v4_ = some 1 → W p l e room_1 s m #[Value.ref scr] below meth c H locs cells slots (lw_Z below #[Value.ref scr] s) (F0 m 23 ls [])) (M : Mem) (v4_ : Int) (hv4_ : InR v4_) (hij : v4_ = 6 * (j : Int)) (cells slots : Nat) (hcs : cells ≤ 232 + j ∧ slots ≤ 11930 + 6 * j) (H : Heap) (locs : List Loc) (ls : Array Slot) (hS : St b C 232 M s H locs) (hl : lv_has ls 7 [(0, .ref scr), (1, .ref (b + 0)), (2, .ref (b + 191)), (3, .ref (b + 231)), (4, vI v4_)]) (hT : t_Law_law_L1277 xs L bk23 M v4_ = some 1) : W p l e room_1 s m #[Value.ref scr] below meth c H locs cells slots (lw_Z below #[Value.ref scr] s) (F0 m 1277 ls []) := by
  have hcs1 : cells ≤ 233 + j ∧ slots ≤ 11936 + 6 * j := ⟨by omega, by omega⟩
  unfold t_Law_law_L1277 at hT
  refine lv_aload_n F.hx F.hb d_Law_law_1277 rfl (lv_at hl 1 rfl) ?_
  refine lv_aload_n F.hx F.hb d_Law_law_1278 rfl (lv_at hl 0 rfl) ?_
  refine lv_iload F.hx F.hb d_Law_law_1279 (lv_at hl 4 rfl) ?_
  refine r_iconst F.hx F.hb d_Law_law_1281 ?_
  refine r_iadd F.hx F.hb d_Law_law_1282 ?_
  refine r_sld F hS hXs hsl hb (inr_w32 _) (law_ix hij hjL hL 1 (by decide) (by decide)).1 (law_ix hij hjL hL 1 (by decide) (by decide)).2 d_Law_law_1283 ?_
  obtain ⟨q160, hq160⟩ : ∃ q, q = (t_WF_strike M (xs ((w32 (v4_ + 1))).toNat).toInt) := ⟨_, rfl⟩
  replace hT := qlet_eq hT hq160
  refine r_backI F hS (r_runV (k := 0) (N := 19) (T := T0) (As := [vI (xs ((w32 (v4_ + 1))).toNat).toInt]) F hS (show 0 < 232 by decide) (show shK 0 = 4 from rfl) rfl (c_WF_strike l (Nat.le_of_ble_eq_true rfl) M (xs ((w32 (v4_ + 1))).toNat).toInt (q_inr_toInt _) _ hq160.symm) gs_WardFallsLaw_152 hd_WF_strike ⟨Nat.le_of_ble_eq_true rfl, Nat.le_of_ble_eq_true rfl⟩ rfl hl.1 (Nat.le_of_ble_eq_true rfl) (law_rc hcs1 hjL hL) rfl d_Law_law_1284) (fun H locs hS h161 => ?_)
  refine lv_pop F.hx F.hb d_Law_law_1287 rfl ?_
  refine lv_aload_n F.hx F.hb d_Law_law_1288 rfl (lv_at hl 2 rfl) ?_
  refine lv_aload_n F.hx F.hb d_Law_law_1289 rfl (lv_at hl 0 rfl) ?_
  refine lv_iload F.hx F.hb d_Law_law_1290 (lv_at hl 4 rfl) ?_
  refine r_iconst F.hx F.hb d_Law_law_1292 ?_
  refine r_iadd F.hx F.hb d_Law_law_1293 ?_
  refine r_sld F hS hXs hsl hb (inr_w32 _) (law_ix hij hjL hL 1 (by decide) (by decide)).1 (law_ix hij hjL hL 1 (by decide) (by decide)).2 d_Law_law_1294 ?_
  obtain ⟨q162, hq162, hT⟩ := q_obind hT
  refine r_backI F hS (r_runV (k := 191) (N := 68) (T := T1) (As := [vI (xs ((w32 (v4_ + 1))).toNat).toInt]) F hS (show 191 < 232 by decide) (show shK 191 = 5 from rfl) rfl (c_MO_strike l (Nat.le_of_ble_eq_true rfl) (q160.1) (xs ((w32 (v4_ + 1))).toNat).toInt (q_inr_toInt _) _ hq162) gs_WardFallsLaw_155 hd_MO_strike ⟨Nat.le_of_ble_eq_true rfl, Nat.le_of_ble_eq_true rfl⟩ rfl hl.1 (Nat.le_of_ble_eq_true rfl) (law_rc hcs1 hjL hL) rfl d_Law_law_1295) (fun H locs hS h163 => ?_)
  refine lv_pop F.hx F.hb d_Law_law_1298 rfl ?_
  refine lv_goto (tgt := 1540) F.hx F.hb d_Law_law_1299 (by decide) ?_
  exact k_Law_law_L1540 l hlf hL F hX hXs hsl hb hlk hr bk23 j hjL hbk23 (q162.1) v4_ hv4_ hij _ _ hcs1 _ _ _ hS (lv_sub hl [0, 1, 2, 3, 4] rfl) hT
set_option maxHeartbeats 16000000 in
set_option maxRecDepth 100000 in
theorem k_Law_law_L1302 (l : Launch) (hlf : l.stackTraces = false) {p : Program} {e : Env} {s : State} {m : MethodId} {below : List Frame} {meth : Method} {c : Code} {b : Nat} {C : CT} {scr L : Nat} {xs : Nat → Int32} (hL : L ≤ 3072) (F : Cx b p m c b_Law_law 7 s ([.ref scr] : List Value).toArray "WardFallsLaw" C 232 232) (hX : EX b s) (hXs : va_X scr L xs s s.heap) (hsl : scr < s.heap.size) (hb : b = s.heap.size) (hlk : meth.locks = false) (hr : meth.sig.returnType = ret) (bk23 : Mem → Int → Option Int) (j : Nat) (hjL : 6 * j + 6 ≤ L) (hbk23 : ∀ (M : Mem) (v4_ : Int) (hv4_ : InR v4_) (hij : v4_ = 6 * ((j + 1 : Nat) : Int)) (cells slots : Nat) (hcs : cells ≤ 232 + (j + 1) ∧ slots ≤ 11930 + 6 * (j + 1)) (H : Heap) (locs : List Loc) (ls : Array Slot), St b C 232 M s H locs → lv_has ls 7 [(0, .ref scr), (1, .ref (b + 0)), (2, .ref (b + 191)), (3, .ref (b + 231)), (4, vI v4_)] → bk23 M v4_ = some 1 → W p l e room_1 s m #[Value.ref scr] below meth c H locs cells slots (lw_Z below #[Value.ref scr] s) (F0 m 23 ls [])) (M : Mem) (v4_ : Int) (hv4_ : InR v4_) (hij : v4_ = 6 * (j : Int)) (cells slots : Nat) (hcs : cells ≤ 232 + j ∧ slots ≤ 11930 + 6 * j) (H : Heap) (locs : List Loc) (ls : Array Slot) (hS : St b C 232 M s H locs) (hl : lv_has ls 7 [(0, .ref scr), (1, .ref (b + 0)), (2, .ref (b + 191)), (3, .ref (b + 231)), (4, vI v4_)]) (hT : t_Law_law_L1302 xs L bk23 M v4_ = some 1) : W p l e room_1 s m #[Value.ref scr] below meth c H locs cells slots (lw_Z below #[Value.ref scr] s) (F0 m 1302 ls []) := by
  have hcs1 : cells ≤ 233 + j ∧ slots ≤ 11936 + 6 * j := ⟨by omega, by omega⟩
  unfold t_Law_law_L1302 at hT
  refine lv_aload_n F.hx F.hb d_Law_law_1302 rfl (lv_at hl 1 rfl) ?_
  refine lv_aload_n F.hx F.hb d_Law_law_1303 rfl (lv_at hl 0 rfl) ?_
  refine lv_iload F.hx F.hb d_Law_law_1304 (lv_at hl 4 rfl) ?_
  refine r_iconst F.hx F.hb d_Law_law_1306 ?_
  refine r_iadd F.hx F.hb d_Law_law_1307 ?_
  refine r_sld F hS hXs hsl hb (inr_w32 _) (law_ix hij hjL hL 1 (by decide) (by decide)).1 (law_ix hij hjL hL 1 (by decide) (by decide)).2 d_Law_law_1308 ?_
  obtain ⟨q164, hq164⟩ : ∃ q, q = (t_WF_known M (xs ((w32 (v4_ + 1))).toNat).toInt) := ⟨_, rfl⟩
  replace hT := qlet_eq hT hq164
  refine r_backZ F hS (r_runV (k := 0) (N := 19) (T := T0) (As := [vI (xs ((w32 (v4_ + 1))).toNat).toInt]) F hS (show 0 < 232 by decide) (show shK 0 = 4 from rfl) rfl (c_WF_known l (Nat.le_of_ble_eq_true rfl) M (xs ((w32 (v4_ + 1))).toNat).toInt (q_inr_toInt _) _ hq164.symm) gs_WardFallsLaw_156 hd_WF_known ⟨Nat.le_of_ble_eq_true rfl, Nat.le_of_ble_eq_true rfl⟩ rfl hl.1 (Nat.le_of_ble_eq_true rfl) (law_rc hcs1 hjL hL) rfl d_Law_law_1309) (fun H locs hS h165 => ?_)
  refine lv_pop F.hx F.hb d_Law_law_1312 rfl ?_
  refine lv_aload_n F.hx F.hb d_Law_law_1313 rfl (lv_at hl 2 rfl) ?_
  refine lv_aload_n F.hx F.hb d_Law_law_1314 rfl (lv_at hl 0 rfl) ?_
  refine lv_iload F.hx F.hb d_Law_law_1315 (lv_at hl 4 rfl) ?_
  refine r_iconst F.hx F.hb d_Law_law_1317 ?_
  refine r_iadd F.hx F.hb d_Law_law_1318 ?_
  refine r_sld F hS hXs hsl hb (inr_w32 _) (law_ix hij hjL hL 1 (by decide) (by decide)).1 (law_ix hij hjL hL 1 (by decide) (by decide)).2 d_Law_law_1319 ?_
  obtain ⟨q166, hq166⟩ : ∃ q, q = (t_MO_known (q164.1) (xs ((w32 (v4_ + 1))).toNat).toInt) := ⟨_, rfl⟩
  replace hT := qlet_eq hT hq166
  refine r_backZ F hS (r_runV (k := 191) (N := 68) (T := T1) (As := [vI (xs ((w32 (v4_ + 1))).toNat).toInt]) F hS (show 191 < 232 by decide) (show shK 191 = 5 from rfl) rfl (c_MO_known l (Nat.le_of_ble_eq_true rfl) (q164.1) (xs ((w32 (v4_ + 1))).toNat).toInt (q_inr_toInt _) _ hq166.symm) gs_WardFallsLaw_160 hd_MO_known ⟨Nat.le_of_ble_eq_true rfl, Nat.le_of_ble_eq_true rfl⟩ rfl hl.1 (Nat.le_of_ble_eq_true rfl) (law_rc hcs1 hjL hL) rfl d_Law_law_1320) (fun H locs hS h167 => ?_)
  refine lv_pop F.hx F.hb d_Law_law_1323 rfl ?_
  refine lv_goto (tgt := 1540) F.hx F.hb d_Law_law_1324 (by decide) ?_
  exact k_Law_law_L1540 l hlf hL F hX hXs hsl hb hlk hr bk23 j hjL hbk23 (q166.1) v4_ hv4_ hij _ _ hcs1 _ _ _ hS (lv_sub hl [0, 1, 2, 3, 4] rfl) hT
set_option maxHeartbeats 16000000 in
set_option maxRecDepth 100000 in
theorem k_Law_law_L1327 (l : Launch) (hlf : l.stackTraces = false) {p : Program} {e : Env} {s : State} {m : MethodId} {below : List Frame} {meth : Method} {c : Code} {b : Nat} {C : CT} {scr L : Nat} {xs : Nat → Int32} (hL : L ≤ 3072) (F : Cx b p m c b_Law_law 7 s ([.ref scr] : List Value).toArray "WardFallsLaw" C 232 232) (hX : EX b s) (hXs : va_X scr L xs s s.heap) (hsl : scr < s.heap.size) (hb : b = s.heap.size) (hlk : meth.locks = false) (hr : meth.sig.returnType = ret) (bk23 : Mem → Int → Option Int) (j : Nat) (hjL : 6 * j + 6 ≤ L) (hbk23 : ∀ (M : Mem) (v4_ : Int) (hv4_ : InR v4_) (hij : v4_ = 6 * ((j + 1 : Nat) : Int)) (cells slots : Nat) (hcs : cells ≤ 232 + (j + 1) ∧ slots ≤ 11930 + 6 * (j + 1)) (H : Heap) (locs : List Loc) (ls : Array Slot), St b C 232 M s H locs → lv_has ls 7 [(0, .ref scr), (1, .ref (b + 0)), (2, .ref (b + 191)), (3, .ref (b + 231)), (4, vI v4_)] → bk23 M v4_ = some 1 → W p l e room_1 s m #[Value.ref scr] below meth c H locs cells slots (lw_Z below #[Value.ref scr] s) (F0 m 23 ls [])) (M : Mem) (v4_ : Int) (hv4_ : InR v4_) (hij : v4_ = 6 * (j : Int)) (cells slots : Nat) (hcs : cells ≤ 232 + j ∧ slots ≤ 11930 + 6 * j) (H : Heap) (locs : List Loc) (ls : Array Slot) (hS : St b C 232 M s H locs) (hl : lv_has ls 7 [(0, .ref scr), (1, .ref (b + 0)), (2, .ref (b + 191)), (3, .ref (b + 231)), (4, vI v4_)]) (hT : t_Law_law_L1327 xs L bk23 M v4_ = some 1) : W p l e room_1 s m #[Value.ref scr] below meth c H locs cells slots (lw_Z below #[Value.ref scr] s) (F0 m 1327 ls []) := by
  have hcs1 : cells ≤ 233 + j ∧ slots ≤ 11936 + 6 * j := ⟨by omega, by omega⟩
  unfold t_Law_law_L1327 at hT
  refine lv_aload_n F.hx F.hb d_Law_law_1327 rfl (lv_at hl 1 rfl) ?_
  obtain ⟨q168, hq168, hT⟩ := q_obind hT
  refine r_backI F hS (r_runV (k := 0) (N := 19) (T := T0) (As := []) F hS (show 0 < 232 by decide) (show shK 0 = 4 from rfl) rfl (c_WF_fits l (Nat.le_of_ble_eq_true rfl) M _ hq168) gs_WardFallsLaw_161 hd_WF_fits ⟨Nat.le_of_ble_eq_true rfl, Nat.le_of_ble_eq_true rfl⟩ rfl hl.1 (Nat.le_of_ble_eq_true rfl) (law_rc hcs1 hjL hL) rfl d_Law_law_1328) (fun H locs hS h169 => ?_)
  refine lv_pop F.hx F.hb d_Law_law_1331 rfl ?_
  refine lv_aload_n F.hx F.hb d_Law_law_1332 rfl (lv_at hl 2 rfl) ?_
  obtain ⟨q170, hq170, hT⟩ := q_obind hT
  refine r_backI F hS (r_runV (k := 191) (N := 68) (T := T1) (As := []) F hS (show 191 < 232 by decide) (show shK 191 = 5 from rfl) rfl (c_MO_fits l (Nat.le_of_ble_eq_true rfl) (q168.1) _ hq170) gs_WardFallsLaw_164 hd_MO_fits ⟨Nat.le_of_ble_eq_true rfl, Nat.le_of_ble_eq_true rfl⟩ rfl hl.1 (Nat.le_of_ble_eq_true rfl) (law_rc hcs1 hjL hL) rfl d_Law_law_1333) (fun H locs hS h171 => ?_)
  refine lv_pop F.hx F.hb d_Law_law_1336 rfl ?_
  refine lv_goto (tgt := 1540) F.hx F.hb d_Law_law_1337 (by decide) ?_
  exact k_Law_law_L1540 l hlf hL F hX hXs hsl hb hlk hr bk23 j hjL hbk23 (q170.1) v4_ hv4_ hij _ _ hcs1 _ _ _ hS (lv_sub hl [0, 1, 2, 3, 4] rfl) hT
set_option maxHeartbeats 16000000 in
set_option maxRecDepth 100000 in
theorem k_Law_law_L1340 (l : Launch) (hlf : l.stackTraces = false) {p : Program} {e : Env} {s : State} {m : MethodId} {below : List Frame} {meth : Method} {c : Code} {b : Nat} {C : CT} {scr L : Nat} {xs : Nat → Int32} (hL : L ≤ 3072) (F : Cx b p m c b_Law_law 7 s ([.ref scr] : List Value).toArray "WardFallsLaw" C 232 232) (hX : EX b s) (hXs : va_X scr L xs s s.heap) (hsl : scr < s.heap.size) (hb : b = s.heap.size) (hlk : meth.locks = false) (hr : meth.sig.returnType = ret) (bk23 : Mem → Int → Option Int) (j : Nat) (hjL : 6 * j + 6 ≤ L) (hbk23 : ∀ (M : Mem) (v4_ : Int) (hv4_ : InR v4_) (hij : v4_ = 6 * ((j + 1 : Nat) : Int)) (cells slots : Nat) (hcs : cells ≤ 232 + (j + 1) ∧ slots ≤ 11930 + 6 * (j + 1)) (H : Heap) (locs : List Loc) (ls : Array Slot), St b C 232 M s H locs → lv_has ls 7 [(0, .ref scr), (1, .ref (b + 0)), (2, .ref (b + 191)), (3, .ref (b + 231)), (4, vI v4_)] → bk23 M v4_ = some 1 → W p l e room_1 s m #[Value.ref scr] below meth c H locs cells slots (lw_Z below #[Value.ref scr] s) (F0 m 23 ls [])) (M : Mem) (v4_ : Int) (hv4_ : InR v4_) (hij : v4_ = 6 * (j : Int)) (cells slots : Nat) (hcs : cells ≤ 232 + j ∧ slots ≤ 11930 + 6 * j) (H : Heap) (locs : List Loc) (ls : Array Slot) (hS : St b C 232 M s H locs) (hl : lv_has ls 7 [(0, .ref scr), (1, .ref (b + 0)), (2, .ref (b + 191)), (3, .ref (b + 231)), (4, vI v4_)]) (hT : t_Law_law_L1340 xs L bk23 M v4_ = some 1) : W p l e room_1 s m #[Value.ref scr] below meth c H locs cells slots (lw_Z below #[Value.ref scr] s) (F0 m 1340 ls []) := by
  have hcs1 : cells ≤ 233 + j ∧ slots ≤ 11936 + 6 * j := ⟨by omega, by omega⟩
  unfold t_Law_law_L1340 at hT
  refine lv_aload_n F.hx F.hb d_Law_law_1340 rfl (lv_at hl 1 rfl) ?_
  refine lv_aload_n F.hx F.hb d_Law_law_1341 rfl (lv_at hl 0 rfl) ?_
  refine lv_iload F.hx F.hb d_Law_law_1342 (lv_at hl 4 rfl) ?_
  refine r_iconst F.hx F.hb d_Law_law_1344 ?_
  refine r_iadd F.hx F.hb d_Law_law_1345 ?_
  refine r_sld F hS hXs hsl hb (inr_w32 _) (law_ix hij hjL hL 1 (by decide) (by decide)).1 (law_ix hij hjL hL 1 (by decide) (by decide)).2 d_Law_law_1346 ?_
  obtain ⟨q172, hq172, hT⟩ := q_obind hT
  refine r_backI F hS (r_runV (k := 0) (N := 19) (T := T0) (As := [vI (xs ((w32 (v4_ + 1))).toNat).toInt]) F hS (show 0 < 232 by decide) (show shK 0 = 4 from rfl) rfl (c_WF_may l (Nat.le_of_ble_eq_true rfl) M (xs ((w32 (v4_ + 1))).toNat).toInt (q_inr_toInt _) _ hq172) gs_WardFallsLaw_165 hd_WF_may ⟨Nat.le_of_ble_eq_true rfl, Nat.le_of_ble_eq_true rfl⟩ rfl hl.1 (Nat.le_of_ble_eq_true rfl) (law_rc hcs1 hjL hL) rfl d_Law_law_1347) (fun H locs hS h173 => ?_)
  refine lv_pop F.hx F.hb d_Law_law_1350 rfl ?_
  refine lv_aload_n F.hx F.hb d_Law_law_1351 rfl (lv_at hl 2 rfl) ?_
  refine lv_aload_n F.hx F.hb d_Law_law_1352 rfl (lv_at hl 0 rfl) ?_
  refine lv_iload F.hx F.hb d_Law_law_1353 (lv_at hl 4 rfl) ?_
  refine r_iconst F.hx F.hb d_Law_law_1355 ?_
  refine r_iadd F.hx F.hb d_Law_law_1356 ?_
  refine r_sld F hS hXs hsl hb (inr_w32 _) (law_ix hij hjL hL 1 (by decide) (by decide)).1 (law_ix hij hjL hL 1 (by decide) (by decide)).2 d_Law_law_1357 ?_
  obtain ⟨q174, hq174, hT⟩ := q_obind hT
  refine r_backI F hS (r_runV (k := 191) (N := 68) (T := T1) (As := [vI (xs ((w32 (v4_ + 1))).toNat).toInt]) F hS (show 191 < 232 by decide) (show shK 191 = 5 from rfl) rfl (c_MO_may l (Nat.le_of_ble_eq_true rfl) (q172.1) (xs ((w32 (v4_ + 1))).toNat).toInt (q_inr_toInt _) _ hq174) gs_WardFallsLaw_168 hd_MO_may ⟨Nat.le_of_ble_eq_true rfl, Nat.le_of_ble_eq_true rfl⟩ rfl hl.1 (Nat.le_of_ble_eq_true rfl) (law_rc hcs1 hjL hL) rfl d_Law_law_1358) (fun H locs hS h175 => ?_)
  refine lv_pop F.hx F.hb d_Law_law_1361 rfl ?_
  refine lv_goto (tgt := 1540) F.hx F.hb d_Law_law_1362 (by decide) ?_
  exact k_Law_law_L1540 l hlf hL F hX hXs hsl hb hlk hr bk23 j hjL hbk23 (q174.1) v4_ hv4_ hij _ _ hcs1 _ _ _ hS (lv_sub hl [0, 1, 2, 3, 4] rfl) hT
set_option maxHeartbeats 16000000 in
set_option maxRecDepth 100000 in
theorem k_Law_law_L1365 (l : Launch) (hlf : l.stackTraces = false) {p : Program} {e : Env} {s : State} {m : MethodId} {below : List Frame} {meth : Method} {c : Code} {b : Nat} {C : CT} {scr L : Nat} {xs : Nat → Int32} (hL : L ≤ 3072) (F : Cx b p m c b_Law_law 7 s ([.ref scr] : List Value).toArray "WardFallsLaw" C 232 232) (hX : EX b s) (hXs : va_X scr L xs s s.heap) (hsl : scr < s.heap.size) (hb : b = s.heap.size) (hlk : meth.locks = false) (hr : meth.sig.returnType = ret) (bk23 : Mem → Int → Option Int) (j : Nat) (hjL : 6 * j + 6 ≤ L) (hbk23 : ∀ (M : Mem) (v4_ : Int) (hv4_ : InR v4_) (hij : v4_ = 6 * ((j + 1 : Nat) : Int)) (cells slots : Nat) (hcs : cells ≤ 232 + (j + 1) ∧ slots ≤ 11930 + 6 * (j + 1)) (H : Heap) (locs : List Loc) (ls : Array Slot), St b C 232 M s H locs → lv_has ls 7 [(0, .ref scr), (1, .ref (b + 0)), (2, .ref (b + 191)), (3, .ref (b + 231)), (4, vI v4_)] → bk23 M v4_ = some 1 → W p l e room_1 s m #[Value.ref scr] below meth c H locs cells slots (lw_Z below #[Value.ref scr] s) (F0 m 23 ls [])) (M : Mem) (v4_ : Int) (hv4_ : InR v4_) (hij : v4_ = 6 * (j : Int)) (cells slots : Nat) (hcs : cells ≤ 232 + j ∧ slots ≤ 11930 + 6 * j) (H : Heap) (locs : List Loc) (ls : Array Slot) (hS : St b C 232 M s H locs) (hl : lv_has ls 7 [(0, .ref scr), (1, .ref (b + 0)), (2, .ref (b + 191)), (3, .ref (b + 231)), (4, vI v4_)]) (hT : t_Law_law_L1365 xs L bk23 M v4_ = some 1) : W p l e room_1 s m #[Value.ref scr] below meth c H locs cells slots (lw_Z below #[Value.ref scr] s) (F0 m 1365 ls []) := by
  have hcs1 : cells ≤ 233 + j ∧ slots ≤ 11936 + 6 * j := ⟨by omega, by omega⟩
  unfold t_Law_law_L1365 at hT
  refine lv_aload_n F.hx F.hb d_Law_law_1365 rfl (lv_at hl 1 rfl) ?_
  refine lv_aload_n F.hx F.hb d_Law_law_1366 rfl (lv_at hl 0 rfl) ?_
  refine lv_iload F.hx F.hb d_Law_law_1367 (lv_at hl 4 rfl) ?_
  refine r_iconst F.hx F.hb d_Law_law_1369 ?_
  refine r_iadd F.hx F.hb d_Law_law_1370 ?_
  refine r_sld F hS hXs hsl hb (inr_w32 _) (law_ix hij hjL hL 1 (by decide) (by decide)).1 (law_ix hij hjL hL 1 (by decide) (by decide)).2 d_Law_law_1371 ?_
  obtain ⟨q176, hq176, hT⟩ := q_obind hT
  refine r_backI F hS (r_runV (k := 0) (N := 19) (T := T0) (As := [vI (xs ((w32 (v4_ + 1))).toNat).toInt]) F hS (show 0 < 232 by decide) (show shK 0 = 4 from rfl) rfl (c_WF_years l (Nat.le_of_ble_eq_true rfl) M (xs ((w32 (v4_ + 1))).toNat).toInt (q_inr_toInt _) _ hq176) gs_WardFallsLaw_169 hd_WF_years ⟨Nat.le_of_ble_eq_true rfl, Nat.le_of_ble_eq_true rfl⟩ rfl hl.1 (Nat.le_of_ble_eq_true rfl) (law_rc hcs1 hjL hL) rfl d_Law_law_1372) (fun H locs hS h177 => ?_)
  refine lv_pop F.hx F.hb d_Law_law_1375 rfl ?_
  refine lv_aload_n F.hx F.hb d_Law_law_1376 rfl (lv_at hl 2 rfl) ?_
  refine lv_aload_n F.hx F.hb d_Law_law_1377 rfl (lv_at hl 0 rfl) ?_
  refine lv_iload F.hx F.hb d_Law_law_1378 (lv_at hl 4 rfl) ?_
  refine r_iconst F.hx F.hb d_Law_law_1380 ?_
  refine r_iadd F.hx F.hb d_Law_law_1381 ?_
  refine r_sld F hS hXs hsl hb (inr_w32 _) (law_ix hij hjL hL 1 (by decide) (by decide)).1 (law_ix hij hjL hL 1 (by decide) (by decide)).2 d_Law_law_1382 ?_
  obtain ⟨q178, hq178, hT⟩ := q_obind hT
  refine r_backI F hS (r_runV (k := 191) (N := 68) (T := T1) (As := [vI (xs ((w32 (v4_ + 1))).toNat).toInt]) F hS (show 191 < 232 by decide) (show shK 191 = 5 from rfl) rfl (c_MO_years l (Nat.le_of_ble_eq_true rfl) (q176.1) (xs ((w32 (v4_ + 1))).toNat).toInt (q_inr_toInt _) _ hq178) gs_WardFallsLaw_172 hd_MO_years ⟨Nat.le_of_ble_eq_true rfl, Nat.le_of_ble_eq_true rfl⟩ rfl hl.1 (Nat.le_of_ble_eq_true rfl) (law_rc hcs1 hjL hL) rfl d_Law_law_1383) (fun H locs hS h179 => ?_)
  refine lv_pop F.hx F.hb d_Law_law_1386 rfl ?_
  refine lv_goto (tgt := 1540) F.hx F.hb d_Law_law_1387 (by decide) ?_
  exact k_Law_law_L1540 l hlf hL F hX hXs hsl hb hlk hr bk23 j hjL hbk23 (q178.1) v4_ hv4_ hij _ _ hcs1 _ _ _ hS (lv_sub hl [0, 1, 2, 3, 4] rfl) hT
set_option maxHeartbeats 16000000 in
set_option maxRecDepth 100000 in
theorem k_Law_law_L1390 (l : Launch) (hlf : l.stackTraces = false) {p : Program} {e : Env} {s : State} {m : MethodId} {below : List Frame} {meth : Method} {c : Code} {b : Nat} {C : CT} {scr L : Nat} {xs : Nat → Int32} (hL : L ≤ 3072) (F : Cx b p m c b_Law_law 7 s ([.ref scr] : List Value).toArray "WardFallsLaw" C 232 232) (hX : EX b s) (hXs : va_X scr L xs s s.heap) (hsl : scr < s.heap.size) (hb : b = s.heap.size) (hlk : meth.locks = false) (hr : meth.sig.returnType = ret) (bk23 : Mem → Int → Option Int) (j : Nat) (hjL : 6 * j + 6 ≤ L) (hbk23 : ∀ (M : Mem) (v4_ : Int) (hv4_ : InR v4_) (hij : v4_ = 6 * ((j + 1 : Nat) : Int)) (cells slots : Nat) (hcs : cells ≤ 232 + (j + 1) ∧ slots ≤ 11930 + 6 * (j + 1)) (H : Heap) (locs : List Loc) (ls : Array Slot), St b C 232 M s H locs → lv_has ls 7 [(0, .ref scr), (1, .ref (b + 0)), (2, .ref (b + 191)), (3, .ref (b + 231)), (4, vI v4_)] → bk23 M v4_ = some 1 → W p l e room_1 s m #[Value.ref scr] below meth c H locs cells slots (lw_Z below #[Value.ref scr] s) (F0 m 23 ls [])) (M : Mem) (v4_ : Int) (hv4_ : InR v4_) (hij : v4_ = 6 * (j : Int)) (cells slots : Nat) (hcs : cells ≤ 232 + j ∧ slots ≤ 11930 + 6 * j) (H : Heap) (locs : List Loc) (ls : Array Slot) (hS : St b C 232 M s H locs) (hl : lv_has ls 7 [(0, .ref scr), (1, .ref (b + 0)), (2, .ref (b + 191)), (3, .ref (b + 231)), (4, vI v4_)]) (hT : t_Law_law_L1390 xs L bk23 M v4_ = some 1) : W p l e room_1 s m #[Value.ref scr] below meth c H locs cells slots (lw_Z below #[Value.ref scr] s) (F0 m 1390 ls []) := by
  have hcs1 : cells ≤ 233 + j ∧ slots ≤ 11936 + 6 * j := ⟨by omega, by omega⟩
  unfold t_Law_law_L1390 at hT
  refine lv_aload_n F.hx F.hb d_Law_law_1390 rfl (lv_at hl 1 rfl) ?_
  refine lv_aload_n F.hx F.hb d_Law_law_1391 rfl (lv_at hl 0 rfl) ?_
  refine lv_iload F.hx F.hb d_Law_law_1392 (lv_at hl 4 rfl) ?_
  refine r_iconst F.hx F.hb d_Law_law_1394 ?_
  refine r_iadd F.hx F.hb d_Law_law_1395 ?_
  refine r_sld F hS hXs hsl hb (inr_w32 _) (law_ix hij hjL hL 1 (by decide) (by decide)).1 (law_ix hij hjL hL 1 (by decide) (by decide)).2 d_Law_law_1396 ?_
  refine lv_aload_n F.hx F.hb d_Law_law_1397 rfl (lv_at hl 0 rfl) ?_
  refine lv_iload F.hx F.hb d_Law_law_1398 (lv_at hl 4 rfl) ?_
  refine r_iconst F.hx F.hb d_Law_law_1400 ?_
  refine r_iadd F.hx F.hb d_Law_law_1401 ?_
  refine r_sld F hS hXs hsl hb (inr_w32 _) (law_ix hij hjL hL 2 (by decide) (by decide)).1 (law_ix hij hjL hL 2 (by decide) (by decide)).2 d_Law_law_1402 ?_
  obtain ⟨q180, hq180⟩ : ∃ q, q = (t_WF_voted M (xs ((w32 (v4_ + 1))).toNat).toInt (xs ((w32 (v4_ + 2))).toNat).toInt) := ⟨_, rfl⟩
  replace hT := qlet_eq hT hq180
  refine r_backI F hS (r_runV (k := 0) (N := 19) (T := T0) (As := [vI (xs ((w32 (v4_ + 1))).toNat).toInt, vI (xs ((w32 (v4_ + 2))).toNat).toInt]) F hS (show 0 < 232 by decide) (show shK 0 = 4 from rfl) rfl (c_WF_voted l (Nat.le_of_ble_eq_true rfl) M (xs ((w32 (v4_ + 1))).toNat).toInt (xs ((w32 (v4_ + 2))).toNat).toInt (q_inr_toInt _) (q_inr_toInt _) _ hq180.symm) gs_WardFallsLaw_173 hd_WF_voted ⟨Nat.le_of_ble_eq_true rfl, Nat.le_of_ble_eq_true rfl⟩ rfl hl.1 (Nat.le_of_ble_eq_true rfl) (law_rc hcs1 hjL hL) rfl d_Law_law_1403) (fun H locs hS h181 => ?_)
  refine lv_pop F.hx F.hb d_Law_law_1406 rfl ?_
  refine lv_aload_n F.hx F.hb d_Law_law_1407 rfl (lv_at hl 2 rfl) ?_
  refine lv_aload_n F.hx F.hb d_Law_law_1408 rfl (lv_at hl 0 rfl) ?_
  refine lv_iload F.hx F.hb d_Law_law_1409 (lv_at hl 4 rfl) ?_
  refine r_iconst F.hx F.hb d_Law_law_1411 ?_
  refine r_iadd F.hx F.hb d_Law_law_1412 ?_
  refine r_sld F hS hXs hsl hb (inr_w32 _) (law_ix hij hjL hL 1 (by decide) (by decide)).1 (law_ix hij hjL hL 1 (by decide) (by decide)).2 d_Law_law_1413 ?_
  refine lv_aload_n F.hx F.hb d_Law_law_1414 rfl (lv_at hl 0 rfl) ?_
  refine lv_iload F.hx F.hb d_Law_law_1415 (lv_at hl 4 rfl) ?_
  refine r_iconst F.hx F.hb d_Law_law_1417 ?_
  refine r_iadd F.hx F.hb d_Law_law_1418 ?_
  refine r_sld F hS hXs hsl hb (inr_w32 _) (law_ix hij hjL hL 2 (by decide) (by decide)).1 (law_ix hij hjL hL 2 (by decide) (by decide)).2 d_Law_law_1419 ?_
  obtain ⟨q182, hq182, hT⟩ := q_obind hT
  refine r_backI F hS (r_runV (k := 191) (N := 68) (T := T1) (As := [vI (xs ((w32 (v4_ + 1))).toNat).toInt, vI (xs ((w32 (v4_ + 2))).toNat).toInt]) F hS (show 191 < 232 by decide) (show shK 191 = 5 from rfl) rfl (c_MO_voted l (Nat.le_of_ble_eq_true rfl) M (xs ((w32 (v4_ + 1))).toNat).toInt (xs ((w32 (v4_ + 2))).toNat).toInt (q_inr_toInt _) (q_inr_toInt _) _ hq182) gs_WardFallsLaw_176 hd_MO_voted ⟨Nat.le_of_ble_eq_true rfl, Nat.le_of_ble_eq_true rfl⟩ rfl hl.1 (Nat.le_of_ble_eq_true rfl) (law_rc hcs1 hjL hL) rfl d_Law_law_1420) (fun H locs hS h183 => ?_)
  refine lv_pop F.hx F.hb d_Law_law_1423 rfl ?_
  refine lv_goto (tgt := 1540) F.hx F.hb d_Law_law_1424 (by decide) ?_
  exact k_Law_law_L1540 l hlf hL F hX hXs hsl hb hlk hr bk23 j hjL hbk23 (q182.1) v4_ hv4_ hij _ _ hcs1 _ _ _ hS (lv_sub hl [0, 1, 2, 3, 4] rfl) hT
set_option maxHeartbeats 16000000 in
set_option maxRecDepth 100000 in
theorem k_Law_law_L1427 (l : Launch) (hlf : l.stackTraces = false) {p : Program} {e : Env} {s : State} {m : MethodId} {below : List Frame} {meth : Method} {c : Code} {b : Nat} {C : CT} {scr L : Nat} {xs : Nat → Int32} (hL : L ≤ 3072) (F : Cx b p m c b_Law_law 7 s ([.ref scr] : List Value).toArray "WardFallsLaw" C 232 232) (hX : EX b s) (hXs : va_X scr L xs s s.heap) (hsl : scr < s.heap.size) (hb : b = s.heap.size) (hlk : meth.locks = false) (hr : meth.sig.returnType = ret) (bk23 : Mem → Int → Option Int) (j : Nat) (hjL : 6 * j + 6 ≤ L) (hbk23 : ∀ (M : Mem) (v4_ : Int) (hv4_ : InR v4_) (hij : v4_ = 6 * ((j + 1 : Nat) : Int)) (cells slots : Nat) (hcs : cells ≤ 232 + (j + 1) ∧ slots ≤ 11930 + 6 * (j + 1)) (H : Heap) (locs : List Loc) (ls : Array Slot), St b C 232 M s H locs → lv_has ls 7 [(0, .ref scr), (1, .ref (b + 0)), (2, .ref (b + 191)), (3, .ref (b + 231)), (4, vI v4_)] → bk23 M v4_ = some 1 → W p l e room_1 s m #[Value.ref scr] below meth c H locs cells slots (lw_Z below #[Value.ref scr] s) (F0 m 23 ls [])) (M : Mem) (v4_ : Int) (hv4_ : InR v4_) (hij : v4_ = 6 * (j : Int)) (cells slots : Nat) (hcs : cells ≤ 232 + j ∧ slots ≤ 11930 + 6 * j) (H : Heap) (locs : List Loc) (ls : Array Slot) (hS : St b C 232 M s H locs) (hl : lv_has ls 7 [(0, .ref scr), (1, .ref (b + 0)), (2, .ref (b + 191)), (3, .ref (b + 231)), (4, vI v4_)]) (hT : t_Law_law_L1427 xs L bk23 M v4_ = some 1) : W p l e room_1 s m #[Value.ref scr] below meth c H locs cells slots (lw_Z below #[Value.ref scr] s) (F0 m 1427 ls []) := by
  have hcs1 : cells ≤ 233 + j ∧ slots ≤ 11936 + 6 * j := ⟨by omega, by omega⟩
  unfold t_Law_law_L1427 at hT
  refine lv_aload_n F.hx F.hb d_Law_law_1427 rfl (lv_at hl 1 rfl) ?_
  refine lv_aload_n F.hx F.hb d_Law_law_1428 rfl (lv_at hl 0 rfl) ?_
  refine lv_iload F.hx F.hb d_Law_law_1429 (lv_at hl 4 rfl) ?_
  refine r_iconst F.hx F.hb d_Law_law_1431 ?_
  refine r_iadd F.hx F.hb d_Law_law_1432 ?_
  refine r_sld F hS hXs hsl hb (inr_w32 _) (law_ix hij hjL hL 1 (by decide) (by decide)).1 (law_ix hij hjL hL 1 (by decide) (by decide)).2 d_Law_law_1433 ?_
  refine lv_aload_n F.hx F.hb d_Law_law_1434 rfl (lv_at hl 0 rfl) ?_
  refine lv_iload F.hx F.hb d_Law_law_1435 (lv_at hl 4 rfl) ?_
  refine r_iconst F.hx F.hb d_Law_law_1437 ?_
  refine r_iadd F.hx F.hb d_Law_law_1438 ?_
  refine r_sld F hS hXs hsl hb (inr_w32 _) (law_ix hij hjL hL 2 (by decide) (by decide)).1 (law_ix hij hjL hL 2 (by decide) (by decide)).2 d_Law_law_1439 ?_
  refine lv_aload_n F.hx F.hb d_Law_law_1440 rfl (lv_at hl 0 rfl) ?_
  refine lv_iload F.hx F.hb d_Law_law_1441 (lv_at hl 4 rfl) ?_
  refine r_iconst F.hx F.hb d_Law_law_1443 ?_
  refine r_iadd F.hx F.hb d_Law_law_1444 ?_
  refine r_sld F hS hXs hsl hb (inr_w32 _) (law_ix hij hjL hL 3 (by decide) (by decide)).1 (law_ix hij hjL hL 3 (by decide) (by decide)).2 d_Law_law_1445 ?_
  obtain ⟨q184, hq184, hT⟩ := q_obind hT
  refine r_backI F hS (r_runV (k := 0) (N := 19) (T := T0) (As := [vI (xs ((w32 (v4_ + 1))).toNat).toInt, vI (xs ((w32 (v4_ + 2))).toNat).toInt, vI (xs ((w32 (v4_ + 3))).toNat).toInt]) F hS (show 0 < 232 by decide) (show shK 0 = 4 from rfl) rfl (c_WF_tried l (Nat.le_of_ble_eq_true rfl) M (xs ((w32 (v4_ + 1))).toNat).toInt (xs ((w32 (v4_ + 2))).toNat).toInt (xs ((w32 (v4_ + 3))).toNat).toInt (q_inr_toInt _) (q_inr_toInt _) (q_inr_toInt _) _ hq184) gs_WardFallsLaw_177 hd_WF_tried ⟨Nat.le_of_ble_eq_true rfl, Nat.le_of_ble_eq_true rfl⟩ rfl hl.1 (Nat.le_of_ble_eq_true rfl) (law_rc hcs1 hjL hL) rfl d_Law_law_1446) (fun H locs hS h185 => ?_)
  refine lv_pop F.hx F.hb d_Law_law_1449 rfl ?_
  refine lv_aload_n F.hx F.hb d_Law_law_1450 rfl (lv_at hl 2 rfl) ?_
  refine lv_aload_n F.hx F.hb d_Law_law_1451 rfl (lv_at hl 0 rfl) ?_
  refine lv_iload F.hx F.hb d_Law_law_1452 (lv_at hl 4 rfl) ?_
  refine r_iconst F.hx F.hb d_Law_law_1454 ?_
  refine r_iadd F.hx F.hb d_Law_law_1455 ?_
  refine r_sld F hS hXs hsl hb (inr_w32 _) (law_ix hij hjL hL 1 (by decide) (by decide)).1 (law_ix hij hjL hL 1 (by decide) (by decide)).2 d_Law_law_1456 ?_
  refine lv_aload_n F.hx F.hb d_Law_law_1457 rfl (lv_at hl 0 rfl) ?_
  refine lv_iload F.hx F.hb d_Law_law_1458 (lv_at hl 4 rfl) ?_
  refine r_iconst F.hx F.hb d_Law_law_1460 ?_
  refine r_iadd F.hx F.hb d_Law_law_1461 ?_
  refine r_sld F hS hXs hsl hb (inr_w32 _) (law_ix hij hjL hL 2 (by decide) (by decide)).1 (law_ix hij hjL hL 2 (by decide) (by decide)).2 d_Law_law_1462 ?_
  refine lv_aload_n F.hx F.hb d_Law_law_1463 rfl (lv_at hl 0 rfl) ?_
  refine lv_iload F.hx F.hb d_Law_law_1464 (lv_at hl 4 rfl) ?_
  refine r_iconst F.hx F.hb d_Law_law_1466 ?_
  refine r_iadd F.hx F.hb d_Law_law_1467 ?_
  refine r_sld F hS hXs hsl hb (inr_w32 _) (law_ix hij hjL hL 3 (by decide) (by decide)).1 (law_ix hij hjL hL 3 (by decide) (by decide)).2 d_Law_law_1468 ?_
  obtain ⟨q186, hq186, hT⟩ := q_obind hT
  refine r_backI F hS (r_runV (k := 191) (N := 68) (T := T1) (As := [vI (xs ((w32 (v4_ + 1))).toNat).toInt, vI (xs ((w32 (v4_ + 2))).toNat).toInt, vI (xs ((w32 (v4_ + 3))).toNat).toInt]) F hS (show 191 < 232 by decide) (show shK 191 = 5 from rfl) rfl (c_MO_tried l (Nat.le_of_ble_eq_true rfl) (q184.1) (xs ((w32 (v4_ + 1))).toNat).toInt (xs ((w32 (v4_ + 2))).toNat).toInt (xs ((w32 (v4_ + 3))).toNat).toInt (q_inr_toInt _) (q_inr_toInt _) (q_inr_toInt _) _ hq186) gs_WardFallsLaw_180 hd_MO_tried ⟨Nat.le_of_ble_eq_true rfl, Nat.le_of_ble_eq_true rfl⟩ rfl hl.1 (Nat.le_of_ble_eq_true rfl) (law_rc hcs1 hjL hL) rfl d_Law_law_1469) (fun H locs hS h187 => ?_)
  refine lv_pop F.hx F.hb d_Law_law_1472 rfl ?_
  refine lv_goto (tgt := 1540) F.hx F.hb d_Law_law_1473 (by decide) ?_
  exact k_Law_law_L1540 l hlf hL F hX hXs hsl hb hlk hr bk23 j hjL hbk23 (q186.1) v4_ hv4_ hij _ _ hcs1 _ _ _ hS (lv_sub hl [0, 1, 2, 3, 4] rfl) hT
set_option maxHeartbeats 16000000 in
set_option maxRecDepth 100000 in
theorem k_Law_law_L1476 (l : Launch) (hlf : l.stackTraces = false) {p : Program} {e : Env} {s : State} {m : MethodId} {below : List Frame} {meth : Method} {c : Code} {b : Nat} {C : CT} {scr L : Nat} {xs : Nat → Int32} (hL : L ≤ 3072) (F : Cx b p m c b_Law_law 7 s ([.ref scr] : List Value).toArray "WardFallsLaw" C 232 232) (hX : EX b s) (hXs : va_X scr L xs s s.heap) (hsl : scr < s.heap.size) (hb : b = s.heap.size) (hlk : meth.locks = false) (hr : meth.sig.returnType = ret) (bk23 : Mem → Int → Option Int) (j : Nat) (hjL : 6 * j + 6 ≤ L) (hbk23 : ∀ (M : Mem) (v4_ : Int) (hv4_ : InR v4_) (hij : v4_ = 6 * ((j + 1 : Nat) : Int)) (cells slots : Nat) (hcs : cells ≤ 232 + (j + 1) ∧ slots ≤ 11930 + 6 * (j + 1)) (H : Heap) (locs : List Loc) (ls : Array Slot), St b C 232 M s H locs → lv_has ls 7 [(0, .ref scr), (1, .ref (b + 0)), (2, .ref (b + 191)), (3, .ref (b + 231)), (4, vI v4_)] → bk23 M v4_ = some 1 → W p l e room_1 s m #[Value.ref scr] below meth c H locs cells slots (lw_Z below #[Value.ref scr] s) (F0 m 23 ls [])) (M : Mem) (v4_ : Int) (hv4_ : InR v4_) (hij : v4_ = 6 * (j : Int)) (cells slots : Nat) (hcs : cells ≤ 232 + j ∧ slots ≤ 11930 + 6 * j) (H : Heap) (locs : List Loc) (ls : Array Slot) (hS : St b C 232 M s H locs) (hl : lv_has ls 7 [(0, .ref scr), (1, .ref (b + 0)), (2, .ref (b + 191)), (3, .ref (b + 231)), (4, vI v4_)]) (hT : t_Law_law_L1476 xs L bk23 M v4_ = some 1) : W p l e room_1 s m #[Value.ref scr] below meth c H locs cells slots (lw_Z below #[Value.ref scr] s) (F0 m 1476 ls []) := by
  have hcs1 : cells ≤ 233 + j ∧ slots ≤ 11936 + 6 * j := ⟨by omega, by omega⟩
  unfold t_Law_law_L1476 at hT
  refine lv_aload_n F.hx F.hb d_Law_law_1476 rfl (lv_at hl 1 rfl) ?_
  obtain ⟨q188, hq188⟩ : ∃ q, q = (t_WF_undo M) := ⟨_, rfl⟩
  replace hT := qlet_eq hT hq188
  refine r_backI F hS (r_runV (k := 0) (N := 19) (T := T0) (As := []) F hS (show 0 < 232 by decide) (show shK 0 = 4 from rfl) rfl (c_WF_undo l (Nat.le_of_ble_eq_true rfl) M _ hq188.symm) gs_WardFallsLaw_181 hd_WF_undo ⟨Nat.le_of_ble_eq_true rfl, Nat.le_of_ble_eq_true rfl⟩ rfl hl.1 (Nat.le_of_ble_eq_true rfl) (law_rc hcs1 hjL hL) rfl d_Law_law_1477) (fun H locs hS h189 => ?_)
  refine lv_pop F.hx F.hb d_Law_law_1480 rfl ?_
  refine lv_aload_n F.hx F.hb d_Law_law_1481 rfl (lv_at hl 2 rfl) ?_
  obtain ⟨q190, hq190, hT⟩ := q_obind hT
  refine r_backI F hS (r_runV (k := 191) (N := 68) (T := T1) (As := []) F hS (show 191 < 232 by decide) (show shK 191 = 5 from rfl) rfl (c_MO_undo l (Nat.le_of_ble_eq_true rfl) (q188.1) _ hq190) gs_WardFallsLaw_184 hd_MO_undo ⟨Nat.le_of_ble_eq_true rfl, Nat.le_of_ble_eq_true rfl⟩ rfl hl.1 (Nat.le_of_ble_eq_true rfl) (law_rc hcs1 hjL hL) rfl d_Law_law_1482) (fun H locs hS h191 => ?_)
  refine lv_pop F.hx F.hb d_Law_law_1485 rfl ?_
  refine lv_goto (tgt := 1540) F.hx F.hb d_Law_law_1486 (by decide) ?_
  exact k_Law_law_L1540 l hlf hL F hX hXs hsl hb hlk hr bk23 j hjL hbk23 (q190.1) v4_ hv4_ hij _ _ hcs1 _ _ _ hS (lv_sub hl [0, 1, 2, 3, 4] rfl) hT
set_option maxHeartbeats 16000000 in
set_option maxRecDepth 100000 in
theorem k_Law_law_L1489 (l : Launch) (hlf : l.stackTraces = false) {p : Program} {e : Env} {s : State} {m : MethodId} {below : List Frame} {meth : Method} {c : Code} {b : Nat} {C : CT} {scr L : Nat} {xs : Nat → Int32} (hL : L ≤ 3072) (F : Cx b p m c b_Law_law 7 s ([.ref scr] : List Value).toArray "WardFallsLaw" C 232 232) (hX : EX b s) (hXs : va_X scr L xs s s.heap) (hsl : scr < s.heap.size) (hb : b = s.heap.size) (hlk : meth.locks = false) (hr : meth.sig.returnType = ret) (bk23 : Mem → Int → Option Int) (j : Nat) (hjL : 6 * j + 6 ≤ L) (hbk23 : ∀ (M : Mem) (v4_ : Int) (hv4_ : InR v4_) (hij : v4_ = 6 * ((j + 1 : Nat) : Int)) (cells slots : Nat) (hcs : cells ≤ 232 + (j + 1) ∧ slots ≤ 11930 + 6 * (j + 1)) (H : Heap) (locs : List Loc) (ls : Array Slot), St b C 232 M s H locs → lv_has ls 7 [(0, .ref scr), (1, .ref (b + 0)), (2, .ref (b + 191)), (3, .ref (b + 231)), (4, vI v4_)] → bk23 M v4_ = some 1 → W p l e room_1 s m #[Value.ref scr] below meth c H locs cells slots (lw_Z below #[Value.ref scr] s) (F0 m 23 ls [])) (M : Mem) (v4_ : Int) (hv4_ : InR v4_) (hij : v4_ = 6 * (j : Int)) (cells slots : Nat) (hcs : cells ≤ 232 + j ∧ slots ≤ 11930 + 6 * j) (H : Heap) (locs : List Loc) (ls : Array Slot) (hS : St b C 232 M s H locs) (hl : lv_has ls 7 [(0, .ref scr), (1, .ref (b + 0)), (2, .ref (b + 191)), (3, .ref (b + 231)), (4, vI v4_)]) (hT : t_Law_law_L1489 xs L bk23 M v4_ = some 1) : W p l e room_1 s m #[Value.ref scr] below meth c H locs cells slots (lw_Z below #[Value.ref scr] s) (F0 m 1489 ls []) := by
  have hcs1 : cells ≤ 233 + j ∧ slots ≤ 11936 + 6 * j := ⟨by omega, by omega⟩
  unfold t_Law_law_L1489 at hT
  refine lv_aload_n F.hx F.hb d_Law_law_1489 rfl (lv_at hl 1 rfl) ?_
  obtain ⟨q192, hq192⟩ : ∃ q, q = (t_WF_keep M) := ⟨_, rfl⟩
  replace hT := qlet_eq hT hq192
  refine r_backI F hS (r_runV (k := 0) (N := 19) (T := T0) (As := []) F hS (show 0 < 232 by decide) (show shK 0 = 4 from rfl) rfl (c_WF_keep l (Nat.le_of_ble_eq_true rfl) M _ hq192.symm) gs_WardFallsLaw_185 hd_WF_keep ⟨Nat.le_of_ble_eq_true rfl, Nat.le_of_ble_eq_true rfl⟩ rfl hl.1 (Nat.le_of_ble_eq_true rfl) (law_rc hcs1 hjL hL) rfl d_Law_law_1490) (fun H locs hS h193 => ?_)
  refine lv_pop F.hx F.hb d_Law_law_1493 rfl ?_
  refine lv_aload_n F.hx F.hb d_Law_law_1494 rfl (lv_at hl 2 rfl) ?_
  obtain ⟨q194, hq194, hT⟩ := q_obind hT
  refine r_backI F hS (r_runV (k := 191) (N := 68) (T := T1) (As := []) F hS (show 191 < 232 by decide) (show shK 191 = 5 from rfl) rfl (c_MO_keep l (Nat.le_of_ble_eq_true rfl) (q192.1) _ hq194) gs_WardFallsLaw_188 hd_MO_keep ⟨Nat.le_of_ble_eq_true rfl, Nat.le_of_ble_eq_true rfl⟩ rfl hl.1 (Nat.le_of_ble_eq_true rfl) (law_rc hcs1 hjL hL) rfl d_Law_law_1495) (fun H locs hS h195 => ?_)
  refine lv_pop F.hx F.hb d_Law_law_1498 rfl ?_
  refine lv_goto (tgt := 1540) F.hx F.hb d_Law_law_1499 (by decide) ?_
  exact k_Law_law_L1540 l hlf hL F hX hXs hsl hb hlk hr bk23 j hjL hbk23 (q194.1) v4_ hv4_ hij _ _ hcs1 _ _ _ hS (lv_sub hl [0, 1, 2, 3, 4] rfl) hT
set_option maxHeartbeats 16000000 in
set_option maxRecDepth 100000 in
theorem k_Law_law_L1502 (l : Launch) (hlf : l.stackTraces = false) {p : Program} {e : Env} {s : State} {m : MethodId} {below : List Frame} {meth : Method} {c : Code} {b : Nat} {C : CT} {scr L : Nat} {xs : Nat → Int32} (hL : L ≤ 3072) (F : Cx b p m c b_Law_law 7 s ([.ref scr] : List Value).toArray "WardFallsLaw" C 232 232) (hX : EX b s) (hXs : va_X scr L xs s s.heap) (hsl : scr < s.heap.size) (hb : b = s.heap.size) (hlk : meth.locks = false) (hr : meth.sig.returnType = ret) (bk23 : Mem → Int → Option Int) (j : Nat) (hjL : 6 * j + 6 ≤ L) (hbk23 : ∀ (M : Mem) (v4_ : Int) (hv4_ : InR v4_) (hij : v4_ = 6 * ((j + 1 : Nat) : Int)) (cells slots : Nat) (hcs : cells ≤ 232 + (j + 1) ∧ slots ≤ 11930 + 6 * (j + 1)) (H : Heap) (locs : List Loc) (ls : Array Slot), St b C 232 M s H locs → lv_has ls 7 [(0, .ref scr), (1, .ref (b + 0)), (2, .ref (b + 191)), (3, .ref (b + 231)), (4, vI v4_)] → bk23 M v4_ = some 1 → W p l e room_1 s m #[Value.ref scr] below meth c H locs cells slots (lw_Z below #[Value.ref scr] s) (F0 m 23 ls [])) (M : Mem) (v4_ : Int) (hv4_ : InR v4_) (hij : v4_ = 6 * (j : Int)) (cells slots : Nat) (hcs : cells ≤ 232 + j ∧ slots ≤ 11930 + 6 * j) (H : Heap) (locs : List Loc) (ls : Array Slot) (hS : St b C 232 M s H locs) (hl : lv_has ls 7 [(0, .ref scr), (1, .ref (b + 0)), (2, .ref (b + 191)), (3, .ref (b + 231)), (4, vI v4_)]) (hT : t_Law_law_L1502 xs L bk23 M v4_ = some 1) : W p l e room_1 s m #[Value.ref scr] below meth c H locs cells slots (lw_Z below #[Value.ref scr] s) (F0 m 1502 ls []) := by
  have hcs1 : cells ≤ 233 + j ∧ slots ≤ 11936 + 6 * j := ⟨by omega, by omega⟩
  unfold t_Law_law_L1502 at hT
  refine lv_aload_n F.hx F.hb d_Law_law_1502 rfl (lv_at hl 1 rfl) ?_
  obtain ⟨q196, hq196⟩ : ∃ q, q = (t_WF_back M) := ⟨_, rfl⟩
  replace hT := qlet_eq hT hq196
  refine r_backI F hS (r_runV (k := 0) (N := 19) (T := T0) (As := []) F hS (show 0 < 232 by decide) (show shK 0 = 4 from rfl) rfl (c_WF_back l (Nat.le_of_ble_eq_true rfl) M _ hq196.symm) gs_WardFallsLaw_189 hd_WF_back ⟨Nat.le_of_ble_eq_true rfl, Nat.le_of_ble_eq_true rfl⟩ rfl hl.1 (Nat.le_of_ble_eq_true rfl) (law_rc hcs1 hjL hL) rfl d_Law_law_1503) (fun H locs hS h197 => ?_)
  refine lv_pop F.hx F.hb d_Law_law_1506 rfl ?_
  refine lv_aload_n F.hx F.hb d_Law_law_1507 rfl (lv_at hl 2 rfl) ?_
  obtain ⟨q198, hq198, hT⟩ := q_obind hT
  refine r_backI F hS (r_runV (k := 191) (N := 68) (T := T1) (As := []) F hS (show 191 < 232 by decide) (show shK 191 = 5 from rfl) rfl (c_MO_back l (Nat.le_of_ble_eq_true rfl) (q196.1) _ hq198) gs_WardFallsLaw_192 hd_MO_back ⟨Nat.le_of_ble_eq_true rfl, Nat.le_of_ble_eq_true rfl⟩ rfl hl.1 (Nat.le_of_ble_eq_true rfl) (law_rc hcs1 hjL hL) rfl d_Law_law_1508) (fun H locs hS h199 => ?_)
  refine lv_pop F.hx F.hb d_Law_law_1511 rfl ?_
  refine lv_goto (tgt := 1540) F.hx F.hb d_Law_law_1512 (by decide) ?_
  exact k_Law_law_L1540 l hlf hL F hX hXs hsl hb hlk hr bk23 j hjL hbk23 (q198.1) v4_ hv4_ hij _ _ hcs1 _ _ _ hS (lv_sub hl [0, 1, 2, 3, 4] rfl) hT
set_option maxHeartbeats 16000000 in
set_option maxRecDepth 100000 in
theorem k_Law_law_L1515 (l : Launch) (hlf : l.stackTraces = false) {p : Program} {e : Env} {s : State} {m : MethodId} {below : List Frame} {meth : Method} {c : Code} {b : Nat} {C : CT} {scr L : Nat} {xs : Nat → Int32} (hL : L ≤ 3072) (F : Cx b p m c b_Law_law 7 s ([.ref scr] : List Value).toArray "WardFallsLaw" C 232 232) (hX : EX b s) (hXs : va_X scr L xs s s.heap) (hsl : scr < s.heap.size) (hb : b = s.heap.size) (hlk : meth.locks = false) (hr : meth.sig.returnType = ret) (bk23 : Mem → Int → Option Int) (j : Nat) (hjL : 6 * j + 6 ≤ L) (hbk23 : ∀ (M : Mem) (v4_ : Int) (hv4_ : InR v4_) (hij : v4_ = 6 * ((j + 1 : Nat) : Int)) (cells slots : Nat) (hcs : cells ≤ 232 + (j + 1) ∧ slots ≤ 11930 + 6 * (j + 1)) (H : Heap) (locs : List Loc) (ls : Array Slot), St b C 232 M s H locs → lv_has ls 7 [(0, .ref scr), (1, .ref (b + 0)), (2, .ref (b + 191)), (3, .ref (b + 231)), (4, vI v4_)] → bk23 M v4_ = some 1 → W p l e room_1 s m #[Value.ref scr] below meth c H locs cells slots (lw_Z below #[Value.ref scr] s) (F0 m 23 ls [])) (M : Mem) (v4_ : Int) (hv4_ : InR v4_) (hij : v4_ = 6 * (j : Int)) (cells slots : Nat) (hcs : cells ≤ 232 + j ∧ slots ≤ 11930 + 6 * j) (H : Heap) (locs : List Loc) (ls : Array Slot) (hS : St b C 232 M s H locs) (hl : lv_has ls 7 [(0, .ref scr), (1, .ref (b + 0)), (2, .ref (b + 191)), (3, .ref (b + 231)), (4, vI v4_)]) (hT : t_Law_law_L1515 xs L bk23 M v4_ = some 1) : W p l e room_1 s m #[Value.ref scr] below meth c H locs cells slots (lw_Z below #[Value.ref scr] s) (F0 m 1515 ls []) := by
  have hcs1 : cells ≤ 233 + j ∧ slots ≤ 11936 + 6 * j := ⟨by omega, by omega⟩
  unfold t_Law_law_L1515 at hT
  refine lv_aload_n F.hx F.hb d_Law_law_1515 rfl (lv_at hl 1 rfl) ?_
  refine lv_aload_n F.hx F.hb d_Law_law_1516 rfl (lv_at hl 0 rfl) ?_
  refine lv_iload F.hx F.hb d_Law_law_1517 (lv_at hl 4 rfl) ?_
  refine r_iconst F.hx F.hb d_Law_law_1519 ?_
  refine r_iadd F.hx F.hb d_Law_law_1520 ?_
  refine r_sld F hS hXs hsl hb (inr_w32 _) (law_ix hij hjL hL 1 (by decide) (by decide)).1 (law_ix hij hjL hL 1 (by decide) (by decide)).2 d_Law_law_1521 ?_
  obtain ⟨q200, hq200, hT⟩ := q_obind hT
  refine r_backI F hS (r_runV (k := 0) (N := 19) (T := T0) (As := [vI (xs ((w32 (v4_ + 1))).toNat).toInt]) F hS (show 0 < 232 by decide) (show shK 0 = 4 from rfl) rfl (c_WF_count l (Nat.le_of_ble_eq_true rfl) M (xs ((w32 (v4_ + 1))).toNat).toInt (q_inr_toInt _) _ hq200) gs_WardFallsLaw_193 hd_WF_count ⟨Nat.le_of_ble_eq_true rfl, Nat.le_of_ble_eq_true rfl⟩ rfl hl.1 (Nat.le_of_ble_eq_true rfl) (law_rc hcs1 hjL hL) rfl d_Law_law_1522) (fun H locs hS h201 => ?_)
  refine lv_aload_n F.hx F.hb d_Law_law_1525 rfl (lv_at hl 2 rfl) ?_
  refine lv_aload_n F.hx F.hb d_Law_law_1526 rfl (lv_at hl 0 rfl) ?_
  refine lv_iload F.hx F.hb d_Law_law_1527 (lv_at hl 4 rfl) ?_
  refine r_iconst F.hx F.hb d_Law_law_1529 ?_
  refine r_iadd F.hx F.hb d_Law_law_1530 ?_
  refine r_sld F hS hXs hsl hb (inr_w32 _) (law_ix hij hjL hL 1 (by decide) (by decide)).1 (law_ix hij hjL hL 1 (by decide) (by decide)).2 d_Law_law_1531 ?_
  obtain ⟨q202, hq202, hT⟩ := q_obind hT
  refine r_backI F hS (r_runV (k := 191) (N := 68) (T := T1) (As := [vI (xs ((w32 (v4_ + 1))).toNat).toInt]) F hS (show 191 < 232 by decide) (show shK 191 = 5 from rfl) rfl (c_MO_count l (Nat.le_of_ble_eq_true rfl) M (xs ((w32 (v4_ + 1))).toNat).toInt (q_inr_toInt _) _ hq202) gs_WardFallsLaw_196 hd_MO_count ⟨Nat.le_of_ble_eq_true rfl, Nat.le_of_ble_eq_true rfl⟩ rfl hl.1 (Nat.le_of_ble_eq_true rfl) (law_rc hcs1 hjL hL) rfl d_Law_law_1532) (fun H locs hS h203 => ?_)
  refine r_icmp_eq (tgt := 1540) F.hx F.hb h201 h203 d_Law_law_1535 (by decide) (fun c204 => ?_) (fun c204 => ?_)
  · replace hT := (if_pos c204).symm.trans hT
    exact k_Law_law_L1540 l hlf hL F hX hXs hsl hb hlk hr bk23 j hjL hbk23 (q202.1) v4_ hv4_ hij _ _ hcs1 _ _ _ hS (lv_sub hl [0, 1, 2, 3, 4] rfl) hT
  · replace hT := (if_neg c204).symm.trans hT
    refine r_iconst F.hx F.hb d_Law_law_1538 ?_
    exact absurd hT (by decide)
set_option maxHeartbeats 16000000 in
set_option maxRecDepth 100000 in
theorem k_Law_law_L23 (l : Launch) (hlf : l.stackTraces = false) {p : Program} {e : Env} {s : State} {m : MethodId} {below : List Frame} {meth : Method} {c : Code} {b : Nat} {C : CT} {scr L : Nat} {xs : Nat → Int32} (hL : L ≤ 3072) (F : Cx b p m c b_Law_law 7 s ([.ref scr] : List Value).toArray "WardFallsLaw" C 232 232) (hX : EX b s) (hXs : va_X scr L xs s s.heap) (hsl : scr < s.heap.size) (hb : b = s.heap.size) (hlk : meth.locks = false) (hr : meth.sig.returnType = ret) : ∀ (fu : Nat) (M : Mem) (v4_ : Int) (hv4_ : InR v4_) (j : Nat) (hij : v4_ = 6 * (j : Int)) (hj : j ≤ 512) (cells slots : Nat) (hcs : cells ≤ 232 + j ∧ slots ≤ 11930 + 6 * j) (H : Heap) (locs : List Loc) (ls : Array Slot), St b C 232 M s H locs → lv_has ls 7 [(0, .ref scr), (1, .ref (b + 0)), (2, .ref (b + 191)), (3, .ref (b + 231)), (4, vI v4_)] → t_Law_law_L23 xs L fu M v4_ = some 1 → W p l e room_1 s m #[Value.ref scr] below meth c H locs cells slots (lw_Z below #[Value.ref scr] s) (F0 m 23 ls []) := by
  intro fu
  induction fu with
  | zero => intro M v4_ hv4_ j hij hj cells slots hcs H locs ls hS hl hT; exact absurd hT (by simp [t_Law_law_L23])
  | succ fu ih =>
    intro M v4_ hv4_ j hij hj cells slots hcs H locs ls hS hl hT
    rw [t_Law_law_L23] at hT
    refine lv_iload F.hx F.hb d_Law_law_23 (lv_at hl 4 rfl) ?_
    refine lv_aload_n F.hx F.hb d_Law_law_25 rfl (lv_at hl 0 rfl) ?_
    refine r_slen F hS hXs hsl hb d_Law_law_26 ?_
    refine r_bipush F.hx F.hb d_Law_law_27 rfl ?_
    refine r_isub F.hx F.hb d_Law_law_29 ?_
    refine r_icmp_gt (tgt := 1546) F.hx F.hb hv4_ (inr_w32 _) d_Law_law_30 (by decide) (fun c1 => ?_) (fun c1 => ?_)
    · replace hT := (if_pos c1).symm.trans hT
      refine r_iconst F.hx F.hb d_Law_law_1546 ?_
      exact law_ret F hr hlk hS hb hcs hj d_Law_law_1547
    · replace hT := (if_neg c1).symm.trans hT
      refine lv_aload_n F.hx F.hb d_Law_law_33 rfl (lv_at hl 0 rfl) ?_
      refine lv_iload F.hx F.hb d_Law_law_34 (lv_at hl 4 rfl) ?_
      have hjL : 6 * j + 6 ≤ L := law_jL hij hL c1
      have hcs1 : cells ≤ 233 + j ∧ slots ≤ 11936 + 6 * j := ⟨by omega, by omega⟩
      refine r_sld F hS hXs hsl hb hv4_ (law_i0 hij hjL).1 (law_i0 hij hjL).2 d_Law_law_36 ?_
      refine r_bipush F.hx F.hb d_Law_law_37 rfl ?_
      refine r_iand F.hx F.hb d_Law_law_39 ?_
      rcases q_ite hT with ⟨c2, hT⟩ | ⟨c2, hT⟩
      · refine r_tableIn (i := 0) (tgt := 220) F.hx F.hb (q_inr_toInt _) c2 d_Law_law_40 (by decide) (by decide) rfl (by decide) ?_
        exact k_Law_law_L220 l hlf hL F hX hXs hsl hb hlk hr (fun a0_ a1_ => t_Law_law_L23 xs L fu a0_ a1_) j hjL (fun M v hv hij2 cells slots hcs2 H locs ls hS hl hT => ih M v hv (j + 1) hij2 (by omega) cells slots hcs2 H locs ls hS hl hT) M v4_ hv4_ hij _ _ hcs _ _ _ hS (lv_sub hl [0, 1, 2, 3, 4] rfl) hT
      ·
        rcases q_ite hT with ⟨c3, hT⟩ | ⟨c3, hT⟩
        · refine r_tableIn (i := 1) (tgt := 293) F.hx F.hb (q_inr_toInt _) c3 d_Law_law_40 (by decide) (by decide) rfl (by decide) ?_
          exact k_Law_law_L293 l hlf hL F hX hXs hsl hb hlk hr (fun a0_ a1_ => t_Law_law_L23 xs L fu a0_ a1_) j hjL (fun M v hv hij2 cells slots hcs2 H locs ls hS hl hT => ih M v hv (j + 1) hij2 (by omega) cells slots hcs2 H locs ls hS hl hT) M v4_ hv4_ hij _ _ hcs _ _ _ hS (lv_sub hl [0, 1, 2, 3, 4] rfl) hT
        ·
          rcases q_ite hT with ⟨c4, hT⟩ | ⟨c4, hT⟩
          · refine r_tableIn (i := 2) (tgt := 318) F.hx F.hb (q_inr_toInt _) c4 d_Law_law_40 (by decide) (by decide) rfl (by decide) ?_
            exact k_Law_law_L318 l hlf hL F hX hXs hsl hb hlk hr (fun a0_ a1_ => t_Law_law_L23 xs L fu a0_ a1_) j hjL (fun M v hv hij2 cells slots hcs2 H locs ls hS hl hT => ih M v hv (j + 1) hij2 (by omega) cells slots hcs2 H locs ls hS hl hT) M v4_ hv4_ hij _ _ hcs _ _ _ hS (lv_sub hl [0, 1, 2, 3, 4] rfl) hT
          ·
            rcases q_ite hT with ⟨c5, hT⟩ | ⟨c5, hT⟩
            · refine r_tableIn (i := 3) (tgt := 343) F.hx F.hb (q_inr_toInt _) c5 d_Law_law_40 (by decide) (by decide) rfl (by decide) ?_
              exact k_Law_law_L343 l hlf hL F hX hXs hsl hb hlk hr (fun a0_ a1_ => t_Law_law_L23 xs L fu a0_ a1_) j hjL (fun M v hv hij2 cells slots hcs2 H locs ls hS hl hT => ih M v hv (j + 1) hij2 (by omega) cells slots hcs2 H locs ls hS hl hT) M v4_ hv4_ hij _ _ hcs _ _ _ hS (lv_sub hl [0, 1, 2, 3, 4] rfl) hT
            ·
              rcases q_ite hT with ⟨c6, hT⟩ | ⟨c6, hT⟩
              · refine r_tableIn (i := 4) (tgt := 380) F.hx F.hb (q_inr_toInt _) c6 d_Law_law_40 (by decide) (by decide) rfl (by decide) ?_
                exact k_Law_law_L380 l hlf hL F hX hXs hsl hb hlk hr (fun a0_ a1_ => t_Law_law_L23 xs L fu a0_ a1_) j hjL (fun M v hv hij2 cells slots hcs2 H locs ls hS hl hT => ih M v hv (j + 1) hij2 (by omega) cells slots hcs2 H locs ls hS hl hT) M v4_ hv4_ hij _ _ hcs _ _ _ hS (lv_sub hl [0, 1, 2, 3, 4] rfl) hT
              ·
                rcases q_ite hT with ⟨c7, hT⟩ | ⟨c7, hT⟩
                · refine r_tableIn (i := 5) (tgt := 420) F.hx F.hb (q_inr_toInt _) c7 d_Law_law_40 (by decide) (by decide) rfl (by decide) ?_
                  exact k_Law_law_L420 l hlf hL F hX hXs hsl hb hlk hr (fun a0_ a1_ => t_Law_law_L23 xs L fu a0_ a1_) j hjL (fun M v hv hij2 cells slots hcs2 H locs ls hS hl hT => ih M v hv (j + 1) hij2 (by omega) cells slots hcs2 H locs ls hS hl hT) M v4_ hv4_ hij _ _ hcs _ _ _ hS (lv_sub hl [0, 1, 2, 3, 4] rfl) hT
                ·
                  rcases q_ite hT with ⟨c8, hT⟩ | ⟨c8, hT⟩
                  · refine r_tableIn (i := 6) (tgt := 457) F.hx F.hb (q_inr_toInt _) c8 d_Law_law_40 (by decide) (by decide) rfl (by decide) ?_
                    exact k_Law_law_L457 l hlf hL F hX hXs hsl hb hlk hr (fun a0_ a1_ => t_Law_law_L23 xs L fu a0_ a1_) j hjL (fun M v hv hij2 cells slots hcs2 H locs ls hS hl hT => ih M v hv (j + 1) hij2 (by omega) cells slots hcs2 H locs ls hS hl hT) M v4_ hv4_ hij _ _ hcs _ _ _ hS (lv_sub hl [0, 1, 2, 3, 4] rfl) hT
                  ·
                    rcases q_ite hT with ⟨c9, hT⟩ | ⟨c9, hT⟩
                    · refine r_tableIn (i := 7) (tgt := 494) F.hx F.hb (q_inr_toInt _) c9 d_Law_law_40 (by decide) (by decide) rfl (by decide) ?_
                      exact k_Law_law_L494 l hlf hL F hX hXs hsl hb hlk hr (fun a0_ a1_ => t_Law_law_L23 xs L fu a0_ a1_) j hjL (fun M v hv hij2 cells slots hcs2 H locs ls hS hl hT => ih M v hv (j + 1) hij2 (by omega) cells slots hcs2 H locs ls hS hl hT) M v4_ hv4_ hij _ _ hcs _ _ _ hS (lv_sub hl [0, 1, 2, 3, 4] rfl) hT
                    ·
                      rcases q_ite hT with ⟨c10, hT⟩ | ⟨c10, hT⟩
                      · refine r_tableIn (i := 8) (tgt := 543) F.hx F.hb (q_inr_toInt _) c10 d_Law_law_40 (by decide) (by decide) rfl (by decide) ?_
                        exact k_Law_law_L543 l hlf hL F hX hXs hsl hb hlk hr (fun a0_ a1_ => t_Law_law_L23 xs L fu a0_ a1_) j hjL (fun M v hv hij2 cells slots hcs2 H locs ls hS hl hT => ih M v hv (j + 1) hij2 (by omega) cells slots hcs2 H locs ls hS hl hT) M v4_ hv4_ hij _ _ hcs _ _ _ hS (lv_sub hl [0, 1, 2, 3, 4] rfl) hT
                      ·
                        rcases q_ite hT with ⟨c11, hT⟩ | ⟨c11, hT⟩
                        · refine r_tableIn (i := 9) (tgt := 568) F.hx F.hb (q_inr_toInt _) c11 d_Law_law_40 (by decide) (by decide) rfl (by decide) ?_
                          exact k_Law_law_L568 l hlf hL F hX hXs hsl hb hlk hr (fun a0_ a1_ => t_Law_law_L23 xs L fu a0_ a1_) j hjL (fun M v hv hij2 cells slots hcs2 H locs ls hS hl hT => ih M v hv (j + 1) hij2 (by omega) cells slots hcs2 H locs ls hS hl hT) M v4_ hv4_ hij _ _ hcs _ _ _ hS (lv_sub hl [0, 1, 2, 3, 4] rfl) hT
                        ·
                          rcases q_ite hT with ⟨c12, hT⟩ | ⟨c12, hT⟩
                          · refine r_tableIn (i := 10) (tgt := 605) F.hx F.hb (q_inr_toInt _) c12 d_Law_law_40 (by decide) (by decide) rfl (by decide) ?_
                            exact k_Law_law_L605 l hlf hL F hX hXs hsl hb hlk hr (fun a0_ a1_ => t_Law_law_L23 xs L fu a0_ a1_) j hjL (fun M v hv hij2 cells slots hcs2 H locs ls hS hl hT => ih M v hv (j + 1) hij2 (by omega) cells slots hcs2 H locs ls hS hl hT) M v4_ hv4_ hij _ _ hcs _ _ _ hS (lv_sub hl [0, 1, 2, 3, 4] rfl) hT
                          ·
                            rcases q_ite hT with ⟨c13, hT⟩ | ⟨c13, hT⟩
                            · refine r_tableIn (i := 11) (tgt := 642) F.hx F.hb (q_inr_toInt _) c13 d_Law_law_40 (by decide) (by decide) rfl (by decide) ?_
                              exact k_Law_law_L642 l hlf hL F hX hXs hsl hb hlk hr (fun a0_ a1_ => t_Law_law_L23 xs L fu a0_ a1_) j hjL (fun M v hv hij2 cells slots hcs2 H locs ls hS hl hT => ih M v hv (j + 1) hij2 (by omega) cells slots hcs2 H locs ls hS hl hT) M v4_ hv4_ hij _ _ hcs _ _ _ hS (lv_sub hl [0, 1, 2, 3, 4] rfl) hT
                            ·
                              rcases q_ite hT with ⟨c14, hT⟩ | ⟨c14, hT⟩
                              · refine r_tableIn (i := 12) (tgt := 667) F.hx F.hb (q_inr_toInt _) c14 d_Law_law_40 (by decide) (by decide) rfl (by decide) ?_
                                exact k_Law_law_L667 l hlf hL F hX hXs hsl hb hlk hr (fun a0_ a1_ => t_Law_law_L23 xs L fu a0_ a1_) j hjL (fun M v hv hij2 cells slots hcs2 H locs ls hS hl hT => ih M v hv (j + 1) hij2 (by omega) cells slots hcs2 H locs ls hS hl hT) M v4_ hv4_ hij _ _ hcs _ _ _ hS (lv_sub hl [0, 1, 2, 3, 4] rfl) hT
                              ·
                                rcases q_ite hT with ⟨c15, hT⟩ | ⟨c15, hT⟩
                                · refine r_tableIn (i := 13) (tgt := 704) F.hx F.hb (q_inr_toInt _) c15 d_Law_law_40 (by decide) (by decide) rfl (by decide) ?_
                                  exact k_Law_law_L704 l hlf hL F hX hXs hsl hb hlk hr (fun a0_ a1_ => t_Law_law_L23 xs L fu a0_ a1_) j hjL (fun M v hv hij2 cells slots hcs2 H locs ls hS hl hT => ih M v hv (j + 1) hij2 (by omega) cells slots hcs2 H locs ls hS hl hT) M v4_ hv4_ hij _ _ hcs _ _ _ hS (lv_sub hl [0, 1, 2, 3, 4] rfl) hT
                                ·
                                  rcases q_ite hT with ⟨c16, hT⟩ | ⟨c16, hT⟩
                                  · refine r_tableIn (i := 14) (tgt := 757) F.hx F.hb (q_inr_toInt _) c16 d_Law_law_40 (by decide) (by decide) rfl (by decide) ?_
                                    exact k_Law_law_L757 l hlf hL F hX hXs hsl hb hlk hr (fun a0_ a1_ => t_Law_law_L23 xs L fu a0_ a1_) j hjL (fun M v hv hij2 cells slots hcs2 H locs ls hS hl hT => ih M v hv (j + 1) hij2 (by omega) cells slots hcs2 H locs ls hS hl hT) M v4_ hv4_ hij _ _ hcs _ _ _ hS (lv_sub hl [0, 1, 2, 3, 4] rfl) hT
                                  ·
                                    rcases q_ite hT with ⟨c17, hT⟩ | ⟨c17, hT⟩
                                    · refine r_tableIn (i := 15) (tgt := 794) F.hx F.hb (q_inr_toInt _) c17 d_Law_law_40 (by decide) (by decide) rfl (by decide) ?_
                                      exact k_Law_law_L794 l hlf hL F hX hXs hsl hb hlk hr (fun a0_ a1_ => t_Law_law_L23 xs L fu a0_ a1_) j hjL (fun M v hv hij2 cells slots hcs2 H locs ls hS hl hT => ih M v hv (j + 1) hij2 (by omega) cells slots hcs2 H locs ls hS hl hT) M v4_ hv4_ hij _ _ hcs _ _ _ hS (lv_sub hl [0, 1, 2, 3, 4] rfl) hT
                                    ·
                                      rcases q_ite hT with ⟨c18, hT⟩ | ⟨c18, hT⟩
                                      · refine r_tableIn (i := 16) (tgt := 831) F.hx F.hb (q_inr_toInt _) c18 d_Law_law_40 (by decide) (by decide) rfl (by decide) ?_
                                        exact k_Law_law_L831 l hlf hL F hX hXs hsl hb hlk hr (fun a0_ a1_ => t_Law_law_L23 xs L fu a0_ a1_) j hjL (fun M v hv hij2 cells slots hcs2 H locs ls hS hl hT => ih M v hv (j + 1) hij2 (by omega) cells slots hcs2 H locs ls hS hl hT) M v4_ hv4_ hij _ _ hcs _ _ _ hS (lv_sub hl [0, 1, 2, 3, 4] rfl) hT
                                      ·
                                        rcases q_ite hT with ⟨c19, hT⟩ | ⟨c19, hT⟩
                                        · refine r_tableIn (i := 17) (tgt := 844) F.hx F.hb (q_inr_toInt _) c19 d_Law_law_40 (by decide) (by decide) rfl (by decide) ?_
                                          exact k_Law_law_L844 l hlf hL F hX hXs hsl hb hlk hr (fun a0_ a1_ => t_Law_law_L23 xs L fu a0_ a1_) j hjL (fun M v hv hij2 cells slots hcs2 H locs ls hS hl hT => ih M v hv (j + 1) hij2 (by omega) cells slots hcs2 H locs ls hS hl hT) M v4_ hv4_ hij _ _ hcs _ _ _ hS (lv_sub hl [0, 1, 2, 3, 4] rfl) hT
                                        ·
                                          rcases q_ite hT with ⟨c20, hT⟩ | ⟨c20, hT⟩
                                          · refine r_tableIn (i := 18) (tgt := 881) F.hx F.hb (q_inr_toInt _) c20 d_Law_law_40 (by decide) (by decide) rfl (by decide) ?_
                                            exact k_Law_law_L881 l hlf hL F hX hXs hsl hb hlk hr (fun a0_ a1_ => t_Law_law_L23 xs L fu a0_ a1_) j hjL (fun M v hv hij2 cells slots hcs2 H locs ls hS hl hT => ih M v hv (j + 1) hij2 (by omega) cells slots hcs2 H locs ls hS hl hT) M v4_ hv4_ hij _ _ hcs _ _ _ hS (lv_sub hl [0, 1, 2, 3, 4] rfl) hT
                                          ·
                                            rcases q_ite hT with ⟨c21, hT⟩ | ⟨c21, hT⟩
                                            · refine r_tableIn (i := 19) (tgt := 918) F.hx F.hb (q_inr_toInt _) c21 d_Law_law_40 (by decide) (by decide) rfl (by decide) ?_
                                              exact k_Law_law_L918 l hlf hL F hX hXs hsl hb hlk hr (fun a0_ a1_ => t_Law_law_L23 xs L fu a0_ a1_) j hjL (fun M v hv hij2 cells slots hcs2 H locs ls hS hl hT => ih M v hv (j + 1) hij2 (by omega) cells slots hcs2 H locs ls hS hl hT) M v4_ hv4_ hij _ _ hcs _ _ _ hS (lv_sub hl [0, 1, 2, 3, 4] rfl) hT
                                            ·
                                              rcases q_ite hT with ⟨c22, hT⟩ | ⟨c22, hT⟩
                                              · refine r_tableIn (i := 20) (tgt := 967) F.hx F.hb (q_inr_toInt _) c22 d_Law_law_40 (by decide) (by decide) rfl (by decide) ?_
                                                exact k_Law_law_L967 l hlf hL F hX hXs hsl hb hlk hr (fun a0_ a1_ => t_Law_law_L23 xs L fu a0_ a1_) j hjL (fun M v hv hij2 cells slots hcs2 H locs ls hS hl hT => ih M v hv (j + 1) hij2 (by omega) cells slots hcs2 H locs ls hS hl hT) M v4_ hv4_ hij _ _ hcs _ _ _ hS (lv_sub hl [0, 1, 2, 3, 4] rfl) hT
                                              ·
                                                rcases q_ite hT with ⟨c23, hT⟩ | ⟨c23, hT⟩
                                                · refine r_tableIn (i := 21) (tgt := 1016) F.hx F.hb (q_inr_toInt _) c23 d_Law_law_40 (by decide) (by decide) rfl (by decide) ?_
                                                  exact k_Law_law_L1016 l hlf hL F hX hXs hsl hb hlk hr (fun a0_ a1_ => t_Law_law_L23 xs L fu a0_ a1_) j hjL (fun M v hv hij2 cells slots hcs2 H locs ls hS hl hT => ih M v hv (j + 1) hij2 (by omega) cells slots hcs2 H locs ls hS hl hT) M v4_ hv4_ hij _ _ hcs _ _ _ hS (lv_sub hl [0, 1, 2, 3, 4] rfl) hT
                                                ·
                                                  rcases q_ite hT with ⟨c24, hT⟩ | ⟨c24, hT⟩
                                                  · refine r_tableIn (i := 22) (tgt := 1065) F.hx F.hb (q_inr_toInt _) c24 d_Law_law_40 (by decide) (by decide) rfl (by decide) ?_
                                                    exact k_Law_law_L1065 l hlf hL F hX hXs hsl hb hlk hr (fun a0_ a1_ => t_Law_law_L23 xs L fu a0_ a1_) j hjL (fun M v hv hij2 cells slots hcs2 H locs ls hS hl hT => ih M v hv (j + 1) hij2 (by omega) cells slots hcs2 H locs ls hS hl hT) M v4_ hv4_ hij _ _ hcs _ _ _ hS (lv_sub hl [0, 1, 2, 3, 4] rfl) hT
                                                  ·
                                                    rcases q_ite hT with ⟨c25, hT⟩ | ⟨c25, hT⟩
                                                    · refine r_tableIn (i := 23) (tgt := 1102) F.hx F.hb (q_inr_toInt _) c25 d_Law_law_40 (by decide) (by decide) rfl (by decide) ?_
                                                      exact k_Law_law_L1102 l hlf hL F hX hXs hsl hb hlk hr (fun a0_ a1_ => t_Law_law_L23 xs L fu a0_ a1_) j hjL (fun M v hv hij2 cells slots hcs2 H locs ls hS hl hT => ih M v hv (j + 1) hij2 (by omega) cells slots hcs2 H locs ls hS hl hT) M v4_ hv4_ hij _ _ hcs _ _ _ hS (lv_sub hl [0, 1, 2, 3, 4] rfl) hT
                                                    ·
                                                      rcases q_ite hT with ⟨c26, hT⟩ | ⟨c26, hT⟩
                                                      · refine r_tableIn (i := 24) (tgt := 1115) F.hx F.hb (q_inr_toInt _) c26 d_Law_law_40 (by decide) (by decide) rfl (by decide) ?_
                                                        exact k_Law_law_L1115 l hlf hL F hX hXs hsl hb hlk hr (fun a0_ a1_ => t_Law_law_L23 xs L fu a0_ a1_) j hjL (fun M v hv hij2 cells slots hcs2 H locs ls hS hl hT => ih M v hv (j + 1) hij2 (by omega) cells slots hcs2 H locs ls hS hl hT) M v4_ hv4_ hij _ _ hcs _ _ _ hS (lv_sub hl [0, 1, 2, 3, 4] rfl) hT
                                                      ·
                                                        rcases q_ite hT with ⟨c27, hT⟩ | ⟨c27, hT⟩
                                                        · refine r_tableIn (i := 25) (tgt := 1140) F.hx F.hb (q_inr_toInt _) c27 d_Law_law_40 (by decide) (by decide) rfl (by decide) ?_
                                                          exact k_Law_law_L1140 l hlf hL F hX hXs hsl hb hlk hr (fun a0_ a1_ => t_Law_law_L23 xs L fu a0_ a1_) j hjL (fun M v hv hij2 cells slots hcs2 H locs ls hS hl hT => ih M v hv (j + 1) hij2 (by omega) cells slots hcs2 H locs ls hS hl hT) M v4_ hv4_ hij _ _ hcs _ _ _ hS (lv_sub hl [0, 1, 2, 3, 4] rfl) hT
                                                        ·
                                                          rcases q_ite hT with ⟨c28, hT⟩ | ⟨c28, hT⟩
                                                          · refine r_tableIn (i := 26) (tgt := 1153) F.hx F.hb (q_inr_toInt _) c28 d_Law_law_40 (by decide) (by decide) rfl (by decide) ?_
                                                            exact k_Law_law_L1153 l hlf hL F hX hXs hsl hb hlk hr (fun a0_ a1_ => t_Law_law_L23 xs L fu a0_ a1_) j hjL (fun M v hv hij2 cells slots hcs2 H locs ls hS hl hT => ih M v hv (j + 1) hij2 (by omega) cells slots hcs2 H locs ls hS hl hT) M v4_ hv4_ hij _ _ hcs _ _ _ hS (lv_sub hl [0, 1, 2, 3, 4] rfl) hT
                                                          ·
                                                            rcases q_ite hT with ⟨c29, hT⟩ | ⟨c29, hT⟩
                                                            · refine r_tableIn (i := 27) (tgt := 1178) F.hx F.hb (q_inr_toInt _) c29 d_Law_law_40 (by decide) (by decide) rfl (by decide) ?_
                                                              exact k_Law_law_L1178 l hlf hL F hX hXs hsl hb hlk hr (fun a0_ a1_ => t_Law_law_L23 xs L fu a0_ a1_) j hjL (fun M v hv hij2 cells slots hcs2 H locs ls hS hl hT => ih M v hv (j + 1) hij2 (by omega) cells slots hcs2 H locs ls hS hl hT) M v4_ hv4_ hij _ _ hcs _ _ _ hS (lv_sub hl [0, 1, 2, 3, 4] rfl) hT
                                                            ·
                                                              rcases q_ite hT with ⟨c30, hT⟩ | ⟨c30, hT⟩
                                                              · refine r_tableIn (i := 28) (tgt := 1203) F.hx F.hb (q_inr_toInt _) c30 d_Law_law_40 (by decide) (by decide) rfl (by decide) ?_
                                                                exact k_Law_law_L1203 l hlf hL F hX hXs hsl hb hlk hr (fun a0_ a1_ => t_Law_law_L23 xs L fu a0_ a1_) j hjL (fun M v hv hij2 cells slots hcs2 H locs ls hS hl hT => ih M v hv (j + 1) hij2 (by omega) cells slots hcs2 H locs ls hS hl hT) M v4_ hv4_ hij _ _ hcs _ _ _ hS (lv_sub hl [0, 1, 2, 3, 4] rfl) hT
                                                              ·
                                                                rcases q_ite hT with ⟨c31, hT⟩ | ⟨c31, hT⟩
                                                                · refine r_tableIn (i := 29) (tgt := 1240) F.hx F.hb (q_inr_toInt _) c31 d_Law_law_40 (by decide) (by decide) rfl (by decide) ?_
                                                                  exact k_Law_law_L1240 l hlf hL F hX hXs hsl hb hlk hr (fun a0_ a1_ => t_Law_law_L23 xs L fu a0_ a1_) j hjL (fun M v hv hij2 cells slots hcs2 H locs ls hS hl hT => ih M v hv (j + 1) hij2 (by omega) cells slots hcs2 H locs ls hS hl hT) M v4_ hv4_ hij _ _ hcs _ _ _ hS (lv_sub hl [0, 1, 2, 3, 4] rfl) hT
                                                                ·
                                                                  rcases q_ite hT with ⟨c32, hT⟩ | ⟨c32, hT⟩
                                                                  · refine r_tableIn (i := 30) (tgt := 1277) F.hx F.hb (q_inr_toInt _) c32 d_Law_law_40 (by decide) (by decide) rfl (by decide) ?_
                                                                    exact k_Law_law_L1277 l hlf hL F hX hXs hsl hb hlk hr (fun a0_ a1_ => t_Law_law_L23 xs L fu a0_ a1_) j hjL (fun M v hv hij2 cells slots hcs2 H locs ls hS hl hT => ih M v hv (j + 1) hij2 (by omega) cells slots hcs2 H locs ls hS hl hT) M v4_ hv4_ hij _ _ hcs _ _ _ hS (lv_sub hl [0, 1, 2, 3, 4] rfl) hT
                                                                  ·
                                                                    rcases q_ite hT with ⟨c33, hT⟩ | ⟨c33, hT⟩
                                                                    · refine r_tableIn (i := 31) (tgt := 1302) F.hx F.hb (q_inr_toInt _) c33 d_Law_law_40 (by decide) (by decide) rfl (by decide) ?_
                                                                      exact k_Law_law_L1302 l hlf hL F hX hXs hsl hb hlk hr (fun a0_ a1_ => t_Law_law_L23 xs L fu a0_ a1_) j hjL (fun M v hv hij2 cells slots hcs2 H locs ls hS hl hT => ih M v hv (j + 1) hij2 (by omega) cells slots hcs2 H locs ls hS hl hT) M v4_ hv4_ hij _ _ hcs _ _ _ hS (lv_sub hl [0, 1, 2, 3, 4] rfl) hT
                                                                    ·
                                                                      rcases q_ite hT with ⟨c34, hT⟩ | ⟨c34, hT⟩
                                                                      · refine r_tableIn (i := 32) (tgt := 1327) F.hx F.hb (q_inr_toInt _) c34 d_Law_law_40 (by decide) (by decide) rfl (by decide) ?_
                                                                        exact k_Law_law_L1327 l hlf hL F hX hXs hsl hb hlk hr (fun a0_ a1_ => t_Law_law_L23 xs L fu a0_ a1_) j hjL (fun M v hv hij2 cells slots hcs2 H locs ls hS hl hT => ih M v hv (j + 1) hij2 (by omega) cells slots hcs2 H locs ls hS hl hT) M v4_ hv4_ hij _ _ hcs _ _ _ hS (lv_sub hl [0, 1, 2, 3, 4] rfl) hT
                                                                      ·
                                                                        rcases q_ite hT with ⟨c35, hT⟩ | ⟨c35, hT⟩
                                                                        · refine r_tableIn (i := 33) (tgt := 1340) F.hx F.hb (q_inr_toInt _) c35 d_Law_law_40 (by decide) (by decide) rfl (by decide) ?_
                                                                          exact k_Law_law_L1340 l hlf hL F hX hXs hsl hb hlk hr (fun a0_ a1_ => t_Law_law_L23 xs L fu a0_ a1_) j hjL (fun M v hv hij2 cells slots hcs2 H locs ls hS hl hT => ih M v hv (j + 1) hij2 (by omega) cells slots hcs2 H locs ls hS hl hT) M v4_ hv4_ hij _ _ hcs _ _ _ hS (lv_sub hl [0, 1, 2, 3, 4] rfl) hT
                                                                        ·
                                                                          rcases q_ite hT with ⟨c36, hT⟩ | ⟨c36, hT⟩
                                                                          · refine r_tableIn (i := 34) (tgt := 1365) F.hx F.hb (q_inr_toInt _) c36 d_Law_law_40 (by decide) (by decide) rfl (by decide) ?_
                                                                            exact k_Law_law_L1365 l hlf hL F hX hXs hsl hb hlk hr (fun a0_ a1_ => t_Law_law_L23 xs L fu a0_ a1_) j hjL (fun M v hv hij2 cells slots hcs2 H locs ls hS hl hT => ih M v hv (j + 1) hij2 (by omega) cells slots hcs2 H locs ls hS hl hT) M v4_ hv4_ hij _ _ hcs _ _ _ hS (lv_sub hl [0, 1, 2, 3, 4] rfl) hT
                                                                          ·
                                                                            rcases q_ite hT with ⟨c37, hT⟩ | ⟨c37, hT⟩
                                                                            · refine r_tableIn (i := 35) (tgt := 1390) F.hx F.hb (q_inr_toInt _) c37 d_Law_law_40 (by decide) (by decide) rfl (by decide) ?_
                                                                              exact k_Law_law_L1390 l hlf hL F hX hXs hsl hb hlk hr (fun a0_ a1_ => t_Law_law_L23 xs L fu a0_ a1_) j hjL (fun M v hv hij2 cells slots hcs2 H locs ls hS hl hT => ih M v hv (j + 1) hij2 (by omega) cells slots hcs2 H locs ls hS hl hT) M v4_ hv4_ hij _ _ hcs _ _ _ hS (lv_sub hl [0, 1, 2, 3, 4] rfl) hT
                                                                            ·
                                                                              rcases q_ite hT with ⟨c38, hT⟩ | ⟨c38, hT⟩
                                                                              · refine r_tableIn (i := 36) (tgt := 1427) F.hx F.hb (q_inr_toInt _) c38 d_Law_law_40 (by decide) (by decide) rfl (by decide) ?_
                                                                                exact k_Law_law_L1427 l hlf hL F hX hXs hsl hb hlk hr (fun a0_ a1_ => t_Law_law_L23 xs L fu a0_ a1_) j hjL (fun M v hv hij2 cells slots hcs2 H locs ls hS hl hT => ih M v hv (j + 1) hij2 (by omega) cells slots hcs2 H locs ls hS hl hT) M v4_ hv4_ hij _ _ hcs _ _ _ hS (lv_sub hl [0, 1, 2, 3, 4] rfl) hT
                                                                              ·
                                                                                rcases q_ite hT with ⟨c39, hT⟩ | ⟨c39, hT⟩
                                                                                · refine r_tableIn (i := 37) (tgt := 1476) F.hx F.hb (q_inr_toInt _) c39 d_Law_law_40 (by decide) (by decide) rfl (by decide) ?_
                                                                                  exact k_Law_law_L1476 l hlf hL F hX hXs hsl hb hlk hr (fun a0_ a1_ => t_Law_law_L23 xs L fu a0_ a1_) j hjL (fun M v hv hij2 cells slots hcs2 H locs ls hS hl hT => ih M v hv (j + 1) hij2 (by omega) cells slots hcs2 H locs ls hS hl hT) M v4_ hv4_ hij _ _ hcs _ _ _ hS (lv_sub hl [0, 1, 2, 3, 4] rfl) hT
                                                                                ·
                                                                                  rcases q_ite hT with ⟨c40, hT⟩ | ⟨c40, hT⟩
                                                                                  · refine r_tableIn (i := 38) (tgt := 1489) F.hx F.hb (q_inr_toInt _) c40 d_Law_law_40 (by decide) (by decide) rfl (by decide) ?_
                                                                                    exact k_Law_law_L1489 l hlf hL F hX hXs hsl hb hlk hr (fun a0_ a1_ => t_Law_law_L23 xs L fu a0_ a1_) j hjL (fun M v hv hij2 cells slots hcs2 H locs ls hS hl hT => ih M v hv (j + 1) hij2 (by omega) cells slots hcs2 H locs ls hS hl hT) M v4_ hv4_ hij _ _ hcs _ _ _ hS (lv_sub hl [0, 1, 2, 3, 4] rfl) hT
                                                                                  ·
                                                                                    rcases q_ite hT with ⟨c41, hT⟩ | ⟨c41, hT⟩
                                                                                    · refine r_tableIn (i := 39) (tgt := 1502) F.hx F.hb (q_inr_toInt _) c41 d_Law_law_40 (by decide) (by decide) rfl (by decide) ?_
                                                                                      exact k_Law_law_L1502 l hlf hL F hX hXs hsl hb hlk hr (fun a0_ a1_ => t_Law_law_L23 xs L fu a0_ a1_) j hjL (fun M v hv hij2 cells slots hcs2 H locs ls hS hl hT => ih M v hv (j + 1) hij2 (by omega) cells slots hcs2 H locs ls hS hl hT) M v4_ hv4_ hij _ _ hcs _ _ _ hS (lv_sub hl [0, 1, 2, 3, 4] rfl) hT
                                                                                    ·
                                                                                      rcases q_ite hT with ⟨c42, hT⟩ | ⟨c42, hT⟩
                                                                                      · refine r_tableIn (i := 40) (tgt := 1515) F.hx F.hb (q_inr_toInt _) c42 d_Law_law_40 (by decide) (by decide) rfl (by decide) ?_
                                                                                        exact k_Law_law_L1515 l hlf hL F hX hXs hsl hb hlk hr (fun a0_ a1_ => t_Law_law_L23 xs L fu a0_ a1_) j hjL (fun M v hv hij2 cells slots hcs2 H locs ls hS hl hT => ih M v hv (j + 1) hij2 (by omega) cells slots hcs2 H locs ls hS hl hT) M v4_ hv4_ hij _ _ hcs _ _ _ hS (lv_sub hl [0, 1, 2, 3, 4] rfl) hT
                                                                                      ·
                                                                                        refine r_tableOut (tgt := 1540) F.hx F.hb (q_inr_toInt _) (by omega) d_Law_law_40 (by decide) ?_
                                                                                        exact k_Law_law_L1540 l hlf hL F hX hXs hsl hb hlk hr (fun a0_ a1_ => t_Law_law_L23 xs L fu a0_ a1_) j hjL (fun M v hv hij2 cells slots hcs2 H locs ls hS hl hT => ih M v hv (j + 1) hij2 (by omega) cells slots hcs2 H locs ls hS hl hT) M v4_ hv4_ hij _ _ hcs1 _ _ _ hS (lv_sub hl [0, 1, 2, 3, 4] rfl) hT
