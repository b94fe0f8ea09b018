set_option maxRecDepth 20000 in
theorem tw_1 : sk_tw 66 70 "java/lang/IllegalArgumentException" := ⟨q_562, q_87, by decide +kernel, by decide +kernel, by decide +kernel⟩
set_option maxRecDepth 20000 in
theorem tw_2 : sk_tw 44 48 "java/lang/IllegalStateException" := ⟨q_629, q_88, by decide +kernel, by decide +kernel, by decide +kernel⟩
set_option maxRecDepth 20000 in
theorem tw_3 : sk_tw 184 188 "java/lang/IndexOutOfBoundsException" := ⟨q_657, q_90, by decide +kernel, by decide +kernel, by decide +kernel⟩
theorem xs_283 : (283, "phase is not 0 to P - 1") ∈ xe_str := List.mem_of_getElem? (i := 0) rfl
theorem xs_46 : (46, "there are 10 clocks") ∈ xe_str := List.mem_of_getElem? (i := 1) rfl
theorem xs_278 : (278, "there is no such clock") ∈ xe_str := List.mem_of_getElem? (i := 2) rfl
theorem xs_68 : (68, "drift is not -9 to 9") ∈ xe_str := List.mem_of_getElem? (i := 3) rfl
theorem xs_78 : (78, "rhythm is not 1 to 99, or offset not 0 to 98") ∈ xe_str := List.mem_of_getElem? (i := 4) rfl
theorem xs_92 : (92, "the clock is good") ∈ xe_str := List.mem_of_getElem? (i := 5) rfl
theorem xs_100 : (100, "both clocks are the same, or delay is not 0 to 9") ∈ xe_str := List.mem_of_getElem? (i := 6) rfl
theorem xs_109 : (109, "there is no link between the clocks") ∈ xe_str := List.mem_of_getElem? (i := 7) rfl
theorem xs_114 : (114, "period is not 10 to 100") ∈ xe_str := List.mem_of_getElem? (i := 8) rfl
theorem xs_123 : (123, "what or value is out of range") ∈ xe_str := List.mem_of_getElem? (i := 9) rfl
theorem xs_132 : (132, "what is not 0 to 6") ∈ xe_str := List.mem_of_getElem? (i := 10) rfl
theorem xs_149 : (149, "n is not 1 to 99") ∈ xe_str := List.mem_of_getElem? (i := 11) rfl
theorem xs_186 : (186, "there is no such group") ∈ xe_str := List.mem_of_getElem? (i := 12) rfl
theorem xs_198 : (198, "groups is not 0 to 10") ∈ xe_str := List.mem_of_getElem? (i := 13) rfl
theorem xs_285 : (285, "the number of ticks is not 1 to 400") ∈ xe_str := List.mem_of_getElem? (i := 14) rfl
theorem xs_225 : (225, "value is not 0 to 127") ∈ xe_str := List.mem_of_getElem? (i := 15) rfl
theorem xs_228 : (228, "the text has 100 bytes") ∈ xe_str := List.mem_of_getElem? (i := 16) rfl
theorem xs_251 : (251, "no state is saved") ∈ xe_str := List.mem_of_getElem? (i := 17) rfl
