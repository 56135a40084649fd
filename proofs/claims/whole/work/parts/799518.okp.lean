set_option maxRecDepth 100000 in
theorem rm_d_J9_floorMod_7cf53 : ∀ q ∈ rm_c_J9_floorMod_7cf53, decode cJ9_floorMod_7cf53 q.1 = .ok (q.2.1, q.2.2) := by decide +kernel
set_option maxRecDepth 100000 in
theorem rm_o_J9_floorMod_7cf53 : rm_okP rm_mt rm_P 245 240 := ⟨rm_d_J9_floorMod_7cf53, (fun _ h => by cases h), rfl, rfl, (fun h => by cases h), by decide +kernel⟩
set_option maxRecDepth 100000 in
theorem rm_d_J9_floorMod_f86c9 : ∀ q ∈ rm_c_J9_floorMod_f86c9, decode cJ9_floorMod_f86c9 q.1 = .ok (q.2.1, q.2.2) := by decide +kernel
set_option maxRecDepth 100000 in
theorem rm_o_J9_floorMod_f86c9 : rm_okP rm_mt rm_P 245 241 := ⟨rm_d_J9_floorMod_f86c9, (fun _ h => by cases h), rfl, rfl, (fun h => by cases h), by decide +kernel⟩
set_option maxRecDepth 100000 in
theorem rm_d_J9_max_7cf53 : ∀ q ∈ rm_c_J9_max_7cf53, decode cJ9_max_7cf53 q.1 = .ok (q.2.1, q.2.2) := by decide +kernel
set_option maxRecDepth 100000 in
theorem rm_o_J9_max_7cf53 : rm_okP rm_mt rm_P 245 242 := ⟨rm_d_J9_max_7cf53, (fun _ h => by cases h), rfl, rfl, (fun h => by cases h), by decide +kernel⟩
set_option maxRecDepth 100000 in
theorem rm_d_J9_max_f86c9 : ∀ q ∈ rm_c_J9_max_f86c9, decode cJ9_max_f86c9 q.1 = .ok (q.2.1, q.2.2) := by decide +kernel
set_option maxRecDepth 100000 in
theorem rm_o_J9_max_f86c9 : rm_okP rm_mt rm_P 245 243 := ⟨rm_d_J9_max_f86c9, (fun _ h => by cases h), rfl, rfl, (fun h => by cases h), by decide +kernel⟩
set_option maxRecDepth 100000 in
theorem rm_d_J9_min_7cf53 : ∀ q ∈ rm_c_J9_min_7cf53, decode cJ9_min_7cf53 q.1 = .ok (q.2.1, q.2.2) := by decide +kernel
set_option maxRecDepth 100000 in
theorem rm_o_J9_min_7cf53 : rm_okP rm_mt rm_P 245 244 := ⟨rm_d_J9_min_7cf53, (fun _ h => by cases h), rfl, rfl, (fun h => by cases h), by decide +kernel⟩
