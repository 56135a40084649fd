/-! THE CASES COVER ALL FIRST CALLS -/
theorem rm_iv1 {xs : Nat → Int32} {k : Nat} {lo hi : Int} (h : lo ≤ (rm_vals xs k).toInt ∧ (rm_vals xs k).toInt ≤ hi) {iv : List (Nat × Int × Int)} (r : ∀ q ∈ iv, q.2.1 ≤ (rm_vals xs q.1).toInt ∧ (rm_vals xs q.1).toInt ≤ q.2.2) : ∀ q ∈ (k, lo, hi) :: iv, q.2.1 ≤ (rm_vals xs q.1).toInt ∧ (rm_vals xs q.1).toInt ≤ q.2.2 := fun q hq => by
  rcases List.mem_cons.mp hq with rfl | hq
  · exact h
  · exact r q hq
theorem rm_iv0 {xs : Nat → Int32} : ∀ q ∈ ([] : List (Nat × Int × Int)), q.2.1 ≤ (rm_vals xs q.1).toInt ∧ (rm_vals xs q.1).toInt ≤ q.2.2 := fun q hq => by cases hq
theorem rm_rng (x : Int32) : -2147483648 ≤ x.toInt ∧ x.toInt ≤ 2147483647 := by
  have h1 := Int32.le_toInt x
  have h2 := Int32.toInt_le x
  have e2 : Int32.maxValue.toInt = 2147483647 := by decide
  rw [e2] at h2
  exact ⟨by simpa using h1, h2⟩
theorem rm_and15 (x : Int32) : 0 ≤ (rm_fop 0 x 15).toInt ∧ (rm_fop 0 x 15).toInt ≤ 15 := by
  obtain ⟨j, h1, h2⟩ := pk_andE x (m := 15) 4 (by decide)
  have e : rm_fop 0 x 15 = nI j := h2
  rw [e, nI_toInt (by omega)]
  omega
theorem rm_and255 (x : Int32) : 0 ≤ (rm_fop 0 x 255).toInt ∧ (rm_fop 0 x 255).toInt ≤ 255 := by
  obtain ⟨j, h1, h2⟩ := pk_andE x (m := 255) 8 (by decide)
  have e : rm_fop 0 x 255 = nI j := h2
  rw [e, nI_toInt (by omega)]
  omega
theorem whole_start {p : Program} {e : Env} {s : State} {m : MethodId} {below : List Frame} {meth : Method} {c : Code} (l : Launch) {b L : Nat} {xs : Nat → Int32} (hL : L ≤ 4) (C0 : lw_At p s m meth c b L xs) : W p l e room_1 s m #[Value.ref b] below meth c s.heap [] 0 0 (lw_Z below #[Value.ref b] s) (entryFrame m ([Value.ref b] : List Value).toArray 4) := by
  refine rm_entry C0 ?_
  rcases (show L = 0 ∨ L = 1 ∨ L = 2 ∨ L = 3 ∨ L = 4 by omega) with rfl | rfl | rfl | rfl | rfl
  · exact rm_small C0 rm_r_L0
  · exact rm_small C0 rm_r_L1
  · exact rm_small C0 rm_r_L2
  · exact rm_small C0 rm_r_L3
  have a4 : 0 ≤ (rm_vals xs 4).toInt ∧ (rm_vals xs 4).toInt ≤ 15 := rm_and15 (xs 0)
  have a1 : -2147483648 ≤ (rm_vals xs 1).toInt ∧ (rm_vals xs 1).toInt ≤ 2147483647 := rm_rng _
  have a2 : -2147483648 ≤ (rm_vals xs 2).toInt ∧ (rm_vals xs 2).toInt ≤ 2147483647 := rm_rng _
  have a30 : 0 ≤ (rm_vals xs 30).toInt ∧ (rm_vals xs 30).toInt ≤ 255 := rm_and255 _
  have a31 : 0 ≤ (rm_vals xs 31).toInt ∧ (rm_vals xs 31).toInt ≤ 255 := rm_and255 _
  have a32 : 0 ≤ (rm_vals xs 32).toInt ∧ (rm_vals xs 32).toInt ≤ 255 := rm_and255 _
  have a33 : 0 ≤ (rm_vals xs 33).toInt ∧ (rm_vals xs 33).toInt ≤ 255 := rm_and255 _
  have a : (rm_vals xs 4).toInt = 0 ∨ (rm_vals xs 4).toInt = 1 ∨ (rm_vals xs 4).toInt = 3 ∨ (rm_vals xs 4).toInt = 13 ∨ (rm_vals xs 4).toInt = 2 ∨ (rm_vals xs 4).toInt = 4 ∨ (rm_vals xs 4).toInt = 5 ∨ (rm_vals xs 4).toInt = 6 ∨ (rm_vals xs 4).toInt = 7 ∨ (rm_vals xs 4).toInt = 8 ∨ (rm_vals xs 4).toInt = 9 ∨ (rm_vals xs 4).toInt = 10 ∨ (rm_vals xs 4).toInt = 11 ∨ (rm_vals xs 4).toInt = 12 ∨ (rm_vals xs 4).toInt = 14 ∨ (rm_vals xs 4).toInt = 15 := by omega
  rcases a with a | a | a | a | a | a | a | a | a | a | a | a | a | a | a | a
  · rcases (show (rm_vals xs 1).toInt ≤ 31 ∨ (32 ≤ (rm_vals xs 1).toInt ∧ (rm_vals xs 1).toInt ≤ 126) ∨ 127 ≤ (rm_vals xs 1).toInt by omega) with h | h | h
    · exact rm_case C0 rm_cs_t0 (by decide +kernel) rm_r_t0 (rm_iv1 ⟨by omega, by omega⟩ (rm_iv1 ⟨by omega, by omega⟩ rm_iv0))
    · exact rm_case C0 rm_cs_t1 (by decide +kernel) rm_r_t1 (rm_iv1 ⟨by omega, by omega⟩ (rm_iv1 ⟨by omega, by omega⟩ rm_iv0))
    · exact rm_case C0 rm_cs_t2 (by decide +kernel) rm_r_t2 (rm_iv1 ⟨by omega, by omega⟩ (rm_iv1 ⟨by omega, by omega⟩ rm_iv0))
  · rcases (show (rm_vals xs 33).toInt = 0 ∨ (1 ≤ (rm_vals xs 33).toInt ∧ (rm_vals xs 33).toInt ≤ 31) ∨ (32 ≤ (rm_vals xs 33).toInt ∧ (rm_vals xs 33).toInt ≤ 126) ∨ 127 ≤ (rm_vals xs 33).toInt by omega) with h33 | h33 | h33 | h33
    · rcases (show (rm_vals xs 32).toInt = 0 ∨ (1 ≤ (rm_vals xs 32).toInt ∧ (rm_vals xs 32).toInt ≤ 31) ∨ (32 ≤ (rm_vals xs 32).toInt ∧ (rm_vals xs 32).toInt ≤ 126) ∨ 127 ≤ (rm_vals xs 32).toInt by omega) with h32 | h32 | h32 | h32
      · rcases (show (rm_vals xs 31).toInt = 0 ∨ (1 ≤ (rm_vals xs 31).toInt ∧ (rm_vals xs 31).toInt ≤ 31) ∨ (32 ≤ (rm_vals xs 31).toInt ∧ (rm_vals xs 31).toInt ≤ 126) ∨ 127 ≤ (rm_vals xs 31).toInt by omega) with h31 | h31 | h31 | h31
        · rcases (show (rm_vals xs 30).toInt = 0 ∨ (1 ≤ (rm_vals xs 30).toInt ∧ (rm_vals xs 30).toInt ≤ 31) ∨ (32 ≤ (rm_vals xs 30).toInt ∧ (rm_vals xs 30).toInt ≤ 126) ∨ 127 ≤ (rm_vals xs 30).toInt by omega) with h30 | h30 | h30 | h30
          · exact rm_case C0 rm_cs_f_zzzz (by decide +kernel) rm_r_f_zzzz (rm_iv1 ⟨by omega, by omega⟩ (rm_iv1 ⟨by omega, by omega⟩ (rm_iv1 ⟨by omega, by omega⟩ (rm_iv1 ⟨by omega, by omega⟩ (rm_iv1 ⟨by omega, by omega⟩ rm_iv0)))))
          · exact rm_case C0 rm_cs_f_zzzl (by decide +kernel) rm_r_f_zzzl (rm_iv1 ⟨by omega, by omega⟩ (rm_iv1 ⟨by omega, by omega⟩ (rm_iv1 ⟨by omega, by omega⟩ (rm_iv1 ⟨by omega, by omega⟩ (rm_iv1 ⟨by omega, by omega⟩ rm_iv0)))))
          · exact rm_case C0 rm_cs_f_zzzg (by decide +kernel) rm_r_f_zzzg (rm_iv1 ⟨by omega, by omega⟩ (rm_iv1 ⟨by omega, by omega⟩ (rm_iv1 ⟨by omega, by omega⟩ (rm_iv1 ⟨by omega, by omega⟩ (rm_iv1 ⟨by omega, by omega⟩ rm_iv0)))))
          · exact rm_case C0 rm_cs_f_zzzh (by decide +kernel) rm_r_f_zzzh (rm_iv1 ⟨by omega, by omega⟩ (rm_iv1 ⟨by omega, by omega⟩ (rm_iv1 ⟨by omega, by omega⟩ (rm_iv1 ⟨by omega, by omega⟩ (rm_iv1 ⟨by omega, by omega⟩ rm_iv0)))))
        · exact rm_case C0 rm_cs_f_zzl (by decide +kernel) rm_r_f_zzl (rm_iv1 ⟨by omega, by omega⟩ (rm_iv1 ⟨by omega, by omega⟩ (rm_iv1 ⟨by omega, by omega⟩ (rm_iv1 ⟨by omega, by omega⟩ rm_iv0))))
        · rcases (show (rm_vals xs 30).toInt = 0 ∨ (1 ≤ (rm_vals xs 30).toInt ∧ (rm_vals xs 30).toInt ≤ 31) ∨ (32 ≤ (rm_vals xs 30).toInt ∧ (rm_vals xs 30).toInt ≤ 126) ∨ 127 ≤ (rm_vals xs 30).toInt by omega) with h30 | h30 | h30 | h30
          · exact rm_case C0 rm_cs_f_zzgz (by decide +kernel) rm_r_f_zzgz (rm_iv1 ⟨by omega, by omega⟩ (rm_iv1 ⟨by omega, by omega⟩ (rm_iv1 ⟨by omega, by omega⟩ (rm_iv1 ⟨by omega, by omega⟩ (rm_iv1 ⟨by omega, by omega⟩ rm_iv0)))))
          · exact rm_case C0 rm_cs_f_zzgl (by decide +kernel) rm_r_f_zzgl (rm_iv1 ⟨by omega, by omega⟩ (rm_iv1 ⟨by omega, by omega⟩ (rm_iv1 ⟨by omega, by omega⟩ (rm_iv1 ⟨by omega, by omega⟩ (rm_iv1 ⟨by omega, by omega⟩ rm_iv0)))))
          · exact rm_case C0 rm_cs_f_zzgg (by decide +kernel) rm_r_f_zzgg (rm_iv1 ⟨by omega, by omega⟩ (rm_iv1 ⟨by omega, by omega⟩ (rm_iv1 ⟨by omega, by omega⟩ (rm_iv1 ⟨by omega, by omega⟩ (rm_iv1 ⟨by omega, by omega⟩ rm_iv0)))))
          · exact rm_case C0 rm_cs_f_zzgh (by decide +kernel) rm_r_f_zzgh (rm_iv1 ⟨by omega, by omega⟩ (rm_iv1 ⟨by omega, by omega⟩ (rm_iv1 ⟨by omega, by omega⟩ (rm_iv1 ⟨by omega, by omega⟩ (rm_iv1 ⟨by omega, by omega⟩ rm_iv0)))))
        · exact rm_case C0 rm_cs_f_zzh (by decide +kernel) rm_r_f_zzh (rm_iv1 ⟨by omega, by omega⟩ (rm_iv1 ⟨by omega, by omega⟩ (rm_iv1 ⟨by omega, by omega⟩ (rm_iv1 ⟨by omega, by omega⟩ rm_iv0))))
      · exact rm_case C0 rm_cs_f_zl (by decide +kernel) rm_r_f_zl (rm_iv1 ⟨by omega, by omega⟩ (rm_iv1 ⟨by omega, by omega⟩ (rm_iv1 ⟨by omega, by omega⟩ rm_iv0)))
      · rcases (show (rm_vals xs 31).toInt = 0 ∨ (1 ≤ (rm_vals xs 31).toInt ∧ (rm_vals xs 31).toInt ≤ 31) ∨ (32 ≤ (rm_vals xs 31).toInt ∧ (rm_vals xs 31).toInt ≤ 126) ∨ 127 ≤ (rm_vals xs 31).toInt by omega) with h31 | h31 | h31 | h31
        · rcases (show (rm_vals xs 30).toInt = 0 ∨ (1 ≤ (rm_vals xs 30).toInt ∧ (rm_vals xs 30).toInt ≤ 31) ∨ (32 ≤ (rm_vals xs 30).toInt ∧ (rm_vals xs 30).toInt ≤ 126) ∨ 127 ≤ (rm_vals xs 30).toInt by omega) with h30 | h30 | h30 | h30
          · exact rm_case C0 rm_cs_f_zgzz (by decide +kernel) rm_r_f_zgzz (rm_iv1 ⟨by omega, by omega⟩ (rm_iv1 ⟨by omega, by omega⟩ (rm_iv1 ⟨by omega, by omega⟩ (rm_iv1 ⟨by omega, by omega⟩ (rm_iv1 ⟨by omega, by omega⟩ rm_iv0)))))
          · exact rm_case C0 rm_cs_f_zgzl (by decide +kernel) rm_r_f_zgzl (rm_iv1 ⟨by omega, by omega⟩ (rm_iv1 ⟨by omega, by omega⟩ (rm_iv1 ⟨by omega, by omega⟩ (rm_iv1 ⟨by omega, by omega⟩ (rm_iv1 ⟨by omega, by omega⟩ rm_iv0)))))
          · exact rm_case C0 rm_cs_f_zgzg (by decide +kernel) rm_r_f_zgzg (rm_iv1 ⟨by omega, by omega⟩ (rm_iv1 ⟨by omega, by omega⟩ (rm_iv1 ⟨by omega, by omega⟩ (rm_iv1 ⟨by omega, by omega⟩ (rm_iv1 ⟨by omega, by omega⟩ rm_iv0)))))
          · exact rm_case C0 rm_cs_f_zgzh (by decide +kernel) rm_r_f_zgzh (rm_iv1 ⟨by omega, by omega⟩ (rm_iv1 ⟨by omega, by omega⟩ (rm_iv1 ⟨by omega, by omega⟩ (rm_iv1 ⟨by omega, by omega⟩ (rm_iv1 ⟨by omega, by omega⟩ rm_iv0)))))
        · exact rm_case C0 rm_cs_f_zgl (by decide +kernel) rm_r_f_zgl (rm_iv1 ⟨by omega, by omega⟩ (rm_iv1 ⟨by omega, by omega⟩ (rm_iv1 ⟨by omega, by omega⟩ (rm_iv1 ⟨by omega, by omega⟩ rm_iv0))))
        · rcases (show (rm_vals xs 30).toInt = 0 ∨ (1 ≤ (rm_vals xs 30).toInt ∧ (rm_vals xs 30).toInt ≤ 31) ∨ (32 ≤ (rm_vals xs 30).toInt ∧ (rm_vals xs 30).toInt ≤ 126) ∨ 127 ≤ (rm_vals xs 30).toInt by omega) with h30 | h30 | h30 | h30
          · exact rm_case C0 rm_cs_f_zggz (by decide +kernel) rm_r_f_zggz (rm_iv1 ⟨by omega, by omega⟩ (rm_iv1 ⟨by omega, by omega⟩ (rm_iv1 ⟨by omega, by omega⟩ (rm_iv1 ⟨by omega, by omega⟩ (rm_iv1 ⟨by omega, by omega⟩ rm_iv0)))))
          · exact rm_case C0 rm_cs_f_zggl (by decide +kernel) rm_r_f_zggl (rm_iv1 ⟨by omega, by omega⟩ (rm_iv1 ⟨by omega, by omega⟩ (rm_iv1 ⟨by omega, by omega⟩ (rm_iv1 ⟨by omega, by omega⟩ (rm_iv1 ⟨by omega, by omega⟩ rm_iv0)))))
          · exact rm_case C0 rm_cs_f_zggg (by decide +kernel) rm_r_f_zggg (rm_iv1 ⟨by omega, by omega⟩ (rm_iv1 ⟨by omega, by omega⟩ (rm_iv1 ⟨by omega, by omega⟩ (rm_iv1 ⟨by omega, by omega⟩ (rm_iv1 ⟨by omega, by omega⟩ rm_iv0)))))
          · exact rm_case C0 rm_cs_f_zggh (by decide +kernel) rm_r_f_zggh (rm_iv1 ⟨by omega, by omega⟩ (rm_iv1 ⟨by omega, by omega⟩ (rm_iv1 ⟨by omega, by omega⟩ (rm_iv1 ⟨by omega, by omega⟩ (rm_iv1 ⟨by omega, by omega⟩ rm_iv0)))))
        · exact rm_case C0 rm_cs_f_zgh (by decide +kernel) rm_r_f_zgh (rm_iv1 ⟨by omega, by omega⟩ (rm_iv1 ⟨by omega, by omega⟩ (rm_iv1 ⟨by omega, by omega⟩ (rm_iv1 ⟨by omega, by omega⟩ rm_iv0))))
      · exact rm_case C0 rm_cs_f_zh (by decide +kernel) rm_r_f_zh (rm_iv1 ⟨by omega, by omega⟩ (rm_iv1 ⟨by omega, by omega⟩ (rm_iv1 ⟨by omega, by omega⟩ rm_iv0)))
    · exact rm_case C0 rm_cs_f_l (by decide +kernel) rm_r_f_l (rm_iv1 ⟨by omega, by omega⟩ (rm_iv1 ⟨by omega, by omega⟩ rm_iv0))
    · rcases (show (rm_vals xs 32).toInt = 0 ∨ (1 ≤ (rm_vals xs 32).toInt ∧ (rm_vals xs 32).toInt ≤ 31) ∨ (32 ≤ (rm_vals xs 32).toInt ∧ (rm_vals xs 32).toInt ≤ 126) ∨ 127 ≤ (rm_vals xs 32).toInt by omega) with h32 | h32 | h32 | h32
      · rcases (show (rm_vals xs 31).toInt = 0 ∨ (1 ≤ (rm_vals xs 31).toInt ∧ (rm_vals xs 31).toInt ≤ 31) ∨ (32 ≤ (rm_vals xs 31).toInt ∧ (rm_vals xs 31).toInt ≤ 126) ∨ 127 ≤ (rm_vals xs 31).toInt by omega) with h31 | h31 | h31 | h31
        · rcases (show (rm_vals xs 30).toInt = 0 ∨ (1 ≤ (rm_vals xs 30).toInt ∧ (rm_vals xs 30).toInt ≤ 31) ∨ (32 ≤ (rm_vals xs 30).toInt ∧ (rm_vals xs 30).toInt ≤ 126) ∨ 127 ≤ (rm_vals xs 30).toInt by omega) with h30 | h30 | h30 | h30
          · exact rm_case C0 rm_cs_f_gzzz (by decide +kernel) rm_r_f_gzzz (rm_iv1 ⟨by omega, by omega⟩ (rm_iv1 ⟨by omega, by omega⟩ (rm_iv1 ⟨by omega, by omega⟩ (rm_iv1 ⟨by omega, by omega⟩ (rm_iv1 ⟨by omega, by omega⟩ rm_iv0)))))
          · exact rm_case C0 rm_cs_f_gzzl (by decide +kernel) rm_r_f_gzzl (rm_iv1 ⟨by omega, by omega⟩ (rm_iv1 ⟨by omega, by omega⟩ (rm_iv1 ⟨by omega, by omega⟩ (rm_iv1 ⟨by omega, by omega⟩ (rm_iv1 ⟨by omega, by omega⟩ rm_iv0)))))
          · exact rm_case C0 rm_cs_f_gzzg (by decide +kernel) rm_r_f_gzzg (rm_iv1 ⟨by omega, by omega⟩ (rm_iv1 ⟨by omega, by omega⟩ (rm_iv1 ⟨by omega, by omega⟩ (rm_iv1 ⟨by omega, by omega⟩ (rm_iv1 ⟨by omega, by omega⟩ rm_iv0)))))
          · exact rm_case C0 rm_cs_f_gzzh (by decide +kernel) rm_r_f_gzzh (rm_iv1 ⟨by omega, by omega⟩ (rm_iv1 ⟨by omega, by omega⟩ (rm_iv1 ⟨by omega, by omega⟩ (rm_iv1 ⟨by omega, by omega⟩ (rm_iv1 ⟨by omega, by omega⟩ rm_iv0)))))
        · exact rm_case C0 rm_cs_f_gzl (by decide +kernel) rm_r_f_gzl (rm_iv1 ⟨by omega, by omega⟩ (rm_iv1 ⟨by omega, by omega⟩ (rm_iv1 ⟨by omega, by omega⟩ (rm_iv1 ⟨by omega, by omega⟩ rm_iv0))))
        · rcases (show (rm_vals xs 30).toInt = 0 ∨ (1 ≤ (rm_vals xs 30).toInt ∧ (rm_vals xs 30).toInt ≤ 31) ∨ (32 ≤ (rm_vals xs 30).toInt ∧ (rm_vals xs 30).toInt ≤ 126) ∨ 127 ≤ (rm_vals xs 30).toInt by omega) with h30 | h30 | h30 | h30
          · exact rm_case C0 rm_cs_f_gzgz (by decide +kernel) rm_r_f_gzgz (rm_iv1 ⟨by omega, by omega⟩ (rm_iv1 ⟨by omega, by omega⟩ (rm_iv1 ⟨by omega, by omega⟩ (rm_iv1 ⟨by omega, by omega⟩ (rm_iv1 ⟨by omega, by omega⟩ rm_iv0)))))
          · exact rm_case C0 rm_cs_f_gzgl (by decide +kernel) rm_r_f_gzgl (rm_iv1 ⟨by omega, by omega⟩ (rm_iv1 ⟨by omega, by omega⟩ (rm_iv1 ⟨by omega, by omega⟩ (rm_iv1 ⟨by omega, by omega⟩ (rm_iv1 ⟨by omega, by omega⟩ rm_iv0)))))
          · exact rm_case C0 rm_cs_f_gzgg (by decide +kernel) rm_r_f_gzgg (rm_iv1 ⟨by omega, by omega⟩ (rm_iv1 ⟨by omega, by omega⟩ (rm_iv1 ⟨by omega, by omega⟩ (rm_iv1 ⟨by omega, by omega⟩ (rm_iv1 ⟨by omega, by omega⟩ rm_iv0)))))
          · exact rm_case C0 rm_cs_f_gzgh (by decide +kernel) rm_r_f_gzgh (rm_iv1 ⟨by omega, by omega⟩ (rm_iv1 ⟨by omega, by omega⟩ (rm_iv1 ⟨by omega, by omega⟩ (rm_iv1 ⟨by omega, by omega⟩ (rm_iv1 ⟨by omega, by omega⟩ rm_iv0)))))
        · exact rm_case C0 rm_cs_f_gzh (by decide +kernel) rm_r_f_gzh (rm_iv1 ⟨by omega, by omega⟩ (rm_iv1 ⟨by omega, by omega⟩ (rm_iv1 ⟨by omega, by omega⟩ (rm_iv1 ⟨by omega, by omega⟩ rm_iv0))))
      · exact rm_case C0 rm_cs_f_gl (by decide +kernel) rm_r_f_gl (rm_iv1 ⟨by omega, by omega⟩ (rm_iv1 ⟨by omega, by omega⟩ (rm_iv1 ⟨by omega, by omega⟩ rm_iv0)))
      · rcases (show (rm_vals xs 31).toInt = 0 ∨ (1 ≤ (rm_vals xs 31).toInt ∧ (rm_vals xs 31).toInt ≤ 31) ∨ (32 ≤ (rm_vals xs 31).toInt ∧ (rm_vals xs 31).toInt ≤ 126) ∨ 127 ≤ (rm_vals xs 31).toInt by omega) with h31 | h31 | h31 | h31
        · rcases (show (rm_vals xs 30).toInt = 0 ∨ (1 ≤ (rm_vals xs 30).toInt ∧ (rm_vals xs 30).toInt ≤ 31) ∨ (32 ≤ (rm_vals xs 30).toInt ∧ (rm_vals xs 30).toInt ≤ 126) ∨ 127 ≤ (rm_vals xs 30).toInt by omega) with h30 | h30 | h30 | h30
          · exact rm_case C0 rm_cs_f_ggzz (by decide +kernel) rm_r_f_ggzz (rm_iv1 ⟨by omega, by omega⟩ (rm_iv1 ⟨by omega, by omega⟩ (rm_iv1 ⟨by omega, by omega⟩ (rm_iv1 ⟨by omega, by omega⟩ (rm_iv1 ⟨by omega, by omega⟩ rm_iv0)))))
          · exact rm_case C0 rm_cs_f_ggzl (by decide +kernel) rm_r_f_ggzl (rm_iv1 ⟨by omega, by omega⟩ (rm_iv1 ⟨by omega, by omega⟩ (rm_iv1 ⟨by omega, by omega⟩ (rm_iv1 ⟨by omega, by omega⟩ (rm_iv1 ⟨by omega, by omega⟩ rm_iv0)))))
          · exact rm_case C0 rm_cs_f_ggzg (by decide +kernel) rm_r_f_ggzg (rm_iv1 ⟨by omega, by omega⟩ (rm_iv1 ⟨by omega, by omega⟩ (rm_iv1 ⟨by omega, by omega⟩ (rm_iv1 ⟨by omega, by omega⟩ (rm_iv1 ⟨by omega, by omega⟩ rm_iv0)))))
          · exact rm_case C0 rm_cs_f_ggzh (by decide +kernel) rm_r_f_ggzh (rm_iv1 ⟨by omega, by omega⟩ (rm_iv1 ⟨by omega, by omega⟩ (rm_iv1 ⟨by omega, by omega⟩ (rm_iv1 ⟨by omega, by omega⟩ (rm_iv1 ⟨by omega, by omega⟩ rm_iv0)))))
        · exact rm_case C0 rm_cs_f_ggl (by decide +kernel) rm_r_f_ggl (rm_iv1 ⟨by omega, by omega⟩ (rm_iv1 ⟨by omega, by omega⟩ (rm_iv1 ⟨by omega, by omega⟩ (rm_iv1 ⟨by omega, by omega⟩ rm_iv0))))
        · rcases (show (rm_vals xs 30).toInt = 0 ∨ (1 ≤ (rm_vals xs 30).toInt ∧ (rm_vals xs 30).toInt ≤ 31) ∨ (32 ≤ (rm_vals xs 30).toInt ∧ (rm_vals xs 30).toInt ≤ 126) ∨ 127 ≤ (rm_vals xs 30).toInt by omega) with h30 | h30 | h30 | h30
          · exact rm_case C0 rm_cs_f_gggz (by decide +kernel) rm_r_f_gggz (rm_iv1 ⟨by omega, by omega⟩ (rm_iv1 ⟨by omega, by omega⟩ (rm_iv1 ⟨by omega, by omega⟩ (rm_iv1 ⟨by omega, by omega⟩ (rm_iv1 ⟨by omega, by omega⟩ rm_iv0)))))
          · exact rm_case C0 rm_cs_f_gggl (by decide +kernel) rm_r_f_gggl (rm_iv1 ⟨by omega, by omega⟩ (rm_iv1 ⟨by omega, by omega⟩ (rm_iv1 ⟨by omega, by omega⟩ (rm_iv1 ⟨by omega, by omega⟩ (rm_iv1 ⟨by omega, by omega⟩ rm_iv0)))))
          · exact rm_case C0 rm_cs_f_gggg (by decide +kernel) rm_r_f_gggg (rm_iv1 ⟨by omega, by omega⟩ (rm_iv1 ⟨by omega, by omega⟩ (rm_iv1 ⟨by omega, by omega⟩ (rm_iv1 ⟨by omega, by omega⟩ (rm_iv1 ⟨by omega, by omega⟩ rm_iv0)))))
          · exact rm_case C0 rm_cs_f_gggh (by decide +kernel) rm_r_f_gggh (rm_iv1 ⟨by omega, by omega⟩ (rm_iv1 ⟨by omega, by omega⟩ (rm_iv1 ⟨by omega, by omega⟩ (rm_iv1 ⟨by omega, by omega⟩ (rm_iv1 ⟨by omega, by omega⟩ rm_iv0)))))
        · exact rm_case C0 rm_cs_f_ggh (by decide +kernel) rm_r_f_ggh (rm_iv1 ⟨by omega, by omega⟩ (rm_iv1 ⟨by omega, by omega⟩ (rm_iv1 ⟨by omega, by omega⟩ (rm_iv1 ⟨by omega, by omega⟩ rm_iv0))))
      · exact rm_case C0 rm_cs_f_gh (by decide +kernel) rm_r_f_gh (rm_iv1 ⟨by omega, by omega⟩ (rm_iv1 ⟨by omega, by omega⟩ (rm_iv1 ⟨by omega, by omega⟩ rm_iv0)))
    · exact rm_case C0 rm_cs_f_h (by decide +kernel) rm_r_f_h (rm_iv1 ⟨by omega, by omega⟩ (rm_iv1 ⟨by omega, by omega⟩ rm_iv0))
  · rcases (show (rm_vals xs 1).toInt ≤ -1 ∨ (rm_vals xs 1).toInt = 0 ∨ (rm_vals xs 1).toInt = 1 ∨ (rm_vals xs 1).toInt = 2 ∨ (3 ≤ (rm_vals xs 1).toInt ∧ (rm_vals xs 1).toInt ≤ 5) ∨ 6 ≤ (rm_vals xs 1).toInt by omega) with h | h | h | h | h | h
    · exact rm_case C0 rm_cs_c0 (by decide +kernel) rm_r_c0 (rm_iv1 ⟨by omega, by omega⟩ (rm_iv1 ⟨by omega, by omega⟩ rm_iv0))
    · exact rm_case C0 rm_cs_c1 (by decide +kernel) rm_r_c1 (rm_iv1 ⟨by omega, by omega⟩ (rm_iv1 ⟨by omega, by omega⟩ rm_iv0))
    · exact rm_case C0 rm_cs_c2 (by decide +kernel) rm_r_c2 (rm_iv1 ⟨by omega, by omega⟩ (rm_iv1 ⟨by omega, by omega⟩ rm_iv0))
    · exact rm_case C0 rm_cs_c3 (by decide +kernel) rm_r_c3 (rm_iv1 ⟨by omega, by omega⟩ (rm_iv1 ⟨by omega, by omega⟩ rm_iv0))
    · exact rm_case C0 rm_cs_c4 (by decide +kernel) rm_r_c4 (rm_iv1 ⟨by omega, by omega⟩ (rm_iv1 ⟨by omega, by omega⟩ rm_iv0))
    · exact rm_case C0 rm_cs_c5 (by decide +kernel) rm_r_c5 (rm_iv1 ⟨by omega, by omega⟩ (rm_iv1 ⟨by omega, by omega⟩ rm_iv0))
  · rcases (show (rm_vals xs 2).toInt ≤ 0 ∨ 1000000001 ≤ (rm_vals xs 2).toInt ∨ (1 ≤ (rm_vals xs 2).toInt ∧ (rm_vals xs 2).toInt ≤ 1000000000) by omega) with h | h | h
    · exact rm_case C0 rm_cs_e0 (by decide +kernel) rm_r_e0 (rm_iv1 ⟨by omega, by omega⟩ (rm_iv1 ⟨by omega, by omega⟩ rm_iv0))
    · exact rm_case C0 rm_cs_e1 (by decide +kernel) rm_r_e1 (rm_iv1 ⟨by omega, by omega⟩ (rm_iv1 ⟨by omega, by omega⟩ rm_iv0))
    · rcases (show (rm_vals xs 1).toInt ≤ -1000000001 ∨ 1000000001 ≤ (rm_vals xs 1).toInt ∨ (-1000000000 ≤ (rm_vals xs 1).toInt ∧ (rm_vals xs 1).toInt ≤ 1000000000) by omega) with g | g | g
      · exact rm_case C0 rm_cs_e2 (by decide +kernel) rm_r_e2 (rm_iv1 ⟨by omega, by omega⟩ (rm_iv1 ⟨by omega, by omega⟩ (rm_iv1 ⟨by omega, by omega⟩ rm_iv0)))
      · exact rm_case C0 rm_cs_e3 (by decide +kernel) rm_r_e3 (rm_iv1 ⟨by omega, by omega⟩ (rm_iv1 ⟨by omega, by omega⟩ (rm_iv1 ⟨by omega, by omega⟩ rm_iv0)))
      · exact rm_case C0 rm_cs_e4 (by decide +kernel) rm_r_e4 (rm_iv1 ⟨by omega, by omega⟩ (rm_iv1 ⟨by omega, by omega⟩ (rm_iv1 ⟨by omega, by omega⟩ rm_iv0)))
  · exact rm_case C0 rm_cs_o2 (by decide +kernel) rm_r_o2 (rm_iv1 ⟨by omega, by omega⟩ rm_iv0)
  · exact rm_case C0 rm_cs_o4 (by decide +kernel) rm_r_o4 (rm_iv1 ⟨by omega, by omega⟩ rm_iv0)
  · exact rm_case C0 rm_cs_o5 (by decide +kernel) rm_r_o5 (rm_iv1 ⟨by omega, by omega⟩ rm_iv0)
  · exact rm_case C0 rm_cs_o6 (by decide +kernel) rm_r_o6 (rm_iv1 ⟨by omega, by omega⟩ rm_iv0)
  · exact rm_case C0 rm_cs_o7 (by decide +kernel) rm_r_o7 (rm_iv1 ⟨by omega, by omega⟩ rm_iv0)
  · exact rm_case C0 rm_cs_o8 (by decide +kernel) rm_r_o8 (rm_iv1 ⟨by omega, by omega⟩ rm_iv0)
  · exact rm_case C0 rm_cs_o9 (by decide +kernel) rm_r_o9 (rm_iv1 ⟨by omega, by omega⟩ rm_iv0)
  · exact rm_case C0 rm_cs_o10 (by decide +kernel) rm_r_o10 (rm_iv1 ⟨by omega, by omega⟩ rm_iv0)
  · exact rm_case C0 rm_cs_o11 (by decide +kernel) rm_r_o11 (rm_iv1 ⟨by omega, by omega⟩ rm_iv0)
  · exact rm_case C0 rm_cs_o12 (by decide +kernel) rm_r_o12 (rm_iv1 ⟨by omega, by omega⟩ rm_iv0)
  · exact rm_case C0 rm_cs_o14 (by decide +kernel) rm_r_o14 (rm_iv1 ⟨by omega, by omega⟩ rm_iv0)
  · exact rm_case C0 rm_cs_o15 (by decide +kernel) rm_r_o15 (rm_iv1 ⟨by omega, by omega⟩ rm_iv0)
set_option maxHeartbeats 4000000 in
theorem lw_walk (l : Launch) (b : Addr) (xs : List Int32) : MetFree l x (headSpec (Jvm.Cond.code x code maxLocals ret :: tables_1) room_1) (lw_P b xs) (fun _ _ _ _ _ => True) lw_Q := by
  refine MetFree.of_bodyS (code := code) (maxLocals := maxLocals) (ret := ret) (by decide) ?_ ?_
  · intro args s m h hn
    obtain ⟨meth, c, h1, h2, h3, h4, h5, h6, -, -⟩ := Cond.code_spec hn (atoms_spec (ws := Jvm.Cond.code x code maxLocals ret :: tables_1) h _ List.mem_cons_self)
    exact ⟨meth, c, h1, h2, h3, h4, h5, h6⟩
  · intro p e s m args below meth c s₁ B hml0 hP _
    obtain ⟨rfl, hx, hbd, hgv⟩ := hP
    obtain ⟨scr, harrAt, hlist, hof, hsmall⟩ := hx
    obtain ⟨hcb, hkn, -, -⟩ := State.arrayAt?_spec harrAt
    have hown : s.vm.findClass R_law = some m.cls := findClass_of_methodNamed B.named
    have hts0 : ∀ c ∈ (Jvm.Cond.code x code maxLocals ret :: tables_1), c.before #[Value.ref b] s = true := atoms_spec (ws := Jvm.Cond.code x code maxLocals ret :: tables_1) B.pre
    have hts : ∀ w ∈ lw_tbl, w.before #[Value.ref b] s = true := k2_hts_sels lw_privs (fun w hw => hts0 w (List.mem_cons_of_mem _ hw)) lw_privs_ok
    have hml : c.maxLocals = 4 := B.maxLocals_eq (hts0 _ List.mem_cons_self)
    have X₀ : Stand p l e room_1 s m #[Value.ref b] below meth c s₁ [] 0 0 := Stand.of_body B
    have hh0 : s₁.heap = s.heap := by rw [B.state]; rfl
    have hsz : scr.slots.size = xs.length := by rw [← Array.length_toList, hlist, List.length_map]
    have hval : ∀ j : Nat, j < xs.length → scr.slots[j]? = some (.int (xs.getD j 0)) := fun j hj => by
      rw [← Array.getElem?_toList, hlist]
      simp [hj]
    have hbl : b < s.heap.size := (Array.getElem?_eq_some_iff.mp hcb).1
    have hX : va_X b xs.length (fun j => xs.getD j 0) s s.heap := ⟨scr, hcb, hof, hkn, hsz, hval⟩
    have K : W p l e room_1 s m #[Value.ref b] below meth c s₁.heap [] 0 0 (lw_Z below #[Value.ref b] s) (entryFrame m ([Value.ref b] : List Value).toArray 4) := by
      rw [hh0]
      exact whole_start l hbd ⟨B.exec, B.bytes, B.returns, hml, hown, hts, hX, hbl, B.notSynchronized, hgv⟩
    obtain ⟨t, a1, o, b1, b2, b3⟩ := K s₁ rfl X₀
    exact ⟨t, o, a1, b1, b2, b3⟩
theorem lw_pre_spec {args : Array Value} {s : State} (h : (Jvm.Cond.and given_1 narrow_1).before args s = true) (hr : rest_1_c.before args s = true) : ∃ (b : Addr) (xs : List Int32), lw_P b xs args s := by
  have hs := flat_of_before _ h
  have hq := flat_of_before _ hr
  have hc : (Cond.count 1).before args s = true := hs _ (by decide +kernel)
  have harr : (Cond.arrayOf (.arg 0) .int).before args s = true := hs _ (by decide +kernel)
  have hle : (Cond.le (.length (.arg 0)) (.int 4)).before args s = true := hs _ (by decide +kernel)
  have hlen : (Cond.isInt (.length (.arg 0))).before args s = true := hq _ (by decide +kernel)
  have hall : (Cond.all (.arg 0) (.isInt (.elem (.arg 0) (.index 0)))).before args s = true := hq _ (by decide +kernel)
  obtain ⟨b, xs, hb, hx⟩ := State.ints_of_pre rfl harr hlen hall
  have hsm : xs.length < 2 ^ 31 := hx.choose_spec.2.2.2
  have hev : (Term.length (.arg 0)).eval args s none [] s = some (.int xs.length.toInt32) := hx.length_eval hb
  have hv := Cond.le_ints hev (show (Term.int 4).eval args s none [] s = some (.int 4) from rfl)
  have hd : xs.length.toInt32 ≤ 4 := by
    simpa [Cond.before, Cond.holds, hv] using hle
  have hN : xs.length ≤ 4 := (Int32.ofNat_le_ofNat hsm (by decide)).mp (show Int32.ofNat xs.length ≤ Int32.ofNat 4 from hd)
  exact ⟨b, xs, Cond.one_arg hc (show args[0]? = some (.ref b) from hb), hx, hN, h⟩
theorem lw_comes (l : Launch) : Comes l x (Jvm.Cond.code x code maxLocals ret :: tables_1) room_1 (fun tb e args s => Calls_1 tb e args s ∧ rest_1 tb e args s ∧ Pre_1 tb e args s)
    (fun _ _ args s o t => lw_Q args s o t) := by
  intro p e ha hc hk s m args below hf hfit hheap happ hpre
  obtain ⟨b, xs, hP⟩ := lw_pre_spec hpre.2.2 hpre.2.1
  obtain ⟨k, o, h1, h2, h3, hQ⟩ := lw_walk l b xs p e ha hc hk s m args below hf ((Spec.applies_iff_loose hf).mp happ).1 hP trivial
  exact ⟨k, o, h1, h2, h3, hQ⟩
theorem lw_frame {s t : State} {o : Outcome} {args : Array Value} (h : Framed s o t [] 600000 7302250) :
    Framed s o t (fieldLocs frame_1_writes args s ++ arrayLocs frame_1_arrays args s ++ staticLocs frame_1_statics s) 600000 7302250 := h
theorem lw_limb (L : Cond) (hL : ∀ (args : Array Value) (s t : State), L.after args s (.returned (some (.int 1))) t = true) :
    ArmFor flags0 classFile x code maxLocals ret World_1 tables_1 room_1 Calls_1 rest_1 Pre_1
      (fun tb e a s o t => postC L tb e a s o t ∧ Framed s o t (fieldLocs frame_1_writes a s ++ arrayLocs frame_1_arrays a s ++ staticLocs frame_1_statics s) 600000 7302250) := by
  intro l _ _ _ p e ha hc hk s m args below hf hfit hheap happ hpre
  obtain ⟨k, o, h1, h2, h3, rfl, hF⟩ := lw_comes l p e ha hc hk s m args below hf hfit hheap happ hpre
  exact ⟨k, _, h1, h2, h3, hL args s _, lw_frame hF⟩
theorem i_vc : Claimed_1_1 ∧ Claimed_1_2 := ⟨lw_limb limb_1_1 (fun args s t => by simp [limb_1_1, Cond.after, Cond.holds, Cond.value]), lw_limb limb_1_2 (fun args s t => Cond.after_iff.mpr (by
  first | (rw [show limb_1_2 = Cond.eq .result (.int 1) from rfl, Cond.eq_ints (x := 1) (y := 1) rfl rfl]; simp; done) | (simp [limb_1_2, Cond.value, Term.eval]; done)))⟩

