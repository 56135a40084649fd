/-! the signs of the two constant texts -/
def txv (t : Nat) (i : Int) : Int := ((rm_sB.getD ((t - 3) / 2) []).getD i.toNat 0).toInt
theorem txv_r (t : Nat) (i : Int) : iR (txv t i) := ⟨by have := ((rm_sB.getD ((t - 3) / 2) []).getD i.toNat 0).le_toInt; unfold txv; omega, by have := ((rm_sB.getD ((t - 3) / 2) []).getD i.toNat 0).toInt_lt; unfold txv; omega⟩
section PQ6
variable {L : Nat} {ys : Nat → Int32} {d N : Nat} {M : rm_M} {pc pc' : Nat} {lv : List (Nat × im_V)} {st : List im_V} {s : im_S} {Q : im_Re → Prop}
theorem pq_tv {i : Int} {t : Nat} (hf : rm_find M.1 pc = some (.baload, 1)) (hp : pc + 1 = pc') (h : pq L ys d N M (pc', lv, (0, txv t i) :: st, s) Q) : pq L ys d N M (pc, lv, (0, i) :: (4, (t : Int)) :: st, s) Q := by
  subst hp
  refine pq_i (C := True) (s' := s) hf rfl rfl (fun lv r hr => ?_) (fun _ => h)
  have hr : (if ((t : Nat) : Int).toNat = 3 ∨ ((t : Nat) : Int).toNat = 5 then (if im_in i (rm_sN.getD ((((t : Nat) : Int).toNat - 3) / 2) 0) then some (pc + 1, lv, (0, ((rm_sB.getD ((((t : Nat) : Int).toNat - 3) / 2) []).getD i.toNat 0).toInt) :: st, s) else none) else none) = some r := hr
  rw [Int.toNat_natCast] at hr
  split at hr
  · split at hr
    · cases hr; exact ⟨rfl, trivial⟩
    · cases hr
  · cases hr
end PQ6
theorem c8_id {x : Int} (h1 : 0 ≤ x) (h2 : x ≤ 126) : c8 x = x := by
  have : ∀ k : Nat, k < 127 → c8 (k : Int) = k := by decide +kernel
  have := this x.toNat (by omega)
  rwa [Int.toNat_of_nonneg h1] at this
theorem c16_id {x : Int} (h1 : 0 ≤ x) (h2 : x ≤ 126) : c16 x = x := by
  have : ∀ k : Nat, k < 127 → c16 (k : Int) = k := by decide +kernel
  have := this x.toNat (by omega)
  rwa [Int.toNat_of_nonneg h1] at this
theorem tok_15 {x : Int} (h : ∀ k : Nat, k < 15 → txv 3 (k : Int) ≠ x) (hd : ¬ dgt x) : ¬ tok x := by
  have e : ∀ k : Nat, k < 15 → txv 3 (k : Int) = [120, 40, 41, 91, 93, 124, 38, 126, 61, 60, 62, 43, 45, 42, 94].getD k 0 := by decide +kernel
  have g : ∀ k : Nat, k < 15 → ([120, 40, 41, 91, 93, 124, 38, 126, 61, 60, 62, 43, 45, 42, 94] : List Int).getD k 0 ≠ x := fun k hk => by rw [← e k hk]; exact h k hk
  have g0 := g 0 (by decide)
  have g1 := g 1 (by decide)
  have g2 := g 2 (by decide)
  have g3 := g 3 (by decide)
  have g4 := g 4 (by decide)
  have g5 := g 5 (by decide)
  have g6 := g 6 (by decide)
  have g7 := g 7 (by decide)
  have g8 := g 8 (by decide)
  have g9 := g 9 (by decide)
  have g10 := g 10 (by decide)
  have g11 := g 11 (by decide)
  have g12 := g 12 (by decide)
  have g13 := g 13 (by decide)
  have g14 := g 14 (by decide)
  simp only [List.getD_cons_zero, List.getD_cons_succ] at g0 g1 g2 g3 g4 g5 g6 g7 g8 g9 g10 g11 g12 g13 g14
  rintro (z | z | z | z | z | z | z | z | z | z | z | z | z | z | z | z)
  · exact hd z
  · exact g5 z.symm
  · exact g6 z.symm
  · exact g7 z.symm
  · exact g3 z.symm
  · exact g4 z.symm
  · exact g8 z.symm
  · exact g9 z.symm
  · exact g10 z.symm
  · exact g12 z.symm
  · exact g11 z.symm
  · exact g13 z.symm
  · exact g14 z.symm
  · exact g0 z.symm
  · exact g1 z.symm
  · exact g2 z.symm
theorem tok_of {x : Int} (k : Nat) (hk : k < 15) (h : txv 3 (k : Int) = x) : tok x := by
  have e : ∀ k : Nat, k < 15 → txv 3 (k : Int) = [120, 40, 41, 91, 93, 124, 38, 126, 61, 60, 62, 43, 45, 42, 94].getD k 0 := by decide +kernel
  have t : ∀ k : Nat, k < 15 → (([120, 40, 41, 91, 93, 124, 38, 126, 61, 60, 62, 43, 45, 42, 94] : List Int).getD k 0 = 124 ∨ ([120, 40, 41, 91, 93, 124, 38, 126, 61, 60, 62, 43, 45, 42, 94] : List Int).getD k 0 = 38 ∨ ([120, 40, 41, 91, 93, 124, 38, 126, 61, 60, 62, 43, 45, 42, 94] : List Int).getD k 0 = 126 ∨ ([120, 40, 41, 91, 93, 124, 38, 126, 61, 60, 62, 43, 45, 42, 94] : List Int).getD k 0 = 91 ∨ ([120, 40, 41, 91, 93, 124, 38, 126, 61, 60, 62, 43, 45, 42, 94] : List Int).getD k 0 = 93 ∨ ([120, 40, 41, 91, 93, 124, 38, 126, 61, 60, 62, 43, 45, 42, 94] : List Int).getD k 0 = 61 ∨ ([120, 40, 41, 91, 93, 124, 38, 126, 61, 60, 62, 43, 45, 42, 94] : List Int).getD k 0 = 60 ∨ ([120, 40, 41, 91, 93, 124, 38, 126, 61, 60, 62, 43, 45, 42, 94] : List Int).getD k 0 = 62 ∨ ([120, 40, 41, 91, 93, 124, 38, 126, 61, 60, 62, 43, 45, 42, 94] : List Int).getD k 0 = 45 ∨ ([120, 40, 41, 91, 93, 124, 38, 126, 61, 60, 62, 43, 45, 42, 94] : List Int).getD k 0 = 43 ∨ ([120, 40, 41, 91, 93, 124, 38, 126, 61, 60, 62, 43, 45, 42, 94] : List Int).getD k 0 = 42 ∨ ([120, 40, 41, 91, 93, 124, 38, 126, 61, 60, 62, 43, 45, 42, 94] : List Int).getD k 0 = 94 ∨ ([120, 40, 41, 91, 93, 124, 38, 126, 61, 60, 62, 43, 45, 42, 94] : List Int).getD k 0 = 120 ∨ ([120, 40, 41, 91, 93, 124, 38, 126, 61, 60, 62, 43, 45, 42, 94] : List Int).getD k 0 = 40 ∨ ([120, 40, 41, 91, 93, 124, 38, 126, 61, 60, 62, 43, 45, 42, 94] : List Int).getD k 0 = 41) := by decide +kernel
  have := t k hk
  rw [← e k hk, h] at this
  exact Or.inr this
