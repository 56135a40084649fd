/-! every factor of P times every factor of K, where P K has factors up to B -/
theorem le_sqB {a : Int} {B : Nat} (h : a.natAbs ≤ B) : a * a ≤ (B : Int) * (B : Int) := by
  have e : a * a = ((a.natAbs * a.natAbs : Nat) : Int) := by rw [Int.natCast_mul]; exact (Int.natAbs_mul_self' a).symm
  have := Nat.mul_le_mul h h
  rw [e, ← Int.natCast_mul]
  exact Int.ofNat_le.2 this
theorem mul_leB9 {a b X Y : Int} (a0 : 0 ≤ a) (b0 : 0 ≤ b) (h1 : a ≤ X) (h2 : b ≤ Y) : a * b ≤ X * Y := Int.le_trans (Int.mul_le_mul_of_nonneg_right h1 b0) (Int.mul_le_mul_of_nonneg_left h2 (Int.le_trans a0 h1))
theorem dbB0 {A P K : List Int} {B : Nat} (e : ∀ x : Rat, pev A x = pev P x * pev K x) (hA : pab A B) (hP : pdb P 1) (hK : pdb K 9) (i j : Nat) : (pgt P i * pgt K j) * (pgt P i * pgt K j) ≤ 95616 * ((B : Int) * (B : Int)) := by
  have eP : ∀ x : Rat, pev P x = pev [pgt P 0] x := fun x => pev_eq (fun k => by
    match k with
    | 0 => rfl
    | k + 1 => rw [hP (k + 1) (by omega)]; cases k <;> rfl) x
  have eK : ∀ x : Rat, pev K x = pev [pgt K 0, pgt K 1, pgt K 2, pgt K 3, pgt K 4, pgt K 5, pgt K 6, pgt K 7, pgt K 8] x := fun x => pev_eq (fun k => by
    match k with
    | 0 => rfl
    | 1 => rfl
    | 2 => rfl
    | 3 => rfl
    | 4 => rfl
    | 5 => rfl
    | 6 => rfl
    | 7 => rfl
    | 8 => rfl
    | k + 9 => rw [hK (k + 9) (by omega)]; cases k <;> rfl) x
  have b := bow0 (A := A) (fun x => by rw [e x, eP x, eK x])
  obtain ⟨b0, b1, b2, b3, b4, b5, b6, b7, b8⟩ := b
  have a0 := le_sqB (hA 0)
  have a1 := le_sqB (hA 1)
  have a2 := le_sqB (hA 2)
  have a3 := le_sqB (hA 3)
  have a4 := le_sqB (hA 4)
  have a5 := le_sqB (hA 5)
  have a6 := le_sqB (hA 6)
  have a7 := le_sqB (hA 7)
  have a8 := le_sqB (hA 8)
  rw [b0] at a0
  rw [b1] at a1
  rw [b2] at a2
  rw [b3] at a3
  rw [b4] at a4
  rw [b5] at a5
  rw [b6] at a6
  rw [b7] at a7
  rw [b8] at a8
  have BB0 := sqn9 (B : Int)
  generalize (B : Int) * (B : Int) = BB at *
  by_cases hi : i = 0
  · subst hi
    match j with
    | 0 => omega
    | 1 => omega
    | 2 => omega
    | 3 => omega
    | 4 => omega
    | 5 => omega
    | 6 => omega
    | 7 => omega
    | 8 => omega
    | j + 9 => rw [hK (j + 9) (by omega), Int.mul_zero]; omega
  · rw [hP i (by omega), Int.zero_mul]; omega
theorem dbB1 {A P K : List Int} {B : Nat} (e : ∀ x : Rat, pev A x = pev P x * pev K x) (hA : pab A B) (hP : pdb P 2) (hK : pdb K 8) (i j : Nat) : (pgt P i * pgt K j) * (pgt P i * pgt K j) ≤ 95616 * ((B : Int) * (B : Int)) := by
  have eP : ∀ x : Rat, pev P x = pev [pgt P 0, pgt P 1] x := fun x => pev_eq (fun k => by
    match k with
    | 0 => rfl
    | 1 => rfl
    | k + 2 => rw [hP (k + 2) (by omega)]; cases k <;> rfl) x
  have eK : ∀ x : Rat, pev K x = pev [pgt K 0, pgt K 1, pgt K 2, pgt K 3, pgt K 4, pgt K 5, pgt K 6, pgt K 7] x := fun x => pev_eq (fun k => by
    match k with
    | 0 => rfl
    | 1 => rfl
    | 2 => rfl
    | 3 => rfl
    | 4 => rfl
    | 5 => rfl
    | 6 => rfl
    | 7 => rfl
    | k + 8 => rw [hK (k + 8) (by omega)]; cases k <;> rfl) x
  have b := bow1 (A := A) (fun x => by rw [e x, eP x, eK x])
  obtain ⟨b0, b1, b2, b3, b4, b5, b6, b7, b8⟩ := b
  have a0 := le_sqB (hA 0)
  have a1 := le_sqB (hA 1)
  have a2 := le_sqB (hA 2)
  have a3 := le_sqB (hA 3)
  have a4 := le_sqB (hA 4)
  have a5 := le_sqB (hA 5)
  have a6 := le_sqB (hA 6)
  have a7 := le_sqB (hA 7)
  have a8 := le_sqB (hA 8)
  rw [b0] at a0
  rw [b1] at a1
  rw [b2] at a2
  rw [b3] at a3
  rw [b4] at a4
  rw [b5] at a5
  rw [b6] at a6
  rw [b7] at a7
  rw [b8] at a8
  have BB0 := sqn9 (B : Int)
  generalize (B : Int) * (B : Int) = BB at *
  have Bm := bom1 (pgt P 0) (pgt P 1) (pgt K 0) (pgt K 1) (pgt K 2) (pgt K 3) (pgt K 4) (pgt K 5) (pgt K 6) (pgt K 7)
  have s0 := sqn9 (pgt P 0)
  have s1 := sqn9 (pgt P 1)
  have t0 := sqn9 (pgt K 0)
  have t1 := sqn9 (pgt K 1)
  have t2 := sqn9 (pgt K 2)
  have t3 := sqn9 (pgt K 3)
  have t4 := sqn9 (pgt K 4)
  have t5 := sqn9 (pgt K 5)
  have t6 := sqn9 (pgt K 6)
  have t7 := sqn9 (pgt K 7)
  have SP : ∃ SP, SP = (1 * (pgt P 0 * pgt P 0) + 1 * (pgt P 1 * pgt P 1)) := ⟨_, rfl⟩
  have SQ : ∃ SQ, SQ = (5040 * (pgt K 0 * pgt K 0) + 720 * (pgt K 1 * pgt K 1) + 240 * (pgt K 2 * pgt K 2) + 144 * (pgt K 3 * pgt K 3) + 144 * (pgt K 4 * pgt K 4) + 240 * (pgt K 5 * pgt K 5) + 720 * (pgt K 6 * pgt K 6) + 5040 * (pgt K 7 * pgt K 7)) := ⟨_, rfl⟩
  obtain ⟨SP, hSP⟩ := SP
  obtain ⟨SQ, hSQ⟩ := SQ
  rw [← hSP, ← hSQ] at Bm
  have B2 : SP * SQ ≤ 95616 * BB := by omega
  have pi : pgt P i * pgt P i ≤ SP := by
    match i with
    | 0 => omega
    | 1 => omega
    | i + 2 => rw [hP (i + 2) (by omega)]; omega
  have qj : pgt K j * pgt K j ≤ SQ := by
    match j with
    | 0 => omega
    | 1 => omega
    | 2 => omega
    | 3 => omega
    | 4 => omega
    | 5 => omega
    | 6 => omega
    | 7 => omega
    | j + 8 => rw [hK (j + 8) (by omega)]; omega
  have fin := mul_leB9 (sqn9 (pgt P i)) (sqn9 (pgt K j)) pi qj
  have ee : (pgt P i * pgt K j) * (pgt P i * pgt K j) = (pgt P i * pgt P i) * (pgt K j * pgt K j) := by grind
  rw [ee]
  exact Int.le_trans fin B2
theorem dbB2 {A P K : List Int} {B : Nat} (e : ∀ x : Rat, pev A x = pev P x * pev K x) (hA : pab A B) (hP : pdb P 3) (hK : pdb K 7) (i j : Nat) : (pgt P i * pgt K j) * (pgt P i * pgt K j) ≤ 95616 * ((B : Int) * (B : Int)) := by
  have eP : ∀ x : Rat, pev P x = pev [pgt P 0, pgt P 1, pgt P 2] x := fun x => pev_eq (fun k => by
    match k with
    | 0 => rfl
    | 1 => rfl
    | 2 => rfl
    | k + 3 => rw [hP (k + 3) (by omega)]; cases k <;> rfl) x
  have eK : ∀ x : Rat, pev K x = pev [pgt K 0, pgt K 1, pgt K 2, pgt K 3, pgt K 4, pgt K 5, pgt K 6] x := fun x => pev_eq (fun k => by
    match k with
    | 0 => rfl
    | 1 => rfl
    | 2 => rfl
    | 3 => rfl
    | 4 => rfl
    | 5 => rfl
    | 6 => rfl
    | k + 7 => rw [hK (k + 7) (by omega)]; cases k <;> rfl) x
  have b := bow2 (A := A) (fun x => by rw [e x, eP x, eK x])
  obtain ⟨b0, b1, b2, b3, b4, b5, b6, b7, b8⟩ := b
  have a0 := le_sqB (hA 0)
  have a1 := le_sqB (hA 1)
  have a2 := le_sqB (hA 2)
  have a3 := le_sqB (hA 3)
  have a4 := le_sqB (hA 4)
  have a5 := le_sqB (hA 5)
  have a6 := le_sqB (hA 6)
  have a7 := le_sqB (hA 7)
  have a8 := le_sqB (hA 8)
  rw [b0] at a0
  rw [b1] at a1
  rw [b2] at a2
  rw [b3] at a3
  rw [b4] at a4
  rw [b5] at a5
  rw [b6] at a6
  rw [b7] at a7
  rw [b8] at a8
  have BB0 := sqn9 (B : Int)
  generalize (B : Int) * (B : Int) = BB at *
  have Bm := bom2 (pgt P 0) (pgt P 1) (pgt P 2) (pgt K 0) (pgt K 1) (pgt K 2) (pgt K 3) (pgt K 4) (pgt K 5) (pgt K 6)
  have s0 := sqn9 (pgt P 0)
  have s1 := sqn9 (pgt P 1)
  have s2 := sqn9 (pgt P 2)
  have t0 := sqn9 (pgt K 0)
  have t1 := sqn9 (pgt K 1)
  have t2 := sqn9 (pgt K 2)
  have t3 := sqn9 (pgt K 3)
  have t4 := sqn9 (pgt K 4)
  have t5 := sqn9 (pgt K 5)
  have t6 := sqn9 (pgt K 6)
  have SP : ∃ SP, SP = (2 * (pgt P 0 * pgt P 0) + 1 * (pgt P 1 * pgt P 1) + 2 * (pgt P 2 * pgt P 2)) := ⟨_, rfl⟩
  have SQ : ∃ SQ, SQ = (720 * (pgt K 0 * pgt K 0) + 120 * (pgt K 1 * pgt K 1) + 48 * (pgt K 2 * pgt K 2) + 36 * (pgt K 3 * pgt K 3) + 48 * (pgt K 4 * pgt K 4) + 120 * (pgt K 5 * pgt K 5) + 720 * (pgt K 6 * pgt K 6)) := ⟨_, rfl⟩
  obtain ⟨SP, hSP⟩ := SP
  obtain ⟨SQ, hSQ⟩ := SQ
  rw [← hSP, ← hSQ] at Bm
  have B2 : SP * SQ ≤ 95616 * BB := by omega
  have pi : pgt P i * pgt P i ≤ SP := by
    match i with
    | 0 => omega
    | 1 => omega
    | 2 => omega
    | i + 3 => rw [hP (i + 3) (by omega)]; omega
  have qj : pgt K j * pgt K j ≤ SQ := by
    match j with
    | 0 => omega
    | 1 => omega
    | 2 => omega
    | 3 => omega
    | 4 => omega
    | 5 => omega
    | 6 => omega
    | j + 7 => rw [hK (j + 7) (by omega)]; omega
  have fin := mul_leB9 (sqn9 (pgt P i)) (sqn9 (pgt K j)) pi qj
  have ee : (pgt P i * pgt K j) * (pgt P i * pgt K j) = (pgt P i * pgt P i) * (pgt K j * pgt K j) := by grind
  rw [ee]
  exact Int.le_trans fin B2
theorem dbB3 {A P K : List Int} {B : Nat} (e : ∀ x : Rat, pev A x = pev P x * pev K x) (hA : pab A B) (hP : pdb P 4) (hK : pdb K 6) (i j : Nat) : (pgt P i * pgt K j) * (pgt P i * pgt K j) ≤ 95616 * ((B : Int) * (B : Int)) := by
  have eP : ∀ x : Rat, pev P x = pev [pgt P 0, pgt P 1, pgt P 2, pgt P 3] x := fun x => pev_eq (fun k => by
    match k with
    | 0 => rfl
    | 1 => rfl
    | 2 => rfl
    | 3 => rfl
    | k + 4 => rw [hP (k + 4) (by omega)]; cases k <;> rfl) x
  have eK : ∀ x : Rat, pev K x = pev [pgt K 0, pgt K 1, pgt K 2, pgt K 3, pgt K 4, pgt K 5] x := fun x => pev_eq (fun k => by
    match k with
    | 0 => rfl
    | 1 => rfl
    | 2 => rfl
    | 3 => rfl
    | 4 => rfl
    | 5 => rfl
    | k + 6 => rw [hK (k + 6) (by omega)]; cases k <;> rfl) x
  have b := bow3 (A := A) (fun x => by rw [e x, eP x, eK x])
  obtain ⟨b0, b1, b2, b3, b4, b5, b6, b7, b8⟩ := b
  have a0 := le_sqB (hA 0)
  have a1 := le_sqB (hA 1)
  have a2 := le_sqB (hA 2)
  have a3 := le_sqB (hA 3)
  have a4 := le_sqB (hA 4)
  have a5 := le_sqB (hA 5)
  have a6 := le_sqB (hA 6)
  have a7 := le_sqB (hA 7)
  have a8 := le_sqB (hA 8)
  rw [b0] at a0
  rw [b1] at a1
  rw [b2] at a2
  rw [b3] at a3
  rw [b4] at a4
  rw [b5] at a5
  rw [b6] at a6
  rw [b7] at a7
  rw [b8] at a8
  have BB0 := sqn9 (B : Int)
  generalize (B : Int) * (B : Int) = BB at *
  have Bm := bom3 (pgt P 0) (pgt P 1) (pgt P 2) (pgt P 3) (pgt K 0) (pgt K 1) (pgt K 2) (pgt K 3) (pgt K 4) (pgt K 5)
  have s0 := sqn9 (pgt P 0)
  have s1 := sqn9 (pgt P 1)
  have s2 := sqn9 (pgt P 2)
  have s3 := sqn9 (pgt P 3)
  have t0 := sqn9 (pgt K 0)
  have t1 := sqn9 (pgt K 1)
  have t2 := sqn9 (pgt K 2)
  have t3 := sqn9 (pgt K 3)
  have t4 := sqn9 (pgt K 4)
  have t5 := sqn9 (pgt K 5)
  have SP : ∃ SP, SP = (6 * (pgt P 0 * pgt P 0) + 2 * (pgt P 1 * pgt P 1) + 2 * (pgt P 2 * pgt P 2) + 6 * (pgt P 3 * pgt P 3)) := ⟨_, rfl⟩
  have SQ : ∃ SQ, SQ = (120 * (pgt K 0 * pgt K 0) + 24 * (pgt K 1 * pgt K 1) + 12 * (pgt K 2 * pgt K 2) + 12 * (pgt K 3 * pgt K 3) + 24 * (pgt K 4 * pgt K 4) + 120 * (pgt K 5 * pgt K 5)) := ⟨_, rfl⟩
  obtain ⟨SP, hSP⟩ := SP
  obtain ⟨SQ, hSQ⟩ := SQ
  rw [← hSP, ← hSQ] at Bm
  have B2 : SP * SQ ≤ 95616 * BB := by omega
  have pi : pgt P i * pgt P i ≤ SP := by
    match i with
    | 0 => omega
    | 1 => omega
    | 2 => omega
    | 3 => omega
    | i + 4 => rw [hP (i + 4) (by omega)]; omega
  have qj : pgt K j * pgt K j ≤ SQ := by
    match j with
    | 0 => omega
    | 1 => omega
    | 2 => omega
    | 3 => omega
    | 4 => omega
    | 5 => omega
    | j + 6 => rw [hK (j + 6) (by omega)]; omega
  have fin := mul_leB9 (sqn9 (pgt P i)) (sqn9 (pgt K j)) pi qj
  have ee : (pgt P i * pgt K j) * (pgt P i * pgt K j) = (pgt P i * pgt P i) * (pgt K j * pgt K j) := by grind
  rw [ee]
  exact Int.le_trans fin B2
theorem dbB4 {A P K : List Int} {B : Nat} (e : ∀ x : Rat, pev A x = pev P x * pev K x) (hA : pab A B) (hP : pdb P 5) (hK : pdb K 5) (i j : Nat) : (pgt P i * pgt K j) * (pgt P i * pgt K j) ≤ 95616 * ((B : Int) * (B : Int)) := by
  have eP : ∀ x : Rat, pev P x = pev [pgt P 0, pgt P 1, pgt P 2, pgt P 3, pgt P 4] x := fun x => pev_eq (fun k => by
    match k with
    | 0 => rfl
    | 1 => rfl
    | 2 => rfl
    | 3 => rfl
    | 4 => rfl
    | k + 5 => rw [hP (k + 5) (by omega)]; cases k <;> rfl) x
  have eK : ∀ x : Rat, pev K x = pev [pgt K 0, pgt K 1, pgt K 2, pgt K 3, pgt K 4] x := fun x => pev_eq (fun k => by
    match k with
    | 0 => rfl
    | 1 => rfl
    | 2 => rfl
    | 3 => rfl
    | 4 => rfl
    | k + 5 => rw [hK (k + 5) (by omega)]; cases k <;> rfl) x
  have b := bow4 (A := A) (fun x => by rw [e x, eP x, eK x])
  obtain ⟨b0, b1, b2, b3, b4, b5, b6, b7, b8⟩ := b
  have a0 := le_sqB (hA 0)
  have a1 := le_sqB (hA 1)
  have a2 := le_sqB (hA 2)
  have a3 := le_sqB (hA 3)
  have a4 := le_sqB (hA 4)
  have a5 := le_sqB (hA 5)
  have a6 := le_sqB (hA 6)
  have a7 := le_sqB (hA 7)
  have a8 := le_sqB (hA 8)
  rw [b0] at a0
  rw [b1] at a1
  rw [b2] at a2
  rw [b3] at a3
  rw [b4] at a4
  rw [b5] at a5
  rw [b6] at a6
  rw [b7] at a7
  rw [b8] at a8
  have BB0 := sqn9 (B : Int)
  generalize (B : Int) * (B : Int) = BB at *
  have Bm := bom4 (pgt P 0) (pgt P 1) (pgt P 2) (pgt P 3) (pgt P 4) (pgt K 0) (pgt K 1) (pgt K 2) (pgt K 3) (pgt K 4)
  have s0 := sqn9 (pgt P 0)
  have s1 := sqn9 (pgt P 1)
  have s2 := sqn9 (pgt P 2)
  have s3 := sqn9 (pgt P 3)
  have s4 := sqn9 (pgt P 4)
  have t0 := sqn9 (pgt K 0)
  have t1 := sqn9 (pgt K 1)
  have t2 := sqn9 (pgt K 2)
  have t3 := sqn9 (pgt K 3)
  have t4 := sqn9 (pgt K 4)
  have SP : ∃ SP, SP = (24 * (pgt P 0 * pgt P 0) + 6 * (pgt P 1 * pgt P 1) + 4 * (pgt P 2 * pgt P 2) + 6 * (pgt P 3 * pgt P 3) + 24 * (pgt P 4 * pgt P 4)) := ⟨_, rfl⟩
  have SQ : ∃ SQ, SQ = (24 * (pgt K 0 * pgt K 0) + 6 * (pgt K 1 * pgt K 1) + 4 * (pgt K 2 * pgt K 2) + 6 * (pgt K 3 * pgt K 3) + 24 * (pgt K 4 * pgt K 4)) := ⟨_, rfl⟩
  obtain ⟨SP, hSP⟩ := SP
  obtain ⟨SQ, hSQ⟩ := SQ
  rw [← hSP, ← hSQ] at Bm
  have B2 : SP * SQ ≤ 95616 * BB := by omega
  have pi : pgt P i * pgt P i ≤ SP := by
    match i with
    | 0 => omega
    | 1 => omega
    | 2 => omega
    | 3 => omega
    | 4 => omega
    | i + 5 => rw [hP (i + 5) (by omega)]; omega
  have qj : pgt K j * pgt K j ≤ SQ := by
    match j with
    | 0 => omega
    | 1 => omega
    | 2 => omega
    | 3 => omega
    | 4 => omega
    | j + 5 => rw [hK (j + 5) (by omega)]; omega
  have fin := mul_leB9 (sqn9 (pgt P i)) (sqn9 (pgt K j)) pi qj
  have ee : (pgt P i * pgt K j) * (pgt P i * pgt K j) = (pgt P i * pgt P i) * (pgt K j * pgt K j) := by grind
  rw [ee]
  exact Int.le_trans fin B2
theorem dbdB {A P K : List Int} {B m n : Nat} (e : ∀ x : Rat, pev A x = pev P x * pev K x) (hA : pab A B) (hP : pdb P (m + 1)) (hK : pdb K (n + 1)) (mn : m + n ≤ 8) (i j : Nat) : (pgt P i * pgt K j) * (pgt P i * pgt K j) ≤ 95616 * ((B : Int) * (B : Int)) := by
  have sw : ∀ x : Rat, pev A x = pev K x * pev P x := fun x => by rw [e x]; grind
  have cm : (pgt P i * pgt K j) * (pgt P i * pgt K j) = (pgt K j * pgt P i) * (pgt K j * pgt P i) := by grind
  by_cases c : m ≤ 4
  · match m, c with
    | 0, _ => exact dbB0 e hA hP (pdb_mono hK (by omega)) i j
    | 1, _ => exact dbB1 e hA hP (pdb_mono hK (by omega)) i j
    | 2, _ => exact dbB2 e hA hP (pdb_mono hK (by omega)) i j
    | 3, _ => exact dbB3 e hA hP (pdb_mono hK (by omega)) i j
    | 4, _ => exact dbB4 e hA hP (pdb_mono hK (by omega)) i j
  · rw [cm]
    match n, (show n ≤ 3 by omega) with
    | 0, _ => exact dbB0 sw hA hK (pdb_mono hP (by omega)) j i
    | 1, _ => exact dbB1 sw hA hK (pdb_mono hP (by omega)) j i
    | 2, _ => exact dbB2 sw hA hK (pdb_mono hP (by omega)) j i
    | 3, _ => exact dbB3 sw hA hK (pdb_mono hP (by omega)) j i
theorem sq_leB {x : Int} {B : Nat} (h : x * x ≤ 95616 * ((B : Int) * (B : Int))) : x.natAbs ≤ 310 * B := by
  refine Nat.not_lt.1 fun c => ?_
  have e : x * x = ((x.natAbs * x.natAbs : Nat) : Int) := by rw [Int.natCast_mul]; exact (Int.natAbs_mul_self' x).symm
  have m := Nat.mul_le_mul c c
  rw [e, ← Int.natCast_mul] at h
  have e2 : (310 * B).succ * (310 * B).succ = 96100 * (B * B) + 620 * B + 1 := by grind
  rw [e2] at m
  generalize B * B = X at *
  generalize x.natAbs * x.natAbs = Y at *
  omega
theorem dbd_B {A P K : List Int} {B m n : Nat} (e : ∀ x : Rat, pev A x = pev P x * pev K x) (hA : pab A B) (hP : pdb P (m + 1)) (hK : pdb K (n + 1)) (mn : m + n ≤ 8) (i j : Nat) : (pgt P i * pgt K j).natAbs ≤ 310 * B := sq_leB (dbdB e hA hP hK mn i j)
