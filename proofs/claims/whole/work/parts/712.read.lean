/-! THE READER OF THE REFERENCE, by value -/
def fw (fs rs : List Nat) (s s' : im_S) : Prop := (∀ c f : Nat, ¬ (c = 582 ∧ f ∈ fs) → s'.1 c f = s.1 c f) ∧ ∀ c i : Nat, c ∉ rs → s'.2 c i = s.2 c i
theorem fw_rfl {fs rs : List Nat} {s : im_S} : fw fs rs s s := ⟨fun _ _ _ => rfl, fun _ _ _ => rfl⟩
theorem fw_tr {fs rs : List Nat} {s s1 s2 : im_S} (h1 : fw fs rs s s1) (h2 : fw fs rs s1 s2) : fw fs rs s s2 := ⟨fun c f q => (h2.1 c f q).trans (h1.1 c f q), fun c i q => (h2.2 c i q).trans (h1.2 c i q)⟩
theorem fw_mono {fs rs fs' rs' : List Nat} {s s' : im_S} (h : fw fs rs s s') (h1 : ∀ f, f ∈ fs → f ∈ fs') (h2 : ∀ c, c ∈ rs → c ∈ rs') : fw fs' rs' s s' := ⟨fun c f q => h.1 c f (fun z => q ⟨z.1, h1 f z.2⟩), fun c i q => h.2 c i (fun z => q (h2 c z))⟩
theorem fw_pf {fs rs : List Nat} {s s' : im_S} {f : Nat} {x : Int} (h : fw fs rs s s') (hf : f ∈ fs) : fw fs rs s (wpf s' f x) := ⟨fun c g q => (show im_up s'.1 582 f x c g = s.1 c g from (im_up_ne (fun z => q ⟨z.1, by rw [z.2]; exact hf⟩)).trans (h.1 c g q)), h.2⟩
theorem fw_pa {fs rs : List Nat} {s s' : im_S} {c : Nat} {i x : Int} (h : fw fs rs s s') (hc : c ∈ rs) : fw fs rs s (wpa s' c i x) := ⟨h.1, fun d j q => (show im_up s'.2 c i.toNat x d j = s.2 d j from (im_up_ne (fun z => q (by rw [z.1]; exact hc))).trans (h.2 d j q))⟩
theorem fw_f {fs rs : List Nat} {s s' : im_S} (h : fw fs rs s s') (f : Nat) (hf : f ∉ fs) : wgf s' f = wgf s f := h.1 582 f (fun z => hf z.2)
theorem fw_r {fs rs : List Nat} {s s' : im_S} (h : fw fs rs s s') (c : Nat) (i : Int) (hc : c ∉ rs) : wga s' c i = wga s c i := h.2 c i.toNat hc
/-- where the reader stands -/
def atR (s : im_S) : Prop := 0 ≤ wgf s 4 ∧ wgf s 4 ≤ wgf s 1 ∧ wgf s 1 ≤ 400
theorem good_ok {s : im_S} {Q : Int → im_S → Prop} (h1 : wgf s 2 = 0 → Q 1 s) (h0 : wgf s 2 ≠ 0 → Q 0 s) : W_good s Q := by
  unfold W_good
  intro v hv
  rw [hv]
  split
  · exact h0 (by assumption)
  · exact h1 (by first | omega | (dsimp only; omega))
theorem fail_ok {s : im_S} {w p : Int} {Q : im_S → Prop} (hw : w ≠ 0) (hQ : ∀ s' : im_S, fw [2, 3] [] s s' → wgf s' 2 ≠ 0 → Q s') : W_fail w p s Q := by
  unfold W_fail W_fail_17
  refine ⟨fun c => hQ s fw_rfl c, fun _ s1 e1 s2 e2 => hQ s2 ?_ ?_⟩
  · rw [e2, e1]; exact fw_pf (fw_pf fw_rfl (by first | decide | omega | (dsimp only; omega) | (dsimp only; decide))) (by first | decide | omega | (dsimp only; omega) | (dsimp only; decide))
  · rw [e2, e1, wf_ne (by first | decide | omega | (dsimp only; omega) | (dsimp only; decide)), wf_same]; exact hw
theorem peek_ok {s : im_S} {Q : Int → im_S → Prop} (ha : atR s) (hQ : ∀ (v : Int) (s' : im_S), fw [4] [] s s' → atR s' → wgf s 4 ≤ wgf s' 4 → (v ≠ -1 → wgf s' 4 < wgf s' 1 ∧ v = wga s 583 (wgf s' 4)) → Q v s') : W_peek s Q := by
  unfold W_peek
  refine ⟨fun a => fw [4] [] s a ∧ atR a ∧ wgf s 4 ≤ wgf a 4, fun a => (400 - wgf a 4).toNat, ⟨fw_rfl, ha, Int.le_refl _⟩, ?_⟩
  rintro s2 ⟨i1, i2, i3⟩
  have e1 := fw_f i1 1 (by first | decide | omega | (dsimp only; omega) | (dsimp only; decide))
  unfold atR at i2
  have fin : W_peek_38 s2 Q := by
    unfold W_peek_38
    refine ⟨fun _ => by first | omega | (dsimp only; omega), fun v hv => hQ v s2 i1 i2 i3 (fun hne => ?_)⟩
    split at hv
    · exact absurd hv hne
    · exact ⟨by first | omega | (dsimp only; omega), by rw [hv, fw_r i1 _ _ (by first | decide | omega | (dsimp only; omega) | (dsimp only; decide))]⟩
  unfold W_peek_0
  refine ⟨fun _ => fin, fun c => ⟨by first | omega | (dsimp only; omega), fun _ => fin, fun _ => ⟨by unfold iR; first | omega | (dsimp only; omega), fun s3 e3 => ?_⟩⟩⟩
  have x4 : wgf s3 4 = wgf s2 4 + 1 := by rw [e3]; exact wf_same
  have x1 : wgf s3 1 = wgf s2 1 := by rw [e3]; exact wf_ne (by first | decide | omega | (dsimp only; omega) | (dsimp only; decide))
  exact ⟨⟨by rw [e3]; exact fw_pf i1 (by first | decide | omega | (dsimp only; omega) | (dsimp only; decide)), by unfold atR; first | omega | (dsimp only; omega), by first | omega | (dsimp only; omega)⟩, by first | omega | (dsimp only; omega)⟩
theorem isDigit_ok {c : Int} {s : im_S} {Q : Int → im_S → Prop} (h1 : 48 ≤ c → c ≤ 57 → Q 1 s) (h0 : ¬ (48 ≤ c ∧ c ≤ 57) → Q 0 s) : W_isDigit c s Q := by
  unfold W_isDigit
  intro v hv
  rw [hv]
  split
  · exact h0 (by first | omega | (dsimp only; omega))
  · split
    · exact h0 (by first | omega | (dsimp only; omega))
    · exact h1 (by first | omega | (dsimp only; omega)) (by first | omega | (dsimp only; omega))
theorem isToken_ok {c : Int} {s : im_S} {Q : Int → im_S → Prop} (h : ∀ v : Int, Q v s) : W_isToken c s Q := by
  unfold W_isToken W_isToken_97 W_isToken_102
  refine isDigit_ok (fun _ _ => ⟨fun _ => h _, fun c => absurd c (by first | decide | omega | (dsimp only; omega) | (dsimp only; decide))⟩) (fun _ => ⟨fun c => absurd rfl c, fun _ => ?_⟩)
  exact ⟨fun _ => h _, fun _ => ⟨fun _ => h _, fun _ => ⟨fun _ => h _, fun _ => ⟨fun _ => h _, fun _ => ⟨fun _ => h _, fun _ => ⟨fun _ => h _, fun _ => ⟨fun _ => h _, fun _ => ⟨fun _ => h _, fun _ v _ => h v⟩⟩⟩⟩⟩⟩⟩⟩
theorem cannot_ok {s : im_S} {Q : im_S → Prop} (ha : atR s) (hQ : ∀ s' : im_S, fw [2, 3, 4] [] s s' → atR s' → wgf s 4 ≤ wgf s' 4 → wgf s' 2 ≠ 0 → Q s') : W_cannot s Q := by
  unfold W_cannot W_cannot_23
  refine peek_ok ha (fun v s1 a1 a2 a3 _ => ?_)
  have m1 : fw [2, 3, 4] [] s s1 := fw_mono a1 (by simp) (by simp)
  have fin : ∀ w : Int, w ≠ 0 → W_fail w (wgf s1 4) s1 (fun s2 => Q s2) := fun w hw => fail_ok hw (fun s2 b1 b2 => by
    have x4 := fw_f b1 4 (by first | decide | omega | (dsimp only; omega) | (dsimp only; decide))
    have x1 := fw_f b1 1 (by first | decide | omega | (dsimp only; omega) | (dsimp only; decide))
    unfold atR at a2
    exact hQ s2 (fw_tr m1 (fw_mono b1 (by simp) (by simp))) (by unfold atR; first | omega | (dsimp only; omega)) (by first | omega | (dsimp only; omega)) b2)
  refine ⟨fun _ => fin 2 (by first | decide | omega | (dsimp only; omega) | (dsimp only; decide)), fun _ => isToken_ok (fun t w hw => fin w ?_)⟩
  split at hw <;> omega
theorem look_ok {s : im_S} {Q : im_S → Prop} (ha : atR s) (hQ : ∀ s' : im_S, fw [2, 3, 4] [] s s' → atR s' → wgf s 4 ≤ wgf s' 4 → (wgf s' 2 = 0 → wgf s 2 = 0) → Q s') : W_look s Q := by
  unfold W_look W_look_26
  refine peek_ok ha (fun v s1 a1 a2 a3 _ => ?_)
  have m1 : fw [2, 3, 4] [] s s1 := fw_mono a1 (by simp) (by simp)
  have x2 := fw_f a1 2 (by first | decide | omega | (dsimp only; omega) | (dsimp only; decide))
  have fin : Q s1 := hQ s1 m1 a2 a3 (fun z => by first | omega | (dsimp only; omega))
  refine ⟨fun _ => fin, fun _ => isToken_ok (fun t => ⟨fun _ => fin, fun _ => fail_ok (by first | decide | omega | (dsimp only; omega) | (dsimp only; decide)) (fun s2 b1 b2 => ?_)⟩)⟩
  have x4 := fw_f b1 4 (by first | decide | omega | (dsimp only; omega) | (dsimp only; decide))
  have x1 := fw_f b1 1 (by first | decide | omega | (dsimp only; omega) | (dsimp only; decide))
  unfold atR at a2
  exact hQ s2 (fw_tr m1 (fw_mono b1 (by simp) (by simp))) (by unfold atR; first | omega | (dsimp only; omega)) (by first | omega | (dsimp only; omega)) (fun z => absurd z b2)
theorem number_ok {s : im_S} {Q : Int → im_S → Prop} (ha : atR s) (hQ : ∀ (v : Int) (s' : im_S), fw [2, 3, 4] [] s s' → atR s' → wgf s 4 ≤ wgf s' 4 → 0 ≤ v ∧ v ≤ 999999 → (wgf s' 2 = 0 → wgf s 2 = 0) → (wgf s 2 = 0 → wgf s 4 < wgf s 1 → 48 ≤ wga s 583 (wgf s 4) → wga s 583 (wgf s 4) ≤ 57 → wgf s 4 < wgf s' 4) → Q v s') : W_number s Q := by
  unfold W_number
  refine ⟨fun a => fw [2, 3, 4] [] s a.2.2 ∧ atR a.2.2 ∧ ∃ n : Nat, a.2.1 = n ∧ n ≤ 7 ∧ (n ≤ 6 → wgf a.2.2 4 = wgf s 4 + n ∧ wgf a.2.2 2 = wgf s 2) ∧ (n = 7 → wgf a.2.2 4 = wgf s 4 + 6 ∧ wgf a.2.2 2 ≠ 0) ∧ 0 ≤ a.1 ∧ a.1 < 10 ^ (min n 6), fun a => (7 - a.2.1).toNat, ⟨fw_rfl, ha, 0, rfl, by first | decide | omega | (dsimp only; omega) | (dsimp only; decide), fun _ => ⟨(Int.add_zero _).symm, rfl⟩, fun c => absurd c (by first | decide | omega | (dsimp only; omega) | (dsimp only; decide)), by first | decide | omega | (dsimp only; omega) | (dsimp only; decide), by first | decide | omega | (dsimp only; omega) | (dsimp only; decide)⟩, ?_⟩
  rintro ⟨l1, l2, s2⟩ ⟨i1, i2, n, i3, i4, i5, i6, i7, i8⟩
  dsimp only at i1 i2 i3 i5 i6 i7 i8 ⊢
  subst i3
  have x1 := fw_f i1 1 (by first | decide | omega | (dsimp only; omega) | (dsimp only; decide))
  have a2 := i2
  unfold atR at a2
  have big : l1 ≤ 999999 := by
    have e0 : ((10 ^ (min n 6) : Nat) : Int) = (10 : Int) ^ (min n 6) := by rw [Int.natCast_pow]; rfl
    have : 10 ^ (min n 6) ≤ 10 ^ 6 := Nat.pow_le_pow_right (by decide) (by omega)
    have e : (10 : Int) ^ 6 = 1000000 := by first | decide | omega | (dsimp only; omega) | (dsimp only; decide)
    omega
  have z2 : wgf s2 2 = 0 → wgf s 2 = 0 := fun z => by
    by_cases c : n = 7
    · exact absurd z (i6 c).2
    · have := (i5 (by first | omega | (dsimp only; omega))).2
      omega
  have fin : (n = 0 → ¬ (wgf s 2 = 0 ∧ wgf s 4 < wgf s 1 ∧ 48 ≤ wga s 583 (wgf s 4) ∧ wga s 583 (wgf s 4) ≤ 57)) → Q l1 s2 := fun h0 => by
    refine hQ l1 s2 i1 i2 ?_ ⟨i7, big⟩ z2 (fun b1 b2 b3 b4 => ?_)
    · by_cases c : n = 7
      · have := (i6 c).1
        omega
      · have := (i5 (by first | omega | (dsimp only; omega))).1
        omega
    · by_cases c : n = 7
      · have := (i6 c).1
        omega
      · have := (i5 (by first | omega | (dsimp only; omega))).1
        by_cases c0 : n = 0
        · exact absurd ⟨b1, b2, b3, b4⟩ (h0 c0)
        · omega
  have t583 : wga s2 583 (wgf s2 4) = wga s 583 (wgf s2 4) := fw_r i1 _ _ (by first | decide | omega | (dsimp only; omega) | (dsimp only; decide))
  have at0 : n = 0 → wgf s2 4 = wgf s 4 := fun c => by have := (i5 (by first | omega | (dsimp only; omega))).1; omega
  unfold W_number_4 W_number_89
  refine ⟨fun c => fin (fun c0 w => by have := at0 c0; omega), fun c => ⟨by first | omega | (dsimp only; omega), isDigit_ok (fun d1 d2 => ⟨fun c => absurd c (by first | decide | omega | (dsimp only; omega) | (dsimp only; decide)), fun _ => good_ok (fun g => ⟨fun c => absurd c (by first | decide | omega | (dsimp only; omega) | (dsimp only; decide)), fun _ => ?_⟩) (fun g => ⟨fun _ => fin (fun c0 w => ?_), fun c => absurd rfl c⟩)⟩) (fun d => ⟨fun _ => fin (fun c0 w => ?_), fun c => absurd rfl c⟩)⟩⟩
  · have n7 : n ≤ 6 := by
      refine Nat.le_of_not_lt fun w => (i6 (by first | omega | (dsimp only; omega))).2 g
    obtain ⟨p1, p2⟩ := i5 n7
    refine ⟨by unfold iR; first | omega | (dsimp only; omega), fun c7 => ⟨by unfold iR; first | omega | (dsimp only; omega), by first | omega | (dsimp only; omega), by unfold iR; first | omega | (dsimp only; omega), by unfold iR; first | omega | (dsimp only; omega), by unfold iR; first | omega | (dsimp only; omega), fun s3 e3 => ?_⟩, fun c7 => fail_ok (by first | decide | omega | (dsimp only; omega) | (dsimp only; decide)) (fun s3 b1 b2 => ?_)⟩
    · have y4 : wgf s3 4 = wgf s2 4 + 1 := by rw [e3]; exact wf_same
      have y1 : wgf s3 1 = wgf s2 1 := by rw [e3]; exact wf_ne (by first | decide | omega | (dsimp only; omega) | (dsimp only; decide))
      have y2 : wgf s3 2 = wgf s2 2 := by rw [e3]; exact wf_ne (by first | decide | omega | (dsimp only; omega) | (dsimp only; decide))
      refine ⟨⟨by dsimp only; rw [e3]; exact fw_pf i1 (by first | decide | omega | (dsimp only; omega) | (dsimp only; decide)), by unfold atR; first | omega | (dsimp only; omega), n + 1, by first | omega | (dsimp only; omega), by first | omega | (dsimp only; omega), fun _ => by first | omega | (dsimp only; omega), fun c => by first | omega | (dsimp only; omega), by first | omega | (dsimp only; omega), ?_⟩, by first | omega | (dsimp only; omega)⟩
      dsimp only
      rw [show min (n + 1) 6 = n + 1 by first | omega | (dsimp only; omega), Int.pow_succ]
      rw [show min n 6 = n by first | omega | (dsimp only; omega)] at i8
      omega
    · have y4 := fw_f b1 4 (by first | decide | omega | (dsimp only; omega) | (dsimp only; decide))
      have y1 := fw_f b1 1 (by first | decide | omega | (dsimp only; omega) | (dsimp only; decide))
      refine ⟨⟨fw_tr i1 (fw_mono b1 (by simp) (by simp)), by unfold atR; first | omega | (dsimp only; omega), n + 1, by first | omega | (dsimp only; omega), by first | omega | (dsimp only; omega), fun c => by first | omega | (dsimp only; omega), fun c => by dsimp only; exact ⟨by first | omega | (dsimp only; omega), b2⟩, i7, ?_⟩, by first | omega | (dsimp only; omega)⟩
      dsimp only
      rw [show min (n + 1) 6 = 6 by first | omega | (dsimp only; omega)]
      rw [show min n 6 = 6 by first | omega | (dsimp only; omega)] at i8
      exact i8
  · have p := (i5 (by first | omega | (dsimp only; omega))).2
    omega
  · have := at0 c0
    rw [t583, this] at d
    omega
