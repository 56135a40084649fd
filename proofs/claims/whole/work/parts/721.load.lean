/-! load -/
def clf (s s' : im_S) : Prop := ∀ c f : Nat, c < 582 → s'.1 c f = s.1 c f ∧ s'.2 c f = s.2 c f
theorem clf_rfl {s : im_S} : clf s s := fun _ _ _ => ⟨rfl, rfl⟩
theorem clf_tr {s s1 s2 : im_S} (h1 : clf s s1) (h2 : clf s1 s2) : clf s s2 := fun c f q => ⟨(h2 c f q).1.trans (h1 c f q).1, (h2 c f q).2.trans (h1 c f q).2⟩
theorem rfq_clf {s s' : im_S} (h : rfq s s') : clf s s' := fun c f q => ⟨h.1 c f (by first | omega | (dsimp only; omega)), h.2 c f (by first | omega | (dsimp only; omega)) (by first | omega | (dsimp only; omega))⟩
theorem fa_clf {s s' : im_S} (h : fa s s') : clf s s' := fun c f q => ⟨h.1 c f (by first | omega | (dsimp only; omega)), h.2 c f (by first | omega | (dsimp only; omega))⟩
theorem fw_clf {fs rs : List Nat} {s s' : im_S} (h : fw fs rs s s') (hr : ∀ c, c ∈ rs → 582 ≤ c) : clf s s' := fun c f q => ⟨h.1 c f (fun z => by first | omega | (dsimp only; omega)), h.2 c f (fun z => by have := hr c z; omega)⟩
theorem load_q {s : im_S} {Q : Int → im_S → Prop} (h1 : 0 ≤ wgf s 1 ∧ wgf s 1 ≤ 400) (hQ : ∀ (v : Int) (s' : im_S), wgf s' 1 = 0 → rd s' → clf s s' → Q v s') : W_load s Q := by
  unfold W_load
  intro s1 e1 s2 e2 s3 e3 s4 e4
  have x1 : wgf s4 1 = wgf s 1 := by rw [e4, wf_ne (by first | decide | omega | (dsimp only; omega) | (dsimp only; decide)), e3, wf_ne (by first | decide | omega | (dsimp only; omega) | (dsimp only; decide)), e2, wf_ne (by first | decide | omega | (dsimp only; omega) | (dsimp only; decide)), e1, wf_ne (by first | decide | omega | (dsimp only; omega) | (dsimp only; decide))]
  have x4 : wgf s4 4 = 0 := by rw [e4, wf_ne (by first | decide | omega | (dsimp only; omega) | (dsimp only; decide)), e3, wf_same]
  have x5 : wgf s4 5 = 0 := by rw [e4, wf_same]
  have m4 : fw [1, 2, 3, 4, 5, 6, 10, 12, 21] tR s s4 := by rw [e4, e3, e2, e1]; exact fw_pf (fw_pf (fw_pf (fw_pf fw_rfl (by first | decide | omega | (dsimp only; omega) | (dsimp only; decide))) (by first | decide | omega | (dsimp only; omega) | (dsimp only; decide))) (by first | decide | omega | (dsimp only; omega) | (dsimp only; decide))) (by first | decide | omega | (dsimp only; omega) | (dsimp only; decide))
  have rge : ∀ c, c ∈ tR → 582 ≤ c := fun c hc => by simp at hc; omega
  refine readText_ok (by unfold atR; first | omega | (dsimp only; omega)) (fun s5 a1 a2 a3 a4 s6 e6 => ?_)
  have m6 : fw [1, 2, 3, 4, 5, 6, 10, 12, 21] tR s s6 := by rw [e6]; exact fw_pf (fw_tr m4 (fw_mono a1 (by simp) (fun c h => h))) (by first | decide | omega | (dsimp only; omega) | (dsimp only; decide))
  have y1 : wgf s6 1 = 0 := by rw [e6, wf_same]
  have y2 : wgf s6 2 = wgf s5 2 := by rw [e6, wf_ne (by first | decide | omega | (dsimp only; omega) | (dsimp only; decide))]
  have y5 : wgf s6 5 = 0 := by rw [e6, wf_ne (by first | decide | omega | (dsimp only; omega) | (dsimp only; decide)), fw_f a1 5 (by first | decide | omega | (dsimp only; omega) | (dsimp only; decide))]; exact x5
  have y6 : wgf s6 6 = wgf s5 6 := by rw [e6, wf_ne (by first | decide | omega | (dsimp only; omega) | (dsimp only; decide))]
  have y10 : wgf s6 10 = wgf s5 10 := by rw [e6, wf_ne (by first | decide | omega | (dsimp only; omega) | (dsimp only; decide))]
  refine good_ok (fun g => ⟨fun _ s7 e7 => ?_, fun c => absurd c (by first | decide | omega | (dsimp only; omega) | (dsimp only; decide))⟩) (fun g => ⟨fun c => absurd rfl c, fun _ => hQ _ s6 y1 (Or.inl y5) (fw_clf m6 rge)⟩)
  have m7 : fw [1, 2, 3, 4, 5, 6, 10, 12, 21] tR s s7 := by rw [e7]; exact fw_pf m6 (by first | decide | omega | (dsimp only; omega) | (dsimp only; decide))
  have z1 : wgf s7 1 = 0 := by rw [e7, wf_ne (by first | decide | omega | (dsimp only; omega) | (dsimp only; decide))]; exact y1
  have z6 : wgf s7 6 = wgf s5 6 := by rw [e7, wf_ne (by first | decide | omega | (dsimp only; omega) | (dsimp only; decide))]; exact y6
  have z10 : wgf s7 10 = wgf s5 10 := by rw [e7, wf_ne (by first | decide | omega | (dsimp only; omega) | (dsimp only; decide))]; exact y10
  have r : ∀ (c : Nat) (i : Int), wga s7 c i = wga s5 c i := fun c i => by rw [e7, wg_pf, e6, wg_pf]
  obtain ⟨b1, mk, b2, b3⟩ := a4 (by first | omega | (dsimp only; omega))
  refine findAll_ok (m := mk) (by first | omega | (dsimp only; omega)) (fun i hi => ?_) (by first | omega | (dsimp only; omega)) (mok_co (fun i _ => r _ _) b3) (fun s8 n nb f F lo hi c1 c2 => hQ 0 s8 ?_ (Or.inr ⟨n, nb, f, F, lo, hi, c2⟩) (clf_tr (fw_clf m7 rge) (fa_clf c1)))
  · rw [r]
    have := b1 (i : Int) (by first | omega | (dsimp only; omega)) (by first | omega | (dsimp only; omega))
    unfold fn9 at this
    exact this
  · rw [fa_f c1 1 (by first | decide | omega | (dsimp only; omega) | (dsimp only; decide))]; exact z1
