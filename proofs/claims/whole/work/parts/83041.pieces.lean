/-! ALL PIECES SOLVED: the roots are the turns of the pieces, each with its owner -/
def rdt (s : im_S) (j o : Nat) (P : List Int) (c0 : Rat → Int) : Prop := (∃ a q : Int, rF s j o a q ∧ c0 ((a : Rat) / q) = 0) ∨ rN9 s j o P c0
/-- done are the pieces below e and those from n0 on -/
def RTP (s : im_S) (N e n0 n : Nat) (p : Nat → List Int) (cs : Nat → Rat → Int) : Prop := (∀ j, j < N → cut (cs j) ∧ ∃ o, o < n ∧ (o < e ∨ n0 ≤ o) ∧ s.1 (311 + 3 * j) 0 = (o : Int) ∧ rtc (p o) (cs j) ∧ rdt s j o (p o) (cs j)) ∧ (∀ o, o < n → (o < e ∨ n0 ≤ o) → ∀ c : Rat → Int, cut c → rtc (p o) c → ∃ j, j < N ∧ s.1 (311 + 3 * j) 0 = (o : Int) ∧ c = cs j) ∧ ∀ i j, i < j → j < N → s.1 (311 + 3 * i) 0 = s.1 (311 + 3 * j) 0 → lft9 (cs i) (cs j)
theorem rN9_co {F : Nat → Nat → Prop} {R : Nat → Prop} {s s' : im_S} {j e : Nat} {P : List Int} {c0 : Rat → Int} (h : rN9 s j e P c0) (f : gfr F R s s') (h1 : ∀ k, k < 10 → ¬ F (311 + 3 * j) k) (h2 : ∀ k, ¬ F (311 + 3 * j + 1) k) (h3 : ¬ R (311 + 3 * j + 1 + 1)) : rN9 s' j e P c0 := by
  obtain ⟨a, c, b, t, b1, b2, b3, b4, b5⟩ := h
  exact ⟨rN_co a f (fun k hk => h1 k (by omega)) h2 h3, c, b, t, rst_co b1 f (h1 7 (by omega)) (h2 1) (h2 2) h3, b2, b3, b4, by rw [f.1 _ _ (h1 9 (by omega))]; exact b5⟩
theorem rdt_co {F : Nat → Nat → Prop} {R : Nat → Prop} {s s' : im_S} {j o : Nat} {P : List Int} {c0 : Rat → Int} (h : rdt s j o P c0) (f : gfr F R s s') (h1 : ∀ k, k < 10 → ¬ F (311 + 3 * j) k) (h2 : ∀ k, ¬ F (311 + 3 * j + 1) k) (h3 : ¬ R (311 + 3 * j + 1 + 1)) : rdt s' j o P c0 := by
  rcases h with ⟨a, q, h, z⟩ | h
  · exact Or.inl ⟨a, q, rF_co h f (fun k hk => h1 k (by omega)), z⟩
  · exact Or.inr (rN9_co h f h1 h2 h3)
theorem sl_n {N m j k : Nat} (h : j < N) (hN : N ≤ 80) : ¬ slF N m (311 + 3 * j) k := by unfold slF; omega
theorem sl_n1 {N m j k : Nat} (h : j < N) (hN : N ≤ 80) : ¬ slF N m (311 + 3 * j + 1) k := by unfold slF; omega
theorem sl_n2 {N m j : Nat} (h : j < N) (hN : N ≤ 80) : ¬ slR N m (311 + 3 * j + 1 + 1) := by unfold slR; omega
theorem RTP_step {s s' : im_S} {N m e n0 n n3 mm : Nat} {D : Int} {p p3 : Nat → List Int} {M M3 : Nat → Nat → Nat} {cs cs' : Nat → Rat → Int} (hN : N + m ≤ 80) (he : e < n0) (n0n : n0 ≤ n) (h : RTP s N e n0 n p cs) (sol : SOL s' N m e n mm D p M cs' n3 p3 M3) (ht : ∀ k, k < m → cut (cs' k) ∧ rtc (p e) (cs' k)) (hr : ∀ i j, i < j → j < m → lft9 (cs' i) (cs' j)) (ha : ∀ c : Rat → Int, cut c → rtc (p e) c → ∃ k, k < m ∧ c = cs' k) (f : slf N m s s') : RTP s' (N + m) (e + 1) n0 n3 p3 (fun j => if j < N then cs j else cs' (j - N)) := by
  obtain ⟨h1, h2, h3⟩ := h
  obtain ⟨B3, F3, S3, _, r3, N3, _⟩ := sol
  obtain ⟨nn, pk, _, _, tb⟩ := S3
  have own : ∀ j, j < N → s'.1 (311 + 3 * j) 0 = s.1 (311 + 3 * j) 0 := fun j hj => f.1 _ _ (sl_n hj (by omega))
  have co : ∀ j, j < N → (fun j => if j < N then cs j else cs' (j - N)) j = cs j := fun j hj => if_pos hj
  have cn : ∀ k, (fun j => if j < N then cs j else cs' (j - N)) (N + k) = cs' k := fun k => by
    show (if N + k < N then cs (N + k) else cs' (N + k - N)) = cs' k
    rw [if_neg (by omega), Nat.add_sub_cancel_left]
  -- the new roots, one by one
  have new : ∀ k, k < m → ∃ o, o < n3 ∧ (o = e ∨ n ≤ o) ∧ s'.1 (311 + 3 * (N + k)) 0 = (o : Int) ∧ rtc (p3 o) (cs' k) ∧ rdt s' (N + k) o (p3 o) (cs' k) := fun k hk => by
    rcases r3 k hk with ⟨o, a, q, b1, b2, b3, b4, b5, _⟩ | w
    · refine ⟨o, b1, b2, b3.2.2.2.2.2.1, ?_, Or.inl ⟨a, q, b3, b4⟩⟩
      have t := rtc_qs (F3.1 o b1).2.2.1 b5
      rw [← show cs' k = qct ((a : Rat) / q) from funext (cut_q (ht k hk).1 b4)] at t
      exact t
    · have w' := w
      obtain ⟨⟨_, a2, _, ⟨_, ct, _⟩, _⟩, _⟩ := w
      exact ⟨e, by omega, Or.inl rfl, a2, ct, Or.inr w'⟩
  refine ⟨fun j hj => ?_, fun o ho hd c cc ct => ?_, fun i j ij jm hij => ?_⟩
  · by_cases c : j < N
    · rw [co j c]
      obtain ⟨c1, o, o1, o2, o3, o4, o5⟩ := h1 j c
      have po : p3 o = p o := by
        by_cases on : o < n
        · exact pk o on (by omega)
        · omega
      exact ⟨c1, o, by omega, by omega, by rw [own j c]; exact o3, by rw [po]; exact o4, by rw [po]; exact rdt_co o5 f (fun _ _ => sl_n c (by omega)) (fun _ => sl_n1 c (by omega)) (sl_n2 c (by omega))⟩
    · obtain ⟨k, hk⟩ : ∃ k, j = N + k := ⟨j - N, by omega⟩
      subst hk
      rw [cn k]
      obtain ⟨o, o1, o2, o3, o4, o5⟩ := new k (by omega)
      exact ⟨(ht k (by omega)).1, o, o1, by omega, o3, o4, o5⟩
  · by_cases on : o < n
    · by_cases oe : o = e
      · subst oe
        obtain ⟨k, hk, ek⟩ := ha c cc (tb c cc ct)
        refine ⟨N + k, by omega, ?_, by rw [cn k]; exact ek⟩
        obtain ⟨o', o1, o2, o3, o4, _⟩ := new k hk
        by_cases z : o' = o
        · rw [← z]; exact o3
        · exfalso
          rw [ek] at ct
          exact rtc_cop (ht k hk).1 (F3.2.1 o' o o1 ho z) o4 ct
      · have po : p3 o = p o := pk o on oe
        rw [po] at ct
        obtain ⟨j, j1, j2, j3⟩ := h2 o on (by omega) c cc ct
        exact ⟨j, by omega, by rw [own j j1]; exact j2, by rw [co j j1]; exact j3⟩
    · obtain ⟨k, a, q, k1, k2, k3⟩ := N3 o (by omega) ho
      refine ⟨N + k, by omega, k2.2.2.2.2.2.1, ?_⟩
      rw [cn k]
      have q0 : 0 < q := by have := k2.2.2.2.2.2.2.1; omega
      have qr : (0 : Rat) < q := Rat.intCast_pos.2 q0
      have qx : (q : Rat) * ((a : Rat) / q) = a := by
        have := Rat.div_mul_cancel (a := (a : Rat)) (b := (q : Rat)) (by grind)
        grind
      rw [k3] at ct
      have z := lin_turn q0 qx cc ct
      rcases r3 k k1 with ⟨o', a', q', _, _, b3, b4, _⟩ | w
      · have ea : a' = a := by rw [← b3.2.1, k2.2.1]
        have eq : q' = q := by rw [← b3.2.2.1, k2.2.2.1]
        rw [ea, eq] at b4
        exact cut_same cc (ht k k1).1 z b4
      · have w1 := w.1.1
        have w2 := k2.1
        omega
  · by_cases cj : j < N
    · rw [co i (by omega), co j cj]
      exact h3 i j ij cj (by rw [← own i (by omega), ← own j cj]; exact hij)
    · obtain ⟨k, hk⟩ : ∃ k, j = N + k := ⟨j - N, by omega⟩
      subst hk
      obtain ⟨o, o1, o2, o3, _⟩ := new k (by omega)
      by_cases ci : i < N
      · exfalso
        obtain ⟨_, o', u1, u2, u3, _⟩ := h1 i ci
        rw [own i ci, u3, o3] at hij
        omega
      · obtain ⟨l, hl⟩ : ∃ l, i = N + l := ⟨i - N, by omega⟩
        subst hl
        rw [cn l, cn k]
        exact hr l k (by omega) (by omega)
theorem pieces_v {s : im_S} {n mm : Nat} {p : Nat → List Int} {M : Nat → Nat → Nat} {Q : Int → im_S → Prop} (hB : BI s n 80) (hF : BF s n p M mm) (hf : s.1 83 3 = 0) (hk : kp1 s) (hQ : ∀ (s1 : im_S) (N n1 : Nat) (p1 : Nat → List Int) (M1 : Nat → Nat → Nat) (cs : Nat → Rat → Int), BI s1 n1 80 → BF s1 n1 p1 M1 mm → N ≤ 80 → s1.1 83 3 = (N : Int) → RTP s1 N n n n1 p1 cs → (∀ (i : Nat) (x : Rat), PRd p1 (fun o => M1 o i) x n1 = PRd p (fun o => M o i) x n) → kp1 s1 → upf s s1 → (s1.1 247 3 = s.1 247 3 ∧ s1.1 247 4 = s.1 247 4) → ∀ s10, s10 = cpf s1 1 4 0 → ploop (fun (K : Int × im_S → Prop) (a : Int × im_S) => C_load9x_164 K a.1 a.2 Q) (0, s10)) : ploop (fun (K : Int × im_S → Prop) (a : Int × im_S) => C_load9x_135 K (cgf s 84 2) a.1 a.2 Q) (0, s) := by
  have n80 := hB.2.1
  rw [show cgf s 84 2 = (n : Int) from hB.1]
  refine ⟨fun a => ∃ (e n1 N : Nat) (p1 : Nat → List Int) (M1 : Nat → Nat → Nat) (cs : Nat → Rat → Int), a.1 = (e : Int) ∧ e ≤ n ∧ n ≤ n1 ∧ BI a.2 n1 80 ∧ BF a.2 n1 p1 M1 mm ∧ a.2.1 83 3 = (N : Int) ∧ (N : Int) ≤ dsp s e ∧ (∀ e', e ≤ e' → e' < n → p1 e' = p e') ∧ RTP a.2 N e n n1 p1 cs ∧ (∀ (i : Nat) (x : Rat), PRd p1 (fun o => M1 o i) x n1 = PRd p (fun o => M o i) x n) ∧ kp1 a.2 ∧ upf s a.2 ∧ (a.2.1 247 3 = s.1 247 3 ∧ a.2.1 247 4 = s.1 247 4), ⟨0, n, 0, p, M, fun _ _ => 0, rfl, by omega, Nat.le_refl _, hB, hF, hf, Int.le_refl _, fun _ _ _ => rfl, ⟨fun j hj => by omega, fun o h1 h2 => by omega, fun i j h1 h2 => by omega⟩, fun _ _ => rfl, hk, gfr_refl _ _ _, rfl, rfl⟩, ?_⟩
  rintro ⟨x, s1⟩ ⟨e, n1, N, p1, M1, cs, ex, en, nn, B1, F1, f1, fd, pk, R1, pr1, k1, u1, v1, v2⟩
  dsimp only at ex B1 F1 f1 fd R1 k1 u1 v1 v2 ⊢
  subst ex
  have dn := dsp_le hB.2.2.1 n (Nat.le_refl _)
  have d80 := hB.2.2.2.1
  refine ⟨fun c s2 e2 => ?_, fun c => ?_⟩
  · have ee : e = n := by omega
    subst ee
    have f80 : N ≤ 80 := by have := dn e en; omega
    exact hQ s1 N n1 p1 M1 cs B1 F1 f80 f1 R1 pr1 k1 u1 ⟨v1, v2⟩ s2 e2
  · have en' : e < n := by omega
    have q4 := (F1.1 e (by omega)).1
    rw [pk e (Nat.le_refl _) en'] at q4
    have q1 := (hF.1 e en').1
    obtain ⟨_, _, _, q3⟩ := hB.2.2.1 e en'
    have dd : s1.1 (86 + 2 * e) 0 = s.1 (86 + 2 * e) 0 := dgo_u q4.2 q1.2
    obtain ⟨d, hd⟩ : ∃ d : Nat, s.1 (86 + 2 * e) 0 = (d : Int) := ⟨(s.1 (86 + 2 * e) 0).toNat, by omega⟩
    have de : dsp s (e + 1) = dsp s e + d := by show dsp s e + _ = _; rw [hd]
    have d1 := dn (e + 1) (by omega)
    refine solve_v B1 F1 (by omega) (by omega) (dd.trans hd) f1 (by omega) k1.2.1 k1.2.2.1 k1.2.2.2 (fun s2 n2 p2 M2 m cs2 md sol ht hr ha g2 => ?_)
    have N80 : N + m ≤ 80 := by omega
    have R2 := RTP_step N80 en' nn R1 sol ht hr ha g2
    obtain ⟨B2, F2, ⟨s21, s22, _, s24, _⟩, fq2, _, _, f2⟩ := sol
    refine ⟨e + 1, n2, N + m, p2, M2, _, w32s (by omega), by omega, by omega, B2, F2, f2, by omega, fun e' h3 h4 => by rw [s22 e' (by omega) (by omega)]; exact pk e' (by omega) h4, R2, fun i x => by rw [s24 i x]; exact pr1 i x, ?_, ?_, by dsimp only; rw [g2.1 _ _ (by unfold slF; omega)]; exact v1, by dsimp only; rw [g2.1 _ _ (by unfold slF; omega)]; exact v2⟩
    · exact kp1_fq k1 fq2 g2 (fun c k e => by unfold slF at e; omega) (fun c e => by unfold slR at e; omega) (fun k => by unfold slF; omega) (fun k => by unfold slF; omega) (by unfold slR; omega) (by unfold slR; omega)
    · exact gfr_trans u1 (gfr_mono g2 (fun c k e => by unfold slF at e; omega) (fun c e => by unfold slR at e; omega))
