/-! THE PARTER AT A NODE, a step to the right -/
def msc (u : Int) (m : List Int) : List Int := m.map (u * ·)
theorem msc_gt (u : Int) : ∀ (m : List Int) (k : Nat), pgt (msc u m) k = u * pgt m k
  | [], k => by show (0 : Int) = u * 0; omega
  | a :: p, 0 => rfl
  | a :: p, k + 1 => msc_gt u p k
theorem msc_len (u : Int) (m : List Int) : (msc u m).length = m.length := List.length_map ..
theorem msc_ev (u : Int) (m : List Int) (x : Rat) : pev (msc u m) x = u * pev m x := by
  rw [pev_csc (msc_gt u m)]
/-- all rows at all nodes, times u, are at most X -/
def nbd (D : Nat) (a : List Int) (u : Int) (X : Nat) : Prop := ∀ (t : Nat) (c : Int), t ≤ D → -(2 ^ t) ≤ c → c ≤ 2 ^ t → pab (msc u (nM a t c)) X
def xok (X d : Nat) : Prop := ((X * ffl d d : Nat) : Int) < BB
theorem xok_0 {X d : Nat} (h : xok X d) : (X : Int) < BB := by
  have a := ffl_pos d d (by omega)
  have : X * 1 ≤ X * ffl d d := Nat.mul_le_mul_left _ a
  unfold xok at h
  omega
/-- the Parter stands at node (t, c) -/
def pns (s : im_S) (a : List Int) (u : Int) (d t : Nat) (c st : Int) : Prop := s.1 267 4 = (d : Int) ∧ s.1 267 5 = st + t ∧ big s 306 c ∧ bgs s 270 d (msc u (nM a t c))
theorem one308 {s : im_S} (h : oI s) : big s 308 1 := by
  obtain ⟨⟨h1, h2, h3⟩, _⟩ := h
  refine ⟨1, h1, ?_, h2, ?_, fun _ => ?_⟩
  · show (1 : Int) ≤ gln 309
    have : gln 309 = 2 := by decide +kernel
    omega
  · show bv (s.2 309) 1 = 1
    simp [bv, h3]
  · show (4294967296 : Int) ^ 0 ≤ _
    decide
theorem p2le {t : Nat} (h : t ≤ 300) : (2 : Int) ^ t ≤ 2 ^ 300 := by
  have e : (2 : Int) ^ 300 = 2 ^ t * 2 ^ (300 - t) := by rw [← Int.pow_add]; congr 1; omega
  rw [e]
  have a := p2p t
  have b := p2p (300 - t)
  have : (2 : Int) ^ t * 1 ≤ 2 ^ t * 2 ^ (300 - t) := Int.mul_le_mul_of_nonneg_left (by omega) (by omega)
  omega
theorem c24 {t : Nat} {c : Int} (h : t ≤ 300) (h1 : -(2 ^ t) ≤ c) (h2 : c ≤ 2 ^ t) : (c.natAbs : Int) * 4 + 4 < 4294967296 ^ 24 := by
  have a := p2le h
  have b : (2 : Int) ^ 300 * 4 + 4 < 4294967296 ^ 24 := by decide +kernel
  generalize (2 : Int) ^ 300 = Z at a b
  generalize (4294967296 : Int) ^ 24 = Y at b
  omega
theorem stepOn_b {s : im_S} {a : List Int} {u c st : Int} {d t D X : Nat} {Q : Int → im_S → Prop} (ha : a.length = d + 1) (d8 : d ≤ 8) (hp : pns s a u d t c st) (ho : big s 308 1) (hn : nbd D a u X) (hx : xok X d) (tD : t ≤ D) (D3 : D ≤ 300) (c1 : -(2 ^ t) ≤ c) (c2 : c < 2 ^ t) (s1 : -100 ≤ st) (s2 : st ≤ 100) (hQ : ∀ s' t' c', pns s' a u d t' c' st → t' ≤ t → c' * 2 ^ (t - t') = c + 1 → (t' = 0 ∨ c' % 2 = 1) → -(2 ^ t') ≤ c' → c' ≤ 2 ^ t' → LSv a t' c' = LSv a t (c + 1) → PCv D a t' c' = PCv D a t (c + 1) → cnf s s' → Q (if t' = 0 ∧ 0 < c' then 0 else 1) s') : C_stepOn5 st s Q := by
  obtain ⟨hd, hb, hc, hm⟩ := hp
  have nb := hn t c tD c1 (by omega)
  refine moveBy_b (Or.inl rfl) hd d8 (by rw [msc_len, nM_len]; exact ha) hm nb hx (fun s1 m1 hm1 lm1 ev1 f1 => ?_)
  have em : m1 = msc u (nM a t (c + 1)) := lst_ev (by rw [lm1, msc_len, nM_len, ha]) (fun z => by
    rw [ev1 z, msc_ev, msc_ev, ← nM_S a t c c1 c2, pS_ev, rat_i1, Rat.add_comm z 1])
  subst em
  have hc1 : big s1 306 c := big_g hc f1 (by omega) (by omega) (by omega)
  have ho1 : big s1 308 1 := big_g ho f1 (by omega) (by omega) (by omega)
  have cb := c24 (by omega) c1 (Int.le_of_lt c2)
  refine add_b hc1 ho1 (by decide) (by rw [gln306]; decide) (Or.inl rfl) (by rw [rm306]; show (c.natAbs : Int) + 1 < _; omega) (fun s2 hc2 f2 => ?_)
  have ec : c + 1 * 1 = c + 1 := by omega
  rw [ec] at hc2
  have g2 : cnf s s2 := cnf_c (mvf_cnf f1) f2
  refine ⟨fun s' => ∃ (t' : Nat) (c' : Int), pns s' a u d t' c' st ∧ t' ≤ t ∧ c' * 2 ^ (t - t') = c + 1 ∧ -(2 ^ t') ≤ c' ∧ c' ≤ 2 ^ t' ∧ LSv a t' c' = LSv a t (c + 1) ∧ PCv D a t' c' = PCv D a t (c + 1) ∧ cnf s s', ⟨t, c + 1, ⟨?_, ?_, hc2, fun i hi => big_fr (hm1 i hi) f2 (by omega)⟩, Nat.le_refl _, by rw [Nat.sub_self]; show (c + 1) * 1 = _; omega, by omega, by omega, rfl, rfl, g2⟩, ?_⟩
  · rw [f2.1 _ _ (by omega), f1.1 _ _ (by omega)]; exact hd
  · rw [f2.1 _ _ (by omega), f1.1 _ _ (by omega)]; exact hb
  rintro s3 ⟨t3, c3, ⟨hd3, hb3, hc3, hm3⟩, tt, pos, b1, b2, eL, eP, g3⟩
  have done : (t3 = 0 ∨ c3 % 2 = 1) → C_stepOn5_91 st s3 Q := by
    intro od v ev
    have q := hQ s3 t3 c3 ⟨hd3, hb3, hc3, hm3⟩ tt pos od b1 b2 eL eP g3
    have e : v = if t3 = 0 ∧ 0 < c3 then 0 else 1 := by
      rw [ev, show cgf s3 267 5 = _ from hb3, show cgf s3 306 2 = c3.sign from big_mk hc3]
      by_cases z : t3 = 0
      · rw [if_neg (by omega)]
        by_cases y : 0 < c3
        · rw [if_pos (Int.sign_pos_iff.2 y), if_pos ⟨z, y⟩]
        · rw [if_neg (fun w => y (Int.sign_pos_iff.1 w)), if_neg (fun w => y w.2)]
      · rw [if_pos (by omega), if_neg (fun w => z w.1)]
    rw [e]; exact q
  refine ⟨fun z => done (Or.inl ?_), fun z => ?_⟩
  · rw [show cgf s3 267 5 = _ from hb3] at z; omega
  · rw [show cgf s3 267 5 = _ from hb3] at z
    refine isEven_b hc3 ⟨fun w => done (Or.inr ?_), fun w => ?_⟩
    · by_cases y : c3 % 2 = 0
      · rw [if_pos y] at w; omega
      · omega
    · have ev : c3 % 2 = 0 := Classical.byContradiction fun y => w (if_neg y)
      obtain ⟨k, hk⟩ : ∃ k, c3 = 2 * k := ⟨c3 / 2, by omega⟩
      subst hk
      obtain ⟨n, hn'⟩ : ∃ n, t3 = n + 1 := ⟨t3 - 1, by omega⟩
      subst hn'
      have bk1 : -(2 ^ n) ≤ k := by rw [p2s] at b1; omega
      have bk2 : k ≤ 2 ^ n := by rw [p2s] at b2; omega
      have lg : (nM a n k).length = d + 1 := by rw [nM_len]; exact ha
      have co : ∀ i, i ≤ d → pgt (msc u (nM a (n + 1) (2 * k))) i = 2 ^ (d - i) * pgt (msc u (nM a n k)) i := fun i hi => by
        rw [msc_gt, msc_gt, nM_e, pH_gt _ i (by omega), lg, show d + 1 - 1 - i = d - i by omega]; grind
      refine ⟨fun b => ∃ i : Nat, b.1 = (i : Int) ∧ i ≤ d ∧ mvf s3 b.2 ∧ (∀ j, j < i → big b.2 (270 + 4 * j) (pgt (msc u (nM a n k)) j)) ∧ ∀ j, i ≤ j → j ≤ d → big b.2 (270 + 4 * j) (pgt (msc u (nM a (n + 1) (2 * k))) j), ⟨0, rfl, by omega, gfr_refl _ _ _, fun j hj => by omega, fun j _ hj => hm3 j hj⟩, ?_⟩
      rintro ⟨x, s4⟩ ⟨i, ei, id, f4, h1, h2⟩
      dsimp only at ei f4 h1 h2 ⊢
      subst ei
      have hd4 : cgf s4 267 4 = (d : Int) := by show s4.1 267 4 = _; rw [f4.1 _ _ (by omega)]; exact hd3
      unfold C_stepOn5_41
      rw [hd4]
      refine ⟨fun q => ?_, fun q => ?_⟩
      · have : i = d := by omega
        subst this
        have hc4 : big s4 306 (2 * k) := big_g hc3 f4 (by omega) (by omega) (by omega)
        refine shiftDown_b hc4 (by decide) (by rw [gln306]; decide) (fun s5 hc5 f5 s6 e6 => ?_)
        have ek : (2 * k).tdiv (2 ^ (1 : Int).toNat) = k := by
          show (2 * k).tdiv 2 = k
          exact Int.mul_tdiv_cancel_left _ (by decide)
        rw [ek] at hc5
        have e5 : cgf s5 267 5 = st + ((n + 1 : Nat) : Int) := by show s5.1 267 5 = _; rw [f5.1 _ _ (by omega), f4.1 _ _ (by omega)]; exact hb3
        rw [e5, w32_id (by omega) (by omega)] at e6
        have g5 : cnf s s5 := gfr_trans g3 (cnf_c (mvf_cnf f4) f5)
        subst e6
        refine ⟨n, k, ⟨?_, ?_, ?_, fun j hj => ?_⟩, by omega, ?_, bk1, bk2, by rw [← LSv_e]; exact eL, by rw [← PCv_e]; exact eP, gfr_pf g5 (by omega)⟩
        · rw [cpf_ne (by omega), f5.1 _ _ (by omega)]; exact hd4
        · rw [cpf_same]; omega
        · exact big_co hc5 (cpf_ne (by omega)) (cpf_ne (by omega)) rfl
        · refine big_co (s := s5) ?_ (cpf_ne (by omega)) (cpf_ne (by omega)) rfl
          refine big_fr ?_ f5 (by omega)
          by_cases cj : j = i
          · subst cj
            have := h2 j (Nat.le_refl _) hj
            rw [co j hj, Nat.sub_self] at this
            rw [show pgt (msc u (nM a n k)) j = 2 ^ 0 * pgt (msc u (nM a n k)) j by omega]
            exact this
          · exact h1 j (by omega)
        · rw [← pos, show t - n = (t - (n + 1)) + 1 by omega, p2s]; grind
      · have ew : w32 ((d : Int) - (i : Int)) = ((d - i : Nat) : Int) := by rw [w32_id (by omega) (by omega)]; omega
        rw [ew, Int.toNat_natCast]
        have g := (gln_mv i (by omega)).1
        refine shiftDown_b (h2 i (Nat.le_refl _) (by omega)) (by omega) (by omega) (fun s5 b5 f5 => ⟨i + 1, w32s (by omega), by omega, mvf_b f4 (by omega) f5, fun j hj => ?_, fun j j1 j2 => ?_⟩)
        · by_cases cj : j = i
          · subst cj
            rw [co j (by omega), Int.toNat_natCast, Int.mul_tdiv_cancel_left _ (Int.ne_of_gt (p2p _))] at b5
            exact b5
          · exact big_fr (h1 j (by omega)) f5 (by omega)
        · exact big_fr (h2 j (by omega) j2) f5 (by omega)
