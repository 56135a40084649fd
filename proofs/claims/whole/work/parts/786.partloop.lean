/-! part, the loop -/
theorem pns_co {F : Nat → Nat → Prop} {R : Nat → Prop} {s s' : im_S} {a : List Int} {u c st : Int} {d t : Nat} (h : pns s a u d t c st) (d8 : d ≤ 8) (f : gfr F R s s') (h1 : ∀ k, ¬ F 267 k) (h2 : ∀ k, ¬ F 306 k) (h3 : ¬ R 307) (h4 : ∀ i k, i < 9 → ¬ F (270 + 4 * i) k) (h5 : ∀ i, i < 9 → ¬ R (270 + 4 * i + 1)) : pns s' a u d t c st := by
  obtain ⟨p1, p2, p3, p4⟩ := h
  exact ⟨by rw [f.1 _ _ (h1 4)]; exact p1, by rw [f.1 _ _ (h1 5)]; exact p2, big_g p3 f (h2 1) (h2 2) h3, fun i hi => big_g (p4 i hi) f (h4 i 1 (by omega)) (h4 i 2 (by omega)) (h5 i (by omega))⟩
theorem LSv_0 {P : List Int} {d t : Nat} {c st : Int} (hl : P.length = d + 2) (d8 : d + 1 ≤ 8) (h0 : pev P (xv c (st + t)) = 0) (b1 : -(2 ^ t) ≤ c) (b2 : c ≤ 2 ^ t) : ∃ (P' : List Int) (p q al be : Int), 0 < q ∧ Int.gcd p q = 1 ∧ (q : Rat) * xv c (st + t) = p ∧ (∀ x : Rat, pev P x = (q * x - p) * pev P' x) ∧ P'.length = d + 1 ∧ 0 < be ∧ Af P (d + 1) st = lml al be (Af P' d st) ∧ 2 ^ t * (al + be) + be * c = 0 ∧ LSv (Af P (d + 1) st) t c ≤ LSv (Af P' d st) t c := by
  obtain ⟨p, q, q0, hg, hz⟩ := xv_pq c (st + t)
  obtain ⟨P', e, el⟩ := lin_fac q0 hg hz h0 (by omega)
  have ev : ∀ x : Rat, pev P x = (q * x - p) * pev P' x := fun x => by
    rw [e, lml_ev, Rat.intCast_neg]; grind
  have l' : P'.length = d + 1 := by omega
  obtain ⟨al, be, b0, eA, hA⟩ := Af_lin (st := st) (d := d) q0 (by have := pdb_len P; rw [hl] at this; exact this) (by have := pdb_len P'; rw [l'] at this; exact this) ev
  have z := (hA ((c : Rat) / 2 ^ t)).2 (by rw [node_x]; exact hz)
  have z2 : 2 ^ t * (al + be) + be * c = 0 := by
    have tp := q2p t
    have : ((2 ^ t * (al + be) + be * c : Int) : Rat) = 0 := by
      rw [Rat.intCast_add, Rat.intCast_mul, Rat.intCast_mul, Rat.intCast_add, Rat.intCast_pow]
      have e2 : ((2 : Int) : Rat) = 2 := rfl
      rw [e2]
      have : (2 : Rat) ^ t * ((al : Rat) + be * ((c : Rat) / 2 ^ t + 1)) = 2 ^ t * 0 := by rw [z]
      grind
    exact Rat.intCast_inj.1 (this.trans rat_i0.symm)
  refine ⟨P', p, q, al, be, q0, hg, hz, ev, l', b0, eA, z2, ?_⟩
  rw [eA]
  exact LSv_drop (fun w => by have := Af_len P' d st; rw [w] at this; simp at this) b0 t c b1 b2 (by omega)
theorem part_b {s : im_S} {l1 from9 d0 : Nat} {P : List Int} {Q : Int → im_S → Prop} (hP : ply s l1 P) (hl1 : 86 ≤ l1) (hl2 : l1 < 246) (hd : s.1 l1 0 = (d0 : Int)) (hp : pat P) (ho : big s 308 1) (hf : from9 + d0 ≤ 80) (hQ : ∀ s' n, psp s' from9 n d0 (pmk (d0 + 1) (pgt P)) → ptf from9 n s s' → Q ((from9 + n : Nat) : Int) s') : C_part5 l1 (from9 : Int) s Q := by
  have d8 : d0 ≤ 8 := by have := hP.2.2.1; omega
  have hP1 : pdb P (d0 + 1) := by have := hP.2.2.2.1; rw [hd, show ((d0 : Int) + 1).toNat = d0 + 1 by omega] at this; exact this
  have L0 : pgt P d0 ≠ 0 := by have := hP.2.2.2.2 (by omega); rw [hd, Int.toNat_natCast] at this; exact this
  refine reach_b hP hd (pat_58 hp) (fun z z1 z2 hA hB => ?_)
  have ez : w32 (-z) = -z := w32_id (by omega) (by omega)
  rw [ez]
  obtain ⟨st, hst⟩ : ∃ st, st = -z := ⟨_, rfl⟩
  rw [← hst]
  have s1 : -30 ≤ st := by omega
  have s2 : st ≤ 32 := by omega
  have hA' : -st < 30 → ∀ i, 1 ≤ i → i ≤ d0 → rcA P d0 (-st) i := by rw [show -st = z by omega]; exact hA
  have hB' : 2 ≤ -st → rcB P d0 (-st) := by rw [show -st = z by omega]; exact hB
  have endne := B_end hP1 L0 hp s1 s2 hA'
  refine begin_b hP hd hl2 (pat_b hp) (by omega) s2 (fun s3 A pn3 lA eA f3 => ?_)
  obtain ⟨P0, hP0⟩ : ∃ P0, P0 = pmk (d0 + 1) (pgt P) := ⟨_, rfl⟩
  rw [← hP0] at hQ
  have gP0 : ∀ k, pgt P0 k = pgt P k := fun k => by rw [hP0]; exact pdb_tr hP1 k
  have eB : Bl P0 d0 st = Bl P d0 st := pmk_co (fun k _ => by rw [gP0])
  have eAf : A = Af P0 d0 st := lst_ev (by rw [lA, Af_len]) (fun y => by rw [eA, Af_ev, eB])
  subst eAf
  obtain ⟨D, hD⟩ : ∃ D, D = (256 - st).toNat := ⟨_, rfl⟩
  have D3 : D ≤ 286 := by omega
  have xo := xok_start hp d8 hP1 L0 s1 s2 hB'
  rw [← hD, ← eB] at xo
  have nb := nbd_0 (D := D) (Af_len P0 d0 st) (Bl_len P0 d0 st) (Af_ev P0 d0 st)
  have endx : pev P0 (wR st) ≠ 0 := by
    obtain ⟨ka, k0, hk⟩ := Bl_ev (st := st) hP1
    intro zz
    rw [hk 1, Rat.mul_one] at endne
    rw [pev_eq (R := P) gP0] at zz
    rw [zz, Rat.mul_zero] at endne
    exact endne rfl
  have lP0 : P0.length = d0 + 1 := by rw [hP0, pmk_len]
  have one3 : big s3 308 1 := big_g ho f3 (by omega) (by omega) (by omega)
  refine ⟨fun a => ∃ (n d t nl nd : Nat) (u c : Int) (X : Nat) (G : Nat → List Int) (Lf Rt : Nat → Rat), a.1 = ((from9 + n : Nat) : Int) ∧ a.2.1 = (nd : Int) ∧ PIV from9 d0 D P0 st s a.2.2 n d t nl nd u c X G Lf Rt, ⟨0, d0, 0, 0, 0, 1, -1, _, fun _ => P0, fun _ => 0, fun _ => 0, rfl, rfl, ⟨rfl, lP0, by rw [gP0]; exact L0, ⟨fun _ => 1, fun x => by rw [Rat.one_mul]⟩, Nat.le_refl _, pn3, by decide, nb, xo, Nat.zero_le _, by show -(1 : Int) ≤ -1; decide, by show (-1 : Int) < 1; decide, by omega, Nat.zero_le _, ?_, fun i hi => by omega, fun i j _ h => by omega, fun i hi => by omega, cnf_ptf f3, one3⟩⟩, ?_⟩
  · have := PNv_le (D := D) (Af_len P0 d0 st) d8 (t := 0) (c := -1) (by show -(1 : Int) ≤ -1; decide) (by show (-1 : Int) < 1; decide)
    show 0 + PNv D (Af P0 d0 st) 0 (-1) ≤ 2700 * (1 + d0 - d0)
    omega
  rintro ⟨x, y, s4⟩ ⟨n, d, t, nl, nd, u, c, X, G, Lf, Rt, ex, ey, V⟩
  dsimp only at ex ey V ⊢
  subst ex
  subst ey
  have dd := V.dd
  have d8' : d ≤ 8 := by omega
  have lG := V.len
  have hG : pdb (G n) (d + 1) := by have := pdb_len (G n); rw [lG] at this; exact this
  obtain ⟨pd, pb, pc, pm⟩ := V.pn
  have lA := Af_len (G n) d st
  have c1 := V.c1
  have c2 := V.c2
  have tD := V.tD
  have cn := V.cnt
  have cl := V.nls
  have nd1 : nd < 100000 := by
    have := V.nod
    have : 2700 * (1 + d0 - d) ≤ 2700 * 9 := Nat.mul_le_mul_left _ (by omega)
    omega
  have lsl := LSv_le lA d8' t c c1 (Int.le_of_lt c2)
  have cb : (c.natAbs : Int) ≤ 2 ^ (st + t + 32).toNat := by
    have : (2 : Int) ^ t ≤ 2 ^ (st + t + 32).toNat := p2mono (by omega)
    omega
  have m0 : cgf s4 (270 + 4 * (0 : Int).toNat) 2 = (u * pgt (nM (Af (G n) d st) t c) 0).sign := by
    have := big_mk (pm 0 (Nat.zero_le _))
    rw [msc_gt] at this
    exact this
  have u0 := V.u0
  have zero_iff : (u * pgt (nM (Af (G n) d st) t c) 0).sign = 0 ↔ pev (G n) (xv c (st + t)) = 0 := by
    rw [Int.sign_eq_zero_iff_zero, ← corner_0 hG c1 (Int.le_of_lt c2), Int.mul_eq_zero]
    constructor
    · intro h; rcases h with h | h
      · omega
      · exact h
    · intro h; exact Or.inr h
  have fin : pev (G n) (xv c (st + t)) ≠ 0 → Q ((from9 + n : Nat) : Int) s4 := fun h => hQ s4 n (PIV_fin V d8' h) V.fr
  refine ⟨fun h => by omega, fun _ => ⟨fun h => ?_, fun h => ⟨fun h80 => ?_, fun h80 => ⟨fun hne => ?_, fun hz => ?_⟩⟩⟩⟩
  · -- degree 0
    rw [show cgf s4 267 4 = (d : Int) from pd] at h
    have d00 : d = 0 := by omega
    subst d00
    refine fin (fun z => V.top ?_)
    rw [← pdb_ev hG] at z
    have z' : (pgt (G n) 0 : Rat) + xv c (st + t) * 0 = 0 := z
    have : ((pgt (G n) 0 : Int) : Rat) = 0 := by grind
    exact Rat.intCast_inj.1 (this.trans rat_i0.symm)
  · -- no room: only if nothing is wanting
    rw [gln310] at h80
    rw [show cgf s4 267 4 = (d : Int) from pd] at h
    refine fin (fun z => ?_)
    obtain ⟨d', hd'⟩ : ∃ d', d = d' + 1 := ⟨d - 1, by omega⟩
    subst hd'
    obtain ⟨P', p, q, al, be, q0, hg, hz, ev, l', b0, eA', z2, ls⟩ := LSv_0 lG d8' z c1 (Int.le_of_lt c2)
    have := LSv_le (Af_len P' d' st) (by omega) t c c1 (Int.le_of_lt c2)
    omega
  · -- an interval
    rw [gln310] at h80
    rw [show cgf s4 267 4 = (d : Int) from pd] at h
    rw [m0] at hne
    have curne : pev (G n) (xv c (st + t)) ≠ 0 := fun z => hne (zero_iff.2 z)
    have nbt := V.nb t c tD c1 (Int.le_of_lt c2)
    refine changes_b pd d8' (by rw [msc_len, nM_len]; exact lA) pm nbt V.xo (fun zc s5 hz0 hz1 hz2 f5 => ?_)
    have evN : pV (msc u (nM (Af (G n) d st) t c)) = vN (Af (G n) d st) t c := pV_sc u0 _
    rw [evN] at hz0 hz1 hz2
    have pn5 : pns s5 (Af (G n) d st) u d t c st := pns_co V.pn d8' f5 (fun k => by omega) (fun k => by omega) (by omega) (fun i k hi => by omega) (fun i hi => by omega)
    have one5 : big s5 308 1 := big_g V.one f5 (by omega) (by omega) (by omega)
    have fr5 : ptf from9 n s s5 := gfr_trans V.fr (tsf_ptf f5)
    have rts5 : ∀ i, i < n → ∀ cu, rfc s5 (from9 + i) (Lf i) (Rt i) (G n) (G i) (G (i + 1)) cu := fun i hi cu => rfc_cur (rfc_co (V.rts i hi) f5 (fun k => by omega) (fun k => by omega) (by omega)) (Or.inl curne)
    -- the step to the right, with what is known then
    have step : ∀ (s6 : im_S) (n' nl' : Nat) (G' : Nat → List Int) (Lf' Rt' : Nat → Rat), G' 0 = P0 → G' n' = G n → n' + d = d0 + nl' → nl' ≤ LSv (Af (G n) d st) t (c + 1) → pns s6 (Af (G n) d st) u d t c st → big s6 308 1 → ptf from9 n' s s6 → (∀ i, i < n' → rfc s6 (from9 + i) (Lf' i) (Rt' i) (G n) (G' i) (G' (i + 1)) (xv (c + 1) (st + t))) → (∀ i j, i < j → j < n' → Rt' i ≤ Lf' j) → (∀ i, i < n' → Rt' i ≤ xv (c + 1) (st + t)) → C_part5_133 (fun a => ∃ (n d t nl nd : Nat) (u c : Int) (X : Nat) (G : Nat → List Int) (Lf Rt : Nat → Rat), a.1 = ((from9 + n : Nat) : Int) ∧ a.2.1 = (nd : Int) ∧ PIV from9 d0 D P0 st s a.2.2 n d t nl nd u c X G Lf Rt) st ((from9 + n' : Nat) : Int) (nd : Int) s6 Q := by
      intro s6 n' nl' G' Lf' Rt' g0' gn' cn' cl' pn6 one6 fr6 rts6 od1 od2
      refine stepOn_b lA d8' pn6 one6 V.nb V.xo tD (by omega) c1 c2 (by omega) (by omega) (fun s7 t7 c7 pn7 t7t pos7 odd7 b71 b72 eL7 eP7 f7 => ?_)
      have cur7 : xv c7 (st + t7) = xv (c + 1) (st + t) := by
        rw [← pos7, ← xv_pow c7 (st + t7) (t - t7)]
        congr 1
        omega
      have one7 : big s7 308 1 := big_g one6 f7 (by omega) (by omega) (by omega)
      have rts7 : ∀ i, i < n' → rfc s7 (from9 + i) (Lf' i) (Rt' i) (G n) (G' i) (G' (i + 1)) (xv c7 (st + t7)) := fun i hi => by
        rw [cur7]
        exact rfc_co (rts6 i hi) f7 (fun k => by omega) (fun k => by omega) (by omega)
      have mk : c7 < 2 ^ t7 → nd + 1 + PNv D (Af (G n) d st) t7 c7 ≤ 2700 * (1 + d0 - d) → PIV from9 d0 D P0 st s s7 n' d t7 nl' (nd + 1) u c7 X G' Lf' Rt' := fun q1 q2 => by
        refine ⟨g0', by rw [gn']; exact lG, by rw [gn']; exact V.top, by rw [gn']; exact V.zz, dd, by rw [gn']; exact pn7, u0, by rw [gn']; exact V.nb, V.xo, by omega, b71, q1, cn', by rw [gn', eL7]; exact cl', by rw [gn']; exact q2, by rw [gn']; exact rts7, od1, fun i hi => by rw [cur7]; exact od2 i hi, gfr_trans fr6 (cnf_ptf f7), one7⟩
      by_cases fine : t7 = 0 ∧ 0 < c7
      · rw [if_pos fine]
        refine ⟨fun w => absurd rfl w, fun _ => ?_⟩
        have c71 : c7 = 1 := by
          have e : (2 : Int) ^ t7 = 1 := by rw [fine.1]; rfl
          omega
        have ne7 : pev (G n) (xv c7 (st + t7)) ≠ 0 := fun zz => by
          obtain ⟨Z, hZ⟩ := V.zz
          have : xv c7 (st + t7) = wR st := by
            rw [c71, fine.1, show st + ((0 : Nat) : Int) = st by omega]; rfl
          rw [this] at zz
          have := hZ (wR st)
          rw [zz, Rat.mul_zero] at this
          exact endx this
        -- the end: finish by hand
        have ls := LSv_le lA d8' t (c + 1) (by omega) (by omega)
        refine hQ s7 n' ⟨by omega, G', Lf', Rt', g0', fun i hi => ?_, od1⟩ (gfr_trans fr6 (cnf_ptf f7))
        obtain ⟨c', b', q1, q2, q3⟩ := rts7 i hi
        refine ⟨c', b', q1, q2, ?_⟩
        rw [gn']
        rcases q3 with q | ⟨w1, w2, w3, w4, w5⟩
        · exact Or.inl q
        · refine Or.inr ⟨w1, w2, w3, nr_end w4 ?_⟩
          rcases w5 with w | w
          · exact w
          · rw [w]; exact ne7
      · rw [if_neg fine]
        refine ⟨fun _ => ⟨n', d, t7, nl', nd + 1, u, c7, X, G', Lf', Rt', rfl, ?_, mk ?_ ?_⟩, fun w => by omega⟩
        · dsimp only; rw [w32_id (by omega) (by omega)]; omega
        · rcases odd7 with w | w
          · have : ¬ 0 < c7 := fun k => fine ⟨w, k⟩
            have := p2p t7
            omega
          · refine Int.lt_of_not_ge fun ge => ?_
            have e : c7 = 2 ^ t7 := by omega
            obtain ⟨k, hk⟩ : ∃ k, t7 = k + 1 ∨ t7 = 0 := ⟨t7 - 1, by omega⟩
            rcases hk with hk | hk
            · rw [hk, p2s] at e; omega
            · exact fine ⟨hk, by have := p2p t7; omega⟩
        · have nod := V.nod
          have e1 : PNv D (Af (G n) d st) t7 c7 = PCv D (Af (G n) d st) t7 c7 := by
            rcases odd7 with w | w
            · subst w
              have : c7 = -1 ∨ c7 = 0 := by
                have e : (2 : Int) ^ 0 = 1 := rfl
                rw [e] at b71
                have : ¬ 0 < c7 := fun k => fine ⟨rfl, k⟩
                omega
              exact PNv_zero D _ this
            · cases t7 with
              | zero =>
                have e : (2 : Int) ^ 0 = 1 := rfl
                rw [e] at b71 b72
                have : ¬ 0 < c7 := fun k => fine ⟨rfl, k⟩
                exact PNv_zero D _ (by omega)
              | succ k =>
                obtain ⟨m, hm⟩ : ∃ m, c7 = 2 * m + 1 := ⟨c7 / 2, by omega⟩
                rw [hm]
                exact PNv_odd D _ k m
          rw [e1, eP7]
          have : PNv D (Af (G n) d st) t c = 1 + (D - t) * vN (Af (G n) d st) t c + PCv D (Af (G n) d st) t (c + 1) := rfl
          omega
    have plain : vN (Af (G n) d st) t c = vN (Af (G n) d st) t c → ∀ z, z ≠ 1 → C_part5_108 (fun a => ∃ (n d t nl nd : Nat) (u c : Int) (X : Nat) (G : Nat → List Int) (Lf Rt : Nat → Rat), a.1 = ((from9 + n : Nat) : Int) ∧ a.2.1 = (nd : Int) ∧ PIV from9 d0 D P0 st s a.2.2 n d t nl nd u c X G Lf Rt) st ((from9 + n : Nat) : Int) (nd : Int) z s5 Q := by
      intro _ z hz
      refine ⟨fun _ => ?_, fun w => absurd w hz⟩
      have := LSv_step lA d8' t c c1 c2
      exact step s5 n nl G Lf Rt V.g0 rfl cn (by omega) pn5 one5 fr5 (fun i hi => rts5 i hi _) V.od1 (fun i hi => by
        have a := V.od2 i hi
        have b := xv_lt c (st + t)
        grind)
    refine ⟨fun zle => ?_, fun zgt => ⟨fun b256 => plain rfl zc (by omega), fun b256 => ?_⟩⟩
    · by_cases z1 : zc = 1
      · subst z1
        refine ⟨fun w => absurd rfl w, fun _ => ?_⟩
        have v1 := hz1 rfl
        obtain ⟨pd5, pb5, pc5, pm5⟩ := pn5
        rw [show cgf s5 267 5 = st + t from pb5, Int.toNat_natCast]
        have tb : st + t ≤ 256 := by omega
        refine start_b (by omega) pc5 cb (by omega) tb (fun s6 rt6 fr6 f6 => ?_)
        have pn6 : pns s6 (Af (G n) d st) u d t c st := pns_co ⟨pd5, pb5, pc5, pm5⟩ d8' f6 (fun k => by omega) (fun k => by omega) (by omega) (fun i k hi => by omega) (fun i hi => by omega)
        have ls := LSv_step lA d8' t c c1 c2
        have ew : w32 (((from9 + n : Nat) : Int) + 1) = ((from9 + (n + 1) : Nat) : Int) := by rw [w32_id (by omega) (by omega)]; omega
        rw [ew]
        obtain ⟨ka, k0, hk⟩ := Af_P (st := st) hG
        have nrn := nr_tr k0 (wR_pos st) hk (nr_node c1 (Int.le_of_lt c2) (fun z => curne ((corner_0 hG c1 (Int.le_of_lt c2)).1 z)) v1)
        rw [show (c : Rat) / 2 ^ t + 1 - 1 = (c : Rat) / 2 ^ t by grind, show ((c + 1 : Int) : Rat) / 2 ^ t + 1 - 1 = ((c + 1 : Int) : Rat) / 2 ^ t by grind, node_x, node_x] at nrn
        refine step s6 (n + 1) (nl + 1) (fun i => if i ≤ n then G i else G n) (fun i => if i < n then Lf i else xv c (st + t)) (fun i => if i < n then Rt i else xv (c + 1) (st + t)) (by rw [if_pos (Nat.zero_le _)]; exact V.g0) (by rw [if_neg (by omega)]) (by omega) (by omega) pn6 (big_g one5 f6 (by omega) (by omega) (by omega)) (gfr_trans (ptf_up fr5) (gfr_mono f6 (fun x f e => by unfold rof; omega) (fun x e => by unfold ror; omega))) (fun i hi => ?_) (fun i j ij jn => ?_) (fun i hi => ?_)
        · by_cases ci : i < n
          · have := rfc_co (rts5 i ci (xv (c + 1) (st + t))) f6 (fun k => by omega) (fun k => by omega) (by omega)
            rw [if_pos ci, if_pos ci, if_pos (by omega), if_pos (by omega)]
            exact this
          · have e : i = n := by omega
            subst e
            rw [if_neg ci, if_neg ci, if_pos (Nat.le_refl _), if_neg (by omega)]
            exact ⟨c, st + t, rt6, rfl, Or.inr ⟨fr6, rfl, fun x => rfl, nrn, Or.inr rfl⟩⟩
        · rw [if_pos (by omega)]
          by_cases cj : j < n
          · rw [if_pos cj]; exact V.od1 i j ij cj
          · rw [if_neg cj]; exact V.od2 i (by omega)
        · by_cases ci : i < n
          · rw [if_pos ci]
            have a := V.od2 i ci
            have b := xv_lt c (st + t)
            grind
          · rw [if_neg ci]; grind
      · exact plain rfl zc z1
    · -- halve
      obtain ⟨pd5, pb5, pc5, pm5⟩ := pn5
      rw [show cgf s5 267 5 = st + t from pb5] at b256
      have v2 := hz2 (by omega)
      have tD' : t + 1 ≤ D := by omega
      have nb2 := V.nb (t + 1) (2 * c) tD' (by rw [p2s]; omega) (by rw [p2s]; omega)
      have ePH : pH (msc u (nM (Af (G n) d st) t c)) = msc u (nM (Af (G n) d st) (t + 1) (2 * c)) := by
        rw [nM_e]; exact pH_sc u _
      have cc := c24 (t := t) (by omega) c1 (Int.le_of_lt c2)
      refine halve_b pd5 d8' (by rw [msc_len, nM_len]; exact lA) pm5 (fun k => by
        rw [ePH]
        have := nb2 k
        have := xok_0 V.xo
        omega) pc5 (by omega) pb5 (by omega) (by omega) (fun s6 hm6 hc6 hd6 hb6 f6 => ?_)
      refine ⟨n, d, t + 1, nl, nd + 1, u, 2 * c, X, G, Lf, Rt, rfl, by dsimp only; rw [w32_id (by omega) (by omega)]; omega, ?_⟩
      have cur6 : xv (2 * c) (st + ((t + 1 : Nat) : Int)) = xv c (st + t) := by
        rw [show st + ((t + 1 : Nat) : Int) = (st + t) + 1 by omega, xv_2]
      have pnh := PNv_half lA d8' (show t < D by omega) v2
      have nod := V.nod
      refine ⟨V.g0, lG, V.top, V.zz, dd, ⟨hd6, by rw [hb6]; omega, hc6, by rw [← ePH]; exact hm6⟩, u0, V.nb, V.xo, tD', by rw [p2s]; omega, by rw [p2s]; omega, cn, by rw [LSv_e]; exact cl, by omega, fun i hi => ?_, V.od1, fun i hi => by rw [cur6]; exact V.od2 i hi, gfr_trans fr5 (cnf_ptf f6), big_g one5 f6 (by omega) (by omega) (by omega)⟩
      exact rfc_co (rts5 i hi _) f6 (fun k => by omega) (fun k => by omega) (by omega)
  · -- a zero at the corner
    rw [gln310] at h80
    rw [show cgf s4 267 4 = (d : Int) from pd] at h
    rw [m0] at hz
    have cz := zero_iff.1 hz
    obtain ⟨d', hd'⟩ : ∃ d', d = d' + 1 := ⟨d - 1, by omega⟩
    subst hd'
    obtain ⟨P', p, q, al, be, q0, hg, hzz, ev, l', b0, eA', z2, ls⟩ := LSv_0 lG d8' cz c1 (Int.le_of_lt c2)
    rw [show cgf s4 267 5 = st + t from pb, Int.toNat_natCast]
    refine start_b (by omega) pc cb (by omega) (by omega) (fun s5 rt5 fr5 f5 => ?_)
    have pn5 : pns s5 (Af (G n) (d' + 1) st) u (d' + 1) t c st := pns_co V.pn d8' f5 (fun k => by omega) (fun k => by omega) (by omega) (fun i k hi => by omega) (fun i hi => by omega)
    obtain ⟨pd5, pb5, pc5, pm5⟩ := pn5
    have nbt := V.nb t c tD c1 (Int.le_of_lt c2)
    refine dropZero_b pd5 d8' (by rw [msc_len, nM_len, Af_len]) pm5 nbt (xok_0 V.xo) (fun s6 hm6 hd6 hb6 f6 hc6 => ?_)
    have ne' : Af P' d' st ≠ [] := fun w => by have := Af_len P' d' st; rw [w] at this; simp at this
    have row : (msc u (nM (Af (G n) (d' + 1) st) t c)).tail = msc (u * be) (nM (Af P' d' st) t c) := by
      rw [eA']; exact drop_row ne' c1 (Int.le_of_lt c2) z2
    rw [row] at hm6
    have ew : w32 (((from9 + n : Nat) : Int) + 1) = ((from9 + (n + 1) : Nat) : Int) := by rw [w32_id (by omega) (by omega)]; omega
    rw [show C_part5_145 _ st (w32 (((from9 + n : Nat) : Int) + 1)) (nd : Int) s6 Q = C_part5_145 _ st ((from9 + (n + 1) : Nat) : Int) (nd : Int) s6 Q by rw [ew]]
    have nb' := nbd_drop b0 eA' ne' V.nb
    rw [Af_len] at nb'
    have xo' := xok_dn V.xo (by omega)
    have pnl := PNv_le (D := D) (Af_len P' d' st) (by omega) c1 c2
    have nod := V.nod
    obtain ⟨G', gA, gN⟩ : ∃ G' : Nat → List Int, (∀ i, i ≤ n → G' i = G i) ∧ G' (n + 1) = P' := ⟨fun i => if i ≤ n then G i else P', fun i hi => if_pos hi, if_neg (by omega)⟩
    obtain ⟨Lf', lA1, lN⟩ : ∃ Lf' : Nat → Rat, (∀ i, i < n → Lf' i = Lf i) ∧ Lf' n = xv c (st + t) := ⟨fun i => if i < n then Lf i else xv c (st + t), fun i hi => if_pos hi, if_neg (by omega)⟩
    obtain ⟨Rt', rA1, rN⟩ : ∃ Rt' : Nat → Rat, (∀ i, i < n → Rt' i = Rt i) ∧ Rt' n = xv c (st + t) := ⟨fun i => if i < n then Rt i else xv c (st + t), fun i hi => if_pos hi, if_neg (by omega)⟩
    refine ⟨n + 1, d', t, nl, nd + 1, u * be, c, (d' + 1) * X, G', Lf', Rt', rfl, by dsimp only; rw [w32_id (by omega) (by omega)]; omega, ?_⟩
    have top' : pgt P' d' ≠ 0 := by
      have t1 := top_co (R := G n) (G := [-p, q]) (K := P') (m := 1) (j := d') (pdb_len _) (by have := pdb_len P'; rw [l'] at this; exact this) (fun x => by rw [ev x, lnf_ev])
      intro w
      rw [w, Int.mul_zero, Nat.add_comm] at t1
      exact V.top t1
    refine ⟨by rw [gA 0 (Nat.zero_le _)]; exact V.g0, by rw [gN]; exact l', by rw [gN]; exact top', ?_, by omega, by rw [gN]; exact ⟨hd6, by rw [hb6]; exact pb5, hc6 c pc5, hm6⟩, Int.mul_pos u0 b0, by rw [gN]; exact nb', xo', tD, c1, c2, by omega, by rw [gN]; omega, by rw [gN]; omega, fun i hi => ?_, fun i j ij jn => ?_, fun i hi => ?_, gfr_trans (gfr_trans (ptf_up V.fr) (gfr_mono f5 (fun x f e => by unfold rof; omega) (fun x e => by unfold ror; omega))) (cnf_ptf f6), big_g (big_g V.one f5 (by omega) (by omega) (by omega)) f6 (by omega) (by omega) (by omega)⟩
    · rw [gN]
      obtain ⟨Z, hZ⟩ := V.zz
      exact ⟨fun x => Z x * (q * x - p), fun x => by rw [hZ x, ev x]; grind⟩
    · rw [gN]
      by_cases ci : i < n
      · rw [lA1 i ci, rA1 i ci, gA i (by omega), gA (i + 1) (by omega)]
        have r5 := rfc_co (rfc_co (V.rts i ci) f5 (fun k => by omega) (fun k => by omega) (by omega)) f6 (fun k => by omega) (fun k => by omega) (by omega)
        obtain ⟨c', b', q1, q2, q3⟩ := r5
        refine ⟨c', b', q1, q2, ?_⟩
        rcases q3 with q | ⟨w1, w2, w3, w4, w5⟩
        · exact Or.inl q
        · have lr : Lf i < Rt i := by rw [q2, w2]; exact xv_lt _ _
          have o := V.od2 i ci
          have qr : (0 : Rat) < q := by
            have : ((0 : Int) : Rat) < (q : Rat) := Rat.intCast_lt_intCast.2 q0
            exact this
          have le : (q : Rat) * Rt i - p ≤ 0 := by
            have := Rat.mul_le_mul_of_nonneg_left o (Rat.le_of_lt qr)
            grind
          refine Or.inr ⟨w1, w2, w3, nr_linx lr q0 ev le w4, ?_⟩
          rcases w5 with w | w
          · left
            intro zz
            have e := ev (Rt i)
            rw [zz, Rat.mul_zero] at e
            exact w e
          · exact Or.inr w
      · have e : i = n := by omega
        subst e
        rw [lN, rN, gA i (Nat.le_refl _), gN]
        refine ⟨c, st + t, rt0_co rt5 f6 (fun k => by omega) (fun k => by omega) (by omega), rfl, Or.inl ⟨by rw [f6.1 _ _ (by omega)]; exact fr5, rfl, p, q, q0, hg, hzz, ev⟩⟩
    · rw [rA1 i (by omega)]
      by_cases cj : j < n
      · rw [lA1 j cj]; exact V.od1 i j ij cj
      · rw [show j = n by omega, lN]; exact V.od2 i (by omega)
    · by_cases ci : i < n
      · rw [rA1 i ci]; exact V.od2 i ci
      · rw [show i = n by omega, rN]; exact Rat.le_refl
