/-! against: a fraction against p / q -/
theorem against_fr {s : im_S} {R p q a b : Int} {Q : Int → im_S → Prop} (hR : 0 ≤ R ∧ R ≤ 79) (ha : wga s 608 R = a) (hb : wga s 609 R = b) (a18 : -1000000000000000000 ≤ a ∧ a ≤ 1000000000000000000) (b18 : 0 < b ∧ b ≤ 1000000000000000000) (hp : -1000000000000000000 ≤ p ∧ p ≤ 1000000000000000000) (hq : 0 < q ∧ q ≤ 1000000000000000000) (h0 : 0 ≤ wgf s 24) (hm : wgf s 24 + 1000 ≤ 684000) (hQ : ∀ s', sb s s' → Q (sg (a * q - p * b)) s') : W_against R p q s Q := by
  unfold W_against
  have R9 : 0 ≤ R ∧ R < 90 := ⟨hR.1, by omega⟩
  have l3 : ∀ x : Int, -1000000000000000000 ≤ x → x ≤ 1000000000000000000 → lim x ≤ 3 := fun x x1 x2 => lim_le (Nat.lt_of_le_of_lt (show x.natAbs ≤ 1000000000000000000 by omega) (by decide))
  have la := l3 a (by omega) (by omega)
  have lb := l3 b (by omega) (by omega)
  have lp := l3 p (by omega) (by omega)
  have lq := l3 q (by omega) (by omega)
  have m1 := lim_mul a q
  have m2 := lim_mul p b
  refine ⟨R9, fun c => absurd c (by omega), fun _ => ⟨R9, ?_⟩⟩
  rw [ha]
  refine whole_ok ⟨by omega, by omega⟩ (by omega) (by omega) (fun s1 a1 a2 a3 => ?_)
  have a12 := a1.2
  refine whole_ok ⟨by omega, by omega⟩ (by omega) (by omega) (fun s2 b1 b2 b3 => ?_)
  have b12 := b1.2
  refine by_ok (st_nm b1 a2) b2 (by omega) (by omega) (fun s3 c1 c2 c3 => ?_)
  have c12 := c1.2
  refine whole_ok ⟨by omega, by omega⟩ (by omega) (by omega) (fun s4 d1 d2 d3 => ⟨R9, ?_⟩)
  have d12 := d1.2
  have t4 : st s s4 := st_tr a1 (st_tr b1 (st_tr c1 d1))
  rw [st_row t4 (by decide), hb]
  refine whole_ok ⟨by omega, by omega⟩ (by omega) (by omega) (fun s5 e1 e2 e3 => ?_)
  have e12 := e1.2
  refine by_ok (st_nm e1 d2) e2 (by omega) (by omega) (fun s6 f1 f2 f3 => ?_)
  have t6 : st s3 s6 := st_tr d1 (st_tr e1 f1)
  refine compare_ok (st_nm t6 c2).1 f2.1 (fun s7 e7 => hQ s7 ?_)
  rw [e7]
  exact sb_back (st_tr t4 (st_tr e1 f1))
