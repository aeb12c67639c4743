/-! the reference's deeds: a new space -/
def bgn (v : vw) (k par kp : Nat) : vw := fun a j =>
  if a = 10 + k ∧ j = 0 then v (10 + k) 0 + 1 else if a = 20 + k ∧ j = v (10 + k) 0 then par else if a = 30 + k ∧ j = v (10 + k) 0 then v (30 + k) par + 1 else if a = 40 + k ∧ j = v (10 + k) 0 then kp else
  if k = 0 ∧ a = 50 ∧ j = v (10 + k) 0 then 1 else if k = 0 ∧ a = 51 ∧ j = v (10 + k) 0 then 0 else if k = 1 ∧ a = 60 ∧ j = v (10 + k) 0 then 0 else if k = 2 ∧ a = 70 ∧ j = v (10 + k) 0 then 0 else
  if k = 2 ∧ a = 71 ∧ 8 * v (10 + k) 0 ≤ j ∧ j < 8 * v (10 + k) 0 + 8 then v 71 (8 * par + (j - 8 * v (10 + k) 0)) else v a j
theorem bgn_ne (v : vw) (k par kp a j : Nat) (h : ¬ (a = 10 + k ∧ j = 0) ∧ ¬ ((a = 20 + k ∨ a = 30 + k ∨ a = 40 + k) ∧ j = v (10 + k) 0) ∧ ¬ (k = 0 ∧ (a = 50 ∨ a = 51) ∧ j = v (10 + k) 0) ∧ ¬ (k = 1 ∧ a = 60 ∧ j = v (10 + k) 0) ∧ ¬ (k = 2 ∧ ((a = 70 ∧ j = v (10 + k) 0) ∨ (a = 71 ∧ 8 * v (10 + k) 0 ≤ j ∧ j < 8 * v (10 + k) 0 + 8)))) : bgn v k par kp a j = v a j := by
  unfold bgn
  rw [if_neg (by omega), if_neg (by omega), if_neg (by omega), if_neg (by omega), if_neg (by omega), if_neg (by omega), if_neg (by omega), if_neg (by omega), if_neg (by omega)]
theorem bgn_ct (v : vw) (k par kp : Nat) : bgn v k par kp (10 + k) 0 = v (10 + k) 0 + 1 := if_pos ⟨rfl, rfl⟩
theorem bgn_ar (v : vw) (k par kp : Nat) : bgn v k par kp (20 + k) (v (10 + k) 0) = par := by
  unfold bgn; rw [if_neg (by omega), if_pos ⟨rfl, rfl⟩]
theorem bgn_dp (v : vw) (k par kp : Nat) : bgn v k par kp (30 + k) (v (10 + k) 0) = v (30 + k) par + 1 := by
  unfold bgn; rw [if_neg (by omega), if_neg (by omega), if_pos ⟨rfl, rfl⟩]
theorem bgn_kp (v : vw) (k par kp : Nat) : bgn v k par kp (40 + k) (v (10 + k) 0) = kp := by
  unfold bgn; rw [if_neg (by omega), if_neg (by omega), if_neg (by omega), if_pos ⟨rfl, rfl⟩]
theorem bgn_50 (v : vw) (par kp : Nat) : bgn v 0 par kp 50 (v 10 0) = 1 := by
  unfold bgn; rw [if_neg (by omega), if_neg (by omega), if_neg (by omega), if_neg (by omega), if_pos ⟨rfl, rfl, rfl⟩]
theorem bgn_51 (v : vw) (par kp : Nat) : bgn v 0 par kp 51 (v 10 0) = 0 := by
  unfold bgn; rw [if_neg (by omega), if_neg (by omega), if_neg (by omega), if_neg (by omega), if_neg (by omega), if_pos ⟨rfl, rfl, rfl⟩]
theorem bgn_60 (v : vw) (par kp : Nat) : bgn v 1 par kp 60 (v 11 0) = 0 := by
  unfold bgn; rw [if_neg (by omega), if_neg (by omega), if_neg (by omega), if_neg (by omega), if_neg (by omega), if_neg (by omega), if_pos ⟨rfl, rfl, rfl⟩]
theorem bgn_70 (v : vw) (par kp : Nat) : bgn v 2 par kp 70 (v 12 0) = 0 := by
  unfold bgn; rw [if_neg (by omega), if_neg (by omega), if_neg (by omega), if_neg (by omega), if_neg (by omega), if_neg (by omega), if_neg (by omega), if_pos ⟨rfl, rfl, rfl⟩]
theorem bgn_71 (v : vw) (par kp i : Nat) (hi : i < 8) : bgn v 2 par kp 71 (8 * v 12 0 + i) = v 71 (8 * par + i) := by
  have ex : v (10 + 2) 0 = v 12 0 := rfl
  unfold bgn; rw [if_neg (by omega), if_neg (by omega), if_neg (by omega), if_neg (by omega), if_neg (by omega), if_neg (by omega), if_neg (by omega), if_neg (by omega), if_pos ⟨rfl, rfl, by omega⟩, ex, Nat.add_sub_cancel_left]
theorem RowV_bgn {n n' : Nat → Int32} {v : vw} (R : RowV n v) (B : Bd v) (k par kp : Nat) (hk : k < 3) (hx : v (10 + k) 0 < 8) (h1 : 1 ≤ v (10 + k) 0)
    (N : ∀ j, ¬ (j = 592 + k ∨ (256 + 14 * (8 * k + v (10 + k) 0) ≤ j ∧ j < 256 + 14 * (8 * k + v (10 + k) 0) + 14)) → n' j = n j)
    (T0 : n' (592 + k) = nI (v (10 + k) 0 + 1)) (Ta : n' (256 + 14 * (8 * k + v (10 + k) 0) + 0) = nI par) (Td : n' (256 + 14 * (8 * k + v (10 + k) 0) + 1) = nI (v (30 + k) par + 1)) (Tk : n' (256 + 14 * (8 * k + v (10 + k) 0) + 2) = nI kp)
    (T3 : n' (256 + 14 * (8 * k + v (10 + k) 0) + 3) = nI (if k = 0 then 1 else 0)) (T5 : k = 0 → n' (256 + 14 * (8 * k + v (10 + k) 0) + 5) = nI 0) (Tt : k = 2 → ∀ i, i < 8 → n' (256 + 14 * (8 * k + v (10 + k) 0) + (4 + i)) = nI (v 71 (8 * par + i))) : RowV n' (bgn v k par kp) := by
  have B0 := B.2.1
  have B1 := B.2.2.1
  have B2 := B.2.2.2.1
  have E := bgn_ne v k par kp
  refine ⟨?_, ?_, ?_, ?_, ?_, ?_, ?_, ?_, ?_, ?_, ?_, ?_, ?_, ?_, ?_⟩
  · intro q j hq hj
    rw [N _ (by omega), E _ _ (by omega), R.pr q j hq hj]
  · intro q j hq hj
    rw [N _ (by omega), E _ _ (by omega), R.nm q j hq hj]
  · intro j hj
    by_cases h : j = k
    · subst h; rw [T0, bgn_ct]
    · rw [N _ (by omega), E _ _ (by omega), R.ct j hj]
  · intro j y hj hy
    have := B.1 j hj
    by_cases h : j = k
    · subst h
      rw [bgn_ct] at hy
      by_cases hyx : y = v (10 + j) 0
      · subst hyx
        rw [Ta, bgn_ar]
        try rw [if_neg (by omega)]
      · rw [N _ (by omega), E _ _ (by omega), R.ar j y hj (by omega)]
    · rw [E _ _ (by omega)] at hy
      rw [N _ (by omega), E _ _ (by omega), R.ar j y hj hy]
  · intro j y hj hy
    have := B.1 j hj
    by_cases h : j = k
    · subst h
      rw [bgn_ct] at hy
      by_cases hyx : y = v (10 + j) 0
      · subst hyx
        rw [Td, bgn_dp]
        try rw [if_neg (by omega)]
      · rw [N _ (by omega), E _ _ (by omega), R.dp j y hj (by omega)]
    · rw [E _ _ (by omega)] at hy
      rw [N _ (by omega), E _ _ (by omega), R.dp j y hj hy]
  · intro j y hj hy
    have := B.1 j hj
    by_cases h : j = k
    · subst h
      rw [bgn_ct] at hy
      by_cases hyx : y = v (10 + j) 0
      · subst hyx
        rw [Tk, bgn_kp]
        try rw [if_neg (by omega)]
      · rw [N _ (by omega), E _ _ (by omega), R.kp j y hj (by omega)]
    · rw [E _ _ (by omega)] at hy
      rw [N _ (by omega), E _ _ (by omega), R.kp j y hj hy]
  · intro y hy
    by_cases h : k = 0
    · subst h
      have ex : v (10 + 0) 0 = v 10 0 := rfl
      rw [show bgn v 0 par kp 10 0 = v 10 0 + 1 from bgn_ct v 0 par kp] at hy
      by_cases hyx : y = v 10 0
      · subst hyx; rw [bgn_50]; exact T3
      · rw [N _ (by omega), E _ _ (by omega), R.gv y (by omega)]
    · rw [E _ _ (by omega)] at hy
      rw [N _ (by omega), E _ _ (by omega), R.gv y hy]
  · intro y hy
    by_cases h : k = 0
    · subst h
      have ex : v (10 + 0) 0 = v 10 0 := rfl
      rw [show bgn v 0 par kp 10 0 = v 10 0 + 1 from bgn_ct v 0 par kp] at hy
      by_cases hyx : y = v 10 0
      · subst hyx; rw [bgn_51]; exact T5 rfl
      · rw [N _ (by omega), E _ _ (by omega), R.bg y (by omega)]
    · rw [E _ _ (by omega)] at hy
      rw [N _ (by omega), E _ _ (by omega), R.bg y hy]
  · intro y hy hz
    by_cases h : k = 0
    · subst h
      have ex : v (10 + 0) 0 = v 10 0 := rfl
      rw [show bgn v 0 par kp 10 0 = v 10 0 + 1 from bgn_ct v 0 par kp] at hy
      by_cases hyx : y = v 10 0
      · subst hyx; exact absurd (bgn_51 v par kp) hz
      · rw [E _ _ (by omega)] at hz
        rw [N _ (by omega), E _ _ (by omega), R.it y (by omega) hz]
    · rw [E _ _ (by omega)] at hy hz
      rw [N _ (by omega), E _ _ (by omega), R.it y hy hz]
  · intro y hy
    by_cases h : k = 1
    · subst h
      have ex : v (10 + 1) 0 = v 11 0 := rfl
      rw [show bgn v 1 par kp 11 0 = v 11 0 + 1 from bgn_ct v 1 par kp] at hy
      by_cases hyx : y = v 11 0
      · subst hyx; rw [bgn_60]; exact T3
      · rw [N _ (by omega), E _ _ (by omega), R.rn y (by omega)]
    · rw [E _ _ (by omega)] at hy
      rw [N _ (by omega), E _ _ (by omega), R.rn y hy]
  · intro y r hy hr
    by_cases h : k = 1
    · subst h
      have ex : v (10 + 1) 0 = v 11 0 := rfl
      rw [show bgn v 1 par kp 11 0 = v 11 0 + 1 from bgn_ct v 1 par kp] at hy
      by_cases hyx : y = v 11 0
      · subst hyx; rw [bgn_60] at hr; omega
      · rw [E _ _ (by omega)] at hr
        have := B.2.2.2.2 y (by omega)
        rw [N _ (by omega), E _ _ (by omega), R.ri y r (by omega) hr]
    · rw [E _ _ (by omega)] at hy hr
      have := B.2.2.2.2 y hy
      rw [N _ (by omega), E _ _ (by omega), R.ri y r hy hr]
  · intro y r hy hr
    by_cases h : k = 1
    · subst h
      have ex : v (10 + 1) 0 = v 11 0 := rfl
      rw [show bgn v 1 par kp 11 0 = v 11 0 + 1 from bgn_ct v 1 par kp] at hy
      by_cases hyx : y = v 11 0
      · subst hyx; rw [bgn_60] at hr; omega
      · rw [E _ _ (by omega)] at hr
        have := B.2.2.2.2 y (by omega)
        rw [N _ (by omega), E _ _ (by omega), R.ro y r (by omega) hr]
    · rw [E _ _ (by omega)] at hy hr
      have := B.2.2.2.2 y hy
      rw [N _ (by omega), E _ _ (by omega), R.ro y r hy hr]
  · intro y r hy hr
    by_cases h : k = 1
    · subst h
      have ex : v (10 + 1) 0 = v 11 0 := rfl
      rw [show bgn v 1 par kp 11 0 = v 11 0 + 1 from bgn_ct v 1 par kp] at hy
      by_cases hyx : y = v 11 0
      · subst hyx; rw [bgn_60] at hr; omega
      · rw [E _ _ (by omega)] at hr
        have := B.2.2.2.2 y (by omega)
        rw [N _ (by omega), E _ _ (by omega), R.rm y r (by omega) hr]
    · rw [E _ _ (by omega)] at hy hr
      have := B.2.2.2.2 y hy
      rw [N _ (by omega), E _ _ (by omega), R.rm y r hy hr]
  · intro y hy
    by_cases h : k = 2
    · subst h
      have ex : v (10 + 2) 0 = v 12 0 := rfl
      rw [show bgn v 2 par kp 12 0 = v 12 0 + 1 from bgn_ct v 2 par kp] at hy
      by_cases hyx : y = v 12 0
      · subst hyx; rw [bgn_70]; exact T3
      · rw [N _ (by omega), E _ _ (by omega), R.sh y (by omega)]
    · rw [E _ _ (by omega)] at hy
      rw [N _ (by omega), E _ _ (by omega), R.sh y hy]
  · intro y i hy hi
    by_cases h : k = 2
    · subst h
      have ex : v (10 + 2) 0 = v 12 0 := rfl
      rw [show bgn v 2 par kp 12 0 = v 12 0 + 1 from bgn_ct v 2 par kp] at hy
      by_cases hyx : y = v 12 0
      · subst hyx; rw [bgn_71 _ _ _ _ hi]; exact Tt rfl i hi
      · rw [N _ (by omega), E _ _ (by omega), R.tg y i (by omega) hi]
    · rw [E _ _ (by omega)] at hy
      rw [N _ (by omega), E _ _ (by omega), R.tg y i hy hi]
def zb (n : Nat → Int32) (b i e : Nat) : Nat → Int32 := fun j => if b + i ≤ j ∧ j < b + e then nI 0 else n j
theorem zb_in {n : Nat → Int32} {b i e j : Nat} (h : b + i ≤ j ∧ j < b + e) : zb n b i e j = nI 0 := if_pos h
theorem zb_out {n : Nat → Int32} {b i e j : Nat} (h : ¬ (b + i ≤ j ∧ j < b + e)) : zb n b i e j = n j := if_neg h
theorem zb_step (n : Nat → Int32) (b i e : Nat) (hi : i < e) : zb (upd n (b + i) (nI 0)) b (i + 1) e = zb n b i e := by
  funext j
  unfold zb upd
  by_cases h1 : b + (i + 1) ≤ j ∧ j < b + e
  · rw [if_pos h1, if_pos (by omega)]
  · rw [if_neg h1]
    by_cases h2 : j = b + i
    · rw [if_pos h2, if_pos (by omega)]
    · rw [if_neg h2, if_neg (by omega)]
theorem zb_end (n : Nat → Int32) (b e : Nat) : zb n b e e = n := by
  funext j; exact zb_out (by omega)
theorem t_begin_l {h : jh} {m : Nat} {s : ms} (a1 a2 a3 a4 : Int32) (b : Nat) (hb : b + 14 ≤ 595) (K : Nat → Int32 → Int32 → Int32 → Int32 → Int32 → jh → Option (Int32 × jh)) (L : Nat → Nat → Int32 → Int32 → Int32 → Int32 → Int32 → Int32 → jh → Option (Int32 × jh)) (hL : ∀ f, L (f + 1) = f_X13_begin_h55 K (L f)) : ∀ k i n f, i + k = 14 → k + 1 ≤ f → L f m a1 a2 a3 a4 (nI b) (nI i) (pm h m (sw s 2 n)) = K m a1 a2 a3 a4 (nI b) (pm h m (sw s 2 (zb n b i 14))) := by
  intro k
  induction k with
  | zero =>
    intro i n f hi hf
    obtain ⟨f, rfl⟩ : ∃ g, f = g + 1 := ⟨f - 1, by omega⟩
    rw [hL]
    unfold f_X13_begin_h55
    simp (discharger := omega) only [↓al_m, al_lit, al_add, al_mul, bd_some, pm_cV, pm_gR2, bn_0, bn_1, bn_jz, al_le]
    rw [if_pos (by omega), show i = 14 by omega, zb_end]
  | succ k ih =>
    intro i n f hi hf
    obtain ⟨f, rfl⟩ : ∃ g, f = g + 1 := ⟨f - 1, by omega⟩
    rw [hL]
    unfold f_X13_begin_h55
    simp (discharger := omega) only [↓al_m, al_lit, al_add, al_mul, bd_some, pm_cV, pm_gR2, bn_0, bn_1, bn_jz, al_le, wr2, st2_sw, sw_sw, sw_eq, r_processAt, r_spaceAt, r_numberAt]
    rw [if_neg (by omega), ih (i + 1) _ f (by omega) (by omega), zb_step _ _ _ _ (by omega)]
theorem t_begin {h : jh} {m : Nat} {s : ms} {v : vw} (R : RowV (s 2) v) (W : WFv v) (k par kp : Nat) (hk : k < 3) (hpar : par < v (10 + k) 0) :
    (v (10 + k) 0 = 8 ∨ v (30 + k) par = 4 → f_X13_begin m (nI k) (nI par) (nI kp) (pm h m s) = some (nm1, pm h m s)) ∧
    (¬ (v (10 + k) 0 = 8 ∨ v (30 + k) par = 4) → ∃ n', f_X13_begin m (nI k) (nI par) (nI kp) (pm h m s) = some (nI (v (10 + k) 0), pm h m (sw s 2 n')) ∧
      (∀ j, ¬ (j = 592 + k ∨ (256 + 14 * (8 * k + v (10 + k) 0) ≤ j ∧ j < 256 + 14 * (8 * k + v (10 + k) 0) + 14)) → n' j = s 2 j) ∧
      n' (592 + k) = nI (v (10 + k) 0 + 1) ∧ n' (256 + 14 * (8 * k + v (10 + k) 0) + 0) = nI par ∧ n' (256 + 14 * (8 * k + v (10 + k) 0) + 1) = nI (v (30 + k) par + 1) ∧ n' (256 + 14 * (8 * k + v (10 + k) 0) + 2) = nI kp ∧
      (∀ i, 3 ≤ i → i < 14 → n' (256 + 14 * (8 * k + v (10 + k) 0) + i) = nI 0)) := by
  have hc := W.ct k hk
  have hd := W.d4 k par hk hpar
  have e1 := R.ct k hk
  have e2 := R.dp k par hk hpar
  constructor
  · intro h0
    unfold f_X13_begin
    simp (discharger := omega) only [↓al_m, al_lit, al_add, al_mul, bd_some, pm_cV, pm_gR2, bn_0, bn_1, bn_jz, r_many, r_spaceOf, e1, e2, al_eq]
    by_cases h1 : v (10 + k) 0 = 8
    · rw [if_pos h1]
    · rw [if_neg h1, if_neg (by omega)]
  · intro h0
    refine ⟨upd (upd (upd (zb (upd (s 2) (592 + k) (nI (v (10 + k) 0 + 1))) (256 + 14 * (8 * k + v (10 + k) 0)) 0 14) (256 + 14 * (8 * k + v (10 + k) 0) + 0) (nI par)) (256 + 14 * (8 * k + v (10 + k) 0) + 1) (nI (v (30 + k) par + 1))) (256 + 14 * (8 * k + v (10 + k) 0) + 2) (nI kp), ?_, ?_, ?_, ?_, ?_, ?_, ?_⟩
    · obtain ⟨f, hf⟩ := jfu_s
      unfold f_X13_begin
      simp (discharger := omega) only [↓al_m, pm_cV, pm_gR2, bd_some, r_many, r_spaceOf, al_lit, al_add, e1, e2, al_eq, rd2, wr2, st2_sw, sw_eq, sw_sw, r_spaceAt]
      rw [if_neg (by omega), if_pos (by omega), t_begin_l _ _ _ _ _ (by omega) _ (jlp7 _) (fun _ => rfl) 14 0 _ jfu (by omega) (by omega)]
      simp (discharger := omega) only [↓al_m, al_lit, al_add, al_mul, bd_some, pm_cV, pm_gR2, bn_0, bn_1, bn_jz, wr2, st2_sw, sw_sw, sw_eq, r_processAt, r_spaceAt, r_numberAt, r_spaceOf, rd2, upd_ne', zb_out, e2]
    · intro j hj
      simp (discharger := omega) only [upd_ne', zb_out]
    · simp (discharger := omega) only [upd_ne', zb_out, upd_at]
    · simp (discharger := omega) only [upd_ne', zb_out, upd_at]
    · simp (discharger := omega) only [upd_ne', zb_out, upd_at]
    · simp (discharger := omega) only [upd_ne', zb_out, upd_at]
    · intro i h1 h2
      simp (discharger := omega) only [upd_ne', zb_in]
