/-! notes, what fits, looking: both sides -/
theorem hb_nI (a j : Nat) (hj : j < 32) : hb (nI a) j = a.testBit j := by
  show (BitVec.ofNat 32 a).getLsbD j = _
  rw [BitVec.getLsbD_ofNat]
  simp [hj]
theorem nI_and (a b : Nat) : nI a &&& nI b = nI (a &&& b) := by
  apply hb_ext
  intro j hj
  rw [hb_and, hb_nI _ _ hj, hb_nI _ _ hj, hb_nI _ _ hj, Nat.testBit_and]
theorem nI_bI (a i : Nat) (ha : a < 2 ^ i) (hi : i < 32) : nI a ||| bI i = nI (2 ^ i + a) := by
  apply hb_ext
  intro j hj
  rw [hb_or, hb_bI i j hi hj, hb_nI _ _ hj, hb_nI _ _ hj]
  by_cases h1 : j = i
  · subst h1
    rw [Nat.testBit_two_pow_add_eq, Nat.testBit_lt_two_pow ha]
    simp
  · by_cases h2 : j < i
    · rw [Nat.testBit_two_pow_add_gt h2]
      simp [h1]
    · have h3 : i < j := by omega
      have h4 : a < 2 ^ j := Nat.lt_of_lt_of_le ha (Nat.pow_le_pow_right (by decide) (by omega))
      have h5 : 2 ^ i + a < 2 ^ j := by
        have : 2 ^ (i + 1) ≤ 2 ^ j := Nat.pow_le_pow_right (by decide) (by omega)
        rw [Nat.pow_succ] at this
        omega
      rw [Nat.testBit_lt_two_pow h4, Nat.testBit_lt_two_pow h5]
      simp [h1]
/-- the sum of powers of those that P holds of -/
def sm2 (P : Nat → Bool) : Nat → Nat → Nat
  | 0, _ => 0
  | k + 1, i => (if P i = true then 2 ^ i else 0) + sm2 P k (i + 1)
theorem bts_nI (P : Nat → Bool) : ∀ k i a, i + k ≤ 32 → a < 2 ^ i → bts P k i (nI a) = nI (a + sm2 P k i) := by
  intro k
  induction k with
  | zero => intro i a _ _; rw [bts, sm2, Nat.add_zero]
  | succ k ih =>
    intro i a hi ha
    rw [bts, sm2]
    have hp : 2 ^ (i + 1) = 2 ^ i + 2 ^ i := by rw [Nat.pow_succ]; omega
    by_cases h : P i = true
    · rw [if_pos h, if_pos h, nI_bI a i ha (by omega), ih (i + 1) (2 ^ i + a) (by omega) (by omega)]
      congr 1
      omega
    · rw [if_neg h, if_neg h, ih (i + 1) a (by omega) (by omega), Nat.zero_add]
/-! the count of bits, as the JDK counts them -/
def pc1 (x : Nat) : Nat := x - ((x / 2) &&& 1431655765)
def pc2 (x : Nat) : Nat := (x &&& 858993459) + ((x / 4) &&& 858993459)
def pc3 (x : Nat) : Nat := (x + x / 16) &&& 252645135
def pc4 (x : Nat) : Nat := x + x / 256
def pc5 (x : Nat) : Nat := x + x / 65536
def pcN (x : Nat) : Nat := (pc5 (pc4 (pc3 (pc2 (pc1 x))))) &&& 63
def pck : Nat → Nat → Nat → Bool
  | 0, b, c => Nat.beq (pcN b) c
  | d + 1, b, c => pck d b c && pck d (b + 2 ^ (d + 1)) (c + 1)
theorem pck_ok : pck 15 0 0 = true := by decide +kernel
theorem sm2_s (P : Nat → Bool) : ∀ k i, sm2 P (k + 1) i = sm2 P k i + (if P (i + k) = true then 2 ^ (i + k) else 0) := by
  intro k
  induction k with
  | zero => intro i; simp only [sm2, Nat.add_zero, Nat.zero_add]
  | succ k ih =>
    intro i
    rw [sm2, ih (i + 1), sm2, show i + 1 + k = i + (k + 1) by omega]
    omega
theorem cnt_s (P : Nat → Bool) : ∀ k i, cnt P (k + 1) i = cnt P k i + (if P (i + k) = true then 1 else 0) := by
  intro k
  induction k with
  | zero => intro i; simp only [cnt, Nat.add_zero, Nat.zero_add]
  | succ k ih =>
    intro i
    rw [cnt, ih (i + 1), cnt, show i + 1 + k = i + (k + 1) by omega]
    omega
theorem pck_s (P : Nat → Bool) : ∀ d b c, pck d b c = true → pcN (b + sm2 P d 1) = c + cnt P d 1 := by
  intro d
  induction d with
  | zero =>
    intro b c h
    rw [sm2, cnt, Nat.add_zero, Nat.add_zero]
    exact Nat.eq_of_beq_eq_true h
  | succ d ih =>
    intro b c h
    rw [pck, Bool.and_eq_true] at h
    rw [sm2_s, cnt_s, Nat.add_comm 1 d]
    by_cases hp : P (d + 1) = true
    · rw [if_pos hp, if_pos hp]
      have := ih _ _ h.2
      rw [show b + (sm2 P d 1 + 2 ^ (d + 1)) = b + 2 ^ (d + 1) + sm2 P d 1 by omega, this]
      omega
    · rw [if_neg hp, if_neg hp]
      exact ih _ _ h.1
theorem pc1_le (x : Nat) : pc1 x ≤ x := Nat.sub_le _ _
theorem pc2_le (x : Nat) : pc2 x ≤ x + x / 4 := Nat.add_le_add Nat.and_le_left Nat.and_le_left
theorem pc3_le (x : Nat) : pc3 x ≤ x + x / 16 := Nat.and_le_left
theorem bct_nI (x : Nat) (hx : x < 65536) : bct (nI x) = nI (pcN x) := by
  have m1 : (1431655765 : Int32) = nI 1431655765 := rfl
  have m2 : (858993459 : Int32) = nI 858993459 := rfl
  have m3 : (252645135 : Int32) = nI 252645135 := rfl
  have m4 : (63 : Int32) = nI 63 := rfl
  have u : ∀ (y k : Nat) (sh : Int32), y < 2 ^ 32 → ((sh.toUInt32 &&& Int32.toUInt32 31).toBitVec % 32).toNat = k → ((nI y).toUInt32 >>> (sh.toUInt32 &&& Int32.toUInt32 31)).toInt32 = nI (y / 2 ^ k) := fun y k sh hy hs => pk_ushrN hy sh k hs
  have e1 : nI x - (((nI x).toUInt32 >>> ((1 : Int32).toUInt32 &&& Int32.toUInt32 31)).toInt32 &&& 1431655765) = nI (pc1 x) := by
    rw [u x 1 1 (by omega) (by decide), m1, nI_and, al_sub]
    · rfl
    · exact Nat.le_trans Nat.and_le_left (by omega)
  have b1 := pc1_le x
  have e2 : ∀ y, y < 65536 → (nI y &&& 858993459) + (((nI y).toUInt32 >>> ((2 : Int32).toUInt32 &&& Int32.toUInt32 31)).toInt32 &&& 858993459) = nI (pc2 y) := by
    intro y hy
    rw [u y 2 2 (by omega) (by decide), m2, nI_and, nI_and, al_add]; rfl
  have b2 := pc2_le (pc1 x)
  have e3 : ∀ y, y < 100000 → (nI y + ((nI y).toUInt32 >>> ((4 : Int32).toUInt32 &&& Int32.toUInt32 31)).toInt32) &&& 252645135 = nI (pc3 y) := by
    intro y hy
    rw [u y 4 4 (by omega) (by decide), m3, al_add, nI_and]; rfl
  have b3 := pc3_le (pc2 (pc1 x))
  have e4 : ∀ y, y < 200000 → nI y + ((nI y).toUInt32 >>> ((8 : Int32).toUInt32 &&& Int32.toUInt32 31)).toInt32 = nI (pc4 y) := by
    intro y hy
    rw [u y 8 8 (by omega) (by decide), al_add]; rfl
  have b4 : pc4 (pc3 (pc2 (pc1 x))) ≤ 2 * pc3 (pc2 (pc1 x)) := by unfold pc4; omega
  have e5 : ∀ y, y < 400000 → nI y + ((nI y).toUInt32 >>> ((16 : Int32).toUInt32 &&& Int32.toUInt32 31)).toInt32 = nI (pc5 y) := by
    intro y hy
    rw [u y 16 16 (by omega) (by decide), al_add]; rfl
  unfold bct f_J6_bitCount_0f7a4
  show (_ : Int32) = _
  simp only [Option.elim]
  rw [e1, e2 _ (by omega), e3 _ (by omega), e4 _ (by omega), e5 _ (by omega), m4, nI_and]
  rfl
theorem bct_bts (P : Nat → Bool) : bct (bts P 15 1 (nI 0)) = nI (cnt P 15 1) := by
  have h1 : sm2 P 15 1 < 65536 := by
    have : ∀ k i, sm2 P k i + 2 ^ i ≤ 2 ^ (i + k) := by
      intro k
      induction k with
      | zero => intro i; show 0 + 2 ^ i ≤ 2 ^ i; omega
      | succ k ih =>
        intro i
        have := ih (i + 1)
        rw [sm2, show i + (k + 1) = i + 1 + k by omega]
        have hp : 2 ^ (i + 1) = 2 ^ i + 2 ^ i := by rw [Nat.pow_succ]; omega
        have h0 : 0 < 2 ^ i := Nat.two_pow_pos i
        by_cases h : P i = true
        · rw [if_pos h]; omega
        · rw [if_neg h]; omega
    have h2 := this 15 1
    have h3 : 2 ^ (1 + 15) = 65536 := by decide
    omega
  rw [bts_nI P 15 1 0 (by omega) (by decide), Nat.zero_add, bct_nI _ h1]
  have := pck_s P 15 0 0 pck_ok
  rw [Nat.zero_add, Nat.zero_add] at this
  rw [this]
theorem cnt_split (P R : Nat → Bool) : ∀ k i, cnt (fun p => P p && R p) k i + cnt (fun p => P p && !(R p)) k i = cnt P k i := by
  intro k
  induction k with
  | zero => intro i; rfl
  | succ k ih =>
    intro i
    have := ih (i + 1)
    rw [cnt, cnt, cnt]
    cases P i <;> cases R i <;> simp <;> omega
/-! the reference -/
theorem t_would {h : jh} {m : Nat} {s : ms} {v : vw} (R : RowV (s 2) v) (W : WFv v) (a b : Nat) (g : Int32) (ha : a < 8) (hb' : b < 100) : f_X13_wouldBe m (nI a) (nI b) g (pm h m s) = some (bn (wbe v a b g), pm h m s) := by
  have hc := W.c0
  have hw := who_le v a b
  unfold f_X13_wouldBe f_X13_wouldBe_b19 wbe
  simp (discharger := omega) only [↓al_m, al_lit, al_add, al_mul, bd_some, pm_cV, pm_gR2, bn_0, bn_1, bn_jz, v_of R, v_nm R, v_ct0 R, v_ct1 R, v_ct2 R, v_ar0 R W, v_ar1 R W, v_ar2 R W, v_dp0 R W, v_dp1 R W, v_dp2 R W, v_kp0 R W, v_kp1 R W, v_kp2 R W, v_gv R W, v_bg R W, v_rn R W, v_sh R W, al_le, t_whose R W, on_nm1]
  by_cases h1 : a < v 10 0
  · rw [if_neg (by omega)]
    by_cases h2 : who v a b = 16
    · simp [h1, h2, bn]
    · have e : on 16 (who v a b) = nI (who v a b) := if_neg h2
      rw [if_neg h2, e]
      simp only [ts_0 g (who v a b) (by omega)]
      cases hb g (who v a b) <;> simp [h1, h2, bn]
  · rw [if_pos (by omega)]
    simp [h1, bn]
def NT (c : Nat) (N : ms) : Prop := ∀ j, j < c → ∃ a b d : Nat, N 0 j = nI a ∧ a < 8 ∧ N 1 j = nI b ∧ 1 ≤ b ∧ b ≤ 20 ∧ N 2 j = nI d ∧ d ≤ 1
def RN (s : ms) (c : Nat) (N : ms) : Prop := s 22 0 = nI c ∧ ∀ j, j < c → s 23 j = N 0 j ∧ s 24 j = N 1 j ∧ s 25 j = N 2 j
theorem t_fitE_l {h : jh} {m : Nat} {s : ms} {v : vw} (R : RowV (s 2) v) (W : WFv v) (c : Nat) (N : ms) (hc : c ≤ 8) (hN : NT c N) (hR : RN s c N) (g : Int32) (L : Nat → Nat → Int32 → Int32 → Int32 → jh → Option (Int32 × jh)) (hL : ∀ f, L (f + 1) = f_X13_fitsEnd_h11 (fun y17 h16 => jz y17 h16) (L f)) : ∀ k i b f, i + k = c → k + 1 ≤ f → L f m g (bn b) (nI i) (pm h m s) = some (bn (b && alls (ntP v N g) k i), pm h m s) := by
  intro k
  induction k with
  | zero =>
    intro i b f hi hf
    obtain ⟨f, rfl⟩ : ∃ g, f = g + 1 := ⟨f - 1, by omega⟩
    rw [hL]
    unfold f_X13_fitsEnd_h11
    simp (discharger := omega) only [↓al_m, al_lit, al_add, al_mul, bd_some, pm_cV, pm_gR2, bn_0, bn_1, bn_jz, pm_gI22, hR.1, al_le]
    rw [if_pos (by omega), alls, Bool.and_true]
  | succ k ih =>
    intro i b f hi hf
    obtain ⟨f, rfl⟩ : ∃ g, f = g + 1 := ⟨f - 1, by omega⟩
    rw [hL]
    unfold f_X13_fitsEnd_h11 f_X13_fitsEnd_b59
    obtain ⟨x, y, d, n0, hx, n1, hy, hy', n2, hd⟩ := hN i (by omega)
    obtain ⟨r0, r1, r2⟩ := hR.2 i (by omega)
    rw [n0] at r0
    rw [n1] at r1
    rw [n2] at r2
    have et : ntP v N g i = (wbe v x y g == decide (d = 1)) := by
      unfold ntP
      rw [n0, n1, n2, cl_in hx (by decide), cl_in (by omega) (by decide)]
      simp (discharger := omega) only [al_eq]
    rw [alls, et]
    simp (discharger := omega) only [↓al_m, al_lit, al_add, al_mul, bd_some, pm_cV, pm_gR2, bn_0, bn_1, bn_jz, pm_gI22, hR.1, al_le, al_eq, pm_gR23, pm_gR24, pm_gR25, rd23, rd24, rd25, r0, r1, r2, t_would R W]
    rw [if_neg (by omega)]
    have i0 := ih (i + 1) false f (by omega) (by omega)
    have i1 := ih (i + 1) true f (by omega) (by omega)
    rw [show bn false = nI 0 from rfl] at i0
    rw [show bn true = nI 1 from rfl] at i1
    rw [i0, i1]
    have hd' : d = 0 ∨ d = 1 := by omega
    cases b <;> cases wbe v x y g <;> rcases hd' with rfl | rfl <;> simp [bn]
theorem t_fitE {h : jh} {m : Nat} {s : ms} {v : vw} (R : RowV (s 2) v) (W : WFv v) (c : Nat) (N : ms) (hc : c ≤ 8) (hN : NT c N) (hR : RN s c N) (p : Nat) (hp : p < 16) : f_X13_fitsEnd m (nI p) (pm h m s) = some (bn (fitg v c N (fll v p)), pm h m s) := by
  obtain ⟨f, hf⟩ := jfu_s
  unfold f_X13_fitsEnd
  rw [pm_cV, t_fall R W p hp, bd_some]
  exact t_fitE_l R W c N hc hN hR _ _ (fun _ => rfl) c 0 true jfu (by omega) (by omega)
theorem t_fit_l {h : jh} {m : Nat} {s : ms} {v : vw} (R : RowV (s 2) v) (W : WFv v) (c : Nat) (N : ms) (hc : c ≤ 8) (hN : NT c N) (hR : RN s c N) (L : Nat → Nat → Int32 → Int32 → jh → Option (Int32 × jh)) (hL : ∀ f, L (f + 1) = f_X13_fitting_h4 (fun y9 h8 => some (y9, h8)) (L f)) : ∀ k i a f, i + k = 16 → k + 1 ≤ f → L f m a (nI i) (pm h m s) = some (bts (fun p => decide (v 0 p = 1) && fitg v c N (fll v p)) k i a, pm h m s) := by
  intro k
  induction k with
  | zero =>
    intro i a f hi hf
    obtain ⟨f, rfl⟩ : ∃ g, f = g + 1 := ⟨f - 1, by omega⟩
    rw [hL]
    unfold f_X13_fitting_h4
    simp (discharger := omega) only [↓al_m, al_lit, al_add, al_mul, bd_some, pm_cV, pm_gR2, bn_0, bn_1, bn_jz, al_le]
    rw [if_pos (by omega), bts]
  | succ k ih =>
    intro i a f hi hf
    obtain ⟨f, rfl⟩ : ∃ g, f = g + 1 := ⟨f - 1, by omega⟩
    rw [hL]
    unfold f_X13_fitting_h4
    have e := t_fitE (h := h) (m := m) R W c N hc hN hR i (by omega)
    simp (discharger := omega) only [↓al_m, al_lit, al_add, al_mul, bd_some, pm_cV, pm_gR2, bn_0, bn_1, bn_jz, al_le, t_there R W, e, or_0, bI_eq]
    rw [if_neg (by omega), bts, ih _ _ f (by omega) (by omega), ih _ _ f (by omega) (by omega)]
    by_cases h0 : v 0 i = 1 <;> cases fitg v c N (fll v i) <;> simp [h0]
theorem t_fit {h : jh} {m : Nat} {s : ms} {T : ta} (R : RowV (s 2) T.1) (W : WFv T.1) (hc : T.2.2.2.1 ≤ 8) (hN : NT T.2.2.2.1 T.2.2.2.2) (hR : RN s T.2.2.2.1 T.2.2.2.2) : f_X13_fitting m (pm h m s) = some (fitb T, pm h m s) := by
  obtain ⟨f, hf⟩ := jfu_s
  exact t_fit_l R W _ _ hc hN hR _ (fun _ => rfl) 15 1 (nI 0) jfu (by omega) (by omega)
theorem r_fits {h : jh} {m : Nat} {s : ms} {T : ta} (R : RowV (s 2) T.1) (W : WFv T.1) (hc : T.2.2.2.1 ≤ 8) (hN : NT T.2.2.2.1 T.2.2.2.2) (hR : RN s T.2.2.2.1 T.2.2.2.2) : rA h m s (f_X13_fits m (pm h m s)) (0, fitb T) := by
  unfold f_X13_fits
  refine ra_in fun s1 h0 e1 ee => ?_
  have R1 : RowV (s1 2) T.1 := by rw [e1]; exact R
  have hR1 : RN s1 T.2.2.2.1 T.2.2.2.2 := by unfold RN; rw [ee 22 (by decide), ee 23 (by decide), ee 24 (by decide), ee 25 (by decide)]; exact hR
  rw [pm_cV, t_fit R1 W hc hN hR1, bd_some]
  exact ra_ok h0 _
theorem t_les_l {h : jh} {m : Nat} {s : ms} {v : vw} (R : RowV (s 2) v) (W : WFv v) (g : Int32) (x y : Nat) (hx : x < 8) (hy : y < 100) (K : Int32 → Int32 → jh → Option (Int32 × jh)) (L : Nat → Nat → Int32 → Int32 → Int32 → Int32 → Int32 → jh → Option (Int32 × jh)) (hL : ∀ f, L (f + 1) = f_X13_lesser_h6 K (L f)) : ∀ k i a f, i + k = 16 → k + 1 ≤ f → L f m (nI x) (nI y) g (nI a) (nI i) (pm h m s) = K g (nI (a + cnt (fun p => hb g p && wbe v x y (fll v p)) k i)) (pm h m s) := by
  intro k
  induction k with
  | zero =>
    intro i a f hi hf
    obtain ⟨f, rfl⟩ : ∃ g, f = g + 1 := ⟨f - 1, by omega⟩
    rw [hL]
    unfold f_X13_lesser_h6
    simp (discharger := omega) only [↓al_m, al_lit, al_add, al_mul, bd_some, pm_cV, pm_gR2, bn_0, bn_1, bn_jz, al_le]
    rw [if_pos (by omega), cnt, Nat.add_zero]
  | succ k ih =>
    intro i a f hi hf
    obtain ⟨f, rfl⟩ : ∃ g, f = g + 1 := ⟨f - 1, by omega⟩
    rw [hL]
    unfold f_X13_lesser_h6
    simp (discharger := omega) only [↓al_m, al_lit, al_add, al_mul, bd_some, pm_cV, pm_gR2, bn_0, bn_1, bn_jz, al_le, ts_1, t_fall R W, t_would R W, Nat.add_zero]
    rw [if_neg (by omega), cnt, ih _ _ f (by omega) (by omega), ih _ _ f (by omega) (by omega)]
    cases hb g i <;> cases wbe v x y (fll v i) <;> simp [Nat.add_assoc]
theorem t_les {h : jh} {m : Nat} {s : ms} {v : vw} (R : RowV (s 2) v) (W : WFv v) (P : Nat → Bool) (x y : Nat) (hx : x < 8) (hy : y < 100) : f_X13_lesser m (nI x) (nI y) (bts P 15 1 (nI 0)) (pm h m s) = some (nI (les v (bts P 15 1 (nI 0)) x y), pm h m s) := by
  obtain ⟨f, hf⟩ := jfu_s
  unfold f_X13_lesser
  refine (t_les_l R W _ x y hx hy _ _ (fun _ => rfl) 15 1 0 jfu (by omega) (by omega)).trans ?_
  have eb : cnt (hb (bts P 15 1 (nI 0))) 15 1 = cnt P 15 1 := by
    refine cnt_eq 15 1 (fun j h1 h2 => ?_)
    rw [bts_hb _ _ _ _ (by omega) j (by omega), hb_0]
    have : 1 ≤ j ∧ j < 16 := by omega
    simp [this]
  have es := cnt_split (hb (bts P 15 1 (nI 0))) (fun p => wbe v x y (fll v p)) 15 1
  have l1 := cnt_le P 15 1
  unfold les
  rw [bct_e, bd_some, lt1_e, bct_bts, Nat.zero_add]
  rw [eb] at es
  generalize cnt (fun p => hb (bts P 15 1 (nI 0)) p && wbe v x y (fll v p)) 15 1 = A at es ⊢
  generalize cnt (fun p => hb (bts P 15 1 (nI 0)) p && !(wbe v x y (fll v p))) 15 1 = B at es ⊢
  rw [← es, al_sub (by omega), show A + B - A = B by omega]
  by_cases h1 : B < A
  · rw [if_pos (by rw [al_lt (by omega) (by omega)]; exact h1), show min A B = B by omega]
  · rw [if_neg (by rw [al_lt (by omega) (by omega)]; exact h1), show min A B = A by omega]
theorem les_lt (v : vw) (g : Int32) (s n : Nat) : les v g s n ≤ 15 := by
  unfold les
  exact Nat.le_trans (Nat.min_le_left _ _) (cnt_le _ _ _)
theorem t_lk1 {h : jh} {m : Nat} {s : ms} {v : vw} (R : RowV (s 2) v) (W : WFv v) (P : Nat → Bool) (a : Int32) (x : Nat) (hx : x < 8) (R33 : Nat → Int32 → Int32 → Int32 → Int32 → Int32 → jh → Option (Int32 × jh)) (K33 : Int32 → Int32 → Int32 → jh → Option (Int32 × jh)) (K : Nat → Int32 → Int32 → Int32 → Int32 → Int32 → jh → Option (Int32 × jh)) (L : Nat → Nat → Int32 → Int32 → Int32 → Int32 → Int32 → Int32 → jh → Option (Int32 × jh)) (hL : ∀ f, L (f + 1) = f_X13_look_h46 R33 K33 K (L f)) : ∀ k i b t f, i + k = 21 → t ≤ 15 → k + 1 ≤ f → L f m a (bts P 15 1 (nI 0)) b (nI t) (nI x) (nI i) (pm h m s) = K m a (bts P 15 1 (nI 0)) (lk1 v (bts P 15 1 (nI 0)) x k i b t).1 (nI (lk1 v (bts P 15 1 (nI 0)) x k i b t).2) (nI x) (pm h m s) ∧ (lk1 v (bts P 15 1 (nI 0)) x k i b t).2 ≤ 15 := by
  intro k
  induction k with
  | zero =>
    intro i b t f hi ht hf
    obtain ⟨f, rfl⟩ : ∃ g, f = g + 1 := ⟨f - 1, by omega⟩
    rw [hL]
    unfold f_X13_look_h46
    simp (discharger := omega) only [↓al_m, al_lit, al_add, al_mul, bd_some, pm_cV, pm_gR2, bn_0, bn_1, bn_jz, al_lt]
    rw [if_pos (by omega), lk1]
    exact ⟨rfl, ht⟩
  | succ k ih =>
    intro i b t f hi ht hf
    obtain ⟨f, rfl⟩ : ∃ g, f = g + 1 := ⟨f - 1, by omega⟩
    rw [hL]
    unfold f_X13_look_h46
    have hl := les_lt v (bts P 15 1 (nI 0)) x i
    simp (discharger := omega) only [↓al_m, al_lit, al_add, al_mul, bd_some, pm_cV, pm_gR2, bn_0, bn_1, bn_jz, al_lt, t_les R W]
    rw [if_neg (by omega), lk1]
    by_cases h1 : t < les v (bts P 15 1 (nI 0)) x i
    · rw [if_pos h1, if_pos h1]
      exact ih _ _ _ f (by omega) hl (by omega)
    · rw [if_neg h1, if_neg h1]
      exact ih _ _ _ f (by omega) ht (by omega)
theorem t_lk0 {h : jh} {m : Nat} {s : ms} {v : vw} (R : RowV (s 2) v) (W : WFv v) (P : Nat → Bool) (a : Int32) (K : Int32 → Int32 → Int32 → jh → Option (Int32 × jh)) (L : Nat → Nat → Int32 → Int32 → Int32 → Int32 → Int32 → jh → Option (Int32 × jh)) (hL : ∀ f, L (f + 1) = f_X13_look_h33 K (L f)) : ∀ k i b t f, i + k = v 10 0 → t ≤ 15 → k + 1 ≤ f → L f m a (bts P 15 1 (nI 0)) b (nI t) (nI i) (pm h m s) = K a (lk0 v (bts P 15 1 (nI 0)) k i b t).1 (nI (lk0 v (bts P 15 1 (nI 0)) k i b t).2) (pm h m s) := by
  have hc := W.c0
  obtain ⟨f0, hf0⟩ := jfu_s
  intro k
  induction k with
  | zero =>
    intro i b t f hi ht hf
    obtain ⟨f, rfl⟩ : ∃ g, f = g + 1 := ⟨f - 1, by omega⟩
    rw [hL]
    unfold f_X13_look_h33
    simp (discharger := omega) only [↓al_m, al_lit, al_add, al_mul, bd_some, pm_cV, pm_gR2, bn_0, bn_1, bn_jz, v_of R, v_nm R, v_ct0 R, v_ct1 R, v_ct2 R, v_ar0 R W, v_ar1 R W, v_ar2 R W, v_dp0 R W, v_dp1 R W, v_dp2 R W, v_kp0 R W, v_kp1 R W, v_kp2 R W, v_gv R W, v_bg R W, v_rn R W, v_sh R W, al_le]
    rw [if_pos (by omega), lk0]
  | succ k ih =>
    intro i b t f hi ht hf
    obtain ⟨f, rfl⟩ : ∃ g, f = g + 1 := ⟨f - 1, by omega⟩
    rw [hL]
    unfold f_X13_look_h33
    simp (discharger := omega) only [↓al_m, al_lit, bd_some, pm_cV, v_of R, v_nm R, v_ct0 R, v_ct1 R, v_ct2 R, v_ar0 R W, v_ar1 R W, v_ar2 R W, v_dp0 R W, v_dp1 R W, v_dp2 R W, v_kp0 R W, v_kp1 R W, v_kp2 R W, v_gv R W, v_bg R W, v_rn R W, v_sh R W, al_le]
    rw [if_neg (by omega), lk0]
    obtain ⟨e1, e2⟩ := t_lk1 (h := h) (m := m) R W P a i (by omega) (L f) K (fun y15 y16 y17 y18 y19 y20 h14 => L f y15 y16 y17 y18 y19 (y20 + nI 1) h14) (jlp7 (f_X13_look_h46 (L f) K (fun y15 y16 y17 y18 y19 y20 h14 => L f y15 y16 y17 y18 y19 (y20 + nI 1) h14))) (fun _ => rfl) 20 1 b t jfu (by omega) ht (by omega)
    rw [e1, al_add]
    exact ih (i + 1) _ _ f (by omega) e2 (by omega)
theorem r_look {h : jh} {m : Nat} {s : ms} {T : ta} (R : RowV (s 2) T.1) (W : WFv T.1) (hc : T.2.2.2.1 ≤ 8) (hN : NT T.2.2.2.1 T.2.2.2.2) (hR : RN s T.2.2.2.1 T.2.2.2.2) (a : Int32) : rA h m s (f_X13_look m a (pm h m s)) (qLook T a) := by
  have hc0 := W.c0
  obtain ⟨f0, hf0⟩ := jfu_s
  unfold f_X13_look
  refine ra_in fun s1 h0 e1 ee => ?_
  have R1 : RowV (s1 2) T.1 := by rw [e1]; exact R
  have hR1 : RN s1 T.2.2.2.1 T.2.2.2.2 := by unfold RN; rw [ee 22 (by decide), ee 23 (by decide), ee 24 (by decide), ee 25 (by decide)]; exact hR
  rw [r_isIn, show decide ((0 : Int32) ≤ a ∧ a ≤ 1) = decide (cl a 2 < 2) from in_cl a 1 2 rfl (by decide), bd_some]
  unfold qLook
  rcases i_cases a 2 (by decide) with ⟨w, hw, rfl⟩ | ho
  · rw [cl_in hw (by decide), decide_eq_true hw, if_pos (show ¬ bn true = 0 by decide), if_pos hw, pm_cV, t_fit R1 W hc hN hR1, bd_some]
    unfold fitb
    have e9 := t_lk0 (h := h) (m := m) R1 W (fun p => decide (T.1 0 p = 1) && fitg T.1 T.2.2.2.1 T.2.2.2.2 (fll T.1 p)) (nI w) (fun y22 y23 y24 h21 => (if ¬ y22 = 0 then some (y24, h21) else some (y23, h21))) (jlp6 (f_X13_look_h33 (fun y22 y23 y24 h21 => (if ¬ y22 = 0 then some (y24, h21) else some (y23, h21))))) (fun _ => rfl) (T.1 10 0) 0 nm1 0 jfu (by omega) (by omega) (by omega)
    refine (congrArg (fun o => rA h m s1 o _) e9).mpr ?_
    try dsimp only
    have hw' : w = 0 ∨ w = 1 := by omega
    rcases hw' with rfl | rfl
    · rw [if_neg (show ¬ ¬ nI 0 = 0 by decide), if_pos rfl]; exact ra_ok h0 _
    · rw [if_pos (show ¬ nI 1 = 0 by decide), if_neg (by decide)]; exact ra_ok h0 _
  · rw [cl_out ho, show decide (2 < 2) = false from rfl, if_neg (show ¬ ¬ bn false = 0 by decide), if_neg (by decide)]
    exact ra_fail 1
/-! the class -/
theorem c_wbs_l {z : Nat} {H : jh} {b1 b2 : Nat} {Q Q2 : Nat → Option Nat} {I : Option Nat} {T TI : ta} {hi : Bool} {fl : Int32} {n : Nat} {tp : Nat → Int32} (C : CI z H b1 b2 Q Q2 I T hi TI fl n tp) (Wf : WFv T.1) (hc : T.2.2.2.1 ≤ 8) (hN : NT T.2.2.2.1 T.2.2.2.2) (g : Int32) (L : Nat → Nat → Nat → Int32 → Int32 → jh → Option (Int32 × jh)) (hL : ∀ f, L (f + 1) = f_X3_wouldBeSo_h2 (fun h27 => some (1, h27)) (L f)) : ∀ k i f, i + k = T.2.2.2.1 → k + 1 ≤ f → L f (z + 1 + 30) (z + 1 + 1) g (nI i) H = some (bn (alls (ntP T.1 T.2.2.2.2 g) k i), H) := by
  have hc0 := Wf.c0
  obtain ⟨W, hW, CW⟩ := C.wld
  obtain ⟨H0, rfl⟩ : ∃ H0, H = pw H0 (z + 1 + 1) W := ⟨H, hW.eq.symm⟩
  intro k
  induction k with
  | zero =>
    intro i f hi hf
    obtain ⟨f, rfl⟩ : ∃ g, f = g + 1 := ⟨f - 1, by omega⟩
    rw [hL]
    unfold f_X3_wouldBeSo_h2
    simp (discharger := omega) only [↓al_m, ↓al_m2, al_lit, al_add, al_mul, bd_some, bn_0, bn_1, bn_jz, C.n3, al_le]
    rw [if_pos (by omega), alls]; rfl
  | succ k ih =>
    intro i f hi hf
    obtain ⟨f, rfl⟩ : ∃ g, f = g + 1 := ⟨f - 1, by omega⟩
    rw [hL]
    unfold f_X3_wouldBeSo_h2 f_X3_wouldBeSo_b58 f_X3_wouldBeSo_b80
    obtain ⟨x, y, d, n0, hx, n1, hy, hy', n2, hd⟩ := hN i (by omega)
    have et : ntP T.1 T.2.2.2.2 g i = (wbe T.1 x y g == decide (d = 1)) := by
      unfold ntP
      rw [n0, n1, n2, cl_in hx (by decide), cl_in (by omega) (by decide)]
      simp (discharger := omega) only [al_eq]
    have hw := who_le T.1 x y
    rw [alls, et]
    have hd' : d = 0 ∨ d = 1 := by omega
    have bit0 : ∀ h, f_X12_bit (nI 0) h = some (nI 0, h) := fun h => c_bit false h
    have bit1 : ∀ h, f_X12_bit (nI 1) h = some (nI 1, h) := fun h => c_bit true h
    by_cases h2 : who T.1 x y = 16
    · have e : on 16 (who T.1 x y) = nm1 := if_pos h2
      simp (discharger := omega) only [↓al_m, ↓al_m2, al_lit, al_add, al_mul, bd_some, bn_0, bn_1, bn_jz, C.n3, al_le, al_eq, C.nr0, C.nr1, C.nr2, C.nt0 hc, C.nt1 hc, C.nt2 hc, n0, n1, n2, pw_gR0_0, pw_gR0_1, pw_gR9_0, pw_cV1, pw_cV10, c_treeHas0 CW Wf, c_holder CW Wf, e, bit0, bit1, ih _ f, if_true, if_false, not_true_eq_false, not_false_eq_true, Nat.reduceEqDiff, Nat.one_ne_zero, Nat.zero_ne_one]
      rw [if_neg (by omega), if_neg (by omega)]
      unfold wbe
      by_cases h1 : x < T.1 10 0 <;> rcases hd' with rfl | rfl <;> simp [h1, h2, bn]
    · have e : on 16 (who T.1 x y) = nI (who T.1 x y) := if_neg h2
      simp (discharger := omega) only [↓al_m, ↓al_m2, al_lit, al_add, al_mul, bd_some, bn_0, bn_1, bn_jz, C.n3, al_le, al_eq, C.nr0, C.nr1, C.nr2, C.nt0 hc, C.nt1 hc, C.nt2 hc, n0, n1, n2, pw_gR0_0, pw_gR0_1, pw_gR9_0, pw_cV1, pw_cV10, c_treeHas0 CW Wf, c_holder CW Wf, e, nm1_ne, c_holds, bit0, bit1, ih _ f, if_true, if_false, not_true_eq_false, not_false_eq_true, Nat.reduceEqDiff, Nat.one_ne_zero, Nat.zero_ne_one]
      rw [if_neg (by omega), if_neg (by omega)]
      unfold wbe
      by_cases h1 : x < T.1 10 0 <;> cases hb g (who T.1 x y) <;> rcases hd' with rfl | rfl <;> simp [h1, h2, bn]
