/-! the law: every call -/
theorem IV.le {z : Nat} {H : jh} {b1 b2 c1 c2 : Nat} (h : IV z H b1 b2) (h1 : b1 ≤ c1) (h2 : b2 ≤ c2) : IV z H c1 c2 := by
  obtain ⟨Q, Q2, I, T, hi, TI, fl, n, tp, s, fo, C, r⟩ := h
  exact ⟨Q, Q2, I, T, hi, TI, fl, n, tp, s, fo, C.le h1 h2, r⟩
theorem rA_s {h : jh} {m : Nat} {s : ms} {T : ta} {hi : Bool} {TI : ta} {fl : Int32} {n : Nat} {tp : Nat → Int32} (R : RS s T hi TI fl n tp) (hT : TO T) {o : Option (Int32 × jh)} {a : Nat × Int32} (k : rA h m s o a) : ∃ s', o = some (a.2, pm h m s') ∧ s' 1 0 = nI a.1 ∧ RS s' T hi TI fl n tp := by
  obtain ⟨s', e1, e2, e3⟩ := k
  exact ⟨s', e1, e2, RS_eq R hT.1.1 e3⟩
theorem ask1 {z : Nat} {H : jh} {b1 b2 : Nat} {Q Q2 : Nat → Option Nat} {I : Option Nat} {T TI : ta} {hi : Bool} {fl : Int32} {n : Nat} {tp : Nat → Int32} (C : CI z H b1 b2 Q Q2 I T hi TI fl n tp) {s : ms} {fo : Nat → Int64} (hm : Hm z H s) (ho : H.2.2 (z + 119) = jL 1 fo) (S : RS s T hi TI fl n tp) (tT : TO T) (tI : hi = true → TO TI) (b : BY n tp) {H1 : jh} (C1 : CI z H1 b1 b2 Q Q2 I T hi TI fl n tp) (kp : ∀ q, z + 100 ≤ q → q < z + 120 → H1.2.2 q = H.2.2 q) {oc : Option ((Int32 ⊕ String) × jh)} {a : Nat × Int32} (e : oc = cA H1 a) (ha : a.1 ≤ 1) {fr : jh → Option (Int32 × jh)} (hr : ∀ h, rA h (z + 100) s (fr (pm h (z + 100) s)) a) (R : jh → Option (Int32 × jh)) : ∃ H'', (bd (cVC H z 10 oc (fun v1 h2 => sL h2 (z + 119) 0 v1.toInt64 fun h3 => some (0, h3)) (fun E h1 => if E = "java/util/NoSuchElementException" then some (1, h1) else none)) fun v366 h367 => cV h367 (z + 100) 11 (fr h367) fun v370 h371 => cV h371 (z + 100) 11 (f_X13_thrown (z + 100) h371) fun v372 h373 => if v372 = v366 then (if ¬ v366 = 0 then R h373 else aL h373 (z + 119) 0 fun v376 => if lg_cmp v376 v370.toInt64 = 0 then R h373 else some (0, h373)) else some (0, h373)) = R H'' ∧ IV z H'' (b1 + 1) (b2 + 6) := by
  obtain ⟨H2, fo', e2, C2, k2, o2, f2⟩ := lw_q C C1 (by rw [kp _ (by omega) (by omega)]; exact ho) (e.trans (cA_n H1 a ha)) (KX := fun E h1 => if E = "java/util/NoSuchElementException" then some (1, h1) else none) (fun h0 h => by
    have : a.1 = 1 := by omega
    rw [this]
    exact if_pos rfl)
  rw [e2, bd_some]
  exact th C2 (hm.kp (fun q h1 h2 => by rw [k2 q h1 h2, kp q h1 (by omega)])) o2 f2 (by omega) (rA_s S tT (hr H2)) tT tI b R
theorem ask2 {z : Nat} {H : jh} {b1 b2 : Nat} {Q Q2 : Nat → Option Nat} {I : Option Nat} {T TI : ta} {hi : Bool} {fl : Int32} {n : Nat} {tp : Nat → Int32} (C : CI z H b1 b2 Q Q2 I T hi TI fl n tp) {s : ms} {fo : Nat → Int64} (hm : Hm z H s) (ho : H.2.2 (z + 119) = jL 1 fo) (S : RS s T hi TI fl n tp) (tT : TO T) (tI : hi = true → TO TI) (b : BY n tp) {H1 : jh} (C1 : CI z H1 b1 b2 Q Q2 I T hi TI fl n tp) (kp : ∀ q, z + 100 ≤ q → q < z + 120 → H1.2.2 q = H.2.2 q) {oc : Option ((Int32 ⊕ String) × jh)} {a : Nat × Int32} (e : oc = cA H1 a) (ha : a.1 ≤ 2) {fr : jh → Option (Int32 × jh)} (hr : ∀ h, rA h (z + 100) s (fr (pm h (z + 100) s)) a) (R : jh → Option (Int32 × jh)) : ∃ H'', (bd (cVC H z 10 oc (fun v1 h2 => sL h2 (z + 119) 0 v1.toInt64 fun h3 => some (0, h3)) (fun E h1 => if E = "java/util/NoSuchElementException" then some (1, h1) else if E = "java/lang/IllegalArgumentException" then some (2, h1) else none)) fun v366 h367 => cV h367 (z + 100) 11 (fr h367) fun v370 h371 => cV h371 (z + 100) 11 (f_X13_thrown (z + 100) h371) fun v372 h373 => if v372 = v366 then (if ¬ v366 = 0 then R h373 else aL h373 (z + 119) 0 fun v376 => if lg_cmp v376 v370.toInt64 = 0 then R h373 else some (0, h373)) else some (0, h373)) = R H'' ∧ IV z H'' (b1 + 1) (b2 + 6) := by
  obtain ⟨H2, fo', e2, C2, k2, o2, f2⟩ := lw_q C C1 (by rw [kp _ (by omega) (by omega)]; exact ho) (e.trans (cA_m H1 a)) (KX := fun E h1 => if E = "java/util/NoSuchElementException" then some (1, h1) else if E = "java/lang/IllegalArgumentException" then some (2, h1) else none) (fun h0 h => by
    by_cases h1 : a.1 = 1
    · rw [if_pos h1, h1]
      exact if_pos rfl
    · have : a.1 = 2 := by omega
      rw [if_neg h1, this]
      exact (if_neg (by decide)).trans (if_pos rfl))
  rw [e2, bd_some]
  exact th C2 (hm.kp (fun q h1 h2 => by rw [k2 q h1 h2, kp q h1 (by omega)])) o2 f2 ha (rA_s S tT (hr H2)) tT tI b R
theorem TO_sp {T : ta} (h : TO T) (P : Nat × Nat × List (Nat × List Int32)) : TO (tSp T P) := by
  unfold tSp
  split
  · exact ⟨runL_ok _ _ OK_0, Nat.zero_le _, fun i hi => absurd hi (Nat.not_lt_zero i), Nat.zero_le _, fun i hi => absurd hi (Nat.not_lt_zero i)⟩
  · exact TO_ref h 0
theorem law_spaces {z : Nat} {H : jh} {b1 b2 : Nat} {Q Q2 : Nat → Option Nat} {I : Option Nat} {T TI : ta} {hi : Bool} {fl : Int32} {n : Nat} {tp : Nat → Int32} (C : CI z H b1 b2 Q Q2 I T hi TI fl n tp) {s : ms} {fo : Nat → Int64} (hm : Hm z H s) (ho : H.2.2 (z + 119) = jL 1 fo) (S : RS s T hi TI fl n tp) (tT : TO T) (tI : hi = true → TO TI) (b : BY n tp) (a : Int32) (R : jh → Option (Int32 × jh)) : ∃ H'', (bd (f_L_spaces z a (z + 119) H) fun v366 h367 => cV h367 (z + 100) 11 (f_X13_spaces (z + 100) a h367) fun v370 h371 => cV h371 (z + 100) 11 (f_X13_thrown (z + 100) h371) fun v372 h373 => if v372 = v366 then (if ¬ v366 = 0 then R h373 else aL h373 (z + 119) 0 fun v376 => if lg_cmp v376 v370.toInt64 = 0 then R h373 else some (0, h373)) else some (0, h373)) = R H'' ∧ IV z H'' (b1 + 1) (b2 + 6) := by
  have h9 := b.1
  unfold f_L_spaces
  rcases i_cases a (n + 1) (by omega) with ⟨N, hN, rfl⟩ | hout
  · obtain ⟨H1, e1, C1, kp⟩ := k_spaces C b N (by omega)
    obtain ⟨H2, fo', e2, C2, k2, o2, f2⟩ := lw_q C C1 (by rw [kp _ (by omega) (by omega)]; exact ho) (a := (0, nI (prl (Byt tp N) N 61 0 0).1)) (E := "") e1 (KX := fun E h1 => if E = "java/lang/IllegalArgumentException" then some (1, h1) else none) (fun h0 h => absurd rfl h0)
    rw [e2, bd_some]
    obtain ⟨s', r1, r2, r3⟩ := r_spaces (h := H2) (m := z + 100) S tT b N (by omega)
    exact th C2 (hm.kp (fun q h1 h2 => by rw [k2 q h1 h2, kp q h1 (by omega)])) o2 f2 (Nat.zero_le _) (fr := fun h => f_X13_spaces (z + 100) (nI N) h) ⟨s', r1, r2, r3⟩ (TO_sp tT _) (fun g => tI (by
      by_cases h0 : (prl (Byt tp N) N 61 0 0).1 = 0
      · rw [if_pos h0] at g; cases g
      · rw [if_neg h0] at g; exact g)) ⟨Nat.zero_le _, fun j hj => absurd hj (Nat.not_lt_zero j)⟩ R
  · obtain ⟨H2, fo', e2, C2, k2, o2, f2⟩ := lw_q C C ho (a := (1, nI 0)) (E := "java/lang/IllegalArgumentException") (k_spacesX C b a hout) (KX := fun E h1 => if E = "java/lang/IllegalArgumentException" then some (1, h1) else none) (fun h0 h => if_pos rfl)
    rw [e2, bd_some]
    exact th C2 (hm.kp k2) o2 f2 (by show 1 ≤ 2; decide) (fr := fun h => f_X13_spaces (z + 100) a h) (rA_s S tT (r_spacesX S tT b a hout)) tT tI b R
theorem law_b {z : Nat} {H : jh} {b1 b2 N : Nat} {xs : Nat → Int32} {K23 : jh → Option (Int32 × jh)} {R23 : Nat → Nat → Nat → Int32 → jh → Option (Int32 × jh)} {x4 a0 a1 a2 a3 a4 a5 : Int32} (V : IV z H b1 b2) (X0 : ∀ (K : Int32 → Option (Int32 × jh)), xI N xs x4 K = K a0) (X1 : ∀ (K : Int32 → Option (Int32 × jh)), xI N xs (x4 + 1) K = K a1) (X2 : ∀ (K : Int32 → Option (Int32 × jh)), xI N xs (x4 + 2) K = K a2) (X3 : ∀ (K : Int32 → Option (Int32 × jh)), xI N xs (x4 + 3) K = K a3) (X4 : ∀ (K : Int32 → Option (Int32 × jh)), xI N xs (x4 + 4) K = K a4) (X5 : ∀ (K : Int32 → Option (Int32 × jh)), xI N xs (x4 + 5) K = K a5) (hlt : ¬ (Int32.ofNat N) - 6 < x4) : ∃ H', f_L_law_h23 N xs K23 R23 z (z + 100) (z + 119) x4 H = R23 z (z + 100) (z + 119) (x4 + 6) H' ∧ IV z H' (b1 + 1) (b2 + 6) := by
  have V0 := V
  obtain ⟨Q, Q2, I, T, hi, TI, fl, n, tp, s, fo, C, hm, ho, S, tT, tI, b⟩ := V
  have up : ∀ {o : Option (Int32 × jh)} {R : jh → Option (Int32 × jh)}, (∃ H', o = R H' ∧ IV z H' b1 b2) → ∃ H', o = R H' ∧ IV z H' (b1 + 1) (b2 + 6) := fun ⟨H', e, v⟩ => ⟨H', e, v.le (by omega) (by omega)⟩
  have kk : ∀ q, z + 100 ≤ q → q < z + 120 → H.2.2 q = H.2.2 q := fun _ _ _ => rfl
  have hN : NT T.2.2.2.1 T.2.2.2.2 := tT.2.2.2.2
  have hR : RN s T.2.2.2.1 T.2.2.2.2 := ⟨S.nn, S.nt⟩
  unfold f_L_law_h23
  rw [if_neg hlt, X0]
  generalize a0 &&& 63 = u
  by_cases u0 : u = 0
  · rw [if_pos u0]
    simp only [X1, X2, X3, X4, X5]
    obtain ⟨H', e, C', kp⟩ := k_feed C b.1 a1 a2 a3 a4 a5
    exact up (nt C hm ho e C' kp (fr := fun h => f_X13_feed (z + 100) a1 a2 a3 a4 a5 h) (r_feed S tT b.1 a1 a2 a3 a4 a5) tT tI (by
      by_cases h9 : n + 20 ≤ 900
      · rw [if_pos h9, if_pos h9]; exact BY_fd b h9 _ _ _ _ _
      · rw [if_neg h9, if_neg h9]; exact b) (R23 z (z + 100) (z + 119) (x4 + 6)))
  rw [if_neg u0]
  by_cases u1 : u = 1
  · rw [if_pos u1]
    simp only [X1]
    exact law_spaces C hm ho S tT tI b a1 (R23 z (z + 100) (z + 119) (x4 + 6))
  rw [if_neg u1]
  by_cases u2 : u = 2
  · rw [if_pos u2]
    exact up (nt C hm ho (k_fault C) C kk (fr := fun h => f_X13_fault (z + 100) h) (r_fault S tT) tT tI b (R23 z (z + 100) (z + 119) (x4 + 6)))
  rw [if_neg u2]
  by_cases u3 : u = 3
  · rw [if_pos u3]
    simp only [X1]
    exact ask1 C hm ho S tT tI b C kk (k_count C tT.1.1 a1) (le_count _ _ _) (fr := fun h => f_X13_count (z + 100) a1 h) (fun h => r_count S.row tT.1.1 S.ac S.nn S.tn S.st a1) (R23 z (z + 100) (z + 119) (x4 + 6))
  rw [if_neg u3]
  by_cases u4 : u = 4
  · rw [if_pos u4]
    simp only [X1, X2]
    exact ask1 C hm ho S tT tI b C kk (k_process C tT.1.1 a1 a2) (le_process _ _ _) (fr := fun h => f_X13_process (z + 100) a1 a2 h) (fun h => r_process S.row tT.1.1 a1 a2) (R23 z (z + 100) (z + 119) (x4 + 6))
  rw [if_neg u4]
  by_cases u5 : u = 5
  · rw [if_pos u5]
    simp only [X1, X2, X3]
    exact ask1 C hm ho S tT tI b C kk (k_space C tT.1.1 a1 a2 a3) (le_space _ _ _ _) (fr := fun h => f_X13_space (z + 100) a1 a2 a3 h) (fun h => r_space S.row tT.1.1 a1 a2 a3) (R23 z (z + 100) (z + 119) (x4 + 6))
  rw [if_neg u5]
  by_cases u6 : u = 6
  · rw [if_pos u6]
    simp only [X1, X2]
    exact ask1 C hm ho S tT tI b C kk (k_number C tT.1.1 a1 a2) (le_number _ _ _) (fr := fun h => f_X13_number (z + 100) a1 a2 h) (fun h => r_number S.row tT.1.1 a1 a2) (R23 z (z + 100) (z + 119) (x4 + 6))
  rw [if_neg u6]
  by_cases u7 : u = 7
  · rw [if_pos u7]
    simp only [X1, X2]
    exact ask1 C hm ho S tT tI b C kk (k_listed C tT.1.1 a1 a2) (le_listed _ _ _) (fr := fun h => f_X13_listed (z + 100) a1 a2 h) (fun h => r_listed S.row tT.1.1 a1 a2) (R23 z (z + 100) (z + 119) (x4 + 6))
  rw [if_neg u7]
  by_cases u8 : u = 8
  · rw [if_pos u8]
    simp only [X1, X2]
    exact ask2 C hm ho S tT tI b C kk (k_inside C tT.1.1 a1 a2) (le_inside _ _ _) (fr := fun h => f_X13_inside (z + 100) a1 a2 h) (fun h => r_inside S.row tT.1.1 a1 a2) (R23 z (z + 100) (z + 119) (x4 + 6))
  rw [if_neg u8]
  by_cases u9 : u = 9
  · rw [if_pos u9]
    simp only [X1, X2]
    exact ask2 C hm ho S tT tI b C kk (k_outside C tT.1.1 a1 a2) (le_outside _ _ _) (fr := fun h => f_X13_outside (z + 100) a1 a2 h) (fun h => r_outside S.row tT.1.1 a1 a2) (R23 z (z + 100) (z + 119) (x4 + 6))
  rw [if_neg u9]
  by_cases u10 : u = 10
  · rw [if_pos u10]
    simp only [X1, X2, X3]
    exact ask1 C hm ho S tT tI b C kk (k_range C tT.1.1 a1 a2 a3) (le_range _ _ _ _) (fr := fun h => f_X13_range (z + 100) a1 a2 a3 h) (fun h => r_range S.row tT.1.1 a1 a2 a3) (R23 z (z + 100) (z + 119) (x4 + 6))
  rw [if_neg u10]
  by_cases u11 : u = 11
  · rw [if_pos u11]
    simp only [X1, X2]
    exact ask1 C hm ho S tT tI b C kk (k_mounted C tT.1.1 a1 a2) (le_mounted _ _ _) (fr := fun h => f_X13_mounted (z + 100) a1 a2 h) (fun h => r_mounted S.row tT.1.1 a1 a2) (R23 z (z + 100) (z + 119) (x4 + 6))
  rw [if_neg u11]
  by_cases u12 : u = 12
  · rw [if_pos u12]
    simp only [X1, X2, X3]
    exact ask1 C hm ho S tT tI b C kk (k_may C tT.1.1 tT.1.2 a1 a2 a3) (le_may _ _ _ _) (fr := fun h => f_X13_may (z + 100) a1 a2 a3 h) (fun h => r_may S.row tT.1.1 a1 a2 a3) (R23 z (z + 100) (z + 119) (x4 + 6))
  rw [if_neg u12]
  by_cases u13 : u = 13
  · rw [if_pos u13]
    simp only [X1, X2]
    exact ask1 C hm ho S tT tI b C kk (k_over C tT.1.1 a1 a2) (le_over _ _ _) (fr := fun h => f_X13_over (z + 100) a1 a2 h) (fun h => r_over S.row tT.1.1 a1 a2) (R23 z (z + 100) (z + 119) (x4 + 6))
  rw [if_neg u13]
  by_cases u14 : u = 14
  · rw [if_pos u14]
    simp only [X1]
    obtain ⟨H', Q', e, C', kp⟩ := k_call0 C tT a1
    exact up (nt C hm ho e C' kp (fr := fun h => f_X13_fork (z + 100) a1 h) (r_call0 S tT a1) (TO_act tT _ (OK_do tT.1 _ _ _ _ _ _)) tI b (R23 z (z + 100) (z + 119) (x4 + 6)))
  rw [if_neg u14]
  by_cases u15 : u = 15
  · rw [if_pos u15]
    simp only [X1, X2]
    obtain ⟨H', Q', e, C', kp⟩ := k_create C tT a1 a2
    exact up (nt C hm ho e C' kp (fr := fun h => f_X13_create (z + 100) a1 a2 h) (r_create S tT a1 a2) (by
      by_cases h3 : cl a2 3 < 3
      · rw [if_pos h3]; exact TO_act tT _ (OK_do tT.1 _ _ _ _ _ _)
      · rw [if_neg h3]; exact TO_ref tT 1) tI b (R23 z (z + 100) (z + 119) (x4 + 6)))
  rw [if_neg u15]
  by_cases u16 : u = 16
  · rw [if_pos u16]
    simp only [X1, X2, X3, X4, X5]
    obtain ⟨H', Q', e, C', kp⟩ := k_map C tT a1 a2 a3 a4 a5
    exact up (nt C hm ho e C' kp (fr := fun h => f_X13_map (z + 100) a1 a2 a3 a4 a5 h) (r_map S tT a1 a2 a3 a4 a5) (TO_act tT _ (OK_do tT.1 _ _ _ _ _ _)) tI b (R23 z (z + 100) (z + 119) (x4 + 6)))
  rw [if_neg u16]
  by_cases u17 : u = 17
  · rw [if_pos u17]
    simp only [X1, X2]
    obtain ⟨H', Q', e, C', kp⟩ := k_call5 C tT a1 a2
    exact up (nt C hm ho e C' kp (fr := fun h => f_X13_become (z + 100) a1 a2 h) (r_call5 S tT a1 a2) (TO_act tT _ (OK_do tT.1 _ _ _ _ _ _)) tI b (R23 z (z + 100) (z + 119) (x4 + 6)))
  rw [if_neg u17]
  by_cases u18 : u = 18
  · rw [if_pos u18]
    simp only [X1, X2, X3]
    obtain ⟨H', Q', e, C', kp⟩ := k_call6 C tT a1 a2 a3
    exact up (nt C hm ho e C' kp (fr := fun h => f_X13_mount (z + 100) a1 a2 a3 h) (r_call6 S tT a1 a2 a3) (TO_act tT _ (OK_do tT.1 _ _ _ _ _ _)) tI b (R23 z (z + 100) (z + 119) (x4 + 6)))
  rw [if_neg u18]
  by_cases u19 : u = 19
  · rw [if_pos u19]
    simp only [X1]
    obtain ⟨H', Q', e, C', kp⟩ := k_call10 C tT a1
    exact up (nt C hm ho e C' kp (fr := fun h => f_X13_share (z + 100) a1 h) (r_call10 S tT a1) (TO_act tT _ (OK_do tT.1 _ _ _ _ _ _)) tI b (R23 z (z + 100) (z + 119) (x4 + 6)))
  rw [if_neg u19]
  by_cases u20 : u = 20
  · rw [if_pos u20]
    simp only [X1, X2, X3]
    obtain ⟨H', Q', e, C', kp⟩ := k_enter C tT a1 a2 a3
    exact up (nt C hm ho e C' kp (fr := fun h => f_X13_enter (z + 100) a1 a2 a3 h) (r_enter S tT a1 a2 a3) (TO_act tT _ (OK_do tT.1 _ _ _ _ _ _)) tI b (R23 z (z + 100) (z + 119) (x4 + 6)))
  rw [if_neg u20]
  by_cases u21 : u = 21
  · rw [if_pos u21]
    simp only [X1]
    obtain ⟨H', Q', e, C', kp⟩ := k_call8 C tT a1
    exact up (nt C hm ho e C' kp (fr := fun h => f_X13_end (z + 100) a1 h) (r_call8 S tT a1) (TO_act tT _ (OK_do tT.1 _ _ _ _ _ _)) tI b (R23 z (z + 100) (z + 119) (x4 + 6)))
  rw [if_neg u21]
  by_cases u22 : u = 22
  · rw [if_pos u22]
    simp only [X1, X2]
    obtain ⟨H', Q', e, C', kp⟩ := k_call9 C tT a1 a2
    exact up (nt C hm ho e C' kp (fr := fun h => f_X13_kill (z + 100) a1 a2 h) (r_call9 S tT a1 a2) (TO_act tT _ (OK_do tT.1 _ _ _ _ _ _)) tI b (R23 z (z + 100) (z + 119) (x4 + 6)))
  rw [if_neg u22]
  by_cases u23 : u = 23
  · rw [if_pos u23]
    obtain ⟨H', e, C', kp⟩ := k_undo C tT
    exact up (nt C hm ho e C' kp (fr := fun h => f_X13_undo (z + 100) h) (r_undo S tT) (TO_undo tT) tI b (R23 z (z + 100) (z + 119) (x4 + 6)))
  rw [if_neg u23]
  by_cases u24 : u = 24
  · rw [if_pos u24]
    simp only [X1, X2]
    obtain ⟨H', e, C', kp⟩ := k_set C tT.1.1 a1 a2
    exact ask1 C hm ho S tT tI b C' kp e (le_set _ _ _) (fr := fun h => f_X13_set (z + 100) a1 a2 h) (fun h => r_set S.row tT.1.1 a1 a2) (R23 z (z + 100) (z + 119) (x4 + 6))
  rw [if_neg u24]
  by_cases u25 : u = 25
  · rw [if_pos u25]
    simp only [X1, X2]
    exact ask1 C hm ho S tT tI b C kk (k_shared C tT.1.1 a1 a2) (le_shared _ _ _) (fr := fun h => f_X13_shared (z + 100) a1 a2 h) (fun h => r_shared S.row tT.1.1 a1 a2) (R23 z (z + 100) (z + 119) (x4 + 6))
  rw [if_neg u25]
  by_cases u26 : u = 26
  · rw [if_pos u26]
    simp only [X1, X2]
    obtain ⟨H', e, C', kp⟩ := k_steps C tT.1.1 a1 a2
    exact ask1 C hm ho S tT tI b C' kp e (le_steps _ _ _) (fr := fun h => f_X13_steps (z + 100) a1 a2 h) (fun h => r_steps S.row tT.1.1 a1 a2) (R23 z (z + 100) (z + 119) (x4 + 6))
  rw [if_neg u26]
  by_cases u27 : u = 27
  · rw [if_pos u27]
    unfold f_L_law_b1707 f_L_law_b1737
    simp only [X1, X2, X3]
    by_cases h3 : a3 = 0
    · simp only [h3, if_true]
      obtain ⟨H', e, C', kp⟩ := k_note C tT a1 a2 false
      exact up (nt C hm ho e C' kp (fr := fun h => f_X13_note (z + 100) a1 a2 0 h) (r_note S tT a1 a2 false) (TO_note tT a1 a2 false) tI b (R23 z (z + 100) (z + 119) (x4 + 6)))
    · simp only [if_neg h3]
      obtain ⟨H', e, C', kp⟩ := k_note C tT a1 a2 true
      exact up (nt C hm ho e C' kp (fr := fun h => f_X13_note (z + 100) a1 a2 1 h) (r_note S tT a1 a2 true) (TO_note tT a1 a2 true) tI b (R23 z (z + 100) (z + 119) (x4 + 6)))
  rw [if_neg u27]
  by_cases u28 : u = 28
  · rw [if_pos u28]
    refine up (nt C hm ho (k_fits C tT.1.1 tT.2.2.2.1 hN) C kk (fr := fun h => f_X13_fits (z + 100) h) ?_ tT tI b (R23 z (z + 100) (z + 119) (x4 + 6)))
    obtain ⟨s', e1, e2, e3⟩ := rA_s S tT (r_fits (h := H) (m := z + 100) S.row tT.1.1 tT.2.2.2.1 hN hR)
    exact ⟨s', e1, e3⟩
  rw [if_neg u28]
  by_cases u29 : u = 29
  · rw [if_pos u29]
    simp only [X1]
    exact ask1 C hm ho S tT tI b C kk (k_look C tT.1.1 tT.2.2.2.1 hN a1) (le_look _ _) (fr := fun h => f_X13_look (z + 100) a1 h) (fun h => r_look S.row tT.1.1 tT.2.2.2.1 hN hR a1) (R23 z (z + 100) (z + 119) (x4 + 6))
  rw [if_neg u29]
  by_cases u30 : u = 30
  · rw [if_pos u30]
    obtain ⟨H', e, C', kp⟩ := k_forget C
    exact up (nv C hm ho e C' kp (fr := fun h => f_X13_forget (z + 100) h) (r_forget S tT) (TO_fgt tT) tI b (R23 z (z + 100) (z + 119) (x4 + 6)))
  rw [if_neg u30]
  by_cases u31 : u = 31
  · rw [if_pos u31]
    simp only [X1, X2, X3]
    obtain ⟨H', e, C', kp⟩ := k_years C tT a1 a2 a3
    exact ask2 C hm ho S tT tI b C' kp e (le_years _ _ _ _) (fr := fun h => f_X13_years (z + 100) a1 a2 a3 h) (fun h => r_years S.row tT.1 a1 a2 a3) (R23 z (z + 100) (z + 119) (x4 + 6))
  rw [if_neg u31]
  by_cases u32 : u = 32
  · rw [if_pos u32]
    obtain ⟨H', Q2', I', e, C', kp⟩ := k_image C tT
    exact up (nv C hm ho e C' kp (fr := fun h => f_X13_image (z + 100) h) (r_image S tT) tT (fun _ => tT) b (R23 z (z + 100) (z + 119) (x4 + 6)))
  rw [if_neg u32]
  by_cases u33 : u = 33
  · rw [if_pos u33]
    obtain ⟨H', Q', e, C', kp⟩ := k_restore C tI
    exact up (nt C hm ho e C' kp (fr := fun h => f_X13_restore (z + 100) h) (r_restore S tT tI) (by
      by_cases h0 : hi = true
      · rw [if_pos h0]; exact tI h0
      · rw [if_neg h0]; exact tT) tI b (R23 z (z + 100) (z + 119) (x4 + 6)))
  rw [if_neg u33]
  exact ⟨H, rfl, V0.le (by omega) (by omega)⟩
