/-! the class: images by call; the tape; acts by call -/
theorem DA_cg {z t : Nat} {D D' : Nat → Option Nat} {I : Option Nat} (h : DA z t D I) (e : ∀ k, k < 82 → D' k = D k) : DA z t D' I :=
  ⟨fun k b hk hb => h.1 k b hk (by rw [← e k hk]; exact hb), fun k l b c hk hl hne hb hc => h.2.1 k l b c hk hl hne (by rw [← e k hk]; exact hb) (by rw [← e l hl]; exact hc), h.2.2.1, fun i k b hi hk hb => h.2.2.2 i k b hi hk (by rw [← e k hk]; exact hb)⟩
theorem nfr_cg {D D' : Nat → Option Nat} (e : ∀ k, k < 82 → D' k = D k) : nfr D' = nfr D := by
  unfold nfr
  exact cnt_eq 82 0 (fun j _ hj => by rw [e j (by omega)])
theorem dd_of {Q Q2 D : Nat → Option Nat} (h1 : ∀ j, j < 41 → D (0 + j) = Q j) (h2 : ∀ j, j < 41 → D (41 + j) = Q2 j) : ∀ k, k < 82 → dd Q Q2 k = D k := by
  intro k hk
  by_cases e : k < 41
  · rw [dd_1 _ _ _ e, ← h1 k e, Nat.zero_add]
  · have := h2 (k - 41) (by omega)
    rw [show 41 + (k - 41) = k by omega] at this
    rw [this]
    unfold dd
    rw [if_neg e]
theorem CI.re2 {z : Nat} {H : jh} {b1 b2 : Nat} {Q Q2 : Nat → Option Nat} {I : Option Nat} {T TI : ta} {hi : Bool} {fl : Int32} {n : Nat} {tp : Nat → Int32} (C : CI z H b1 b2 Q Q2 I T hi TI fl n tp) {H' : jh} {b1' b2' : Nat} {Q' Q2' : Nat → Option Nat} {I' : Option Nat} {T' TI' : ta} {hi' : Bool} {fl' : Int32} {P : Nat → Prop} (F : Fz H H' P) (hP : ∀ q, P q → (z ≤ q ∧ q < z + 36) ∨ z + 120 ≤ q) (ob : ∃ sd, H'.2.2 z = jO 10 (obf z fl' sd I' hi')) (sc : SC H' (z + 1) Q' T') (im : ∀ i, I' = some i → SX H' i Q2' ∧ (hi' = true → SC H' i Q2' TI')) (ih : hi' = true → ∃ i, I' = some i) (iq : I' = none → ∀ k, k < 41 → Q2' k = none) (da : DA z H'.1 (dd Q' Q2') I') (dh : ∀ k b, k < 82 → dd Q' Q2' k = some b → HB H' b) (p1 : H'.1 + 28 * nfr (dd Q' Q2') + (if I' = none then 35 else 0) ≤ b1') (p2 : H'.2.1 + 465 * nfr (dd Q' Q2') + (if I' = none then 543 else 0) ≤ b2') : CI z H' b1' b2' Q' Q2' I' T' hi' TI' fl' n tp ∧ ∀ q, z + 100 ≤ q → q < z + 120 → H'.2.2 q = H.2.2 q := by
  have hz := C.hz
  have hH := F.1
  refine ⟨⟨by omega, ob, sc, C.st.fz F (by omega) (fun q g1 g2 g3 => by have := hP q g3; omega), C.sp.fz F (by omega) (fun q g1 g2 g3 => by have := hP q g3; omega), C.rd.fz F hz (fun q g1 g2 g3 => by have := hP q g3; omega), C.re.fz F hz (fun q g1 g2 g3 => by have := hP q g3; omega), ?_, im, ih, iq, da, dh, p1, p2⟩, fun q g1 g2 => F.2 q (by omega) (fun g3 => by have := hP q g3; omega)⟩
  obtain ⟨f, e⟩ := C.dr
  exact ⟨f, by rw [F.2 _ (by omega) (fun g3 => by have := hP _ g3; omega)]; exact e⟩
theorem k_img18 {z : Nat} {H : jh} {b1 b2 : Nat} {Q Q2 : Nat → Option Nat} {i : Nat} {T TI : ta} {hi : Bool} {fl : Int32} {n : Nat} {tp : Nat → Int32} (C : CI z H b1 b2 Q Q2 (some i) T hi TI fl n tp) (hT : TO T) : ∃ H' Q2', f_X12_image_b18 z H = some ((), H') ∧ CI z H' b1 b2 Q Q2' (some i) T true T fl n tp ∧ ∀ q, z + 100 ≤ q → q < z + 120 → H'.2.2 q = H.2.2 q := by
  have hz := C.hz
  have A := C.da
  have Ai := A.2.2.1 i rfl
  obtain ⟨sd, hob⟩ := C.ob
  obtain ⟨SXi, -⟩ := C.im i rfl
  have blk : ∀ (t : Nat) (D : Nat → Option Nat), DA z t D (some i) → ∀ k b, k < 82 → D k = some b → (i + 35 ≤ b ∨ b + 28 ≤ i) ∧ (z + 1 + 35 ≤ b ∨ b + 28 ≤ z + 1) := by
    intro t D hD k b hk hb
    have g1 := hD.1 k b hk hb
    have g2 := hD.2.2.2 i k b rfl hk hb
    exact ⟨g2, Or.inl (by omega)⟩
  obtain ⟨H1, Q2', D', e1, sca, scc, A1, hDa, hDc, hB1, F1, m1, m2⟩ := k_copyS (z := z) (I := some i) (D := dd Q Q2) SXi C.sc hT hz A 41 0 (Or.inr ⟨rfl, rfl⟩) (fun j hj => dd_2 _ _ _) (fun j hj => by rw [Nat.zero_add]; exact dd_1 _ _ _ hj) C.dh (Or.inr (by omega)) (by omega) (by omega) blk
  have ed := dd_of (Q := Q) (Q2 := Q2') (D := D') hDc hDa
  have nP : ∀ q, (i ≤ q ∧ q < i + 35) ∨ inW Q2' q → z + 120 ≤ q := by
    rintro q (hq | ⟨j, b, k1, k2, k3, k4⟩)
    · omega
    · have := A1.1 (41 + j) b (by omega) (by rw [hDa j k1]; exact k2)
      omega
  have hob1 : H1.2.2 z = jO 10 (obf z fl sd (some i) hi) := by rw [F1.2 z (by omega) (fun g => by have := nP z g; omega)]; exact hob
  obtain ⟨xa, ka, ca, n1, n2, n3, rf, Sa, -⟩ := SXi
  unfold f_X12_image_b18
  rw [gQ_of hob rfl, C.r0, nn_some, cV_of Sa.1, e1, bd_some, pV_of hob1 (Nat.le_of_ble_eq_true rfl)]
  have F2 : Fz H1 (jv_wr H1 z (jO 10 ((obf z fl sd (some i) hi).set 9 (.int 1)))) (fun q => q = z) := Fz_wr _ _ _ _ rfl
  have ii : ∀ k b, k < 82 → D' k = some b → z + 120 ≤ b ∧ b + 28 ≤ H1.1 := fun k b hk hb => A1.1 k b hk hb
  refine ⟨_, Q2', rfl, C.re2 (P := fun q => (i ≤ q ∧ q < i + 35) ∨ inW Q2' q ∨ q = z) ((F1.mono (fun q hq => hq.imp id Or.inl)).tr (F2.mono (fun q hq => Or.inr (Or.inr hq)))) (fun q hq => ?_) ⟨sd, wr_at _ _ _⟩ ?_ ?_ (fun _ => ⟨i, rfl⟩) (fun h => by cases h) (DA_cg A1 ed) ?_ ?_ ?_⟩
  · rcases hq with hq | hq | hq
    · omega
    · exact Or.inr (nP q (Or.inr hq))
    · omega
  · refine scc.fz F2 (by have := F1.1; omega) (fun q g1 g2 => by omega) (fun k b hk hb => ?_)
    have := ii (0 + k) b (by omega) (by rw [hDc k hk]; exact hb)
    exact ⟨by omega, fun q g1 g2 => by omega⟩
  · intro i' hi'
    cases hi'
    have : SC (jv_wr H1 z (jO 10 ((obf z fl sd (some i) hi).set 9 (.int 1)))) i Q2' T := sca.fz F2 (by have := F1.1; omega) (fun q g1 g2 => by omega) (fun k b hk hb => by
      have := ii (41 + k) b (by omega) (by rw [hDa k hk]; exact hb)
      exact ⟨by omega, fun q g1 g2 => by omega⟩)
    exact ⟨this.b, fun _ => this⟩
  · intro k b hk hb
    rw [ed k hk] at hb
    have := ii k b hk hb
    exact (hB1 k b hk hb).fz F2 (by omega) (fun q g1 g2 => by omega)
  · have := C.p1
    rw [nfr_cg ed]
    show H1.1 + 28 * nfr D' + (if (some i : Option Nat) = none then 35 else 0) ≤ b1
    rw [m1]
    exact this
  · have := C.p2
    rw [nfr_cg ed]
    show H1.2.1 + 465 * nfr D' + (if (some i : Option Nat) = none then 543 else 0) ≤ b2
    rw [m2]
    exact this
theorem stl_w (a d : Nat) (hd : d < 28) : (stl a)[d + 1]? = some (wc (a + 1) W0 d) := by
  unfold stl
  rw [List.getElem?_cons_succ, List.getElem?_append_left (by rw [wls_len]; exact hd)]
  exact wls_at (a + 1) d hd
theorem stl_len (a : Nat) : (stl a).length = 35 := rfl
theorem SX_new (H : jh) : SX (ext H (stl H.1) 543) H.1 (fun _ => none) :=
  ⟨0, 0, 0, fun _ => 0, fun _ => 0, fun _ => 0, fun _ => 0, ⟨ext_at (d := 0) rfl, ext_at (d := 29) rfl, ext_at (d := 30) rfl, ext_at (d := 31) rfl, ext_at (d := 32) rfl, ext_at (d := 33) rfl, ext_at (d := 34) rfl⟩, W0, fun d hd => by rw [Nat.add_assoc, Nat.add_comm 1 d]; exact ext_at (stl_w H.1 d hd)⟩
theorem k_image {z : Nat} {H : jh} {b1 b2 : Nat} {Q Q2 : Nat → Option Nat} {I : Option Nat} {T TI : ta} {hi : Bool} {fl : Int32} {n : Nat} {tp : Nat → Int32} (C : CI z H b1 b2 Q Q2 I T hi TI fl n tp) (hT : TO T) : ∃ H' Q2' I', f_X12_image z H = some ((), H') ∧ CI z H' b1 b2 Q Q2' I' T true T fl n tp ∧ ∀ q, z + 100 ≤ q → q < z + 120 → H'.2.2 q = H.2.2 q := by
  have hz := C.hz
  have A := C.da
  obtain ⟨sd, hob⟩ := C.ob
  unfold f_X12_image
  cases I with
  | some i =>
    rw [gQ_of hob rfl, nq_some]
    obtain ⟨H', Q2', g1, g2⟩ := k_img18 C hT
    exact ⟨H', Q2', some i, g1, g2⟩
  | none =>
    have hi0 : hi = false := by
      cases hi
      · rfl
      · obtain ⟨i, h⟩ := C.ih rfl
        cases h
    subst hi0
    rw [gQ_no hob rfl, nq_none, nO_0, i_X8, bd_some]
    have F1 : Fz H (ext H (stl H.1) 543) (fun _ => False) := ⟨by show H.1 ≤ H.1 + _; omega, fun q hq _ => ext_out (by omega)⟩
    have hob1 : (ext H (stl H.1) 543).2.2 z = jO 10 (obf z fl sd none false) := by rw [ext_out (by omega)]; exact hob
    rw [pV_of hob1 (Nat.le_of_ble_eq_true rfl)]
    have F2 : Fz (ext H (stl H.1) 543) (jv_wr (ext H (stl H.1) 543) z (jO 10 ((obf z fl sd none false).set 8 (.ref H.1)))) (fun q => q = z) := Fz_wr _ _ _ _ rfl
    have h1 : (ext H (stl H.1) 543).1 = H.1 + 35 := rfl
    have iq := C.iq rfl
    have ed : ∀ k, k < 82 → dd Q (fun _ => none) k = dd Q Q2 k := by
      intro k hk
      unfold dd
      by_cases e : k < 41
      · rw [if_pos e, if_pos e]
      · rw [if_neg e, if_neg e, iq (k - 41) (by omega)]
    have p1 := C.p1
    have p2 := C.p2
    rw [if_pos rfl] at p1 p2
    have A' : DA z (H.1 + 35) (dd Q (fun _ => none)) (some H.1) := by
      refine ⟨fun k b hk hb => ?_, (DA_cg A ed).2.1, fun i hi => ?_, fun i k b hi hk hb => ?_⟩
      · have := (DA_cg A ed).1 k b hk hb; omega
      · cases hi; omega
      · cases hi
        have := (DA_cg A ed).1 k b hk hb; omega
    have key := C.re2 (Q' := Q) (Q2' := fun _ => none) (I' := some H.1) (T' := T) (TI' := TI) (hi' := false) (fl' := fl) (b1' := b1) (b2' := b2) (P := fun q => q = z) ((F1.mono (fun q hq => hq.elim)).tr F2) (fun q hq => by omega) ⟨sd, wr_at _ _ _⟩ (C.sc.fz ((F1.mono (fun q hq => hq.elim)).tr F2) (by omega) (fun q g1 g2 => by omega) (fun k b hk hb => by
        have := A.q1 k b hk hb
        exact ⟨by omega, fun q g1 g2 => by omega⟩)) (fun i hi => by
        cases hi
        exact ⟨(SX_new H).fz F2 (by omega) (fun q g1 g2 => by omega), fun h => by cases h⟩) (fun h => by cases h) (fun h => by cases h) A' (fun k b hk hb => by
        rw [ed k hk] at hb
        have := A.1 k b hk hb
        exact (C.dh k b hk hb).fz ((F1.mono (fun q hq => hq.elim)).tr F2) (by omega) (fun q g1 g2 => by omega)) (by
        rw [nfr_cg ed]
        show H.1 + 35 + 28 * nfr (dd Q Q2) + (if (some H.1 : Option Nat) = none then 35 else 0) ≤ b1
        rw [if_neg (by simp)]
        omega) (by
        rw [nfr_cg ed]
        show H.2.1 + 543 + 465 * nfr (dd Q Q2) + (if (some H.1 : Option Nat) = none then 543 else 0) ≤ b2
        rw [if_neg (by simp)]
        omega)
    obtain ⟨H', Q2', g1, g2, g3⟩ := k_img18 key.1 hT
    exact ⟨H', Q2', some H.1, g1, g2, fun q k1 k2 => (g3 q k1 k2).trans (key.2 q k1 k2)⟩
theorem k_restore {z : Nat} {H : jh} {b1 b2 : Nat} {Q Q2 : Nat → Option Nat} {I : Option Nat} {T TI : ta} {hi : Bool} {fl : Int32} {n : Nat} {tp : Nat → Int32} (C : CI z H b1 b2 Q Q2 I T hi TI fl n tp) (hTI : hi = true → TO TI) : ∃ H' Q', f_X12_restore z H = some (bn hi, H') ∧ CI z H' b1 b2 Q' Q2 I (if hi = true then TI else T) hi TI fl n tp ∧ ∀ q, z + 100 ≤ q → q < z + 120 → H'.2.2 q = H.2.2 q := by
  have hz := C.hz
  have A := C.da
  obtain ⟨sd, hob⟩ := C.ob
  unfold f_X12_restore
  rw [C.i9]
  cases hi with
  | false =>
    rw [if_pos (show bn false = 0 by decide), if_neg (by decide)]
    exact ⟨H, Q, rfl, C, fun _ _ _ => rfl⟩
  | true =>
    obtain ⟨i, hI⟩ := C.ih rfl
    subst hI
    have Ai := A.2.2.1 i rfl
    obtain ⟨SXi, SCi⟩ := C.im i rfl
    have SCi := SCi rfl
    have blk : ∀ (t : Nat) (D : Nat → Option Nat), DA z t D (some i) → ∀ k b, k < 82 → D k = some b → (z + 1 + 35 ≤ b ∨ b + 28 ≤ z + 1) ∧ (i + 35 ≤ b ∨ b + 28 ≤ i) := by
      intro t D hD k b hk hb
      have g1 := hD.1 k b hk hb
      have g2 := hD.2.2.2 i k b rfl hk hb
      exact ⟨Or.inl (by omega), g2⟩
    obtain ⟨H1, Q', D', e1, sca, scc, A1, hDa, hDc, hB1, F1, m1, m2⟩ := k_copyS (z := z) (I := some i) (D := dd Q Q2) C.sc.b SCi (hTI rfl) hz A 0 41 (Or.inl ⟨rfl, rfl⟩) (fun j hj => by rw [Nat.zero_add]; exact dd_1 _ _ _ hj) (fun j hj => dd_2 _ _ _) C.dh (Or.inl (by omega)) (by omega) (by omega) blk
    have ed := dd_of (Q := Q') (Q2 := Q2) (D := D') hDa hDc
    have nP : ∀ q, (z + 1 ≤ q ∧ q < z + 1 + 35) ∨ inW Q' q → (z + 1 ≤ q ∧ q < z + 36) ∨ z + 120 ≤ q := by
      rintro q (hq | ⟨j, b, k1, k2, k3, k4⟩)
      · omega
      · have := A1.1 (0 + j) b (by omega) (by rw [hDa j k1]; exact k2)
        omega
    rw [if_neg (show ¬ bn true = 0 by decide), gQ_of hob rfl, nq_some, C.r0, gQ_of hob rfl, nn_some, C.cvs, e1, bd_some, if_pos rfl]
    refine ⟨H1, Q', rfl, C.re2 F1 (fun q hq => by have := nP q hq; omega) ⟨sd, ?_⟩ sca (fun i' hi' => ?_) (fun _ => ⟨i, rfl⟩) (fun h => by cases h) (DA_cg A1 ed) (fun k b hk hb => ?_) ?_ ?_⟩
    · rw [F1.2 z (by omega) (fun g => by have := nP z g; omega)]; exact hob
    · cases hi'
      exact ⟨scc.b, fun _ => scc⟩
    · rw [ed k hk] at hb
      exact hB1 k b hk hb
    · have := C.p1
      rw [nfr_cg ed, m1]
      exact this
    · have := C.p2
      rw [nfr_cg ed, m2]
      exact this
/-! acts by call -/
theorem k_call0 {z : Nat} {H : jh} {b1 b2 : Nat} {Q Q2 : Nat → Option Nat} {I : Option Nat} {T TI : ta} {hi : Bool} {fl : Int32} {n : Nat} {tp : Nat → Int32} (C : CI z H b1 b2 Q Q2 I T hi TI fl n tp) (hT : TO T) (x : Int32) : ∃ H' Q', f_X12_fork z x H = some ((dDo T.1 0 x 0 0 0 0).1, H') ∧ CI z H' b1 b2 Q' Q2 I (tAct T (dDo T.1 0 x 0 0 0 0)) hi TI fl n tp ∧ ∀ q, z + 100 ≤ q → q < z + 120 → H'.2.2 q = H.2.2 q := by
  obtain ⟨H', Q', e1, e2⟩ := k_act C hT 0 x 0 0 0 0 (by decide)
  refine ⟨H', Q', ?_, e2⟩
  unfold f_X12_fork
  rw [C.cv, e1, bd_some]
theorem k_call5 {z : Nat} {H : jh} {b1 b2 : Nat} {Q Q2 : Nat → Option Nat} {I : Option Nat} {T TI : ta} {hi : Bool} {fl : Int32} {n : Nat} {tp : Nat → Int32} (C : CI z H b1 b2 Q Q2 I T hi TI fl n tp) (hT : TO T) (x a : Int32) : ∃ H' Q', f_X12_become z x a H = some ((dDo T.1 5 x a 0 0 0).1, H') ∧ CI z H' b1 b2 Q' Q2 I (tAct T (dDo T.1 5 x a 0 0 0)) hi TI fl n tp ∧ ∀ q, z + 100 ≤ q → q < z + 120 → H'.2.2 q = H.2.2 q := by
  obtain ⟨H', Q', e1, e2⟩ := k_act C hT 5 x a 0 0 0 (by decide)
  refine ⟨H', Q', ?_, e2⟩
  unfold f_X12_become
  rw [C.cv, e1, bd_some]
theorem k_call6 {z : Nat} {H : jh} {b1 b2 : Nat} {Q Q2 : Nat → Option Nat} {I : Option Nat} {T TI : ta} {hi : Bool} {fl : Int32} {n : Nat} {tp : Nat → Int32} (C : CI z H b1 b2 Q Q2 I T hi TI fl n tp) (hT : TO T) (x a b : Int32) : ∃ H' Q', f_X12_mount z x a b H = some ((dDo T.1 6 x a b 0 0).1, H') ∧ CI z H' b1 b2 Q' Q2 I (tAct T (dDo T.1 6 x a b 0 0)) hi TI fl n tp ∧ ∀ q, z + 100 ≤ q → q < z + 120 → H'.2.2 q = H.2.2 q := by
  obtain ⟨H', Q', e1, e2⟩ := k_act C hT 6 x a b 0 0 (by decide)
  refine ⟨H', Q', ?_, e2⟩
  unfold f_X12_mount
  rw [C.cv, e1, bd_some]
theorem k_call10 {z : Nat} {H : jh} {b1 b2 : Nat} {Q Q2 : Nat → Option Nat} {I : Option Nat} {T TI : ta} {hi : Bool} {fl : Int32} {n : Nat} {tp : Nat → Int32} (C : CI z H b1 b2 Q Q2 I T hi TI fl n tp) (hT : TO T) (x : Int32) : ∃ H' Q', f_X12_share z x H = some ((dDo T.1 10 x 0 0 0 0).1, H') ∧ CI z H' b1 b2 Q' Q2 I (tAct T (dDo T.1 10 x 0 0 0 0)) hi TI fl n tp ∧ ∀ q, z + 100 ≤ q → q < z + 120 → H'.2.2 q = H.2.2 q := by
  obtain ⟨H', Q', e1, e2⟩ := k_act C hT 10 x 0 0 0 0 (by decide)
  refine ⟨H', Q', ?_, e2⟩
  unfold f_X12_share
  rw [C.cv, e1, bd_some]
theorem k_call8 {z : Nat} {H : jh} {b1 b2 : Nat} {Q Q2 : Nat → Option Nat} {I : Option Nat} {T TI : ta} {hi : Bool} {fl : Int32} {n : Nat} {tp : Nat → Int32} (C : CI z H b1 b2 Q Q2 I T hi TI fl n tp) (hT : TO T) (x : Int32) : ∃ H' Q', f_X12_end z x H = some ((dDo T.1 8 x 0 0 0 0).1, H') ∧ CI z H' b1 b2 Q' Q2 I (tAct T (dDo T.1 8 x 0 0 0 0)) hi TI fl n tp ∧ ∀ q, z + 100 ≤ q → q < z + 120 → H'.2.2 q = H.2.2 q := by
  obtain ⟨H', Q', e1, e2⟩ := k_act C hT 8 x 0 0 0 0 (by decide)
  refine ⟨H', Q', ?_, e2⟩
  unfold f_X12_end
  rw [C.cv, e1, bd_some]
theorem k_call9 {z : Nat} {H : jh} {b1 b2 : Nat} {Q Q2 : Nat → Option Nat} {I : Option Nat} {T TI : ta} {hi : Bool} {fl : Int32} {n : Nat} {tp : Nat → Int32} (C : CI z H b1 b2 Q Q2 I T hi TI fl n tp) (hT : TO T) (x a : Int32) : ∃ H' Q', f_X12_kill z x a H = some ((dDo T.1 9 x a 0 0 0).1, H') ∧ CI z H' b1 b2 Q' Q2 I (tAct T (dDo T.1 9 x a 0 0 0)) hi TI fl n tp ∧ ∀ q, z + 100 ≤ q → q < z + 120 → H'.2.2 q = H.2.2 q := by
  obtain ⟨H', Q', e1, e2⟩ := k_act C hT 9 x a 0 0 0 (by decide)
  refine ⟨H', Q', ?_, e2⟩
  unfold f_X12_kill
  rw [C.cv, e1, bd_some]
theorem k_map {z : Nat} {H : jh} {b1 b2 : Nat} {Q Q2 : Nat → Option Nat} {I : Option Nat} {T TI : ta} {hi : Bool} {fl : Int32} {n : Nat} {tp : Nat → Int32} (C : CI z H b1 b2 Q Q2 I T hi TI fl n tp) (hT : TO T) (x a b c d : Int32) : ∃ H' Q', f_X12_map z x a b c d H = some ((dDo T.1 4 x a b c d).1, H') ∧ CI z H' b1 b2 Q' Q2 I (tAct T (dDo T.1 4 x a b c d)) hi TI fl n tp ∧ ∀ q, z + 100 ≤ q → q < z + 120 → H'.2.2 q = H.2.2 q := by
  obtain ⟨H', Q', e1, e2⟩ := k_act C hT 4 x a b c d (by decide)
  refine ⟨H', Q', ?_, e2⟩
  unfold f_X12_map
  rw [C.cv, e1, bd_some]
theorem k_enter {z : Nat} {H : jh} {b1 b2 : Nat} {Q Q2 : Nat → Option Nat} {I : Option Nat} {T TI : ta} {hi : Bool} {fl : Int32} {n : Nat} {tp : Nat → Int32} (C : CI z H b1 b2 Q Q2 I T hi TI fl n tp) (hT : TO T) (x a k : Int32) : ∃ H' Q', f_X12_enter z x a k H = some ((dDo T.1 7 x a k 0 0).1, H') ∧ CI z H' b1 b2 Q' Q2 I (tAct T (dDo T.1 7 x a k 0 0)) hi TI fl n tp ∧ ∀ q, z + 100 ≤ q → q < z + 120 → H'.2.2 q = H.2.2 q := by
  obtain ⟨H', Q', e1, e2⟩ := k_act C hT 7 x a k 0 0 (by decide)
  refine ⟨H', Q', ?_, e2⟩
  unfold f_X12_enter
  rw [C.cv, e1, bd_some]
theorem k_create {z : Nat} {H : jh} {b1 b2 : Nat} {Q Q2 : Nat → Option Nat} {I : Option Nat} {T TI : ta} {hi : Bool} {fl : Int32} {n : Nat} {tp : Nat → Int32} (C : CI z H b1 b2 Q Q2 I T hi TI fl n tp) (hT : TO T) (x k : Int32) : ∃ H' Q', f_X12_create z x k H = some ((if cl k 3 < 3 then (dDo T.1 (if cl k 3 = 0 then 2 else if cl k 3 = 1 then 1 else 3) x 0 0 0 0).1 else nm1), H') ∧ CI z H' b1 b2 Q' Q2 I (if cl k 3 < 3 then tAct T (dDo T.1 (if cl k 3 = 0 then 2 else if cl k 3 = 1 then 1 else 3) x 0 0 0 0) else tRef T 1) hi TI fl n tp ∧ ∀ q, z + 100 ≤ q → q < z + 120 → H'.2.2 q = H.2.2 q := by
  unfold f_X12_create
  rcases i_cases k 3 (by decide) with ⟨w, hw, rfl⟩ | ho
  · rw [cl_in hw (by decide), if_pos hw, if_pos hw]
    have hw' : w = 0 ∨ w = 1 ∨ w = 2 := by omega
    rcases hw' with rfl | rfl | rfl
    · obtain ⟨H', Q', e1, e2⟩ := k_act C hT 2 x 0 0 0 0 (by decide)
      refine ⟨H', Q', ?_, e2⟩
      rw [if_pos (show nI 0 = 0 from rfl), C.cv, e1, bd_some]; rfl
    · obtain ⟨H', Q', e1, e2⟩ := k_act C hT 1 x 0 0 0 0 (by decide)
      refine ⟨H', Q', ?_, e2⟩
      rw [if_neg (show ¬ nI 1 = 0 by decide), if_pos (show nI 1 = 1 from rfl), C.cv, e1, bd_some]; rfl
    · obtain ⟨H', Q', e1, e2⟩ := k_act C hT 3 x 0 0 0 0 (by decide)
      refine ⟨H', Q', ?_, e2⟩
      rw [if_neg (show ¬ nI 2 = 0 by decide), if_neg (show ¬ nI 2 = 1 by decide), if_pos (show nI 2 = 2 from rfl), C.cv, e1, bd_some]; rfl
  · rw [cl_out ho, if_neg (show ¬ 3 < 3 by decide), if_neg (show ¬ 3 < 3 by decide)]
    simp (discharger := omega) only [al_lit, i_no ho (by decide), if_true, if_false, not_true_eq_false, not_false_eq_true, Nat.reduceEqDiff, Nat.one_ne_zero, Nat.zero_ne_one]
    obtain ⟨H1, kr, kc⟩ := k_ref C 1 (by decide)
    exact ⟨H1, Q, kr _, kc⟩
