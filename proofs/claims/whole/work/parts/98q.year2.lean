/-! years: the class -/
noncomputable def dOp (c : Nat) (sd : Int32) : Int32 := if c = 112 then nI (dn (nx sd) % 16) else if c = 115 then nI (dn (nx sd) % 8) else if c = 109 then nI (dn (nx sd) % 20 + 1) else if c = 107 then ykd (dn (nx sd) % 3) else nI (dn (nx sd) % 100)
/-- operands drawn one behind the other: F by a letter and a seed, N the next seed -/
def dOpg (F : Nat → Int32 → Int32) (N : Int32 → Int32) (cs : List Nat) : Nat → Nat → (Nat → Int32) → Int32 → (Nat → Int32) × Int32
  | 0, _, dr, sd => (dr, sd)
  | k + 1, i, dr, sd => dOpg F N cs k (i + 1) (upd dr i (F (cs.getD i 0) sd)) (N sd)
theorem dOpg_0 (F : Nat → Int32 → Int32) (N : Int32 → Int32) (cs : List Nat) (i : Nat) (dr : Nat → Int32) (sd : Int32) : dOpg F N cs 0 i dr sd = (dr, sd) := rfl
theorem dOpg_s (F : Nat → Int32 → Int32) (N : Int32 → Int32) (cs : List Nat) (k i : Nat) (dr : Nat → Int32) (sd : Int32) : dOpg F N cs (k + 1) i dr sd = dOpg F N cs k (i + 1) (upd dr i (F (cs.getD i 0) sd)) (N sd) := rfl
theorem dOpg_1 (F : Nat → Int32 → Int32) (N : Int32 → Int32) (dr : Nat → Int32) (sd : Int32) (c0 : Nat) : (dOpg F N [c0] 1 0 dr sd).1 0 = F c0 sd ∧ (dOpg F N [c0] 1 0 dr sd).2 = N sd := ⟨rfl, rfl⟩
theorem dOpg_2 (F : Nat → Int32 → Int32) (N : Int32 → Int32) (dr : Nat → Int32) (sd : Int32) (c0 c1 : Nat) : (dOpg F N [c0, c1] 2 0 dr sd).1 0 = F c0 sd ∧ (dOpg F N [c0, c1] 2 0 dr sd).1 1 = F c1 (N sd) ∧ (dOpg F N [c0, c1] 2 0 dr sd).2 = N (N sd) := ⟨rfl, rfl, rfl⟩
theorem dOpg_3 (F : Nat → Int32 → Int32) (N : Int32 → Int32) (dr : Nat → Int32) (sd : Int32) (c0 c1 c2 : Nat) : (dOpg F N [c0, c1, c2] 3 0 dr sd).1 0 = F c0 sd ∧ (dOpg F N [c0, c1, c2] 3 0 dr sd).1 1 = F c1 (N sd) ∧ (dOpg F N [c0, c1, c2] 3 0 dr sd).1 2 = F c2 (N (N sd)) ∧ (dOpg F N [c0, c1, c2] 3 0 dr sd).2 = N (N (N sd)) := ⟨rfl, rfl, rfl, rfl⟩
theorem dOpg_5 (F : Nat → Int32 → Int32) (N : Int32 → Int32) (dr : Nat → Int32) (sd : Int32) (c0 c1 c2 c3 c4 : Nat) : (dOpg F N [c0, c1, c2, c3, c4] 5 0 dr sd).1 0 = F c0 sd ∧ (dOpg F N [c0, c1, c2, c3, c4] 5 0 dr sd).1 1 = F c1 (N sd) ∧ (dOpg F N [c0, c1, c2, c3, c4] 5 0 dr sd).1 2 = F c2 (N (N sd)) ∧ (dOpg F N [c0, c1, c2, c3, c4] 5 0 dr sd).1 3 = F c3 (N (N (N sd))) ∧ (dOpg F N [c0, c1, c2, c3, c4] 5 0 dr sd).1 4 = F c4 (N (N (N (N sd)))) ∧ (dOpg F N [c0, c1, c2, c3, c4] 5 0 dr sd).2 = N (N (N (N (N sd)))) := ⟨rfl, rfl, rfl, rfl, rfl, rfl⟩
def csh (w : Nat) : List Nat := jv_tx.getD (jv_sh.getD w 0) []
theorem csh_b : ∀ w : Nat, w < 11 → jv_sh.getD w 0 < 17 ∧ (csh w).length ≤ 5 ∧ ∀ i, i < (csh w).length → (csh w).getD i 0 < 200 := by
  have : ∀ w : Fin 11, jv_sh.getD w.1 0 < 17 ∧ (csh w.1).length ≤ 5 ∧ ∀ i : Fin 5, i.1 < (csh w.1).length → (csh w.1).getD i.1 0 < 200 := by decide +kernel
  intro w hw
  obtain ⟨h1, h2, h3⟩ := this ⟨w, hw⟩
  exact ⟨h1, h2, fun i hi => h3 ⟨i, by have h2 : (csh w).length ≤ 5 := h2; omega⟩ hi⟩
theorem k_draw {z : Nat} {H : jh} {fl sd : Int32} {I : Option Nat} {hi : Bool} (e : H.2.2 z = jO 10 (obf z fl sd I hi)) (k : Nat) (h1 : 1 ≤ k) (h2 : k < 1000) : f_X12_draw z (nI k) H = some (nI (dn (nx sd) % k), jv_wr H z (jO 10 (obf z fl (nx sd) I hi))) := by
  unfold f_X12_draw
  rw [gI_of e rfl, pV_of e (Nat.le_of_ble_eq_true rfl), show (obf z fl sd I hi).set 7 (.int (sd * 1103515245 + 12345)) = obf z fl (nx sd) I hi from rfl, if_pos (show (1 : Int32) ≤ nI k by rw [show (1 : Int32) = nI 1 from rfl, al_le (by omega) (by omega)]; exact h1), gI_of (wr_at _ _ _) rfl, if_neg (show ¬ nI k = 0 by rw [show (0 : Int32) = nI 0 from rfl, al_eq (by omega) (by omega)]; omega), show ((nx sd).toUInt32 >>> ((16 : Int32).toUInt32 &&& Int32.toUInt32 31)).toInt32 &&& 32767 = nI (dn (nx sd)) from dn_u _, dn_m _ k h1 h2]
def YH (z : Nat) (H0 H : jh) (fl sd : Int32) (I : Option Nat) (hi : Bool) (dr : Nat → Int32) (v : vw) : Prop := H.2.2 z = jO 10 (obf z fl sd I hi) ∧ H.2.2 (z + 99) = jI 5 dr ∧ HV H (z + 64) v ∧ Fz H0 H (fun q => q = z ∨ (z + 64 ≤ q ∧ q < z + 92) ∨ q = z + 99) ∧ H.1 = H0.1 ∧ H.2.1 = H0.2.1 ∧ z + 120 ≤ H0.1
theorem YH.sd {z : Nat} {H0 H : jh} {fl sd : Int32} {I : Option Nat} {hi : Bool} {dr : Nat → Int32} {v : vw} (Y : YH z H0 H fl sd I hi dr v) (sd' : Int32) : YH z H0 (jv_wr H z (jO 10 (obf z fl sd' I hi))) fl sd' I hi dr v := by
  obtain ⟨y1, y2, y3, y4, y5, y6, y7⟩ := Y
  exact ⟨wr_at _ _ _, by rw [wr_ne _ _ _ _ (by omega)]; exact y2, y3.fr (Fr_wr _ _ _) (by omega), y4.tr (Fz_wr _ _ _ _ (Or.inl rfl)), y5, y6, y7⟩
theorem YH.dr {z : Nat} {H0 H : jh} {fl sd : Int32} {I : Option Nat} {hi : Bool} {dr : Nat → Int32} {v : vw} (Y : YH z H0 H fl sd I hi dr v) (dr' : Nat → Int32) : YH z H0 (jv_wr H (z + 99) (jI 5 dr')) fl sd I hi dr' v := by
  obtain ⟨y1, y2, y3, y4, y5, y6, y7⟩ := Y
  exact ⟨by rw [wr_ne _ _ _ _ (by omega)]; exact y1, wr_at _ _ _, y3.fr (Fr_wr _ _ _) (by omega), y4.tr (Fz_wr _ _ _ _ (Or.inr (Or.inr rfl))), y5, y6, y7⟩
theorem k_dOp {z : Nat} {H : jh} {fl sd : Int32} {I : Option Nat} {hi : Bool} (e : H.2.2 z = jO 10 (obf z fl sd I hi)) (c : Nat) (hc : c < 200) : f_X12_drawOperand z (nI c) H = some (dOp c sd, jv_wr H z (jO 10 (obf z fl (nx sd) I hi))) := by
  have kn : ∀ j, j < 200 → ((nI c = (OfNat.ofNat j : Int32)) ↔ c = j) := fun j hj => iff_of_eq (al_eq (by omega) (by omega))
  unfold f_X12_drawOperand dOp
  by_cases c1 : c = 112
  · rw [if_neg (not_not_intro ((kn 112 (by decide)).mpr c1)), if_pos c1, cV_of e, show f_X12_draw z 16 H = _ from k_draw e 16 (by decide) (by decide), bd_some]
  · rw [if_pos (mt (kn 112 (by decide)).mp c1), if_neg c1]
    by_cases c2 : c = 115
    · rw [if_neg (not_not_intro ((kn 115 (by decide)).mpr c2)), if_pos c2, cV_of e, show f_X12_draw z 8 H = _ from k_draw e 8 (by decide) (by decide), bd_some]
    · rw [if_pos (mt (kn 115 (by decide)).mp c2), if_neg c2]
      by_cases c3 : c = 109
      · rw [if_neg (not_not_intro ((kn 109 (by decide)).mpr c3)), if_pos c3, cV_of e, show f_X12_draw z 20 H = _ from k_draw e 20 (by decide) (by decide), bd_some, show (1 : Int32) + nI (dn (nx sd) % 20) = nI (1 + dn (nx sd) % 20) from al_add 1 _, Nat.add_comm 1]
      · rw [if_pos (mt (kn 109 (by decide)).mp c3), if_neg c3]
        by_cases c4 : c = 107
        · rw [if_neg (not_not_intro ((kn 107 (by decide)).mpr c4)), if_pos c4, cV_of e]
          unfold f_X12_drawKind
          rw [cV_of e, show f_X12_draw z 3 H = _ from k_draw e 3 (by decide) (by decide), bd_some]
          have hm : dn (nx sd) % 3 < 3 := Nat.mod_lt _ (by decide)
          generalize dn (nx sd) % 3 = k at hm ⊢
          have hk' : k = 0 ∨ k = 1 ∨ k = 2 := by omega
          rcases hk' with rfl | rfl | rfl
          · rw [if_neg (show ¬ ¬ nI 0 = 0 by decide), bd_some]; rfl
          · rw [if_pos (show ¬ nI 1 = 0 by decide), if_neg (show ¬ ¬ nI 1 = 1 by decide), bd_some]; rfl
          · rw [if_pos (show ¬ nI 2 = 0 by decide), if_pos (show ¬ nI 2 = 1 by decide), bd_some]; rfl
        · rw [if_pos (mt (kn 107 (by decide)).mp c4), if_neg c4, cV_of e, show f_X12_draw z 100 H = _ from k_draw e 100 (by decide) (by decide), bd_some]
theorem eS_e {β : Type} {e : Nat} (he : e < 11) (K : Nat → Option β) : eS e K = K (jv_sh.getD e 0) := if_pos he
theorem tL_e {β : Type} {t : Nat} (ht : t < 17) (K : Int32 → Option β) : tL t K = K (nI (jv_tx.getD t []).length) := if_pos ht
theorem tC_e {β : Type} {t i : Nat} (ht : t < 17) (hi : i < (jv_tx.getD t []).length) (hl : (jv_tx.getD t []).length < 1000) (K : Int32 → Option β) : tC t (nI i) K = K (nI ((jv_tx.getD t []).getD i 0)) := by
  unfold tC
  rw [if_pos ⟨ht, al_in hi (by omega)⟩, al_cl (by omega)]
  rfl
theorem c_ops_l {z : Nat} {H0 : jh} {fl : Int32} {I : Option Nat} {hi : Bool} {v : vw} (w : Nat) (hw : w < 11) (K : Nat → Nat → jh → Option (Int32 × jh)) (L : Nat → Nat → Nat → Int32 → jh → Option (Int32 × jh)) (hL : ∀ f, L (f + 1) = f_X12_live_h15 K (L f)) : ∀ k i f (H : jh) (sd : Int32) (dr : Nat → Int32), i + k = (csh w).length → k + 1 ≤ f → YH z H0 H fl sd I hi dr v → ∃ H', L f z w (nI i) H = K z w H' ∧ YH z H0 H' fl (dOpg dOp nx (csh w) k i dr sd).2 I hi (dOpg dOp nx (csh w) k i dr sd).1 v := by
  obtain ⟨b1, b2, b3⟩ := csh_b w hw
  intro k
  induction k with
  | zero =>
    intro i f H sd dr hi1 hf Y
    obtain ⟨f, rfl⟩ : ∃ g, f = g + 1 := ⟨f - 1, by omega⟩
    refine ⟨H, ?_, by rw [dOpg_0]; exact Y⟩
    rw [hL]
    unfold f_X12_live_h15
    rw [eS_e hw, tL_e b1, if_pos (by rw [al_le (by unfold csh at b2; omega) (by omega)]; unfold csh at hi1; omega)]
  | succ k ih =>
    intro i f H sd dr hi1 hf Y
    obtain ⟨f, rfl⟩ : ∃ g, f = g + 1 := ⟨f - 1, by omega⟩
    have hil : i < (csh w).length := by omega
    have hc := b3 i hil
    have Y1 := Y.sd (nx sd)
    have Y2 := Y1.dr (upd dr i (dOp ((csh w).getD i 0) sd))
    obtain ⟨H', e1, e2⟩ := ih (i + 1) f _ (nx sd) (upd dr i (dOp ((csh w).getD i 0) sd)) (by omega) (by omega) Y2
    refine ⟨H', ?_, by rw [dOpg_s]; exact e2⟩
    rw [hL]
    unfold f_X12_live_h15
    rw [eS_e hw, tL_e b1, if_neg (show ¬ nI (jv_tx.getD (jv_sh.getD w 0) []).length ≤ nI i by rw [al_le (by unfold csh at b2; omega) (by omega)]; unfold csh at hil; omega), if_neg (by rw [show (5 : Int32) = nI 5 from rfl, al_le (by omega) (by omega)]; omega), gR_of Y.1 rfl, eS_e hw, tC_e b1 hil (by unfold csh at b2; omega), cV_of Y.1, show f_X12_drawOperand z (nI ((jv_tx.getD (jv_sh.getD w 0) []).getD i 0)) H = _ from k_dOp Y.1 ((csh w).getD i 0) hc, bd_some, sI_of Y1.2.1 (by omega) (by decide), show nI i + 1 = nI (i + 1) from al_add i 1]
    exact e1
theorem csh_1 : csh 0 = [112] ∧ csh 1 = [112] ∧ csh 2 = [112] ∧ csh 3 = [112] ∧ csh 8 = [112] ∧ csh 10 = [112] := ⟨tx_11, tx_11, tx_11, tx_11, tx_11, tx_11⟩
theorem csh_4 : csh 4 = [112, 115, 110, 110, 109] := tx_12
theorem csh_5 : csh 5 = [112, 110] := tx_13
theorem csh_6 : csh 6 = [112, 115, 110] := tx_14
theorem csh_7 : csh 7 = [112, 112, 107] := tx_15
theorem csh_9 : csh 9 = [112, 112] := tx_16
/-- what a deed leaves aside -/
theorem dDo_0 (v : vw) (w : Nat) (hw : w < 4 ∨ w = 8 ∨ w = 10) (p a b c d a' b' c' d' : Int32) : dDo v w p a b c d = dDo v w p a' b' c' d' := by
  have : w = 0 ∨ w = 1 ∨ w = 2 ∨ w = 3 ∨ w = 8 ∨ w = 10 := by omega
  rcases this with rfl | rfl | rfl | rfl | rfl | rfl <;> simp [dDo]
theorem dDo_1 (v : vw) (w : Nat) (hw : w = 5 ∨ w = 9) (p a b c d b' c' d' : Int32) : dDo v w p a b c d = dDo v w p a b' c' d' := by
  rcases hw with rfl | rfl <;> simp [dDo]
theorem dDo_2 (v : vw) (w : Nat) (hw : w = 6 ∨ w = 7) (p a b c d c' d' : Int32) : dDo v w p a b c d = dDo v w p a b c' d' := by
  rcases hw with rfl | rfl <;> simp [dDo]
theorem y_eq (v : vw) (sd : Int32) (dr : Nat → Int32) : dDo v (yW sd) ((dOpg dOp nx (csh (yW sd)) (csh (yW sd)).length 0 dr (nx sd)).1 0) ((dOpg dOp nx (csh (yW sd)) (csh (yW sd)).length 0 dr (nx sd)).1 1) ((dOpg dOp nx (csh (yW sd)) (csh (yW sd)).length 0 dr (nx sd)).1 2) ((dOpg dOp nx (csh (yW sd)) (csh (yW sd)).length 0 dr (nx sd)).1 3) ((dOpg dOp nx (csh (yW sd)) (csh (yW sd)).length 0 dr (nx sd)).1 4) = yr v sd ∧ (dOpg dOp nx (csh (yW sd)) (csh (yW sd)).length 0 dr (nx sd)).2 = yS sd := by
  have hw : yW sd < 11 := Nat.mod_lt _ (by decide)
  have o112 : ∀ s, dOp 112 s = nI (dn (nx s) % 16) := fun s => if_pos rfl
  have o115 : ∀ s, dOp 115 s = nI (dn (nx s) % 8) := fun s => by unfold dOp; rw [if_neg (by decide), if_pos rfl]
  have o109 : ∀ s, dOp 109 s = nI (dn (nx s) % 20 + 1) := fun s => by unfold dOp; rw [if_neg (by decide), if_neg (by decide), if_pos rfl]
  have o107 : ∀ s, dOp 107 s = ykd (dn (nx s) % 3) := fun s => by unfold dOp; rw [if_neg (by decide), if_neg (by decide), if_neg (by decide), if_pos rfl]
  have o110 : ∀ s, dOp 110 s = nI (dn (nx s) % 100) := fun s => by unfold dOp; rw [if_neg (by decide), if_neg (by decide), if_neg (by decide), if_neg (by decide)]
  unfold yr yS
  have one : ∀ w, yW sd = w → csh w = [112] → (w < 4 ∨ w = 8 ∨ w = 10) → dDo v (yW sd) ((dOpg dOp nx (csh (yW sd)) (csh (yW sd)).length 0 dr (nx sd)).1 0) ((dOpg dOp nx (csh (yW sd)) (csh (yW sd)).length 0 dr (nx sd)).1 1) ((dOpg dOp nx (csh (yW sd)) (csh (yW sd)).length 0 dr (nx sd)).1 2) ((dOpg dOp nx (csh (yW sd)) (csh (yW sd)).length 0 dr (nx sd)).1 3) ((dOpg dOp nx (csh (yW sd)) (csh (yW sd)).length 0 dr (nx sd)).1 4) = dDo v (yW sd) (yP sd) (yA (yW sd) (nx (nx sd))).1 (yA (yW sd) (nx (nx sd))).2.1 (yA (yW sd) (nx (nx sd))).2.2.1 (yA (yW sd) (nx (nx sd))).2.2.2.1 ∧ (dOpg dOp nx (csh (yW sd)) (csh (yW sd)).length 0 dr (nx sd)).2 = (yA (yW sd) (nx (nx sd))).2.2.2.2 := by
    intro w ew ec hc
    rw [ew, ec]
    obtain ⟨d0, d1⟩ := dOpg_1 dOp nx dr (nx sd) 112
    rw [show ([112] : List Nat).length = 1 from rfl, d0, d1, o112]
    refine ⟨dDo_0 v w hc _ _ _ _ _ _ _ _ _, ?_⟩
    unfold yA
    rw [if_neg (by omega), if_neg (by omega), if_neg (by omega), if_neg (by omega), if_neg (by omega)]
  obtain ⟨k0, k1, k2, k3, k8, k10⟩ := csh_1
  have h11 : yW sd = 0 ∨ yW sd = 1 ∨ yW sd = 2 ∨ yW sd = 3 ∨ yW sd = 4 ∨ yW sd = 5 ∨ yW sd = 6 ∨ yW sd = 7 ∨ yW sd = 8 ∨ yW sd = 9 ∨ yW sd = 10 := by omega
  rcases h11 with e | e | e | e | e | e | e | e | e | e | e
  · exact one 0 e k0 (by decide)
  · exact one 1 e k1 (by decide)
  · exact one 2 e k2 (by decide)
  · exact one 3 e k3 (by decide)
  · rw [e, csh_4]
    obtain ⟨d0, d1, d2, d3, d4, d5⟩ := dOpg_5 dOp nx dr (nx sd) 112 115 110 110 109
    rw [show ([112, 115, 110, 110, 109] : List Nat).length = 5 from rfl, d0, d1, d2, d3, d4, d5, o112, o115, o110, o110, o109]
    unfold yA
    rw [if_neg (by decide), if_pos rfl]
    exact ⟨rfl, rfl⟩
  · rw [e, csh_5]
    obtain ⟨d0, d1, d2⟩ := dOpg_2 dOp nx dr (nx sd) 112 110
    rw [show ([112, 110] : List Nat).length = 2 from rfl, d0, d1, d2, o112, o110]
    unfold yA
    rw [if_neg (by decide), if_neg (by decide), if_pos rfl]
    exact ⟨dDo_1 v 5 (by decide) _ _ _ _ _ _ _ _, rfl⟩
  · rw [e, csh_6]
    obtain ⟨d0, d1, d2, d3⟩ := dOpg_3 dOp nx dr (nx sd) 112 115 110
    rw [show ([112, 115, 110] : List Nat).length = 3 from rfl, d0, d1, d2, d3, o112, o115, o110]
    unfold yA
    rw [if_neg (by decide), if_neg (by decide), if_neg (by decide), if_pos rfl]
    exact ⟨dDo_2 v 6 (by decide) _ _ _ _ _ _ _, rfl⟩
  · rw [e, csh_7]
    obtain ⟨d0, d1, d2, d3⟩ := dOpg_3 dOp nx dr (nx sd) 112 112 107
    rw [show ([112, 112, 107] : List Nat).length = 3 from rfl, d0, d1, d2, d3, o112, o112, o107]
    unfold yA
    rw [if_pos rfl]
    exact ⟨dDo_2 v 7 (by decide) _ _ _ _ _ _ _, rfl⟩
  · exact one 8 e k8 (by decide)
  · rw [e, csh_9]
    obtain ⟨d0, d1, d2⟩ := dOpg_2 dOp nx dr (nx sd) 112 112
    rw [show ([112, 112] : List Nat).length = 2 from rfl, d0, d1, d2, o112, o112]
    unfold yA
    rw [if_neg (by decide), if_neg (by decide), if_neg (by decide), if_neg (by decide), if_pos rfl]
    exact ⟨dDo_1 v 9 (by decide) _ _ _ _ _ _ _ _, rfl⟩
  · exact one 10 e k10 (by decide)
theorem eA_e {β : Type} {w : Nat} (hw : w < 11) (K : Nat → Option β) : eA (nI w) K = K w := by
  unfold eA
  rw [if_neg (al_in hw (by decide)), al_cl (by omega)]
theorem k_live {z : Nat} {H0 H : jh} {fl sd : Int32} {I : Option Nat} {hi : Bool} {dr : Nat → Int32} {v : vw} (Y : YH z H0 H fl sd I hi dr v) (O : OK v) : ∃ H' dr', f_X12_live z H = some (bn (decide (¬ (yr v sd).1 = nm1)), H') ∧ YH z H0 H' fl (yS sd) I hi dr' (yr v sd).2 := by
  obtain ⟨f0, hf0⟩ := jfu_s
  have hw : yW sd < 11 := Nat.mod_lt _ (by decide)
  have hl := (csh_b (yW sd) hw).2.1
  unfold f_X12_live
  rw [cV_of Y.1, show f_X12_draw z (Int32.ofNat 11) H = _ from k_draw Y.1 11 (by decide) (by decide), bd_some, show eA (nI (dn (nx sd) % 11)) _ = _ from eA_e (w := yW sd) hw _]
  have Y1 := Y.sd (nx sd)
  obtain ⟨H1, e1, Y2⟩ := c_ops_l (z := z) (H0 := H0) (fl := fl) (I := I) (hi := hi) (v := v) (yW sd) hw (fun y15 y16 h14 => f_X12_live_b55 y15 y16 h14) (jlp3 (f_X12_live_h15 (fun y15 y16 h14 => f_X12_live_b55 y15 y16 h14))) (fun _ => rfl) (csh (yW sd)).length 0 jfu _ (nx sd) dr (by omega) (by omega) Y1
  obtain ⟨q1, q2⟩ := y_eq v sd dr
  rw [q2] at Y2
  generalize hX : (dOpg dOp nx (csh (yW sd)) (csh (yW sd)).length 0 dr (nx sd)).1 = X at q1 Y2
  obtain ⟨y1, y2, y3, y4, y5, y6, y7⟩ := Y2
  obtain ⟨H2, e2, hv2, F2⟩ := HV_attempt y3 O (yW sd) (X 0) (X 1) (X 2) (X 3) (X 4) hw
  rw [q1] at e2 hv2
  obtain ⟨fs, w1⟩ := y3.b.at0
  refine ⟨H2, X, ?_, ⟨by rw [F2.2.2 z (by omega)]; exact y1, by rw [F2.2.2 (z + 99) (by omega)]; exact y2, hv2, y4.tr (F2.z.mono (fun q hq => Or.inr (Or.inl (by omega)))), by rw [F2.1]; exact y5, by rw [F2.2.1]; exact y6, y7⟩⟩
  refine Eq.trans e1 ?_
  show f_X12_live_b55 z (yW sd) H1 = _
  unfold f_X12_live_b55
  have a0 : ∀ {β : Type} (K : Int32 → Option β), aI H1 (z + 99) 0 K = K (X 0) := fun K => aI_of (j := 0) y2 (by decide) (by decide) K
  have a1 : ∀ {β : Type} (K : Int32 → Option β), aI H1 (z + 99) 1 K = K (X 1) := fun K => aI_of (j := 1) y2 (by decide) (by decide) K
  have a2 : ∀ {β : Type} (K : Int32 → Option β), aI H1 (z + 99) 2 K = K (X 2) := fun K => aI_of (j := 2) y2 (by decide) (by decide) K
  have a3 : ∀ {β : Type} (K : Int32 → Option β), aI H1 (z + 99) 3 K = K (X 3) := fun K => aI_of (j := 3) y2 (by decide) (by decide) K
  have a4 : ∀ {β : Type} (K : Int32 → Option β), aI H1 (z + 99) 4 K = K (X 4) := fun K => aI_of (j := 4) y2 (by decide) (by decide) K
  have g5 : ∀ {β : Type} (K : Nat → Option β), gR H1 z 10 5 K = K (z + 99) := fun K => gR_of y1 rfl K
  have g2 : ∀ {β : Type} (K : Nat → Option β), gR H1 z 10 2 K = K (z + 64) := fun K => gR_of y1 rfl K
  rw [g2, g5, a0, g5, a1, g5, a2, g5, a3, g5, a4, cV_of w1, e2, bd_some]
  by_cases h0 : (yr v sd).1 = nm1
  · rw [if_pos (show (yr v sd).1 = (-1 : Int32) from h0), decide_eq_false (not_not_intro h0)]; rfl
  · rw [if_neg (show ¬ (yr v sd).1 = (-1 : Int32) from h0), decide_eq_true h0]; rfl
theorem k_year_l {z : Nat} {H0 : jh} {fl : Int32} {I : Option Nat} {hi : Bool} (N : Nat) (hN : N ≤ 60) (a : Int32) (K : Nat → Int32 → Int32 → jh → Option ((Int32 ⊕ String) × jh)) (L : Nat → Nat → Int32 → Int32 → Int32 → Int32 → jh → Option ((Int32 ⊕ String) × jh)) (hL : ∀ f, L (f + 1) = f_X12_years_h60 K (L f)) : ∀ k i c f (H : jh) (sd : Int32) (dr : Nat → Int32) (v : vw), i + k = N → k + 1 ≤ f → YH z H0 H fl sd I hi dr v → OK v → ∃ H' sd' dr', L f z (nI N) a (nI c) (nI i) H = K z a (nI (yrs k v sd c).2) H' ∧ YH z H0 H' fl sd' I hi dr' (yrs k v sd c).1 := by
  intro k
  induction k with
  | zero =>
    intro i c f H sd dr v hi1 hf Y O
    obtain ⟨f, rfl⟩ : ∃ g, f = g + 1 := ⟨f - 1, by omega⟩
    refine ⟨H, sd, dr, ?_, by rw [yrs_0]; exact Y⟩
    rw [hL]
    unfold f_X12_years_h60
    rw [if_pos (by rw [al_le (by omega) (by omega)]; omega), yrs_0]
  | succ k ih =>
    intro i c f H sd dr v hi1 hf Y O
    obtain ⟨f, rfl⟩ : ∃ g, f = g + 1 := ⟨f - 1, by omega⟩
    obtain ⟨H1, dr1, e1, Y1⟩ := k_live Y O
    rw [hL]
    unfold f_X12_years_h60
    rw [if_neg (by rw [al_le (by omega) (by omega)]; omega), cV_of Y.1, e1, bd_some, show nI i + 1 = nI (i + 1) from al_add i 1, yrs_s]
    have O1 : OK (yr v sd).2 := yr_ok v _ O
    by_cases h0 : (yr v sd).1 = nm1
    · rw [decide_eq_false (not_not_intro h0), if_pos (show bn false = 0 by decide), if_pos h0]
      exact ih (i + 1) c f H1 _ dr1 _ (by omega) (by omega) Y1 O1
    · rw [decide_eq_true h0, if_neg (show ¬ bn true = 0 by decide), if_neg h0, show nI c + 1 = nI (c + 1) from al_add c 1]
      exact ih (i + 1) (c + 1) f H1 _ dr1 _ (by omega) (by omega) Y1 O1
theorem c_deep_l {h : jh} {w : Nat} {W : ms} {v : vw} (C : ClsV W v) (Wf : WFv v) (L : Nat → Nat → Int32 → Int32 → jh → Option (Int32 × jh)) (hL : ∀ f, L (f + 1) = f_X11_deepestNumberSpace_h4 (fun y15 h14 => some (y15, h14)) (L f)) : ∀ k i a f, i + k = 16 → a ≤ 4 → k + 1 ≤ f → L f w (nI a) (nI i) (pw h w W) = some (nI (dpl v k i a), pw h w W) := by
  intro k
  induction k with
  | zero =>
    intro i a f hi ha hf
    obtain ⟨f, rfl⟩ : ∃ g, f = g + 1 := ⟨f - 1, by omega⟩
    rw [hL]
    unfold f_X11_deepestNumberSpace_h4
    simp (discharger := omega) only [↓al_m, ↓al_m2, al_lit, al_add, al_mul, bd_some, bn_0, bn_1, bn_jz, al_le]
    rw [if_pos (by omega), dpl]
  | succ k ih =>
    intro i a f hi ha hf
    obtain ⟨f, rfl⟩ : ∃ g, f = g + 1 := ⟨f - 1, by omega⟩
    rw [hL]
    unfold f_X11_deepestNumberSpace_h4
    have h1 := Wf.pr i (by omega)
    have h2 := Wf.df0 (v 2 i) (by omega)
    have e1 : W 1 i = nI (v 2 i) := C.pa i 1 (by omega) (by decide)
    simp (discharger := omega) only [↓al_m, ↓al_m2, al_lit, al_add, al_mul, bd_some, bn_0, bn_1, bn_jz, al_le, al_lt, pw_gR0_0, pw_gR0_1, pw_cV1, c_has C, pw_gR9_0, pw_gR1_1, cr1, e1, pw_cV10, c_depth0 C Wf, lt1_e]
    rw [if_neg (by omega), dpl]
    by_cases h0 : v 0 i = 1
    · rw [if_pos h0, decide_eq_true h0, if_neg (by decide)]
      by_cases h3 : a < v 30 (v 2 i)
      · rw [if_pos h3, if_pos h3]; exact ih _ _ f (by omega) h2 (by omega)
      · rw [if_neg h3, if_neg h3]; exact ih _ _ f (by omega) ha (by omega)
    · rw [if_neg h0, decide_eq_false h0, if_pos rfl]; exact ih _ _ f (by omega) ha (by omega)
theorem k_years {z : Nat} {H : jh} {b1 b2 : Nat} {Q Q2 : Nat → Option Nat} {I : Option Nat} {T TI : ta} {hi : Bool} {fl : Int32} {n : Nat} {tp : Nat → Int32} (C : CI z H b1 b2 Q Q2 I T hi TI fl n tp) (hT : TO T) (sd k a : Int32) : ∃ H', f_X12_years z sd k a H = cA H' (qYears T.1 sd k a) ∧ CI z H' b1 b2 Q Q2 I T hi TI fl n tp ∧ ∀ q, z + 100 ≤ q → q < z + 120 → H'.2.2 q = H.2.2 q := by
  obtain ⟨f0, hf0⟩ := jfu_s
  have hz := C.hz
  have O := hT.1
  obtain ⟨sd0, hob⟩ := C.ob
  obtain ⟨dr0, hdr⟩ := C.dr
  obtain ⟨x0, n1, n2, n3, rf, S, hv, -⟩ := C.sc
  unfold f_X12_years qYears
  rcases i_cases a 3 (by decide) with ⟨w, hw, rfl⟩ | ho
  · rw [cl_in hw (by decide), if_pos hw, if_neg (by rw [al_neg (by omega)]; exact id), if_pos (show nI w ≤ 2 by rw [show (2 : Int32) = nI 2 from rfl, al_le (by omega) (by omega)]; omega)]
    rcases i_cases k 61 (by decide) with ⟨N, hN, rfl⟩ | hok
    · rw [cl_in hN (by decide), if_pos hN, if_neg (by rw [al_neg (by omega)]; exact id), if_pos (show nI N ≤ 60 by rw [show (60 : Int32) = nI 60 from rfl, al_le (by omega) (by omega)]; omega), C.r2, C.r0, C.s0]
      obtain ⟨H1, e1, hv1, F1⟩ := Hv_copy C.sp hv O.1.bd (by omega)
      obtain ⟨fs, w1⟩ := C.sp.at0
      have hob1 : H1.2.2 z = jO 10 (obf z fl sd0 I hi) := by rw [F1.2.2 z (by omega)]; exact hob
      rw [cV_of w1, e1, bd_some, pV_of hob1 (Nat.le_of_ble_eq_true rfl), show (obf z fl sd0 I hi).set 7 (.int sd) = obf z fl sd I hi from rfl]
      have Y0 : YH z H H1 fl sd0 I hi dr0 T.1 := ⟨hob1, by rw [F1.2.2 (z + 99) (by omega)]; exact hdr, hv1, F1.z.mono (fun q hq => Or.inr (Or.inl (by omega))), F1.1, F1.2.1, hz⟩
      have Y1 := Y0.sd sd
      obtain ⟨H2, sd2, dr2, e2, Y2⟩ := k_year_l (z := z) (H0 := H) (fl := fl) (I := I) (hi := hi) N (by omega) (nI w) (fun y15 y16 y17 h14 => (if y16 = 0 then gR h14 y15 10 2 fun v23 => gR h14 v23 9 0 fun v24 => gI h14 v24 3 7 fun v25 => bd (f_J6_bitCount_0f7a4 v25 h14) fun v26 h27 => some (.inl v26, h27) else (if y16 = 1 then some (.inl y17, h14) else gR h14 y15 10 2 fun v20 => cV h14 v20 9 (f_X11_deepestNumberSpace v20 h14) fun v21 h22 => some (.inl v21, h22)))) (jlp5 (f_X12_years_h60 (fun y15 y16 y17 h14 => (if y16 = 0 then gR h14 y15 10 2 fun v23 => gR h14 v23 9 0 fun v24 => gI h14 v24 3 7 fun v25 => bd (f_J6_bitCount_0f7a4 v25 h14) fun v26 h27 => some (.inl v26, h27) else (if y16 = 1 then some (.inl y17, h14) else gR h14 y15 10 2 fun v20 => cV h14 v20 9 (f_X11_deepestNumberSpace v20 h14) fun v21 h22 => some (.inl v21, h22)))))) (fun _ => rfl) N 0 0 jfu _ sd dr0 T.1 (by omega) (by omega) Y1 O
      have O2 := yrs_ok N T.1 sd 0 O
      generalize yrs N T.1 sd 0 = X at e2 Y2 O2
      obtain ⟨y1, y2, y3, y4, y5, y6, y7⟩ := Y2
      obtain ⟨W, hW, CW⟩ := y3
      have hG : Fz H H2 (fun q => q = z ∨ (z + 64 ≤ q ∧ q < z + 92) ∨ q = z + 99) := y4
      refine ⟨H2, Eq.trans e2 ?_, C.mk hG (fun q hq => by omega) ⟨sd2, y1⟩ (C.scz hG (fun q hq => by omega)) ⟨W, hW⟩ (C.rd.fz hG hz (fun q g1 g2 => by omega)) (C.re.fz hG hz (fun q g1 g2 => by omega)) ⟨dr2, y2⟩ id (by rw [y5]; exact C.p1) (by rw [y6]; exact C.p2), fun q g1 g2 => hG.2 q (by omega) (by omega)⟩
      have hw' : w = 0 ∨ w = 1 ∨ w = 2 := by omega
      have g2 : ∀ {β : Type} (K : Nat → Option β), gR H2 z 10 2 K = K (z + 64) := fun K => gR_of y1 rfl K
      rcases hw' with rfl | rfl | rfl
      · rw [if_pos (show nI 0 = 0 from rfl), g2, hw_gR0_0 hW, hw_gI1_7 hW, c_there CW, bct_e, bd_some]; rfl
      · rfl
      · rw [if_neg (show ¬ nI 2 = 0 by decide), if_neg (show ¬ nI 2 = 1 by decide), g2, hw_cV0 hW]
        have e9 : f_X11_deepestNumberSpace (z + 64) (pw H2 (z + 64) W) = some (nI (dpl X.1 16 0 0), pw H2 (z + 64) W) := c_deep_l CW O2.1 (jlp3 (f_X11_deepestNumberSpace_h4 (fun y15 h14 => some (y15, h14)))) (fun _ => rfl) 16 0 0 jfu (by omega) (by omega) (by omega)
        rw [hW.eq] at e9
        rw [e9, bd_some]; rfl
    · refine ⟨H, ?_, C, fun _ _ _ => rfl⟩
      rw [cl_out hok, if_neg (show ¬ 61 < 61 by decide)]
      by_cases h0 : k < 0
      · rw [if_pos h0]; rfl
      · rw [if_neg h0, if_neg]
        · rfl
        · intro h1
          have h2 := Int32.le_trans (hok.resolve_left h0) h1
          exact absurd h2 (by decide)
  · refine ⟨H, ?_, C, fun _ _ _ => rfl⟩
    rw [cl_out ho, if_neg (show ¬ 3 < 3 by decide)]
    by_cases h0 : a < 0
    · rw [if_pos h0]; rfl
    · rw [if_neg h0, if_neg]
      · rfl
      · intro h1
        have h2 := Int32.le_trans (ho.resolve_left h0) h1
        exact absurd h2 (by decide)
