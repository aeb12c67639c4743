/-! rows: what stands in the old heap; the JDK's statics; natives -/
theorem jv_H.old {X : jx} {h : jh} {H : Heap} (hH : jv_H X h H) : ∀ a : Nat, a < X.2.2.1.size → ¬ jv_A X a → H[a]? = X.2.2.1[a]? := fun a ha _ => hH.2.2.1 a ha
def jv_fl (own : String) (i : Nat) (C n d : String) : Prop := Cond.fieldLink own i C n d ∈ lw_tbl ∨ ∃ host, Cond.fieldLinkNest own i C n d host ∈ lw_tbl
section JOld
variable {α : Type} {X : jx} {M : jm} {b0 : Nat × Nat} {en : α → jr} {pc : Nat} {L : List (Option Value)} {S : List Value} {h : jh} {o : Option (α × jh)}
theorem jv_gs {C n d : String} {v : Value} {i : Nat} (hd : decode M.2.1 pc = .ok (.getstatic i, 3)) (hl : jv_fl M.1.cls i C n d) (hZ : ∀ U : State, jv_K X U → va_Z C n d v (jv_A X) U X.2.2.1) (k : jv_O X M b0 en (pc + 3) L (v :: S) h o) : jv_O X M b0 en pc L S h o :=
  jv_go (fun p e R s m args below meth c H locs cells slots Q ls hC hL hn hH k9 => by
    have hU := hC.2.2.2.2.2.1
    obtain ⟨cf, kf, fi, f, a, cell, h1, h2, h3, h4, h5, h6, h7, h8⟩ := (hZ s hU.2.2.1).kept hH.old
    rcases hl with hl | ⟨host, hl⟩
    · exact W.gets hC.1 hC.2.1 hC.2.2.2.2.1 (hU.1.use hl rfl args) h1 h2 h3 h4 h5 (fun e => by rw [e] at h6; cases h6) h7 rfl hd (k9 ls hL hn)
    · exact va_WgetsN hC.1 hC.2.1 hC.2.2.2.2.1 (hU.1.use hl rfl args) h1 h2 h3 h4 h5 (fun e => by rw [e] at h6; cases h6) h7 rfl hd (k9 ls hL hn)) k
theorem jv_gsq {C n d : String} {i : Nat} (hd : decode M.2.1 pc = .ok (.getstatic i, 3)) (hl : jv_fl M.1.cls i C n d) (hZ : ∀ U : State, jv_K X U → va_Zq C n d (jv_A X) U X.2.2.1) (k : ∀ v : Value, (v = .null ∨ ∃ a, v = .ref a) → jv_O X M b0 en (pc + 3) L (v :: S) h o) : jv_O X M b0 en pc L S h o := by
  intro a h' e0
  have k1 := (k .null (Or.inl rfl) a h' e0).1
  refine ⟨k1, fun b1 b2 p e R s m args below meth c H locs ls hC hc hs hlo hL hn hH => ?_⟩
  have hU := hC.2.2.2.2.2.1
  obtain ⟨v, hv, hZ9⟩ : ∃ v : Value, (v = .null ∨ ∃ a, v = .ref a) ∧ va_Z C n d v (jv_A X) s H := by
    rcases (hZ s hU.2.2.1).kept hH.old with h1 | ⟨t, h1⟩
    · exact ⟨_, Or.inl rfl, h1⟩
    · exact ⟨_, Or.inr ⟨t, rfl⟩, h1⟩
  obtain ⟨cf, kf, fi, f, a9, cell, h1, h2, h3, h4, h5, h6, h7, h8⟩ := hZ9
  have k9 := (k v hv a h' e0).2 b1 b2 p e R s m args below meth c H locs ls hC hc hs hlo hL hn hH
  rcases hl with hl | ⟨host, hl⟩
  · exact W.gets hC.1 hC.2.1 hC.2.2.2.2.1 (hU.1.use hl rfl args) h1 h2 h3 h4 h5 (fun e => by rw [e] at h6; cases h6) h7 rfl hd k9
  · exact va_WgetsN hC.1 hC.2.1 hC.2.2.2.2.1 (hU.1.use hl rfl args) h1 h2 h3 h4 h5 (fun e => by rw [e] at h6; cases h6) h7 rfl hd k9
/-- a field of an object of the old heap -/
theorem jv_ogf {C n d : String} {v : Value} {i q : Nat} (hd : decode M.2.1 pc = .ok (.getfield i, 3)) (hl : jv_fl M.1.cls i C n d) (hO : ∀ U : State, jv_K X U → va_OF C n d v q (jv_A X) U X.2.2.1) (k : jv_O X M b0 en (pc + 3) L (v :: S) h o) : jv_O X M b0 en pc L (.ref q :: S) h o :=
  jv_go (fun p e R s m args below meth c H locs cells slots Q ls hC hL hn hH k9 => by
    have hU := hC.2.2.2.2.2.1
    obtain ⟨cf, kf, fi, f, cell, h1, h2, h3, h4, h5, h6⟩ := (hO s hU.2.2.1).kept hH.old
    rcases hl with hl | ⟨host, hl⟩
    · exact W.getf hC.1 hC.2.1 hC.2.2.2.2.1 (hU.1.use hl rfl args) h1 h2 h3 h4 h5 rfl rfl hd (k9 ls hL hn)
    · exact va_Wgetf hC.1 hC.2.1 hC.2.2.2.2.1 (hU.1.use hl rfl args) h1 h2 h3 h4 h5 rfl rfl hd (k9 ls hL hn)) k
theorem jv_oiald {t N : Nat} {f : Nat → Value} {i : Int32} (hd : decode M.2.1 pc = .ok (.iaload, 1)) (hT : ∀ U : State, jv_K X U → va_T .int t N f (jv_A X) U X.2.2.1) (hi : ¬ (i < 0 ∨ N ≤ i.toNatClampNeg)) (k : jv_O X M b0 en (pc + 1) L (f i.toNatClampNeg :: S) h o) : jv_O X M b0 en pc L (.int i :: .ref t :: S) h o :=
  jv_go (fun p e R s m args below meth c H locs cells slots Q ls hC hL hn hH k9 => by
    obtain ⟨cell, h1, h2, h3, h4, h5, h6, h7⟩ := (hT s hC.2.2.2.2.2.1.2.2.1).kept hH.old
    exact W.iald hC.1 hC.2.1 h1 h2 h3 (fun q => hi (q.elim Or.inl (fun q => Or.inr (Nat.le_trans h4 q)))) (h6 _ (Nat.not_le.mp fun q => hi (Or.inr q))) rfl rfl hd (k9 ls hL hn)) k
theorem jv_obald {t N : Nat} {f : Nat → Value} {i : Int32} (hd : decode M.2.1 pc = .ok (.baload, 1)) (hT : ∀ U : State, jv_K X U → va_T .byte t N f (jv_A X) U X.2.2.1) (hi : ¬ (i < 0 ∨ N ≤ i.toNatClampNeg)) (k : jv_O X M b0 en (pc + 1) L (f i.toNatClampNeg :: S) h o) : jv_O X M b0 en pc L (.int i :: .ref t :: S) h o :=
  jv_go (fun p e R s m args below meth c H locs cells slots Q ls hC hL hn hH k9 => by
    obtain ⟨cell, h1, h2, h3, h4, h5, h6, h7⟩ := (hT s hC.2.2.2.2.2.1.2.2.1).kept hH.old
    exact W.bald hC.1 hC.2.1 h1 h2 h3 (fun q => hi (q.elim Or.inl (fun q => Or.inr (Nat.le_trans h4 q)))) (h6 _ (Nat.not_le.mp fun q => hi (Or.inr q))) rfl rfl hd (k9 ls hL hn)) k
theorem jv_oaald {t N : Nat} {C : String} {f : Nat → Value} {i : Int32} (hd : decode M.2.1 pc = .ok (.aaload, 1)) (hT : ∀ U : State, jv_K X U → va_T (.object C) t N f (jv_A X) U X.2.2.1) (hi : ¬ (i < 0 ∨ N ≤ i.toNatClampNeg)) (k : jv_O X M b0 en (pc + 1) L (f i.toNatClampNeg :: S) h o) : jv_O X M b0 en pc L (.int i :: .ref t :: S) h o :=
  jv_go (fun p e R s m args below meth c H locs cells slots Q ls hC hL hn hH k9 => by
    obtain ⟨cell, h1, h2, h3, h4, h5, h6, h7⟩ := (hT s hC.2.2.2.2.2.1.2.2.1).kept hH.old
    exact W.aald hC.1 hC.2.1 h1 h2 rfl h3 (fun q => hi (q.elim Or.inl (fun q => Or.inr (Nat.le_trans h4 q)))) (h6 _ (Nat.not_le.mp fun q => hi (Or.inr q))) rfl rfl hd (k9 ls hL hn)) k
theorem jv_olen {t N : Nat} {ty : FieldType} {f : Nat → Value} (hd : decode M.2.1 pc = .ok (.arraylength, 1)) (hT : ∀ U : State, jv_K X U → va_T ty t N f (jv_A X) U X.2.2.1) (k : jv_O X M b0 en (pc + 1) L (.int (Int32.ofNat N) :: S) h o) : jv_O X M b0 en pc L (.ref t :: S) h o :=
  jv_go (fun p e R s m args below meth c H locs cells slots Q ls hC hL hn hH k9 => by
    obtain ⟨cell, h1, h2, h3, h4, h5, h6, h7⟩ := (hT s hC.2.2.2.2.2.1.2.2.1).kept hH.old
    exact W.alen hC.1 hC.2.1 h1 h2 h5 rfl rfl hd (k9 ls hL hn)) k
/-- the script -/
def xI {β : Type} (N : Nat) (xs : Nat → Int32) (i : Int32) (K : Int32 → Option β) : Option β := if i < 0 ∨ N ≤ i.toNatClampNeg then none else K (xs i.toNatClampNeg)
theorem jv_xI {i : Int32} {K : Int32 → Option (α × jh)} (hd : decode M.2.1 pc = .ok (.iaload, 1)) (k : ∀ v, jv_O X M b0 en (pc + 1) L (.int v :: S) h (K v)) : jv_O X M b0 en pc L (.int i :: .ref (jv_ad X 13) :: S) h (xI X.2.2.2.2.2.1 X.2.2.2.2.2.2 i K) := by
  unfold xI
  split
  · exact jv_none rfl
  · next hi =>
    exact jv_go (fun p e R s m args below meth c H locs cells slots Q ls hC hL hn hH k9 => by
      obtain ⟨hX, hb, -⟩ := hC.2.2.2.2.2.1.2.2.1.2.1
      obtain ⟨cell, h1, h2, h3, h4, h5⟩ := hX.kept (hH.2.2.1 _ hb)
      exact W.iald hC.1 hC.2.1 h1 h2 h3 (by rw [h4]; exact hi) (h5 _ (Nat.not_le.mp fun q => hi (Or.inr q))) rfl rfl hd (k9 ls hL hn)) (k _)
theorem jv_xlen (hd : decode M.2.1 pc = .ok (.arraylength, 1)) (k : jv_O X M b0 en (pc + 1) L (.int (Int32.ofNat X.2.2.2.2.2.1) :: S) h o) : jv_O X M b0 en pc L (.ref (jv_ad X 13) :: S) h o :=
  jv_go (fun p e R s m args below meth c H locs cells slots Q ls hC hL hn hH k9 => by
    obtain ⟨hX, hb, -⟩ := hC.2.2.2.2.2.1.2.2.1.2.1
    obtain ⟨cell, h1, h2, h3, h4, h5⟩ := hX.kept (hH.2.2.1 _ hb)
    exact W.alen hC.1 hC.2.1 h1 h2 (by rw [h4]) rfl rfl hd (k9 ls hL hn)) k
/-- the acts -/
def eA {β : Type} (i : Int32) (K : Nat → Option β) : Option β := if i < 0 ∨ 11 ≤ i.toNatClampNeg then none else K i.toNatClampNeg
theorem jv_eA {i : Int32} {K : Nat → Option (α × jh)} (hd : decode M.2.1 pc = .ok (.aaload, 1)) (k : ∀ v, jv_O X M b0 en (pc + 1) L (.ref (jv_ad X v) :: S) h (K v)) : jv_O X M b0 en pc L (.int i :: .ref (jv_ad X 12) :: S) h (eA i K) := by
  unfold eA
  split
  · exact jv_none rfl
  · next hi => exact jv_oaald (f := fun j => .ref (jv_ad X j)) hd (fun U hK => hK.2.2.2.2.2.2.1.2) hi (k _)
def mI {β : Type} (i : Int32) (K : Int32 → Option β) : Option β := if i < 0 ∨ 11 ≤ i.toNatClampNeg then none else K (Int32.ofNat (i.toNatClampNeg + 1))
theorem jv_mI {i : Int32} {K : Int32 → Option (α × jh)} (hd : decode M.2.1 pc = .ok (.iaload, 1)) (k : ∀ v, jv_O X M b0 en (pc + 1) L (.int v :: S) h (K v)) : jv_O X M b0 en pc L (.int i :: .ref (jv_ad X 11) :: S) h (mI i K) := by
  unfold mI
  split
  · exact jv_none rfl
  · next hi => exact jv_oiald (f := fun j => .int (Int32.ofNat (j + 1))) hd (fun U hK => hK.2.2.2.2.2.1.2) hi (k _)
def eW {β : Type} (e : Nat) (K : Nat → Option β) : Option β := if e < 11 then K e else none
theorem jv_eW {i e : Nat} {K : Nat → Option (α × jh)} (hd : decode M.2.1 pc = .ok (.getfield i, 3)) (hl : jv_fl M.1.cls i RX1 "word" "Ljava/lang/String;") (k : ∀ v, jv_O X M b0 en (pc + 3) L (.ref (jv_ad X (20 + v)) :: S) h (K v)) : jv_O X M b0 en pc L (.ref (jv_ad X e) :: S) h (eW e K) := by
  unfold eW
  split
  · next he => exact jv_ogf hd hl (fun U hK => (hK.2.2.2.1 e he).2.2.2.1) (k _)
  · exact jv_none rfl
def eS {β : Type} (e : Nat) (K : Nat → Option β) : Option β := if e < 11 then K (jv_sh.getD e 0) else none
theorem jv_eS {i e : Nat} {K : Nat → Option (α × jh)} (hd : decode M.2.1 pc = .ok (.getfield i, 3)) (hl : jv_fl M.1.cls i RX1 "shape" "Ljava/lang/String;") (k : ∀ v, jv_O X M b0 en (pc + 3) L (.ref (jv_ad X (20 + v)) :: S) h (K v)) : jv_O X M b0 en pc L (.ref (jv_ad X e) :: S) h (eS e K) := by
  unfold eS
  split
  · next he => exact jv_ogf hd hl (fun U hK => (hK.2.2.2.1 e he).2.2.2.2) (k _)
  · exact jv_none rfl
theorem jv_ldcS {i e : Nat} (hd : decode M.2.1 pc = .ok (.ldc i, 2)) (hM : M.1.cls = RX13) (he : e < 11) (hi : 9 + 2 * e = i) (k : jv_O X M b0 en (pc + 2) L (.ref (jv_ad X (20 + e)) :: S) h o) : jv_O X M b0 en pc L S h o := by
  subst hi
  exact jv_go (fun p e9 R s m args below meth c H locs cells slots Q ls hC hL hn hH k9 => by
    have h1 := hC.2.2.2.2.2.1.2.2.1.2.2.2.2.2.2.2.2.1 e he
    rw [← hM] at h1
    exact va_ldcS hC.1 hC.2.1 hC.2.2.2.2.1 h1 hd (k9 ls hL hn)) k
theorem jv_aastoreS {a v : Nat} {i : Int32} {K : jh → Option (α × jh)} (hd : decode M.2.1 pc = .ok (.aastore, 1)) (kk : ∀ h1, jv_O X M b0 en (pc + 1) L S h1 (K h1)) : jv_O X M b0 en pc L (.ref (jv_ad X (20 + v)) :: .int i :: .ref a :: S) h (sS h a i v K) := by
  unfold sS
  split
  · next t n f hc =>
    split
    · next ht =>
      obtain ⟨ht, hv⟩ := ht
      subst ht
      split
      · exact jv_none rfl
      · next hin =>
        refine jv_goH (h1 := jv_wr h a (jQ 3 n (va_up f i.toNatClampNeg (some v)))) ⟨rfl, rfl⟩ (fun p e R s m args below meth c H locs cells slots Q ls hC hH k9 => ?_) (kk _)
        obtain ⟨g1, g2, hat⟩ := hH.at hc (by intro e; cases e)
        have hU := hC.2.2.2.2.2.1
        have hK := hU.2.1
        have h0 : ¬ i < 0 := fun q => hin (Or.inl q)
        have hlt : i.toNatClampNeg < n := Nat.not_le.mp fun q => hin (Or.inr q)
        obtain ⟨cellV, y1, y2, y3, y4⟩ := ((hU.2.2.1.2.2.2.2.2.2.2.1.1 v hv).1).kept hH.old
        obtain ⟨kA, comp, k1, k2, k3, -⟩ := (hK.2 3 _ rfl).2
        have hcomp : cellV.cls = comp := Option.some.inj (y3.symm.trans k3)
        subst hcomp
        obtain ⟨hlt9, -, -⟩ := Array.findIdx?_eq_some_iff_getElem.mp k3
        have hkC : s.vm.classes[cellV.cls]? = some s.vm.classes[cellV.cls] := Array.getElem?_eq_getElem hlt9
        have hasg : s.vm.assignable cellV.cls cellV.cls = true := by rw [Vm.assignable, Vm.assignableAux]; simp
        refine W.aast hC.1 hC.2.1 hat (fun q h => by cases h) (fun h => by cases h) k1 k2 rfl hkC ⟨h0, by show _ < (arrV _ _ _).slots.size; rw [arrV_size]; exact hlt⟩ y1 (fun q h => by rw [h] at y2; cases y2) hkC hasg rfl rfl hd fun H1 e1 z1 oq => ?_
        refine k9 H1 _ (hH.wr g1 g2 z1 oq ?_) g1
        refine e1.trans ?_
        show some ((arrV (X.2.2.2.1 3) n (fun j => va_rf ((f j).map (fun k => X.2.2.2.2.1 (20 + k))))).setSlot i.toNatClampNeg (.ref (jv_ad X (20 + v)))) = some (arrV (X.2.2.2.1 3) n (fun j => va_rf ((va_up f i.toNatClampNeg (some v) j).map (fun k => X.2.2.2.2.1 (20 + k)))))
        rw [arrV_store]
        congr 2
        funext q
        by_cases hq : q = i.toNatClampNeg
        · subst hq
          simp [updV, va_up, va_rf]
        · simp [updV, va_up, hq]
    · exact jv_none rfl
  · exact jv_none rfl
end JOld
