/-! ===== THE WALK: arrays, new cells ===== -/
def gC (G : Gl) (t : Nat) : ClassId := ((gT G).getD (t - 21) (0, .int)).1
theorem cellE_int (G : Gl) {t : Nat} (h : 21 ≤ t) (h2 : t ≤ 23) (len : Nat) (x : Nat → Int) (r : Nat → Nat) : cellE G t len x r = .inl (gC G t, len, .inl (fun j => Int32.ofInt (x j))) := by
  unfold cellE gC
  rw [if_neg (by omega), if_pos h2]
theorem cellE_ref (G : Gl) {t : Nat} (h : 24 ≤ t) (len : Nat) (x : Nat → Int) (r : Nat → Nat) : cellE G t len x r = .inl (gC G t, len, .inr (.inr (.inr (.inr (fun j => rvo G (r j)))))) := by
  unfold cellE gC
  rw [if_neg (by omega), if_neg (by omega)]
theorem gT_at {G : Gl} (h : (gT G).map Prod.snd = atyL) {t : Nat} {ty : FieldType} (hi : atyL[t - 21]? = some ty) : (gT G)[t - 21]? = some (gC G t, ty) := by
  rw [← h, List.getElem?_map] at hi
  cases hg : (gT G)[t - 21]? with
  | none => rw [hg] at hi; cases hi
  | some q =>
    rw [hg] at hi
    unfold gC
    rw [List.getD_eq_getElem?_getD, hg]
    cases Option.some.inj hi
    rfl
theorem in_of {i : Int} {n : Nat} (hi : InR i) (h : 0 ≤ i ∧ i < (n : Int)) : vp_in (Int32.ofInt i) n := vp_in_iff.mpr (by rw [o32 hi]; exact h)
theorem cl_of {i : Int} (hi : InR i) : (Int32.ofInt i).toNatClampNeg = i.toNat := Int32.toNatClampNeg_ofInt_of_le (by have := hi.1; omega) (by have := hi.2; omega)
section AR
variable {G : Gl} {μ : MB} {pc pc2 : Nat} {ls ls2 : Lc} {st st2 : List PV} {S S2 : Sh} {I I2 : MI} {R R2 : MR} {Q : PQ} {idx ci f a : Nat} {i x : Int}
theorem e_iald (hd : decode (mC μ) pc = .ok (.iaload, 1)) (ht : sT S a = 21) (hi : 0 ≤ i ∧ i < (sL S a : Int)) (k : E G μ (pc + 1) ls (vI (I a i.toNat) :: st) S I R Q) : E G μ pc ls (vI i :: vR a :: st) S I R Q := by
  refine e_go (fun o _ h => vok_cons (v := vI _) (by have := o a i.toNat; rw [ht] at this; exact this) (vok_tl (vok_tl h))) (fun p l e Rm s m args below meth c Hm locs cells slots lsM Z o1 _ _ o4 hC hx hb hF kk => ?_) k
  obtain ⟨h1, h2⟩ := tag_in (t := 20) o1 ht
  have hw := wsOf_get G I R h1 h2
  rw [ht, cellE_int G (by omega) (by omega)] at hw
  rw [List.map_cons] at kk
  rw [List.map_cons, List.map_cons, mv_ref G h1]
  refine va_iald hx hb hC.2.2.2.2.2.2.2.2.1 hF.2.1.1 (a - 1) 0 hw (gT_at (t := 21) hC.2.2.2.2.2.2.2.2.2.1 rfl) (in_of (vok_hd o4) hi) hd ?_
  rw [cl_of (vok_hd o4)]
  exact kk
theorem e_bald (hd : decode (mC μ) pc = .ok (.baload, 1)) (ht : sT S a = 22) (hi : 0 ≤ i ∧ i < (sL S a : Int)) (k : E G μ (pc + 1) ls (vI (I a i.toNat) :: st) S I R Q) : E G μ pc ls (vI i :: vR a :: st) S I R Q := by
  refine e_go (fun o _ h => vok_cons (v := vI _) (by have := o a i.toNat; rw [ht] at this; have : -128 ≤ I a i.toNat ∧ I a i.toNat < 128 := this; show InR _; unfold InR; omega) (vok_tl (vok_tl h))) (fun p l e Rm s m args below meth c Hm locs cells slots lsM Z o1 _ _ o4 hC hx hb hF kk => ?_) k
  obtain ⟨h1, h2⟩ := tag_in (t := 21) o1 ht
  have hw := wsOf_get G I R h1 h2
  rw [ht, cellE_int G (by omega) (by omega)] at hw
  rw [List.map_cons] at kk
  rw [List.map_cons, List.map_cons, mv_ref G h1]
  refine va_bald hx hb hC.2.2.2.2.2.2.2.2.1 hF.2.1.1 (a - 1) 1 hw (gT_at (t := 22) hC.2.2.2.2.2.2.2.2.2.1 rfl) (in_of (vok_hd o4) hi) hd ?_
  rw [cl_of (vok_hd o4)]
  exact kk
theorem e_alen (hd : decode (mC μ) pc = .ok (.arraylength, 1)) (ht : 21 ≤ sT S a) (k : E G μ (pc + 1) ls (vI (sL S a : Int) :: st) S I R Q) : E G μ pc ls (vR a :: st) S I R Q := by
  refine E.ok (fun o1 _ _ _ => ?_)
  refine e_go (fun _ _ h => vok_cons (v := vI _) (by have := (o1.2 a (by omega)).2.2.2; show InR _; unfold InR; omega) (vok_tl h)) (fun p l e Rm s m args below meth c Hm locs cells slots lsM Z o1 _ _ o4 hC hx hb hF kk => ?_) k
  obtain ⟨h1, h2, h3, h4⟩ := o1.2 a (by omega)
  have hw := wsOf_get G I R h1 h2
  rw [List.map_cons] at kk
  rw [List.map_cons, mv_ref G h1]
  have hc : ∃ z : vp_A, cellE G (sT S a) (sL S a) (I a) (R a) = .inl (gC G (sT S a), z) ∧ z.1 = sL S a := by
    by_cases h : sT S a ≤ 23
    · exact ⟨_, cellE_int G ht h _ _ _, rfl⟩
    · exact ⟨_, cellE_ref G (by omega) _ _ _, rfl⟩
  obtain ⟨z, hz, hz1⟩ := hc
  rw [hz] at hw
  have hty : ∃ ty, atyL[sT S a - 21]? = some ty := by
    have : sT S a - 21 < atyL.length := by show _ < 7; omega
    exact ⟨_, List.getElem?_eq_getElem this⟩
  obtain ⟨ty, hty⟩ := hty
  refine va_alen hx hb hC.2.2.2.2.2.2.2.2.1 hF.2.1.1 (a - 1) (sT S a - 21) hw (gT_at hC.2.2.2.2.2.2.2.2.2.1 hty) (v := Int32.ofInt (sL S a : Int)) (by rw [hz1]; rfl) hd kk
theorem e_aald {t : Nat} (hd : decode (mC μ) pc = .ok (.aaload, 1)) (ht : sT S a = t) (ht1 : 24 ≤ t) (ht2 : t ≤ 27) (hi : 0 ≤ i ∧ i < (sL S a : Int)) (k : E G μ (pc + 1) ls (vR (R a i.toNat) :: st) S I R Q) : E G μ pc ls (vI i :: vR a :: st) S I R Q := by
  refine e_go (fun o _ h => vok_cons (v := vR _) trivial (vok_tl (vok_tl h))) (fun p l e Rm s m args below meth c Hm locs cells slots lsM Z o1 _ _ o4 hC hx hb hF kk => ?_) k
  subst ht
  obtain ⟨h1, h2, -⟩ := o1.2 a (by omega)
  have hw := wsOf_get G I R h1 h2
  rw [cellE_ref G ht1] at hw
  rw [List.map_cons] at kk
  rw [List.map_cons, List.map_cons, mv_ref G h1]
  have hty : ∃ ty, atyL[sT S a - 21]? = some ty ∧ ty.isReference = true := by
    have : sT S a = 24 ∨ sT S a = 25 ∨ sT S a = 26 ∨ sT S a = 27 := by omega
    rcases this with h | h | h | h <;> rw [h] <;> exact ⟨_, rfl, rfl⟩
  obtain ⟨ty, hty, href⟩ := hty
  have hcell : Hm[gB G + (a - 1)]? = some (vp_cell _ _) := hF.2.1.1 (a - 1) _ hw
  rw [vp_cell_q] at hcell
  have hin := in_of (vok_hd o4) hi
  refine W.aald hx hb hcell ((hC.2.2.2.2.2.2.2.2.1.2 _ _ (gT_at hC.2.2.2.2.2.2.2.2.2.1 hty)).1 _ _) href (fun q => by cases q) (by rw [arrV_size]; exact hin) (v := mv G (vR (R a i.toNat))) ?_ rfl rfl hd kk
  rw [arrV_read _ _ (by rw [cl_of (vok_hd o4)]; omega), cl_of (vok_hd o4), rvo_rf]
/-- an element of whole numbers is written -/
theorem e_astI {t : Nat} {ty : FieldType} {ins : Instr} (ht : sT S a = t) (ht1 : 21 ≤ t) (ht2 : t ≤ 23) (hi : 0 ≤ i ∧ i < (sL S a : Int)) (hty : atyL[t - 21]? = some ty) (hr : InR i → InR x → irng (ety t i.toNat) x)
    (h : ∀ (p : Program) (l : Launch) (e : Env) (Rm : Room) (s : State) (m : MethodId) (args : Array Value) (below : List Frame) (meth : Method) (c : Code) (Hm : Heap) (locs : List Loc) (cells slots : Nat) (lsM : Array Slot) (Z : State → Prop) (cell : Cell) (aM : Addr) (j : Int32) (rest : List Value),
      p.tables.exec = Jvm.exec → c.code = mC μ → Hm[aM]? = some cell → s.isArrayOf cell ty → cell.vm ≠ .unknown → ¬ (j < 0 ∨ cell.slots.size ≤ j.toNatClampNeg) →
      (∀ H' : Heap, H'[aM]? = some (cell.setSlot j.toNatClampNeg (.int (Int32.ofInt x))) → H'.size = Hm.size → (∀ q, q ≠ aM → H'[q]? = Hm[q]?) → W p l e Rm s m args below meth c H' (locs ++ [⟨aM, j.toNatClampNeg⟩]) cells slots Z (F0 m (pc + 1) lsM rest)) →
      W p l e Rm s m args below meth c Hm locs cells slots Z (F0 m pc lsM (.int (Int32.ofInt x) :: .int j :: .ref aM :: rest)))
    (k : E G μ (pc + 1) ls st S (up2 I a i.toNat x) R Q) : E G μ pc ls (vI x :: vI i :: vR a :: st) S I R Q := by
  refine e_step (Nat.le_refl _) (Nat.le_refl _) (fun o1 o2 o3 o4 => ⟨o1, okI_up o2 (by rw [ht]; exact hr (vok_hd (vok_tl o4)) (vok_hd o4)), o3, vok_tl (vok_tl (vok_tl o4))⟩) ?_ k
  intro p l e Rm s m args below meth c Hm locs cells slots lsM Z o1 o2 o3 o4 hC hc hs hF kk
  obtain ⟨h1, h2, -⟩ := o1.2 a (by omega)
  have hw := wsOf_get G I R h1 h2
  rw [ht, cellE_int G ht1 ht2] at hw
  rw [List.map_cons, List.map_cons, List.map_cons, mv_ref G h1]
  have hii : InR i := vok_hd (vok_tl o4)
  have hin := in_of hii hi
  have hset := wsOf_set G (S := S) (I := I) (I' := up2 I a i.toNat x) (R := R) (R' := R) h1 h2 (fun b hb => up2_n hb) (fun _ _ => rfl) (e := .inl (gC G t, sL S a, .inl (fun j => Int32.ofInt (up2 I a i.toNat x a j)))) (by rw [ht, cellE_int G ht1 ht2])
  have hcell : Hm[gB G + (a - 1)]? = some (vp_cell _ _) := hF.2.1.1 (a - 1) _ hw
  refine h p l e Rm s m args below meth c Hm locs cells slots lsM Z _ (gB G + (a - 1)) (Int32.ofInt i) _ hC.1 hC.2.1 hcell ((hC.2.2.2.2.2.2.2.2.1.2 _ _ (gT_at hC.2.2.2.2.2.2.2.2.2.1 hty)).1 _ (fun j => .int (Int32.ofInt (I a j)))) (fun q => by cases q) (by show ¬ (_ ∨ (arrV _ _ _).slots.size ≤ _); rw [arrV_size]; exact hin) fun H1 e1 z oq => ?_
  have hP := hF.2.1.1.set (wsOf_D G S I R) hw (e := .inl (gC G t, sL S a, .inl (fun j => Int32.ofInt (up2 I a i.toNat x a j)))) (H1 := H1) (by
    show H1[_]? = some (vp_cell _ _)
    rw [e1, vp_cell_i, vp_cell_i, arrV_store, cl_of hii]
    congr 2
    funext q
    by_cases hq : q = i.toNat
    · subst hq
      simp [updV, up2_ss]
    · simp [updV, hq, up2_sn hq]) oq
  rw [hset] at hP
  have hS2 := hF.2.2.put (k := (Int32.ofInt i).toNatClampNeg) z oq (show gB G ≤ gB G + (a - 1) by omega)
  have := kk H1 _ lsM ⟨hF.1, ⟨hP, z.trans hF.2.1.2⟩, hS2⟩
  simpa using this
theorem e_iast (hd : decode (mC μ) pc = .ok (.iastore, 1)) (ht : sT S a = 21) (hi : 0 ≤ i ∧ i < (sL S a : Int)) (k : E G μ (pc + 1) ls st S (up2 I a i.toNat x) R Q) : E G μ pc ls (vI x :: vI i :: vR a :: st) S I R Q :=
  e_astI (ins := .iastore) ht (by omega) (by omega) hi rfl (fun _ h => h) (fun p l e Rm s m args below meth c Hm locs cells slots lsM Z cell aM j rest hx hb h1 h2 h3 h4 kk => W.iast hx hb h1 h2 h3 h4 rfl rfl hd kk) k
theorem nar_b {x : Int} (h : -128 ≤ x ∧ x < 128) : narrow .byte (.int (Int32.ofInt x)) = .int (Int32.ofInt x) := by
  show Value.int _ = _
  congr 1
  apply Int32.toInt_inj.mp
  have : (Int32.ofInt x).toInt = x := o32 (by unfold InR; omega)
  simp only [Int32.toInt_toInt8, Int8.toInt_toInt32, this]
  exact Int.bmod_eq_of_le (by omega) (by omega)
theorem e_bast (hd : decode (mC μ) pc = .ok (.bastore, 1)) (ht : sT S a = 22) (hi : 0 ≤ i ∧ i < (sL S a : Int)) (hx : -128 ≤ x ∧ x < 128) (k : E G μ (pc + 1) ls st S (up2 I a i.toNat x) R Q) : E G μ pc ls (vI x :: vI i :: vR a :: st) S I R Q :=
  e_astI (ins := .bastore) ht (by omega) (by omega) hi rfl (fun _ _ => hx) (fun p l e Rm s m args below meth c Hm locs cells slots lsM Z cell aM j rest hx1 hb h1 h2 h3 h4 kk => W.bast hx1 hb h1 h2 h3 h4 rfl rfl hd (by rw [nar_b hx]; exact kk)) k
theorem e_aast {t r : Nat} (hd : decode (mC μ) pc = .ok (.aastore, 1)) (ht : sT S a = t) (htr : (t = 24 ∧ sT S r = 5) ∨ (t = 25 ∧ sT S r = 2) ∨ (t = 26 ∧ sT S r = 3)) (hi : 0 ≤ i ∧ i < (sL S a : Int)) (k : E G μ (pc + 1) ls st S I (up2 R a i.toNat r) Q) : E G μ pc ls (vR r :: vI i :: vR a :: st) S I R Q := by
  refine e_step (Nat.le_refl _) (Nat.le_refl _) (fun o1 o2 o3 o4 => ⟨o1, o2, o3, vok_tl (vok_tl (vok_tl o4))⟩) ?_ k
  intro p l e Rm s m args below meth c Hm locs cells slots lsM Z o1 o2 o3 o4 hC hc hs hF kk
  have hci : ∃ ci, ci < 11 ∧ sT S r = ci + 1 ∧ atyL[t - 21]? = some (.object (clC ci)) := by
    rcases htr with ⟨rfl, h⟩ | ⟨rfl, h⟩ | ⟨rfl, h⟩
    · exact ⟨4, by omega, h, rfl⟩
    · exact ⟨1, by omega, h, rfl⟩
    · exact ⟨2, by omega, h, rfl⟩
  obtain ⟨ci, hci, htag, hty⟩ := hci
  obtain ⟨h1, h2, -⟩ := o1.2 a (by omega)
  obtain ⟨h3, h4⟩ := tag_in o1 htag
  have hw := wsOf_get G I R h1 h2
  rw [ht, cellE_ref G (by omega)] at hw
  have hv := wsOf_get G I R h3 h4
  rw [htag, cellE_cls G hci] at hv
  rw [List.map_cons, List.map_cons, List.map_cons, mv_ref G h1, mv_ref G h3]
  have hii : InR i := vok_hd (vok_tl o4)
  have hin := in_of hii hi
  have hset := wsOf_set G (S := S) (I := I) (I' := I) (R := R) (R' := up2 R a i.toNat r) h1 h2 (fun _ _ => rfl) (fun b hb => up2_n hb) (e := .inl (gC G t, sL S a, .inr (.inr (.inr (.inr (fun j => rvo G (up2 R a i.toNat r a j))))))) (by rw [ht, cellE_ref G (by omega)])
  have hcell : Hm[gB G + (a - 1)]? = some (vp_cell _ _) := hF.2.1.1 (a - 1) _ hw
  obtain ⟨hcl, -⟩ := clOK_all ci hci
  obtain ⟨r', hr', cellV, g1, g2, g3, -⟩ := hF.2.1.1 (r - 1) _ hv
  have hK := hC.2.2.2.2.2.2.2.2.1
  have hcls := (hK.1 ci _ hcl).2
  obtain ⟨kA, comp, k1, k2, k3, -⟩ := (hK.2 _ _ (gT_at hC.2.2.2.2.2.2.2.2.2.1 hty)).2
  have hcomp : comp = (gD G).1 ci := Option.some.inj (k3.symm.trans hcls.1)
  subst hcomp
  obtain ⟨kC, hkC, -⟩ := hcls.2
  refine W.aast hC.1 hC.2.1 hcell (fun q h => by cases h) (fun h => by cases h) k1 k2 rfl hkC ⟨fun q => hin (Or.inl q), by show _ < (arrV _ _ _).slots.size; rw [arrV_size]; exact Nat.not_le.mp fun q => hin (Or.inr q)⟩ g1 (fun q h => by rw [g3] at h; cases h) (by rw [g2]; exact hkC) (by rw [g2]; exact va_assign hcls) rfl rfl hd fun H1 e1 z oq => ?_
  have hP := hF.2.1.1.set (wsOf_D G S I R) hw (e := .inl (gC G t, sL S a, .inr (.inr (.inr (.inr (fun j => rvo G (up2 R a i.toNat r a j))))))) (H1 := H1) (by
    show H1[_]? = some (vp_cell _ _)
    rw [e1, vp_cell_q, vp_cell_q, arrV_store, cl_of hii]
    refine congrArg some (congrArg (arrV _ _) (funext fun q => ?_))
    by_cases hq : q = i.toNat
    · subst hq
      simp only [updV, up2_ss, if_true, rvo_rf, mv_ref G h3]
    · simp only [updV, hq, up2_sn hq, if_false]) oq
  rw [hset] at hP
  have hS2 := hF.2.2.put (k := (Int32.ofInt i).toNatClampNeg) z oq (show gB G ≤ gB G + (a - 1) by omega)
  have := kk H1 _ lsM ⟨hF.1, ⟨hP, z.trans hF.2.1.2⟩, hS2⟩
  simpa using this
end AR
