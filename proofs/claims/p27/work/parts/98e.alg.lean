/-! ===== products by their coefficients; rests of what is asked ===== -/
theorem cf_prdR {p : Int} {m : Int} {b : List Tm} : ∀ a : List Tm, cq p (cf (prdR p a b) m) (pc b m a)
  | [] => cq.rf
  | t :: a => by
    rw [prdR, cf_app, pc]
    refine cq.ad ((cq.em.mpr (tm_cf p t.2 (t.1 - 262143) b m)).tr (cq.eq ?_)) (cf_prdR a)
    rw [show m - (t.1 - 262143) = m - t.1 + 262143 by omega]
theorem pc_cons {t : Tm} {a : List Tm} {m : Int} : ∀ b : List Tm, pc (t :: a) m b = t.2 * cf b (m - t.1 + 262143) + pc a m b
  | [] => by rw [pc, pc, show cf [] (m - t.1 + 262143) = 0 from rfl, Int.mul_zero]; rfl
  | u :: b => by
    rw [pc, pc, pc_cons b]
    show u.2 * ((if t.1 = m - u.1 + 262143 then t.2 else 0) + cf a (m - u.1 + 262143)) + _ = t.2 * ((if u.1 = m - t.1 + 262143 then u.2 else 0) + cf b (m - t.1 + 262143)) + _
    rw [Int.mul_add, Int.mul_add]
    by_cases h : t.1 = m - u.1 + 262143
    · rw [if_pos h, if_pos (by omega), Int.mul_comm u.2 t.2]; omega
    · rw [if_neg h, if_neg (by omega), Int.mul_zero, Int.mul_zero]; omega
theorem pc_comm {m : Int} {b : List Tm} : ∀ a : List Tm, pc b m a = pc a m b
  | [] => by rw [pc, pc_nil]
  | t :: a => by rw [pc, pc_cons, pc_comm a]
theorem cf_canon {p : Int} {m : Int} {a b : List Tm} : cq p (cf (canon p (prdR p a b)) m) (pc a m b) :=
  (cq.em.mpr (canon_cf p _ m)).tr ((cf_prdR a).tr (cq.eq (pc_comm a)))
theorem cf_sub {p : Int} {m : Int} {a b : List Tm} : cq p (cf (mg p (p - 1) 0 a b) m) (cf a m - cf b m) := by
  refine (cf_mg m a b).tr ?_
  rw [show m - 0 = m by omega]
  refine ⟨cf b m, ?_⟩
  rw [Int.sub_mul, Int.one_mul]
  omega
/-- what has no coefficient is empty -/
theorem can_0 {p : Int} {L : List Tm} (h : Can p L) (h0 : ∀ m, cq p (cf L m) 0) : L = [] :=
  can_ext h ⟨List.Pairwise.nil, fun t ht => absurd ht List.not_mem_nil⟩ (fun k => cq.em.mp (h0 k))
/-- the rest of a slot by a set at N -/
def RsL (s : Ms) (a : Nat) (set : Int) (N : Nat) (L : List Tm) : Prop :=
  ∃ z : Vc, RstU (s.p : Int) (ml s.n s.w N).length (led (s.p : Int) s.n s.w (FF s set) N) (GenU (s.p : Int) s.n s.w (FF s set) N) (vecM (ml s.n s.w N) (cf (s.f a))) z ∧ (∀ c, 0 ≤ z c ∧ z c < (s.p : Int)) ∧ L = restL (ml s.n s.w N) z (ml s.n s.w N).length
theorem genU_sub {p n : Int} {w : Nat → Int} {F : List Tm → Prop} {D : Nat} : Sub p (ml n w D).length (GenU p n w F D) := spn_sub
theorem isp_lt {s : Ms} (hs : MsOK s) : s.p < 40000 := by have := hs.1.2; omega
theorem rest_x {s : Ms} {x1 x2 x3 x4 x : Int} {s' : Ms} (hs : MsOK s) (h1 : slt x1) (h4 : slt x4) (ha : ask s x2 x3) (hx : ∀ y s'', restA s x1 x2 x3 x4 y s'' → y = x ∧ s'' = s') :
    ∃ L, RsL s x1.toNat x2 x3.toNat L ∧ ((L.length ≤ 60 ∧ x = (L.length : Int) ∧ s' = put s x4.toNat L) ∨ (60 < L.length ∧ x = -1 ∧ s' = s)) := by
  have hU := genU_sub (p := (s.p : Int)) (n := s.n) (w := s.w) (F := FF s x2) (D := x3.toNat)
  obtain ⟨z, hz, hr⟩ := rst_ex hs.1.1 (isp_lt hs) hU (vecM (ml s.n s.w x3.toNat) (cf (s.f x1.toNat)))
  obtain ⟨Rw, hE⟩ := ech_ex hs.1.1 (isp_lt hs) hU
  refine ⟨restL (ml s.n s.w x3.toNat) z (ml s.n s.w x3.toNat).length, ⟨z, hz, hr, rfl⟩, ?_⟩
  by_cases c : (restL (ml s.n s.w x3.toNat) z (ml s.n s.w x3.toNat).length).length ≤ 60
  · obtain ⟨e1, e2⟩ := hx _ _ ⟨fun _ => ⟨⟨_, _, hE⟩, z, hz, fun c _ => hr c, fun _ => ⟨rfl, rfl⟩, fun q => absurd c (by omega)⟩, fun q => absurd ⟨h1, h4, ha⟩ q⟩
    exact Or.inl ⟨c, e1.symm, e2.symm⟩
  · obtain ⟨e1, e2⟩ := hx _ _ ⟨fun _ => ⟨⟨_, _, hE⟩, z, hz, fun c _ => hr c, fun q => absurd q c, fun _ => ⟨rfl, rfl⟩⟩, fun q => absurd ⟨h1, h4, ha⟩ q⟩
    exact Or.inr ⟨by omega, e1.symm, e2.symm⟩
/-- what can be the rest is it -/
theorem rest_is {s : Ms} {a : Nat} {set : Int} {N : Nat} {L : List Tm} (hs : MsOK s) (h : RsL s a set N L) {z : Vc} (hz : RstU (s.p : Int) (ml s.n s.w N).length (led (s.p : Int) s.n s.w (FF s set) N) (GenU (s.p : Int) s.n s.w (FF s set) N) (vecM (ml s.n s.w N) (cf (s.f a))) z) (hr : ∀ c, 0 ≤ z c ∧ z c < (s.p : Int)) : L = restL (ml s.n s.w N) z (ml s.n s.w N).length := by
  obtain ⟨z', h1, h2, e⟩ := h
  obtain ⟨Rw, hE⟩ := ech_ex hs.1.1 (isp_lt hs) (genU_sub (p := (s.p : Int)) (n := s.n) (w := s.w) (F := FF s set) (D := N))
  have := rst_uniq hE h1 hz
  rw [e]
  exact restL_congr (fun j hj => cg_eq (h2 j) (hr j) (this j hj))
theorem vec_restL {n : Int} {w : Nat → Int} {N : Nat} (hN : N < 60) {z : Vc} : ∀ c, c < (ml n w N).length → vecM (ml n w N) (cf (restL (ml n w N) z (ml n w N).length)) c = z c := fun c hc => by
  show cf _ _ = _
  rw [cf_restL (ml_inc hN) hc _ (Nat.le_refl _), if_pos hc]
/-- states that have the ring and the set alike -/
def sameI (s s' : Ms) (set : Int) : Prop := s'.p = s.p ∧ s'.n = s.n ∧ s'.w = s.w ∧ ∀ k, k < 8 → bitI set k = 1 → s'.f k = s.f k
theorem sameI.FF {s s' : Ms} {set : Int} (h : sameI s s' set) : FF s' set = FF s set := by
  funext g
  apply propext
  constructor
  · rintro ⟨k, h1, h2, h3⟩
    exact ⟨k, h1, h2, by rw [h3]; exact h.2.2.2 k h1 h2⟩
  · rintro ⟨k, h1, h2, h3⟩
    exact ⟨k, h1, h2, by rw [h3]; exact (h.2.2.2 k h1 h2).symm⟩
theorem sameI.rf {s : Ms} {set : Int} : sameI s s set := ⟨rfl, rfl, rfl, fun _ _ _ => rfl⟩
theorem sameI.tr {s s1 s2 : Ms} {set : Int} (h : sameI s s1 set) (h2 : sameI s1 s2 set) : sameI s s2 set := ⟨h2.1.trans h.1, h2.2.1.trans h.2.1, h2.2.2.1.trans h.2.2.1, fun k a b => (h2.2.2.2 k a b).trans (h.2.2.2 k a b)⟩
theorem sameI.put {s : Ms} {set : Int} {k : Nat} {L : List Tm} (h : bitI set k = 0) : sameI s (put s k L) set := ⟨rfl, rfl, rfl, fun j _ b => if_neg (fun e => by rw [e] at b; omega)⟩
/-- the rest of a rest is itself -/
theorem rest_again {s s' : Ms} {a a' : Nat} {set : Int} {N : Nat} {L L' : List Tm} (hs : MsOK s') (hN : N < 60) (hI : sameI s s' set) (h : RsL s a set N L) (hf : s'.f a' = L) (h' : RsL s' a' set N L') : L' = L := by
  obtain ⟨z, h1, h2, e⟩ := h
  rw [← hI.1, ← hI.2.1, ← hI.2.2.1, ← hI.FF] at h1
  rw [← hI.2.1, ← hI.2.2.1] at e
  rw [← hI.1] at h2
  rw [e]
  refine rest_is hs h' ⟨?_, h1.2⟩ h2
  refine sub_of_zero genU_sub (fun c hc => ?_)
  rw [hf, e, vec_restL hN c hc]
  exact Int.sub_self _
/-- what differs from its rest has rest 0 -/
theorem rest_diff {s s' : Ms} {a a' : Nat} {set : Int} {N : Nat} {L L' : List Tm} (hs : MsOK s') (hN : N < 60) (hI : sameI s s' set) (h : RsL s a set N L) (hf : s'.f a' = mg (s.p : Int) ((s.p : Int) - 1) 0 (s.f a) L) (h' : RsL s' a' set N L') : L' = [] := by
  have hp0 : (0 : Int) < (s'.p : Int) := by have := hs.1.1.1; omega
  obtain ⟨z, h1, h2, e⟩ := h
  rw [← hI.1, ← hI.2.1, ← hI.2.2.1, ← hI.FF] at h1
  rw [← hI.2.1, ← hI.2.2.1] at e
  rw [← hI.1] at hf
  have := rest_is hs h' (z := fun _ => 0) ⟨?_, fun c _ _ => Int.dvd_zero _⟩ (fun c => ⟨Int.le_refl _, hp0⟩)
  · rw [this]
    exact restL_0 (fun _ _ => rfl)
  · refine genU_sub.sb h1.1 (fun c hc => cq.em.mp ?_)
    show cq _ (vecM _ (cf (s.f a)) c - z c) (vecM _ (cf (s'.f a')) c - 0)
    rw [hf]
    have h3 := cf_sub (p := (s'.p : Int)) (m := (ml s'.n s'.w N).getD c 0) (a := s.f a) (b := L)
    have h4 : cf L ((ml s'.n s'.w N).getD c 0) = z c := by rw [e]; exact vec_restL hN c hc
    rw [h4] at h3
    exact (h3.tr (cq.eq rfl)).sy.tr (cq.eq (by show _ = cf _ _ - 0; omega))
/-- each of the set has rest 0 -/
theorem rest_own {s : Ms} {a : Nat} {set : Int} {N : Nat} {L : List Tm} (hs : MsOK s) (hN : 1 ≤ N ∧ N < 60) (ha : a < 8) (hb : bitI set a = 1) (h : RsL s a set N L) : L = [] := by
  have hp0 : (0 : Int) < (s.p : Int) := by have := hs.1.1.1; omega
  have := rest_is hs h (z := fun _ => 0) ⟨?_, fun c _ _ => Int.dvd_zero _⟩ (fun c => ⟨Int.le_refl _, hp0⟩)
  · rw [this]
    exact restL_0 (fun _ _ => rfl)
  · have one : (262143 : Int) ∈ ml s.n s.w N := mem_of hs.2.2.1 (okK1 (nv := s.n) (w := s.w)).2.2.1 (okK1 (nv := s.n) (w := s.w)).2.2.2 (by show dg 262143 < _; rw [show dg 262143 = 0 by decide]; omega)
    refine genU_sub.sb (spn_in ⟨s.f a, 262143, ⟨a, ha, hb, rfl⟩, one, rfl⟩) (fun c _ => ?_)
    rw [shf_one]
    show _ = (_ - 0) % _
    congr 1
    omega
/-- a rest's monomials are of a degree below N -/
theorem rest_dg {s : Ms} {a : Nat} {set : Int} {N : Nat} {L : List Tm} (hN : N < 60) (h : RsL s a set N L) : ∀ t ∈ L, dg t.1 < (N : Int) := by
  obtain ⟨z, -, -, e⟩ := h
  intro t ht
  rw [e] at ht
  obtain ⟨j, hj, e2, -⟩ := restL_mem ht
  rw [e2]
  exact (of_mem hN (getDl_mem hj)).2.2.2.1
theorem stairs_nn {s : Ms} {x1 x2 x : Int} (ha : ask s x1 x2) (hx : ∀ y, stairsA s x1 x2 (-1) y → y = x) : 0 ≤ x := by
  have hc : ask s x1 x2 ∧ -1 ≤ (-1 : Int) ∧ (-1 : Int) < x2 := ⟨ha, by omega, by have := ha.2.1; omega⟩
  by_cases h : ∃ kd, KdU (s.p : Int) s.n s.w (FF s x1) x2.toNat kd
  · obtain ⟨kd, hk⟩ := h
    have := hx (cnt kd 0 0 (ml s.n s.w x2.toNat).length) ⟨fun _ kd2 hk2 => ?_, fun q => absurd hc q⟩
    · rw [← this]; exact (cnt_r kd 0 0 _).1
    · rw [if_pos rfl]
      have ee : ∀ c, c < (ml s.n s.w x2.toNat).length → (kd c = 0 ↔ kd2 c = 0) := fun c hcl => by
        have a1 := (hk c hcl).2.1
        have a2 := (hk2 c hcl).2.1
        constructor
        · exact fun q => Classical.byContradiction fun r => (a1.mpr (a2.mp r)) q
        · exact fun q => Classical.byContradiction fun r => (a2.mpr (a1.mp r)) q
      have : ∀ m, m ≤ (ml s.n s.w x2.toNat).length → cnt kd 0 0 m = cnt kd2 0 0 m := by
        intro m
        induction m with
        | zero => exact fun _ => rfl
        | succ m ih =>
          intro hm
          have e1 := ee m (by omega)
          rw [cnt, cnt, ih (by omega), Nat.zero_add]
          by_cases q : kd m = 0
          · rw [if_pos q, if_pos (e1.mp q)]
          · rw [if_neg q, if_neg (fun r => q (e1.mpr r))]
      exact this _ (Nat.le_refl _)
  · have := hx 0 ⟨fun _ kd hk => absurd ⟨kd, hk⟩ h, fun q => absurd hc q⟩
    omega
