/-! ===== the class: ideals ===== -/
theorem vec_nil {n : Int} {w : Nat → Int} {D : Nat} {m : Int} : vecM (ml n w D) (shf m (cf [])) = fun _ => 0 := rfl
theorem genU_held {s : Ms} {st : Int} {p : Int} {D : Nat} : GenU p s.n s.w (FF s (hld s.f st 8)) D = GenU p s.n s.w (FF s st) D := by
  funext x
  apply propext
  constructor
  · intro h U hU hA
    refine h U hU (fun y hy => ?_)
    obtain ⟨f, m, ⟨k, h1, h2, h3⟩, h4, h5⟩ := hy
    have b := hld_b8 s.f st h1
    rw [h2] at b
    refine hA y ⟨f, m, ⟨k, h1, ?_, h3⟩, h4, h5⟩
    by_cases c : bitI st k = 1 ∧ s.f k ≠ []
    · exact c.1
    · rw [if_neg c] at b; exact absurd b (by decide)
  · intro h U hU hA
    refine h U hU (fun y hy => ?_)
    obtain ⟨f, m, ⟨k, h1, h2, h3⟩, h4, h5⟩ := hy
    by_cases c : s.f k = []
    · rw [h5, h3, c, vec_nil]; exact hU.1
    · refine hA y ⟨f, m, ⟨k, h1, ?_, h3⟩, h4, h5⟩
      rw [hld_b8 s.f st h1, if_pos ⟨h2, c⟩]
theorem led_held {s : Ms} {st : Int} {p : Int} {D : Nat} : led p s.n s.w (FF s (hld s.f st 8)) D = led p s.n s.w (FF s st) D := by
  funext c
  unfold led
  rw [genU_held]
theorem KdU_held {s : Ms} {st : Int} {p : Int} {D : Nat} {kd : Nat → Int} (h : KdU p s.n s.w (FF s (hld s.f st 8)) D kd) : KdU p s.n s.w (FF s st) D kd := by
  have e := led_held (s := s) (st := st) (p := p) (D := D)
  unfold KdU prd at h ⊢
  rw [e] at h
  exact h
theorem FF_ok {s : Ms} (hs : MsOK s) (st : Int) : ∀ g, FF s st g → okQ (s.p : Int) s.n s.w g := fun g ⟨k, h1, _, h3⟩ => by rw [h3]; exact hs.2.2.2.1 k h1
section CLI
variable {G : Gl} {S : Sh} {I : MI} {R : MR} {P : Nat → Nat} {sp pd ps nu nw af : Nat} {s : Ms}
theorem oldest_spec {Q : Sh → MI → MR → Nat → Prop} (h : ClsS S R P sp pd ps nu nw af) (hv : ClsV S I P nu nw s) (hq : ∀ I' k, k < 4 → (∀ b, b ≠ 1 → b ≠ idA k → I' b = I b) → (0 ≤ I' 1 7 ∧ I' 1 7 < 4) → I' (idA k) 0 = -1 → Q S I' R (idA k)) : CR G MX9_oldestIdeal [vR 1] S I R Q := by
  have nx := hv.nx
  have hk : (I 1 7).toNat < 4 := by omega
  have idk := h.ia.2 (I 1 7).toNat hk
  refine bX9_oldestIdeal ?_
  have n1 : (1 : Nat) ≠ idA (I 1 7).toNat := by unfold idA; omega
  rw [h.r5, h.ia.1.1, h.ia.1.2, idk.1, w32_id (x := I 1 7 + 1) (by omega)]
  refine ⟨h.t1, rfl, ⟨by omega, by omega⟩, fun c => fun I1 e1 => ⟨idk.2.1, fun I2 e2 => ?_⟩, fun c => fun I1 e1 => ⟨idk.2.1, fun I2 e2 => ?_⟩⟩
  · refine hq I2 _ hk (fun b h1 h2 => by rw [e2, up2_n h2, e1, up2_n h1]) ?_ (by rw [e2, up2_ss])
    rw [e2, up2_n n1, e1, up2_ss]; omega
  · refine hq I2 _ hk (fun b h1 h2 => by rw [e2, up2_n h2, e1, up2_n h1]) ?_ (by rw [e2, up2_ss])
    rw [e2, up2_n n1, e1, up2_ss]; omega
theorem ClsV.toIdeal {I' : MI} {k : Nat} (h : ClsS S R P sp pd ps nu nw af) (hs : MsOK s) (hv : ClsV S I P nu nw s) (o : ∀ b, (2 ≤ b ∧ b ≤ 790) ∨ b = 1301 ∨ b = 1302 ∨ b = 1303 ∨ 1310 ≤ b ∨ (792 ≤ b ∧ b < idA k) ∨ (idA k + 123 < b ∧ b ≤ 1287) → I' b = I b) (nx : 0 ≤ I' 1 7 ∧ I' 1 7 < 4) (hi : ClI I' s (idA k)) : ClsV S I' P nu nw s := by
  have hPr := fun j (hj : j < 8) => (h.okP j hj).r
  have nr := h.nr
  refine ⟨⟨hv.rtI (fun b _ _ => o b (by omega)), hv.nm.atI (o _ (by omega))⟩, fun k hk => (hv.f k hk).same (fun b _ _ => o b (by have := hPr k hk; omega)), hv.tpI (o _ (by omega)) (o _ (by omega)), hv.txI (o _ (by omega)) (o _ (by omega)), hv.dvI h hs (fun b _ _ => o b (by omega)), nx, fun j hj => ?_⟩
  by_cases c : j = k
  · rw [c]; exact hi
  · exact (hv.id j hj).same hs (fun b h1 h2 => o b (by unfold idA at h1 h2 ⊢; omega))
theorem idealOf_spec {Q : Sh → MI → MR → Nat → Prop} {st : Int} (h : ClsS S R P sp pd ps nu nw af) (hs : MsOK s) (hv : ClsV S I P nu nw s) (hst : set8 st)
    (hq : ∀ I' k, k < 4 → ClsV S I' P nu nw s → (∀ b, (2 ≤ b ∧ b ≤ 790) ∨ b = 1301 ∨ b = 1302 ∨ b = 1303 ∨ 1310 ≤ b → I' b = I b) → IdZ I' (idA k) → IdT I' (idA k) (s.p : Int) s.n s.w (FF s (hld s.f st 8)) → Q S I' R (idA k)) : CR G MX9_idealOf [vR 1, vI st] S I R Q := by
  have hb : 0 ≤ hld s.f st 8 ∧ hld s.f st 8 < 256 := hld_r s.f st 8
  refine bX9_idealOf ⟨h.t1, held_spec h hv hst ?_⟩
  rw [h.r5, h.ia.1.1, h.ia.1.2]
  refine ⟨h.t1, by omega, ?_⟩
  have loop : ∀ (q c : Nat), 4 - c = q → c ≤ 4 → LX9_idealOf_18 G 1 (hld s.f st 8) 791 ((4 : Nat) : Int) (c : Int) S I R Q := by
    intro q
    induction q with
    | zero =>
      intro c hq1 hc
      refine bX9_idealOf_18 (br_t (by omega) ⟨h.t1, oldest_spec h hv (fun I1 k hk o1 n1 z1 => ?_)⟩)
      have idk := (h.ia.2 k hk).2
      have hPr := fun j (hj : j < 8) => (h.okP j hj).r
      have nr := h.nr
      have kr : 792 ≤ idA k ∧ idA k ≤ 1164 := by unfold idA; omega
      rw [h.r0, h.r1]
      have o1' : ∀ b, b ≠ 1 → b ≠ idA k → I1 b = I b := o1
      refine ⟨h.t1, idk.1, build_spec (i := idA k) (r := 2) (pa := 11) (nl := 8) (P := P) (f := s.f) (bits := hld s.f st 8) idk h.ring (Or.inl (by omega)) (hv.rtI (fun b _ _ => o1 b (by omega) (by omega))) h.toNu (hv.nm.atI (o1 nu (by omega) (by omega))) hs.1.1 (by omega) ((hv.id k hk).1.sm2 (fun b h1 h2 => o1 b (by omega) (by omega))) h.sl (by omega) hb (fun j hj _ => ⟨(hv.f j hj).same (fun b _ _ => o1 b (by have := hPr j hj; omega) (by have := hPr j hj; omega)), hs.2.2.2.1 j hj⟩) (fun j hj => by have := hPr j hj; omega) (fun I2 o2 t2 zz2 => ⟨idk.1, fun I3 e3 => ?_⟩)⟩
      have s3 : sI2 I2 I3 (idA k) := fun b h1 h2 => by rw [e3]; exact up2_n (by omega)
      have hl := (ml_bd hs.2.1 hs.2.2.1).1
      have o3 : ∀ b, b ≠ 1 → (b < idA k ∨ idA k + 123 < b) → I3 b = I b := fun b h1 h2 => by rw [e3, up2_n (by omega), o2 b (by omega), o1 b h1 (by omega)]
      have t3 := t2.sm2 hl s3
      have z3 := zz2.sm2 s3
      refine hq I3 k hk (ClsV.toIdeal (k := k) h hs hv (fun b hb => o3 b (by omega) (by omega)) ?_ ⟨z3, Or.inr ?_⟩) (fun b hb => o3 b (by omega) (by omega)) z3 t3
      · rw [e3, up2_n (by omega), o2 1 (by omega)]; exact n1
      · rw [e3, up2_ss, ← e3]
        refine ⟨hb, fun j hj hbit => ?_, t3⟩
        rw [hld_b8 s.f st hj] at hbit
        by_cases c : bitI st j = 1 ∧ s.f j ≠ []
        · exact c.2
        · rw [if_neg c] at hbit; exact absurd hbit (by decide)
    | succ q ih =>
      intro c hq1 hc
      have c4 : c < 4 := by omega
      have idc := h.ia.2 c c4
      have hI := hv.id c c4
      refine bX9_idealOf_18 (br_f (by omega) ?_)
      rw [h.ia.1.1, h.ia.1.2, show Int.toNat (c : Int) = c by omega, idc.1, add1 (n := c) (by omega)]
      refine ⟨rfl, ⟨by omega, by omega⟩, idc.2.1, fun _ => ih (c + 1) (by omega) (by omega), fun d => ?_⟩
      have e0 := Decidable.not_not.mp d
      refine hq I c c4 hv (fun _ _ => rfl) hI.1 ?_
      rcases hI.2 with z | ⟨z1, z2, z3⟩
      · omega
      · rw [e0] at z3; exact z3
  exact loop 4 0 rfl (by omega)
end CLI

