/-! ===== the law: its states, the class asked in one form ===== -/
def LwS (S : Sh) (I : MI) (R : MR) (s : Ms) : Prop := Cls S I R s ∧ MsOK s
/-- what stays of the cells that are none of the class's -/
def frL (m : Nat) (S : Sh) (I : MI) (R : MR) (S' : Sh) (I' : MI) (R' : MR) : Prop := sN S ≤ sN S' ∧ sN S' ≤ sN S + m ∧ sU S' ≤ sU S + m ∧ ∀ b, 1310 ≤ b → b < sN S → sT S' b = sT S b ∧ sL S' b = sL S b ∧ I' b = I b ∧ R' b = R b
theorem frL.rf {S : Sh} {I : MI} {R : MR} : frL 0 S I R S I R := ⟨Nat.le_refl _, Nat.le_refl _, Nat.le_refl _, fun _ _ _ => ⟨rfl, rfl, rfl, rfl⟩⟩
theorem frC.L {S S' : Sh} {I I' : MI} {R R' : MR} (h : frC S I R S' I' R') : frL 1 S I R S' I' R' := h
theorem frL.tr {a b c : Nat} {S S1 S2 : Sh} {I I1 I2 : MI} {R R1 R2 : MR} (h : frL a S I R S1 I1 R1) (h2 : frL b S1 I1 R1 S2 I2 R2) (hc : a + b ≤ c) : frL c S I R S2 I2 R2 := by
  obtain ⟨a1, a2, a3, a4⟩ := h
  obtain ⟨b1, b2, b3, b4⟩ := h2
  refine ⟨by omega, by omega, by omega, fun x h1 h2 => ?_⟩
  have q1 := a4 x h1 h2
  have q2 := b4 x h1 (by omega)
  exact ⟨q2.1.trans q1.1, q2.2.1.trans q1.2.1, q2.2.2.1.trans q1.2.2.1, q2.2.2.2.trans q1.2.2.2⟩
theorem frL.wk {a c : Nat} {S S1 : Sh} {I I1 : MI} {R R1 : MR} (h : frL a S I R S1 I1 R1) (hc : a ≤ c) : frL c S I R S1 I1 R1 := ⟨h.1, by have := h.2.1; omega, by have := h.2.2.1; omega, h.2.2.2⟩
section LQ
variable {G : Gl} {S : Sh} {I : MI} {R : MR} {s : Ms}
theorem LwS.t1 (h : LwS S I R s) : sT S 1 = 9 := by
  obtain ⟨⟨P, sp, pd, ps, nu, nw, af, a, b⟩, -⟩ := h
  exact a.t1
theorem LwS.n (h : LwS S I R s) : 1310 ≤ sN S := by
  obtain ⟨⟨P, sp, pd, ps, nu, nw, af, a, b⟩, -⟩ := h
  exact a.1.1.1
theorem q_step {Q : Sh → MI → MR → Int → Prop} {x1 x2 : Int} (h : LwS S I R s) (hq : ∀ x, stepA s x1 x2 x → Q S I R x) : CI G MX9_step [vR 1, vI x1, vI x2] S I R Q := by
  obtain ⟨⟨P, sp, pd, ps, nu, nw, af, a, b⟩, hs⟩ := h
  exact cls_step a hs b hq
theorem q_term {Q : Sh → MI → MR → Int → Prop} {x1 x2 x3 : Int} (h : LwS S I R s) (hq : ∀ x, termA s x1 x2 x3 x → Q S I R x) : CI G MX9_term [vR 1, vI x1, vI x2, vI x3] S I R Q := by
  obtain ⟨⟨P, sp, pd, ps, nu, nw, af, a, b⟩, hs⟩ := h
  exact cls_term a hs b hq
theorem q_shape {Q : Sh → MI → MR → Int → Prop} {x1 x2 : Int} (h : LwS S I R s) (hq : ∀ x, shapeA s x1 x2 x → Q S I R x) : CI G MX9_shape [vR 1, vI x1, vI x2] S I R Q := by
  obtain ⟨⟨P, sp, pd, ps, nu, nw, af, a, b⟩, hs⟩ := h
  exact cls_shape a hs b hq
theorem q_out {Q : Sh → MI → MR → Int → Prop} {x1 : Int} (h : LwS S I R s) (hq : ∀ x, outA s x1 x → Q S I R x) : CI G MX9_out [vR 1, vI x1] S I R Q := by
  obtain ⟨⟨P, sp, pd, ps, nu, nw, af, a, b⟩, hs⟩ := h
  exact cls_out a hs b hq
theorem q_look {Q : Sh → MI → MR → Int → Prop} {x1 : Int} (h : LwS S I R s) (hq : ∀ x, lookA s (hld s.f 255 8) x1 x → Q S I R x) : CI G MX9_look [vR 1, vI x1] S I R Q := by
  obtain ⟨⟨P, sp, pd, ps, nu, nw, af, a, b⟩, hs⟩ := h
  exact cls_look a b hq
theorem q_kept {Q : Sh → MI → MR → Int → Prop} {x1 x2 : Int} (h : LwS S I R s) (hq : ∀ S' I' R' x s', LwS S' I' R' s' → frL 1 S I R S' I' R' → keptA s x1 x2 x s' → Q S' I' R' x) : CI G MX9_kept [vR 1, vI x1, vI x2] S I R Q := by
  obtain ⟨⟨P, sp, pd, ps, nu, nw, af, a, b⟩, hs⟩ := h
  exact cls_kept a hs b (fun S' I' R' x s' c f k => hq S' I' R' x s' ⟨c, kept_ok hs k⟩ f k)
theorem q_make {Q : Sh → MI → MR → Int → Prop} {x1 x2 x3 x4 : Int} (h : LwS S I R s) (hq : ∀ S' I' R' x s', LwS S' I' R' s' → frL 1 S I R S' I' R' → makeA s x1 x2 x3 x4 x s' → Q S' I' R' x) : CI G MX9_make [vR 1, vI x1, vI x2, vI x3, vI x4] S I R Q := by
  obtain ⟨⟨P, sp, pd, ps, nu, nw, af, a, b⟩, hs⟩ := h
  exact cls_make a hs b (fun S' I' R' x s' c f k => hq S' I' R' x s' ⟨c, make_ok hs k⟩ f k)
theorem q_weak {Q : Sh → MI → MR → Int → Prop} {x1 x2 : Int} (h : LwS S I R s) (hq : ∀ S' I' R' x s', LwS S' I' R' s' → frL 1 S I R S' I' R' → weakA s x1 x2 x s' → Q S' I' R' x) : CI G MX9_weak [vR 1, vI x1, vI x2] S I R Q := by
  obtain ⟨⟨P, sp, pd, ps, nu, nw, af, a, b⟩, hs⟩ := h
  exact cls_weak a hs b (fun S' I' R' x s' c f k o => hq S' I' R' x s' ⟨c, o⟩ f k)
theorem q_rest {Q : Sh → MI → MR → Int → Prop} {x1 x2 x3 x4 : Int} (h : LwS S I R s) (hq : ∀ S' I' R' x s', LwS S' I' R' s' → frL 1 S I R S' I' R' → (∀ y s'', restA s x1 x2 x3 x4 y s'' → y = x ∧ s'' = s') → Q S' I' R' x) : CI G MX9_rest [vR 1, vI x1, vI x2, vI x3, vI x4] S I R Q := by
  obtain ⟨⟨P, sp, pd, ps, nu, nw, af, a, b⟩, hs⟩ := h
  exact cls_rest a hs b (fun S' I' R' x s' c f k o => hq S' I' R' x s' ⟨c, o⟩ f k)
theorem q_stairs {Q : Sh → MI → MR → Int → Prop} {x1 x2 x3 : Int} (h : LwS S I R s) (hq : ∀ S' I' R' x, LwS S' I' R' s → frL 1 S I R S' I' R' → (∀ y, stairsA s x1 x2 x3 y → y = x) → Q S' I' R' x) : CI G MX9_stairs [vR 1, vI x1, vI x2, vI x3] S I R Q := by
  obtain ⟨⟨P, sp, pd, ps, nu, nw, af, a, b⟩, hs⟩ := h
  exact cls_stairs a hs b (fun S' I' R' x c f k => hq S' I' R' x ⟨c, hs⟩ f k)
theorem q_show {Q : Sh → MI → MR → Int → Prop} {x1 : Int} (h : LwS S I R s) (hq : ∀ S' I' R' x s', LwS S' I' R' s' → frL 1 S I R S' I' R' → showA s x1 x s' → Q S' I' R' x) : CI G MX9_show [vR 1, vI x1] S I R Q := by
  obtain ⟨⟨P, sp, pd, ps, nu, nw, af, a, b⟩, hs⟩ := h
  exact cls_show a hs b (fun S' I' R' x s' c f k => hq S' I' R' x s' ⟨c, show_ok hs k⟩ f k)
theorem q_poly {Q : Sh → MI → MR → Int → Prop} {x1 : Int} (h : LwS S I R s) (hq : ∀ S' I' R' x s', LwS S' I' R' s' → frL 1 S I R S' I' R' → polyA s x1 x s' → Q S' I' R' x) : CI G MX9_poly [vR 1, vI x1] S I R Q := by
  obtain ⟨⟨P, sp, pd, ps, nu, nw, af, a, b⟩, hs⟩ := h
  exact cls_poly a hs b (fun S' I' R' x s' c f k => hq S' I' R' x s' ⟨c, poly_ok hs k⟩ f k)
theorem q_end {Q : Sh → MI → MR → Int → Prop} {x1 : Int} (h : LwS S I R s) (hq : ∀ S' I' R' x s', LwS S' I' R' s' → frL 1 S I R S' I' R' → endA s x1 x s' → Q S' I' R' x) : CI G MX9_end [vR 1, vI x1] S I R Q := by
  obtain ⟨⟨P, sp, pd, ps, nu, nw, af, a, b⟩, hs⟩ := h
  exact cls_end a hs b (fun S' I' R' x s' c f k => hq S' I' R' x s' ⟨c, end_ok hs k⟩ f k)
theorem q_feed {Q : Sh → MI → MR → Int → Prop} {x1 x2 x3 x4 x5 : Int} (h : LwS S I R s) (r1 : InR x1) (r2 : InR x2) (r3 : InR x3) (r4 : InR x4) (r5 : InR x5) (hq : ∀ S' I' R' x s', LwS S' I' R' s' → frL 1 S I R S' I' R' → feedA s x1 x2 x3 x4 x5 x s' → Q S' I' R' x) : CI G MX9_feed [vR 1, vI x1, vI x2, vI x3, vI x4, vI x5] S I R Q := by
  obtain ⟨⟨P, sp, pd, ps, nu, nw, af, a, b⟩, hs⟩ := h
  exact cls_feed a hs b r1 r2 r3 r4 r5 (fun S' I' R' x s' c f k => hq S' I' R' x s' ⟨c, feed_ok hs k⟩ f k)
theorem q_weights {Q : Sh → MI → MR → Int → Prop} {x1 x2 x3 : Int} (h : LwS S I R s) (hq : ∀ S' I' R' x s', LwS S' I' R' s' → frL 1 S I R S' I' R' → weightsA s x1 x2 x3 x s' → Q S' I' R' x) : CI G MX9_weights [vR 1, vI x1, vI x2, vI x3] S I R Q := by
  obtain ⟨⟨P, sp, pd, ps, nu, nw, af, a, b⟩, hs⟩ := h
  exact cls_weights a hs b (fun S' I' R' x s' c f k => hq S' I' R' x s' ⟨c, weights_ok hs k⟩ f k)
theorem q_ring {Q : Sh → MI → MR → Int → Prop} {x1 x2 : Int} (h : LwS S I R s) (hq : ∀ S' I' R' x s', LwS S' I' R' s' → frL 1 S I R S' I' R' → ringA s x1 x2 x s' → Q S' I' R' x) : CI G MX9_ring [vR 1, vI x1, vI x2] S I R Q := by
  obtain ⟨⟨P, sp, pd, ps, nu, nw, af, a, b⟩, hs⟩ := h
  exact cls_ring a a.1.1.1 b (fun S' I' R' x s' c f k => hq S' I' R' x s' ⟨c, ring_ok hs k⟩ f k)
/-- new cells, and what is written into them, are nothing to the class -/
theorem LwS.gr {S' : Sh} {I' : MI} {R' : MR} (h : LwS S I R s) (g : grw S I R S' I' R' (sN S)) (hn : sN S ≤ sN S') : LwS S' I' R' s := by
  obtain ⟨⟨P, sp, pd, ps, nu, nw, af, a, b⟩, hs⟩ := h
  have a1 := a.1.1.1
  have a2 := a.1.1.2.1
  have s1 : sam 1 1309 S I R S' I' R' := fun x h1 h2 => g x (by omega)
  have s2 : sam nu nu S I R S' I' R' := fun x h1 h2 => g x (by omega)
  exact ⟨⟨P, sp, pd, ps, nu, nw, af, a.sm s1 s2 hn, b.sm a hs s1 s2⟩, hs⟩
end LQ
