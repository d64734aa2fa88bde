/-! ===== the class's answers: what changes a slot, the tape, what is shown ===== -/
section CLQ
variable {G : Gl} {S : Sh} {I : MI} {R : MR} {P : Nat → Nat} {sp pd ps nu nw af : Nat} {s : Ms}
theorem ClsS.spp (h : ClsS S R P sp pd ps nu nw af) : okA sp ∧ PolyS S R sp 60 := ⟨h.2.2.2.2.2.2.2.2.1.2.1, h.2.2.2.2.2.2.2.2.1.2.2.1⟩
theorem ClsS.okP (h : ClsS S R P sp pd ps nu nw af) : ∀ k, k < 8 → okA (P k) := h.2.2.2.2.2.2.2.2.1.1
theorem ClsS.ap (h : ClsS S R P sp pd ps nu nw af) {k : Nat} (hk : k < 8) : P k + 2 < sp ∨ sp + 2 < P k := (h.okP k hk).ap h.spp.1 (h.2.2.2.2.2.2.2.2.1.2.2.2.2 k hk)
theorem ClsS.nr (h : ClsS S R P sp pd ps nu nw af) : nu = 3 ∨ 1310 ≤ nu := h.1.1.2.2.1
theorem ClsV.offSp {I' : MI} (h : ClsS S R P sp pd ps nu nw af) (hs : MsOK s) (hv : ClsV S I P nu nw s) (o : off3 I I' sp) : ClsV S I' P nu nw s := by
  have r := h.spp.1.r
  have n := h.nr
  have g : ∀ b, (b < sp ∨ sp + 2 < b) → I' b = I b := fun b hb => o b (by omega) (by omega) (by omega)
  exact hv.ch h hs (fun b _ _ => g b (by omega)) (g nu (by omega)) (fun k hk b _ _ => g b (by have := h.ap hk; omega)) ⟨g _ (by omega), g _ (by omega), fun b _ _ => g b (by omega)⟩
/-- what stands in spare comes into a slot -/
theorem spare_put {Q : Sh → MI → MR → Int → Prop} {I1 : MI} {k : Nat} {L : List Tm} (h : ClsS S R P sp pd ps nu nw af) (hs : MsOK s) (hv : ClsV S I1 P nu nw s) (hk : k < 8) (hL : Has I1 sp L) (hf : ∀ b, 1310 ≤ b → I1 b = I b)
    (hq : ∀ I' R', frC S I R S I' R' → Cls S I' R' (put s k L) → Q S I' R' (L.length : Int)) : CI G MX9_putSpare [vR 1, vI (k : Int)] S I1 R Q :=
  putSpare_spec h hs hv hk hL (fun I' R' e1 e2 e3 => hq I' R' (frC.ir (fun b hb => (e1 b hb).trans (hf b hb)) e2) e3)
theorem off3.hi {I I' : MI} (h : ClsS S R P sp pd ps nu nw af) (o : off3 I I' sp) : ∀ b, 1310 ≤ b → I' b = I b := fun b hb => by
  have r := h.spp.1.r
  exact o b (by omega) (by omega) (by omega)
theorem cls_end {Q : Sh → MI → MR → Int → Prop} (h : ClsS S R P sp pd ps nu nw af) (hs : MsOK s) (hv : ClsV S I P nu nw s) {x1 : Int} (hq : ∀ S' I' R' x s', Cls S' I' R' s' → frC S I R S' I' R' → endA s x1 x s' → Q S' I' R' x) : CI G MX9_end [vR 1, vI x1] S I R Q := by
  have no : ¬ (0 ≤ x1 ∧ x1 ≤ (s.tn : Int)) → Q S I R 0 := fun c => hq S I R 0 s ⟨_, _, _, _, _, _, _, h, hv⟩ frC.rf ⟨fun z => absurd z c, fun _ => ⟨rfl, rfl⟩⟩
  refine bX9_end ⟨fun c => no (by omega), fun c => ?_⟩
  rw [h.r2, hv.tp.1.1]
  refine ⟨h.t1, h.tp.1, fun d => fun I2 e2 => ?_, fun d => no (by omega)⟩
  have o2 : ∀ b, b ≠ 36 → I2 b = I b := fun b hb => by rw [e2]; exact up2_n hb
  have nr := h.nr
  have hP := fun k hk => (h.okP k hk).r
  have et : (x1 : Int) = ((x1.toNat : Nat) : Int) := by omega
  refine hq S I2 R 1 _ ⟨_, _, _, _, _, _, _, h, ?_⟩ (frC.i (fun b hb => o2 b (by omega))) ⟨fun _ => ⟨rfl, rfl⟩, fun z => absurd ⟨by omega, d⟩ z⟩
  have tb := hv.tp.1
  refine ⟨⟨hv.rtI (fun b _ _ => o2 b (by omega)), hv.nm.atI (o2 _ (by omega))⟩, fun k hk => (hv.f k hk).same (fun b _ _ => o2 b (by have := hP k hk; omega)), ⟨⟨?_, ?_, fun i hi => ?_⟩, ?_, ?_⟩, hv.txI (o2 _ (by omega)) (o2 _ (by omega)), (hv.dvI h hs (fun b _ _ => o2 b (by omega)) : ClD I2 nw s.dv), by rw [o2 1 (by omega)]; exact hv.nx, (hv.idI hs (fun b _ _ => o2 b (by omega)) : ∀ k, k < 4 → ClI I2 s (idA k))⟩
  · rw [e2, up2_ss]; exact et
  · show x1.toNat ≤ 200; have := tb.2.1; omega
  · rw [o2 (36 + 1) (by omega)]; exact tb.2.2 i (by have : i < x1.toNat := hi; omega)
  · rw [e2, up2_sn (by decide)]; exact hv.tp.2.1
  · rw [e2, up2_sn (by decide)]; exact hv.tp.2.2
theorem cls_show {Q : Sh → MI → MR → Int → Prop} (h : ClsS S R P sp pd ps nu nw af) (hs : MsOK s) (hv : ClsV S I P nu nw s) {x1 : Int} (hq : ∀ S' I' R' x s', Cls S' I' R' s' → frC S I R S' I' R' → showA s x1 x s' → Q S' I' R' x) : CI G MX9_show [vR 1, vI x1] S I R Q := by
  refine bX9_show ⟨fun c => ?_, fun c => hq S I R _ s ⟨_, _, _, _, _, _, _, h, hv⟩ frC.rf ⟨fun z => absurd (v9isSlot.mpr z) c, fun _ => ⟨rfl, rfl⟩⟩⟩
  have c1 := v9isSlot.mp c
  obtain ⟨⟨t11, l11⟩, e11, po⟩ := h.slot c1
  have okf := hs.2.2.2.1 x1.toNat (by omega)
  have pr := (h.okP x1.toNat (by omega)).r
  have p32 := hs.1.2
  have hP := fun k hk => (h.okP k hk).r
  have nr := h.nr
  rw [h.r1, h.r3, e11]
  refine ⟨h.t1, t11, l11, h.tx.1, write_spec h.tx po (by omega) okf.2.2 (fun t ht => ⟨okf.ms t ht, ?_, ?_⟩) okf.2.2 (hv.f x1.toNat (by omega)) (fun I2 o2 hT => ?_)⟩
  · have := okf.1.2 t ht; omega
  · have := okf.1.2 t ht; omega
  · have g : ∀ b, b ≠ 42 → b ≠ 43 → I2 b = I b := fun b h1 h2 => o2 b h1 h2
    rw [h.r3]
    refine ⟨h.t1, h.tx.1, ?_⟩
    rw [hT.1]
    refine hq S I2 R _ _ ⟨_, _, _, _, _, _, _, h, ?_⟩ (frC.i (fun b hb => g b (by omega) (by omega))) ⟨fun _ => ⟨rfl, rfl⟩, fun z => absurd c1 z⟩
    exact ⟨⟨hv.rtI (fun b _ _ => g b (by omega) (by omega)), hv.nm.atI (g _ (by omega) (by omega))⟩, fun k hk => (hv.f k hk).same (fun b _ _ => g b (by have := hP k hk; omega) (by have := hP k hk; omega)), hv.tpI (g _ (by omega) (by omega)) (g _ (by omega) (by omega)), hT, (hv.dvI h hs (fun b _ _ => g b (by omega) (by omega)) : ClD I2 nw s.dv), by rw [g 1 (by omega) (by omega)]; exact hv.nx, (hv.idI hs (fun b _ _ => g b (by omega) (by omega)) : ∀ k, k < 4 → ClI I2 s (idA k))⟩
end CLQ

