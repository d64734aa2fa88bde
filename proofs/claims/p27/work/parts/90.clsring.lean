/-! ===== the class: ring, weights, feed ===== -/
section CLR
variable {G : Gl} {S : Sh} {I : MI} {R : MR} {P : Nat → Nat} {sp pd ps nu nw af : Nat} {s : Ms}
theorem isPrime9_spec {Q : Sh → MI → MR → Int → Prop} {p : Int} (h1 : okRing 1 p → Q S I R 1) (h0 : ¬ okRing 1 p → Q S I R 0) : CI G MX9_isPrime [vI p] S I R Q := by
  refine bX9_isPrime ⟨fun c => h0 (fun z => by have := z.2.1; omega), fun c => ⟨fun c2 => ?_, fun c2 => h0 (fun z => by have := z.2.1; omega)⟩⟩
  have hp : 2 ≤ p ∧ p ≤ 32749 := ⟨by omega, c2⟩
  have loop : ∀ (q d : Nat), 182 - d = q → d ≤ 182 → 2 ≤ d → (∀ e, 2 ≤ e → e < d → ¬ e ∣ p.toNat) → LX9_isPrime_16 G p (d : Int) S I R Q := by
    intro q
    induction q using Nat.strongRecOn with
    | _ q ih =>
      intro d hq1 hd h2 hno
      have emul : w32 ((d : Int) * (d : Int)) = ((d * d : Nat) : Int) := by
        have : d * d ≤ 182 * 182 := Nat.mul_le_mul hd hd
        rw [w32_id (by rw [← Int.natCast_mul]; omega), Int.natCast_mul]
      refine bX9_isPrime_16 ?_
      rw [emul, add1 (n := d) (by omega)]
      refine ⟨fun c => h1 ⟨⟨by omega, by omega⟩, hp, ⟨by omega, fun e e2 ee hdv => ?_⟩⟩, fun c => ⟨by omega, ?_⟩⟩
      · by_cases hed : e < d
        · exact hno e e2 hed hdv
        · have : d * d ≤ e * e := Nat.mul_le_mul (by omega) (by omega)
          omega
      · have hd182 := sq_lt c hp.2
        rw [irem_eq (by omega) (by omega) (by omega) (by omega)]
        have hdvd : p % (d : Int) = 0 ↔ d ∣ p.toNat := by
          rw [show p = ((p.toNat : Nat) : Int) by omega, ← Int.natCast_emod]
          rw [show (((p.toNat : Nat) : Int)).toNat = p.toNat by omega]
          constructor
          · intro z; exact Nat.dvd_of_mod_eq_zero (by omega)
          · intro z; have := Nat.mod_eq_zero_of_dvd z; omega
        refine ⟨fun z => ?_, fun z => h0 (fun hP => ?_)⟩
        · refine ih (182 - (d + 1)) (by omega) (d + 1) rfl (by omega) (by omega) (fun e e2 ee => ?_)
          by_cases hed : e = d
          · rw [hed]; exact fun q => z (hdvd.mpr q)
          · exact hno e e2 (by omega)
        · exact hP.2.2.2 d h2 (by omega) (hdvd.mp (Decidable.not_not.mp z))
  exact loop 180 2 rfl (by omega) (by omega) (fun e h1 h2 => by omega)
theorem forget_spec {Q : Sh → MI → MR → Prop} (h : ClsS S R P sp pd ps nu nw af) (hq : ∀ I', (∀ b, b ≠ 44 → (∀ j, j < 4 → b ≠ idA j) → I' b = I b) → I' 44 0 = 0 → (∀ j, j < 4 → I' (idA j) 0 = -1) → Q S I' R) : CV G MX9_forgetWhatWasWorkedOut [vR 1] S I R Q := by
  refine bX9_forgetWhatWasWorkedOut ?_
  rw [h.r4, h.r5, h.ia.1.1, h.ia.1.2]
  refine ⟨h.t1, h.dv.1, fun I1 e1 => ⟨by omega, ?_⟩⟩
  have loop : ∀ (q c : Nat) (I2 : MI), 4 - c = q → c ≤ 4 → offZ I1 I2 → (∀ j, j < c → I2 (idA j) 0 = -1) → LX9_forgetWhatWasWorkedOut_18 G 791 ((4 : Nat) : Int) (c : Int) S I2 R Q := by
    intro q
    induction q with
    | zero =>
      intro c I2 hq1 hc oz hd
      refine bX9_forgetWhatWasWorkedOut_18 (br_t (by omega) (hq I2 (fun b hb hb2 => (oz.1 b hb2).trans (by rw [e1]; exact up2_n hb)) ?_ (fun j hj => hd j (by omega))))
      rw [oz.lo (by omega), e1, up2_ss]
    | succ q ih =>
      intro c I2 hq1 hc oz hd
      have c4 : c < 4 := by omega
      have idc := h.ia.2 c c4
      refine bX9_forgetWhatWasWorkedOut_18 (br_f (by omega) ?_)
      rw [h.ia.1.1, h.ia.1.2, show Int.toNat (c : Int) = c by omega, idc.1, add1 (n := c) (by omega)]
      refine ⟨rfl, ⟨by omega, by omega⟩, idc.2.1, fun I3 e3 => ih (c + 1) I3 (by omega) (by omega) (oz.tr (offZ.u c4 e3)) (fun j hj => ?_)⟩
      by_cases cj : j = c
      · rw [cj, e3, up2_ss]
      · rw [e3, up2_n (idA_ne cj)]; exact hd j (by omega)
  exact loop 4 0 I1 rfl (by omega) offZ.rf (fun j hj => absurd hj (Nat.not_lt_zero _))
theorem ClsV.fresh {S' : Sh} {I' : MI} {nu' : Nat} {n' : Int} {p' : Nat} {w' : Nat → Int} {f' : Nat → List Tm} (hv : ClsV S I P nu nw s) (rt : RingT I' 2 n' w') (nm : NumS S' I' nu' (p' : Int)) (hf : ∀ k, k < 8 → Has I' (P k) (f' k)) (e : ∀ b, (b = 1 ∨ b = 36 ∨ b = 37 ∨ b = 42 ∨ b = 43) → I' b = I b) (hz : I' 44 0 = 0) (hi : ∀ j, j < 4 → I' (idA j) 0 = -1) (hi2 : ∀ j, j < 4 → sI2 I I' (idA j)) : ClsV S' I' P nu' nw ((n', p', w'), f', s.2.2.1, s.2.2.2.1, s.2.2.2.2.1, none) :=
  ⟨⟨rt, nm⟩, hf, hv.tpI (e _ (by omega)) (e _ (by omega)), hv.txI (e _ (by omega)) (e _ (by omega)), hz, by rw [e 1 (by omega)]; exact hv.nx, fun k hk => ⟨(hv.id k hk).1.sm2 (hi2 k hk), Or.inl (hi k hk)⟩⟩
/-- only slots are written -/
def offL (P : Nat → Nat) (I I' : MI) : Prop := ∀ b, (∀ j, j < 8 → b < P j ∨ P j + 2 < b) → I' b = I b
theorem cls_weights {Q : Sh → MI → MR → Int → Prop} (h : ClsS S R P sp pd ps nu nw af) (hs : MsOK s) (hv : ClsV S I P nu nw s) {x1 x2 x3 : Int} (hq : ∀ S' I' R' x s', Cls S' I' R' s' → frC S I R S' I' R' → weightsA s x1 x2 x3 x s' → Q S' I' R' x) : CI G MX9_weights [vR 1, vI x1, vI x2, vI x3] S I R Q := by
  have no : ¬ okWt x1 x2 x3 → Q S I R 0 := fun c => hq S I R 0 s ⟨_, _, _, _, _, _, _, h, hv⟩ frC.rf ⟨fun z => absurd z c, fun _ => ⟨rfl, rfl⟩⟩
  refine bX9_weights ⟨fun c => no (fun z => v9isWeight.mpr z.1 c), fun c1 => ⟨fun c => no (fun z => v9isWeight.mpr z.2.1 c), fun c2 => ⟨fun c3 => ?_, fun c => no (fun z => c (v9isWeight.mpr z.2.2))⟩⟩⟩
  have hok : okWt x1 x2 x3 := ⟨v9isWeight.mp c1, v9isWeight.mp c2, v9isWeight.mp c3⟩
  have hw : wtOK (wts x1 x2 x3) := fun i hi => by
    unfold wts
    by_cases a : i = 0
    · rw [if_pos a]; exact hok.1
    · by_cases b : i = 1
      · rw [if_neg a, if_pos b]; exact hok.2.1
      · rw [if_neg a, if_neg b]; exact hok.2.2
  have hP := fun k hk => (h.okP k hk).r
  have nr := h.nr
  have hne : ∀ j k, j < 8 → k < 8 → j ≠ k → P j + 2 < P k ∨ P k + 2 < P j := fun j k hj hk hjk => (h.okP j hj).ap (h.okP k hk) (h.2.2.2.2.2.2.2.2.1.2.2.2.1 j k hj hk hjk)
  rw [h.r0]
  refine ⟨h.t1, h.ring.1, weigh_spec (w := wts x1 x2 x3) h.ring hv.rt.1.1 hs.2.1 hw (fun I1 o1 rt1 => ⟨h.t1, ?_⟩)⟩
  have g1 : ∀ b, (b < 2 ∨ 10 < b ∨ b = 3) → I1 b = I b := fun b hb => o1.1 b (by omega) (by omega)
  rw [h.r1, h.sl.1.1, h.sl.1.2]
  refine ⟨by omega, ?_⟩
  have loop : ∀ (q c : Nat) (I2 : MI), 8 - c = q → c ≤ 8 → offL P I1 I2 → (∀ j, j < c → Has I2 (P j) (rekL (s.p : Int) (wts x1 x2 x3) (s.f j))) → (∀ j, c ≤ j → j < 8 → Has I2 (P j) (s.f j)) → LX9_weights_47 G 1 11 ((8 : Nat) : Int) (c : Int) S I2 R Q := by
    intro q
    induction q with
    | zero =>
      intro c I2 hq1 hc ol hd hr
      refine bX9_weights_47 (br_t (by omega) ⟨h.t1, forget_spec h (fun I3 o3 z3 i3 => ?_)⟩)
      have g2 : ∀ b, (b < 12 ∨ (36 ≤ b ∧ b ≤ 1300) ∨ 1304 ≤ b) → I2 b = I1 b := fun b hb => ol b (fun j hj => by have := hP j hj; omega)
      have g3 : ∀ b, b ≠ 44 → (b < 792 ∨ 1287 < b) → I3 b = I2 b := fun b h1 h2 => o3 b h1 (fun j hj => by unfold idA; omega)
      refine hq S I3 R _ _ ⟨_, _, _, _, _, _, _, h, ClsV.fresh (s := s) hv (rt1.o ?_ (fun b h1 h2 => ?_)) (hv.nm.atI ?_) (fun k hk => (hd k (by omega)).same (fun b h1 h2 => ?_)) (fun b hb => ?_) z3 i3 (fun j hj b h1 h2 => ?_)⟩ (frC.i (fun b hb => ?_)) ⟨fun _ => ⟨rfl, rfl⟩, fun z => absurd hok z⟩
      · rw [g3 2 (by omega) (by omega), g2 2 (by omega)]
      · rw [g3 b (by omega) (by omega), g2 b (by omega)]
      · rw [g3 nu (by omega) (by omega), g2 nu (by omega), g1 nu (by omega)]
      · have := hP k hk
        exact g3 b (by omega) (by omega)
      · rw [g3 b (by omega) (by omega), g2 b (by omega), g1 b (by omega)]
      · unfold idA at h1 h2
        rw [o3 b (by omega) (fun k hk => by unfold idA; omega), g2 b (by omega), g1 b (by omega)]
      · rw [g3 b (by omega) (by omega), g2 b (by omega), g1 b (by omega)]
    | succ q ih =>
      intro c I2 hq1 hc ol hd hr
      have c8 : c < 8 := by omega
      have sc := h.sl.2 c c8
      have g2 : ∀ b, (b < 12 ∨ (36 ≤ b ∧ b ≤ 1300) ∨ 1304 ≤ b) → I2 b = I1 b := fun b hb => ol b (fun j hj => by have := hP j hj; omega)
      have okf := hs.2.2.2.1 c c8
      refine bX9_weights_47 (br_f (by omega) ?_)
      rw [h.sl.1.1, h.sl.1.2, show Int.toNat (c : Int) = c by omega, sc.1, add1 (n := c) (by omega), h.r0]
      have rv2 : RingV I2 2 s.n (wts x1 x2 x3) := (rt1.o (g2 2 (by omega)) (fun b _ _ => g2 b (by omega))).1
      refine ⟨rfl, ⟨by omega, by omega⟩, h.t1, sc.2.1, reorder_spec sc.2 (hr c (Nat.le_refl _) c8) (by omega) okf.2.2 okf.P h.ring rv2 h.toNu (hv.nm.atI (by rw [g2 nu (by omega), g1 nu (by omega)])) (fun x hx => by have := hP c c8; omega) (fun I3 o3 h3 => ih (c + 1) I3 (by omega) (by omega) (fun b hb => (o3 b (by have := hb c c8; omega) (by have := hb c c8; omega) (by have := hb c c8; omega)).trans (ol b hb)) (fun j hj => ?_) (fun j h1 h2 => ?_))⟩
      · by_cases cj : j = c
        · rw [cj]; exact h3
        · have := hne j c (by omega) c8 cj
          exact (hd j (by omega)).same (fun b _ _ => o3 b (by omega) (by omega) (by omega))
      · have := hne j c h2 c8 (by omega)
        exact (hr j (by omega) h2).same (fun b _ _ => o3 b (by omega) (by omega) (by omega))
  exact loop 8 0 I1 rfl (by omega) (fun _ _ => rfl) (fun j hj => absurd hj (Nat.not_lt_zero _)) (fun j _ hj => (hv.f j hj).same (fun b _ _ => g1 b (by have := hP j hj; omega)))
theorem ClsS.toRing {S' : Sh} {R' : MR} (h : ClsS S R P sp pd ps nu nw af) (hN : 1310 ≤ sN S) (e : R' = up2 (mNew R (sN S) 0) 2 1 (sN S)) (eS : S' = shNew S 4 0 1) : ClsS S' R' P sp pd ps (sN S) nw af := by
  have n' : sN S' = sN S + 1 := by rw [eS, sN_new]
  have st : ∀ b, b < sN S → sT S' b = sT S b ∧ sL S' b = sL S b := fun b hb => by rw [eS]; exact nw_o (by omega)
  have o : ∀ b, b < sN S → b ≠ 2 → R' b = R b := fun b h1 h2 => by rw [e, up2_n h2]; exact up1_n (by omega)
  have o2 : ∀ j, j ≠ 1 → R' 2 j = R 2 j := fun j hj => by rw [e, up2_sn hj]; exact congrFun (up1_n (by omega)) j
  have sm : ∀ lo hi, 3 ≤ lo → hi ≤ 1309 → sam lo hi S Z0 R S' Z0 R' := fun lo hi h1 h2 b hb1 hb2 => ⟨(st b (by omega)).1, (st b (by omega)).2, rfl, o b (by omega) (by omega)⟩
  have hP := fun k hk => (h.okP k hk).r
  obtain ⟨⟨h1, h2, h3, h4, h5, h6⟩, ⟨hr, hr1⟩, hsl, htp, htx, hdv, ⟨hia, hid⟩, hso, ⟨hP', hsp, hspp, hne, hnes⟩, hpd, hpd1, hps1⟩ := h
  have sr := hsp.r
  have r1 := o 1 (by omega) (by omega)
  refine ⟨⟨⟨by omega, by omega, Or.inr hN, by rw [eS]; exact nw_t⟩, (st 1 (by omega)).1.trans h2, by rw [r1]; exact h3, by rw [r1]; exact h4, by rw [r1]; exact h5, by rw [r1]; exact h6⟩, ⟨⟨(st 2 (by omega)).1.trans hr.1, ?_, ?_, ?_, fun i hi => ?_⟩, by rw [e, up2_ss]⟩, ⟨?_, fun k hk => ⟨?_, ?_⟩⟩, htp.sm (I := Z0) (I' := Z0) (sm _ _ (by omega) (by omega)), htx.sm (I := Z0) (I' := Z0) (sm _ _ (by omega) (by omega)), hdv.sm (I := Z0) (I' := Z0) (sm _ _ (by omega) (by omega)), ⟨?_, fun k hk => ⟨?_, ?_⟩⟩, ⟨?_, fun k hk => ⟨?_, ?_⟩⟩, ⟨hP', hsp, ?_, hne, hnes⟩, hpd, ?_, ?_⟩
  · exact ⟨(o2 2 (by decide)).trans hr.2.1.1, (o2 3 (by decide)).trans hr.2.1.2.1, (o2 4 (by decide)).trans hr.2.1.2.2.1, (o2 5 (by decide)).trans hr.2.1.2.2.2⟩
  · rw [(st (2 + 2) (by omega)).1, (st (2 + 3) (by omega)).1, (st (2 + 4) (by omega)).1, (st (2 + 5) (by omega)).1]; exact hr.2.2.1
  · rw [(st (2 + 2) (by omega)).2, (st (2 + 3) (by omega)).2, (st (2 + 4) (by omega)).2, (st (2 + 5) (by omega)).2]; exact hr.2.2.2.1
  · rw [o (2 + 5) (by omega) (by omega), (st (2 + 6 + i) (by omega)).1, (st (2 + 6 + i) (by omega)).2]; exact hr.2.2.2.2 i hi
  · rw [(st 11 (by omega)).1, (st 11 (by omega)).2]; exact hsl.1
  · rw [o 11 (by omega) (by omega)]; exact (hsl.2 k hk).1
  · have := hP k hk
    exact (hsl.2 k hk).2.sm (I := Z0) (I' := Z0) (sm _ _ (by omega) (by omega))
  · rw [(st 791 (by omega)).1, (st 791 (by omega)).2]; exact hia
  · rw [o 791 (by omega) (by omega)]; exact (hid k hk).1
  · exact (hid k hk).2.sm (I := Z0) (I' := Z0) (sm _ _ (by unfold idA; omega) (by unfold idA; omega))
  · rw [(st 1288 (by omega)).1, (st 1288 (by omega)).2]; exact hso.1
  · rw [o 1288 (by omega) (by omega)]; exact (hso.2 k hk).1
  · have := (hso.2 k hk).2
    exact this.sm (I := Z0) (I' := Z0) (sm _ _ (by show 3 ≤ 1289 + 3 * k; omega) (by show 1289 + 3 * k + 2 ≤ 1309; omega))
  · exact hspp.sm (I := Z0) (I' := Z0) (sm _ _ (by omega) (by omega))
  · exact hpd1.sm (I := Z0) (I' := Z0) (sm _ _ (by omega) (by omega))
  · exact hps1.sm (I := Z0) (I' := Z0) (sm _ _ (by omega) (by omega))
end CLR

