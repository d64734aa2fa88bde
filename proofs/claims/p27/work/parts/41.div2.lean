/-! ===== X0: one step ===== -/
section R0b
variable {G : Gl} {S : Sh} {R : MR} {d nw af nu : Nat} {p nv : Int} {w : Nat → Int} {s : Dv}
theorem HasE.c {I I' : MI} {e : Nat} {E : Eq3} (hE : HasE I e E) (h : ∀ c, e < c → c ≤ e + 31 → I' c = I c) : HasE I' e E := by
  have hh : ∀ {a : Nat} {L : List Tm}, Has I a L → e < a → a + 2 ≤ e + 31 → Has I' a L := fun hL h1 h2 => ⟨by rw [h _ h1 (by omega)]; exact hL.1, fun i x hx => by rw [h _ (by omega) (by omega), h _ (by omega) (by omega)]; exact hL.2 i x hx⟩
  exact ⟨hh hE.1 (by omega) (by omega), hh hE.2.1 (by omega) (by omega), fun k hk => hh (hE.2.2 k hk) (by omega) (by omega)⟩
theorem stepBy_spec {I : MI} {Q : Sh → MI → MR → Int → Prop} {k : Nat} (h : DivS S R d nw af) (hv : DivV I d nw s) (ho : DivO p nv w s) (hw : wtOK w) (hN : NumS S I nu p) (an : nu < d ∨ d + 746 < nu) (hk : k < s.2.1) (hk0 : (s.2.2.1 k).1 ≠ []) (hn0 : s.2.2.2.1.1 ≠ []) (hdv : dvs (hdM (s.2.2.1 k).1) (hdM s.2.2.2.1.1))
    (hy : ∀ I' R', offV I I' d → RdD R R' d → DivS S R' d af nw → ¬ badD s k → fitE (nowD p s.2.2.2.1 (s.2.2.1 k)) → DivV I' d af (stpD p s k) → Q S I' R' 1)
    (hn : ∀ I' R' nw' af', offV I I' d → RdD R R' d → DivS S R' d nw' af' → (badD s k ∨ ¬ fitE (nowD p s.2.2.2.1 (s.2.2.1 k))) → Q S I' R' 0) : CI G MX0_stepBy [vR d, vI (k : Int), vR nu] S I R Q := by
  have hnaf := h.na
  have eqn := h.2.2.2.2.2.1.1
  have t0 : Int.toNat 0 = 0 := rfl
  have t1 : Int.toNat 1 = 1 := rfl
  have t2 : Int.toNat 2 = 2 := rfl
  have t3 : Int.toNat 3 = 3 := rfl
  have t4 : Int.toNat 4 = 4 := rfl
  have hm := ho.1
  have eqk := h.2.2.2.2.2.2 k (by omega)
  have hE := hv.2.1
  have hF := hv.2.2.1 k hk
  have oE := ho.2.1
  have oF := ho.2.2 k hk
  have rf0 : RdD R R d := fun _ _ => rfl
  refine bX0_stepBy (br_f (by omega) ⟨h.1, ?_⟩)
  rw [hv.1.2, hv.1.1, h.2.1.1, h.2.2.2.1.1, h.2.2.2.1.2.1, show Int.toNat (k : Int) = k by omega, eqk.1, eqk.2.2.1.1, h.2.1.2.2.1, eqn.2.1.1]
  refine br_f (by omega) ⟨fun c => ?_, fun c => hn I R nw af offV.rf rf0 h (Or.inl (Or.inl (by omega)))⟩
  have lE := oE.1.2.2
  have lF := oF.1.2.2
  -- the ecarts, whatever was told
  have ecs : ∀ I1 : MI, HasE I1 nw s.2.2.2.1 → HasE I1 (d + 107 + 32 * k) (s.2.2.1 k) → (pX5_ecart S I1 R (nw + 1) ∧ vX5_ecart I1 R (nw + 1) = ecL s.2.2.2.1.1) ∧ (pX5_ecart S I1 R (d + 107 + 32 * k + 1) ∧ vX5_ecart I1 R (d + 107 + 32 * k + 1) = ecL (s.2.2.1 k).1) ∧ pX5_low S I1 R (nw + 1) ∧ vX5_low I1 R (nw + 1) = lowL s.2.2.2.1.1 := fun I1 g1 g2 =>
    ⟨⟨p5ec eqn.2.2.1 g1.1 lE (by omega), v5ec eqn.2.2.1 g1.1 oE.1.ms (by omega)⟩, ⟨p5ec eqk.2.2.2.1 g2.1 lF (by omega), v5ec eqk.2.2.2.1 g2.1 oF.1.ms (by omega)⟩, p5low eqn.2.2.1 g1.1 lE, v5low eqn.2.2.1 g1.1 oE.1.ms⟩
  have main : ∀ y : Int, (y = 0 ∨ y = 1) → (y = 1 ↔ cmsD s.2.2.2.1 (s.2.2.1 k)) → (y = 1 → s.2.1 < 20) → LX0_stepBy_73 G d (k : Int) nu (d + 107 + 32 * k) y S I R Q := by
    intro y hy01 hyc hy20
    have tr := h.2.2.2.2.1 s.1 (by omega)
    -- rows of what is told
    have keep : ∀ {I1 I2 : MI} {j : Nat} {v : Int}, I2 = up2 I1 (d + 3 + s.1) j v → (∀ c, c ≠ d + 3 + s.1 → I1 c = I c) → ∀ c, c ≠ d + 3 + s.1 → I2 c = I c := fun e g c hc => by rw [u_n e hc]; exact g c hc
    have kE : ∀ {I1 : MI}, (∀ c, c ≠ d + 3 + s.1 → I1 c = I c) → HasE I1 nw s.2.2.2.1 ∧ HasE I1 (d + 107 + 32 * k) (s.2.2.1 k) := fun g => ⟨hE.c (fun c h1 h2 => g c (by omega)), hF.c (fun c h1 h2 => g c (by omega))⟩
    refine bX0_stepBy_73 ?_
    rw [h.2.1.2.1, h.2.2.2.1.2.2.1, h.2.2.2.1.2.2.2, hv.1.1, show Int.toNat (s.1 : Int) = s.1 by omega, tr.1, tr.2.1, tr.2.2, eqk.2.1, eqk.2.2.1.1, h.2.1.2.2.1, eqn.2.1.1, t0, t1, t2]
    refine ⟨h.1, rfl, ⟨by omega, by omega⟩, rfl, ⟨by omega, by omega⟩, fun I84 e84 => ?_⟩
    have g84 := keep e84 (fun _ _ => rfl)
    have x84 := ecs I84 (kE g84).1 (kE g84).2
    rw [g84 d (by omega), hv.1.1, show Int.toNat (s.1 : Int) = s.1 by omega, tr.1, tr.2.1, tr.2.2, x84.2.1.2]
    refine ⟨⟨by omega, by omega⟩, rfl, eqk.2.2.2.1.1, x84.2.1.1, rfl, ⟨by omega, by omega⟩, fun I102 e102 => ?_⟩
    have g102 := keep e102 g84
    have x102 := ecs I102 (kE g102).1 (kE g102).2
    rw [g102 d (by omega), hv.1.1, show Int.toNat (s.1 : Int) = s.1 by omega, tr.1, tr.2.1, tr.2.2, x102.1.2]
    refine ⟨⟨by omega, by omega⟩, eqn.1, eqn.2.2.1.1, x102.1.1, rfl, ⟨by omega, by omega⟩, fun I123 e123 => ?_⟩
    have g123 := keep e123 g102
    rw [g123 d (by omega), hv.1.1, show Int.toNat (s.1 : Int) = s.1 by omega, tr.1]
    have l144 : ∀ z : Int, z = y → LX0_stepBy_144 G d nu (d + 107 + 32 * k) y z 3 (d + 3 + s.1) S I123 R Q := by
      intro z hz
      refine bX0_stepBy_144 ?_
      rw [tr.2.1, tr.2.2, t3, t4]
      refine ⟨rfl, ⟨by omega, by omega⟩, fun I144 e144 => ⟨h.1, ?_⟩⟩
      have g144 := keep e144 g123
      have x144 := ecs I144 (kE g144).1 (kE g144).2
      rw [h.2.1.2.1, h.2.2.2.1.2.2.1, h.2.2.2.1.2.2.2, g144 d (by omega), hv.1.1, show Int.toNat (s.1 : Int) = s.1 by omega, tr.1, tr.2.1, tr.2.2, h.2.1.2.2.1, eqn.2.1.1, x144.2.2.2]
      refine ⟨rfl, ⟨by omega, by omega⟩, eqn.1, eqn.2.2.1.1, x144.2.2.1, rfl, ⟨by omega, by omega⟩, fun I165 e165 I173 e173 => ?_⟩
      have g165 := keep e165 g144
      rw [g165 d (by omega), hv.1.1, add1 (by omega)] at e173
      have g173 : ∀ c, c ≠ d + 3 + s.1 → c ≠ d → I173 c = I c := fun c h1 h2 => by rw [u_n e173 h2]; exact g165 c h1
      have d173 : ∀ j, j ≠ 3 → I173 d j = I d j := fun j hj => by rw [u_o e173 hj, g165 d (by omega)]
      have d3 : I173 d 3 = ((s.1 + 1 : Nat) : Int) := u_s e173
      have o173 : offV I I173 d := (offV.u e84 (by omega)).tr ((offV.u e102 (by omega)).tr ((offV.u e123 (by omega)).tr ((offV.u e144 (by omega)).tr ((offV.u e165 (by omega)).tr (offV.u e173 (by omega))))))
      have row : ∀ j, j < 5 → I173 (d + 3 + s.1) j = rowD k s.2.2.2.1 (s.2.2.1 k) j := by
        intro j hj
        rw [u_n e173 (by omega)]
        have : j = 0 ∨ j = 1 ∨ j = 2 ∨ j = 3 ∨ j = 4 := by omega
        rcases this with rfl | rfl | rfl | rfl | rfl
        · rw [u_o e165 (by omega), u_o e144 (by omega), u_o e123 (by omega), u_o e102 (by omega), u_s e84]; rfl
        · rw [u_o e165 (by omega), u_o e144 (by omega), u_o e123 (by omega), u_s e102]; rfl
        · rw [u_o e165 (by omega), u_o e144 (by omega), u_s e123]; rfl
        · rw [u_o e165 (by omega), u_s e144]
          show z = if ecL s.2.2.2.1.1 < ecL (s.2.2.1 k).1 then 1 else 0
          rcases hy01 with hh | hh
          · rw [if_neg (fun q => by have := hyc.mpr q; omega)]; omega
          · have q : ecL s.2.2.2.1.1 < ecL (s.2.2.1 k).1 := hyc.mp hh
            rw [if_pos q]; omega
        · rw [u_s e165]; rfl
      have hE173 : HasE I173 nw s.2.2.2.1 := hE.c (fun c h1 h2 => g173 c (by omega) (by omega))
      have hT173 : ∀ i, i < s.2.1 → HasE I173 (d + 107 + 32 * i) (s.2.2.1 i) := fun i hi => (hv.2.2.1 i hi).c (fun c h1 h2 => g173 c (by omega) (by omega))
      have rows : ∀ {I1 : MI}, (∀ c, d + 3 ≤ c → c < d + 43 → I1 c = I173 c) → ∀ i, i < s.1 + 1 → ∀ j, j < 5 → I1 (d + 3 + i) j = upT s.2.2.2.2 s.1 (rowD k s.2.2.2.1 (s.2.2.1 k)) i j := by
        intro I1 hc i hi j hj
        rw [hc _ (by omega) (by omega)]
        show _ = (if i = s.1 then rowD k s.2.2.2.1 (s.2.2.1 k) else s.2.2.2.2 i) j
        by_cases his : i = s.1
        · subst his; rw [if_pos rfl]; exact row j hj
        · rw [if_neg his, g173 _ (by omega) (by omega)]
          exact hv.2.2.2 i (by omega) j hj
      -- what the subtraction leads to
      have sub : ∀ (I1 : MI) (m : Nat) (T : Nat → Eq3), stpT s k = (m, T) → offV I173 I1 d → I1 d 4 = (m : Int) → I1 d 3 = ((s.1 + 1 : Nat) : Int) → HasE I1 nw s.2.2.2.1 → m ≤ 20 → (∀ i, i < m → HasE I1 (d + 107 + 32 * i) (T i)) → (∀ i, i < s.2.1 → T i = s.2.2.1 i) → s.2.1 ≤ m → (∀ c, d + 3 ≤ c → c < d + 43 → I1 c = I173 c) →
          CI G MX0_subtract [vR d, vR (d + 107 + 32 * k), vR nu] S I1 R (fun S210 I210 R210 x210_ => ((x210_ = 0 ∨ x210_ = 1) ∧ Q S210 I210 R210 x210_)) := by
        intro I1 m T est o1 d4 d3' hE1 hm20 hT1 hTs hm1 hrows
        have hF1 := hT1 k (by omega)
        rw [hTs k hk] at hF1
        refine subtract_spec h eqk.2 hE1 hF1 (by omega) hw oE oF (offX.num hN (o173.tr o1).1 an) an hn0 hk0 hdv (fun I' R' o r dv f hh => ⟨Or.inr rfl, ?_⟩) (fun I' R' o r dv f => ⟨Or.inl rfl, ?_⟩)
        · have o' : offV I1 I' d := o.V (by omega) (by omega)
          refine hy I' R' ((o173.tr o1).tr o') r dv ?_ f ⟨⟨?_, ?_⟩, hh, fun i hi => ?_, ?_⟩
          · unfold badD
            intro q
            rcases q with q | q
            · omega
            · have := hy20 (hyc.mpr q.1); omega
          · rw [o d (by omega)]; exact d3'
          · rw [o d (by omega), d4]; show _ = ((stpT s k).1 : Int); rw [est]
          · have e2 : (stpD p s k).2.2.1 = T := by show (stpT s k).2 = T; rw [est]
            have e1 : (stpD p s k).2.1 = m := by show (stpT s k).1 = m; rw [est]
            rw [e1] at hi
            rw [e2]
            exact (hT1 i hi).x o (by omega)
          · exact rows (fun c h1 h2 => by rw [o c (by omega)]; exact hrows c h1 h2)
        · exact hn I' R' af nw ((o173.tr o1).tr (o.V (by omega) (by omega))) r dv (Or.inr f)
      refine ⟨fun c0 => ?_, fun c0 => ?_⟩
      · have nc : ¬ cmsD s.2.2.2.1 (s.2.2.1 k) := fun q => by have := hyc.mpr q; omega
        have est : stpT s k = (s.2.1, s.2.2.1) := if_neg nc
        exact sub I173 s.2.1 s.2.2.1 est offV.rf (by rw [d173 4 (by omega)]; exact hv.1.2) d3 hE173 (by omega) hT173 (fun _ _ => rfl) (by omega) (fun _ _ _ => rfl)
      · have hy1 : y = 1 := by omega
        have yc := hyc.mp hy1
        have h20 := hy20 hy1
        have est : stpT s k = (s.2.1 + 1, upT s.2.2.1 s.2.1 s.2.2.2.1) := if_pos yc
        have eqm := h.2.2.2.2.2.2 s.2.1 h20
        rw [h.2.1.1, h.2.2.2.1.1, h.2.2.2.1.2.1, d173 4 (by omega), hv.1.2, show Int.toNat (s.2.1 : Int) = s.2.1 by omega, eqm.1]
        refine ⟨rfl, ⟨by omega, by omega⟩, eqm.2.1, ebecome_spec eqm.2 eqn hE173 (by omega) oE.len (fun I194 o194 h194 => ⟨h.1, fun I204 e204 => ?_⟩)⟩
        rw [o194 d (by omega), d173 4 (by omega), hv.1.2, add1 (by omega)] at e204
        have g204 : ∀ c, c ≠ d → (c < d + 107 + 32 * s.2.1 ∨ d + 107 + 32 * s.2.1 + 31 < c) → I204 c = I173 c := fun c h1 h2 => by rw [u_n e204 h1]; exact o194 c h2
        refine sub I204 (s.2.1 + 1) (upT s.2.2.1 s.2.1 s.2.2.2.1) est ((o194.V (by omega) (by omega)).tr (offV.u e204 (by omega))) (u_s e204) ?_ (hE173.c (fun c h1 h2 => g204 c (by omega) (by omega))) (by omega) (fun i hi => ?_) (fun i hi => if_neg (by omega)) (by omega) (fun c h1 h2 => g204 c (by omega) (by omega))
        · rw [u_o e204 (by omega), o194 d (by omega)]; exact d3
        · by_cases hi2 : i = s.2.1
          · subst hi2
            rw [show upT s.2.2.1 s.2.1 s.2.2.2.1 s.2.1 = s.2.2.2.1 from if_pos rfl]
            exact h194.c (fun c h1 h2 => u_n e204 (by omega))
          · rw [show upT s.2.2.1 s.2.1 s.2.2.2.1 i = s.2.2.1 i from if_neg hi2]
            exact (hT173 i (by omega)).c (fun c h1 h2 => g204 c (by omega) (by omega))
    refine ⟨⟨by omega, by omega⟩, fun c0 => l144 0 c0.symm, fun c0 => l144 1 (by omega)⟩
  have xx := ecs I hE hF
  rw [xx.1.2, xx.2.1.2]
  refine ⟨rfl, ⟨by omega, by omega⟩, eqk.2.1, eqk.2.2.2.1.1, xx.2.1.1, eqn.1, eqn.2.2.1.1, xx.1.1, fun c2 => ?_, fun c2 => ⟨fun c3 => ?_, fun c3 => ?_⟩⟩
  · exact main 0 (Or.inl rfl) ⟨fun q => absurd q (by decide), fun q => by unfold cmsD at q; omega⟩ (fun q => absurd q (by decide))
  · exact main 1 (Or.inr rfl) ⟨fun _ => by unfold cmsD; omega, fun _ => rfl⟩ (fun _ => by omega)
  · exact hn I R nw af offV.rf rf0 h (Or.inl (Or.inr ⟨by omega, by omega⟩))
end R0b

