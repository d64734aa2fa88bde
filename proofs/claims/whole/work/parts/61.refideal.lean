/-! ===== X10: an ideal is laid ===== -/
theorem EchU.cgr {p : Int} {W : Nat} {K : Nat → Prop} {Rw Rw2 : Nat → Vc} {U : Vc → Prop} (h : EchU p W K Rw U) (e : ∀ l, l < W → K l → ∀ j, j < W → Rw2 l j = Rw l j) : EchU p W K Rw2 U := by
  refine ⟨fun l hl hk => ?_, fun x => ?_⟩
  · have := h.1 l hl hk
    refine ⟨by rw [e l hl hk l hl]; exact this.1, fun c hc => by rw [e l hl hk c (by omega)]; exact this.2 c hc⟩
  · rw [h.2 x]
    constructor
    · intro hx
      refine spn_le spn_sub (fun y hy => ?_) hx
      obtain ⟨l, hl, hk, ey⟩ := hy
      have hS : Sub p W (Spn p W (rws W K Rw2)) := spn_sub
      exact hS.2.2.2 _ _ (fun j hj => by rw [ey, e l hl hk j hj]) (spn_in ⟨l, hl, hk, rfl⟩)
    · intro hx
      refine spn_le spn_sub (fun y hy => ?_) hx
      obtain ⟨l, hl, hk, ey⟩ := hy
      have hS : Sub p W (Spn p W (rws W K Rw)) := spn_sub
      exact hS.2.2.2 _ _ (fun j hj => by rw [ey, e l hl hk j hj]) (spn_in ⟨l, hl, hk, rfl⟩)
/-- only rows of the ideal change -/
def offB (I I' : MI) (m : Nat) : Prop := ∀ b, b ≠ m + 12 → b ≠ m + 13 → b ≠ m + 14 → I' b = I b
theorem offB.rf {I : MI} {m : Nat} : offB I I m := fun _ _ _ _ => rfl
theorem offB.tr {I I1 I2 : MI} {m : Nat} (h : offB I I1 m) (h2 : offB I1 I2 m) : offB I I2 m := fun b x y z => (h2 b x y z).trans (h b x y z)
theorem off1.toB {I I' : MI} {m : Nat} (h : off1 I I' (m + 14)) : offB I I' m := fun b _ _ hb => h b hb
theorem RfW.oB {I I' : MI} {m : Nat} {n : Int} {w : Nat → Int} (h : RfW I m n w) (ho : offB I I' m) : RfW I' m n w := ⟨by rw [ho m (by omega) (by omega) (by omega)]; exact h.1, h.2.1, fun i hi => by rw [ho (m + 1) (by omega) (by omega) (by omega)]; exact h.2.2.1 i hi, h.2.2.2⟩
theorem RfP.oB {I I' : MI} {m : Nat} {p : Int} (h : RfP I m p) (ho : offB I I' m) : RfP I' m p := ⟨by rw [ho m (by omega) (by omega) (by omega)]; exact h.1, h.2⟩
theorem RowH.oB {I I' : MI} {m r : Nat} {L : List Tm} (h : RowH I m r L) (ho : offB I I' m) : RowH I' m r L := by
  unfold RowH
  rw [ho (m + 2) (by omega) (by omega) (by omega), ho (m + 3) (by omega) (by omega) (by omega), ho (m + 4) (by omega) (by omega) (by omega)]
  exact h
theorem MonH.oB {I I' : MI} {m : Nat} {M : List Int} (h : MonH I m M) (ho : offB I I' m) : MonH I' m M := h.o (by rw [ho m (by omega) (by omega) (by omega)]) (ho _ (by omega) (by omega) (by omega))
section RJ
variable {G : Gl} {S : Sh} {R : MR} {m : Nat} {n : Int} {pr : Nat} {w : Nat → Int} {L : List Tm} {M : List Int} {U : Vc → Prop}
theorem addsRow_spec {I : MI} {Q : Sh → MI → MR → Prop} {W : Nat} (h : RfS S R m) (hp : RfP I m (pr : Int)) (pp : isP pr) (hM : I m 28 = (W : Int)) (hW : W ≤ 120) (hE : EchR I m (pr : Int) W U) (hx : ∀ c, c < W → 0 ≤ I (m + 14) c ∧ I (m + 14) c < (pr : Int))
    (hq : ∀ I' U2, offB I I' m → EchR I' m (pr : Int) W U2 → (∀ y, U y → U2 y) → U2 (I (m + 14)) → (∀ V, Sub (pr : Int) W V → (∀ y, U y → V y) → V (I (m + 14)) → ∀ y, U2 y → V y) → Q S I' R) : CV G MX10_addsRow [vR m] S I R Q := by
  have hp2 := hp.2
  refine bX10_addsRow ⟨h.1, reduces_spec h hp hM hW hE hx (fun I1 o1 hr hU h0 => ?_)⟩
  have hE1 : EchR I1 m (pr : Int) W U := hE.o (o1 _ (by omega)) (o1 _ (by omega))
  have e28 : I1 m 28 = (W : Int) := by rw [o1 m (by omega)]; exact hM
  have hp1 : I1 m 2 = (pr : Int) := by rw [o1 m (by omega)]; exact hp.1
  have write : ∀ (c : Nat), c < W → I1 (m + 14) c ≠ 0 → (∀ j, j < c → I1 (m + 14) j = 0) → LX10_addsRow_54 G m (c : Int) (inv (pr : Int) (I1 (m + 14) c)) 0 S I1 R Q := by
    intro c hc hz hz0
    have hrc := hr c hc
    have hiv := inv_ok pp (by omega) ⟨(by omega : 0 < I1 (m + 14) c), hrc.2⟩
    have hvr := inv_r (p := (pr : Int)) (x := I1 (m + 14) c) hp2.1
    have hkc : ¬ (I (m + 13) c ≠ 0) := fun k => hz (h0 c hc k)
    have loop : ∀ (q k : Nat) (J : MI), W - k = q → k ≤ W → (∀ b, b ≠ m + 12 → J b = I1 b) → (∀ z, (z < 120 * c ∨ 120 * c + k ≤ z) → J (m + 12) z = I1 (m + 12) z) → (∀ j, j < k → J (m + 12) (120 * c + j) = I1 (m + 14) j * inv (pr : Int) (I1 (m + 14) c) % (pr : Int)) → LX10_addsRow_54 G m (c : Int) (inv (pr : Int) (I1 (m + 14) c)) (k : Int) S J R Q := by
      intro q
      induction q with
      | zero =>
        intro k J hq1 hk ho hz1 hz2
        refine bX10_addsRow_54 ⟨h.1, ?_⟩
        rw [ho m (by omega), e28, h.2.1.2.2.2.1, h.2.2.1.2.2.2.1, h.2.2.2.2.2.2.1, show Int.toNat (c : Int) = c by omega]
        refine br_t (by omega) ⟨rfl, ⟨by omega, by omega⟩, fun J2 f2 => ?_⟩
        have g12 : J2 (m + 12) = J (m + 12) := u_n f2 (by omega)
        have g13 : ∀ l, J2 (m + 13) l = if l = c then 1 else I (m + 13) l := fun l => by
          by_cases hl : l = c
          · rw [hl, u_s f2, if_pos rfl]
          · rw [u_o f2 hl, if_neg hl, ho (m + 13) (by omega), o1 (m + 13) (by omega)]
        have hrow : ∀ l j, l < W → j < W → J2 (m + 12) (120 * l + j) = if l = c then I1 (m + 14) j * inv (pr : Int) (I1 (m + 14) c) % (pr : Int) else I (m + 12) (120 * l + j) := fun l j hl hj => by
          rw [g12]
          by_cases hlc : l = c
          · rw [hlc, if_pos rfl]; exact hz2 j (by omega)
          · rw [if_neg hlc, hz1 _ (by omega), o1 (m + 12) (by omega)]
        have hins := ech_ins (Rw2 := fun l => if l = c then (fun j => I1 (m + 14) j * inv (pr : Int) (I1 (m + 14) c) % (pr : Int)) else (fun j => I (m + 12) (120 * l + j))) hE.1 hc hkc hU (fun j hj => by rw [hz0 j hj]; exact Int.dvd_zero _) hiv (fun j hj => by
          rw [if_pos rfl]
          show (pr : Int) ∣ I1 (m + 14) j * inv (pr : Int) (I1 (m + 14) c) % (pr : Int) - inv (pr : Int) (I1 (m + 14) c) * I1 (m + 14) j
          rw [Int.mul_comm (inv _ _)]
          have := Int.dvd_self_sub_emod (x := I1 (m + 14) j * inv (pr : Int) (I1 (m + 14) c)) (m := (pr : Int))
          have h5 := Int.dvd_neg.mpr this
          rw [Int.neg_sub] at h5; exact h5) (fun l hl => if_neg hl)
        obtain ⟨U2, hE2, hsub, hxU, hmin⟩ := hins
        have eK : (fun l => I (m + 13) l ≠ 0 ∨ l = c) = (fun l => J2 (m + 13) l ≠ 0) := by
          funext l
          rw [g13]
          by_cases q : l = c
          · rw [if_pos q]; exact propext ⟨fun _ => by decide, fun _ => Or.inr q⟩
          · rw [if_neg q]; exact propext ⟨fun z => z.resolve_right q, Or.inl⟩
        rw [eK] at hE2
        refine hq J2 U2 (fun b b1 b2 b3 => by rw [u_n f2 b2, ho b b1]; exact o1 b b3) ⟨hE2.cgr (fun l hl hk j hj => ?_), fun l hl hk j hj => ?_, fun l hl => ?_⟩ hsub hxU hmin
        · show J2 (m + 12) (120 * l + j) = (if l = c then (fun j => I1 (m + 14) j * inv (pr : Int) (I1 (m + 14) c) % (pr : Int)) else (fun j => I (m + 12) (120 * l + j))) j
          rw [hrow l j hl hj]
          by_cases hlc : l = c
          · rw [if_pos hlc, if_pos hlc]
          · rw [if_neg hlc, if_neg hlc]
        · rw [hrow l j hl hj]
          by_cases hlc : l = c
          · rw [if_pos hlc]
            exact ⟨Int.emod_nonneg _ (by omega), Int.emod_lt_of_pos _ (by omega)⟩
          · rw [if_neg hlc]
            rw [g13, if_neg hlc] at hk
            exact hE.2.1 l hl hk j hj
        · rw [g13]
          by_cases hlc : l = c
          · rw [if_pos hlc]; exact Or.inr rfl
          · rw [if_neg hlc]; exact hE.2.2 l hl
      | succ q ih =>
        intro k J hq1 hk ho hz1 hz2
        have hrk := hr k (by omega)
        refine bX10_addsRow_54 ⟨h.1, ?_⟩
        rw [ho m (by omega), e28, hp1, h.2.1.2.2.2.2, h.2.2.1.2.2.2.2, h.2.2.2.2.2.2.2, h.2.1.2.2.1.2.2.2, h.2.2.1.2.2.1.2.2.2, h.2.2.2.2.2.1.2.2.2, w32_id (x := 120 * (c : Int)) (by omega), w32_id (x := 120 * (c : Int) + (k : Int)) (by omega), show Int.toNat (k : Int) = k by omega, show Int.toNat (120 * (c : Int) + (k : Int)) = 120 * c + k by omega, ho (m + 14) (by omega), w64m hrk hvr hp2, add1 (n := k) (by omega)]
        refine br_f (by omega) ⟨rfl, ⟨by omega, by omega⟩, by omega, rfl, ⟨by omega, by omega⟩, fun J2 f2 => ih (k + 1) J2 (by omega) (by omega) (fun b hb => by rw [u_n f2 hb]; exact ho b hb) (fun z hz3 => by rw [u_o f2 (by omega)]; exact hz1 z (by omega)) (fun j hj => ?_)⟩
        by_cases hjk : j = k
        · rw [hjk, u_s f2]
        · rw [u_o f2 (by omega)]; exact hz2 j (by omega)
    exact loop W 0 I1 (by omega) (by omega) (fun _ _ => rfl) (fun _ _ => rfl) (fun j hj => absurd hj (Nat.not_lt_zero _))
  have search : ∀ (q c : Nat), W - c = q → c ≤ W → (∀ j, j < c → I1 (m + 14) j = 0) → LX10_addsRow_6 G m (c : Int) S I1 R Q := by
    intro q
    induction q with
    | zero =>
      intro c hq1 hc hz0
      refine bX10_addsRow_6 ⟨h.1, ?_⟩
      rw [e28]
      refine br_t (by omega) (bX10_addsRow_30 ⟨h.1, ?_⟩)
      rw [e28]
      refine br_f (fun z => z (by omega)) (hq I1 U o1.toB hE1 (fun _ hy => hy) ?_ (fun V _ hV _ => hV))
      exact hE.1.sub.2.2.2 _ (I (m + 14)) (fun j hj => by rw [hz0 j (by omega), Int.sub_zero]) hU
    | succ q ih =>
      intro c hq1 hc hz0
      refine bX10_addsRow_6 ⟨h.1, ?_⟩
      rw [e28, h.2.1.2.2.2.2, h.2.2.1.2.2.2.2, h.2.2.2.2.2.2.2, show Int.toNat (c : Int) = c by omega, add1 (by omega)]
      refine br_f (by omega) ⟨rfl, ⟨by omega, by omega⟩, fun z0 => ?_, fun z0 => ?_⟩
      · refine bX10_addsRow_30 ⟨h.1, ?_⟩
        rw [e28, h.2.1.2.2.2.2, h.2.2.1.2.2.2.2, h.2.2.2.2.2.2.2, show Int.toNat (c : Int) = c by omega]
        refine br_t (by omega) ⟨rfl, ⟨by omega, by omega⟩, turned_spec h ⟨hp1, hp2⟩ (hr c (by omega)) (write c (by omega) z0 hz0)⟩
      · refine ih (c + 1) (by omega) (by omega) (fun j hj => ?_)
        by_cases hjc : j = c
        · rw [hjc]; exact Decidable.not_not.mp z0
        · exact hz0 j (by omega)
  exact search W 0 (by omega) (by omega) (fun j hj => absurd hj (Nat.not_lt_zero _))
theorem ml_last {N : Nat} (hN : N ≤ 25) {k : Int} (hk : k ∈ ml n w N) : dg k ≤ dg ((ml n w N).getD ((ml n w N).length - 1) 0) := by
  obtain ⟨i, hi, e⟩ := List.mem_iff_getElem.mp hk
  have hinc : Inc (ml n w N) := ml_inc (by omega)
  have h1 : k ≤ (ml n w N).getD ((ml n w N).length - 1) 0 := by
    by_cases q : i = (ml n w N).length - 1
    · rw [← q, getDl hi, e]; omega
    · have := inc_nd hinc hi (show (ml n w N).length - 1 < (ml n w N).length by omega) (by omega)
      rw [getDl hi, e] at this; omega
  unfold dg; omega
theorem low_le {L : List Tm} (hs : Srt L) {t : Tm} (ht : t ∈ L) : lowL L ≤ dg t.1 := by
  cases L with
  | nil => exact absurd ht List.not_mem_nil
  | cons a L =>
    show dg a.1 ≤ dg t.1
    rcases List.mem_cons.mp ht with q | q
    · rw [q]; omega
    · have := hs.head t q
      unfold dg; omega
theorem addsAll_spec {I : MI} {Q : Sh → MI → MR → Prop} {r N : Nat} (h : RfS S R m) (hw : RfW I m n w) (hp : RfP I m (pr : Int)) (pp : isP pr) (hN : N ≤ 24) (h1 : 1 ≤ N) (hl : (ml n w N).length ≤ 120) (hM : MonH I m (ml n w N)) (hE : EchR I m (pr : Int) (ml n w N).length U) (hL : RowH I m r L) (hr : r < 300) (ok : okQ (pr : Int) n w L)
    (hq : ∀ I' U2, offB I I' m → EchR I' m (pr : Int) (ml n w N).length U2 → (∀ y, U y → U2 y) → (∀ k ∈ ml n w N, U2 (vecM (ml n w N) (shf k (cf L)))) → (∀ V, Sub (pr : Int) (ml n w N).length V → (∀ y, U y → V y) → (∀ k ∈ ml n w N, V (vecM (ml n w N) (shf k (cf L)))) → ∀ y, U2 y → V y) → Q S I' R) : CV G MX10_addsAll [vR m, vI (r : Int)] S I R Q := by
  have hp2 := hp.2
  have hwt := hw.2.2.2
  have hinc : Inc (ml n w N) := ml_inc (by omega)
  have hkk : ∀ k ∈ ml n w N, kOK n w k := fun k hk => ⟨(of_mem (by omega) hk).1, (of_mem (by omega) hk).2.1⟩
  have hvk : ∀ k ∈ ml n w N, VK n w k 33 := fun k hk => by
    have := vk_mem (n := n) (w := w) (D := N) (by omega) hk
    exact ⟨this.1, this.2.1, by have := this.2.2; omega, by have := this.2.2; omega, by have := this.2.2; omega⟩
  refine bX10_addsAll ⟨h.1, ?_⟩
  rw [h.2.1.1.2.1, h.2.2.1.1.2.1, h.2.2.2.1.2.1, show Int.toNat (r : Int) = r by omega, hL.1]
  refine ⟨rfl, ⟨by omega, by omega⟩, fun hne => ?_, fun hne => ?_⟩
  · have hn0 : L ≠ [] := fun q => hne (by rw [q]; rfl)
    have lo := fun (I1 : MI) (hw1 : RfW I1 m n w) (hL1 : RowH I1 m r L) => v10low (I := I1) h hw1 hr ok.toR hL1 hn0
    have loop : ∀ (q c : Nat) (I1 : MI) (U1 : Vc → Prop), (ml n w N).length - c = q → c ≤ (ml n w N).length → offB I I1 m → EchR I1 m (pr : Int) (ml n w N).length U1 → (∀ y, U y → U1 y) → (∀ j, j < c → U1 (vecM (ml n w N) (shf ((ml n w N).getD j 0) (cf L)))) → (∀ V, Sub (pr : Int) (ml n w N).length V → (∀ y, U y → V y) → (∀ k ∈ ml n w N, V (vecM (ml n w N) (shf k (cf L)))) → ∀ y, U1 y → V y) → LX10_addsAll_12 G m (r : Int) (c : Int) S I1 R Q := by
      intro q
      induction q with
      | zero =>
        intro c I1 U1 hq1 hc ho hE1 g1 g2 g3
        have hM1 := hM.oB ho
        refine bX10_addsAll_12 ⟨h.1, ?_⟩
        rw [hM1.1]
        refine br_t (by omega) (hq I1 U1 ho hE1 g1 (fun k hk => ?_) g3)
        obtain ⟨i, hi, e⟩ := List.mem_iff_getElem.mp hk
        have := g2 i (by omega)
        rw [getDl hi, e] at this; exact this
      | succ q ih =>
        intro c I1 U1 hq1 hc ho hE1 g1 g2 g3
        have hcl : c < (ml n w N).length := by omega
        have hM1 := hM.oB ho
        have hw1 := hw.oB ho
        have hL1 := hL.oB ho
        have dc := v10da h hw1 hM1 hkk (by omega) hcl
        have dl := v10da h hw1 hM1 hkk (by omega) (show (ml n w N).length - 1 < (ml n w N).length by omega)
        have lw := lo I1 hw1 hL1
        have hmem := getDl_mem hcl
        have rc := of_mem (by omega) hmem
        have kv := hvk _ hmem
        have e1 : w32 ((((ml n w N).length : Nat) : Int) - 1) = (((ml n w N).length - 1 : Nat) : Int) := by rw [w32_id (by omega)]; omega
        refine bX10_addsAll_12 ⟨h.1, ?_⟩
        rw [hM1.1, e1, dc.2, dl.2, lw.2.1, w32_id (x := dg ((ml n w N).getD c 0) + lowL L) (by omega), add1 (n := c) (by omega)]
        refine br_f (by omega) ⟨dc.1, lw.1, dl.1, fun hle => ?_, fun hgt => ?_⟩
        · have t := hM1.2 c ((ml n w N).getD c 0) (by rw [getDl hcl, List.getElem?_eq_getElem hcl])
          rw [h.2.1.2.2.1.2.2.1, h.2.2.1.2.2.1.2.2.1, h.2.2.2.2.2.1.2.2.1, w32_id (x := 3 * (c : Int)) (by omega), w32_id (x := 3 * (c : Int) + 1) (by omega), w32_id (x := 3 * (c : Int) + 2) (by omega), show Int.toNat (3 * (c : Int)) = 3 * c by omega, show Int.toNat (3 * (c : Int) + 1) = 3 * c + 1 by omega, show Int.toNat (3 * (c : Int) + 2) = 3 * c + 2 by omega, t.1, t.2.1, t.2.2]
          refine ⟨rfl, ⟨by omega, by omega⟩, ⟨by omega, by omega⟩, ⟨by omega, by omega⟩, laysRow_spec h hw1 hM1 hinc hkk hl hL1 hr ok.toR ok.1.1 kv (fun I2 o2 hx => ⟨h.1, ?_⟩)⟩
          have hE2 : EchR I2 m (pr : Int) (ml n w N).length U1 := hE1.o (o2 _ (by omega)) (o2 _ (by omega))
          have hM2 := hM1.oB o2.toB
          refine addsRow_spec h ((hp.oB ho).oB o2.toB) pp hM2.1 hl hE2 (fun j hj => by rw [hx j hj]; exact cf_r hp2.1 ok.1 _) (fun I3 U3 o3 hE3 s1 s2 s3 => ?_)
          have hcg : cg (pr : Int) (ml n w N).length (I2 (m + 14)) (vecM (ml n w N) (shf ((ml n w N).getD c 0) (cf L))) := fun j hj => by rw [hx j hj]
          refine ih (c + 1) I3 U3 (by omega) (by omega) ((ho.tr o2.toB).tr o3) hE3 (fun y hy => s1 y (g1 y hy)) (fun j hj => ?_) (fun V hV hUV hLV y hy => ?_)
          · by_cases hjc : j = c
            · rw [hjc]; exact hE3.1.sub.2.2.2 _ _ hcg s2
            · exact s1 _ (g2 j (by omega))
          · exact s3 V hV (g3 V hV hUV hLV) (hV.2.2.2 _ _ hcg.sy (hLV _ hmem)) y hy
        · refine ih (c + 1) I1 U1 (by omega) (by omega) ho hE1 g1 (fun j hj => ?_) g3
          by_cases hjc : j = c
          · rw [hjc]
            refine sub_of_zero hE1.1.sub (vec_zero ok kv (fun t ht k hk => ?_))
            have a1 := low_le ok.1.1 ht
            have a2 := ml_last (n := n) (w := w) (N := N) (by omega) hk
            omega
          · exact g2 j (by omega)
    exact loop (ml n w N).length 0 I U (by omega) (by omega) offB.rf hE (fun _ hy => hy) (fun j hj => absurd hj (Nat.not_lt_zero _)) (fun V _ hV _ => hV)
  · have hL0 : L = [] := by
      cases L with
      | nil => rfl
      | cons t L => exact absurd (show (((t :: L).length : Nat) : Int) ≠ 0 by rw [List.length_cons]; omega) hne
    refine hq I U offB.rf hE (fun _ hy => hy) (fun k _ => ?_) (fun V _ hV _ => hV)
    refine sub_of_zero hE.1.sub (fun c _ => ?_)
    rw [hL0]; rfl
end RJ
