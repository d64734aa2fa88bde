/-! ===== the class: what is asked of ideals ===== -/
def cornersA (s : Ms) (x1 x2 x : Int) : Prop := (ask s x1 x2 → ∀ kd, KdU (s.p : Int) s.n s.w (FF s x1) x2.toNat kd → x = cnt kd 2 0 (ml s.n s.w x2.toNat).length) ∧ (¬ ask s x1 x2 → x = -1)
theorem fnd_r {kd : Nat → Int} {k : Int} : ∀ {m c : Nat} {x : Int}, fnd kd k m c x = -1 ∨ ∃ c' : Nat, fnd kd k m c x = (c' : Int) ∧ c ≤ c' ∧ c' < c + m
  | 0, _, _ => Or.inl rfl
  | m + 1, c, x => by
    rw [fnd]
    have h1 := fnd_r (kd := kd) (k := k) (m := m) (c := c + 1) (x := x)
    have h2 := fnd_r (kd := kd) (k := k) (m := m) (c := c + 1) (x := w32 (x + -1))
    by_cases q : kd c = k
    · rw [if_pos q]
      by_cases q2 : x = 0
      · rw [if_pos q2]; exact Or.inr ⟨c, rfl, by omega, by omega⟩
      · rw [if_neg q2]
        rcases h2 with z | ⟨c', z1, z2, z3⟩
        · exact Or.inl z
        · exact Or.inr ⟨c', z1, by omega, by omega⟩
    · rw [if_neg q]
      rcases h1 with z | ⟨c', z1, z2, z3⟩
      · exact Or.inl z
      · exact Or.inr ⟨c', z1, by omega, by omega⟩
theorem KdU_ex {p n : Int} {w : Nat → Int} {F : List Tm → Prop} {D : Nat} (hw : wtOK w) (hD : D ≤ 25) (hn : 1 ≤ n ∧ n ≤ 3) (hF : ∀ f, F f → okQ p n w f) : ∃ kd, KdU p n w F D kd := by
  classical
  refine ⟨fun c => if prd p n w F D c then 1 else if led p n w F D c then 2 else 0, fun c hc => ?_⟩
  have up : prd p n w F D c → led p n w F D c := fun h => by
    obtain ⟨a, a1, a2, a3, a4⟩ := (prd_iff hw hD hn hF hc).mp h
    have d := a4
    unfold dvs at d
    obtain ⟨m, hm⟩ : ∃ m : Nat, exx ((ml n w D).getD c 0) + exy ((ml n w D).getD c 0) + exz ((ml n w D).getD c 0) - (exx ((ml n w D).getD a 0) + exy ((ml n w D).getD a 0) + exz ((ml n w D).getD a 0)) = (m : Int) := ⟨_, (Int.toNat_of_nonneg (by omega)).symm⟩
    exact lead_up hw hD hn hF a3 m c hc a4 hm
  by_cases h1 : prd p n w F D c
  · have h2 := up h1
    refine ⟨Or.inr (Or.inl (if_pos h1)), ?_, ?_⟩
    · show (if prd p n w F D c then (1 : Int) else if led p n w F D c then 2 else 0) ≠ 0 ↔ _
      rw [if_pos h1]; exact ⟨fun _ => h2, fun _ => by decide⟩
    · show (if prd p n w F D c then (1 : Int) else if led p n w F D c then 2 else 0) = 1 ↔ _
      rw [if_pos h1]; exact ⟨fun _ => h1, fun _ => rfl⟩
  · by_cases h2 : led p n w F D c
    · refine ⟨Or.inr (Or.inr (by show (if prd p n w F D c then (1 : Int) else if led p n w F D c then 2 else 0) = 2; rw [if_neg h1, if_pos h2])), ?_, ?_⟩
      · show (if prd p n w F D c then (1 : Int) else if led p n w F D c then 2 else 0) ≠ 0 ↔ _
        rw [if_neg h1, if_pos h2]; exact ⟨fun _ => h2, fun _ => by decide⟩
      · show (if prd p n w F D c then (1 : Int) else if led p n w F D c then 2 else 0) = 1 ↔ _
        rw [if_neg h1, if_pos h2]; exact ⟨fun z => absurd z (by decide), fun z => absurd z h1⟩
    · refine ⟨Or.inl (by show (if prd p n w F D c then (1 : Int) else if led p n w F D c then 2 else 0) = 0; rw [if_neg h1, if_neg h2]), ?_, ?_⟩
      · show (if prd p n w F D c then (1 : Int) else if led p n w F D c then 2 else 0) ≠ 0 ↔ _
        rw [if_neg h1, if_neg h2]; exact ⟨fun z => absurd rfl z, fun z => absurd z h2⟩
      · show (if prd p n w F D c then (1 : Int) else if led p n w F D c then 2 else 0) = 1 ↔ _
        rw [if_neg h1, if_neg h2]; exact ⟨fun z => absurd z (by decide), fun z => absurd z h1⟩
section CLJ
variable {G : Gl} {S : Sh} {I : MI} {R : MR} {P : Nat → Nat} {sp pd ps nu nw af : Nat} {s : Ms}
theorem below_at {x : Int} (hv : ClsV S I P nu nw s) (h : 0 ≤ x ∧ x ≤ bd s.n + 1) : I 6 x.toNat = ((ml s.n s.w x.toNat).length : Int) := hv.rt.2.1.2 x.toNat (by omega)
theorem IdT.at {i : Nat} {st : Int} {N : Nat} (hs : MsOK s) (h : IdT I i (s.p : Int) s.n s.w (FF s (hld s.f st 8))) (hN : (N : Int) ≤ bd s.n) : KdU (s.p : Int) s.n s.w (FF s st) N (I (i + 122)) := by
  have hb := bd_n s.n
  exact KdU.down hs.2.2.1 hs.2.1 (by omega) (by omega) (FF_ok hs st) (KdU_held h.2.2)
theorem cls_stairs {Q : Sh → MI → MR → Int → Prop} (h : ClsS S R P sp pd ps nu nw af) (hs : MsOK s) (hv : ClsV S I P nu nw s) {x1 x2 x3 : Int} (hq : ∀ S' I' R' x, Cls S' I' R' s → frC S I R S' I' R' → (∀ y, stairsA s x1 x2 x3 y → y = x) → Q S' I' R' x) : CI G MX9_stairs [vR 1, vI x1, vI x2, vI x3] S I R Q := by
  have no : ¬ (ask s x1 x2 ∧ -1 ≤ x3 ∧ x3 < x2) → Q S I R (-1) := fun c => hq S I R _ ⟨_, _, _, _, _, _, _, h, hv⟩ frC.rf (fun y hy => hy.2 c)
  have vb := v9isBound h hv (x := x2)
  have hb := bd_n s.n
  have hr := h.ring
  refine bX9_stairs ⟨fun c => no (fun z => v9isSet.mpr z.1.1 c), fun a1 => ⟨h.t1, p9isBound h, fun c => no (fun z => vb.mpr z.1.2 c), fun a2 => ⟨fun c => no (by omega), fun a3 => ⟨fun a4 => ?_, fun c => no (by omega)⟩⟩⟩⟩
  have c1 := v9isSet.mp a1
  have c2 := vb.mp a2
  have hA : ask s x1 x2 ∧ -1 ≤ x3 ∧ x3 < x2 := ⟨⟨c1, c2⟩, by omega, a4⟩
  rw [h.r0, hr.2.1.2.2.1]
  refine ⟨fun c => ?_, fun c => ?_⟩
  · rw [below_at hv (by omega)]
    refine ⟨hr.1, hr.2.2.1.2.2.1, ⟨by omega, by rw [hr.2.2.2.1.2.2.1]; omega⟩, bX9_stairs_45 (br_t c ?_)⟩
    rw [h.r0, hr.2.1.2.2.1, w32_id (x := x3 + 1) (by omega), below_at hv (by omega), show (x3 + 1).toNat = x3.toNat + 1 by omega]
    have l120 := ml_120 (N := x3.toNat + 1) hs.2.1 hs.2.2.1 (by omega)
    refine ⟨h.t1, hr.1, hr.2.2.1.2.2.1, ⟨by omega, by rw [hr.2.2.2.1.2.2.1]; omega⟩, idealOf_spec h hs hv c1 (fun I' k hk hv' o' hz ht => ?_)⟩
    have idk := (h.ia.2 k hk).2
    refine ⟨idk.1, count_spec idk l120 (hq S I' R _ ⟨_, _, _, _, _, _, _, h, hv'⟩ (frC.i (fun b hb => o' b (by omega))) (fun y hy => ?_))⟩
    have := hy.1 hA _ (ht.at hs (N := x2.toNat) (by omega))
    rw [if_neg c] at this
    exact this
  · have c' : x3 = -1 := Decidable.not_not.mp c
    refine bX9_stairs_45 (br_f (fun z => z c') ?_)
    rw [h.r0, hr.2.1.2.2.1, below_at hv (by omega)]
    have l120 := ml_120 (N := x2.toNat) hs.2.1 hs.2.2.1 (by omega)
    refine ⟨h.t1, hr.1, hr.2.2.1.2.2.1, ⟨by omega, by rw [hr.2.2.2.1.2.2.1]; omega⟩, idealOf_spec h hs hv c1 (fun I' k hk hv' o' hz ht => ?_)⟩
    have idk := (h.ia.2 k hk).2
    refine ⟨idk.1, count_spec (a := 0) idk l120 (hq S I' R _ ⟨_, _, _, _, _, _, _, h, hv'⟩ (frC.i (fun b hb => o' b (by omega))) (fun y hy => ?_))⟩
    have := hy.1 hA _ (ht.at hs (N := x2.toNat) (by omega))
    rw [if_pos c'] at this
    exact this
theorem lenA_uniq {n : Int} {w : Nat → Int} {kd : Nat → Int} {what x y : Int} (h1 : lenA n w kd what x) (h2 : lenA n w kd what y) : x = y := by
  obtain ⟨a, a1, a2⟩ := h1
  obtain ⟨b, b1, b2⟩ := h2
  have e : a = b := Lst.det a1 b1 (fun m _ _ => Iff.rfl)
  rw [a2, b2, e]
end CLJ

