/-! ===== X10: shape, order, rows ===== -/
section RB
variable {S : Sh} {I : MI} {R : MR} {m : Nat} {n p : Int} {w : Nat → Int}
/-- a key that the reference can hold -/
def kOK (n : Int) (w : Nat → Int) (k : Int) : Prop := gk w k ∧ inV n k
/-- a list that the reference can hold -/
def okR (n : Int) (w : Nat → Int) (L : List Tm) : Prop := (∀ t ∈ L, kOK n w t.1 ∧ ¬ hi t.1) ∧ L.length ≤ 60
end RB

/-! ===== X10: rows onto the heap, the heap into rows ===== -/
def HpI (p n : Int) (w : Nat → Int) (H : List Tm) : Prop := Srt H ∧ Red0 p H ∧ ∀ t ∈ H, kOK n w t.1
theorem HpI.nil {p n : Int} {w : Nat → Int} : HpI p n w [] := ⟨List.Pairwise.nil, fun t h => absurd h List.not_mem_nil, fun t h => absurd h List.not_mem_nil⟩
theorem HpI.ins {p n : Int} {w : Nat → Int} {H : List Tm} {k v : Int} (hp : 0 < p) (h : HpI p n w H) (hk : kOK n w k) (hv : 0 ≤ v ∧ v < p) : HpI p n w (heapT p H k v) := by
  unfold heapT
  by_cases c : v = 0
  · rw [if_pos c]; exact h
  · rw [if_neg c]
    refine ⟨ins_srt h.1, ins_red hp hv h.2.1, fun t ht => ?_⟩
    rcases ins_mem ht with e | ⟨s, hs, e⟩
    · rw [e]; exact hk
    · rw [← e]; exact h.2.2 s hs
theorem heapsL_I {p n : Int} {w : Nat → Int} (hp : 0 < p) : ∀ {raw H : List Tm}, HpI p n w H → (∀ t ∈ raw, kOK n w t.1 ∧ 0 ≤ t.2 ∧ t.2 < p) → HpI p n w (heapsL p H raw)
  | [], _, h, _ => h
  | t :: raw, H, h, hr => heapsL_I hp (raw := raw) (h.ins hp (hr t List.mem_cons_self).1 (hr t List.mem_cons_self).2) (fun s hs => hr s (List.mem_cons_of_mem _ hs))
section RR
variable {G : Gl} {S : Sh} {R : MR} {m : Nat} {n p : Int} {w : Nat → Int} {H L : List Tm}
end RR

/-! ===== X10: an ideal is laid ===== -/
theorem EchU.cgr {p : Int} {W : Nat} {K : Nat → Prop} {Rw Rw2 : Nat → Vc} {U : Vc → Prop} (h : EchU p W K Rw U) (e : ∀ l, l < W → K l → ∀ j, j < W → Rw2 l j = Rw l j) : EchU p W K Rw2 U := by
  refine ⟨fun l hl hk => ?_, fun x => ?_⟩
  · have := h.1 l hl hk
    refine ⟨by rw [e l hl hk l hl]; exact this.1, fun c hc => by rw [e l hl hk c (by omega)]; exact this.2 c hc⟩
  · rw [h.2 x]
    constructor
    · intro hx
      refine spn_le spn_sub (fun y hy => ?_) hx
      obtain ⟨l, hl, hk, ey⟩ := hy
      have hS : Sub p W (Spn p W (rws W K Rw2)) := spn_sub
      exact hS.2.2.2 _ _ (fun j hj => by rw [ey, e l hl hk j hj]) (spn_in ⟨l, hl, hk, rfl⟩)
    · intro hx
      refine spn_le spn_sub (fun y hy => ?_) hx
      obtain ⟨l, hl, hk, ey⟩ := hy
      have hS : Sub p W (Spn p W (rws W K Rw)) := spn_sub
      exact hS.2.2.2 _ _ (fun j hj => by rw [ey, e l hl hk j hj]) (spn_in ⟨l, hl, hk, rfl⟩)
section RJ
variable {G : Gl} {S : Sh} {R : MR} {m : Nat} {n : Int} {pr : Nat} {w : Nat → Int} {L : List Tm} {M : List Int} {U : Vc → Prop}
end RJ

/-! ===== leads, corners, the stair: what both count ===== -/
section LC
variable {p n : Int} {w : Nat → Int} {F : List Tm → Prop} {N D : Nat}
theorem ml_div {D : Nat} (hw : wtOK w) (hD : D ≤ 25) (hn : 1 ≤ n ∧ n ≤ 3) {k : Int} {v : Nat} (hv : (v : Int) < n) (h : k ∈ ml n w D) (hx : exx (vkey w (v : Int)) ≤ exx k ∧ exy (vkey w (v : Int)) ≤ exy k ∧ exz (vkey w (v : Int)) ≤ exz k) : k - vkey w (v : Int) + 262143 ∈ ml n w D ∧ exx (k - vkey w (v : Int) + 262143) = exx k - exx (vkey w (v : Int)) ∧ exy (k - vkey w (v : Int) + 262143) = exy k - exy (vkey w (v : Int)) ∧ exz (k - vkey w (v : Int) + 262143) = exz k - exz (vkey w (v : Int)) := by
  have o := of_mem (by omega) h
  have vk := vk_ok (w := w) hn hv
  have e := key_sub (w := w) (x := exx k) (y := exy k) (z := exz k) (a := exx (vkey w (v : Int))) (b := exy (vkey w (v : Int))) (c := exz (vkey w (v : Int)))
  rw [← key_gk o.1, ← key_gk vk.1.1] at e
  have r1 := ex_r k
  have r2 := ex_r (vkey w (v : Int))
  rw [e]
  have hx1 : exx (key w (exx k - exx (vkey w (v : Int))) (exy k - exy (vkey w (v : Int))) (exz k - exz (vkey w (v : Int)))) = exx k - exx (vkey w (v : Int)) := exx_pk (by omega) (by omega) (by omega)
  have hy1 : exy (key w (exx k - exx (vkey w (v : Int))) (exy k - exy (vkey w (v : Int))) (exz k - exz (vkey w (v : Int)))) = exy k - exy (vkey w (v : Int)) := exy_pk (by omega) (by omega) (by omega)
  have hz1 : exz (key w (exx k - exx (vkey w (v : Int))) (exy k - exy (vkey w (v : Int))) (exz k - exz (vkey w (v : Int)))) = exz k - exz (vkey w (v : Int)) := exz_pk (by omega) (by omega) (by omega)
  have hg : gk w (key w (exx k - exx (vkey w (v : Int))) (exy k - exy (vkey w (v : Int))) (exz k - exz (vkey w (v : Int)))) := gk_key (by omega) (by omega) (by omega)
  refine ⟨mem_of hw hg ⟨fun q => ?_, fun q => ?_⟩ ?_, hx1, hy1, hz1⟩
  · rw [hy1]; have := o.2.1.1 q; omega
  · rw [hz1]; have := o.2.1.2 q; omega
  · have hd : dg (key w (exx k - exx (vkey w (v : Int))) (exy k - exy (vkey w (v : Int))) (exz k - exz (vkey w (v : Int)))) ≤ dg k := by
      have e1 : dg (key w (exx k - exx (vkey w (v : Int))) (exy k - exy (vkey w (v : Int))) (exz k - exz (vkey w (v : Int)))) = dgw w _ := hg
      have e2 : dg k = dgw w k := o.1
      rw [e1, e2]
      unfold dgw
      rw [hx1, hy1, hz1]
      have m0 : (exx k - exx (vkey w (v : Int))) * w 0 ≤ exx k * w 0 := Int.mul_le_mul_of_nonneg_right (by omega) (by have := hw 0 (by omega); omega)
      have m1 : (exy k - exy (vkey w (v : Int))) * w 1 ≤ exy k * w 1 := Int.mul_le_mul_of_nonneg_right (by omega) (by have := hw 1 (by omega); omega)
      have m2 : (exz k - exz (vkey w (v : Int))) * w 2 ≤ exz k * w 2 := Int.mul_le_mul_of_nonneg_right (by omega) (by have := hw 2 (by omega); omega)
      omega
    omega
/-- a variable by which a proper multiple may be divided -/
theorem dv_var {D : Nat} (hw : wtOK w) (hD : D ≤ 25) (hn : 1 ≤ n ∧ n ≤ 3) {a k : Int} (ha : a ∈ ml n w D) (h : k ∈ ml n w D) (hd : dvs a k) (hne : exx a + exy a + exz a < exx k + exy k + exz k) : ∃ v : Nat, (v : Int) < n ∧ k - vkey w (v : Int) + 262143 ∈ ml n w D ∧ dvs a (k - vkey w (v : Int) + 262143) ∧ exx (k - vkey w (v : Int) + 262143) + exy (k - vkey w (v : Int) + 262143) + exz (k - vkey w (v : Int) + 262143) = exx k + exy k + exz k - 1 := by
  have o := of_mem (by omega) h
  have r1 := ex_r a
  unfold dvs at hd
  have : (exx a < exx k) ∨ (exy a < exy k) ∨ (exz a < exz k) := by omega
  rcases this with q | q | q
  · have vk := vk_ok (w := w) (v := 0) hn (by omega)
    rw [if_pos rfl, if_neg (by decide), if_neg (by decide)] at vk
    have m := ml_div hw hD hn (v := 0) (by omega) h (by omega)
    exact ⟨0, by omega, m.1, by unfold dvs; omega, by omega⟩
  · have hv : ((1 : Nat) : Int) < n := by
      refine Int.lt_of_not_ge (fun z => ?_)
      have := o.2.1.1 (by omega); omega
    have vk := vk_ok (w := w) (v := 1) hn hv
    rw [if_neg (by decide), if_pos rfl, if_neg (by decide)] at vk
    have m := ml_div hw hD hn (v := 1) hv h (by omega)
    exact ⟨1, hv, m.1, by unfold dvs; omega, by omega⟩
  · have hv : ((2 : Nat) : Int) < n := by
      refine Int.lt_of_not_ge (fun z => ?_)
      have := o.2.1.2 (by omega); omega
    have vk := vk_ok (w := w) (v := 2) hn hv
    rw [if_neg (by decide), if_neg (by decide), if_pos rfl] at vk
    have m := ml_div hw hD hn (v := 2) hv h (by omega)
    exact ⟨2, hv, m.1, by unfold dvs; omega, by omega⟩
theorem key_eq {a k : Int} (ha : gk w a) (hk : gk w k) (h : exx a = exx k ∧ exy a = exy k ∧ exz a = exz k) : a = k := by
  rw [key_gk ha, key_gk hk, h.1, h.2.1, h.2.2]
/-- multiples of leads are leads -/
theorem lead_up (hw : wtOK w) (hD : D ≤ 25) (hn : 1 ≤ n ∧ n ≤ 3) (hF : ∀ f, F f → okQ p n w f) {a : Nat} (ha : led p n w F D a) : ∀ (s c : Nat), c < (ml n w D).length → dvs ((ml n w D).getD a 0) ((ml n w D).getD c 0) → exx ((ml n w D).getD c 0) + exy ((ml n w D).getD c 0) + exz ((ml n w D).getD c 0) - (exx ((ml n w D).getD a 0) + exy ((ml n w D).getD a 0) + exz ((ml n w D).getD a 0)) = (s : Int) → led p n w F D c := by
  have hinc : Inc (ml n w D) := ml_inc (by omega)
  have hal : a < (ml n w D).length := ha.1
  intro s
  induction s with
  | zero =>
    intro c hc hd hs
    have o1 := of_mem (by omega) (getDl_mem hal)
    have o2 := of_mem (by omega) (getDl_mem hc)
    unfold dvs at hd
    have e := key_eq o1.1 o2.1 (by omega)
    rw [← inc_eq hinc hal hc e]; exact ha
  | succ s ih =>
    intro c hc hd hs
    obtain ⟨v, hv, hm, hd2, hs2⟩ := dv_var hw hD hn (getDl_mem hal) (getDl_mem hc) hd (by omega)
    have hc2 := List.idxOf_lt_length_of_mem hm
    have e := idx_at hm
    have h2 := ih _ hc2 (by rw [e]; exact hd2) (by rw [e, hs2]; omega)
    exact lead_mul hw hD hn hF hv h2 hc (by rw [e]; omega)
theorem prd_iff (hw : wtOK w) (hD : D ≤ 25) (hn : 1 ≤ n ∧ n ≤ 3) (hF : ∀ f, F f → okQ p n w f) {c : Nat} (hc : c < (ml n w D).length) : prd p n w F D c ↔ ∃ a, a < (ml n w D).length ∧ a ≠ c ∧ led p n w F D a ∧ dvs ((ml n w D).getD a 0) ((ml n w D).getD c 0) := by
  have hinc : Inc (ml n w D) := ml_inc (by omega)
  constructor
  · rintro ⟨c0, v, hv, hl, e⟩
    have hc0 : c0 < (ml n w D).length := hl.1
    have o := of_mem (by omega) (getDl_mem hc0)
    have vk := vk_ok (w := w) hn hv
    have r := ex_r (vkey w (v : Int))
    have mk := mul_key o.1 vk.1.1 (by have := vk.1.2.2; omega) (by have := vk.1.2.2; omega) (by have := vk.1.2.2; omega)
    rw [← e] at mk
    refine ⟨c0, hc0, fun q => ?_, hl, by unfold dvs; omega⟩
    have := vkey_up hw hn hv
    rw [q] at e; omega
  · rintro ⟨a, hal, hac, hl, hd⟩
    have o1 := of_mem (by omega) (getDl_mem hal)
    have o2 := of_mem (by omega) (getDl_mem hc)
    have hlt : exx ((ml n w D).getD a 0) + exy ((ml n w D).getD a 0) + exz ((ml n w D).getD a 0) < exx ((ml n w D).getD c 0) + exy ((ml n w D).getD c 0) + exz ((ml n w D).getD c 0) := by
      refine Int.lt_of_not_ge (fun q => hac ?_)
      unfold dvs at hd
      exact inc_eq hinc hal hc (key_eq o1.1 o2.1 (by omega))
    obtain ⟨v, hv, hm, hd2, hs2⟩ := dv_var hw hD hn (getDl_mem hal) (getDl_mem hc) hd hlt
    have e := idx_at hm
    have hc2 := List.idxOf_lt_length_of_mem hm
    have r1 := ex_r ((ml n w D).getD a 0)
    unfold dvs at hd2
    refine ⟨_, v, hv, lead_up hw hD hn hF hl (exx ((ml n w D).getD c 0) + exy ((ml n w D).getD c 0) + exz ((ml n w D).getD c 0) - 1 - (exx ((ml n w D).getD a 0) + exy ((ml n w D).getD a 0) + exz ((ml n w D).getD a 0))).toNat _ hc2 (by rw [e]; exact hd2) (by rw [e, hs2]; omega), by rw [e]; omega⟩
theorem led_down (hw : wtOK w) (h : N ≤ D) (hD : D ≤ 25) (hF : ∀ f, F f → okQ p n w f) {c : Nat} (hc : c < (ml n w N).length) : led p n w F N c ↔ led p n w F D c := tr_lead hw h hD hF hc
theorem KdU.down {kd : Nat → Int} (hw : wtOK w) (hn : 1 ≤ n ∧ n ≤ 3) (h : N ≤ D) (hD : D ≤ 25) (hF : ∀ f, F f → okQ p n w f) (hk : KdU p n w F D kd) : KdU p n w F N kd := by
  intro c hc
  have hll := ml_le (n := n) (w := w) h
  have hcD : c < (ml n w D).length := by omega
  have k := hk c hcD
  have hinc : Inc (ml n w D) := ml_inc (by omega)
  refine ⟨k.1, k.2.1.trans (led_down hw h hD hF hc).symm, k.2.2.trans ⟨?_, ?_⟩⟩
  · rintro ⟨c0, v, hv, hl, e⟩
    have hc0 : c0 < (ml n w D).length := hl.1
    have hup := vkey_up hw hn hv
    have hlt : c0 < c := inc_lt hinc hc0 hcD (by omega)
    refine ⟨c0, v, hv, (led_down hw h hD hF (by omega)).mpr hl, ?_⟩
    rw [← ml_get h hc, ← ml_get h (show c0 < (ml n w N).length by omega)]; exact e
  · rintro ⟨c0, v, hv, hl, e⟩
    have hc0 : c0 < (ml n w N).length := hl.1
    refine ⟨c0, v, hv, (led_down hw h hD hF hc0).mp hl, ?_⟩
    rw [ml_get h hc, ml_get h hc0]; exact e
end LC
/-! ===== X10: ideals laid, found ===== -/
section RK
variable {G : Gl} {S : Sh} {R : MR} {m : Nat} {n : Int} {pr : Nat} {w : Nat → Int} {N : Nat}
theorem ml_120 (hn : 1 ≤ n ∧ n ≤ 3) (hw : wtOK w) (hN : (N : Int) ≤ bd n) : (ml n w N).length ≤ 120 := by
  have h1 := (ml_bd hn hw).1
  have hb := bd_n n
  have := ml_le (n := n) (w := w) (N := N) (D := (bd n).toNat) (by omega)
  omega
variable {F : List Tm → Prop}
end RK

/-! ===== the state, as both sides hold it; the reference's side ===== -/
/-- number of variables, prime, weights; SLOTS; tape; FAULT and its place; what was shown; division -/
abbrev Ms : Type := (Int × Nat × (Nat → Int)) × (Nat → List Tm) × ((Nat → Int) × Nat) × (Int × Int) × List Int × Option (Int × Nat × Dv)
abbrev Ms.n (s : Ms) : Int := s.1.1
abbrev Ms.p (s : Ms) : Nat := s.1.2.1
abbrev Ms.w (s : Ms) : Nat → Int := s.1.2.2
abbrev Ms.f (s : Ms) : Nat → List Tm := s.2.1
abbrev Ms.b (s : Ms) : Nat → Int := s.2.2.1.1
abbrev Ms.tn (s : Ms) : Nat := s.2.2.1.2
abbrev Ms.fl (s : Ms) : Int × Int := s.2.2.2.1
abbrev Ms.sh (s : Ms) : List Int := s.2.2.2.2.1
abbrev Ms.dv (s : Ms) : Option (Int × Nat × Dv) := s.2.2.2.2.2
def DvOK (p n : Int) (w : Nat → Int) : Option (Int × Nat × Dv) → Prop
  | none => True
  | some (st, a, d) => (0 ≤ st ∧ st < 256) ∧ a < 8 ∧ DivO p n w d
def MsOK (s : Ms) : Prop := (isP s.p ∧ (s.p : Int) ≤ 32749) ∧ (1 ≤ s.n ∧ s.n ≤ 3) ∧ wtOK s.w ∧ (∀ k, k < 8 → okQ (s.p : Int) s.n s.w (s.f k)) ∧ (s.tn ≤ 200 ∧ ∀ i, i < s.tn → 0 ≤ s.b i ∧ s.b i < 256) ∧ s.sh.length ≤ 1080 ∧ DvOK (s.p : Int) s.n s.w s.dv
/-- set bits below k -/
def nb (st : Int) : Nat → Nat
  | 0 => 0
  | k + 1 => nb st k + if bitI st k = 1 then 1 else 0
section RV
variable {I I' : MI} {m r : Nat} {n p : Int} {w : Nat → Int} {L : List Tm} {s : Ms}
end RV

/-! ===== X10: corners, stairs, lengths ===== -/
def ask (s : Ms) (set N : Int) : Prop := (0 ≤ set ∧ set < 256) ∧ 1 ≤ N ∧ N ≤ bd s.n
abbrev FF (s : Ms) (set : Int) : List Tm → Prop := Fs s.f set 8
/-- LENGTH and where it is told -/
def lenA (n : Int) (w : Nat → Int) (kd : Nat → Int) (what x : Int) : Prop := ∃ y, Lst (stl n w kd) (bd n).toNat y ∧ x = if what = 0 then y else if y = -1 then -1 else cnt kd 0 0 (ml n w y.toNat).length
section RQ
variable {G : Gl} {S : Sh} {R : MR} {m : Nat} {s : Ms} {I : MI} {Q : Sh → MI → MR → Int → Prop}
def stairsA (s : Ms) (x1 x2 x3 x : Int) : Prop := (ask s x1 x2 ∧ -1 ≤ x3 ∧ x3 < x2 → ∀ kd, KdU (s.p : Int) s.n s.w (FF s x1) x2.toNat kd → x = if x3 = -1 then cnt kd 0 0 (ml s.n s.w x2.toNat).length else cnt kd 0 (ml s.n s.w x3.toNat).length ((ml s.n s.w (x3.toNat + 1)).length - (ml s.n s.w x3.toNat).length)) ∧ (¬ (ask s x1 x2 ∧ -1 ≤ x3 ∧ x3 < x2) → x = -1)
end RQ

/-! ===== X10: length, number, rest, all ===== -/
abbrev slt (x : Int) : Prop := 0 ≤ x ∧ x < 8
abbrev set8 (x : Int) : Prop := 0 ≤ x ∧ x < 256
def put (s : Ms) (k : Nat) (L : List Tm) : Ms := (s.1, upT s.2.1 k L, s.2.2)
theorem put_ok {s : Ms} {k : Nat} {L : List Tm} (hs : MsOK s) (hL : okQ (s.p : Int) s.n s.w L) : MsOK (put s k L) :=
  ⟨hs.1, hs.2.1, hs.2.2.1, fun j hj => by
    show okQ (s.p : Int) s.n s.w (if j = k then L else s.2.1 j)
    by_cases q : j = k
    · rw [if_pos q]; exact hL
    · rw [if_neg q]; exact hs.2.2.2.1 j hj, hs.2.2.2.2⟩
def restA (s : Ms) (x1 x2 x3 x4 x : Int) (s' : Ms) : Prop := (slt x1 ∧ slt x4 ∧ ask s x2 x3 → (∃ K Rw, EchU (s.p : Int) (ml s.n s.w x3.toNat).length K Rw (GenU (s.p : Int) s.n s.w (FF s x2) x3.toNat)) ∧ ∃ z, RstU (s.p : Int) (ml s.n s.w x3.toNat).length (led (s.p : Int) s.n s.w (FF s x2) x3.toNat) (GenU (s.p : Int) s.n s.w (FF s x2) x3.toNat) (vecM (ml s.n s.w x3.toNat) (cf (s.f x1.toNat))) z ∧ (∀ c, c < (ml s.n s.w x3.toNat).length → 0 ≤ z c ∧ z c < (s.p : Int)) ∧ ((restL (ml s.n s.w x3.toNat) z (ml s.n s.w x3.toNat).length).length ≤ 60 → x = ((restL (ml s.n s.w x3.toNat) z (ml s.n s.w x3.toNat).length).length : Int) ∧ s' = put s x4.toNat (restL (ml s.n s.w x3.toNat) z (ml s.n s.w x3.toNat).length)) ∧ (60 < (restL (ml s.n s.w x3.toNat) z (ml s.n s.w x3.toNat).length).length → x = -1 ∧ s' = s)) ∧ (¬ (slt x1 ∧ slt x4 ∧ ask s x2 x3) → x = -1 ∧ s' = s)
/-- the rest's terms -/
theorem restL_mem {M : List Int} {z : Vc} : ∀ {c : Nat} {t : Tm}, t ∈ restL M z c → ∃ j, j < c ∧ t = (M.getD j 0, z j) ∧ z j ≠ 0
  | 0, t, h => absurd h List.not_mem_nil
  | c + 1, t, h => by
    rw [restL] at h
    rcases List.mem_append.mp h with q | q
    · obtain ⟨j, hj, e⟩ := restL_mem q
      exact ⟨j, by omega, e⟩
    · by_cases e : z c = 0
      · rw [if_pos e] at q; exact absurd q List.not_mem_nil
      · rw [if_neg e] at q
        exact ⟨c, by omega, List.mem_singleton.mp q, e⟩
theorem restL_srt {M : List Int} {z : Vc} (hi : Inc M) : ∀ {c : Nat}, c ≤ M.length → Srt (restL M z c)
  | 0, _ => List.Pairwise.nil
  | c + 1, h => by
    rw [restL]
    by_cases e : z c = 0
    · rw [if_pos e, List.append_nil]; exact restL_srt hi (by omega)
    · rw [if_neg e]
      refine List.pairwise_append.mpr ⟨restL_srt hi (by omega), List.pairwise_singleton _ _, fun a ha b hb => ?_⟩
      obtain ⟨j, hj, e1, -⟩ := restL_mem ha
      rw [List.mem_singleton.mp hb, e1]
      exact inc_nd hi (by omega) (by omega) hj
theorem restL_ok {p n : Int} {w : Nat → Int} {N : Nat} {z : Vc} {c : Nat} (hN : N ≤ 24) (hc : c ≤ (ml n w N).length) (hz : ∀ j, j < (ml n w N).length → 0 ≤ z j ∧ z j < p) : Can p (restL (ml n w N) z c) ∧ ∀ t ∈ restL (ml n w N) z c, okK n w t.1 := by
  refine ⟨⟨restL_srt (ml_inc (by omega)) hc, fun t ht => ?_⟩, fun t ht => ?_⟩
  · obtain ⟨j, hj, e, h0⟩ := restL_mem ht
    have := hz j (by omega)
    rw [e]; show 0 < z j ∧ z j < p; omega
  · obtain ⟨j, hj, e, h0⟩ := restL_mem ht
    have hm : (ml n w N).getD j 0 ∈ ml n w N := getDl_mem (by omega)
    have o := of_mem (by omega) hm
    have r := ex_r ((ml n w N).getD j 0)
    have hd := o.2.2
    rw [e]
    show okK n w ((ml n w N).getD j 0)
    unfold dg at hd
    refine ⟨⟨by omega, by omega, by omega, by omega, by omega⟩, ?_, o.1, o.2.1⟩
    unfold hi; omega
section RQ2
variable {G : Gl} {S : Sh} {R : MR} {m : Nat} {s : Ms} {I : MI} {Q : Sh → MI → MR → Int → Prop}
end RQ2

/-! ===== what the other calls answer; the reference's ===== -/
def outA (s : Ms) (x1 x : Int) : Prop := x = if 0 ≤ x1 ∧ x1 < (s.sh.length : Int) then s.sh.getD x1.toNat 0 else -1
def tellT (t : Tm) (x3 : Int) : Int := if x3 = 0 then t.2 else if x3 = 1 then exx t.1 else if x3 = 2 then exy t.1 else if x3 = 3 then exz t.1 else if x3 = 4 then dg t.1 else -1
def termA (s : Ms) (x1 x2 x3 x : Int) : Prop := x = if slt x1 then (if x2 = -1 then ((s.f x1.toNat).length : Int) else if 0 ≤ x2 ∧ x2 < ((s.f x1.toNat).length : Int) then tellT ((s.f x1.toNat).getD x2.toNat (0, 0)) x3 else -1) else -1
def shapeA (s : Ms) (x1 x2 x : Int) : Prop := x = if slt x1 then (if x2 = 0 then lowL (s.f x1.toNat) else if x2 = 1 then highL (s.f x1.toNat) else if x2 = 2 then ecL (s.f x1.toNat) else if x2 = 3 then (if lowL (s.f x1.toNat) = highL (s.f x1.toNat) then 1 else 0) else if x2 = 4 then (if lowL (s.f x1.toNat) = 0 then 1 else 0) else -1) else -1
def okRing (x1 x2 : Int) : Prop := (1 ≤ x1 ∧ x1 ≤ 3) ∧ (2 ≤ x2 ∧ x2 ≤ 32749) ∧ isP x2.toNat
def ringS (s : Ms) (x1 x2 : Int) : Ms := ((x1, x2.toNat, fun _ => 1), (fun _ => []), s.2.2.1, s.2.2.2.1, s.2.2.2.2.1, none)
def ringA (s : Ms) (x1 x2 x : Int) (s' : Ms) : Prop := (okRing x1 x2 → x = 1 ∧ s' = ringS s x1 x2) ∧ (¬ okRing x1 x2 → x = 0 ∧ s' = s)
def wts (x1 x2 x3 : Int) : Nat → Int := fun i => if i = 0 then x1 else if i = 1 then x2 else x3
def okWt (x1 x2 x3 : Int) : Prop := (1 ≤ x1 ∧ x1 ≤ 4) ∧ (1 ≤ x2 ∧ x2 ≤ 4) ∧ (1 ≤ x3 ∧ x3 ≤ 4)
def wtS (s : Ms) (x1 x2 x3 : Int) : Ms := ((s.1.1, s.1.2.1, wts x1 x2 x3), (fun k => rekL (s.p : Int) (wts x1 x2 x3) (s.f k)), s.2.2.1, s.2.2.2.1, s.2.2.2.2.1, none)
def weightsA (s : Ms) (x1 x2 x3 x : Int) (s' : Ms) : Prop := (okWt x1 x2 x3 → x = 1 ∧ s' = wtS s x1 x2 x3) ∧ (¬ okWt x1 x2 x3 → x = 0 ∧ s' = s)
def endA (s : Ms) (x1 x : Int) (s' : Ms) : Prop := (0 ≤ x1 ∧ x1 ≤ (s.tn : Int) → x = 1 ∧ s' = (s.1, s.2.1, (s.b, x1.toNat), s.2.2.2)) ∧ (¬ (0 ≤ x1 ∧ x1 ≤ (s.tn : Int)) → x = 0 ∧ s' = s)
def lookA (s : Ms) (hl x1 x : Int) : Prop := x = if x1 = 0 then s.n else if x1 = 1 then (s.p : Int) else if x1 = 2 then s.w 0 else if x1 = 3 then s.w 1 else if x1 = 4 then s.w 2 else if x1 = 5 then bd s.n else if x1 = 6 then hl else if x1 = 7 then (s.tn : Int) else match s.dv with
  | none => if x1 = 8 then 0 else -1
  | some (st, a, _) => if x1 = 8 then 1 else if x1 = 9 then st else if x1 = 10 then (a : Int) else -1
/-- those of a set that do not hold 0 -/
def hld (f : Nat → List Tm) (set : Int) : Nat → Int
  | 0 => 0
  | k + 1 => hld f set k + if bitI set k = 1 ∧ f k ≠ [] then ((2 ^ k : Nat) : Int) else 0
theorem hld_r (f : Nat → List Tm) (set : Int) : ∀ k, 0 ≤ hld f set k ∧ hld f set k < ((2 ^ k : Nat) : Int)
  | 0 => ⟨Int.le_refl _, show (0 : Int) < 1 by decide⟩
  | k + 1 => by
    have h := hld_r f set k
    rw [hld, Nat.pow_succ]
    by_cases c : bitI set k = 1 ∧ f k ≠ []
    · rw [if_pos c]; omega
    · rw [if_neg c]; omega
theorem ior_all : ∀ k : Nat, k < 8 → ∀ x : Nat, x < 2 ^ k → ior (x : Int) (ishl 1 (k : Int)) = ((x + 2 ^ k : Nat) : Int) := by decide +kernel
theorem ior_hld {k : Nat} {x : Int} (hk : k < 8) (hx : 0 ≤ x ∧ x < ((2 ^ k : Nat) : Int)) : ior x (ishl 1 (k : Int)) = x + ((2 ^ k : Nat) : Int) := by
  have h := ior_all k hk x.toNat (by omega)
  rw [show ((x.toNat : Nat) : Int) = x by omega] at h
  rw [h]; omega
section RA
variable {G : Gl} {S : Sh} {R : MR} {m : Nat} {s : Ms} {I : MI} {Q : Sh → MI → MR → Int → Prop}
end RA

/-! ===== X10: feed, look, ring, weights, part ===== -/
def byt (x : Int) (k : Nat) : Int := x / ((2 ^ k : Nat) : Int) % 256
theorem byt_u {x : Int} {k : Nat} (hx : InR x) (hk : k = 24 ∨ k = 16 ∨ k = 8 ∨ k = 0) : iand (iushr x (k : Int)) 255 = byt x k := by
  have hk32 : k < 32 := by omega
  have h1 := pk_ushr (Int32.ofInt x) (nI k) k (sh_u k hk32)
  have h2 : iushr x (k : Int) = ((Int32.ofInt x).toUInt32 >>> ((nI k).toUInt32 &&& Int32.toUInt32 31)).toInt32.toInt := by unfold iushr; rw [ofI]
  have h3 := tn_toInt ((Int32.ofInt x).toUInt32 >>> ((nI k).toUInt32 &&& Int32.toUInt32 31)).toInt32
  have h4 := tn_toInt (Int32.ofInt x)
  rw [o32 hx] at h4
  rw [h1, Int.natCast_ediv, h4, ← h2] at h3
  have hr : InR (iushr x (k : Int)) := by rw [h2]; exact InR_toInt _
  rw [iand_255 hr]
  unfold byt
  unfold InR at hx
  rcases hk with rfl | rfl | rfl | rfl
  · have e : (((2 ^ 24 : Nat) : Nat) : Int) = 16777216 := rfl
    rw [e] at h3 ⊢; omega
  · have e : (((2 ^ 16 : Nat) : Nat) : Int) = 65536 := rfl
    rw [e] at h3 ⊢; omega
  · have e : (((2 ^ 8 : Nat) : Nat) : Int) = 256 := rfl
    rw [e] at h3 ⊢; omega
  · have e : (((2 ^ 0 : Nat) : Nat) : Int) = 1 := rfl
    rw [e] at h3 ⊢; omega
def wd (a b c d e : Int) (j : Nat) : Int := if j < 4 then a else if j < 8 then b else if j < 12 then c else if j < 16 then d else e
def fdB (bb : Nat → Int) (n : Nat) (a b c d e : Int) : Nat → Int := fun i => if i < n then bb i else byt (wd a b c d e (i - n)) (24 - 8 * ((i - n) % 4))
def fdS (s : Ms) (a b c d e : Int) : Ms := (s.1, s.2.1, (fdB s.b s.tn a b c d e, s.tn + 20), s.2.2.2)
def feedA (s : Ms) (a b c d e x : Int) (s' : Ms) : Prop := (s.tn + 20 ≤ 200 → x = (s.tn : Int) + 20 ∧ s' = fdS s a b c d e) ∧ (¬ s.tn + 20 ≤ 200 → x = -1 ∧ s' = s)
section RB2
variable {G : Gl} {S : Sh} {R : MR} {m : Nat} {s : Ms} {I I' : MI} {Q : Sh → MI → MR → Int → Prop}
end RB2

/-! ===== X10: ring, weights, part, make ===== -/
/-- all products of terms -/
def prdR (p : Int) : List Tm → List Tm → List Tm
  | [], _ => []
  | t :: a, b => b.map (tmT p t.2 (t.1 - 262143)) ++ prdR p a b
theorem prdR_app (p : Int) : ∀ (a c b : List Tm), prdR p (a ++ c) b = prdR p a b ++ prdR p c b
  | [], _, _ => rfl
  | t :: a, c, b => by
    show b.map _ ++ prdR p (a ++ c) b = (b.map _ ++ prdR p a b) ++ prdR p c b
    rw [prdR_app p a c b, List.append_assoc]
def makeL (s : Ms) (how : Int) (a b : Nat) : List Tm := if how = 0 then mg (s.p : Int) 1 0 (s.f a) (s.f b) else if how = 1 then mg (s.p : Int) ((s.p : Int) - 1) 0 (s.f a) (s.f b) else canon (s.p : Int) (prdR (s.p : Int) (s.f a) (s.f b))
def makeA (s : Ms) (x1 x2 x3 x4 x : Int) (s' : Ms) : Prop := ((0 ≤ x1 ∧ x1 ≤ 2) ∧ slt x2 ∧ slt x3 ∧ slt x4 → (fits 60 (makeL s x1 x2.toNat x3.toNat) → x = ((makeL s x1 x2.toNat x3.toNat).length : Int) ∧ s' = put s x4.toNat (makeL s x1 x2.toNat x3.toNat)) ∧ (¬ fits 60 (makeL s x1 x2.toNat x3.toNat) → x = -1 ∧ s' = s)) ∧ (¬ ((0 ≤ x1 ∧ x1 ≤ 2) ∧ slt x2 ∧ slt x3 ∧ slt x4) → x = -1 ∧ s' = s)
theorem rek_exps {w : Nat → Int} (t : Tm) : exx (rek w t).1 = exx t.1 ∧ exy (rek w t).1 = exy t.1 ∧ exz (rek w t).1 = exz t.1 := by
  have r := ex_r t.1
  exact ⟨exx_pk (by omega) (by omega) (by omega), exy_pk (by omega) (by omega) (by omega), exz_pk (by omega) (by omega) (by omega)⟩
theorem okQ.rek {p n : Int} {w u : Nat → Int} {L : List Tm} (hw : wtOK w) (h : okQ p n u L) : okR n w (L.map (rek w)) := by
  refine ⟨fun t ht => ?_, by rw [List.length_map]; exact h.2.2⟩
  obtain ⟨a, ha, e⟩ := List.mem_map.mp ht
  have k := h.2.1 a ha
  have e2 := rek_exps (w := w) a
  have k2 := rek_ok hw k.2.1
  rw [← e]
  refine ⟨⟨k2.2.2, ?_⟩, k2.2.1⟩
  have v := k.2.2.2
  unfold inV at v ⊢
  rw [e2.2.1, e2.2.2]; exact v
theorem rekL_okQ {p n : Int} {w u : Nat → Int} {L : List Tm} (hp : 0 < p) (hw : wtOK w) (h : okQ p n u L) : okQ p n w (rekL p w L) := by
  have k := rekL_ok hp hw h.P
  have hR : Red0 p (L.map (rek w)) := red0_of (red_rek h.1.2)
  have kI : HpI p n w (heapsL p [] (L.map (rek w))) := heapsL_I hp HpI.nil (fun t ht => ⟨((h.rek hw).1 t ht).1, hR t ht⟩)
  refine ⟨k.1.1, fun t ht => ?_, by have := k.2; have := h.2.2; omega⟩
  have k1 := k.1.2 t ht
  have ht2 : t ∈ heapsL p [] (L.map (rek w)) := (List.mem_filter.mp ht).1
  exact ⟨k1.1, k1.2.1, k1.2.2, (kI.2.2 t ht2).2⟩
section RB3
variable {G : Gl} {S : Sh} {R : MR} {m : Nat} {s : Ms} {I I' : MI} {Q : Sh → MI → MR → Int → Prop}
theorem sq_lt {d : Nat} {p : Int} (h : ¬ p < ((d * d : Nat) : Int)) (hp : p ≤ 32749) : d < 182 := by
  refine Nat.lt_of_not_le (fun z => ?_)
  have := Nat.mul_le_mul z z
  omega
theorem wts_ok {x1 x2 x3 : Int} (h : okWt x1 x2 x3) : wtOK (wts x1 x2 x3) := by
  intro i hi
  unfold okWt at h
  unfold wts
  by_cases c0 : i = 0
  · rw [if_pos c0]; exact h.1
  · rw [if_neg c0]
    by_cases c1 : i = 1
    · rw [if_pos c1]; exact h.2.1
    · rw [if_neg c1]; exact h.2.2
end RB3

/-! ===== X10: show ===== -/
def showA (s : Ms) (x1 x : Int) (s' : Ms) : Prop := (slt x1 → x = ((shwL (s.f x1.toNat)).length : Int) ∧ s' = (s.1, s.2.1, s.2.2.1, s.2.2.2.1, shwL (s.f x1.toNat), s.2.2.2.2.2)) ∧ (¬ slt x1 → x = -1 ∧ s' = s)
theorem shwL_len {L : List Tm} (h : L.length ≤ 60) : (shwL L).length ≤ 1080 := by
  unfold shwL
  by_cases c : L = []
  · rw [if_pos c]; exact Nat.le_of_ble_eq_true rfl
  · rw [if_neg c]
    have := shwR_len L 0
    omega
section RSH
variable {G : Gl} {S : Sh} {R : MR} {m : Nat} {n : Int} {w : Nat → Int} {Q : Sh → MI → MR → Prop}
theorem p6 {v : Int} (h : v < 100000) : v < ((10 ^ 6 : Nat) : Int) := by
  have : ((10 ^ 6 : Nat) : Int) = 1000000 := rfl
  omega
end RSH

/-! ===== X10: poly ===== -/
def emp (s : Ms) (fl : Int × Int) : Ms := (s.1, s.2.1, (s.b, 0), fl, s.2.2.2.2.1, s.2.2.2.2.2)
def polyA (s : Ms) (x1 x : Int) (s' : Ms) : Prop := (¬ slt x1 → x = -1 ∧ s' = emp s (0, -1)) ∧ (slt x1 → (∀ f, rdP s.b s.tn (s.p : Int) s.n s.w = Sum.inl f → x = -1 ∧ s' = emp s f) ∧ ∀ L, rdP s.b s.tn (s.p : Int) s.n s.w = Sum.inr L → x = (L.length : Int) ∧ s' = put (emp s (0, -1)) x1.toNat L)
theorem emp_ok {s : Ms} (hs : MsOK s) (fl : Int × Int) : MsOK (emp s fl) := ⟨hs.1, hs.2.1, hs.2.2.1, hs.2.2.2.1, ⟨Nat.zero_le _, fun i hi => absurd hi (Nat.not_lt_zero _)⟩, hs.2.2.2.2.2⟩
section RG3
variable {G : Gl} {S : Sh} {R : MR} {m : Nat} {b : Nat → Int} {n : Nat} {p nv : Int} {w : Nat → Int}
end RG3
section RG4
variable {G : Gl} {S : Sh} {R : MR} {m : Nat} {s : Ms} {I : MI} {Q : Sh → MI → MR → Int → Prop}
end RG4

/-! ===== X10: weak division, its parts ===== -/
theorem hld_bit (f : Nat → List Tm) (set : Int) {k : Nat} : ∀ (d : Nat), bitI (hld f set (k + 1 + d)) k = if bitI set k = 1 ∧ f k ≠ [] then 1 else 0
  | 0 => by
    have r := hld_r f set k
    have hp : (0 : Int) < ((2 ^ k : Nat) : Int) := by have := Nat.two_pow_pos k; omega
    show bitI (hld f set (k + 1)) k = _
    rw [hld]
    unfold bitI
    by_cases c : set / ((2 ^ k : Nat) : Int) % 2 = 1 ∧ f k ≠ []
    · have c' : bitI set k = 1 ∧ f k ≠ [] := c
      rw [if_pos c, if_pos c]
      have e : (hld f set k + ((2 ^ k : Nat) : Int)) / ((2 ^ k : Nat) : Int) = 1 := by
        have := Int.add_mul_ediv_right (hld f set k) 1 (show ((2 ^ k : Nat) : Int) ≠ 0 by omega)
        rw [Int.one_mul] at this
        rw [this, Int.ediv_eq_zero_of_lt r.1 r.2]; rfl
      rw [e]; rfl
    · have c' : ¬ (bitI set k = 1 ∧ f k ≠ []) := c
      rw [if_neg c, if_neg c, Int.add_zero, Int.ediv_eq_zero_of_lt r.1 r.2]; rfl
  | d + 1 => by
    have ih := hld_bit f set (k := k) d
    have hp : (0 : Int) < ((2 ^ k : Nat) : Int) := by have := Nat.two_pow_pos k; omega
    rw [show k + 1 + (d + 1) = (k + 1 + d) + 1 by omega, hld]
    by_cases c : bitI set (k + 1 + d) = 1 ∧ f (k + 1 + d) ≠ []
    · rw [if_pos c, ← ih]
      unfold bitI
      have e : ((2 ^ (k + 1 + d) : Nat) : Int) = ((2 * 2 ^ d : Nat) : Int) * ((2 ^ k : Nat) : Int) := by
        rw [← Int.natCast_mul]; congr 1
        rw [show k + 1 + d = 1 + d + k by omega, Nat.pow_add, Nat.pow_add, Nat.pow_one]
      rw [e, Int.add_mul_ediv_right _ _ (show ((2 ^ k : Nat) : Int) ≠ 0 by omega)]
      omega
    · rw [if_neg c, Int.add_zero]; exact ih
theorem hld_b8 (f : Nat → List Tm) (set : Int) {k : Nat} (hk : k < 8) : bitI (hld f set 8) k = if bitI set k = 1 ∧ f k ≠ [] then 1 else 0 := by
  have := hld_bit f set (k := k) (7 - k)
  rw [show k + 1 + (7 - k) = 8 by omega] at this; exact this
section RDV
variable {G : Gl} {S : Sh} {R : MR} {m : Nat} {n : Int} {p : Int} {w : Nat → Int} {st : Int}
end RDV

/-! ===== X10: weak, kept, step ===== -/
def withD (s : Ms) (dv : Option (Int × Nat × Dv)) : Ms := (s.1, s.2.1, s.2.2.1, s.2.2.2.1, s.2.2.2.2.1, dv)
def weakA (s : Ms) (x1 x2 x : Int) (s' : Ms) : Prop := (slt x1 ∧ set8 x2 → ∃ r, DivR (s.p : Int) 41 (begD (s.p : Int) s.f (hld s.f x2 8) x1.toNat) r ∧ (r = none → x = -2 ∧ s' = withD s none) ∧ ∀ d, r = some d → x = (d.1 : Int) ∧ s' = withD s (some (hld s.f x2 8, x1.toNat, d))) ∧ (¬ (slt x1 ∧ set8 x2) → x = -1 ∧ s' = s)
def kq (d : Dv) (k : Int) : List Tm := if k = 0 then d.2.2.2.1.1 else if k = 1 then d.2.2.2.1.2.1 else d.2.2.2.1.2.2 (k - 2).toNat
def keptA (s : Ms) (x1 x2 x : Int) (s' : Ms) : Prop := (∀ st a d, s.dv = some (st, a, d) → slt x2 → 0 ≤ x1 → x1 ≤ 9 → (x1 ≤ 1 ∨ bitI st (x1 - 2).toNat = 1) → x = ((kq d x1).length : Int) ∧ s' = put s x2.toNat (kq d x1)) ∧ ((s.dv = none ∨ ¬ slt x2 ∨ ¬ (0 ≤ x1 ∧ x1 ≤ 9) ∨ ∀ st a d, s.dv = some (st, a, d) → ¬ (x1 ≤ 1 ∨ bitI st (x1 - 2).toNat = 1)) → x = -1 ∧ s' = s)
def stepA (s : Ms) (x1 x2 x : Int) : Prop := x = match s.dv with
  | none => -1
  | some (_, _, d) => if x1 = -1 then (if x2 = 0 then (d.1 : Int) else if x2 = 1 then (d.2.1 : Int) else if x2 = 2 then 1 else -1) else if (0 ≤ x1 ∧ x1 < (d.1 : Int)) ∧ 0 ≤ x2 ∧ x2 ≤ 4 then d.2.2.2.2 x1.toNat x2.toNat else -1
section RWK2
variable {G : Gl} {S : Sh} {R : MR} {m : Nat} {s : Ms} {I : MI} {Q : Sh → MI → MR → Int → Prop}
end RWK2

/-! ===== X10: kept, step ===== -/
section RKP
variable {G : Gl} {S : Sh} {R : MR} {m : Nat} {s : Ms} {I : MI} {Q : Sh → MI → MR → Int → Prop}
theorem kq_ok {p n : Int} {w : Nat → Int} {d : Dv} {x : Int} (h : DivO p n w d) (hx : 0 ≤ x ∧ x ≤ 9) : okQ p n w (kq d x) := by
  unfold kq
  by_cases c0 : x = 0
  · rw [if_pos c0]; exact h.2.1.1
  · rw [if_neg c0]
    by_cases c1 : x = 1
    · rw [if_pos c1]; exact h.2.1.2.1
    · rw [if_neg c1]; exact h.2.1.2.2 _ (by omega)
end RKP

