/-! ===== the law: the whole, what is left ===== -/
section LW3
variable {G : Gl} {S : Sh} {I : MI} {R : MR} {s s0 : Ms} {st sb : Int} {d : Dv}
/-- kept() of what there is -/
theorem keptA_in {x1 x2 x : Int} {s' : Ms} (hx : keptA s x1 x2 x s') (hd : ∃ a, s.dv = some (st, a, d)) (h2 : slt x2) (h1 : 0 ≤ x1 ∧ x1 ≤ 9) (hb : x1 ≤ 1 ∨ bitI st (x1 - 2).toNat = 1) : x = ((kq d x1).length : Int) ∧ s' = put s x2.toNat (kq d x1) := by
  obtain ⟨a, hd⟩ := hd
  exact hx.1 st a d hd h2 h1.1 h1.2 hb
theorem keptA_out {x1 x2 x : Int} {s' : Ms} (hx : keptA s x1 x2 x s') (hd : ∃ a, s.dv = some (st, a, d)) (h1 : ¬ (0 ≤ x1 ∧ x1 ≤ 9) ∨ ¬ (x1 ≤ 1 ∨ bitI st (x1 - 2).toNat = 1)) : x = -1 ∧ s' = s := by
  obtain ⟨a0, hd⟩ := hd
  refine hx.2 ?_
  rcases h1 with c | c
  · exact Or.inr (Or.inr (Or.inl c))
  · refine Or.inr (Or.inr (Or.inr (fun st2 a2 d2 e => ?_)))
    rw [hd] at e
    have e := Option.some.inj e
    have e9 : st = st2 := congrArg Prod.fst e
    rw [← e9]
    exact c
theorem makeA_in {x1 x2 x3 x4 x : Int} {s' : Ms} (hx : makeA s x1 x2 x3 x4 x s') (h1 : 0 ≤ x1 ∧ x1 ≤ 2) (h2 : slt x2) (h3 : slt x3) (h4 : slt x4) : (fits 60 (makeL s x1 x2.toNat x3.toNat) ∧ x = ((makeL s x1 x2.toNat x3.toNat).length : Int) ∧ s' = put s x4.toNat (makeL s x1 x2.toNat x3.toNat)) ∨ (¬ fits 60 (makeL s x1 x2.toNat x3.toNat) ∧ x = -1 ∧ s' = s) := by
  have h := hx.1 ⟨h1, h2, h3, h4⟩
  rcases Classical.em (fits 60 (makeL s x1 x2.toNat x3.toNat)) with c | c
  · exact Or.inl ⟨c, h.1 c⟩
  · exact Or.inr ⟨c, h.2 c⟩
theorem iand_sub : ∀ a : Nat, a < 16 → ∀ b : Nat, b < 16 → (∀ k, k < 4 → bitI (b : Int) k = 1 → bitI (a : Int) k = 1) → iand (a : Int) (b : Int) = (b : Int) := by decide +kernel
/-- the pieces of the whole, as far as they are taken off -/
def WhA (s0 : Ms) (d : Dv) (j : Nat) (A : List Tm) : Prop := Can (s0.p : Int) A ∧ ∀ m, cq (s0.p : Int) (cf A m) (pc d.2.2.2.1.2.1 m (s0.f 0) - sm (fun k => pc (d.2.2.2.1.2.2 k) m (s0.f k)) j)
/-- the set told as bits 1 to 3, and those of it that were not 0 -/
def SetO (s0 : Ms) (set st : Int) : Prop := (0 ≤ set ∧ set < 16 ∧ bitI set 0 = 0) ∧ st = hld s0.f set 8
theorem SetO.r (h : SetO s0 sb st) : 0 ≤ st ∧ st < 256 := by rw [h.2]; exact hld_r s0.f sb 8
theorem bit_hi {set : Int} (h : 0 ≤ set ∧ set < 16) {k : Nat} (h4 : 4 ≤ k) (h8 : k < 8) : bitI set k = 0 := by
  have : k = 4 ∨ k = 5 ∨ k = 6 ∨ k = 7 := by omega
  unfold bitI
  rcases this with rfl | rfl | rfl | rfl
  · show set / 16 % 2 = 0; omega
  · show set / 32 % 2 = 0; omega
  · show set / 64 % 2 = 0; omega
  · show set / 128 % 2 = 0; omega
theorem SetO.b (h : SetO s0 sb st) {k : Nat} (hk : k < 8) : bitI st k = 1 ↔ bitI sb k = 1 ∧ s0.f k ≠ [] := by
  rw [h.2, hld_b8 s0.f sb hk]
  constructor
  · intro q
    exact Classical.byContradiction fun c => by rw [if_neg c] at q; omega
  · exact fun c => if_pos c
theorem SetO.hi (h : SetO s0 sb st) {k : Nat} (h4 : 4 ≤ k) (h8 : k < 8) : bitI st k = 0 := by
  rcases bit01 st k with c | c
  · exact c
  · have := (h.b h8).mp c
    have := bit_hi ⟨h.1.1, h.1.2.1⟩ h4 h8
    omega
theorem SetO.lo (h : SetO s0 sb st) : bitI st 0 = 0 := by
  rcases bit01 st 0 with c | c
  · exact c
  · have := (h.b (by omega)).mp c
    have := h.1.2.2
    omega
theorem lt16 {st : Int} (h : 0 ≤ st ∧ st < 256) (h4 : bitI st 4 = 0) (h5 : bitI st 5 = 0) (h6 : bitI st 6 = 0) (h7 : bitI st 7 = 0) : st < 16 := by
  unfold bitI at h4 h5 h6 h7
  have h4 : st / 16 % 2 = 0 := h4
  have h5 : st / 32 % 2 = 0 := h5
  have h6 : st / 64 % 2 = 0 := h6
  have h7 : st / 128 % 2 = 0 := h7
  omega
theorem SetO.iand (h : SetO s0 sb st) : iand sb st = st := by
  have hr := h.r
  have hl := lt16 hr (h.hi (by omega) (by omega)) (h.hi (by omega) (by omega)) (h.hi (by omega) (by omega)) (h.hi (by omega) (by omega))
  have := iand_sub sb.toNat (by have := h.1; omega) st.toNat (by omega) (fun k hk hb => ?_)
  · rw [show ((sb.toNat : Nat) : Int) = sb by have := h.1; omega, show ((st.toNat : Nat) : Int) = st by omega] at this
    exact this
  · rw [show ((sb.toNat : Nat) : Int) = sb by have := h.1; omega]
    rw [show ((st.toNat : Nat) : Int) = st by omega] at hb
    exact ((h.b (by omega)).mp hb).1
theorem WhA.sub {A B : List Tm} {j : Nat} (hp : (0 : Int) < (s0.p : Int)) (h : WhA s0 d j A) (hB : Srt B) (hc : ∀ m, cq (s0.p : Int) (cf B m) (pc (d.2.2.2.1.2.2 j) m (s0.f j))) : WhA s0 d (j + 1) (mg (s0.p : Int) ((s0.p : Int) - 1) 0 A B) := by
  refine ⟨mg_can hp h.1 hB, fun m => cf_sub.tr (((h.2 m).su (hc m)).tr (cq.eq ?_))⟩
  rw [sm]; omega
theorem isWhole_loop {Q : Sh → MI → MR → Int → Prop} (hset : SetO s0 sb st) (hi : DvI s0 st d) (hok : MsOK s0) : ∀ (k j : Nat) (S : Sh) (I : MI) (R : MR) (s : Ms), 4 - j = k → 1 ≤ j → j ≤ 4 → LwS S I R s → AtD s0 s st d → WhA s0 d j (s.f 5) →
    (hq : ∀ S' I' R' s', LwS S' I' R' s' → frL (3 * (4 - j) + 4) S I R S' I' R' → AtD s0 s' st d → Q S' I' R' 1) → LL_isWhole_29 G 1 sb st (j : Int) S I R Q := by
  have hp0 : (0 : Int) < (s0.p : Int) := by have := hok.1.1.1; omega
  have hr := hset.r
  obtain ⟨hO, ⟨eN, -⟩, -, hsh, -⟩ := hi
  intro k
  induction k with
  | zero =>
    intro j S I R s h1 h2 h3 h ha hw hq
    have ht1 := h.t1
    have ej : j = 4 := by omega
    subst ej
    refine bL_isWhole_29 ⟨fun _ => ⟨ht1, q_kept h (fun S1 I1 R1 x1 s1 h1 f1 k1 => ?_)⟩, fun c => absurd (by omega) c⟩
    obtain ⟨e1, e2⟩ := keptA_out k1 ⟨_, ha.2.2⟩ (Or.inr (by rw [show ((2 : Int) - 2).toNat = 0 from rfl, hset.lo]; omega))
    rw [e2] at h1
    refine ⟨fun c => absurd e1 c, fun _ => ⟨h1.t1, q_kept h1 (fun S2 I2 R2 x2 s2 h2 f2 k2 => ?_)⟩⟩
    obtain ⟨e3, e4⟩ := keptA_out k2 ⟨_, ha.2.2⟩ (Or.inl (by omega))
    rw [e4] at h2
    refine ⟨fun _ => ⟨h2.t1, q_kept h2 (fun S3 I3 R3 x3 s3 h3 f3 k3 => ?_)⟩, fun c => absurd e3 c⟩
    obtain ⟨-, e6⟩ := keptA_in k3 ⟨_, ha.2.2⟩ (by omega) (by omega) (Or.inl (by omega))
    rw [e6] at h3
    have ha3 := ha.put (k := (6 : Int).toNat) (L := kq d 0) (by decide)
    refine ⟨h3.t1, q_make h3 (fun S4 I4 R4 x4 s4 h4 f4 k4 => ?_)⟩
    have m1 : makeL (put s (6 : Int).toNat (kq d 0)) 1 (5 : Int).toNat (6 : Int).toNat = [] := by
      unfold makeL
      rw [if_neg (by omega), if_pos rfl]
      rw [show (put s (6 : Int).toNat (kq d 0)).f (6 : Int).toNat = kq d 0 from put_at, show (put s (6 : Int).toNat (kq d 0)).f (5 : Int).toNat = s.f 5 from put_ne (by decide)]
      rw [show (put s (6 : Int).toNat (kq d 0)).p = s0.p from ha.1.1]
      have kc : Can (s0.p : Int) (kq d 0) := hO.2.1.1.1
      refine can_0 (mg_can hp0 hw.1 kc.1) (fun m => ?_)
      have e8 : sm (fun k => pc (d.2.2.2.1.2.2 k) m (s0.f k)) 8 = sm (fun k => pc (d.2.2.2.1.2.2 k) m (s0.f k)) 4 := by
        have z : ∀ k, 4 ≤ k → k < 8 → pc (d.2.2.2.1.2.2 k) m (s0.f k) = 0 := fun k h4 h8 => by rw [(hsh k h8 (hset.hi h4 h8)).1, pc_nil]
        show (((sm _ 4 + pc (d.2.2.2.1.2.2 4) m (s0.f 4)) + pc (d.2.2.2.1.2.2 5) m (s0.f 5)) + pc (d.2.2.2.1.2.2 6) m (s0.f 6)) + pc (d.2.2.2.1.2.2 7) m (s0.f 7) = _
        rw [z 4 (by omega) (by omega), z 5 (by omega) (by omega), z 6 (by omega) (by omega), z 7 (by omega) (by omega)]
        omega
      have e9 := eN m
      rw [e8] at e9
      refine cf_sub.tr (((hw.2 m).su e9).tr (cq.eq ?_))
      omega
    rcases makeA_in k4 (by omega) (by omega) (by omega) (by omega) with ⟨-, x0, e7⟩ | ⟨nf, -, -⟩
    · rw [m1] at x0 e7
      rw [e7] at h4
      refine ⟨fun c => absurd x0 c, fun _ => ⟨fun c => absurd hset.iand c, fun _ => ?_⟩⟩
      exact hq _ _ _ _ h4 (((f1.tr f2 (c := 2) (by omega)).tr f3 (c := 3) (by omega)).tr f4 (by omega)) (ha3.put (by decide))
    · rw [m1] at nf
      exact absurd (⟨by decide, fun t ht => absurd ht List.not_mem_nil⟩ : fits 60 []) nf
  | succ k ih =>
    intro j S I R s h1 h2 h3 h ha hw hq
    have ht1 := h.t1
    have vb : iand (ishr st (j : Int)) 1 = bitI st j := vbit ⟨hr.1, by omega⟩ (by omega)
    have w1 : w32 (2 + (j : Int)) = 2 + (j : Int) := w32_id ⟨by omega, by omega⟩
    have w2 : w32 ((j : Int) + 1) = ((j + 1 : Nat) : Int) := (w32_id ⟨by omega, by omega⟩).trans (by omega)
    have tn : ((2 : Int) + (j : Int) - 2).toNat = j := by omega
    refine bL_isWhole_29 ⟨fun c => by omega, fun _ => ?_⟩
    rw [vb, w1, w2]
    refine ⟨fun c => ⟨ht1, q_kept h (fun S1 I1 R1 x1 s1 h1' f1 k1 => ?_)⟩, fun c => ⟨ht1, q_kept h (fun S1 I1 R1 x1 s1 h1' f1 k1 => ?_)⟩⟩
    · have b1 : bitI st j = 1 := by have := bit01 st j; omega
      obtain ⟨e1, e2⟩ := keptA_in k1 ⟨_, ha.2.2⟩ (by omega) (by omega) (Or.inr (by rw [tn]; exact b1))
      rw [e2] at h1'
      have ha1 := ha.put (k := (6 : Int).toNat) (L := kq d (2 + (j : Int))) (by decide)
      have kqe : kq d (2 + (j : Int)) = d.2.2.2.1.2.2 j := by
        unfold kq
        rw [if_neg (by omega), if_neg (by omega), tn]
      refine ⟨fun _ => ⟨h1'.t1, q_make h1' (fun S2 I2 R2 x2 s2 h2' f2 k2 => ?_)⟩, fun c => by omega⟩
      rcases makeA_in k2 (by omega) (by omega) (by omega) (by omega) with ⟨-, x0, e7⟩ | ⟨-, x0, e7⟩
      · rw [e7] at h2'
        have ha2 := ha1.put (k := (6 : Int).toNat) (L := makeL (put s (6 : Int).toNat (kq d (2 + (j : Int)))) 2 (6 : Int).toNat (j : Int).toNat) (by decide)
        have mk : makeL (put s (6 : Int).toNat (kq d (2 + (j : Int)))) 2 (6 : Int).toNat (j : Int).toNat = canon (s0.p : Int) (prdR (s0.p : Int) (d.2.2.2.1.2.2 j) (s0.f j)) := by
          unfold makeL
          rw [if_neg (by omega), if_neg (by omega), show (put s (6 : Int).toNat (kq d (2 + (j : Int)))).f (6 : Int).toNat = _ from put_at, kqe, Int.toNat_natCast, show (put s (6 : Int).toNat (d.2.2.2.1.2.2 j)).f j = s.f j from put_ne (by omega), ha.2.1 j (by omega)]
          rw [show (put s (6 : Int).toNat (d.2.2.2.1.2.2 j)).p = s0.p from ha.1.1]
        have s5 : (put (put s (6 : Int).toNat (kq d (2 + (j : Int)))) (6 : Int).toNat (makeL (put s (6 : Int).toNat (kq d (2 + (j : Int)))) 2 (6 : Int).toNat (j : Int).toNat)).f 5 = s.f 5 := (put_ne (by decide)).trans (put_ne (by decide))
        have s6 : (put (put s (6 : Int).toNat (kq d (2 + (j : Int)))) (6 : Int).toNat (makeL (put s (6 : Int).toNat (kq d (2 + (j : Int)))) 2 (6 : Int).toNat (j : Int).toNat)).f 6 = canon (s0.p : Int) (prdR (s0.p : Int) (d.2.2.2.1.2.2 j) (s0.f j)) := put_at.trans mk
        have mk2 : makeL (put (put s (6 : Int).toNat (kq d (2 + (j : Int)))) (6 : Int).toNat (makeL (put s (6 : Int).toNat (kq d (2 + (j : Int)))) 2 (6 : Int).toNat (j : Int).toNat)) 1 (5 : Int).toNat (6 : Int).toNat = mg (s0.p : Int) ((s0.p : Int) - 1) 0 (s.f 5) (canon (s0.p : Int) (prdR (s0.p : Int) (d.2.2.2.1.2.2 j) (s0.f j))) := by
          have sp2 : (put (put s (6 : Int).toNat (kq d (2 + (j : Int)))) (6 : Int).toNat (makeL (put s (6 : Int).toNat (kq d (2 + (j : Int)))) 2 (6 : Int).toNat (j : Int).toNat)).p = s0.p := ha.1.1
          generalize put (put s (6 : Int).toNat (kq d (2 + (j : Int)))) (6 : Int).toNat (makeL (put s (6 : Int).toNat (kq d (2 + (j : Int)))) 2 (6 : Int).toNat (j : Int).toNat) = SX at s5 s6 sp2
          unfold makeL
          rw [if_neg (by omega), if_pos rfl, show SX.f (5 : Int).toNat = s.f 5 from s5, show SX.f (6 : Int).toNat = _ from s6, sp2]
        refine ⟨fun c => by omega, fun _ => ⟨h2'.t1, q_make h2' (fun S3 I3 R3 x3 s3 h3' f3 k3 => ?_)⟩⟩
        have f13 := (f1.tr f2 (c := 2) (by omega)).tr f3 (c := 3) (by omega)
        rcases makeA_in k3 (by omega) (by omega) (by omega) (by omega) with ⟨-, x0', e8⟩ | ⟨-, x0', e8⟩
        · rw [e8] at h3'
          refine ⟨fun _ => ?_, fun c => by omega⟩
          refine ih (j + 1) S3 I3 R3 _ (by omega) (by omega) (by omega) h3' (ha2.put (by decide)) ?_ (fun S' I' R' s' l f a => hq S' I' R' s' l (f13.tr f (by omega)) a)
          refine (show WhA s0 d (j + 1) ((put _ (5 : Int).toNat _).f (5 : Int).toNat) from ?_)
          rw [put_at, mk2]
          exact WhA.sub hp0 hw (canon_can hp0 (prdR_red hp0 _ _)).1 (fun m => cf_canon)
        · rw [e8] at h3'
          exact ⟨fun c => by omega, fun _ => hq _ _ _ _ h3' (f13.wk (by omega)) ha2⟩
      · rw [e7] at h2'
        exact ⟨fun _ => hq _ _ _ _ h2' ((f1.tr f2 (c := 2) (by omega)).wk (by omega)) ha1, fun c => by omega⟩
    · have b0 : bitI st j = 0 := by have := bit01 st j; omega
      obtain ⟨e1, e2⟩ := keptA_out k1 ⟨_, ha.2.2⟩ (Or.inr (by rw [tn, b0]; omega))
      rw [e2] at h1'
      refine ⟨fun _ => ?_, fun c => absurd e1 c⟩
      refine ih (j + 1) S1 I1 R1 _ (by omega) (by omega) (by omega) h1' ha ⟨hw.1, fun m => (hw.2 m).tr (cq.eq ?_)⟩ (fun S' I' R' s' l f a => hq S' I' R' s' l (f1.tr f (by omega)) a)
      rw [sm, (hsh j (by omega) b0).1, pc_nil]
      omega
theorem isWhole_spec {Q : Sh → MI → MR → Int → Prop} (h : LwS S I R s) (ha : AtD s0 s st d) (hset : SetO s0 sb st) (hi : DvI s0 st d) (hok : MsOK s0) (hq : ∀ S' I' R' s', LwS S' I' R' s' → frL 20 S I R S' I' R' → AtD s0 s' st d → Q S' I' R' 1) : CI G ML_isWhole [vR 1, vI sb] S I R Q := by
  have hp0 : (0 : Int) < (s0.p : Int) := by have := hok.1.1.1; omega
  refine bL_isWhole ⟨h.t1, q_look h (fun x hx => ⟨h.t1, q_kept h (fun S1 I1 R1 x1 s1 h1' f1 k1 => ?_)⟩)⟩
  have ex : x = st := by
    unfold lookA at hx
    rw [if_neg (by omega), if_neg (by omega), if_neg (by omega), if_neg (by omega), if_neg (by omega), if_neg (by omega), if_neg (by omega), if_neg (by omega), ha.2.2] at hx
    exact hx
  rw [ex]
  obtain ⟨e1, e2⟩ := keptA_in k1 ⟨_, ha.2.2⟩ (by omega) (by omega) (Or.inl (by omega))
  rw [e2] at h1'
  have ha1 := ha.put (k := (5 : Int).toNat) (L := kq d 1) (by decide)
  refine ⟨h1'.t1, q_make h1' (fun S2 I2 R2 x2 s2 h2' f2 k2 => ?_)⟩
  have f12 := f1.tr f2 (c := 2) (by omega)
  rcases makeA_in k2 (by omega) (by omega) (by omega) (by omega) with ⟨-, x0, e7⟩ | ⟨-, x0, e7⟩
  · rw [e7] at h2'
    refine ⟨fun _ => ?_, fun c => by omega⟩
    refine isWhole_loop hset hi hok _ 1 S2 I2 R2 _ rfl (by omega) (by omega) h2' (ha1.put (by decide)) ?_ (fun S' I' R' s' l f a => hq S' I' R' s' l (f12.tr f (by omega)) a)
    refine (show WhA s0 d 1 ((put _ (5 : Int).toNat _).f (5 : Int).toNat) from ?_)
    have mk : makeL (put s (5 : Int).toNat (kq d 1)) 2 (5 : Int).toNat (0 : Int).toNat = canon (s0.p : Int) (prdR (s0.p : Int) (kq d 1) (s0.f 0)) := by
      unfold makeL
      rw [if_neg (by omega), if_neg (by omega), show (put s (5 : Int).toNat (kq d 1)).f (5 : Int).toNat = _ from put_at, show (put s (5 : Int).toNat (kq d 1)).f (0 : Int).toNat = s.f 0 from put_ne (by decide), ha.2.1 0 (by omega)]
      rw [show (put s (5 : Int).toNat (kq d 1)).p = s0.p from ha.1.1]
    rw [put_at, mk]
    refine ⟨canon_can hp0 (prdR_red hp0 _ _), fun m => cf_canon.tr (cq.eq ?_)⟩
    show pc d.2.2.2.1.2.1 m (s0.f 0) = pc d.2.2.2.1.2.1 m (s0.f 0) - (0 + pc (d.2.2.2.1.2.2 0) m (s0.f 0))
    rw [(hi.2.2.2.1 0 (by omega) hset.lo).1, pc_nil]
    omega
  · rw [e7] at h2'
    exact ⟨fun c => by omega, fun _ => hq _ _ _ _ h2' (f12.wk (by omega)) ha1⟩
/-! what is left -/
theorem termA_hd {x1 x3 x : Int} (hx : termA s x1 0 x3 x) (h1 : slt x1) (hne : s.f x1.toNat ≠ []) (hm : x3 = 1 ∨ x3 = 2 ∨ x3 = 3) : x = if x3 = 1 then exx (hdM (s.f x1.toNat)) else if x3 = 2 then exy (hdM (s.f x1.toNat)) else exz (hdM (s.f x1.toNat)) := by
  have hl : 0 < (s.f x1.toNat).length := by
    cases e : s.f x1.toNat with
    | nil => exact absurd e hne
    | cons t r => exact Nat.succ_pos _
  unfold termA at hx
  rw [if_pos h1, if_neg (by omega), if_pos ⟨by omega, by omega⟩] at hx
  rw [hx]
  have hd : ((s.f x1.toNat).getD (0 : Int).toNat (0, 0)) = ((s.f x1.toNat).headD (0, 0)) := by
    cases s.f x1.toNat <;> rfl
  unfold tellT
  rw [hd]
  rcases hm with rfl | rfl | rfl <;> rfl
theorem isLeft_loop {Q : Sh → MI → MR → Int → Prop} (hset : SetO s0 sb st) (hi : DvI s0 st d) (hb : bestD d.2.2.1 d.2.2.2.1.1 d.2.1 = -1) (hn : kq d 0 ≠ []) (h : LwS S I R s) (ha : AtD s0 s st d) (h6 : s.f 6 = kq d 0) (hq : Q S I R 1) : ∀ (k j : Nat), 4 - j = k → 1 ≤ j → j ≤ 4 → LL_isLeft_14 G 1 sb (j : Int) S I R Q := by
  have ht1 := h.t1
  obtain ⟨hO, -, -, -, -, ⟨hnb, hg⟩, -⟩ := hi
  intro k
  induction k with
  | zero => exact fun j h1 h2 h3 => bL_isLeft_14 ⟨fun _ => hq, fun c => absurd (by omega) c⟩
  | succ k ih =>
    intro j h1 h2 h3
    have vb : iand (ishr sb (j : Int)) 1 = bitI sb j := vbit ⟨hset.1.1, by have := hset.1.2.1; omega⟩ (by omega)
    have w2 : w32 ((j : Int) + 1) = ((j + 1 : Nat) : Int) := (w32_id ⟨by omega, by omega⟩).trans (by omega)
    have nx := ih (j + 1) (by omega) (by omega) (by omega)
    refine bL_isLeft_14 ⟨fun c => by omega, fun _ => ?_⟩
    rw [vb, w2]
    refine ⟨fun _ => nx, fun c => ⟨ht1, q_term h (fun x hx => ⟨fun c2 => ?_, fun _ => nx⟩)⟩⟩
    have b1 : bitI sb j = 1 := by have := bit01 sb j; omega
    have ne : s.f j ≠ [] := fun e => by
      unfold termA at hx
      rw [if_pos (by omega), if_pos rfl, Int.toNat_natCast, e] at hx
      exact c2 hx
    have ne0 : s0.f j ≠ [] := by rw [← ha.2.1 j (by omega)]; exact ne
    obtain ⟨i, hi1, hi2⟩ := hg j (by omega) ((hset.b (by omega)).mpr ⟨b1, ne0⟩)
    have nd := bestD_none hb hn i (by omega) (by rw [hi2]; exact ne0)
    rw [hi2, ← ha.2.1 j (by omega), show d.2.2.2.1.1 = kq d 0 from rfl, ← h6] at nd
    have n6 : s.f 6 ≠ [] := by rw [h6]; exact hn
    have vj : ∀ {x3 x : Int}, termA s (j : Int) 0 x3 x → (x3 = 1 ∨ x3 = 2 ∨ x3 = 3) → x = if x3 = 1 then exx (hdM (s.f j)) else if x3 = 2 then exy (hdM (s.f j)) else exz (hdM (s.f j)) := fun hx hm => by
      have := termA_hd hx (by omega) (by rw [Int.toNat_natCast]; exact ne) hm
      rw [Int.toNat_natCast] at this
      exact this
    have v6 : ∀ {x3 x : Int}, termA s 6 0 x3 x → (x3 = 1 ∨ x3 = 2 ∨ x3 = 3) → x = if x3 = 1 then exx (hdM (s.f 6)) else if x3 = 2 then exy (hdM (s.f 6)) else exz (hdM (s.f 6)) := fun hx hm => termA_hd hx (by omega) n6 hm
    refine ⟨ht1, q_term h (fun a1 k1 => ⟨ht1, q_term h (fun a2 k2 => ⟨fun _ => nx, fun d1 => ⟨ht1, q_term h (fun a3 k3 => ⟨ht1, q_term h (fun a4 k4 => ⟨fun _ => nx, fun d2 => ⟨ht1, q_term h (fun a5 k5 => ⟨ht1, q_term h (fun a6 k6 => ⟨fun _ => nx, fun d3 => ?_⟩)⟩)⟩⟩)⟩)⟩⟩)⟩)⟩
    exfalso
    have e1 : a1 = exx (hdM (s.f j)) := vj k1 (by omega)
    have e2 : a2 = exx (hdM (s.f 6)) := v6 k2 (by omega)
    have e3 : a3 = exy (hdM (s.f j)) := vj k3 (by omega)
    have e4 : a4 = exy (hdM (s.f 6)) := v6 k4 (by omega)
    have e5 : a5 = exz (hdM (s.f j)) := vj k5 (by omega)
    have e6 : a6 = exz (hdM (s.f 6)) := v6 k6 (by omega)
    exact nd ⟨by omega, by omega, by omega⟩
theorem isLeft_spec {Q : Sh → MI → MR → Int → Prop} (h : LwS S I R s) (ha : AtD s0 s st d) (hset : SetO s0 sb st) (hi : DvI s0 st d) (hb : bestD d.2.2.1 d.2.2.2.1.1 d.2.1 = -1) (hq : ∀ S' I' R' s', LwS S' I' R' s' → frL 1 S I R S' I' R' → AtD s0 s' st d → Q S' I' R' 1) : CI G ML_isLeft [vR 1, vI sb] S I R Q := by
  refine bL_isLeft ⟨h.t1, q_kept h (fun S1 I1 R1 x1 s1 h1' f1 k1 => ?_)⟩
  obtain ⟨e1, e2⟩ := keptA_in k1 ⟨_, ha.2.2⟩ (by omega) (by omega) (Or.inl (by omega))
  rw [e2] at h1'
  have ha1 := ha.put (k := (6 : Int).toNat) (L := kq d 0) (by decide)
  refine ⟨fun c => ?_, fun _ => hq _ _ _ _ h1' f1 ha1⟩
  exact isLeft_loop hset hi hb (fun e => c (by rw [e1, e]; rfl)) h1' ha1 put_at (hq _ _ _ _ h1' f1 ha1) _ 1 rfl (by omega) (by omega)
end LW3
