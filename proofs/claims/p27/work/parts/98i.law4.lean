/-! ===== the law: what is said, rests ===== -/
theorem dec_r {v : Int} : ∀ c ∈ dec v, 0 ≤ c ∧ c < 128 := by
  have h : ∀ s : Int, ∀ c ∈ decA v s, 0 ≤ c ∧ c < 128 := by
    intro s c hc
    unfold decA at hc
    by_cases q : v < s
    · rw [if_pos q] at hc; exact absurd hc List.not_mem_nil
    · rw [if_neg q] at hc
      rw [List.mem_singleton.mp hc]
      omega
  intro c hc
  unfold dec at hc
  rcases List.mem_append.mp hc with q | q
  · exact h _ c q
  rcases List.mem_append.mp q with q | q
  · exact h _ c q
  rcases List.mem_append.mp q with q | q
  · exact h _ c q
  rcases List.mem_append.mp q with q | q
  · exact h _ c q
  · exact h _ c q
theorem powL_r {v e : Int} (hv : 0 ≤ v ∧ v ≤ 2) : ∀ c ∈ powL v e, 0 ≤ c ∧ c < 128 := by
  intro c hc
  unfold powL at hc
  by_cases q : e ≤ 0
  · rw [if_pos q] at hc; exact absurd hc List.not_mem_nil
  · rw [if_neg q] at hc
    rcases List.mem_cons.mp hc with e1 | e1
    · omega
    · by_cases q2 : e ≤ 1
      · rw [if_pos q2] at e1; exact absurd e1 List.not_mem_nil
      · rw [if_neg q2] at e1
        rcases List.mem_cons.mp e1 with e2 | e2
        · omega
        · exact dec_r c e2
theorem trmL_r {t : Tm} : ∀ c ∈ trmL t, 0 ≤ c ∧ c < 128 := by
  intro c hc
  unfold trmL at hc
  rcases List.mem_append.mp hc with q | q
  · by_cases z : t.2 = 1 ∧ t.1 ≠ 262143
    · rw [if_pos z] at q; exact absurd q List.not_mem_nil
    · rw [if_neg z] at q; exact dec_r c q
  rcases List.mem_append.mp q with q | q
  · exact powL_r (by omega) c q
  rcases List.mem_append.mp q with q | q
  · exact powL_r (by omega) c q
  · exact powL_r (by omega) c q
theorem shwR_r : ∀ (L : List Tm) (i : Nat), ∀ c ∈ shwR i L, 0 ≤ c ∧ c < 128
  | [], i, c, hc => by rw [shwR] at hc; exact absurd hc List.not_mem_nil
  | t :: L, i, c, hc => by
    rw [shwR] at hc
    rcases List.mem_append.mp hc with q | q
    · by_cases z : i = 0
      · rw [if_pos z] at q; exact absurd q List.not_mem_nil
      · rw [if_neg z] at q; have := List.mem_singleton.mp q; omega
    rcases List.mem_append.mp q with q | q
    · exact trmL_r c q
    · exact shwR_r L (i + 1) c q
theorem shwL_r {L : List Tm} : ∀ c ∈ shwL L, 0 ≤ c ∧ c < 128 := by
  intro c hc
  unfold shwL at hc
  by_cases q : L = []
  · rw [if_pos q] at hc; have := List.mem_singleton.mp hc; omega
  · rw [if_neg q] at hc; exact shwR_r L 0 c hc
theorem StH.fr {c m : Nat} {S S' : Sh} {I I' : MI} {R R' : MR} {t : Nat} {L : List Int} (h : StH c S I R t L) (hc : 1310 ≤ c) (f : frL m S I R S' I' R') : StH c S' I' R' t L := by
  obtain ⟨⟨t1, c1, n1⟩, ⟨t2, c3, n2⟩, l, v1, ar⟩ := h
  obtain ⟨g1, g2, g3, g4⟩ := f.2.2.2 t (by omega) n1
  obtain ⟨a1, a2, a3, a4⟩ := f.2.2.2 _ (by omega) n2
  have hn := f.1
  exact ⟨⟨g1.trans t1, c1, by omega⟩, ⟨by rw [g4]; exact a1.trans t2, by rw [g4]; exact c3, by rw [g4]; omega⟩, by rw [g4]; exact a2.trans l, by rw [g3]; exact v1, by rw [g4]; exact ar.cg a3⟩
theorem StH.wk {c c2 : Nat} {S : Sh} {I : MI} {R : MR} {t : Nat} {L : List Int} (h : StH c S I R t L) (hc : c2 ≤ c) : StH c2 S I R t L := ⟨⟨h.1.1, by have := h.1.2.1; omega, h.1.2.2⟩, ⟨h.2.1.1, by have := h.2.1.2.1; omega, h.2.1.2.2⟩, h.2.2⟩
theorem grw.fr {c m : Nat} {S S' : Sh} {I I' : MI} {R R' : MR} (g : grw S I R S' I' R' c) (hc : sN S ≤ c) (h1 : sN S ≤ sN S') (h2 : sN S' ≤ sN S + m) (h3 : sU S' ≤ sU S + m) : frL m S I R S' I' R' := ⟨h1, h2, h3, fun b _ hb => g b (by omega)⟩
section LW4
variable {G : Gl} {S : Sh} {I : MI} {R : MR} {s s0 : Ms} {st sb : Int} {d : Dv}
def shS (s : Ms) (W : List Int) : Ms := (s.1, s.2.1, s.2.2.1, s.2.2.2.1, W, s.2.2.2.2.2)
theorem AtD.sh (h : AtD s0 s st d) {W : List Int} : AtD s0 (shS s W) st d := h
theorem said_loop {Q : Sh → MI → MR → Nat → Prop} {S1 : Sh} {I1 : MI} {R1 : MR} {W : List Int} {b : Nat} (eb : b = sN S1) (h1 : LwS S1 I1 R1 s) (hW : s.sh = W) (hr : ∀ c ∈ W, 0 ≤ c ∧ c < 128) (hl : W.length ≤ 1080)
    (hq : ∀ S' I' R' t, StH (sN S1) S' I' R' t W → LwS S' I' R' s → frL 6000 S1 I1 R1 S' I' R' → Q S' I' R' t) : ∀ (k i : Nat) (S : Sh) (I : MI) (R : MR), W.length - i = k → i ≤ W.length → SbH (sN S1) (sU S1 + 4) (sN S1 + 1) S I R b (W.take i) (W.take i).length → grw S1 I1 R1 S I R (sN S1) → LL_said_17 G 1 (W.length : Int) b (i : Int) S I R Q := by
  intro k
  induction k with
  | zero =>
    intro i S I R h2 h3 hb g
    have hn : sN S1 ≤ sN S := by have := hb.1.2.2; omega
    have ei : W.take i = W := by rw [show i = W.length by omega]; exact List.take_length
    rw [ei] at hb
    have hh := hb
    obtain ⟨⟨b1, -⟩, -, ⟨c1, c2, c3⟩, -, -, u1, u2⟩ := hh
    refine bL_said_17 ⟨fun _ => ⟨b1, toStr_spec hb (by omega) (fun S2 I2 R2 hs2 g2 n2 u2 => ?_)⟩, fun c => absurd (by omega) c⟩
    have g3 := g.tr (g2.wk (show sN S1 ≤ sN S from hn))
    exact hq S2 I2 R2 _ (hs2.wk hn) (h1.gr g3 (by omega)) (g3.fr (Nat.le_refl _) (by omega) (by omega) (by omega))
  | succ k ih =>
    intro i S I R h2 h3 hb g
    have hn : sN S1 ≤ sN S := by have := hb.1.2.2; omega
    have hi : i < W.length := by omega
    have hL := h1.gr g hn
    refine bL_said_17 ⟨fun c => by omega, fun _ => ⟨hL.t1, q_out hL (fun x hx => ⟨hb.1.1, ?_⟩)⟩⟩
    have ex : x = W[i] := by
      unfold outA at hx
      rw [hW, if_pos ⟨by omega, by omega⟩, Int.toNat_natCast, List.getD_eq_getElem?_getD, List.getElem?_eq_getElem hi] at hx
      exact hx
    have xr := hr x (by rw [ex]; exact List.getElem_mem hi)
    rw [i2c_id (by omega)]
    have tl : (W.take i).length = i := by rw [List.length_take]; omega
    have ta : W.take i ++ [x] = W.take (i + 1) := by
      rw [ex, List.take_succ, List.getElem?_eq_getElem hi]
      rfl
    refine appC_spec hb xr (by omega) (fun S2 I2 R2 hb2 g2 => ?_)
    rw [ta] at hb2
    rw [show w32 ((i : Int) + 1) = ((i + 1 : Nat) : Int) from (w32_id ⟨by omega, by omega⟩).trans (by omega)]
    exact ih (i + 1) S2 I2 R2 (by omega) (by omega) hb2 (g.tr g2)
theorem said_spec {Q : Sh → MI → MR → Nat → Prop} {x1 : Int} (h : LwS S I R s) (hx : slt x1)
    (hq : ∀ S' I' R' t, StH 1310 S' I' R' t (shwL (s.f x1.toNat)) → LwS S' I' R' (shS s (shwL (s.f x1.toNat))) → frL 6001 S I R S' I' R' → Q S' I' R' t) : CR G ML_said [vR 1, vI x1] S I R Q := by
  refine bL_said ⟨h.t1, q_show h (fun S1 I1 R1 x s1 h1 f1 k1 S2 I2 R2 eS eI eR => ?_)⟩
  obtain ⟨ex, es⟩ := k1.1 hx
  rw [es] at h1
  have hl : (shwL (s.f x1.toNat)).length ≤ 1080 := h1.2.2.2.2.2.2.1
  have t2 : sT S2 (sN S1) = 11 := by rw [eS, sT_new, up1_s]
  have n2 : sN S2 = sN S1 + 1 := by rw [eS, sN_new]
  have u2 : sU S2 = sU S1 + 4 := by rw [eS, sU_new]
  have g2 : grw S1 I1 R1 S2 I2 R2 (sN S1) := by rw [eS, eI, eR]; exact grw.new (Nat.le_refl _)
  have n1 := h1.n
  refine ⟨by omega, sbInit_spec (c := sN S1) t2 (by omega) (by rw [eI]; exact up1_s _ _ _) (Nat.le_refl _) (fun S3 I3 R3 hb g3 => ?_)⟩
  rw [u2, n2] at hb
  rw [ex]
  exact said_loop rfl h1 rfl shwL_r hl (fun S' I' R' t a b f => hq S' I' R' t (a.wk n1) b (f1.tr f (by omega))) _ 0 S3 I3 R3 rfl (Nat.zero_le _) hb (g2.tr g3)
/-! rests -/
theorem isRest_loop2 {Q : Sh → MI → MR → Int → Prop} {nr : Int} (hset : SetO s0 sb st) (hok : 1 ≤ nr ∧ nr ≤ bd s0.n) : ∀ (k j : Nat) (S : Sh) (I : MI) (R : MR) (s : Ms), 4 - j = k → 1 ≤ j → j ≤ 4 → LwS S I R s → AtD s0 s st d →
    (hq : ∀ S' I' R' s', LwS S' I' R' s' → frL (4 - j + 1) S I R S' I' R' → AtD s0 s' st d → Q S' I' R' 1) → LL_isRest_114 G 1 sb nr (j : Int) S I R Q := by
  have hr : 0 ≤ sb ∧ sb < 256 := ⟨hset.1.1, by have := hset.1.2.1; omega⟩
  have bdn := bd_n s0.n
  intro k
  induction k with
  | zero =>
    intro j S I R s h1 h2 h3 h ha hq
    refine bL_isRest_114 ⟨fun _ => ⟨h.t1, q_stairs h (fun S1 I1 R1 x h1' f1 k1 => ⟨fun c => ?_, fun _ => hq _ _ _ _ h1' (f1.wk (by omega)) ha⟩)⟩, fun c => absurd (by omega) c⟩
    have := stairs_nn (s := s) ⟨hr, by rw [ha.1.2.1]; exact hok⟩ k1
    omega
  | succ k ih =>
    intro j S I R s h1 h2 h3 h ha hq
    have vb : iand (ishr sb (j : Int)) 1 = bitI sb j := vbit ⟨hr.1, by omega⟩ (by omega)
    have w2 : w32 ((j : Int) + 1) = ((j + 1 : Nat) : Int) := (w32_id ⟨by omega, by omega⟩).trans (by omega)
    refine bL_isRest_114 ⟨fun c => by omega, fun _ => ?_⟩
    rw [vb, w2]
    refine ⟨fun c => ih (j + 1) S I R s (by omega) (by omega) (by omega) h ha (fun S' I' R' s' l f a => hq S' I' R' s' l (f.wk (by omega)) a), fun c => ⟨h.t1, q_rest h (fun S1 I1 R1 x s1 h1' f1 k1 => ?_)⟩⟩
    have b1 : bitI sb j = 1 := by have := bit01 sb j; omega
    obtain ⟨L, hL, hc⟩ := rest_x h.2 (by omega) (by omega) ⟨hr, by rw [ha.1.2.1]; exact hok⟩ k1
    rw [Int.toNat_natCast] at hL
    have eL := rest_own h.2 ⟨by omega, by omega⟩ (by omega) b1 hL
    rw [eL] at hc
    rcases hc with ⟨-, ex, es⟩ | ⟨q, -⟩
    · rw [es] at h1'
      refine ⟨fun _ => ih (j + 1) S1 I1 R1 _ (by omega) (by omega) (by omega) h1' (ha.put (by decide)) (fun S' I' R' s' l f a => hq S' I' R' s' l (f1.tr f (by omega)) a), fun c => absurd ex c⟩
    · exact absurd q (by decide)
theorem isRest_50 {Q : Sh → MI → MR → Int → Prop} {nr : Int} {L : List Tm} (hset : SetO s0 sb st) (hok : 1 ≤ nr ∧ nr ≤ bd s0.n) (h : LwS S I R s) (ha : AtD s0 s st d) (h5 : s.f 5 = L) (hR : RsL s0 0 sb nr.toNat L) (hl : L.length ≤ 60)
    (hq : ∀ S' I' R' s', LwS S' I' R' s' → frL 10 S I R S' I' R' → AtD s0 s' st d → Q S' I' R' 1) : ∀ (k i : Nat), L.length - i = k → i ≤ L.length → LL_isRest_50 G 1 sb nr (L.length : Int) (i : Int) S I R Q := by
  have hr : 0 ≤ sb ∧ sb < 256 := ⟨hset.1.1, by have := hset.1.2.1; omega⟩
  have bdn := bd_n s0.n
  have ht1 := h.t1
  have tail : ∀ (S1 : Sh) (I1 : MI) (R1 : MR) (s1 : Ms), LwS S1 I1 R1 s1 → AtD s0 s1 st d → frL 2 S I R S1 I1 R1 → CI G MX9_kept [vR 1, vI 0, vI 7] S1 I1 R1 (fun S107 I107 R107 _ => LL_isRest_114 G 1 sb nr 1 S107 I107 R107 Q) := by
    intro S1 I1 R1 s1 h1 a1 f1
    refine q_kept h1 (fun S2 I2 R2 x s2 h2 f2 k2 => ?_)
    obtain ⟨-, e2⟩ := keptA_in k2 ⟨_, a1.2.2⟩ (by omega) (by omega) (Or.inl (by omega))
    rw [e2] at h2
    exact isRest_loop2 hset hok _ 1 S2 I2 R2 _ rfl (by omega) (by omega) h2 (a1.put (by decide)) (fun S' I' R' s' l f a => hq S' I' R' s' l ((f1.tr f2 (c := 3) (by omega)).tr f (by omega)) a)
  intro k
  induction k with
  | zero =>
    intro i h1 h2
    refine bL_isRest_50 ⟨fun _ => ⟨ht1, q_make h (fun S1 I1 R1 x s1 h1' f1 k1 => ?_)⟩, fun c => absurd (by omega) c⟩
    rcases makeA_in k1 (by omega) (by omega) (by omega) (by omega) with ⟨-, ex, es⟩ | ⟨-, ex, es⟩
    · rw [es] at h1'
      refine ⟨fun c => by omega, fun _ => ⟨h1'.t1, q_rest h1' (fun S2 I2 R2 y s2 h2' f2 k2 => ?_)⟩⟩
      have ha1 := ha.put (k := (6 : Int).toNat) (L := makeL s 1 (0 : Int).toNat (5 : Int).toNat) (by decide)
      obtain ⟨L3, hL3, hc⟩ := rest_x h1'.2 (by omega) (by omega) ⟨hr, by rw [ha1.1.2.1]; exact hok⟩ k2
      have sI : sameI s0 (put s (6 : Int).toNat (makeL s 1 (0 : Int).toNat (5 : Int).toNat)) sb := ⟨ha1.1.1, ha1.1.2.1, ha1.1.2.2, fun k hk hb => by
        have k4 : k < 4 := by
          by_cases q : k < 4
          · exact q
          · have := bit_hi ⟨hset.1.1, hset.1.2.1⟩ (show 4 ≤ k by omega) hk
            omega
        exact ha1.2.1 k k4⟩
      have mk : makeL s 1 (0 : Int).toNat (5 : Int).toNat = mg (s0.p : Int) ((s0.p : Int) - 1) 0 (s0.f 0) L := by
        unfold makeL
        rw [if_neg (by omega), if_pos rfl, show s.f (0 : Int).toNat = s0.f 0 from ha.2.1 0 (by omega), show s.f (5 : Int).toNat = L from h5, ha.1.1]
      have e3 := rest_diff (s := s0) (a := 0) h1'.2 (by omega) sI hR (put_at.trans mk) hL3
      rw [e3] at hc
      rcases hc with ⟨-, ey, es2⟩ | ⟨q, -⟩
      · rw [es2] at h2'
        exact ⟨fun _ => ⟨h2'.t1, tail _ _ _ _ h2' (ha1.put (by decide)) (f1.tr f2 (by omega))⟩, fun c => absurd ey c⟩
      · exact absurd q (by decide)
    · rw [es] at h1'
      exact ⟨fun _ => ⟨h1'.t1, tail _ _ _ _ h1' ha (f1.wk (by omega))⟩, fun c => by omega⟩
  | succ k ih =>
    intro i h1 h2
    have hi : i < L.length := by omega
    refine bL_isRest_50 ⟨fun c => by omega, fun _ => ⟨ht1, q_term h (fun x hx => ⟨fun _ => ?_, fun c => absurd ?_ c⟩)⟩⟩
    · rw [show w32 ((i : Int) + 1) = ((i + 1 : Nat) : Int) from (w32_id ⟨by omega, by omega⟩).trans (by omega)]
      exact ih (i + 1) (by omega) (by omega)
    · have e5 : s.f (5 : Int).toNat = L := h5
      unfold termA at hx
      rw [if_pos (by omega), if_neg (by omega), e5, if_pos ⟨by omega, by omega⟩, Int.toNat_natCast, List.getD_eq_getElem?_getD, List.getElem?_eq_getElem hi] at hx
      have := rest_dg (by omega) hR L[i] (List.getElem_mem hi)
      have hx : x = dg (L[i]).1 := hx
      omega
theorem isRest_spec {Q : Sh → MI → MR → Int → Prop} {nr : Int} (hset : SetO s0 sb st) (hok : 1 ≤ nr ∧ nr ≤ bd s0.n) (h : LwS S I R s) (ha : AtD s0 s st d)
    (hq : ∀ S' I' R' s', LwS S' I' R' s' → frL 13000 S I R S' I' R' → AtD s0 s' st d → Q S' I' R' 1) : CI G ML_isRest [vR 1, vI sb, vI nr] S I R Q := by
  have hr : 0 ≤ sb ∧ sb < 256 := ⟨hset.1.1, by have := hset.1.2.1; omega⟩
  have bdn := bd_n s0.n
  have bits : ∀ k, k < 8 → bitI sb k = 1 → k < 4 := fun k hk hb => by
    by_cases q : k < 4
    · exact q
    · have := bit_hi ⟨hset.1.1, hset.1.2.1⟩ (show 4 ≤ k by omega) hk
      omega
  have sI : ∀ {s' : Ms}, AtD s0 s' st d → sameI s0 s' sb := fun a => ⟨a.1.1, a.1.2.1, a.1.2.2, fun k hk hb => a.2.1 k (bits k hk hb)⟩
  refine bL_isRest ⟨h.t1, q_rest h (fun S1 I1 R1 x s1 h1 f1 k1 => ?_)⟩
  obtain ⟨L, hL, hc⟩ := rest_x h.2 (by omega) (by omega) ⟨hr, by rw [ha.1.2.1]; exact hok⟩ k1
  have hL0 : RsL s0 0 sb nr.toNat L := by
    obtain ⟨z, z1, z2, z3⟩ := hL
    rw [ha.1.1, ha.1.2.1, ha.1.2.2, (sI ha).FF, show s.f (0 : Int).toNat = s0.f 0 from ha.2.1 0 (by omega)] at z1
    rw [ha.1.1] at z2
    rw [ha.1.2.1, ha.1.2.2] at z3
    exact ⟨z, z1, z2, z3⟩
  rcases hc with ⟨l60, ex, es⟩ | ⟨-, ex, es⟩
  · rw [es] at h1
    have ha1 := ha.put (k := (5 : Int).toNat) (L := L) (by decide)
    refine ⟨fun _ => ⟨h1.t1, q_rest h1 (fun S2 I2 R2 y s2 h2 f2 k2 => ?_)⟩, fun c => by omega⟩
    obtain ⟨L2, hL2, hc2⟩ := rest_x h1.2 (by omega) (by omega) ⟨hr, by rw [ha1.1.2.1]; exact hok⟩ k2
    have e2 := rest_again (s := s0) (a := 0) h1.2 (by omega) (sI ha1) hL0 put_at hL2
    rw [e2] at hc2
    rcases hc2 with ⟨-, ey, es2⟩ | ⟨q, -⟩
    · rw [es2] at h2
      have ha2 := ha1.put (k := (6 : Int).toNat) (L := L) (by decide)
      have p5 : (put (put s (5 : Int).toNat L) (6 : Int).toNat L).f 5 = L := (put_ne (by decide)).trans put_at
      have p6 : (put (put s (5 : Int).toNat L) (6 : Int).toNat L).f 6 = L := put_at
      refine ⟨fun c => absurd (by rw [ey, ex]) c, fun _ => said_spec h2 (by omega) (fun S3 I3 R3 t hs3 h3 f3 => said_spec h3 (by omega) (fun S4 I4 R4 u hs4 h4 f4 => ?_))⟩
      have hs3' := hs3.fr (Nat.le_refl _) f4
      rw [show (put (put s (5 : Int).toNat L) (6 : Int).toNat L).f (5 : Int).toNat = L from p5] at hs3' hs4 h4
      have q6 : (shS (put (put s (5 : Int).toNat L) (6 : Int).toNat L) (shwL L)).f (6 : Int).toNat = L := p6
      rw [q6] at hs4 h4
      have hl : (shwL L).length ≤ 1080 := h4.2.2.2.2.2.2.1
      refine ⟨hs3'.1.1, equals_spec hs3' hs4 (by omega) ⟨fun _ => ?_, fun c => absurd c (by omega)⟩⟩
      rw [ex]
      refine isRest_50 hset hok h4 ((ha2.sh (W := shwL L)).sh (W := shwL L)) p5 hL0 l60 (fun S' I' R' s' l f a => hq S' I' R' s' l ?_ a) _ 0 rfl (Nat.zero_le _)
      exact ((((f1.tr f2 (c := 2) (by omega)).tr f3 (c := 6003) (by omega)).tr f4 (c := 12004) (by omega)).tr f (by omega))
    · exact absurd q (by omega)
  · rw [es] at h1
    exact ⟨fun c => by omega, fun _ => hq _ _ _ _ h1 (f1.wk (by omega)) ha⟩
end LW4
