/-! ===== the law: numbers between, a text drawn ===== -/
theorem iand_31 {x : Int} (hx : InR x) : iand x 2147483647 = x % 2147483648 := by
  unfold iand
  have hm : (nI (2 ^ 31 - 1)).toBitVec.toNat = 2 ^ 31 - 1 := pk_tn (by decide)
  have e1 : Int32.ofInt 2147483647 = nI (2 ^ 31 - 1) := ofI (2 ^ 31 - 1)
  rw [e1, pk_and _ 31 hm]
  have h1 := Nat.mod_lt (Int32.ofInt x).toBitVec.toNat (show 0 < 2 ^ 31 by decide)
  rw [nI_toInt (by omega), Int.natCast_emod, tn_toInt, o32 hx]
  exact Int.emod_emod_of_dvd x ⟨2, by decide⟩
theorem btw {x lo hi : Int} (hx : InR x) (h0 : 0 ≤ lo) (h1 : lo ≤ hi) (h2 : hi ≤ 1000000) : pL_between x lo hi ∧ lo ≤ vL_between x lo hi ∧ vL_between x lo hi ≤ hi := by
  have w1 : w32 (hi - lo) = hi - lo := w32_id ⟨by omega, by omega⟩
  have w2 : w32 (hi - lo + 1) = hi - lo + 1 := w32_id ⟨by omega, by omega⟩
  unfold pL_between vL_between
  rw [w1, w2, iand_31 hx, irem_eq (by omega) (by omega) (by omega) (by omega)]
  have a1 := Int.emod_nonneg (x % 2147483648) (show hi - lo + 1 ≠ 0 by omega)
  have a2 := Int.emod_lt_of_pos (x % 2147483648) (show 0 < hi - lo + 1 by omega)
  rw [w32_id ⟨by omega, by omega⟩]
  exact ⟨⟨by omega, trivial⟩, by omega, by omega⟩
def pX (v e : Int) : List Int := if e ≤ 0 then [] else [v, 94, 48 + e]
def tmX (sg : List Int) (c a b d : Int) : List Int := sg ++ ([48 + c] ++ (pX 120 a ++ (pX 121 b ++ pX 122 d)))
/-- a text of k terms that can be drawn -/
def TxD (n : Int) : Nat → List Int → Prop
  | 0, L => L = []
  | k + 1, L => ∃ L0 sg c a b d, TxD n k L0 ∧ L = L0 ++ tmX sg c a b d ∧ ((k = 0 ∧ sg = []) ∨ (0 < k ∧ (sg = [43] ∨ sg = [45]))) ∧ (1 ≤ c ∧ c ≤ 9) ∧ (0 ≤ a ∧ a ≤ 5) ∧ (0 ≤ b ∧ b ≤ 5) ∧ (0 ≤ d ∧ d ≤ 5) ∧ (n = 1 → b = 0) ∧ (n ≠ 3 → d = 0)
theorem pX_len (v e : Int) : (pX v e).length ≤ 3 := by unfold pX; split <;> simp
theorem TxD.len {n : Int} : ∀ {k : Nat} {L : List Int}, TxD n k L → L.length ≤ 11 * k
  | 0, L, h => by rw [show L = [] from h]; exact Nat.le_refl _
  | k + 1, L, ⟨L0, sg, c, a, b, d, h0, e, hs, _⟩ => by
    have := h0.len
    have p1 := pX_len 120 a
    have p2 := pX_len 121 b
    have p3 := pX_len 122 d
    have ps : sg.length ≤ 1 := by rcases hs with ⟨-, e⟩ | ⟨-, e | e⟩ <;> rw [e] <;> simp
    rw [e]
    unfold tmX
    simp only [List.length_append, List.length_cons, List.length_nil]
    omega
theorem pX_r {v e : Int} (hv : 43 ≤ v ∧ v < 128) (he : e ≤ 9) : ∀ c ∈ pX v e, 43 ≤ c ∧ c < 128 := by
  intro c hc
  unfold pX at hc
  by_cases q : e ≤ 0
  · rw [if_pos q] at hc; exact absurd hc List.not_mem_nil
  · rw [if_neg q] at hc
    simp only [List.mem_cons, List.not_mem_nil, or_false] at hc
    omega
theorem TxD.r {n : Int} : ∀ {k : Nat} {L : List Int}, TxD n k L → ∀ c ∈ L, 43 ≤ c ∧ c < 128
  | 0, L, h => by rw [show L = [] from h]; exact fun c hc => absurd hc List.not_mem_nil
  | k + 1, L, ⟨L0, sg, c, a, b, d, h0, e, hs, hc, ha, hb, hd, _⟩ => by
    intro x hx
    rw [e] at hx
    unfold tmX at hx
    rcases List.mem_append.mp hx with q | q
    · exact h0.r x q
    rcases List.mem_append.mp q with q | q
    · rcases hs with ⟨-, e⟩ | ⟨-, e | e⟩ <;> rw [e] at q
      · exact absurd q List.not_mem_nil
      · have := List.mem_singleton.mp q; omega
      · have := List.mem_singleton.mp q; omega
    rcases List.mem_append.mp q with q | q
    · have := List.mem_singleton.mp q; omega
    rcases List.mem_append.mp q with q | q
    · exact pX_r (by omega) (by omega) x q
    rcases List.mem_append.mp q with q | q
    · exact pX_r (by omega) (by omega) x q
    · exact pX_r (by omega) (by omega) x q
theorem litE0 : litL 0 = [] := by decide
theorem litE1 : litL 1 = [43] := by decide
theorem litE2 : litL 2 = [45] := by decide
theorem litE3 : litL 3 = [120, 94] := by decide
theorem litE4 : litL 4 = [121, 94] := by decide
theorem litE5 : litL 5 = [122, 94] := by decide
section LW5
variable {G : Gl} {S : Sh} {I : MI} {R : MR} {c U0 N0 b : Nat} {L : List Int}
/-- a variable's letter with ^, and its exponent -/
theorem appP_spec {Q : Sh → MI → MR → Prop} {j : Nat} {e v : Int} (h : SbH c U0 N0 S I R b L L.length) (hj : j < 6) (ej : litL j = [v, 94]) (he : 1 ≤ e ∧ e ≤ 9) (hl : L.length < 5000)
    (hq : ∀ S' I' R', SbH c U0 N0 S' I' R' b (L ++ pX v e) (L ++ pX v e).length → grw S I R S' I' R' c → Q S' I' R') :
    CR G MJ4_append_15ec4 [vR b, vO (j + 1)] S I R (fun S1 I1 R1 x1 => sT S1 x1 = 11 ∧ CR G MJ4_append_bf812 [vR x1, vI e] S1 I1 R1 (fun S2 I2 R2 _ => Q S2 I2 R2)) := by
  have ep : ∀ M : List Int, M ++ litL j ++ [48 + e] = M ++ pX v e := fun M => by
    rw [ej, List.append_assoc]
    unfold pX
    rw [if_neg (by omega)]
    rfl
  refine appS_spec h hj (by omega) (fun S1 I1 R1 h1 g1 => ⟨h1.1.1, appI_spec h1 he (by rw [List.length_append, litL_len]; have := litLen_le j hj; omega) (fun S2 I2 R2 h2 g2 => ?_)⟩)
  rw [ep] at h2
  exact hq S2 I2 R2 h2 (g1.tr g2)
theorem drawn_loop {Q : Sh → MI → MR → Nat → Prop} {x0 x1 n low : Int} {T : Nat} (hn : n = 1 ∨ n = 2 ∨ n = 3) (hT : T ≤ 4) (hlow : 0 ≤ low ∧ low ≤ 3)
    (hq : ∀ S' I' R' t L, TxD n T L → (∀ Sx Ix Rx, SbH c U0 N0 Sx Ix Rx b L L.length → grw S I R Sx Ix Rx c → StH (sN Sx) S' I' R' t L → grw Sx Ix Rx S' I' R' (sN Sx) → sN S' = sN Sx + 2 → sU S' = sU Sx + 4 + L.length → Q S' I' R' t)) :
    ∀ (m k : Nat) (S1 : Sh) (I1 : MI) (R1 : MR) (L : List Int), T - k = m → k ≤ T → TxD n k L → SbH c U0 N0 S1 I1 R1 b L L.length → grw S I R S1 I1 R1 c → LL_drawn_12 G x0 x1 n (T : Int) low b (k : Int) S1 I1 R1 Q := by
  intro m
  induction m with
  | zero =>
    intro k S1 I1 R1 L h1 h2 hL hb g
    have ek : k = T := by omega
    subst ek
    have hl := hL.len
    refine bL_drawn_12 ⟨fun _ => ⟨hb.1.1, toStr_spec hb (by omega) (fun S2 I2 R2 hs g2 n2 u2 => hq S2 I2 R2 _ L hL S1 I1 R1 hb g hs g2 n2 u2)⟩, fun q => absurd (by omega) q⟩
  | succ m ih =>
    intro k S1 I1 R1 L h1 h2 hL hb g
    have hl := hL.len
    have lw : w32 ((k : Int) + 1) = ((k + 1 : Nat) : Int) := (w32_id ⟨by omega, by omega⟩).trans (by omega)
    refine bL_drawn_12 ⟨fun q => by omega, fun _ => ?_⟩
    have zr : InR (w32 (w32 (w32 (x0 * w32 (w32 (2 * (k : Int)) + 1)) + w32 (x1 * w32 ((k : Int) + 3))) + w32 (77 * (k : Int)))) := InR_toInt _
    generalize w32 (w32 (w32 (x0 * w32 (w32 (2 * (k : Int)) + 1)) + w32 (x1 * w32 ((k : Int) + 3))) + w32 (77 * (k : Int))) = z at zr
    obtain ⟨p1, b1, b2⟩ := btw (x := ishr z 2) (InR_toInt _) (show (0 : Int) ≤ 0 by omega) (show (0 : Int) ≤ 2 by omega) (by omega)
    refine ⟨p1, ?_⟩
    generalize hleft : w32 (low + vL_between (ishr z 2) 0 2) = left
    have left_r : 0 ≤ left ∧ left ≤ 5 := by
      rw [← hleft, w32_id ⟨by omega, by omega⟩]; omega
    obtain ⟨p2, f1, f2⟩ := btw (x := ishr z 4) (InR_toInt _) (show (0 : Int) ≤ 0 by omega) left_r.1 (by omega)
    -- behind the exponents
    have key : ∀ a bb : Int, 0 ≤ a → 0 ≤ bb → a + bb ≤ left → (n = 1 → bb = 0) → LL_drawn_113 G x0 x1 n (T : Int) low b (k : Int) z left a bb S1 I1 R1 Q := by
      intro a bb ha hbb hab hn1
      have d195 : ∀ (S2 : Sh) (I2 : MI) (R2 : MR) (sg : List Int) (cc : Int) (M : List Int), SbH c U0 N0 S2 I2 R2 b M M.length → grw S I R S2 I2 R2 c → M = L ++ (sg ++ ([48 + cc] ++ (pX 120 a ++ pX 121 bb))) → ((k = 0 ∧ sg = []) ∨ (0 < k ∧ (sg = [43] ∨ sg = [45]))) → 1 ≤ cc ∧ cc ≤ 9 → LL_drawn_195 G x0 x1 n (T : Int) low b (k : Int) left a bb S2 I2 R2 Q := by
        intro S2 I2 R2 sg cc M hM g2 eM hsg hcc
        have lM : M.length ≤ 11 * k + 11 := by
          have q1 := pX_len 120 a
          have q2 := pX_len 121 bb
          have ps : sg.length ≤ 1 := by rcases hsg with ⟨-, e⟩ | ⟨-, e | e⟩ <;> rw [e] <;> simp
          rw [eM]
          simp only [List.length_append, List.length_cons, List.length_nil]
          omega
        have done : ∀ (S3 : Sh) (I3 : MI) (R3 : MR) (dd : Int), 0 ≤ dd ∧ dd ≤ 5 → (n ≠ 3 → dd = 0) → SbH c U0 N0 S3 I3 R3 b (M ++ pX 122 dd) (M ++ pX 122 dd).length → grw S I R S3 I3 R3 c → LL_drawn_12 G x0 x1 n (T : Int) low b ((k + 1 : Nat) : Int) S3 I3 R3 Q := fun S3 I3 R3 dd hdd hd3 h3 g3 =>
          ih (k + 1) S3 I3 R3 _ (by omega) (by omega) ⟨L, sg, cc, a, bb, dd, hL, by rw [eM]; unfold tmX; simp only [List.append_assoc], hsg, hcc, by omega, by omega, hdd, hn1, hd3⟩ h3 g3
        have dn0 : ∀ dd : Int, dd = 0 → M ++ pX 122 dd = M := fun dd e => by rw [e]; unfold pX; rw [if_pos (by omega), List.append_nil]
        refine bL_drawn_195 ⟨fun q => ?_, fun q => ⟨fun q2 => ?_, fun q2 => ⟨hM.1.1, appP_spec (v := 122) hM (by omega) litE5 ?_ (by omega) (fun S3 I3 R3 h3 g3 => ?_)⟩⟩⟩
        · rw [lw]
          exact done S2 I2 R2 0 (by omega) (fun _ => rfl) (by rw [dn0 0 rfl]; exact hM) g2
        · rw [lw]
          exact done S2 I2 R2 0 (by omega) (fun _ => rfl) (by rw [dn0 0 rfl]; exact hM) g2
        · have w9 : w32 (a + bb) = a + bb := w32_id ⟨by omega, by omega⟩
          rw [w9] at q2
          rw [w32_id (x := left - a) ⟨by omega, by omega⟩, w32_id ⟨by omega, by omega⟩]
          omega
        · rw [lw]
          have w9 : w32 (a + bb) = a + bb := w32_id ⟨by omega, by omega⟩
          rw [w9] at q2
          have e9 : w32 (w32 (left - a) - bb) = left - a - bb := by
            rw [w32_id (x := left - a) ⟨by omega, by omega⟩, w32_id ⟨by omega, by omega⟩]
          rw [e9] at h3
          exact done S3 I3 R3 (left - a - bb) (by omega) (fun z => absurd z q) h3 (g2.tr g3)
      have d141 : ∀ (y0 : Nat) (sg : List Int), y0 < 6 → litL y0 = sg → ((k = 0 ∧ sg = []) ∨ (0 < k ∧ (sg = [43] ∨ sg = [45]))) → LL_drawn_141 G x0 x1 n (T : Int) low b (k : Int) z left a bb y0 b S1 I1 R1 Q := by
        intro y0 sg hy ey hsg
        obtain ⟨p3, c1, c2⟩ := btw (x := ishr z 12) (InR_toInt _) (show (0 : Int) ≤ 1 by omega) (show (1 : Int) ≤ 9 by omega) (by omega)
        obtain ⟨cc, ecc⟩ : ∃ q, q = vL_between (ishr z 12) 1 9 := ⟨_, rfl⟩
        rw [← ecc] at c1 c2
        refine bL_drawn_141 ⟨hb.1.1, appS_spec hb hy (by omega) (fun S2 I2 R2 h2 g2 => ⟨p3, h2.1.1, ?_⟩)⟩
        have ps : sg.length ≤ 1 := by rcases hsg with ⟨-, e⟩ | ⟨-, e | e⟩ <;> rw [e] <;> simp
        rw [ey] at h2
        rw [← ecc]
        refine appI_spec h2 ⟨c1, c2⟩ (by rw [List.length_append]; omega) (fun S3 I3 R3 h3 g3 => ?_)
        have l3 : (L ++ sg ++ [48 + cc]).length ≤ 11 * k + 2 := by simp only [List.length_append, List.length_cons, List.length_nil]; omega
        have fin2 : ∀ (S4 : Sh) (I4 : MI) (R4 : MR) (M : List Int), SbH c U0 N0 S4 I4 R4 b M M.length → grw S I R S4 I4 R4 c → M = L ++ sg ++ [48 + cc] ++ pX 120 a →
            (bb ≤ 0 → LL_drawn_195 G x0 x1 n (T : Int) low b (k : Int) left a bb S4 I4 R4 Q) ∧ (¬ bb ≤ 0 → sT S4 b = 11 ∧ CR G MJ4_append_15ec4 [vR b, vO (4 + 1)] S4 I4 R4 (fun S5 I5 R5 x5 => sT S5 x5 = 11 ∧ CR G MJ4_append_bf812 [vR x5, vI bb] S5 I5 R5 (fun S6 I6 R6 _ => LL_drawn_195 G x0 x1 n (T : Int) low b (k : Int) left a bb S6 I6 R6 Q))) := by
          intro S4 I4 R4 M hM g4 eM
          have l4 : M.length ≤ 11 * k + 5 := by
            rw [eM, List.length_append]
            have := pX_len 120 a
            omega
          refine ⟨fun q => d195 S4 I4 R4 sg cc M hM g4 ?_ hsg ⟨c1, c2⟩, fun q => ⟨hM.1.1, appP_spec (v := 121) hM (by omega) litE4 (by omega) (by omega) (fun S5 I5 R5 h5 g5 => d195 S5 I5 R5 sg cc _ h5 (g4.tr g5) ?_ hsg ⟨c1, c2⟩)⟩⟩
          · rw [eM, show pX 121 bb = [] from if_pos q]
            simp only [List.append_assoc, List.append_nil]
          · rw [eM]
            simp only [List.append_assoc]
        have g03 := (g.tr g2).tr g3
        refine ⟨fun q => fin2 S3 I3 R3 _ h3 g03 ?_, fun q => ⟨h3.1.1, appP_spec (v := 120) h3 (by omega) litE3 (by omega) (by omega) (fun S4 I4 R4 h4 g4 => fin2 S4 I4 R4 _ h4 (g03.tr g4) rfl)⟩⟩
        rw [show pX 120 a = [] from if_pos q, List.append_nil]
      refine bL_drawn_113 ⟨fun q => ⟨fun _ => d141 2 [45] (by omega) litE2 (Or.inr ⟨by omega, Or.inr rfl⟩), fun _ => d141 1 [43] (by omega) litE1 (Or.inr ⟨by omega, Or.inl rfl⟩)⟩, fun q => d141 0 [] (by omega) litE0 (Or.inl ⟨by omega, rfl⟩)⟩
    have d75 : ∀ a : Int, 0 ≤ a → a ≤ left → (n = 1 → a = left) → LL_drawn_75 G x0 x1 n (T : Int) low b (k : Int) z left a S1 I1 R1 Q := by
      intro a h0 h9 hn1
      have w9 : w32 (left - a) = left - a := w32_id ⟨by omega, by omega⟩
      refine bL_drawn_75 ⟨fun q => ⟨fun q2 => ?_, fun q2 => ?_⟩, fun q => key a 0 h0 (by omega) (by omega) (fun _ => rfl)⟩
      · rw [w9]
        obtain ⟨p3, c1, c2⟩ := btw (x := ishr z 9) (InR_toInt _) (show (0 : Int) ≤ 0 by omega) (show (0 : Int) ≤ left - a by omega) (by omega)
        exact ⟨p3, key a _ h0 c1 (by omega) (fun e => absurd e q)⟩
      · rw [w9]
        exact key a _ h0 (by omega) (by omega) (fun e => absurd e q)
    exact ⟨fun q => ⟨p2, d75 _ f1 f2 (fun e => absurd e q)⟩, fun q => d75 left (by omega) (by omega) (fun _ => rfl)⟩
/-- a text drawn -/
theorem drawn_spec {Q : Sh → MI → MR → Nat → Prop} {x0 x1 n low : Int} {T : Nat} (hn : n = 1 ∨ n = 2 ∨ n = 3) (hT : T ≤ 4) (hlow : 0 ≤ low ∧ low ≤ 3)
    (hq : ∀ S' I' R' t L, TxD n T L → StH (sN S) S' I' R' t L → grw S I R S' I' R' (sN S) → sN S ≤ sN S' → sN S' ≤ sN S + 1000 → sU S' ≤ sU S + 1000 → Q S' I' R' t) : CR G ML_drawn [vI x0, vI x1, vI n, vI (T : Int), vI low] S I R Q := by
  refine bL_drawn (fun S1 I1 R1 eS eI eR => ?_)
  have t1 : sT S1 (sN S) = 11 := by rw [eS, sT_new, up1_s]
  have n1 : sN S1 = sN S + 1 := by rw [eS, sN_new]
  have u1 : sU S1 = sU S + 4 := by rw [eS, sU_new]
  have g1 : grw S I R S1 I1 R1 (sN S) := by rw [eS, eI, eR]; exact grw.new (Nat.le_refl _)
  refine ⟨by omega, sbInit_spec (c := sN S) t1 (by omega) (by rw [eI]; exact up1_s _ _ _) (Nat.le_refl _) (fun S2 I2 R2 hb g2 => ?_)⟩
  rw [u1, n1] at hb
  refine drawn_loop (S := S) (I := I) (R := R) hn hT hlow (fun S' I' R' t L hL Sx Ix Rx hx gx hs g3 n3 u3 => ?_) _ 0 S2 I2 R2 [] rfl (Nat.zero_le _) rfl hb (g1.tr g2)
  have hl := hL.len
  have q1 := hx.1.2.2
  obtain ⟨q2, q3, q4⟩ := hx.2.2.1
  have q5 := hx.2.2.2.2.2
  exact hq S' I' R' t L hL (hs.wk (by omega)) (gx.tr (g3.wk (by omega))) (by omega) (by omega) (by omega)
end LW5
