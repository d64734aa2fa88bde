def vJ9_max_7cf53  (x0 : Int) (x1 : Int) : Int := (if x0 < x1 then x1 else x0)
set_option maxRecDepth 100000 in
set_option maxHeartbeats 4000000 in
theorem sJ9_max_7cf53 {G : Gl} {S : Sh} {I : MI} {R : MR} {Q : Sh → MI → MR → Int → Prop} {x0 : Int} {x1 : Int} (hq : Q S I R (vJ9_max_7cf53 x0 x1)) : CI G MJ9_max_7cf53 [vI x0, vI x1] S I R Q := by
  show E G MJ9_max_7cf53 0 [(0, vI x0), (1, vI x1)] [] S I R (qI Q)
  unfold vJ9_max_7cf53 at hq
  refine e_iload_n 0 dJ9_max_7cf53_0 rfl ?_
  refine e_iload_n 1 dJ9_max_7cf53_1 rfl ?_
  refine e_icmp_lt (tgt := 9) dJ9_max_7cf53_2 (by decide) (fun c => ?_) (fun c => ?_)
  · rw [if_pos c] at hq
    refine e_iload_n 1 dJ9_max_7cf53_9 rfl ?_
    exact e_ireturn dJ9_max_7cf53_10 rfl ⟨_, rfl, hq⟩
  · rw [if_neg c] at hq
    refine e_iload_n 0 dJ9_max_7cf53_5 rfl ?_
    refine e_goto (tgt := 10) dJ9_max_7cf53_6 (by decide) ?_
    exact e_ireturn dJ9_max_7cf53_10 rfl ⟨_, rfl, hq⟩

def vJ9_min_7cf53  (x0 : Int) (x1 : Int) : Int := (if x1 < x0 then x1 else x0)
set_option maxRecDepth 100000 in
set_option maxHeartbeats 4000000 in
theorem sJ9_min_7cf53 {G : Gl} {S : Sh} {I : MI} {R : MR} {Q : Sh → MI → MR → Int → Prop} {x0 : Int} {x1 : Int} (hq : Q S I R (vJ9_min_7cf53 x0 x1)) : CI G MJ9_min_7cf53 [vI x0, vI x1] S I R Q := by
  show E G MJ9_min_7cf53 0 [(0, vI x0), (1, vI x1)] [] S I R (qI Q)
  unfold vJ9_min_7cf53 at hq
  refine e_iload_n 0 dJ9_min_7cf53_0 rfl ?_
  refine e_iload_n 1 dJ9_min_7cf53_1 rfl ?_
  refine e_icmp_gt (tgt := 9) dJ9_min_7cf53_2 (by decide) (fun c => ?_) (fun c => ?_)
  · rw [if_pos c] at hq
    refine e_iload_n 1 dJ9_min_7cf53_9 rfl ?_
    exact e_ireturn dJ9_min_7cf53_10 rfl ⟨_, rfl, hq⟩
  · rw [if_neg c] at hq
    refine e_iload_n 0 dJ9_min_7cf53_5 rfl ?_
    refine e_goto (tgt := 10) dJ9_min_7cf53_6 (by decide) ?_
    exact e_ireturn dJ9_min_7cf53_10 rfl ⟨_, rfl, hq⟩
