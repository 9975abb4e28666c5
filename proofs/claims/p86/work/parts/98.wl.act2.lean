/-! ===== an act is done alike ===== -/
section Act2
variable {B : WB} {l : Launch} {S S1 : Sh} {D D1 M M1 N N' : Mem} {c : SC} {i : Nat} {x : Int} {Q : Int → Sh → Mem → Mem → Prop}
theorem w_act (hl : l.stackTraces = false) (hE : Eq72 N M) (hI : Inv i N) (hR : SR N S D c) (hi : i ≤ 500) (hk : 1 ≤ N 72 1) (hq : AcQ i S N c Q) : OkU B l md_L_act [] 2202 40014 [.ref (ad B 0), rv (s_m c), .int (I x)] S D M (uA kZ Q) := by
  have hf := hI.fr.fs
  obtain ⟨e1, e2, e3, e4⟩ := top_f hR.f hf
  have hw := wd_b hf
  refine ok_L_act hl (fun G h => ?_)
  intro hS
  refine go_L_act_0 h Xs.rf ⟨⟨by decide, by decide⟩, w_mix (CtU_fl h) (fun r1 hr1 _ => ⟨smC hR.l, fun u hu => ?_⟩)⟩ hS
  have hu : u = s_fr c := hu.trans hR.l.2.2.2.1.1
  subst hu
  refine ⟨smC hR.l, fun z => ⟨⟨8, ia_fr hR.l, e2, by omega⟩, fun u hu => ?_⟩⟩
  subst hu
  refine ⟨⟨shD 6, _, ⟨6, _, e4, rfl⟩, by decide⟩, fun w hw2 => ?_⟩
  have hw2 : w = (wd N).toNat := hw2.trans (lnS_of e4)
  subst hw2
  rw [show (((wd N).toNat : Nat) : Int) = wd N by omega]
  refine fun z20 _ => ⟨⟨by decide, by decide⟩, w_below (CtU_fl h) (by omega) (by omega) (fun x5 p5 q5 _ => ?_)⟩
  refine fun z31 _ => ⟨⟨by decide, by decide⟩, w_below (CtU_fl h) (by omega) (by omega) (fun x6 p6 q6 _ => ?_)⟩
  refine fun z42 _ => ⟨⟨by decide, by decide⟩, w_below (CtU_fl h) (by omega) (by omega) (fun x7 p7 q7 _ => ?_)⟩
  refine fun z53 _ => ⟨⟨by decide, by decide⟩, w_below (CtU_fl h) (by omega) (by omega) (fun x8 p8 q8 _ => ?_)⟩
  refine ⟨⟨by decide, by decide⟩, w_below (CtU_fl h) (by omega) (by omega) (fun k _ _ zk => ?_)⟩
  have g5 : 0 ≤ x5 ∧ x5 < wd N := ⟨p5, q5⟩
  have g6 : 0 ≤ x6 ∧ x6 < wd N := ⟨p6, q6⟩
  have g7 : 0 ≤ x7 ∧ x7 < wd N := ⟨p7, q7⟩
  have g8 : 0 ≤ x8 ∧ x8 < 5040 := ⟨p8, q8⟩
  exact ⟨zk, fun _ => ac_1224 h hE hI hR hi hk hq g8, fun _ => ac_256 h hE hI hR hi hk hq g5 g8, fun _ => ac_256 h hE hI hR hi hk hq g5 g8, fun _ => ac_256 h hE hI hR hi hk hq g5 g8, fun _ => ac_290 h hE hI hR hi hk hq g5 g8, fun _ => ac_290 h hE hI hR hi hk hq g5 g8, fun _ => ac_338 h hE hI hR hi hk hq g5 g8, fun _ => ac_338 h hE hI hR hi hk hq g5 g8, fun _ => ac_372 h hE hI hR hi hk hq g5 g8, fun _ => ac_391 h hE hI hR hi hk hq g5 g8, fun _ => ac_422 h hE hI hR hi hk hq g5 g6 g8, fun _ => ac_422 h hE hI hR hi hk hq g5 g6 g8, fun _ => ac_438 h hE hI hR hi hk hq g5 g6 g8, fun _ => ac_438 h hE hI hR hi hk hq g5 g6 g8, fun _ => ac_454 h hE hI hR hi hk hq g5 g6, fun _ => ac_467 h hE hI hR hi hk hq g5 g8, fun _ => ac_484 h hE hI hR hi hk hq g5 g6 g8, fun _ => ac_484 h hE hI hR hi hk hq g5 g6 g8, fun _ => ac_484 h hE hI hR hi hk hq g5 g6 g8, fun _ => ac_484 h hE hI hR hi hk hq g5 g6 g8, fun _ => ac_484 h hE hI hR hi hk hq g5 g6 g8, fun _ => ac_541 h hE hI hR hi hk hq g5 g6 g8, fun _ => ac_541 h hE hI hR hi hk hq g5 g6 g8, fun _ => ac_541 h hE hI hR hi hk hq g5 g6 g8, fun _ => ac_594 h hE hI hR hi hk hq g5 g8, fun _ => ac_629 h hE hI hR hi hk hq g5 g8, fun _ => ac_676 h hE hI hR hi hk hq g5 g6, fun _ => ac_676 h hE hI hR hi hk hq g5 g6, fun _ => ac_695 h hE hI hR hi hk hq g5 g6 g8, fun _ => ac_742 h hE hI hR hi hk hq g5 g8, fun _ => ac_780 h hE hI hR hi hk hq g5 g8, fun _ => ac_797 h hE hI hR hi hk hq g5 g6 g7, fun _ => ac_797 h hE hI hR hi hk hq g5 g6 g7, fun _ => ac_797 h hE hI hR hi hk hq g5 g6 g7, fun _ => ac_819 h hE hI hR hi hk hq g5 g6 g7, fun _ => ac_841 h hE hI hR hi hk hq g5 g6 g8, fun _ => ac_883 h hE hI hR hi hk hq g5 g6, fun _ => ac_902 h hE hI hR hi hk hq g5 g6, fun _ => ac_921 h hE hI hR hi hk hq g5 g6, fun _ => ac_961 h hE hI hR hi hk hq g5 g8, fun _ => ac_1038 h hE hI hR hi hk hq g5 g8, fun _ => ac_1076 h hE hI hR hi hk hq g5 g8, fun _ => ac_1120 h hE hI hR hi hk hq g8, fun _ => ac_1182 h hE hI hR hi hk hq g8⟩
end Act2
