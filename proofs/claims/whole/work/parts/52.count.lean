theorem st_38 : StpC Inv 38 := by
  intro i G b L xs qo k n x4 M f hC hz hfl h0 h5 hk hM hi hI next
  refine go_law_3000 hC hz hk ?_
  unfold T_law_3000
  refine ok_X11_frames hfl (fun G1 h1 => go_X11_frames_0 h1 (fun z => ⟨z, fun z1 => ?_⟩))
  refine ok_X13_frames hfl (fun G2 h2 => go_X13_frames_0 h2 (fun z2 => ms_ok (Ct_fl h2) z2 (fun z3 => ⟨z3, fun z4 => ⟨z1, z4, fun _ => next k n _ f (by omega) (by omega) (inv_thr hI), fun hne => hne hI.fr.2.1⟩⟩)))
theorem st_40 : StpC Inv 40 := by
  intro i G b L xs qo k n x4 M f hC hz hfl h0 h5 hk hM hi hI next
  refine go_law_3026 hC hz hk ?_
  unfold T_law_3026
  refine ok_X11_kinds hfl (fun G1 h1 => go_X11_kinds_0 h1 (fun z => ⟨z, fun z1 => ?_⟩))
  refine ok_X13_kinds hfl (fun G2 h2 => go_X13_kinds_0 h2 (fun z2 => ms_ok (Ct_fl h2) z2 (fun z3 => ⟨z3, fun z4 => ⟨z1, z4, fun _ => next k n _ f (by omega) (by omega) (inv_thr hI), fun hne => hne hI.kd.1⟩⟩)))
theorem st_57 : StpC Inv 57 := by
  intro i G b L xs qo k n x4 M f hC hz hfl h0 h5 hk hM hi hI next
  refine go_law_3989 hC hz hk ?_
  unfold T_law_3989
  refine ok_X11_objects hfl (fun G1 h1 => go_X11_objects_0 h1 (fun z => ⟨z, fun z1 => ?_⟩))
  refine ok_X13_objects hfl (fun G2 h2 => go_X13_objects_0 h2 (fun z2 => ms_ok (Ct_fl h2) z2 (fun z3 => ⟨z3, fun z4 => ⟨z1, z4, fun _ => next k n _ f (by omega) (by omega) (inv_thr hI), fun hne => hne hI.ob.1.1⟩⟩)))
theorem st_61 : StpC Inv 61 := by
  intro i G b L xs qo k n x4 M f hC hz hfl h0 h5 hk hM hi hI next
  refine go_law_4041 hC hz hk ?_
  unfold T_law_4041
  refine ok_X11_made hfl (fun G1 h1 => go_X11_made_0 h1 (fun z => ⟨z, fun z1 => ?_⟩))
  refine ok_X13_made hfl (fun G2 h2 => go_X13_made_0 h2 (fun z2 => ms_ok (Ct_fl h2) z2 (fun z3 => ⟨z3, fun z4 => ⟨z1, z4, fun _ => next k n _ f (by omega) (by omega) (inv_thr hI), fun hne => hne hI.ob.2.2.1.1⟩⟩)))
theorem st_62 : StpC Inv 62 := by
  intro i G b L xs qo k n x4 M f hC hz hfl h0 h5 hk hM hi hI next
  refine go_law_4054 hC hz hk ?_
  unfold T_law_4054
  refine ok_X11_queued hfl (fun G1 h1 => go_X11_queued_0 h1 (fun z => ⟨z, fun z1 => ?_⟩))
  refine ok_X13_queued hfl (fun G2 h2 => go_X13_queued_0 h2 (fun z2 => ms_ok (Ct_fl h2) z2 (fun z3 => ⟨z3, fun z4 => ⟨z1, z4, fun _ => next k n _ f (by omega) (by omega) (inv_thr hI), fun hne => hne hI.li.1.1⟩⟩)))
theorem st_63 : StpC Inv 63 := by
  intro i G b L xs qo k n x4 M f hC hz hfl h0 h5 hk hM hi hI next
  refine go_law_4067 hC hz hk ?_
  unfold T_law_4067
  refine ok_X11_lasts hfl (fun G1 h1 => go_X11_lasts_0 h1 (fun z => ⟨z, fun z1 => ?_⟩))
  refine ok_X13_lasts hfl (fun G2 h2 => go_X13_lasts_0 h2 (fun z2 => ms_ok (Ct_fl h2) z2 (fun z3 => ⟨z3, fun z4 => ⟨z1, z4, fun _ => next k n _ f (by omega) (by omega) (inv_thr hI), fun hne => hne hI.li.2.1⟩⟩)))
theorem st_65 : StpC Inv 65 := by
  intro i G b L xs qo k n x4 M f hC hz hfl h0 h5 hk hM hi hI next
  refine go_law_4093 hC hz hk ?_
  unfold T_law_4093
  refine ok_X11_youngCollections hfl (fun G1 h1 => go_X11_youngCollections_0 h1 (fun z => ⟨z, fun z1 => ?_⟩))
  refine ok_X13_youngCollections hfl (fun G2 h2 => go_X13_youngCollections_0 h2 (fun z2 => ms_ok (Ct_fl h2) z2 (fun z3 => ⟨z3, fun z4 => ⟨z1, z4, fun _ => next k n _ f (by omega) (by omega) (inv_thr hI), fun hne => hne hI.co.2.1.1⟩⟩)))
theorem st_66 : StpC Inv 66 := by
  intro i G b L xs qo k n x4 M f hC hz hfl h0 h5 hk hM hi hI next
  refine go_law_4106 hC hz hk ?_
  unfold T_law_4106
  refine ok_X11_fullCollections hfl (fun G1 h1 => go_X11_fullCollections_0 h1 (fun z => ⟨z, fun z1 => ?_⟩))
  refine ok_X13_fullCollections hfl (fun G2 h2 => go_X13_fullCollections_0 h2 (fun z2 => ms_ok (Ct_fl h2) z2 (fun z3 => ⟨z3, fun z4 => ⟨z1, z4, fun _ => next k n _ f (by omega) (by omega) (inv_thr hI), fun hne => hne hI.co.2.2.1⟩⟩)))
theorem st_68 : StpC Inv 68 := by
  intro i G b L xs qo k n x4 M f hC hz hfl h0 h5 hk hM hi hI next
  refine go_law_4132 hC hz hk ?_
  unfold T_law_4132
  refine ok_X11_tenure hfl (fun G1 h1 => go_X11_tenure_0 h1 (fun z => ⟨z, fun z1 => ?_⟩))
  refine ok_X13_tenure hfl (fun G2 h2 => go_X13_tenure_0 h2 (fun z2 => ms_ok (Ct_fl h2) z2 (fun z3 => ⟨z3, fun z4 => ⟨z1, z4, fun _ => next k n _ f (by omega) (by omega) (inv_thr hI), fun hne => hne hI.co.1.1⟩⟩)))
theorem st_69 : StpC Inv 69 := by
  intro i G b L xs qo k n x4 M f hC hz hfl h0 h5 hk hM hi hI next
  refine go_law_4145 hC hz hk ?_
  unfold T_law_4145
  refine ok_X11_imageLength hfl (fun G1 h1 => go_X11_imageLength_0 h1 (fun z => ⟨z, fun z1 => ?_⟩))
  refine ok_X13_imageLength hfl (fun G2 h2 => go_X13_imageLength_0 h2 (fun z2 => ms_ok (Ct_fl h2) z2 (fun z3 => ⟨z3, fun z4 => ⟨z1, z4, fun _ => next k n _ f (by omega) (by omega) (inv_thr hI), fun hne => hne hI.im.1⟩⟩)))
