def zw__La_law : List (List Nat) := [[1015, 1016, 1001], [], [1017, 1018, 0], [], [4064, 4065, 1011], [], [4066, 4067, 0], [], [], [], [], [], [], [], [], [], [], [], [], [], [], [], [], [], [], [], [], [], [2085, 2086, 2087, 0], [], [], [], [], [], [], [4233, 4234, 4235, 0], [], [], [], [], [], [], [], [], [], [2089, 2090, 2091, 0], [], [], [], [], [], [], [5001, 5002, 5003, 0], [], [], [], [], [2093, 2094, 2095, 0], [], [5005, 5006, 5007, 0], [], [], [], [], [3036, 3037, 3038, 0], [], [5142, 5143, 5144, 0], [], [], [], [], [], [], [], [], [], [3040, 3041, 3042, 0], [], [], [], [], [], [], [6037, 6038, 6039, 0], [], [], [], [], [], [], [], [], [], [], [], [], [], [], [3114, 3115, 3116, 0], [], [], [], [], [], [], [], [], [], [], [], [5207, 5208, 5209, 0], [], [], [], [], [], [], [], [], [], [], [], [], [], [], [], [], [], [], [], [], [], [], [], [], [3122, 3123, 3124, 0], [], [], [], [], [], [], [], [], [], [], [], [], [], [], [], [], [], [], [], [], [], [5146, 5147, 5148, 0], [], [], [], [], [], [], [], [], [], [], [], [], [], [], [], [], [], [], [], [3141, 3142, 3143, 0], [], [], [], [], [], [], [], [], [], [], [], [], [], [], [], [], [5171, 5172, 5173, 0], [], [], [], [], [], [], [], [], [], [], [], [], [], [], [], [], [], [], [], [], [], [], [], [], [3146, 3147, 3148, 0], [], [], [], [], [], [], [], [], [], [], [], [], [], [], [], [], [], [], [], [], [], [5176, 5177, 5178, 0], [], [], [], [], [], [], [], [], [], [], [], [], [], [], [], [], [], [], [], [3157, 3158, 3159, 0], [], [], [], [], [], [], [], [], [], [], [], [], [], [], [], [], [5199, 5200, 5201, 0], [], [], [], [], [], [], [], [], [], [3162, 3163, 3164, 0], [], [], [], [], [], [], [6050, 6051, 6052, 0], [], [], [], [], [], [], [], [], [], [3174, 3175, 3176, 0], [], [], [], [], [], [], [6058, 6059, 6060, 0], [], [], [], [], [], [], [], [], [], [], [], [], [], [], [3182, 3183, 3184, 0], [], [], [], [], [], [], [], [], [], [], [], [6062, 6063, 6064, 0], [], [], [], [], [], [], [], [], [], [3186, 3187, 3188, 0], [], [], [], [], [], [], [6066, 6067, 6068, 0], [], [], [], [], [], [], [], [], [], [], [], [], [], [], [3190, 3191, 3192, 0], [], [], [], [], [], [], [], [], [], [], [], [6070, 6071, 6072, 0], [], [], [], [], [], [], [], [], [], [], [], [], [], [], [3201, 3202, 3203, 0], [], [], [], [], [], [], [], [], [], [], [], [5212, 5213, 5214, 0], [], [], [], [], [], [], [], [], [], [], [], [], [], [], [3209, 3210, 3211, 0], [], [], [], [], [], [], [], [], [], [], [], [6008, 6009, 6010, 0], [], [], [], [], [], [], [], [], [], [], [], [], [], [], [3213, 3214, 3215, 0], [], [], [], [], [], [], [], [], [], [], [], [6012, 6013, 6014, 0], [], [], [], [], [], [], [], [], [], [], [], [], [], [], [], [], [], [], [], [], [], [], [], [], [3217, 3218, 3219, 0], [], [], [], [], [], [], [], [], [], [], [], [], [], [], [], [], [], [], [], [], [], [6020, 6021, 6022, 0], [], [], [], [], [], [], [], [], [], [], [], [], [], [], [3229, 3230, 3231, 0], [], [], [], [], [], [], [], [], [], [], [], [6024, 6025, 6026, 0], [], [], [], [], [], [], [], [], [], [], [], [], [], [], [3236, 3237, 3238, 0], [], [], [], [], [], [], [], [], [], [], [], [6033, 6034, 6035, 0], [], [], [], [], [], [], [], [], [], [4004, 4005, 4006, 0], [], [], [], [], [], [], [6080, 6081, 6082, 0], [], [], [], [], [], [], [], [], [], [4018, 4019, 4020, 0], [], [], [], [], [], [], [6084, 6085, 6086, 0], [], [], [], [], [], [], [], [], [], [], [], [], [], [], [], [], [], [], [], [4022, 4023, 4024, 0], [], [], [], [], [], [], [], [], [], [], [], [], [], [], [], [], [6088, 6089, 6090, 0], [], [], [], [], [], [], [], [], [], [], [], [], [], [], [], [], [], [], [], [4036, 4037, 4038, 0], [], [], [], [], [], [], [], [], [], [], [], [], [], [], [], [], [6096, 6097, 6098, 0], [], [], [], [], [], [], [], [], [], [], [], [], [], [], [], [], [], [], [], [], [], [], [], [], [4048, 4049, 4050, 0], [], [], [], [], [], [], [], [], [], [], [], [], [], [], [], [], [], [], [], [], [], [6101, 6102, 6103, 0], [], [], [], [], [4052, 4053, 4054, 0], [], [6105, 6106, 6107, 0], [], [], [], [], [], [], [], [], [], [4056, 4057, 4058, 0], [], [], [], [], [], [], [6109, 6110, 6111, 0], [], [], [], [], [], [], []]
theorem zk_La_law_len : zc_La_law.length = zw__La_law.length := by decide +kernel
set_option maxRecDepth 100000 in
theorem zk_La_law_0 : (((zc_La_law.zip zw__La_law).drop 0).take 60).all (fun q => zck RL false cL_law q.1 q.2) = true := by decide +kernel
set_option maxRecDepth 100000 in
theorem zk_La_law_1 : (((zc_La_law.zip zw__La_law).drop 60).take 60).all (fun q => zck RL false cL_law q.1 q.2) = true := by decide +kernel
set_option maxRecDepth 100000 in
theorem zk_La_law_2 : (((zc_La_law.zip zw__La_law).drop 120).take 60).all (fun q => zck RL false cL_law q.1 q.2) = true := by decide +kernel
set_option maxRecDepth 100000 in
theorem zk_La_law_3 : (((zc_La_law.zip zw__La_law).drop 180).take 60).all (fun q => zck RL false cL_law q.1 q.2) = true := by decide +kernel
set_option maxRecDepth 100000 in
theorem zk_La_law_4 : (((zc_La_law.zip zw__La_law).drop 240).take 60).all (fun q => zck RL false cL_law q.1 q.2) = true := by decide +kernel
set_option maxRecDepth 100000 in
theorem zk_La_law_5 : (((zc_La_law.zip zw__La_law).drop 300).take 60).all (fun q => zck RL false cL_law q.1 q.2) = true := by decide +kernel
set_option maxRecDepth 100000 in
theorem zk_La_law_6 : (((zc_La_law.zip zw__La_law).drop 360).take 60).all (fun q => zck RL false cL_law q.1 q.2) = true := by decide +kernel
set_option maxRecDepth 100000 in
theorem zk_La_law_7 : (((zc_La_law.zip zw__La_law).drop 420).take 60).all (fun q => zck RL false cL_law q.1 q.2) = true := by decide +kernel
set_option maxRecDepth 100000 in
theorem zk_La_law_8 : (((zc_La_law.zip zw__La_law).drop 480).take 60).all (fun q => zck RL false cL_law q.1 q.2) = true := by decide +kernel
set_option maxRecDepth 100000 in
theorem zk_La_law_9 : (((zc_La_law.zip zw__La_law).drop 540).take 60).all (fun q => zck RL false cL_law q.1 q.2) = true := by decide +kernel
set_option maxRecDepth 100000 in
theorem zk_La_law_10 : (((zc_La_law.zip zw__La_law).drop 600).take 60).all (fun q => zck RL false cL_law q.1 q.2) = true := by decide +kernel
set_option maxRecDepth 100000 in
theorem zk_La_law_11 : (((zc_La_law.zip zw__La_law).drop 660).take 60).all (fun q => zck RL false cL_law q.1 q.2) = true := by decide +kernel
set_option maxRecDepth 100000 in
theorem zk_La_law_12 : (((zc_La_law.zip zw__La_law).drop 720).take 60).all (fun q => zck RL false cL_law q.1 q.2) = true := by decide +kernel
theorem zall_cut {α : Type} {f : α → Bool} {l : List α} (a n : Nat) (h1 : ((l.drop a).take n).all f = true) (h2 : (l.drop (a + n)).all f = true) : (l.drop a).all f = true := by
  have e : l.drop a = (l.drop a).take n ++ l.drop (a + n) := by
    rw [← List.drop_drop]; exact (List.take_append_drop n (l.drop a)).symm
  rw [e, List.all_append, h1, h2]; rfl
theorem zk_La_law : zc_La_law.length = zw__La_law.length ∧ (zc_La_law.zip zw__La_law).all (fun q => zck RL false cL_law q.1 q.2) = true := by
  refine ⟨zk_La_law_len, ?_⟩
  refine zall_cut 0 60 zk_La_law_0 ?_
  refine zall_cut 60 60 zk_La_law_1 ?_
  refine zall_cut 120 60 zk_La_law_2 ?_
  refine zall_cut 180 60 zk_La_law_3 ?_
  refine zall_cut 240 60 zk_La_law_4 ?_
  refine zall_cut 300 60 zk_La_law_5 ?_
  refine zall_cut 360 60 zk_La_law_6 ?_
  refine zall_cut 420 60 zk_La_law_7 ?_
  refine zall_cut 480 60 zk_La_law_8 ?_
  refine zall_cut 540 60 zk_La_law_9 ?_
  refine zall_cut 600 60 zk_La_law_10 ?_
  refine zall_cut 660 60 zk_La_law_11 ?_
  refine zall_cut 720 60 zk_La_law_12 ?_
  decide +kernel
