theorem sm_ok98_7 : sm_c98_7.all (fun r => av_chk sm_Ts sm_cl sm_fT sm_aT sm_ao sm_mt sm_m98 r.1 r.2) = true := by decide +kernel
